/-! Bands, penalties, breaches noted. -/
theorem bit_iff {t : S_X7} {k : Nat} (hk : k < 40) : (lg_cmp (((t.2.2.2.2.2.2.2.2.2.2.2.2.2.1.toUInt64 >>> ((nI k).toInt64.toUInt64 &&& Int64.toUInt64 63)).toInt64) &&& (1 : Int64)) (0 : Int64)) = 0 ↔ bnd t k = false := by
  obtain ⟨m, hm, e⟩ := wb_of t.2.2.2.2.2.2.2.2.2.2.2.2.2.1
  rw [lg_eq0]
  unfold bnd
  rw [e, wb_bit hm (by omega), wb_tn hm, Nat.testBit_eq_decide_div_mod_eq]
  rw [show (0 : Int64) = lN 0 from rfl, pk_lEQ (by omega) (by omega)]
  have h2 : m / 2 ^ k % 2 < 2 := Nat.mod_lt _ (by omega)
  constructor
  · intro h; rw [h]; decide
  · intro h
    have h3 := of_decide_eq_false h
    omega
theorem q_hasBand {t : S_X7} {k : Nat} (hk : k < 40) {post : Int32 → S_X7 → Prop} (h1 : bnd t k = false → post 0 t) (h2 : bnd t k = true → post 1 t) : wp_X7_hasBand t (nI k) post := by
  refine ⟨fun h => h1 ((bit_iff hk).mp h), fun h => h2 ?_⟩
  cases hb : bnd t k with
  | true => rfl
  | false => exact absurd ((bit_iff hk).mpr hb) h
theorem m1_0 : nI 0 + (-1 : Int32) = -1 := by decide +kernel
def bandL (f : Nat → Bool) : Nat → Int32
  | 0 => if f 0 then nI 0 else -1
  | k + 1 => if f (k + 1) then nI (k + 1) else bandL f k
theorem bandL_cong {f g : Nat → Bool} : ∀ k, (∀ j, j ≤ k → f j = g j) → bandL f k = bandL g k := by
  intro k
  induction k with
  | zero => intro h; unfold bandL; rw [h 0 (by omega)]
  | succ k ih => intro h; unfold bandL; rw [h (k + 1) (by omega), ih (fun j hj => h j (by omega))]
theorem bandL_is (f : Nat → Bool) : ∀ k, bandL f k = -1 ∨ ∃ j, j ≤ k ∧ f j = true ∧ bandL f k = nI j := by
  intro k
  induction k with
  | zero =>
    unfold bandL
    cases h : f 0 with
    | true => exact Or.inr ⟨0, by omega, h, rfl⟩
    | false => exact Or.inl rfl
  | succ k ih =>
    unfold bandL
    cases h : f (k + 1) with
    | true => exact Or.inr ⟨k + 1, by omega, h, rfl⟩
    | false =>
      rcases ih with h1 | ⟨j, h1, h2, h3⟩
      · exact Or.inl h1
      · exact Or.inr ⟨j, by omega, h2, h3⟩
theorem q_bandLead {t : S_X7} {post : Int32 → S_X7 → Prop} : ∀ k, k < 40 → post (bandL (bnd t) k) t → ∃ m, zl (fun K st => j_X7_bandLead_2 K st.1 st.2 post) m (nI k, t) := by
  intro k
  induction k with
  | zero =>
    intro hk h
    unfold bandL at h
    cases hb : bnd t 0 with
    | true =>
      rw [hb] at h
      refine zl_exit (fun K => ⟨fun h1 => absurd h1 (nI_pos (by omega)), fun _ => q_hasBand hk (fun h2 => absurd hb (by rw [h2]; decide)) (fun _ => ⟨fun h2 => absurd h2 (by decide), fun _ => h⟩)⟩)
    | false =>
      rw [hb] at h
      refine zl_step (s' := ((-1 : Int32), t)) (fun K hK => ⟨fun h1 => absurd h1 (nI_pos (by omega)), fun _ => q_hasBand hk (fun _ => ⟨fun _ => ?_, fun h2 => absurd rfl h2⟩) (fun h2 => absurd hb (by rw [h2]; decide))⟩) (zl_exit (fun K => ⟨fun _ => h, fun h1 => absurd (show (-1 : Int32) < 0 by decide) h1⟩))
      intro x5 e5
      dsimp only at e5
      rw [m1_0] at e5
      subst e5
      exact hK
  | succ k ih =>
    intro hk h
    unfold bandL at h
    cases hb : bnd t (k + 1) with
    | true =>
      rw [hb] at h
      refine zl_exit (fun K => ⟨fun h1 => absurd h1 (nI_pos (by omega)), fun _ => q_hasBand hk (fun h2 => absurd hb (by rw [h2]; decide)) (fun _ => ⟨fun h2 => absurd h2 (by decide), fun _ => h⟩)⟩)
    | false =>
      rw [hb] at h
      refine zl_step (s' := (nI k, t)) (fun K hK => ⟨fun h1 => absurd h1 (nI_pos (by omega)), fun _ => q_hasBand hk (fun _ => ⟨fun _ => ?_, fun h2 => absurd rfl h2⟩) (fun h2 => absurd hb (by rw [h2]; decide))⟩) (ih (by omega) h)
      intro x5 e5
      dsimp only at e5
      rw [pk_m1] at e5
      subst e5
      exact hK
def dbn (d : Nat → Int32) (k : Nat) : Bool := decide (d (16 + 3 * k) = 1)
theorem q_bandOf {u : S_X10} {post : Int32 → S_X10 → Prop} : ∀ k, k < 40 → post (bandL (dbn u.2.2.2.2.2.2.2.2.1) k) u → wp_X10_bandOf u (nI k) post := by
  intro k
  induction k with
  | zero =>
    intro hk h
    unfold bandL at h
    have hin : vp_in ((16 : Int32) + 3 * nI 0) 1728 := by rw [ix_ban]; exact in_of (by omega) (by omega)
    by_cases hb : u.2.2.2.2.2.2.2.2.1 16 = 1
    · rw [if_pos (show dbn u.2.2.2.2.2.2.2.2.1 0 = true from decide_eq_true hb)] at h
      refine zl_exit (fun K => ⟨fun h1 => absurd h1 (nI_pos (by omega)), fun _ => ⟨hin, fun h2 => ?_, fun _ => h⟩⟩)
      exact absurd hb h2
    · rw [if_neg (show ¬ dbn u.2.2.2.2.2.2.2.2.1 0 = true from fun q => hb (of_decide_eq_true q))] at h
      refine zl_step (s' := ((-1 : Int32), u)) (fun K hK => ⟨fun h1 => absurd h1 (nI_pos (by omega)), fun _ => ⟨hin, fun _ => ?_, fun h2 => absurd h2 hb⟩⟩) (zl_exit (fun K => ⟨fun _ => h, fun h1 => absurd (show (-1 : Int32) < 0 by decide) h1⟩))
      intro x6 e6
      dsimp only at e6
      rw [m1_0] at e6
      subst e6
      exact hK
  | succ k ih =>
    intro hk h
    unfold bandL at h
    have hin : vp_in ((16 : Int32) + 3 * nI (k + 1)) 1728 := by rw [ix_ban]; exact in_of (by omega) (by omega)
    have hcl : ((16 : Int32) + 3 * nI (k + 1)).toNatClampNeg = 16 + 3 * (k + 1) := by rw [ix_ban, cl_nI (by omega)]
    by_cases hb : u.2.2.2.2.2.2.2.2.1 (16 + 3 * (k + 1)) = 1
    · rw [if_pos (show dbn u.2.2.2.2.2.2.2.2.1 (k + 1) = true from decide_eq_true hb)] at h
      refine zl_exit (fun K => ⟨fun h1 => absurd h1 (nI_pos (by omega)), fun _ => ⟨hin, fun h2 => ?_, fun _ => h⟩⟩)
      dsimp only at h2
      rw [hcl] at h2
      exact absurd hb h2
    · rw [if_neg (show ¬ dbn u.2.2.2.2.2.2.2.2.1 (k + 1) = true from fun q => hb (of_decide_eq_true q))] at h
      refine zl_step (s' := (nI k, u)) (fun K hK => ⟨fun h1 => absurd h1 (nI_pos (by omega)), fun _ => ⟨hin, fun _ => ?_, fun h2 => ?_⟩⟩) (ih (by omega) h)
      · intro x6 e6
        dsimp only at e6
        rw [pk_m1] at e6
        subst e6
        exact hK
      · dsimp only at h2
        rw [hcl] at h2
        exact absurd h2 hb
theorem bandL_eq {t : S_X7} {d : Nat → Int32} (ht : rT t d) {k : Nat} (hk : k < 40) : bandL (dbn d) k = bandL (bnd t) k := by
  refine bandL_cong k (fun j hj => ?_)
  have h := (ht.2.1 j (by omega)).1
  unfold dbn
  cases hb : bnd t j with
  | true => exact decide_eq_true (h.mp hb)
  | false => exact decide_eq_false (fun q => by rw [h.mpr q] at hb; cases hb)
theorem P_bound {t : S_X7} {k : Nat} (hk : k < 40) (f : Int32) : ∃ s g : Int32, (∀ post : Int32 → S_X7 → Prop, post s t → wp_X7_smallest t (nI k) f post) ∧ (∀ post : Int32 → S_X7 → Prop, post g t → wp_X7_greatest t (nI k) f post) ∧ ∀ u : S_X10, rT t u.2.2.2.2.2.2.2.2.1 → (∀ post : Int32 → S_X10 → Prop, post s u → wp_X10_bound u (nI k) f 0 post) ∧ (∀ (p3 : Int32) (post : Int32 → S_X10 → Prop), ¬ p3 = 0 → post g u → wp_X10_bound u (nI k) f p3 post) := by
  rcases bandL_is (bnd t) k with h | ⟨j, hj, hbj, h⟩
  · have hneg : ¬ (0 : Int32) ≤ -1 := by decide
    refine ⟨0, 9999, ?_, ?_, ?_⟩
    · intro post hp
      exact q_bandLead k hk (by rw [h]; exact ⟨fun q => absurd q hneg, fun _ => hp⟩)
    · intro post hp
      exact q_bandLead k hk (by rw [h]; exact ⟨fun q => absurd q hneg, fun _ => hp⟩)
    · intro u ht
      have e := bandL_eq ht hk
      refine ⟨fun post hp => q_bandOf k hk ?_, fun p3 post h3 hp => q_bandOf k hk ?_⟩
      · rw [e, h]; exact ⟨fun q => absurd q hneg, fun _ => ⟨fun _ => hp, fun q => absurd rfl q⟩⟩
      · rw [e, h]; exact ⟨fun q => absurd q hneg, fun _ => ⟨fun q => absurd q h3, fun _ => hp⟩⟩
  · have hpos : (0 : Int32) ≤ nI j := nI_pos' (by omega)
    have hcl : (nI j).toNatClampNeg = j := cl_nI (by omega)
    refine ⟨f - (f * t.2.2.2.2.2.2.2.2.2.2.2.2.2.2.1 j) / 100, f + (f * t.2.2.2.2.2.2.2.2.2.2.2.2.2.2.2 j) / 100, ?_, ?_, ?_⟩
    · intro post hp
      exact q_bandLead k hk (by rw [h]; exact ⟨fun _ => ⟨in_of (by omega) (by omega), by rw [hcl]; exact hp⟩, fun q => absurd hpos q⟩)
    · intro post hp
      exact q_bandLead k hk (by rw [h]; exact ⟨fun _ => ⟨in_of (by omega) (by omega), by rw [hcl]; exact hp⟩, fun q => absurd hpos q⟩)
    · intro u ht
      have e := bandL_eq ht hk
      obtain ⟨hl, hh⟩ := (ht.2.1 j (by omega)).2 hbj
      have i1 : (16 : Int32) + 3 * nI j + 1 = nI (17 + 3 * j) := by rw [ix_ban, ix_1]; congr 1; omega
      have i2 : (16 : Int32) + 3 * nI j + 2 = nI (18 + 3 * j) := by rw [ix_ban, ix_2]; congr 1; omega
      refine ⟨fun post hp => q_bandOf k hk ?_, fun p3 post h3 hp => q_bandOf k hk ?_⟩
      · rw [e, h]
        refine ⟨fun _ => ⟨fun _ => ⟨by rw [i1]; exact in_of (by omega) (by omega), ?_⟩, fun q => absurd rfl q⟩, fun q => absurd hpos q⟩
        rw [i1, cl_nI (by omega), ← hl]; exact hp
      · rw [e, h]
        refine ⟨fun _ => ⟨fun q => absurd q h3, fun _ => ⟨by rw [i2]; exact in_of (by omega) (by omega), ?_⟩⟩, fun q => absurd hpos q⟩
        rw [i2, cl_nI (by omega), ← hh]; exact hp
theorem m_maxI {a b : Int32} {post : Int32 → Unit → Prop} (h : post (if a < b then b else a) ()) : wp_X10_max a b post := by
  refine ⟨fun q => ?_, fun q => ?_⟩
  · by_cases e : a = b
    · subst e
      rw [if_neg (fun q2 => by rw [fa_lt] at q2; omega)] at h; exact h
    · rw [if_pos (fa_le_ne q e)] at h; exact h
  · rw [if_neg (fun q2 => q (fa_of_lt q2).1)] at h; exact h
theorem P_excess {t : S_X7} {k : Nat} (hk : k < 40) (f q : Int32) : ∃ x : Int32, (∀ post : Int32 → S_X7 → Prop, post x t → wp_X7_excess t (nI k) f q post) ∧ ∀ u : S_X10, rT t u.2.2.2.2.2.2.2.2.1 → ∀ post : Int32 → S_X10 → Prop, post x u → wp_X10_excessOf u (nI k) f q post := by
  obtain ⟨s, g, h1, h2, h3⟩ := P_bound (t := t) hk f
  refine ⟨(if (0 : Int32) < (if s - q < q - g then q - g else s - q) then (if s - q < q - g then q - g else s - q) else 0), ?_, ?_⟩
  · intro post hp
    refine h1 _ ?_
    intro x3 e3
    refine h2 _ ?_
    intro x6 e6
    subst e3 e6
    exact hp
  · intro u ht post hp
    obtain ⟨h4, h5⟩ := h3 u ht
    refine h4 _ (h5 1 _ (by decide) (m_maxI (m_maxI ?_)))
    exact hp
/-- the price of a penalty, step by step -/
def prg (a b : Nat → Int32) (c : Int32) (k : Nat) (v : Int32) : Int32 := if c < a k then v else b k
theorem P_penalty {t : S_X7} (bt : bT t) (e : Int32) (f : Nat) (hf : f ≤ 9999) : ∃ r : Int32, (∀ post : Int32 → S_X7 → Prop, post r t → wp_X7_penalty t e (nI f) post) ∧ ∀ u : S_X10, rT t u.2.2.2.2.2.2.2.2.1 → ∀ post : Int32 → S_X10 → Prop, post r u → wp_X10_penaltyOf u e (nI f) post := by
  obtain ⟨s, hs, es⟩ := bt.2.2.2.2.2.2.2.2.2.2
  have key : ∀ c : Int32, (∀ post : Int32 → S_X7 → Prop, post (e * fo (prg t.2.2.2.2.2.2.2.2.2.2.2.1 t.2.2.2.2.2.2.2.2.2.2.2.2.1 c) s 0) t → j_X7_penalty_17 e c t post) ∧ ∀ u : S_X10, rT t u.2.2.2.2.2.2.2.2.1 → ∀ post : Int32 → S_X10 → Prop, post (e * fo (prg t.2.2.2.2.2.2.2.2.2.2.2.1 t.2.2.2.2.2.2.2.2.2.2.2.2.1 c) s 0) u → j_X10_penaltyOf_17 e c u post := by
    intro c
    constructor
    · intro post hp
      refine zl_for (fun k v => (e, c, v, nI k, t)) (prg t.2.2.2.2.2.2.2.2.2.2.2.1 t.2.2.2.2.2.2.2.2.2.2.2.2.1 c) s 0 rfl ?_ ?_
      · intro k hk K hK
        have hin : vp_in (nI k) 6 := in_of (by omega) (by omega)
        refine ⟨fun h => ?_, fun _ => ⟨hin, fun h => ?_, fun h => ⟨hin, fun x7 e7 => ?_⟩⟩⟩
        · dsimp only at h
          rw [es, le_nI (by omega) (by omega)] at h; omega
        · dsimp only at h ⊢
          rw [cl_nI (by omega)] at h
          intro x8 e8
          rw [ix_1] at e8
          subst e8
          unfold prg at hK
          rw [if_pos h] at hK
          exact hK
        · dsimp only at h e7 ⊢
          rw [cl_nI (by omega)] at h e7
          intro x8 e8
          rw [ix_1] at e8
          subst e7 e8
          unfold prg at hK
          rw [if_neg h] at hK
          exact hK
      · intro K
        refine ⟨fun _ => hp, fun h => ?_⟩
        dsimp only at h
        rw [es, le_nI (by omega) (by omega)] at h; omega
    · intro u ht post hp
      have hd : u.2.2.2.2.2.2.2.2.1 11 = nI s := by rw [← ht.1.2.2.2.2.2.2.2.2.2.2]; exact es
      refine zl_for (fun k v => (e, c, v, nI k, u)) (prg t.2.2.2.2.2.2.2.2.2.2.2.1 t.2.2.2.2.2.2.2.2.2.2.2.2.1 c) s 0 rfl ?_ ?_
      · intro k hk K hK
        obtain ⟨s1, s2⟩ := ht.2.2 k (by omega) (by rw [es]; exact nI_lt hk (by omega))
        have i1 : (136 : Int32) + 2 * nI k = nI (136 + 2 * k) := ix_ste k
        have i2 : (136 : Int32) + 2 * nI k + 1 = nI (137 + 2 * k) := by rw [ix_ste, ix_1]; congr 1; omega
        refine ⟨fun h => ?_, fun _ => ⟨?_, fun h => ?_, fun h => ⟨?_, ?_⟩⟩⟩
        · dsimp only at h
          rw [hd, le_nI (by omega) (by omega)] at h; omega
        · dsimp only
          rw [i1]; exact in_of (by omega) (by omega)
        · dsimp only at h ⊢
          rw [i1, cl_nI (by omega), ← s1] at h
          intro x7 e7
          rw [ix_1] at e7
          subst e7
          unfold prg at hK
          rw [if_pos h] at hK
          exact hK
        · dsimp only
          rw [i2]; exact in_of (by omega) (by omega)
        · dsimp only at h ⊢
          rw [i1, cl_nI (by omega), ← s1] at h
          rw [i2, cl_nI (by omega), ← s2]
          intro x7 e7
          rw [ix_1] at e7
          subst e7
          unfold prg at hK
          rw [if_neg h] at hK
          exact hK
      · intro K
        refine ⟨fun _ => hp, fun h => ?_⟩
        dsimp only at h
        rw [hd, le_nI (by omega) (by omega)] at h; omega
  by_cases h0 : f = 0
  · subst h0
    obtain ⟨k1, k2⟩ := key (e * 100)
    refine ⟨_, fun post hp => ⟨fun _ => k1 post hp, fun h => absurd (show nI 0 ≤ 0 by decide) h⟩, fun u ht post hp => ⟨fun h => absurd rfl h, fun _ => k2 u ht post hp⟩⟩
  · obtain ⟨k1, k2⟩ := key ((e * 100) / nI f)
    have hne : ¬ nI f = 0 := nI_ne0 (by omega) (by omega)
    refine ⟨_, fun post hp => ⟨fun h => absurd h (nI_nle (by omega) (by omega)), fun _ => ⟨hne, k1 post hp⟩⟩, fun u ht post hp => ⟨fun _ => ⟨hne, k2 u ht post hp⟩, fun h => absurd h hne⟩⟩
