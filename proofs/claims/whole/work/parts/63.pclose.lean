/-! Closing a period. -/
theorem c_sub {c w : Nat} (hw : w < 1000000) : (w ≤ c ∧ nI c - nI w = nI (c - w)) ∨ (c < w ∧ nI c - nI w < 0) := by
  rcases Nat.lt_or_ge c w with h | h
  · exact Or.inr ⟨h, pk_sneg (by omega) h⟩
  · exact Or.inl ⟨h, pk_sub h⟩
theorem c_lo {c w : Nat} (hc : c < 1000000) (hw : w < 1000000) : (if (0 : Int32) < nI c - nI w then nI c - nI w else 0) = nI (c - w) := by
  rcases c_sub (c := c) hw with ⟨h, e⟩ | ⟨h, e⟩
  · rw [e]
    by_cases h2 : 0 < c - w
    · rw [if_pos (show (0 : Int32) < nI (c - w) from (lt_nI (a := 0) (by omega) (by omega)).mpr h2)]
    · rw [if_neg (show ¬ (0 : Int32) < nI (c - w) from fun q => h2 ((lt_nI (a := 0) (by omega) (by omega)).mp q)), show c - w = 0 by omega]; rfl
  · rw [if_neg (fa_of_lt e).2.2.1, show c - w = 0 by omega]; rfl
theorem m_lo {c w : Nat} (hc : c < 1000000) (hw : w < 1000000) {post : Int32 → Unit → Prop} (h : post (nI (c - w)) ()) : wp_X10_max 0 (nI c - nI w) post := by
  rcases c_sub (c := c) hw with ⟨h1, e⟩ | ⟨h1, e⟩
  · rw [e]
    refine ⟨fun _ => h, fun q => absurd ((le_nI (a := 0) (by omega) (by omega)).mpr (Nat.zero_le _)) q⟩
  · refine ⟨fun q => absurd q (fa_of_lt e).2.1, fun _ => ?_⟩
    rw [show c - w = 0 by omega] at h; exact h
theorem c_min {a b : Nat} (ha : a < 2147483648) (hb : b < 2147483648) : (if nI a < nI b then nI a else nI b) = nI (min a b) := by
  by_cases h : a < b
  · rw [if_pos ((lt_nI ha hb).mpr h), Nat.min_eq_left (by omega)]
  · rw [if_neg (fun q => h ((lt_nI ha hb).mp q)), Nat.min_eq_right (by omega)]
theorem m_min {a b : Nat} (ha : a < 2147483648) (hb : b < 2147483648) {post : Int32 → Unit → Prop} (h : post (nI (min a b)) ()) : wp_X10_min (nI a) (nI b) post := by
  refine ⟨fun q => ?_, fun q => ?_⟩
  · rw [le_nI hb ha] at q; rw [Nat.min_eq_right q] at h; exact h
  · rw [le_nI hb ha] at q; rw [Nat.min_eq_left (by omega)] at h; exact h
/-- the class's delivery out of the reserved capacity -/
def dlg (lo k : Nat) (v : (Nat → Int32) × Int32) : (Nat → Int32) × Int32 := (upd v.1 (lo + k) (v.1 (lo + k) - (if v.1 (lo + k) < v.2 then v.1 (lo + k) else v.2)), v.2 - (if v.1 (lo + k) < v.2 then v.1 (lo + k) else v.2))
theorem q_del (a : S_X0) (c lo cnt : Nat) (hc : c < 40) (hclk : a.1 = nI c) (hlo : lo + cnt = c + 1) (cap0 : Int32) (post : Int32 → S_X0 → Prop) (h : post (a.2.1 c - (fo (dlg lo) cnt (a.2.2.2.2.1, cap0)).2) (a.1, a.2.1, a.2.2.1, a.2.2.2.1, (fo (dlg lo) cnt (a.2.2.2.2.1, cap0)).1, a.2.2.2.2.2.1, a.2.2.2.2.2.2)) : ∃ m, zl (fun K st => j_X0_deliverReserved_21 K st.1 st.2.1 st.2.2 post) m (cap0, nI lo, a) := by
  refine zl_for (fun k v => (v.2, nI (lo + k), (a.1, a.2.1, a.2.2.1, a.2.2.2.1, v.1, a.2.2.2.2.2.1, a.2.2.2.2.2.2))) (dlg lo) cnt (a.2.2.2.2.1, cap0) rfl ?_ ?_
  · intro k hk K hK
    have hin : vp_in (nI (lo + k)) 40 := in_of (by omega) (by omega)
    refine ⟨fun h1 => ?_, fun _ => ⟨hin, fun x7 e7 => ⟨hin, fun x9 e9 => ⟨hin, fun x11 e11 x12 e12 => ?_⟩⟩⟩⟩
    · dsimp only at h1
      rw [hclk, lt_nI (by omega) (by omega)] at h1; omega
    · dsimp only at e7 e9 e11 e12 hK ⊢
      rw [cl_nI (by omega)] at e7 e9 ⊢
      subst e7 e9 e11 e12
      rw [ix_1]
      exact hK
  · intro K
    refine ⟨fun _ => ⟨?_, ?_⟩, fun h1 => ?_⟩
    · dsimp only
      rw [hclk]; exact in_of (by omega) (by omega)
    · dsimp only
      rw [hclk, cl_nI (by omega), ← hclk]; exact h
    · dsimp only at h1
      rw [hclk, lt_nI (by omega) (by omega)] at h1; omega
/-- the reference's -/
def dlh (lo k : Nat) (cap : Int32) (v : (Nat → Int32) × Int32) : (Nat → Int32) × Int32 := (upd v.1 (151 + 5 * (lo + k)) (v.1 (151 + 5 * (lo + k)) - (if cap - v.2 ≤ v.1 (151 + 5 * (lo + k)) then cap - v.2 else v.1 (151 + 5 * (lo + k)))), v.2 + (if cap - v.2 ≤ v.1 (151 + 5 * (lo + k)) then cap - v.2 else v.1 (151 + 5 * (lo + k))))
theorem m_minI {x y : Int32} {post : Int32 → Unit → Prop} (h : post (if y ≤ x then y else x) ()) : wp_X10_min x y post := by
  refine ⟨fun q => ?_, fun q => ?_⟩
  · rw [if_pos q] at h; exact h
  · rw [if_neg q] at h; exact h
theorem q_deliver (d : Nat → Int32) (p : Nat) (hp : p < 40) (y : Int32) (post : Int32 → (Nat → Int32) → Prop) (h : post (if y ≤ d (151 + 5 * p) then y else d (151 + 5 * p)) (upd d (151 + 5 * p) (d (151 + 5 * p) - (if y ≤ d (151 + 5 * p) then y else d (151 + 5 * p))))) : wp_X10_deliver d (nI p) y post := by
  have e : ((148 : Int32) + 5 * nI p + 3) = nI (151 + 5 * p) := by rw [ix_per, ix_3]; congr 1; omega
  have hin : vp_in (nI (151 + 5 * p)) 1728 := in_of (by omega) (by omega)
  unfold wp_X10_deliver wp_X10_period
  dsimp only
  rw [e]
  refine ⟨hin, m_minI ?_⟩
  refine ⟨hin, fun x9 e9 => ⟨hin, ?_⟩⟩
  rw [cl_nI (by omega)] at e9 ⊢
  rw [e9]
  exact h
theorem q_miss (d : Nat → Int32) (p : Nat) (hp : p < 40) (post : Int32 → (Nat → Int32) → Prop) (h : post (d (151 + 5 * p)) (upd (upd d (152 + 5 * p) (d (152 + 5 * p) + d (151 + 5 * p))) (151 + 5 * p) 0)) : wp_X10_miss d (nI p) post := by
  have e : ((148 : Int32) + 5 * nI p + 3) = nI (151 + 5 * p) := by rw [ix_per, ix_3]; congr 1; omega
  have e' : ((148 : Int32) + 5 * nI p + 4) = nI (152 + 5 * p) := by rw [ix_per, ix_4]; congr 1; omega
  have hin : vp_in (nI (151 + 5 * p)) 1728 := in_of (by omega) (by omega)
  have hin' : vp_in (nI (152 + 5 * p)) 1728 := in_of (by omega) (by omega)
  unfold wp_X10_miss wp_X10_period
  dsimp only
  rw [e, e']
  refine ⟨hin, fun x4 e4 => ⟨hin', fun x8 e8 => ⟨hin', ⟨hin, ?_⟩⟩⟩⟩
  rw [cl_nI (by omega)] at e4 e8 ⊢
  rw [cl_nI (by omega), e8, e4]
  exact h
theorem q_place (d : Nat → Int32) (p : Nat) (hp : p < 40) (y : Int32) (post : (Nat → Int32) → Prop) (h : post (upd (upd d (150 + 5 * p) y) (151 + 5 * p) y)) : wp_X10_place d (nI p) y post := by
  have e : ((148 : Int32) + 5 * nI p + 3) = nI (151 + 5 * p) := by rw [ix_per, ix_3]; congr 1; omega
  have e' : ((148 : Int32) + 5 * nI p + 2) = nI (150 + 5 * p) := by rw [ix_per, ix_2]; congr 1; omega
  unfold wp_X10_place wp_X10_period
  dsimp only
  rw [e, e']
  refine ⟨in_of (by omega) (by omega), in_of (by omega) (by omega), ?_⟩
  rw [cl_nI (by omega), cl_nI (by omega)]
  exact h
/-- what stands behind the reference's loop of deliveries -/
def mAfter (c : Nat) (at_ cap dv due : Int32) (d : Nat → Int32) (b : Nat → Int64) (post : (Nat → Int32) × (Nat → Int64) → Prop) : Prop := (due < 0 → j_X10_closeOne_109 (nI c) at_ cap dv 0 0 d b post) ∧ (¬ due < 0 → wp_X10_deliver d due (d 4) (fun r u => wp_X10_miss u due (fun r' u' => j_X10_closeOne_109 (nI c) at_ cap dv r r' u' b post)))
theorem q_mdel (d : Nat → Int32) (b : Nat → Int64) (c lo cnt : Nat) (hc : c < 40) (hlo : lo + cnt = c + 1) (at_ cap due : Int32) (post : (Nat → Int32) × (Nat → Int64) → Prop) (h : mAfter c at_ cap (fo (fun k v => dlh lo k cap v) cnt (d, 0)).2 due (fo (fun k v => dlh lo k cap v) cnt (d, 0)).1 b post) : ∃ m, zl (fun K st => j_X10_closeOne_57 K st.1 st.2.1 st.2.2.1 st.2.2.2.1 st.2.2.2.2.1 st.2.2.2.2.2.1 st.2.2.2.2.2.2.1 st.2.2.2.2.2.2.2.1 st.2.2.2.2.2.2.2.2.1 st.2.2.2.2.2.2.2.2.2 post) m (nI c, at_, cap, (0 : Int32), (0 : Int32), (0 : Int32), due, nI lo, d, b) := by
  refine zl_for (fun k v => (nI c, at_, cap, v.2, (0 : Int32), (0 : Int32), due, nI (lo + k), v.1, b)) (fun k v => dlh lo k cap v) cnt (d, 0) rfl ?_ ?_
  · intro k hk K hK
    refine ⟨fun h1 => ?_, fun _ => ?_⟩
    · dsimp only at h1
      rw [lt_nI (by omega) (by omega)] at h1; omega
    · dsimp only
      refine q_deliver _ _ (by omega) _ _ ?_
      intro x22 e22 x23 e23
      subst e22 e23
      rw [ix_1]
      exact hK
  · intro K
    refine ⟨fun _ => h, fun h1 => ?_⟩
    dsimp only at h1
    rw [lt_nI (by omega) (by omega)] at h1; omega
theorem m_minE {a b : Nat} (ha : a < 2147483648) (hb : b < 2147483648) : (if nI b ≤ nI a then nI b else nI a) = nI (min a b) := by
  by_cases h : b ≤ a
  · rw [if_pos ((le_nI hb ha).mpr h), Nat.min_eq_right h]
  · rw [if_neg (fun q => h ((le_nI hb ha).mp q)), Nat.min_eq_left (by omega)]
def oB (n : Nat) (o : Nat → Int32) : Prop := ∀ p, p < n → lim (o p) 9999
theorem oB_upd {n : Nat} {o : Nat → Int32} (h : oB n o) (p : Nat) {x : Int32} (hx : lim x 9999) : oB n (upd o p x) := by
  intro q hq
  by_cases e : q = p
  · subst e; rw [upd_same]; exact hx
  · rw [upd_ne _ _ e]; exact h q hq
theorem p_del {n c lo cnt R0 : Nat} {a : S_X0} {d : Nat → Int32} (hn : n ≤ 40) (hc : c < n) (hR0 : R0 ≤ 9999) (hlo : lo + cnt = c + 1) (ra : rA n a d) (ba : oB n a.2.2.2.2.1) :
    ∃ (d' : Nat → Int32) (x : Nat), x ≤ R0 ∧ (fo (dlg lo) cnt (a.2.2.2.2.1, nI R0)).2 = nI (R0 - x) ∧ fo (fun k v => dlh lo k (nI R0) v) cnt (d, 0) = (d', nI x) ∧ rA n (a.1, a.2.1, a.2.2.1, a.2.2.2.1, (fo (dlg lo) cnt (a.2.2.2.2.1, nI R0)).1, a.2.2.2.2.2.1, a.2.2.2.2.2.2) d' ∧ ∀ i, ¬ (148 ≤ i ∧ i < 348) → d' i = d i := by
  have key := fo_rel (g := dlg lo) (h := fun k v => dlh lo k (nI R0) v) (fun _ v v' => ∃ x, x ≤ R0 ∧ v.2 = nI (R0 - x) ∧ v'.2 = nI x ∧ rA n (a.1, a.2.1, a.2.2.1, a.2.2.2.1, v.1, a.2.2.2.2.2.1, a.2.2.2.2.2.2) v'.1 ∧ oB n v.1 ∧ ∀ i, ¬ (148 ≤ i ∧ i < 348) → v'.1 i = d i) cnt (a.2.2.2.2.1, nI R0) (d, 0) ?_ ⟨0, by omega, rfl, rfl, ra, ba, fun i _ => rfl⟩
  · obtain ⟨x, h1, h2, h3, h4, h5, h6⟩ := key
    exact ⟨_, x, h1, h2, by rw [← h3], h4, h6⟩
  · intro k v v' hk hR
    obtain ⟨x, h1, h2, h3, h4, h5, h6⟩ := hR
    obtain ⟨o, dv⟩ := v'
    obtain ⟨op, cp⟩ := v
    dsimp only at h2 h3 h4 h5 h6
    subst h2 h3
    obtain ⟨q, hq, eq⟩ := h5 (lo + k) (by omega)
    have e4 := (h4.2 (lo + k) (by omega)).2.2.2.1
    dsimp only at eq e4
    have m1 : (if op (lo + k) < nI (R0 - x) then op (lo + k) else nI (R0 - x)) = nI (min q (R0 - x)) := by rw [eq]; exact c_min (by omega) (by omega)
    have m2 : (if nI R0 - nI x ≤ o (151 + 5 * (lo + k)) then nI R0 - nI x else o (151 + 5 * (lo + k))) = nI (min q (R0 - x)) := by rw [← e4, eq, pk_sub h1]; exact m_minE (by omega) (by omega)
    unfold dlg dlh
    dsimp only
    rw [m1, m2]
    have hm1 : min q (R0 - x) ≤ q := Nat.min_le_left _ _
    have hm2 : min q (R0 - x) ≤ R0 - x := Nat.min_le_right _ _
    generalize min q (R0 - x) = mn at hm1 hm2
    have e5 : op (lo + k) - nI mn = nI (q - mn) := by rw [eq]; exact pk_sub hm1
    rw [← e4, e5]
    refine ⟨x + mn, by omega, ?_, nI_add _ _, ?_, ?_, ?_⟩
    · rw [pk_sub hm2]; congr 1; omega
    · exact rA_open h4 (lo + k) (nI (q - mn))
    · exact oB_upd h5 (lo + k) ⟨q - mn, by omega, rfl⟩
    · intro i hi
      rw [upd_ne _ _ (by omega)]
      exact h6 i hi
theorem p_delC {n c lo cnt R0 : Nat} {o : Nat → Int32} (hc : c < n) (hR0 : R0 ≤ 9999) (hlo : lo + cnt = c + 1) (ba : oB n o) : ∃ x, x ≤ R0 ∧ (fo (dlg lo) cnt (o, nI R0)).2 = nI (R0 - x) ∧ oB n (fo (dlg lo) cnt (o, nI R0)).1 := by
  refine fo_inv (g := dlg lo) (fun _ v => ∃ x, x ≤ R0 ∧ v.2 = nI (R0 - x) ∧ oB n v.1) cnt (o, nI R0) ?_ ⟨0, by omega, rfl, ba⟩ cnt (Nat.le_refl _)
  intro k v hk hR
  obtain ⟨x, h1, h2, h5⟩ := hR
  obtain ⟨op, cp⟩ := v
  dsimp only at h2 h5
  subst h2
  obtain ⟨q, hq, eq⟩ := h5 (lo + k) (by omega)
  have m1 : (if op (lo + k) < nI (R0 - x) then op (lo + k) else nI (R0 - x)) = nI (min q (R0 - x)) := by rw [eq]; exact c_min (by omega) (by omega)
  unfold dlg
  dsimp only
  rw [m1]
  have hm1 : min q (R0 - x) ≤ q := Nat.min_le_left _ _
  have hm2 : min q (R0 - x) ≤ R0 - x := Nat.min_le_right _ _
  generalize min q (R0 - x) = mn at hm1 hm2
  have e5 : op (lo + k) - nI mn = nI (q - mn) := by rw [eq]; exact pk_sub hm1
  rw [e5]
  refine ⟨x + mn, by omega, ?_, ?_⟩
  · rw [pk_sub hm2]; congr 1; omega
  · exact oB_upd h5 (lo + k) ⟨q - mn, by omega, rfl⟩
/-- open units missed, in the class and in the reference -/
def mo (a : S_X0) (p : Nat) : S_X0 := (a.1, a.2.1, a.2.2.1, a.2.2.2.1, (upd a.2.2.2.2.1 p 0), (upd a.2.2.2.2.2.1 p (a.2.2.2.2.2.1 p + a.2.2.2.2.1 p)), a.2.2.2.2.2.2)
def mq (d : Nat → Int32) (p : Nat) : Nat → Int32 := upd (upd d (152 + 5 * p) (d (152 + 5 * p) + d (151 + 5 * p))) (151 + 5 * p) 0
theorem rA_mo {n p : Nat} {a : S_X0} {d : Nat → Int32} (h : rA n a d) (hp : p < n) : rA n (mo a p) (mq d p) := by
  obtain ⟨-, -, -, g3, g4⟩ := h.2 p hp
  unfold mq
  rw [← g3, ← g4]
  exact rA_open (rA_missed h p _) p 0
theorem oB_mo {n p : Nat} {a : S_X0} (h : oB n a.2.2.2.2.1) : oB n (mo a p).2.2.2.2.1 := oB_upd h p ⟨0, by omega, rfl⟩
theorem q_missOpen (a : S_X0) (p : Nat) (hp : p < 40) (post : Int32 → S_X0 → Prop) (h : post (a.2.2.2.2.1 p) (mo a p)) : wp_X0_missOpen a (nI p) post := by
  have hin : vp_in (nI p) 40 := in_of hp (by omega)
  refine ⟨hin, fun x2 e2 => ⟨hin, hin, fun x5 e5 => ⟨hin, ?_⟩⟩⟩
  rw [cl_nI (by omega)] at e2 e5 ⊢
  subst e2 e5
  exact h
theorem mq_out {d : Nat → Int32} {p i : Nat} (hp : p < 40) (h : ¬ (148 ≤ i ∧ i < 348)) : mq d p i = d i := by
  unfold mq
  rw [upd_ne _ _ (by omega), upd_ne _ _ (by omega)]
def mag (k : Nat) (v : Int32 × S_X0) : Int32 × S_X0 := (v.1 + v.2.2.2.2.2.1 k, mo v.2 k)
def mah (k : Nat) (v : Int32 × (Nat → Int32)) : Int32 × (Nat → Int32) := (v.1 + v.2 (151 + 5 * k), mq v.2 k)
theorem q_missAll (a : S_X0) (n : Nat) (hn : n ≤ 40) (post : Int32 → S_X0 → Prop) (h : post (fo mag n (0, a)).1 (fo mag n (0, a)).2) : wp_X0_missAllOpen a (nI n) post := by
  unfold wp_X0_missAllOpen
  refine zl_for (fun k v => (nI n, v.1, nI k, v.2)) mag n (0, a) rfl ?_ ?_
  · intro k hk K hK
    refine ⟨fun h1 => ?_, fun _ => ?_⟩
    · dsimp only at h1
      rw [le_nI (by omega) (by omega)] at h1; omega
    · refine q_missOpen _ _ (by omega) _ ?_
      intro x4 e4 x5 e5
      subst e4 e5
      rw [ix_1]
      exact hK
  · intro K
    refine ⟨fun _ => h, fun h1 => ?_⟩
    dsimp only at h1
    rw [le_nI (by omega) (by omega)] at h1; omega
/-- the class alone: nothing but open and missed changes, and the capacity isn't looked at -/
theorem p_missC {n : Nat} (a : S_X0) (ba : oB n a.2.2.2.2.1) : ∃ (s : Nat) (o ms : Nat → Int32), s ≤ 9999 * n ∧ oB n o ∧ ∀ f : Nat → Int32, fo mag n (0, (a.1, f, a.2.2.1, a.2.2.2.1, a.2.2.2.2.1, a.2.2.2.2.2.1, a.2.2.2.2.2.2)) = (nI s, (a.1, f, a.2.2.1, a.2.2.2.1, o, ms, a.2.2.2.2.2.2)) := by
  have key : ∀ k, k ≤ n → ∃ (s : Nat) (o ms : Nat → Int32), s ≤ 9999 * k ∧ oB n o ∧ ∀ f : Nat → Int32, fo mag k (0, (a.1, f, a.2.2.1, a.2.2.2.1, a.2.2.2.2.1, a.2.2.2.2.2.1, a.2.2.2.2.2.2)) = (nI s, (a.1, f, a.2.2.1, a.2.2.2.1, o, ms, a.2.2.2.2.2.2)) := by
    intro k
    induction k with
    | zero => intro _; exact ⟨0, a.2.2.2.2.1, a.2.2.2.2.2.1, by omega, ba, fun f => rfl⟩
    | succ k ih =>
      intro hk
      obtain ⟨s, o, ms, h1, h2, h3⟩ := ih (by omega)
      obtain ⟨q, hq, eq⟩ := h2 k (by omega)
      refine ⟨s + q, upd o k 0, upd ms k (ms k + nI q), by omega, oB_upd h2 k ⟨0, by omega, rfl⟩, fun f => ?_⟩
      show mag k (fo mag k (0, (a.1, f, a.2.2.1, a.2.2.2.1, a.2.2.2.2.1, a.2.2.2.2.2.1, a.2.2.2.2.2.2))) = _
      rw [h3 f]
      unfold mag mo
      dsimp only
      rw [eq, nI_add]
  exact key n (Nat.le_refl n)
theorem p_missR {n l0 : Nat} {a : S_X0} {d : Nat → Int32} (hn : n ≤ 40) (hl : l0 ≤ 9999) (ra : rA n a d) (ba : oB n a.2.2.2.2.1) : ∃ s, s ≤ 9999 * n ∧ (fo mag n (0, a)).1 = nI s ∧ (fo mah n (nI l0, d)).1 = nI (l0 + s) ∧ rA n (fo mag n (0, a)).2 (fo mah n (nI l0, d)).2 ∧ ∀ i, ¬ (148 ≤ i ∧ i < 348) → (fo mah n (nI l0, d)).2 i = d i := by
  have key := fo_rel (g := mag) (h := mah) (fun k v v' => ∃ s, s ≤ 9999 * k ∧ v.1 = nI s ∧ v'.1 = nI (l0 + s) ∧ rA n v.2 v'.2 ∧ oB n v.2.2.2.2.2.1 ∧ ∀ i, ¬ (148 ≤ i ∧ i < 348) → v'.2 i = d i) n (0, a) (nI l0, d) ?_ ⟨0, by omega, rfl, rfl, ra, ba, fun i _ => rfl⟩
  · obtain ⟨s, h1, h2, h3, h4, h5, h6⟩ := key
    exact ⟨s, h1, h2, h3, h4, h6⟩
  · intro k v v' hk hR
    obtain ⟨s, h1, h2, h3, h4, h5, h10⟩ := hR
    obtain ⟨q, hq, eq⟩ := h5 k (by omega)
    have e4 := (h4.2 k (by omega)).2.2.2.1
    refine ⟨s + q, by omega, ?_, ?_, rA_mo h4 hk, oB_mo h5, ?_⟩
    · show v.1 + v.2.2.2.2.2.1 k = _
      rw [h2, eq, nI_add]
    · show v'.1 + v'.2 (151 + 5 * k) = _
      rw [h3, ← e4, eq, nI_add]; congr 1; omega
    · intro i hi
      show mq v'.2 k i = _
      rw [mq_out (by omega) hi]; exact h10 i hi
