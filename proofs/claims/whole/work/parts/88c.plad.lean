/-! The ladder. -/
def stI (t : S_X7) (i v : Nat) : Prop := t.2.2.2.2.2.2.2.2.2.2.1 = nI i ∧ i ≤ 6 ∧ (0 < i → t.2.2.2.2.2.2.2.2.2.2.2.1 (i - 1) = nI v ∧ v ≤ 999)
def loS (i v : Nat) : Nat := if i = 0 then 0 else v + 1
def beS (i v : Nat) : Int32 := if i = 0 then -1 else nI v
theorem loS_le {t : S_X7} {i v : Nat} (h : stI t i v) : loS i v ≤ 1000 := by
  unfold loS
  by_cases q : i = 0
  · rw [if_pos q]; omega
  · rw [if_neg q]; have := (h.2.2 (by omega)).2; omega
theorem beS_lt {t : S_X7} {i v d : Nat} (h : stI t i v) (hd : d ≤ 999) : beS i v < nI d ↔ loS i v ≤ d := by
  unfold beS loS
  by_cases q : i = 0
  · rw [if_pos q, if_pos q]
    refine ⟨fun _ => by omega, fun _ => ?_⟩
    rw [fa_lt, nI_toInt (by omega)]
    exact Int.lt_of_lt_of_le (by decide) (Int.natCast_nonneg d)
  · have := (h.2.2 (by omega)).2
    rw [if_neg q, if_neg q, lt_nI (by omega) (by omega)]
    omega
theorem c_step {x6 : S_X6} {x : S_X5} {t : S_X7} {a : S_X0} {br : S_X1} {i v : Nat} {post : S_X6 × S_X5 × S_X2 → Prop} (h : stI t i v) (hp : j_X6_readStep_43 (nI i) x.2.2.2.2.2.1 (nI (loS i v)) x6 x (t, a, br) post) : wp_X6_readStep x6 x (t, a, br) post := by
  obtain ⟨h1, h2, h3⟩ := h
  unfold wp_X6_readStep
  dsimp only
  rw [h1]
  refine ⟨fun q => ?_, fun q => ?_⟩
  · have hi : ¬ i = 0 := fun e => q (by rw [e]; rfl)
    obtain ⟨e1, e2⟩ := h3 (by omega)
    rw [show nI i - 1 = nI (i - 1) by rw [show (1 : Int32) = nI 1 from rfl, pk_sub (by omega)], cl_nI (by omega), e1, ix_1]
    unfold loS at hp
    rw [if_neg hi] at hp
    exact ⟨in_of (by omega) (by omega), hp⟩
  · have hi : i = 0 := (eq_nI (b := 0) (by omega) (by omega)).mp q
    unfold loS at hp
    rw [if_pos hi] at hp
    exact hp
theorem c_stepE {x6 : S_X6} {y : S_X5} {t : S_X7} {a : S_X0} {br : S_X1} {i : Nat} {e ae r x3 : Int32} (h : er y e ae) (hi : i ≤ 6) {Q : S_X6 × S_X5 × S_X2 → Prop} (hq : ∀ y' t', er y' e ae → Q (x6, y', (t', a, br))) : (nI i < (6 : Int32) → (vp_in (nI i) 6 ∧ (wp_X5_number y (0 : Int32) (999 : Int32) (fun r_8 u_7 => vp_in (nI i) 6 ∧ (∀ x_10 : Int32, x_10 = (t.2.2.2.2.2.2.2.2.2.2.1 + (1 : Int32)) → (Q (x6, u_7, ((t.1, t.2.1, t.2.2.1, t.2.2.2.1, t.2.2.2.2.1, t.2.2.2.2.2.1, t.2.2.2.2.2.2.1, t.2.2.2.2.2.2.2.1, t.2.2.2.2.2.2.2.2.1, t.2.2.2.2.2.2.2.2.2.1, x_10, (upd t.2.2.2.2.2.2.2.2.2.2.2.1 (nI i).toNatClampNeg r), (upd t.2.2.2.2.2.2.2.2.2.2.2.2.1 (nI i).toNatClampNeg r_8), t.2.2.2.2.2.2.2.2.2.2.2.2.2.1, t.2.2.2.2.2.2.2.2.2.2.2.2.2.2.1, t.2.2.2.2.2.2.2.2.2.2.2.2.2.2.2), a, br)))))))) ∧ (¬ (nI i < (6 : Int32)) → (wp_X5_fail y (-4 : Int32) x3 (fun u_11 => Q (x6, u_11, (t, a, br))))) := by
  refine ⟨fun q => ?_, fun _ => q_failE h (fun y' h' => hq y' t h')⟩
  have hi6 : i < 6 := (lt_nI (b := 6) (by omega) (by omega)).mp q
  exact ⟨in_of hi6 (by omega), e_number h (fun y' h' => ⟨in_of hi6 (by omega), fun x10 e10 => hq y' _ h'⟩)⟩
theorem x_lad {x6 : S_X6} {x : S_X5} {c : S_X2} {e ae : Int32} (h : er x e ae) (k : Int32) (post : S_X6 × S_X5 × S_X2 → Prop) (hp : post (x6, x, c)) : zl (fun K st => j_X6_readLadder_6 K st.1 st.2.1 st.2.2.1 st.2.2.2 post) 1 (k, x6, x, c) := ⟨fun _ => hp, fun _ => ⟨fun _ => hp, fun q => absurd (h.2.2.2.symm.trans q) (by decide)⟩⟩
theorem re_lad33 {K : Int32 × S_X10 → Prop} {r : Int32} {u : S_X10} (h : ¬ u.2.2.2.2.2.1 = 0) {post : S_X10 → Prop} (hp : post u) : j_X10_readLadder_33 K r u post := by
  have h55 : j_X10_readLadder_55 K r u post := re_number h (r_bad h ⟨fun q => absurd rfl q, fun _ => hp⟩)
  exact ⟨fun _ => h55, fun _ => r_reportE h h55⟩
theorem re_lad {K : Int32 × S_X10 → Prop} {r : Int32} {u : S_X10} (h : ¬ u.2.2.2.2.2.1 = 0) {post : S_X10 → Prop} (hp : post u) : j_X10_readLadder_2 K r u post := re_number h (r_bad h ⟨fun _ => re_lad33 h hp, fun q => absurd rfl q⟩)
theorem rT_step {t : S_X7} {D : Nat → Int32} (h : rT t D) {i : Nat} (hi : i < 6) (ht : t.2.2.2.2.2.2.2.2.2.2.1 = nI i) (x y : Int32) : rT (t.1, t.2.1, t.2.2.1, t.2.2.2.1, t.2.2.2.2.1, t.2.2.2.2.2.1, t.2.2.2.2.2.2.1, t.2.2.2.2.2.2.2.1, t.2.2.2.2.2.2.2.2.1, t.2.2.2.2.2.2.2.2.2.1, (nI (i + 1)), (upd t.2.2.2.2.2.2.2.2.2.2.2.1 i x), (upd t.2.2.2.2.2.2.2.2.2.2.2.2.1 i y), t.2.2.2.2.2.2.2.2.2.2.2.2.2.1, t.2.2.2.2.2.2.2.2.2.2.2.2.2.2.1, t.2.2.2.2.2.2.2.2.2.2.2.2.2.2.2) (upd (upd (upd D (136 + 2 * i) x) (137 + 2 * i) y) 11 (nI (i + 1))) := by
  obtain ⟨⟨h0, h2, h3, h4, h5, h6, h7, h8, h9, h10, h11⟩, hb, hs⟩ := h
  have hD : ∀ j, ¬ (j = 11 ∨ j = 136 + 2 * i ∨ j = 137 + 2 * i) → upd (upd (upd D (136 + 2 * i) x) (137 + 2 * i) y) 11 (nI (i + 1)) j = D j := by
    intro j hj
    rw [upd_ne _ _ (by omega), upd_ne _ _ (by omega), upd_ne _ _ (by omega)]
  refine ⟨⟨h0.trans (hD 0 (by omega)).symm, h2.trans (hD 2 (by omega)).symm, h3.trans (hD 3 (by omega)).symm, h4.trans (hD 4 (by omega)).symm, h5.trans (hD 5 (by omega)).symm, h6.trans (hD 6 (by omega)).symm, h7.trans (hD 7 (by omega)).symm, h8.trans (hD 8 (by omega)).symm, h9.trans (hD 9 (by omega)).symm, h10.trans (hD 10 (by omega)).symm, (upd_same _ _ _).symm⟩, fun k hk => ?_, fun k hk hl => ?_⟩
  · rw [hD _ (by omega), hD _ (by omega), hD _ (by omega)]
    exact hb k hk
  · dsimp only at hl
    rw [lt_nI (by omega) (by omega)] at hl
    by_cases e : k = i
    · subst e
      refine ⟨(upd_same _ _ _).trans ?_, (upd_same _ _ _).trans ?_⟩
      · rw [upd_ne _ _ (by omega), upd_ne _ _ (by omega), upd_same]
      · rw [upd_ne _ _ (by omega), upd_same]
    · rw [hD _ (by omega), hD _ (by omega)]
      obtain ⟨a1, a2⟩ := hs k hk (by rw [ht, lt_nI (by omega) (by omega)]; omega)
      exact ⟨(upd_ne _ _ e).trans a1, (upd_ne _ _ e).trans a2⟩
def dL (D D' : Nat → Int32) : Prop := ∀ i, ¬ (i = 11 ∨ (136 ≤ i ∧ i < 148)) → D' i = D i
section
variable {T B : Nat → Int32} {n : Nat}
theorem P_lad (hT : tx T B n) (x6 : S_X6) (a : S_X0) (br : S_X1) : ∀ (j i q v : Nat) (t : S_X7), i + j = 6 → q ≤ n → stI t i v →
    (∃ e ae, ¬ e = 0 ∧ (∃ m, ∀ (x : S_X5) (post Q : S_X6 × S_X5 × S_X2 → Prop), tk T n q x → (∀ x' t', er x' e ae → post (x6, x', (t', a, br))) → (∀ w : S_X6 × S_X5 × S_X2, zl (fun K st => j_X6_readLadder_6 K st.1 st.2.1 st.2.2.1 st.2.2.2 post) m (nI i, w.1, w.2.1, w.2.2) → Q w) → wp_X6_readStep x6 x (t, a, br) Q) ∧ ∃ m, ∀ (u : S_X10) (p : Nat) (post : S_X10 → Prop), gu T B n u p q → rT t u.2.2.2.2.2.2.2.2.2.1 → (∀ u', mF u u' → u'.2.2.2.2.2.1 = e → u'.2.2.2.2.2.2.1 = ae → post u') → zl (fun K st => j_X10_readLadder_2 K st.1 st.2 post) m (beS i v, u)) ∨
    ∃ e t', q < e ∧ e ≤ n ∧ ((bT t → bT t') ∧ t'.1 = t.1) ∧ (∃ m, ∀ (x : S_X5) (post Q : S_X6 × S_X5 × S_X2 → Prop), tk T n q x → (∀ x', tk T n (sk T n e) x' → post (x6, x', (t', a, br))) → (∀ w : S_X6 × S_X5 × S_X2, zl (fun K st => j_X6_readLadder_6 K st.1 st.2.1 st.2.2.1 st.2.2.2 post) m (nI i, w.1, w.2.1, w.2.2) → Q w) → wp_X6_readStep x6 x (t, a, br) Q) ∧ ∃ m, ∀ (u : S_X10) (p : Nat) (post : S_X10 → Prop), gu T B n u p q → rT t u.2.2.2.2.2.2.2.2.2.1 → (∀ u', mF u u' → u'.2.2.2.2.2.2.1 = u.2.2.2.2.2.2.1 → u'.2.2.2.2.2.2.2.2.2.2.2.2.2.2.2.2.1 = u.2.2.2.2.2.2.2.2.2.2.2.2.2.2.2.2.1 → u'.2.2.2.2.2.2.2.2.2.2.2.2.2.2.2.1 = u.2.2.2.2.2.2.2.2.2.2.2.2.2.2.2.1 → gu T B n u' e (sk T n e) → rT t' u'.2.2.2.2.2.2.2.2.2.1 → dL u.2.2.2.2.2.2.2.2.2.1 u'.2.2.2.2.2.2.2.2.2.1 → post u') → zl (fun K st => j_X10_readLadder_2 K st.1 st.2 post) m (beS i v, u) := by

  intro j
  have hn8 := hT.1
  have hi6 : ∀ i, i ≤ 6 → (nI i < (6 : Int32) ↔ i < 6) := fun i hi => lt_nI (b := 6) (by omega) (by omega)
  induction j with
  | zero =>
    intro i q v t hij hqn hst
    have hi : i = 6 := by omega
    have hlo := loS_le hst
    cases hdg : Pd (bc T n q) with
    | false =>
      refine Or.inl ⟨-2, nI q, by decide, ⟨1, fun x post Q hx hp hq => ?_⟩, ⟨1, fun u p post hg hrt hps => ?_⟩⟩
      · exact c_step hst (g_number hT hx (lo := loS i v) (hi := 999) (by omega) (by omega) (fun _ y hz => c_stepE hz (by omega) (fun y' t' h' => hq _ (x_lad h' _ post (hp y' t' h')))) (fun q1 => absurd (hdg.symm.trans q1) (by decide)) (fun q1 => absurd (hdg.symm.trans q1) (by decide)))
      · obtain ⟨hu, h0, hpp, hpn, hsk⟩ := hg
        subst hsk
        refine zl_mk ?_
        show j_X10_readLadder_2 _ (beS i v) u post
        exact r_number hT hu h0 hpn hpp (lo := 0) (hi := 999) (by omega) (by omega) (fun _ => r_bad ne2 ⟨fun _ => re_lad33 ne2 (hps _ ⟨rfl, rfl, rfl, rfl, rfl, rfl, rfl⟩ rfl rfl), fun q1 => absurd rfl q1⟩) (fun q1 => absurd (hdg.symm.trans q1) (by decide)) (fun q1 => absurd (hdg.symm.trans q1) (by decide))
    | true =>
      by_cases hhi : nd T n q ≤ 999
      · by_cases hlow : loS i v ≤ nd T n q
        · skip
          refine Or.inl ⟨-4, nI q, by decide, ⟨1, fun x post Q hx hp hq => ?_⟩, ⟨1, fun u p post hg hrt hps => ?_⟩⟩
          · refine c_step hst (g_number hT hx (lo := loS i v) (hi := 999) (by omega) (by omega) (fun q1 => absurd (hdg.symm.trans q1) (by decide)) (fun _ q1 => absurd ⟨hlow, hhi⟩ q1) (fun _ _ _ y hy => ⟨fun q1 => absurd ((hi6 i (by omega)).mp q1) (by omega), fun _ => ?_⟩))
            rw [hx.2.2.2.2.1]
            exact q_fail0 hy.2.2.1 (by decide) (fun y' h' => hq _ (x_lad h' _ post (hp y' _ h')))
          · obtain ⟨hu, h0, hpp, hpn, hsk⟩ := hg
            subst hsk
            have h11 : u.2.2.2.2.2.2.2.2.2.1 11 = nI 6 := by rw [← hrt.1.2.2.2.2.2.2.2.2.2.2, hst.1, hi]
            refine zl_mk ?_
            show j_X10_readLadder_2 _ (beS i v) u post
            refine r_number hT hu h0 hpn hpp (lo := 0) (hi := 999) (by omega) (by omega) (fun q1 => absurd (hdg.symm.trans q1) (by decide)) (fun _ q1 => absurd ⟨by omega, hhi⟩ q1) (fun _ _ _ => ?_)
            refine r_good (u := (u.1, u.2.1, u.2.2.1, u.2.2.2.1, (nI (ru Pd T n (sk T n p))), u.2.2.2.2.2.1, u.2.2.2.2.2.2.1, u.2.2.2.2.2.2.2.1, u.2.2.2.2.2.2.2.2.1, u.2.2.2.2.2.2.2.2.2.1, u.2.2.2.2.2.2.2.2.2.2.1, u.2.2.2.2.2.2.2.2.2.2.2.1, u.2.2.2.2.2.2.2.2.2.2.2.2.1, u.2.2.2.2.2.2.2.2.2.2.2.2.2.1, (nI (sk T n p)), u.2.2.2.2.2.2.2.2.2.2.2.2.2.2.2.1, u.2.2.2.2.2.2.2.2.2.2.2.2.2.2.2.2.1, u.2.2.2.2.2.2.2.2.2.2.2.2.2.2.2.2.2.1, u.2.2.2.2.2.2.2.2.2.2.2.2.2.2.2.2.2.2.1, u.2.2.2.2.2.2.2.2.2.2.2.2.2.2.2.2.2.2.2.1, u.2.2.2.2.2.2.2.2.2.2.2.2.2.2.2.2.2.2.2.2.1, u.2.2.2.2.2.2.2.2.2.2.2.2.2.2.2.2.2.2.2.2.2)) h0 ⟨fun q1 => absurd q1 (by decide), fun _ => ⟨fun _ => ⟨fun q1 => absurd h11 q1, fun _ => ?_⟩, fun q1 => absurd ((beS_lt hst hhi).mpr hlow) q1⟩⟩
            exact r_report0 (u := (u.1, u.2.1, u.2.2.1, u.2.2.2.1, (nI (ru Pd T n (sk T n p))), u.2.2.2.2.2.1, u.2.2.2.2.2.2.1, u.2.2.2.2.2.2.2.1, u.2.2.2.2.2.2.2.2.1, u.2.2.2.2.2.2.2.2.2.1, u.2.2.2.2.2.2.2.2.2.2.1, u.2.2.2.2.2.2.2.2.2.2.2.1, u.2.2.2.2.2.2.2.2.2.2.2.2.1, u.2.2.2.2.2.2.2.2.2.2.2.2.2.1, (nI (sk T n p)), u.2.2.2.2.2.2.2.2.2.2.2.2.2.2.2.1, u.2.2.2.2.2.2.2.2.2.2.2.2.2.2.2.2.1, u.2.2.2.2.2.2.2.2.2.2.2.2.2.2.2.2.2.1, u.2.2.2.2.2.2.2.2.2.2.2.2.2.2.2.2.2.2.1, u.2.2.2.2.2.2.2.2.2.2.2.2.2.2.2.2.2.2.2.1, u.2.2.2.2.2.2.2.2.2.2.2.2.2.2.2.2.2.2.2.2.1, u.2.2.2.2.2.2.2.2.2.2.2.2.2.2.2.2.2.2.2.2.2)) h0 (re_number ne4 (r_bad ne4 ⟨fun q1 => absurd rfl q1, fun _ => hps _ ⟨rfl, rfl, rfl, rfl, rfl, rfl, rfl⟩ rfl rfl⟩))
        · refine Or.inl ⟨-3, nI q, by decide, ⟨1, fun x post Q hx hp hq => ?_⟩, ⟨1, fun u p post hg hrt hps => ?_⟩⟩
          · exact c_step hst (g_number hT hx (lo := loS i v) (hi := 999) (by omega) (by omega) (fun q1 => absurd (hdg.symm.trans q1) (by decide)) (fun _ _ y hz => c_stepE hz (by omega) (fun y' t' h' => hq _ (x_lad h' _ post (hp y' t' h')))) (fun _ q1 => absurd q1 hlow))
          · obtain ⟨hu, h0, hpp, hpn, hsk⟩ := hg
            subst hsk
            refine zl_mk ?_
            show j_X10_readLadder_2 _ (beS i v) u post
            refine r_number hT hu h0 hpn hpp (lo := 0) (hi := 999) (by omega) (by omega) (fun q1 => absurd (hdg.symm.trans q1) (by decide)) (fun _ q1 => absurd ⟨by omega, hhi⟩ q1) (fun _ _ _ => ?_)
            exact r_good (u := (u.1, u.2.1, u.2.2.1, u.2.2.2.1, (nI (ru Pd T n (sk T n p))), u.2.2.2.2.2.1, u.2.2.2.2.2.2.1, u.2.2.2.2.2.2.2.1, u.2.2.2.2.2.2.2.2.1, u.2.2.2.2.2.2.2.2.2.1, u.2.2.2.2.2.2.2.2.2.2.1, u.2.2.2.2.2.2.2.2.2.2.2.1, u.2.2.2.2.2.2.2.2.2.2.2.2.1, u.2.2.2.2.2.2.2.2.2.2.2.2.2.1, (nI (sk T n p)), u.2.2.2.2.2.2.2.2.2.2.2.2.2.2.2.1, u.2.2.2.2.2.2.2.2.2.2.2.2.2.2.2.2.1, u.2.2.2.2.2.2.2.2.2.2.2.2.2.2.2.2.2.1, u.2.2.2.2.2.2.2.2.2.2.2.2.2.2.2.2.2.2.1, u.2.2.2.2.2.2.2.2.2.2.2.2.2.2.2.2.2.2.2.1, u.2.2.2.2.2.2.2.2.2.2.2.2.2.2.2.2.2.2.2.2.1, u.2.2.2.2.2.2.2.2.2.2.2.2.2.2.2.2.2.2.2.2.2)) h0 ⟨fun q1 => absurd q1 (by decide), fun _ => ⟨fun q1 => absurd ((beS_lt hst hhi).mp q1) hlow, fun _ => r_report0 (u := (u.1, u.2.1, u.2.2.1, u.2.2.2.1, (nI (ru Pd T n (sk T n p))), u.2.2.2.2.2.1, u.2.2.2.2.2.2.1, u.2.2.2.2.2.2.2.1, u.2.2.2.2.2.2.2.2.1, u.2.2.2.2.2.2.2.2.2.1, u.2.2.2.2.2.2.2.2.2.2.1, u.2.2.2.2.2.2.2.2.2.2.2.1, u.2.2.2.2.2.2.2.2.2.2.2.2.1, u.2.2.2.2.2.2.2.2.2.2.2.2.2.1, (nI (sk T n p)), u.2.2.2.2.2.2.2.2.2.2.2.2.2.2.2.1, u.2.2.2.2.2.2.2.2.2.2.2.2.2.2.2.2.1, u.2.2.2.2.2.2.2.2.2.2.2.2.2.2.2.2.2.1, u.2.2.2.2.2.2.2.2.2.2.2.2.2.2.2.2.2.2.1, u.2.2.2.2.2.2.2.2.2.2.2.2.2.2.2.2.2.2.2.1, u.2.2.2.2.2.2.2.2.2.2.2.2.2.2.2.2.2.2.2.2.1, u.2.2.2.2.2.2.2.2.2.2.2.2.2.2.2.2.2.2.2.2.2)) h0 (re_lad33 ne3 (hps _ ⟨rfl, rfl, rfl, rfl, rfl, rfl, rfl⟩ rfl rfl))⟩⟩
      · refine Or.inl ⟨-3, nI q, by decide, ⟨1, fun x post Q hx hp hq => ?_⟩, ⟨1, fun u p post hg hrt hps => ?_⟩⟩
        · exact c_step hst (g_number hT hx (lo := loS i v) (hi := 999) (by omega) (by omega) (fun q1 => absurd (hdg.symm.trans q1) (by decide)) (fun _ _ y hz => c_stepE hz (by omega) (fun y' t' h' => hq _ (x_lad h' _ post (hp y' t' h')))) (fun _ _ q1 => absurd q1 hhi))
        · obtain ⟨hu, h0, hpp, hpn, hsk⟩ := hg
          subst hsk
          refine zl_mk ?_
          show j_X10_readLadder_2 _ (beS i v) u post
          exact r_number hT hu h0 hpn hpp (lo := 0) (hi := 999) (by omega) (by omega) (fun q1 => absurd (hdg.symm.trans q1) (by decide)) (fun _ _ => r_bad ne3 ⟨fun _ => re_lad33 ne3 (hps _ ⟨rfl, rfl, rfl, rfl, rfl, rfl, rfl⟩ rfl rfl), fun q1 => absurd rfl q1⟩) (fun _ _ q1 => absurd q1 hhi)
  | succ j ih =>
    intro i q v t hij hqn hst
    have hi : i < 6 := by omega
    have hlo := loS_le hst
    cases hdg : Pd (bc T n q) with
    | false =>
      refine Or.inl ⟨-2, nI q, by decide, ⟨1, fun x post Q hx hp hq => ?_⟩, ⟨1, fun u p post hg hrt hps => ?_⟩⟩
      · exact c_step hst (g_number hT hx (lo := loS i v) (hi := 999) (by omega) (by omega) (fun _ y hz => c_stepE hz (by omega) (fun y' t' h' => hq _ (x_lad h' _ post (hp y' t' h')))) (fun q1 => absurd (hdg.symm.trans q1) (by decide)) (fun q1 => absurd (hdg.symm.trans q1) (by decide)))
      · obtain ⟨hu, h0, hpp, hpn, hsk⟩ := hg
        subst hsk
        refine zl_mk ?_
        show j_X10_readLadder_2 _ (beS i v) u post
        exact r_number hT hu h0 hpn hpp (lo := 0) (hi := 999) (by omega) (by omega) (fun _ => r_bad ne2 ⟨fun _ => re_lad33 ne2 (hps _ ⟨rfl, rfl, rfl, rfl, rfl, rfl, rfl⟩ rfl rfl), fun q1 => absurd rfl q1⟩) (fun q1 => absurd (hdg.symm.trans q1) (by decide)) (fun q1 => absurd (hdg.symm.trans q1) (by decide))
    | true =>
      by_cases hhi : nd T n q ≤ 999
      · by_cases hlow : loS i v ≤ nd T n q
        · skip
          obtain ⟨eg1, eg2, eg3⟩ := dig_end hT hdg
          have hs1 := sk_le (T := T) (n := n) (p := ru Pd T n q) eg2
          have hcl : (nI i).toNatClampNeg = i := cl_nI (by omega)
          have hin : vp_in (nI i) 6 := in_of hi (by omega)
          have hccl : ∀ (x : S_X5) (Q : S_X6 × S_X5 × S_X2 → Prop), tk T n q x → (∀ y, tk T n (sk T n (ru Pd T n q)) y → wp_X5_number y (nI 0) (nI 999) (fun r_8 u_7 => vp_in (nI i) 6 ∧ (∀ x_10 : Int32, x_10 = (t.2.2.2.2.2.2.2.2.2.2.1 + (1 : Int32)) → Q (x6, u_7, ((t.1, t.2.1, t.2.2.1, t.2.2.2.1, t.2.2.2.2.1, t.2.2.2.2.2.1, t.2.2.2.2.2.2.1, t.2.2.2.2.2.2.2.1, t.2.2.2.2.2.2.2.2.1, t.2.2.2.2.2.2.2.2.2.1, x_10, (upd t.2.2.2.2.2.2.2.2.2.2.2.1 (nI i).toNatClampNeg (nI (nd T n q))), (upd t.2.2.2.2.2.2.2.2.2.2.2.2.1 (nI i).toNatClampNeg r_8), t.2.2.2.2.2.2.2.2.2.2.2.2.2.1, t.2.2.2.2.2.2.2.2.2.2.2.2.2.2.1, t.2.2.2.2.2.2.2.2.2.2.2.2.2.2.2), a, br))))) → wp_X6_readStep x6 x (t, a, br) Q := by
            intro x Q hx hQ
            exact c_step hst (g_number hT hx (lo := loS i v) (hi := 999) (by omega) (by omega) (fun q1 => absurd (hdg.symm.trans q1) (by decide)) (fun _ q1 => absurd ⟨hlow, hhi⟩ q1) (fun _ _ _ y hy => ⟨fun _ => ⟨hin, hQ y hy⟩, fun q1 => absurd ((hi6 i (by omega)).mpr hi) q1⟩))
          have hrcl : ∀ (K : Int32 × S_X10 → Prop) (u : S_X10) (p : Nat) (post : S_X10 → Prop), gu T B n u p q → rT t u.2.2.2.2.2.2.2.2.2.1 → j_X10_readLadder_55 K (nI (nd T n q)) (u.1, u.2.1, u.2.2.1, u.2.2.2.1, (nI (ru Pd T n q)), u.2.2.2.2.2.1, u.2.2.2.2.2.2.1, u.2.2.2.2.2.2.2.1, u.2.2.2.2.2.2.2.2.1, u.2.2.2.2.2.2.2.2.2.1, u.2.2.2.2.2.2.2.2.2.2.1, u.2.2.2.2.2.2.2.2.2.2.2.1, u.2.2.2.2.2.2.2.2.2.2.2.2.1, u.2.2.2.2.2.2.2.2.2.2.2.2.2.1, (nI q), u.2.2.2.2.2.2.2.2.2.2.2.2.2.2.2.1, u.2.2.2.2.2.2.2.2.2.2.2.2.2.2.2.2.1, u.2.2.2.2.2.2.2.2.2.2.2.2.2.2.2.2.2.1, u.2.2.2.2.2.2.2.2.2.2.2.2.2.2.2.2.2.2.1, u.2.2.2.2.2.2.2.2.2.2.2.2.2.2.2.2.2.2.2.1, u.2.2.2.2.2.2.2.2.2.2.2.2.2.2.2.2.2.2.2.2.1, u.2.2.2.2.2.2.2.2.2.2.2.2.2.2.2.2.2.2.2.2.2) post → j_X10_readLadder_2 K (beS i v) u post := by
            intro K u p post hg hrt hN
            obtain ⟨hu, h0, hpp, hpn, hsk⟩ := hg
            subst hsk
            have h11 : u.2.2.2.2.2.2.2.2.2.1 11 = nI i := by rw [← hrt.1.2.2.2.2.2.2.2.2.2.2, hst.1]
            have h11n : ¬ u.2.2.2.2.2.2.2.2.2.1 11 = (6 : Int32) := by rw [h11]; exact fun q1 => absurd ((eq_nI (b := 6) (by omega) (by omega)).mp q1) (by omega)
            refine r_number hT hu h0 hpn hpp (lo := 0) (hi := 999) (by omega) (by omega) (fun q1 => absurd (hdg.symm.trans q1) (by decide)) (fun _ q1 => absurd ⟨by omega, hhi⟩ q1) (fun _ _ _ => ?_)
            exact r_good (u := (u.1, u.2.1, u.2.2.1, u.2.2.2.1, (nI (ru Pd T n (sk T n p))), u.2.2.2.2.2.1, u.2.2.2.2.2.2.1, u.2.2.2.2.2.2.2.1, u.2.2.2.2.2.2.2.2.1, u.2.2.2.2.2.2.2.2.2.1, u.2.2.2.2.2.2.2.2.2.2.1, u.2.2.2.2.2.2.2.2.2.2.2.1, u.2.2.2.2.2.2.2.2.2.2.2.2.1, u.2.2.2.2.2.2.2.2.2.2.2.2.2.1, (nI (sk T n p)), u.2.2.2.2.2.2.2.2.2.2.2.2.2.2.2.1, u.2.2.2.2.2.2.2.2.2.2.2.2.2.2.2.2.1, u.2.2.2.2.2.2.2.2.2.2.2.2.2.2.2.2.2.1, u.2.2.2.2.2.2.2.2.2.2.2.2.2.2.2.2.2.2.1, u.2.2.2.2.2.2.2.2.2.2.2.2.2.2.2.2.2.2.2.1, u.2.2.2.2.2.2.2.2.2.2.2.2.2.2.2.2.2.2.2.2.1, u.2.2.2.2.2.2.2.2.2.2.2.2.2.2.2.2.2.2.2.2.2)) h0 ⟨fun q1 => absurd q1 (by decide), fun _ => ⟨fun _ => ⟨fun _ => hN, fun q1 => absurd q1 h11n⟩, fun q1 => absurd ((beS_lt hst hhi).mpr hlow) q1⟩⟩
          rcases P_num hT (q := sk T n (ru Pd T n q)) (lo := 0) (hi := 999) (by omega) (by omega) with ⟨e1, he1, c1, r1⟩ | ⟨e1, d1, dl1, dh1, f1, g1, c1, r1⟩
          · refine Or.inl ⟨e1, nI (sk T n (ru Pd T n q)), he1, ⟨1, fun x post Q hx hp hq => ?_⟩, ⟨1, fun u p post hg hrt hps => ?_⟩⟩
            · exact hccl x Q hx (fun y hy => c1 y _ hy (fun y2 h2 => ⟨hin, fun x10 e10 => hq _ (x_lad h2 _ post (hp y2 _ h2))⟩))
            · refine zl_mk ?_
              show j_X10_readLadder_2 _ (beS i v) u post
              refine hrcl _ u p post hg hrt ?_
              obtain ⟨hu, h0, hpp, hpn, hsk⟩ := hg
              exact r1 _ _ _ ⟨hu, h0, rfl, eg2, rfl⟩ (fun r u1 hf k1 k2 => r_bad (by rw [k1]; exact he1) ⟨fun q1 => absurd rfl q1, fun _ => hps _ hf k1 k2⟩)
          · have hs2 := sk_le (T := T) (n := n) (p := e1) g1
            have hst1 : stI (t.1, t.2.1, t.2.2.1, t.2.2.2.1, t.2.2.2.2.1, t.2.2.2.2.2.1, t.2.2.2.2.2.2.1, t.2.2.2.2.2.2.2.1, t.2.2.2.2.2.2.2.2.1, t.2.2.2.2.2.2.2.2.2.1, (nI (i + 1)), (upd t.2.2.2.2.2.2.2.2.2.2.2.1 i (nI (nd T n q))), (upd t.2.2.2.2.2.2.2.2.2.2.2.2.1 i (nI d1)), t.2.2.2.2.2.2.2.2.2.2.2.2.2.1, t.2.2.2.2.2.2.2.2.2.2.2.2.2.2.1, t.2.2.2.2.2.2.2.2.2.2.2.2.2.2.2) (i + 1) (nd T n q) := ⟨rfl, by omega, fun _ => ⟨upd_same _ _ _, hhi⟩⟩
            have hb_1 : bT t → bT (t.1, t.2.1, t.2.2.1, t.2.2.2.1, t.2.2.2.2.1, t.2.2.2.2.2.1, t.2.2.2.2.2.2.1, t.2.2.2.2.2.2.2.1, t.2.2.2.2.2.2.2.2.1, t.2.2.2.2.2.2.2.2.2.1, (nI (i + 1)), (upd t.2.2.2.2.2.2.2.2.2.2.2.1 i (nI (nd T n q))), (upd t.2.2.2.2.2.2.2.2.2.2.2.2.1 i (nI d1)), t.2.2.2.2.2.2.2.2.2.2.2.2.2.1, t.2.2.2.2.2.2.2.2.2.2.2.2.2.2.1, t.2.2.2.2.2.2.2.2.2.2.2.2.2.2.2) := fun h => ⟨h.1, h.2.1, h.2.2.1, h.2.2.2.1, h.2.2.2.2.1, h.2.2.2.2.2.1, h.2.2.2.2.2.2.1, h.2.2.2.2.2.2.2.1, h.2.2.2.2.2.2.2.2.1, h.2.2.2.2.2.2.2.2.2.1, ⟨i + 1, by omega, rfl⟩⟩
            have hcl2 : ∀ (x : S_X5) (Q : S_X6 × S_X5 × S_X2 → Prop), tk T n q x → (∀ y, tk T n (sk T n e1) y → Q (x6, y, ((t.1, t.2.1, t.2.2.1, t.2.2.2.1, t.2.2.2.2.1, t.2.2.2.2.2.1, t.2.2.2.2.2.2.1, t.2.2.2.2.2.2.2.1, t.2.2.2.2.2.2.2.2.1, t.2.2.2.2.2.2.2.2.2.1, (nI (i + 1)), (upd t.2.2.2.2.2.2.2.2.2.2.2.1 i (nI (nd T n q))), (upd t.2.2.2.2.2.2.2.2.2.2.2.2.1 i (nI d1)), t.2.2.2.2.2.2.2.2.2.2.2.2.2.1, t.2.2.2.2.2.2.2.2.2.2.2.2.2.2.1, t.2.2.2.2.2.2.2.2.2.2.2.2.2.2.2), a, br))) → wp_X6_readStep x6 x (t, a, br) Q := by
              intro x Q hx hQ
              refine hccl x Q hx (fun y hy => c1 y _ hy (fun y2 h2 => ⟨hin, fun x10 e10 => ?_⟩))
              rw [hst.1, ix_1] at e10
              subst e10
              rw [hcl]
              exact hQ y2 h2
            have hrf2 : ∀ (K : Int32 × S_X10 → Prop) (u : S_X10) (p : Nat) (post : S_X10 → Prop), gu T B n u p q → rT t u.2.2.2.2.2.2.2.2.2.1 → (Pd (bc T n (sk T n e1)) = true → K (nI (nd T n q), (u.1, u.2.1, u.2.2.1, u.2.2.2.1, (nI (sk T n e1)), u.2.2.2.2.2.1, u.2.2.2.2.2.2.1, u.2.2.2.2.2.2.2.1, u.2.2.2.2.2.2.2.2.1, (upd (upd (upd u.2.2.2.2.2.2.2.2.2.1 (136 + 2 * i) (nI (nd T n q))) (137 + 2 * i) (nI d1)) 11 (nI (i + 1))), u.2.2.2.2.2.2.2.2.2.2.1, u.2.2.2.2.2.2.2.2.2.2.2.1, u.2.2.2.2.2.2.2.2.2.2.2.2.1, u.2.2.2.2.2.2.2.2.2.2.2.2.2.1, (nI (sk T n (ru Pd T n q))), u.2.2.2.2.2.2.2.2.2.2.2.2.2.2.2.1, u.2.2.2.2.2.2.2.2.2.2.2.2.2.2.2.2.1, u.2.2.2.2.2.2.2.2.2.2.2.2.2.2.2.2.2.1, u.2.2.2.2.2.2.2.2.2.2.2.2.2.2.2.2.2.2.1, u.2.2.2.2.2.2.2.2.2.2.2.2.2.2.2.2.2.2.2.1, u.2.2.2.2.2.2.2.2.2.2.2.2.2.2.2.2.2.2.2.2.1, u.2.2.2.2.2.2.2.2.2.2.2.2.2.2.2.2.2.2.2.2.2))) → (Pd (bc T n (sk T n e1)) = false → post (u.1, u.2.1, u.2.2.1, u.2.2.2.1, (nI (sk T n e1)), u.2.2.2.2.2.1, u.2.2.2.2.2.2.1, u.2.2.2.2.2.2.2.1, u.2.2.2.2.2.2.2.2.1, (upd (upd (upd u.2.2.2.2.2.2.2.2.2.1 (136 + 2 * i) (nI (nd T n q))) (137 + 2 * i) (nI d1)) 11 (nI (i + 1))), u.2.2.2.2.2.2.2.2.2.2.1, u.2.2.2.2.2.2.2.2.2.2.2.1, u.2.2.2.2.2.2.2.2.2.2.2.2.1, u.2.2.2.2.2.2.2.2.2.2.2.2.2.1, (nI (sk T n (ru Pd T n q))), u.2.2.2.2.2.2.2.2.2.2.2.2.2.2.2.1, u.2.2.2.2.2.2.2.2.2.2.2.2.2.2.2.2.1, u.2.2.2.2.2.2.2.2.2.2.2.2.2.2.2.2.2.1, u.2.2.2.2.2.2.2.2.2.2.2.2.2.2.2.2.2.2.1, u.2.2.2.2.2.2.2.2.2.2.2.2.2.2.2.2.2.2.2.1, u.2.2.2.2.2.2.2.2.2.2.2.2.2.2.2.2.2.2.2.2.1, u.2.2.2.2.2.2.2.2.2.2.2.2.2.2.2.2.2.2.2.2.2)) → j_X10_readLadder_2 K (beS i v) u post := by
              intro K u p post hg hrt hK1 hK2
              refine hrcl K u p post hg hrt ?_
              obtain ⟨hu, h0, hpp, hpn, hsk⟩ := hg
              have h11 : u.2.2.2.2.2.2.2.2.2.1 11 = nI i := by rw [← hrt.1.2.2.2.2.2.2.2.2.2.2, hst.1]
              have i1 : (136 : Int32) + 2 * nI i = nI (136 + 2 * i) := ix_ste i
              have i2 : nI (136 + 2 * i) + 1 = nI (137 + 2 * i) := by rw [ix_1]; congr 1; omega
              refine r1 _ _ _ ⟨hu, h0, rfl, eg2, rfl⟩ (r_good (u := (u.1, u.2.1, u.2.2.1, u.2.2.2.1, (nI e1), u.2.2.2.2.2.1, u.2.2.2.2.2.2.1, u.2.2.2.2.2.2.2.1, u.2.2.2.2.2.2.2.2.1, u.2.2.2.2.2.2.2.2.2.1, u.2.2.2.2.2.2.2.2.2.2.1, u.2.2.2.2.2.2.2.2.2.2.2.1, u.2.2.2.2.2.2.2.2.2.2.2.2.1, u.2.2.2.2.2.2.2.2.2.2.2.2.2.1, (nI (sk T n (ru Pd T n q))), u.2.2.2.2.2.2.2.2.2.2.2.2.2.2.2.1, u.2.2.2.2.2.2.2.2.2.2.2.2.2.2.2.2.1, u.2.2.2.2.2.2.2.2.2.2.2.2.2.2.2.2.2.1, u.2.2.2.2.2.2.2.2.2.2.2.2.2.2.2.2.2.2.1, u.2.2.2.2.2.2.2.2.2.2.2.2.2.2.2.2.2.2.2.1, u.2.2.2.2.2.2.2.2.2.2.2.2.2.2.2.2.2.2.2.2.1, u.2.2.2.2.2.2.2.2.2.2.2.2.2.2.2.2.2.2.2.2.2)) h0 ⟨fun _ => ?_, fun q1 => absurd q1 (by decide)⟩)
              dsimp only
              rw [h11, i1, cl_nI (by omega), upd_ne u.2.2.2.2.2.2.2.2.2.1 _ (show 11 ≠ 136 + 2 * i by omega), h11, i1, i2, cl_nI (by omega), upd_ne _ _ (show 11 ≠ 137 + 2 * i by omega), upd_ne _ _ (show 11 ≠ 136 + 2 * i by omega), h11, ix_1]
              refine ⟨in_of (by omega) (by omega), in_of (by omega) (by omega), fun x19 e19 => ?_⟩
              subst e19
              refine q_next hT e1 g1 (u.1, u.2.1, u.2.2.1, u.2.2.2.1, (nI e1), u.2.2.2.2.2.1, u.2.2.2.2.2.2.1, u.2.2.2.2.2.2.2.1, u.2.2.2.2.2.2.2.2.1, (upd (upd (upd u.2.2.2.2.2.2.2.2.2.1 (136 + 2 * i) (nI (nd T n q))) (137 + 2 * i) (nI d1)) 11 (nI (i + 1))), u.2.2.2.2.2.2.2.2.2.2.1, u.2.2.2.2.2.2.2.2.2.2.2.1, u.2.2.2.2.2.2.2.2.2.2.2.2.1, u.2.2.2.2.2.2.2.2.2.2.2.2.2.1, (nI (sk T n (ru Pd T n q))), u.2.2.2.2.2.2.2.2.2.2.2.2.2.2.2.1, u.2.2.2.2.2.2.2.2.2.2.2.2.2.2.2.2.1, u.2.2.2.2.2.2.2.2.2.2.2.2.2.2.2.2.2.1, u.2.2.2.2.2.2.2.2.2.2.2.2.2.2.2.2.2.2.1, u.2.2.2.2.2.2.2.2.2.2.2.2.2.2.2.2.2.2.2.1, u.2.2.2.2.2.2.2.2.2.2.2.2.2.2.2.2.2.2.2.2.1, u.2.2.2.2.2.2.2.2.2.2.2.2.2.2.2.2.2.2.2.2.2) hu rfl (q_isDigit (bc_lt hT _) ?_)
              cases hd2 : Pd (bc T n (sk T n e1)) with
              | true => exact ⟨fun _ => hK1 hd2, fun q1 => absurd q1 (by decide)⟩
              | false => exact ⟨fun q1 => absurd rfl q1, fun _ => hK2 hd2⟩
            have hr_1 : ∀ u : S_X10, rT t u.2.2.2.2.2.2.2.2.2.1 → rT (t.1, t.2.1, t.2.2.1, t.2.2.2.1, t.2.2.2.2.1, t.2.2.2.2.2.1, t.2.2.2.2.2.2.1, t.2.2.2.2.2.2.2.1, t.2.2.2.2.2.2.2.2.1, t.2.2.2.2.2.2.2.2.2.1, (nI (i + 1)), (upd t.2.2.2.2.2.2.2.2.2.2.2.1 i (nI (nd T n q))), (upd t.2.2.2.2.2.2.2.2.2.2.2.2.1 i (nI d1)), t.2.2.2.2.2.2.2.2.2.2.2.2.2.1, t.2.2.2.2.2.2.2.2.2.2.2.2.2.2.1, t.2.2.2.2.2.2.2.2.2.2.2.2.2.2.2) (upd (upd (upd u.2.2.2.2.2.2.2.2.2.1 (136 + 2 * i) (nI (nd T n q))) (137 + 2 * i) (nI d1)) 11 (nI (i + 1))) := fun u h => rT_step h hi hst.1 _ _
            have hdL1 : ∀ u : S_X10, dL u.2.2.2.2.2.2.2.2.2.1 (upd (upd (upd u.2.2.2.2.2.2.2.2.2.1 (136 + 2 * i) (nI (nd T n q))) (137 + 2 * i) (nI d1)) 11 (nI (i + 1))) := by
              intro u k hk
              rw [upd_ne _ _ (by omega), upd_ne _ _ (by omega), upd_ne _ _ (by omega)]
            have h6i : ¬ (6 : Int32) ≤ nI i := fun q1 => by rw [show (6 : Int32) = nI 6 from rfl, le_nI (by omega) (by omega)] at q1; omega
            cases hd2 : Pd (bc T n (sk T n e1)) with
            | false =>
              have hss : sk T n (sk T n e1) = sk T n e1 := sk_sk g1
              refine Or.inr ⟨sk T n e1, (t.1, t.2.1, t.2.2.1, t.2.2.2.1, t.2.2.2.2.1, t.2.2.2.2.2.1, t.2.2.2.2.2.2.1, t.2.2.2.2.2.2.2.1, t.2.2.2.2.2.2.2.2.1, t.2.2.2.2.2.2.2.2.2.1, (nI (i + 1)), (upd t.2.2.2.2.2.2.2.2.2.2.2.1 i (nI (nd T n q))), (upd t.2.2.2.2.2.2.2.2.2.2.2.2.1 i (nI d1)), t.2.2.2.2.2.2.2.2.2.2.2.2.2.1, t.2.2.2.2.2.2.2.2.2.2.2.2.2.2.1, t.2.2.2.2.2.2.2.2.2.2.2.2.2.2.2), by omega, hs2.2, ⟨hb_1, rfl⟩, ⟨1, fun x post Q hx hp hq => ?_⟩, ⟨1, fun u p post hg hrt hps => ?_⟩⟩
              · refine hcl2 x Q hx (fun y hy => hq _ ?_)
                have hpp := hp y (by rw [hss]; exact hy)
                refine ⟨fun _ => hpp, fun _ => ⟨fun _ => hpp, fun q1 => ?_⟩⟩
                dsimp only at q1
                rw [hy.2.2.2.2.2.2.1, kd_dig (bc_lt hT _), hd2] at q1
                exact absurd q1 (by decide)
              · refine zl_mk ?_
                show j_X10_readLadder_2 _ (beS i v) u post
                refine hrf2 _ u p post hg hrt (fun q1 => absurd (hd2.symm.trans q1) (by decide)) (fun _ => ?_)
                obtain ⟨hu, h0, hpp, hpn, hsk⟩ := hg
                exact hps _ ⟨rfl, rfl, rfl, rfl, rfl, rfl, rfl⟩ rfl rfl rfl ⟨hu, h0, rfl, hs2.2, rfl⟩ (hr_1 u hrt) (hdL1 u)
            | true =>
              have hbe : beS (i + 1) (nd T n q) = nI (nd T n q) := by unfold beS; rw [if_neg (by omega)]
              have hKc : ∀ (m : Nat) (post : S_X6 × S_X5 × S_X2 → Prop) (y : S_X5), tk T n (sk T n e1) y → (∀ Q : S_X6 × S_X5 × S_X2 → Prop, (∀ w : S_X6 × S_X5 × S_X2, zl (fun K st => j_X6_readLadder_6 K st.1 st.2.1 st.2.2.1 st.2.2.2 post) m (nI (i + 1), w.1, w.2.1, w.2.2) → Q w) → wp_X6_readStep x6 y ((t.1, t.2.1, t.2.2.1, t.2.2.2.1, t.2.2.2.2.1, t.2.2.2.2.2.1, t.2.2.2.2.2.2.1, t.2.2.2.2.2.2.2.1, t.2.2.2.2.2.2.2.2.1, t.2.2.2.2.2.2.2.2.2.1, (nI (i + 1)), (upd t.2.2.2.2.2.2.2.2.2.2.2.1 i (nI (nd T n q))), (upd t.2.2.2.2.2.2.2.2.2.2.2.2.1 i (nI d1)), t.2.2.2.2.2.2.2.2.2.2.2.2.2.1, t.2.2.2.2.2.2.2.2.2.2.2.2.2.2.1, t.2.2.2.2.2.2.2.2.2.2.2.2.2.2.2), a, br) Q) → zl (fun K st => j_X6_readLadder_6 K st.1 st.2.1 st.2.2.1 st.2.2.2 post) (m + 1) (nI i, x6, y, ((t.1, t.2.1, t.2.2.1, t.2.2.2.1, t.2.2.2.2.1, t.2.2.2.2.2.1, t.2.2.2.2.2.2.1, t.2.2.2.2.2.2.2.1, t.2.2.2.2.2.2.2.2.1, t.2.2.2.2.2.2.2.2.2.1, (nI (i + 1)), (upd t.2.2.2.2.2.2.2.2.2.2.2.1 i (nI (nd T n q))), (upd t.2.2.2.2.2.2.2.2.2.2.2.2.1 i (nI d1)), t.2.2.2.2.2.2.2.2.2.2.2.2.2.1, t.2.2.2.2.2.2.2.2.2.2.2.2.2.2.1, t.2.2.2.2.2.2.2.2.2.2.2.2.2.2.2), a, br)) := by
                intro m post y hy hh
                refine ⟨fun q1 => absurd q1 h6i, fun _ => ⟨fun q1 => absurd ?_ q1, fun _ => hh _ (fun w hw x7 e7 => ?_)⟩⟩
                · dsimp only
                  rw [hy.2.2.2.2.2.2.1, kd_dig (bc_lt hT _)]; exact hd2
                · dsimp only at e7
                  rw [ix_1] at e7
                  subst e7
                  exact hw
              rcases ih (i + 1) (sk T n e1) (nd T n q) (t.1, t.2.1, t.2.2.1, t.2.2.2.1, t.2.2.2.2.1, t.2.2.2.2.2.1, t.2.2.2.2.2.2.1, t.2.2.2.2.2.2.2.1, t.2.2.2.2.2.2.2.2.1, t.2.2.2.2.2.2.2.2.2.1, (nI (i + 1)), (upd t.2.2.2.2.2.2.2.2.2.2.2.1 i (nI (nd T n q))), (upd t.2.2.2.2.2.2.2.2.2.2.2.2.1 i (nI d1)), t.2.2.2.2.2.2.2.2.2.2.2.2.2.1, t.2.2.2.2.2.2.2.2.2.2.2.2.2.2.1, t.2.2.2.2.2.2.2.2.2.2.2.2.2.2.2) (by omega) hs2.2 hst1 with ⟨e, ae, hea, ⟨m1, c2⟩, ⟨m2, r2⟩⟩ | ⟨e, t', k1, k2, k3, ⟨m1, c2⟩, ⟨m2, r2⟩⟩
              · refine Or.inl ⟨e, ae, hea, ⟨m1 + 1, fun x post Q hx hp hq => ?_⟩, ⟨m2 + 1, fun u p post hg hrt hps => ?_⟩⟩
                · exact hcl2 x Q hx (fun y hy => hq _ (hKc m1 post y hy (fun Q2 h2 => c2 y post Q2 hy hp h2)))
                · refine zl_mk ?_
                  show j_X10_readLadder_2 _ (beS i v) u post
                  refine hrf2 _ u p post hg hrt (fun _ => ?_) (fun q1 => absurd (hd2.symm.trans q1) (by decide))
                  obtain ⟨hu, h0, hpp, hpn, hsk⟩ := hg
                  rw [← hbe]
                  exact r2 _ (sk T n e1) post ⟨hu, h0, rfl, hs2.2, sk_sk g1⟩ (hr_1 u hrt) (fun u' hf g1 g2 => hps u' hf g1 g2)
              · refine Or.inr ⟨e, t', by omega, k2, ⟨fun h => k3.1 (hb_1 h), k3.2⟩, ⟨m1 + 1, fun x post Q hx hp hq => ?_⟩, ⟨m2 + 1, fun u p post hg hrt hps => ?_⟩⟩
                · exact hcl2 x Q hx (fun y hy => hq _ (hKc m1 post y hy (fun Q2 h2 => c2 y post Q2 hy hp h2)))
                · refine zl_mk ?_
                  show j_X10_readLadder_2 _ (beS i v) u post
                  refine hrf2 _ u p post hg hrt (fun _ => ?_) (fun q1 => absurd (hd2.symm.trans q1) (by decide))
                  obtain ⟨hu, h0, hpp, hpn, hsk⟩ := hg
                  rw [← hbe]
                  exact r2 _ (sk T n e1) post ⟨hu, h0, rfl, hs2.2, sk_sk g1⟩ (hr_1 u hrt) (fun u' hf g1 g2 g3 g4 g5 g6 => hps u' hf g1 g2 g3 g4 g5 (fun k hk => (g6 k hk).trans (hdL1 u k hk)))
        · refine Or.inl ⟨-3, nI q, by decide, ⟨1, fun x post Q hx hp hq => ?_⟩, ⟨1, fun u p post hg hrt hps => ?_⟩⟩
          · exact c_step hst (g_number hT hx (lo := loS i v) (hi := 999) (by omega) (by omega) (fun q1 => absurd (hdg.symm.trans q1) (by decide)) (fun _ _ y hz => c_stepE hz (by omega) (fun y' t' h' => hq _ (x_lad h' _ post (hp y' t' h')))) (fun _ q1 => absurd q1 hlow))
          · obtain ⟨hu, h0, hpp, hpn, hsk⟩ := hg
            subst hsk
            refine zl_mk ?_
            show j_X10_readLadder_2 _ (beS i v) u post
            refine r_number hT hu h0 hpn hpp (lo := 0) (hi := 999) (by omega) (by omega) (fun q1 => absurd (hdg.symm.trans q1) (by decide)) (fun _ q1 => absurd ⟨by omega, hhi⟩ q1) (fun _ _ _ => ?_)
            exact r_good (u := (u.1, u.2.1, u.2.2.1, u.2.2.2.1, (nI (ru Pd T n (sk T n p))), u.2.2.2.2.2.1, u.2.2.2.2.2.2.1, u.2.2.2.2.2.2.2.1, u.2.2.2.2.2.2.2.2.1, u.2.2.2.2.2.2.2.2.2.1, u.2.2.2.2.2.2.2.2.2.2.1, u.2.2.2.2.2.2.2.2.2.2.2.1, u.2.2.2.2.2.2.2.2.2.2.2.2.1, u.2.2.2.2.2.2.2.2.2.2.2.2.2.1, (nI (sk T n p)), u.2.2.2.2.2.2.2.2.2.2.2.2.2.2.2.1, u.2.2.2.2.2.2.2.2.2.2.2.2.2.2.2.2.1, u.2.2.2.2.2.2.2.2.2.2.2.2.2.2.2.2.2.1, u.2.2.2.2.2.2.2.2.2.2.2.2.2.2.2.2.2.2.1, u.2.2.2.2.2.2.2.2.2.2.2.2.2.2.2.2.2.2.2.1, u.2.2.2.2.2.2.2.2.2.2.2.2.2.2.2.2.2.2.2.2.1, u.2.2.2.2.2.2.2.2.2.2.2.2.2.2.2.2.2.2.2.2.2)) h0 ⟨fun q1 => absurd q1 (by decide), fun _ => ⟨fun q1 => absurd ((beS_lt hst hhi).mp q1) hlow, fun _ => r_report0 (u := (u.1, u.2.1, u.2.2.1, u.2.2.2.1, (nI (ru Pd T n (sk T n p))), u.2.2.2.2.2.1, u.2.2.2.2.2.2.1, u.2.2.2.2.2.2.2.1, u.2.2.2.2.2.2.2.2.1, u.2.2.2.2.2.2.2.2.2.1, u.2.2.2.2.2.2.2.2.2.2.1, u.2.2.2.2.2.2.2.2.2.2.2.1, u.2.2.2.2.2.2.2.2.2.2.2.2.1, u.2.2.2.2.2.2.2.2.2.2.2.2.2.1, (nI (sk T n p)), u.2.2.2.2.2.2.2.2.2.2.2.2.2.2.2.1, u.2.2.2.2.2.2.2.2.2.2.2.2.2.2.2.2.1, u.2.2.2.2.2.2.2.2.2.2.2.2.2.2.2.2.2.1, u.2.2.2.2.2.2.2.2.2.2.2.2.2.2.2.2.2.2.1, u.2.2.2.2.2.2.2.2.2.2.2.2.2.2.2.2.2.2.2.1, u.2.2.2.2.2.2.2.2.2.2.2.2.2.2.2.2.2.2.2.2.1, u.2.2.2.2.2.2.2.2.2.2.2.2.2.2.2.2.2.2.2.2.2)) h0 (re_lad33 ne3 (hps _ ⟨rfl, rfl, rfl, rfl, rfl, rfl, rfl⟩ rfl rfl))⟩⟩
      · refine Or.inl ⟨-3, nI q, by decide, ⟨1, fun x post Q hx hp hq => ?_⟩, ⟨1, fun u p post hg hrt hps => ?_⟩⟩
        · exact c_step hst (g_number hT hx (lo := loS i v) (hi := 999) (by omega) (by omega) (fun q1 => absurd (hdg.symm.trans q1) (by decide)) (fun _ _ y hz => c_stepE hz (by omega) (fun y' t' h' => hq _ (x_lad h' _ post (hp y' t' h')))) (fun _ _ q1 => absurd q1 hhi))
        · obtain ⟨hu, h0, hpp, hpn, hsk⟩ := hg
          subst hsk
          refine zl_mk ?_
          show j_X10_readLadder_2 _ (beS i v) u post
          exact r_number hT hu h0 hpn hpp (lo := 0) (hi := 999) (by omega) (by omega) (fun q1 => absurd (hdg.symm.trans q1) (by decide)) (fun _ _ => r_bad ne3 ⟨fun _ => re_lad33 ne3 (hps _ ⟨rfl, rfl, rfl, rfl, rfl, rfl, rfl⟩ rfl rfl), fun q1 => absurd rfl q1⟩) (fun _ _ q1 => absurd q1 hhi)

theorem P_ladder (hT : tx T B n) {q s : Nat} {da : Int32} {dm : DM} {t : S_X7} {a : S_X0} {br : S_X1} (hs : s < 128) (hst0 : s.testBit 1 = false → t.2.2.2.2.2.2.2.2.2.2.1 = 0) (hw : wd T n q (zsb 18)) : SX T B n q s da dm t a br := by
  have hn8 := hT.1
  have hle : q + (zsb 18).length ≤ n := (wd_let (w_ok 2 (by omega)) hw).2.2
  have hl0 : 0 < (zsb 18).length := (wOK_f (w_ok 2 (by omega))).1
  have hsk0 := sk_le (T := T) (n := n) (p := q + (zsb 18).length) hle
  cases hb : s.testBit 1 with
  | true =>
    refine Or.inl ⟨-2, nI q, by decide, fun x x3 post hx hp => ?_, fun u p post hr hps => ?_⟩
    · unfold wS
      refine c_stmt hT hx hs (fun w => absurd w (wd_ex (i := 2) (j := 0) (by omega) (by omega) (by omega) hw)) (fun w => absurd w (wd_ex (i := 2) (j := 1) (by omega) (by omega) (by omega) hw)) (fun _ q1 => absurd (hb.symm.trans q1) (by decide)) (fun w => absurd w (wd_ex (i := 2) (j := 3) (by omega) (by omega) (by omega) hw)) (fun w => absurd w (wd_ex (i := 2) (j := 4) (by omega) (by omega) (by omega) hw)) (fun w => absurd w (wd_ex (i := 2) (j := 5) (by omega) (by omega) (by omega) hw)) (fun w => absurd w (wd_ex (i := 2) (j := 6) (by omega) (by omega) (by omega) hw)) (fun w => absurd w (wd_ex (i := 2) (j := 7) (by omega) (by omega) (by omega) hw)) (fun _ _ _ _ _ _ _ _ x' h' => e_sign h' (by decide) (fun x2 h2 => hp _ h2 rfl))
    · obtain ⟨hg, hne, hse, hSI⟩ := hr
      refine r_stmt hT hg (fun w => absurd w (wd_ex (i := 2) (j := 0) (by omega) (by omega) (by omega) hw)) (fun w => absurd w (wd_ex (i := 2) (j := 1) (by omega) (by omega) (by omega) hw)) (fun _ => r_once1 (u := (u.1, u.2.1, u.2.2.1, u.2.2.2.1, (nI (q + (zsb 18).length)), u.2.2.2.2.2.1, u.2.2.2.2.2.2.1, u.2.2.2.2.2.2.2.1, u.2.2.2.2.2.2.2.2.1, u.2.2.2.2.2.2.2.2.2.1, u.2.2.2.2.2.2.2.2.2.2.1, u.2.2.2.2.2.2.2.2.2.2.2.1, u.2.2.2.2.2.2.2.2.2.2.2.2.1, u.2.2.2.2.2.2.2.2.2.2.2.2.2.1, u.2.2.2.2.2.2.2.2.2.2.2.2.2.2.1, u.2.2.2.2.2.2.2.2.2.2.2.2.2.2.2.1, u.2.2.2.2.2.2.2.2.2.2.2.2.2.2.2.2.1, u.2.2.2.2.2.2.2.2.2.2.2.2.2.2.2.2.2.1, u.2.2.2.2.2.2.2.2.2.2.2.2.2.2.2.2.2.2.1, u.2.2.2.2.2.2.2.2.2.2.2.2.2.2.2.2.2.2.2.1, u.2.2.2.2.2.2.2.2.2.2.2.2.2.2.2.2.2.2.2.2.1, u.2.2.2.2.2.2.2.2.2.2.2.2.2.2.2.2.2.2.2.2.2)) hs (by omega) hse hg.2.1 hb (fun y => ⟨1, re_lad ne2 (re_expect ne2 (hps _ ⟨rfl, rfl, rfl, rfl, rfl, rfl, rfl⟩ rfl rfl))⟩)) (fun w => absurd w (wd_ex (i := 2) (j := 3) (by omega) (by omega) (by omega) hw)) (fun w => absurd w (wd_ex (i := 2) (j := 4) (by omega) (by omega) (by omega) hw)) (fun w => absurd w (wd_ex (i := 2) (j := 5) (by omega) (by omega) (by omega) hw)) (fun w => absurd w (wd_ex (i := 2) (j := 6) (by omega) (by omega) (by omega) hw)) (fun w => absurd w (wd_ex (i := 2) (j := 7) (by omega) (by omega) (by omega) hw)) (fun n16 n17 n18 n19 n20 n21 n22 n23 => absurd hw n18)
  | false =>

    have hst : stI t 0 0 := ⟨hst0 hb, by omega, fun q1 => absurd q1 (by omega)⟩
    rcases P_lad hT (nI (s ||| 2 ^ 1), da) a br 6 0 (sk T n (q + (zsb 18).length)) 0 t (by omega) hsk0.2 hst with ⟨e, ae, hea, ⟨m1, c1⟩, ⟨m2, r1⟩⟩ | ⟨e, t', k1, k2, k3, ⟨m1, c1⟩, ⟨m2, r1⟩⟩
    · refine Or.inl ⟨e, ae, hea, fun x x3 post hx hp => ?_, fun u p post hr hps => ?_⟩
      · unfold wS
        refine c_stmt hT hx hs (fun w => absurd w (wd_ex (i := 2) (j := 0) (by omega) (by omega) (by omega) hw)) (fun w => absurd w (wd_ex (i := 2) (j := 1) (by omega) (by omega) (by omega) hw)) (fun _ _ x0 hx0 => c1 x0 _ _ hx0 (fun x9 t9 h9 => e_sign h9 (by decide) (fun x8 h8 => hp _ h8 rfl)) (fun w hw9 => ⟨m1, hw9⟩)) (fun w => absurd w (wd_ex (i := 2) (j := 3) (by omega) (by omega) (by omega) hw)) (fun w => absurd w (wd_ex (i := 2) (j := 4) (by omega) (by omega) (by omega) hw)) (fun w => absurd w (wd_ex (i := 2) (j := 5) (by omega) (by omega) (by omega) hw)) (fun w => absurd w (wd_ex (i := 2) (j := 6) (by omega) (by omega) (by omega) hw)) (fun w => absurd w (wd_ex (i := 2) (j := 7) (by omega) (by omega) (by omega) hw)) (fun n16 n17 n18 n19 n20 n21 n22 n23 => absurd (n18 hw) (by rw [hb]; decide))
      · obtain ⟨hg, hne, hse, hSI⟩ := hr
        obtain ⟨hu, h0, -, -, -⟩ := id hg
        refine r_stmt hT hg (fun w => absurd w (wd_ex (i := 2) (j := 0) (by omega) (by omega) (by omega) hw)) (fun w => absurd w (wd_ex (i := 2) (j := 1) (by omega) (by omega) (by omega) hw)) (fun _ => r_once0 (u := (u.1, u.2.1, u.2.2.1, u.2.2.2.1, (nI (q + (zsb 18).length)), u.2.2.2.2.2.1, u.2.2.2.2.2.2.1, u.2.2.2.2.2.2.2.1, u.2.2.2.2.2.2.2.2.1, u.2.2.2.2.2.2.2.2.2.1, u.2.2.2.2.2.2.2.2.2.2.1, u.2.2.2.2.2.2.2.2.2.2.2.1, u.2.2.2.2.2.2.2.2.2.2.2.2.1, u.2.2.2.2.2.2.2.2.2.2.2.2.2.1, u.2.2.2.2.2.2.2.2.2.2.2.2.2.2.1, u.2.2.2.2.2.2.2.2.2.2.2.2.2.2.2.1, u.2.2.2.2.2.2.2.2.2.2.2.2.2.2.2.2.1, u.2.2.2.2.2.2.2.2.2.2.2.2.2.2.2.2.2.1, u.2.2.2.2.2.2.2.2.2.2.2.2.2.2.2.2.2.2.1, u.2.2.2.2.2.2.2.2.2.2.2.2.2.2.2.2.2.2.2.1, u.2.2.2.2.2.2.2.2.2.2.2.2.2.2.2.2.2.2.2.2.1, u.2.2.2.2.2.2.2.2.2.2.2.2.2.2.2.2.2.2.2.2.2)) hs (by omega) hse hb (⟨m2, r1 (u.1, u.2.1, u.2.2.1, u.2.2.2.1, (nI (q + (zsb 18).length)), u.2.2.2.2.2.1, u.2.2.2.2.2.2.1, u.2.2.2.2.2.2.2.1, u.2.2.2.2.2.2.2.2.1, u.2.2.2.2.2.2.2.2.2.1, u.2.2.2.2.2.2.2.2.2.2.1, u.2.2.2.2.2.2.2.2.2.2.2.1, u.2.2.2.2.2.2.2.2.2.2.2.2.1, u.2.2.2.2.2.2.2.2.2.2.2.2.2.1, u.2.2.2.2.2.2.2.2.2.2.2.2.2.2.1, u.2.2.2.2.2.2.2.2.2.2.2.2.2.2.2.1, (nI (s ||| 2 ^ 1)), u.2.2.2.2.2.2.2.2.2.2.2.2.2.2.2.2.2.1, u.2.2.2.2.2.2.2.2.2.2.2.2.2.2.2.2.2.2.1, u.2.2.2.2.2.2.2.2.2.2.2.2.2.2.2.2.2.2.2.1, u.2.2.2.2.2.2.2.2.2.2.2.2.2.2.2.2.2.2.2.2.1, u.2.2.2.2.2.2.2.2.2.2.2.2.2.2.2.2.2.2.2.2.2) (q + (zsb 18).length) _ ⟨hu, h0, rfl, hle, rfl⟩ hSI.2.1 (fun u1 hf g1 g2 => re_expect (by rw [g1]; exact hea) (hps _ hf g1 g2))⟩)) (fun w => absurd w (wd_ex (i := 2) (j := 3) (by omega) (by omega) (by omega) hw)) (fun w => absurd w (wd_ex (i := 2) (j := 4) (by omega) (by omega) (by omega) hw)) (fun w => absurd w (wd_ex (i := 2) (j := 5) (by omega) (by omega) (by omega) hw)) (fun w => absurd w (wd_ex (i := 2) (j := 6) (by omega) (by omega) (by omega) hw)) (fun w => absurd w (wd_ex (i := 2) (j := 7) (by omega) (by omega) (by omega) hw)) (fun n16 n17 n18 n19 n20 n21 n22 n23 => absurd hw n18)
    · have hsk1 := sk_le (T := T) (n := n) (p := e) k2
      rcases P_semi hT (q := sk T n e) with ⟨cs1, rs1⟩ | ⟨hlt, cs1, rs1⟩
      · refine Or.inl ⟨-2, nI (sk T n e), by decide, fun x x3 post hx hp => ?_, fun u p post hr hps => ?_⟩
        · unfold wS
          refine c_stmt hT hx hs (fun w => absurd w (wd_ex (i := 2) (j := 0) (by omega) (by omega) (by omega) hw)) (fun w => absurd w (wd_ex (i := 2) (j := 1) (by omega) (by omega) (by omega) hw)) (fun _ _ x0 hx0 => c1 x0 _ _ hx0 (fun x9 h9 => cs1 x9 _ h9 (fun x8 h8 => hp _ h8 rfl)) (fun w hw9 => ⟨m1, hw9⟩)) (fun w => absurd w (wd_ex (i := 2) (j := 3) (by omega) (by omega) (by omega) hw)) (fun w => absurd w (wd_ex (i := 2) (j := 4) (by omega) (by omega) (by omega) hw)) (fun w => absurd w (wd_ex (i := 2) (j := 5) (by omega) (by omega) (by omega) hw)) (fun w => absurd w (wd_ex (i := 2) (j := 6) (by omega) (by omega) (by omega) hw)) (fun w => absurd w (wd_ex (i := 2) (j := 7) (by omega) (by omega) (by omega) hw)) (fun n16 n17 n18 n19 n20 n21 n22 n23 => absurd (n18 hw) (by rw [hb]; decide))
        · obtain ⟨hg, hne, hse, hSI⟩ := hr
          obtain ⟨hu, h0, -, -, -⟩ := id hg
          refine r_stmt hT hg (fun w => absurd w (wd_ex (i := 2) (j := 0) (by omega) (by omega) (by omega) hw)) (fun w => absurd w (wd_ex (i := 2) (j := 1) (by omega) (by omega) (by omega) hw)) (fun _ => r_once0 (u := (u.1, u.2.1, u.2.2.1, u.2.2.2.1, (nI (q + (zsb 18).length)), u.2.2.2.2.2.1, u.2.2.2.2.2.2.1, u.2.2.2.2.2.2.2.1, u.2.2.2.2.2.2.2.2.1, u.2.2.2.2.2.2.2.2.2.1, u.2.2.2.2.2.2.2.2.2.2.1, u.2.2.2.2.2.2.2.2.2.2.2.1, u.2.2.2.2.2.2.2.2.2.2.2.2.1, u.2.2.2.2.2.2.2.2.2.2.2.2.2.1, u.2.2.2.2.2.2.2.2.2.2.2.2.2.2.1, u.2.2.2.2.2.2.2.2.2.2.2.2.2.2.2.1, u.2.2.2.2.2.2.2.2.2.2.2.2.2.2.2.2.1, u.2.2.2.2.2.2.2.2.2.2.2.2.2.2.2.2.2.1, u.2.2.2.2.2.2.2.2.2.2.2.2.2.2.2.2.2.2.1, u.2.2.2.2.2.2.2.2.2.2.2.2.2.2.2.2.2.2.2.1, u.2.2.2.2.2.2.2.2.2.2.2.2.2.2.2.2.2.2.2.2.1, u.2.2.2.2.2.2.2.2.2.2.2.2.2.2.2.2.2.2.2.2.2)) hs (by omega) hse hb (⟨m2, r1 (u.1, u.2.1, u.2.2.1, u.2.2.2.1, (nI (q + (zsb 18).length)), u.2.2.2.2.2.1, u.2.2.2.2.2.2.1, u.2.2.2.2.2.2.2.1, u.2.2.2.2.2.2.2.2.1, u.2.2.2.2.2.2.2.2.2.1, u.2.2.2.2.2.2.2.2.2.2.1, u.2.2.2.2.2.2.2.2.2.2.2.1, u.2.2.2.2.2.2.2.2.2.2.2.2.1, u.2.2.2.2.2.2.2.2.2.2.2.2.2.1, u.2.2.2.2.2.2.2.2.2.2.2.2.2.2.1, u.2.2.2.2.2.2.2.2.2.2.2.2.2.2.2.1, (nI (s ||| 2 ^ 1)), u.2.2.2.2.2.2.2.2.2.2.2.2.2.2.2.2.2.1, u.2.2.2.2.2.2.2.2.2.2.2.2.2.2.2.2.2.2.1, u.2.2.2.2.2.2.2.2.2.2.2.2.2.2.2.2.2.2.2.1, u.2.2.2.2.2.2.2.2.2.2.2.2.2.2.2.2.2.2.2.2.1, u.2.2.2.2.2.2.2.2.2.2.2.2.2.2.2.2.2.2.2.2.2) (q + (zsb 18).length) _ ⟨hu, h0, rfl, hle, rfl⟩ hSI.2.1 (fun u1 hf g2 g3 g4 g5 g6 g7 => rs1 _ _ _ ⟨g5.1, g5.2.1, g5.2.2.1, g5.2.2.2.1, rfl⟩ (fun u2 hf2 k1 k2 => hps _ (mF_tr hf hf2) k1 k2))⟩)) (fun w => absurd w (wd_ex (i := 2) (j := 3) (by omega) (by omega) (by omega) hw)) (fun w => absurd w (wd_ex (i := 2) (j := 4) (by omega) (by omega) (by omega) hw)) (fun w => absurd w (wd_ex (i := 2) (j := 5) (by omega) (by omega) (by omega) hw)) (fun w => absurd w (wd_ex (i := 2) (j := 6) (by omega) (by omega) (by omega) hw)) (fun w => absurd w (wd_ex (i := 2) (j := 7) (by omega) (by omega) (by omega) hw)) (fun n16 n17 n18 n19 n20 n21 n22 n23 => absurd hw n18)
      · refine Or.inr ⟨sk T n e + 1, s ||| 2 ^ 1, da, dm, t', by omega, by omega, fun N hz => ⟨(bit_all s hs 1 (by omega)).2.2.2.2, fun q1 => absurd (bit_or1.symm.trans q1) (by decide), fun q1 => hz.2.2.1 (by rw [← bit_or (k := 1) (by omega)]; exact q1), k3.2.trans hz.2.2.2⟩, fun x x3 post hx hp => ?_, fun u p post hr hps => ?_⟩
        · unfold wS
          refine c_stmt hT hx hs (fun w => absurd w (wd_ex (i := 2) (j := 0) (by omega) (by omega) (by omega) hw)) (fun w => absurd w (wd_ex (i := 2) (j := 1) (by omega) (by omega) (by omega) hw)) (fun _ _ x0 hx0 => c1 x0 _ _ hx0 (fun x9 h9 => cs1 x9 _ h9 (fun x8 h8 => hp _ _ h8)) (fun w hw9 => ⟨m1, hw9⟩)) (fun w => absurd w (wd_ex (i := 2) (j := 3) (by omega) (by omega) (by omega) hw)) (fun w => absurd w (wd_ex (i := 2) (j := 4) (by omega) (by omega) (by omega) hw)) (fun w => absurd w (wd_ex (i := 2) (j := 5) (by omega) (by omega) (by omega) hw)) (fun w => absurd w (wd_ex (i := 2) (j := 6) (by omega) (by omega) (by omega) hw)) (fun w => absurd w (wd_ex (i := 2) (j := 7) (by omega) (by omega) (by omega) hw)) (fun n16 n17 n18 n19 n20 n21 n22 n23 => absurd (n18 hw) (by rw [hb]; decide))
        · obtain ⟨hg, hne, hse, hSI⟩ := hr
          obtain ⟨hu, h0, -, -, -⟩ := id hg
          refine r_stmt hT hg (fun w => absurd w (wd_ex (i := 2) (j := 0) (by omega) (by omega) (by omega) hw)) (fun w => absurd w (wd_ex (i := 2) (j := 1) (by omega) (by omega) (by omega) hw)) (fun _ => r_once0 (u := (u.1, u.2.1, u.2.2.1, u.2.2.2.1, (nI (q + (zsb 18).length)), u.2.2.2.2.2.1, u.2.2.2.2.2.2.1, u.2.2.2.2.2.2.2.1, u.2.2.2.2.2.2.2.2.1, u.2.2.2.2.2.2.2.2.2.1, u.2.2.2.2.2.2.2.2.2.2.1, u.2.2.2.2.2.2.2.2.2.2.2.1, u.2.2.2.2.2.2.2.2.2.2.2.2.1, u.2.2.2.2.2.2.2.2.2.2.2.2.2.1, u.2.2.2.2.2.2.2.2.2.2.2.2.2.2.1, u.2.2.2.2.2.2.2.2.2.2.2.2.2.2.2.1, u.2.2.2.2.2.2.2.2.2.2.2.2.2.2.2.2.1, u.2.2.2.2.2.2.2.2.2.2.2.2.2.2.2.2.2.1, u.2.2.2.2.2.2.2.2.2.2.2.2.2.2.2.2.2.2.1, u.2.2.2.2.2.2.2.2.2.2.2.2.2.2.2.2.2.2.2.1, u.2.2.2.2.2.2.2.2.2.2.2.2.2.2.2.2.2.2.2.2.1, u.2.2.2.2.2.2.2.2.2.2.2.2.2.2.2.2.2.2.2.2.2)) hs (by omega) hse hb (⟨m2, r1 (u.1, u.2.1, u.2.2.1, u.2.2.2.1, (nI (q + (zsb 18).length)), u.2.2.2.2.2.1, u.2.2.2.2.2.2.1, u.2.2.2.2.2.2.2.1, u.2.2.2.2.2.2.2.2.1, u.2.2.2.2.2.2.2.2.2.1, u.2.2.2.2.2.2.2.2.2.2.1, u.2.2.2.2.2.2.2.2.2.2.2.1, u.2.2.2.2.2.2.2.2.2.2.2.2.1, u.2.2.2.2.2.2.2.2.2.2.2.2.2.1, u.2.2.2.2.2.2.2.2.2.2.2.2.2.2.1, u.2.2.2.2.2.2.2.2.2.2.2.2.2.2.2.1, (nI (s ||| 2 ^ 1)), u.2.2.2.2.2.2.2.2.2.2.2.2.2.2.2.2.2.1, u.2.2.2.2.2.2.2.2.2.2.2.2.2.2.2.2.2.2.1, u.2.2.2.2.2.2.2.2.2.2.2.2.2.2.2.2.2.2.2.1, u.2.2.2.2.2.2.2.2.2.2.2.2.2.2.2.2.2.2.2.2.1, u.2.2.2.2.2.2.2.2.2.2.2.2.2.2.2.2.2.2.2.2.2) (q + (zsb 18).length) _ ⟨hu, h0, rfl, hle, rfl⟩ hSI.2.1 (fun ub hf g2 g3 g4 g5 g6 g7 => ?_)⟩)) (fun w => absurd w (wd_ex (i := 2) (j := 3) (by omega) (by omega) (by omega) hw)) (fun w => absurd w (wd_ex (i := 2) (j := 4) (by omega) (by omega) (by omega) hw)) (fun w => absurd w (wd_ex (i := 2) (j := 5) (by omega) (by omega) (by omega) hw)) (fun w => absurd w (wd_ex (i := 2) (j := 6) (by omega) (by omega) (by omega) hw)) (fun w => absurd w (wd_ex (i := 2) (j := 7) (by omega) (by omega) (by omega) hw)) (fun n16 n17 n18 n19 n20 n21 n22 n23 => absurd hw n18)
          obtain ⟨gu1, g0, gp, gpn, gsk⟩ := g5
          refine rs1 _ _ _ ⟨gu1, g0, gp, gpn, rfl⟩ ?_
          refine hps _ hf g2 (fun i hi => g7 i (by omega)) ⟨⟨gu1, g0, rfl, by omega, rfl⟩, g4.trans hne, g3, ?_⟩
          exact SI_gen hSI (bit_all s hs 1 (by omega)).2.2.2.2 (bit_or (by omega)) (fun q1 => absurd (bit_or1.symm.trans q1) (by decide)) (fun i hi => g7 i (by omega)) g6 (k3.1 hSI.2.2.1)
end
