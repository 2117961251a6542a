/-! Any statement; all statements. -/
section
variable {T B : Nat → Int32} {n : Nat}
theorem P_stmt (hT : tx T B n) {q s : Nat} {da : Int32} {dm : DM} {t : S_X7} {a : S_X0} {br : S_X1} (hs : s < 128) (hst0 : s.testBit 1 = false → t.2.2.2.2.2.2.2.2.2.2.1 = 0) : SX T B n q s da dm t a br := by
  by_cases w16 : wd T n q (zsb 16)
  · exact P_band hT hs w16
  by_cases w17 : wd T n q (zsb 17)
  · exact P_spot hT hs w17
  by_cases w18 : wd T n q (zsb 18)
  · exact P_ladder hT hs hst0 w18
  by_cases w19 : wd T n q (zsb 19)
  · exact P_window hT hs w19
  by_cases w20 : wd T n q (zsb 20)
  · exact P_minimum hT hs w20
  by_cases w21 : wd T n q (zsb 21)
  · exact P_miss hT hs w21
  by_cases w22 : wd T n q (zsb 22)
  · exact P_waivers hT hs w22
  by_cases w23 : wd T n q (zsb 23)
  · exact P_demandS hT hs w23
  refine Or.inl ⟨-2, nI q, by decide, fun x x3 post hx hp => ?_, fun u p post hr hps => ?_⟩
  · unfold wS
    exact c_stmt hT hx hs (fun w => absurd w w16) (fun w => absurd w w17) (fun w => absurd w w18) (fun w => absurd w w19) (fun w => absurd w w20) (fun w => absurd w w21) (fun w => absurd w w22) (fun w => absurd w w23) (fun _ _ _ _ _ _ _ _ x' h' => e_sign h' (by decide) (fun x2 h2 => hp _ h2 rfl))
  · exact r_stmt hT hr.1 (fun w => absurd w w16) (fun w => absurd w w17) (fun w => absurd w w18) (fun w => absurd w w19) (fun w => absurd w w20) (fun w => absurd w w21) (fun w => absurd w w22) (fun w => absurd w w23) (fun _ _ _ _ _ _ _ _ u' hf g1 g2 => hps u' hf g1 g2)
theorem x_read {w : S_X6 × S_X5 × S_X3 × S_X2} {e ae : Int32} (h : er w.2.1 e ae) (y k : Int32) (post : Int32 → S_X6 × S_X5 × S_X3 × S_X2 → Prop) (hp : j_X6_read_64 w.1 w.2.1 w.2.2.1 w.2.2.2 post) : zl (fun K st => j_X6_read_29 K st.1 st.2.1 st.2.2.1 st.2.2.2.1 st.2.2.2.2.1 st.2.2.2.2.2 post) 1 (y, k, w.1, w.2.1, w.2.2.1, w.2.2.2) := ⟨fun _ => hp, fun _ => ⟨fun _ => hp, fun q => absurd h.2.2.2 q⟩⟩
theorem y_read {u : S_X10} {mh : S_MH} (h : ¬ u.2.2.2.2.2.1 = 0) (post : Int32 → S_X10 × S_MH → Prop) (hp : j_X10_load_115 u mh post) : zl (fun K st => j_X10_load_93 K st.1 st.2 post) 1 (u, mh) := by
  refine zl_mk ?_
  show j_X10_load_93 _ u mh post
  show wp_X10_isGood u _
  exact r_bad h ⟨fun _ => hp, fun q => absurd rfl q⟩
theorem P_loop (hT : tx T B n) (N : Nat) (a : S_X0) (br : S_X1) : ∀ (j e0 s : Nat) (da : Int32) (dm : DM) (t : S_X7), n - e0 ≤ j → e0 ≤ n → IC T n N s da dm t →
    (∃ e ae, ¬ e = 0 ∧ (∃ m, ∀ (x : S_X5) (x3 : S_X3) (k : Nat) (post : Int32 → S_X6 × S_X5 × S_X3 × S_X2 → Prop), tk T n (sk T n e0) x → k ≤ sk T n e0 → (∀ w : S_X6 × S_X5 × S_X3 × S_X2, er w.2.1 e ae → w.2.2.2.2.2 = br → j_X6_read_64 w.1 w.2.1 w.2.2.1 w.2.2.2 post) → zl (fun K st => j_X6_read_29 K st.1 st.2.1 st.2.2.1 st.2.2.2.1 st.2.2.2.2.1 st.2.2.2.2.2 post) m (nI n, nI k, (nI s, da), x, x3, (t, a, br))) ∧ ∃ m, ∀ (u : S_X10) (mh : S_MH) (post : Int32 → S_X10 × S_MH → Prop), rs T B n u e0 (sk T n e0) s dm t → (∀ u', mF u u' → u'.2.2.2.2.2.1 = e → u'.2.2.2.2.2.2.1 = ae → j_X10_load_115 u' mh post) → zl (fun K st => j_X10_load_93 K st.1 st.2 post) m (u, mh)) ∨
    ∃ s' da' dm' t', IC T n N s' da' dm' t' ∧ (∃ m, ∀ (x : S_X5) (x3 : S_X3) (k : Nat) (post : Int32 → S_X6 × S_X5 × S_X3 × S_X2 → Prop), tk T n (sk T n e0) x → k ≤ sk T n e0 → (∀ x' x3', tk T n n x' → j_X6_read_64 (nI s', da') x' x3' (t', a, br) post) → zl (fun K st => j_X6_read_29 K st.1 st.2.1 st.2.2.1 st.2.2.2.1 st.2.2.2.2.1 st.2.2.2.2.2 post) m (nI n, nI k, (nI s, da), x, x3, (t, a, br))) ∧ ∃ m, ∀ (u : S_X10) (mh : S_MH) (post : Int32 → S_X10 × S_MH → Prop), rs T B n u e0 (sk T n e0) s dm t → (∀ u', mF u u' → u'.2.2.2.2.2.2.1 = u.2.2.2.2.2.2.1 → dK u.2.2.2.2.2.2.2.2.2.1 u'.2.2.2.2.2.2.2.2.2.1 → rs T B n u' n n s' dm' t' → j_X10_load_115 u' mh post) → zl (fun K st => j_X10_load_93 K st.1 st.2 post) m (u, mh) := by
  intro j
  have hn8 := hT.1
  have hexit : ∀ (e0 s : Nat) (da : Int32) (dm : DM) (t : S_X7), IC T n N s da dm t → e0 ≤ n → sk T n e0 = n → ∃ s' da' dm' t', IC T n N s' da' dm' t' ∧ (∃ m, ∀ (x : S_X5) (x3 : S_X3) (k : Nat) (post : Int32 → S_X6 × S_X5 × S_X3 × S_X2 → Prop), tk T n (sk T n e0) x → k ≤ sk T n e0 → (∀ x' x3', tk T n n x' → j_X6_read_64 (nI s', da') x' x3' (t', a, br) post) → zl (fun K st => j_X6_read_29 K st.1 st.2.1 st.2.2.1 st.2.2.2.1 st.2.2.2.2.1 st.2.2.2.2.2 post) m (nI n, nI k, (nI s, da), x, x3, (t, a, br))) ∧ ∃ m, ∀ (u : S_X10) (mh : S_MH) (post : Int32 → S_X10 × S_MH → Prop), rs T B n u e0 (sk T n e0) s dm t → (∀ u', mF u u' → u'.2.2.2.2.2.2.1 = u.2.2.2.2.2.2.1 → dK u.2.2.2.2.2.2.2.2.2.1 u'.2.2.2.2.2.2.2.2.2.1 → rs T B n u' n n s' dm' t' → j_X10_load_115 u' mh post) → zl (fun K st => j_X10_load_93 K st.1 st.2 post) m (u, mh) := by
    intro e0 s da dm t hic he hn
    have h9 : bc T n n = 999 := bc_out (by omega)
    refine ⟨s, da, dm, t, hic, ⟨1, fun x x3 k post hx hk hp => ?_⟩, ⟨1, fun u mh post hr hps => ?_⟩⟩
    · rw [hn] at hx
      have h64 := hp x x3 hx
      refine ⟨fun _ => h64, fun _ => ⟨fun _ => h64, fun q => absurd ?_ q⟩⟩
      dsimp only
      rw [hx.2.2.2.2.2.2.1]
      exact (kd_end (bc_lt hT n)).mpr h9
    · obtain ⟨⟨hu, h0, hpp, hpn, hsk⟩, hne, hse, hSI⟩ := hr
      refine zl_mk ?_
      show j_X10_load_93 _ u mh post
      show wp_X10_isGood u _
      refine r_good h0 ⟨fun q => absurd q (by decide), fun _ => q_next hT e0 he u hu hpp ?_⟩
      rw [hn]
      have hss : sk T n n = n := by have := sk_le (T := T) (n := n) (p := n) (Nat.le_refl _); omega
      refine ⟨fun _ => hps _ ⟨rfl, rfl, rfl, rfl, rfl, rfl, rfl⟩ rfl (fun i _ => rfl) ⟨⟨hu, h0, rfl, Nat.le_refl _, hss⟩, hne, hse, hSI⟩, fun q => absurd ((bv_end (bc_lt hT n)).mpr h9) q⟩
  induction j with
  | zero =>
    intro e0 s da dm t hj he hic
    have hs := hic.1
    have hst0 := hic.2.1
    have hsl := sk_le (T := T) (n := n) (p := e0) he
    exact Or.inr (hexit e0 s da dm t hic he (by omega))
  | succ j ih =>
    intro e0 s da dm t hj he hic
    have hs := hic.1
    have hst0 := hic.2.1
    have hsl := sk_le (T := T) (n := n) (p := e0) he
    by_cases hn : sk T n e0 = n
    · exact Or.inr (hexit e0 s da dm t hic he hn)
    have hlt : sk T n e0 < n := by omega
    have hss : sk T n (sk T n e0) = sk T n e0 := sk_sk he
    have h9 : ¬ bc T n (sk T n e0) = 999 := fun q => by have := bc_end hT q; omega
    have hkn : ∀ k, k ≤ sk T n e0 → ¬ nI n ≤ nI k := fun k hk q => by rw [le_nI (by omega) (by omega)] at q; omega
    have hkd : ∀ x, tk T n (sk T n e0) x → ¬ x.2.2.2.2.1 = -1 := fun x hx q => h9 ((kd_end (bc_lt hT _)).mp (hx.2.2.2.2.2.2.1.symm.trans q))
    have hnx : ∀ (m : Nat) (u : S_X10) (mh : S_MH) (post : Int32 → S_X10 × S_MH → Prop), rs T B n u e0 (sk T n e0) s dm t → wp_X10_statement (u.1, u.2.1, u.2.2.1, u.2.2.2.1, (nI (sk T n e0)), u.2.2.2.2.2.1, u.2.2.2.2.2.2.1, u.2.2.2.2.2.2.2.1, u.2.2.2.2.2.2.2.2.1, u.2.2.2.2.2.2.2.2.2.1, u.2.2.2.2.2.2.2.2.2.2.1, u.2.2.2.2.2.2.2.2.2.2.2.1, u.2.2.2.2.2.2.2.2.2.2.2.2.1, u.2.2.2.2.2.2.2.2.2.2.2.2.2.1, u.2.2.2.2.2.2.2.2.2.2.2.2.2.2.1, u.2.2.2.2.2.2.2.2.2.2.2.2.2.2.2.1, u.2.2.2.2.2.2.2.2.2.2.2.2.2.2.2.2.1, u.2.2.2.2.2.2.2.2.2.2.2.2.2.2.2.2.2.1, u.2.2.2.2.2.2.2.2.2.2.2.2.2.2.2.2.2.2.1, u.2.2.2.2.2.2.2.2.2.2.2.2.2.2.2.2.2.2.2.1, u.2.2.2.2.2.2.2.2.2.2.2.2.2.2.2.2.2.2.2.2.1, u.2.2.2.2.2.2.2.2.2.2.2.2.2.2.2.2.2.2.2.2.2) (fun u_18 => zl (fun K st => j_X10_load_93 K st.1 st.2 post) m (u_18, mh)) → zl (fun K st => j_X10_load_93 K st.1 st.2 post) (m + 1) (u, mh) := by
      intro m u mh post hr hp
      obtain ⟨⟨hu, h0, hpp, hpn, hsk⟩, hne, hse, hSI⟩ := hr
      refine zl_mk ?_
      show j_X10_load_93 _ u mh post
      show wp_X10_isGood u _
      exact r_good h0 ⟨fun q => absurd q (by decide), fun _ => q_next hT e0 he u hu hpp ⟨fun q => absurd ((bv_end (bc_lt hT _)).mp q) h9, fun _ => hp⟩⟩
    have hrs : ∀ u : S_X10, rs T B n u e0 (sk T n e0) s dm t → rs T B n (u.1, u.2.1, u.2.2.1, u.2.2.2.1, (nI (sk T n e0)), u.2.2.2.2.2.1, u.2.2.2.2.2.2.1, u.2.2.2.2.2.2.2.1, u.2.2.2.2.2.2.2.2.1, u.2.2.2.2.2.2.2.2.2.1, u.2.2.2.2.2.2.2.2.2.2.1, u.2.2.2.2.2.2.2.2.2.2.2.1, u.2.2.2.2.2.2.2.2.2.2.2.2.1, u.2.2.2.2.2.2.2.2.2.2.2.2.2.1, u.2.2.2.2.2.2.2.2.2.2.2.2.2.2.1, u.2.2.2.2.2.2.2.2.2.2.2.2.2.2.2.1, u.2.2.2.2.2.2.2.2.2.2.2.2.2.2.2.2.1, u.2.2.2.2.2.2.2.2.2.2.2.2.2.2.2.2.2.1, u.2.2.2.2.2.2.2.2.2.2.2.2.2.2.2.2.2.2.1, u.2.2.2.2.2.2.2.2.2.2.2.2.2.2.2.2.2.2.2.1, u.2.2.2.2.2.2.2.2.2.2.2.2.2.2.2.2.2.2.2.2.1, u.2.2.2.2.2.2.2.2.2.2.2.2.2.2.2.2.2.2.2.2.2) (sk T n e0) (sk T n e0) s dm t := fun u ⟨⟨hu, h0, hpp, hpn, hsk⟩, hne, hse, hSI⟩ => ⟨⟨hu, h0, rfl, hsl.2, hss⟩, hne, hse, hSI⟩
    rcases P_stmt (q := sk T n e0) (da := da) (dm := dm) (a := a) (br := br) hT hs hst0 with ⟨e, ae, hea, c1, r1⟩ | ⟨e1, s1, da1, dm1, t1, f1, f2, f3, c1, r1⟩
    · refine Or.inl ⟨e, ae, hea, ⟨2, fun x x3 k post hx hk hp => ?_⟩, ⟨2, fun u mh post hr hps => ?_⟩⟩
      · exact ⟨fun q => absurd q (hkn k hk), fun _ => ⟨fun q => absurd q (hkd x hx), fun _ => c1 x x3 (fun w => ∀ x_13 : Int32, x_13 = nI k + (1 : Int32) → zl (fun K st => j_X6_read_29 K st.1 st.2.1 st.2.2.1 st.2.2.2.1 st.2.2.2.2.1 st.2.2.2.2.2 post) 1 (nI n, x_13, w.1, w.2.1, w.2.2.1, w.2.2.2)) hx (fun w h1 h2 x13 e13 => x_read h1 _ _ post (hp w h1 h2))⟩⟩
      · exact hnx 1 u mh post hr (r1 _ _ _ (hrs u hr) (fun u' hf g1 g2 => y_read (by rw [g1]; exact hea) post (hps u' hf g1 g2)))
    · rcases ih e1 s1 da1 dm1 t1 (by omega) f2 (f3 N hic) with ⟨e, ae, hea, ⟨m1, c2⟩, ⟨m2, r2⟩⟩ | ⟨s', da', dm', t', hic2, ⟨m1, c2⟩, ⟨m2, r2⟩⟩
      · have hs1 := sk_le (T := T) (n := n) (p := e1) f2
        refine Or.inl ⟨e, ae, hea, ⟨m1 + 1, fun x x3 k post hx hk hp => ?_⟩, ⟨m2 + 1, fun u mh post hr hps => ?_⟩⟩
        · refine ⟨fun q => absurd q (hkn k hk), fun _ => ⟨fun q => absurd q (hkd x hx), fun _ => c1 x x3 (fun w => ∀ x_13 : Int32, x_13 = nI k + (1 : Int32) → zl (fun K st => j_X6_read_29 K st.1 st.2.1 st.2.2.1 st.2.2.2.1 st.2.2.2.2.1 st.2.2.2.2.2 post) m1 (nI n, x_13, w.1, w.2.1, w.2.2.1, w.2.2.2)) hx (fun x' x3' hx' x13 e13 => ?_)⟩⟩
          rw [ix_1] at e13
          subst e13
          exact c2 x' x3' (k + 1) post hx' (by omega) hp
        · exact hnx m2 u mh post hr (r1 _ _ _ (hrs u hr) (fun u' hf g1 g2 g3 => r2 u' mh post g3 (fun u2 hf2 k1 k2 => hps u2 (mF_tr hf hf2) k1 k2)))
      · have hs1 := sk_le (T := T) (n := n) (p := e1) f2
        refine Or.inr ⟨s', da', dm', t', hic2, ⟨m1 + 1, fun x x3 k post hx hk hp => ?_⟩, ⟨m2 + 1, fun u mh post hr hps => ?_⟩⟩
        · refine ⟨fun q => absurd q (hkn k hk), fun _ => ⟨fun q => absurd q (hkd x hx), fun _ => c1 x x3 (fun w => ∀ x_13 : Int32, x_13 = nI k + (1 : Int32) → zl (fun K st => j_X6_read_29 K st.1 st.2.1 st.2.2.1 st.2.2.2.1 st.2.2.2.2.1 st.2.2.2.2.2 post) m1 (nI n, x_13, w.1, w.2.1, w.2.2.1, w.2.2.2)) hx (fun x' x3' hx' x13 e13 => ?_)⟩⟩
          rw [ix_1] at e13
          subst e13
          exact c2 x' x3' (k + 1) post hx' (by omega) hp
        · exact hnx m2 u mh post hr (r1 _ _ _ (hrs u hr) (fun u' hf g1 g2 g3 => r2 u' mh post g3 (fun u2 hf2 k1 k2 k3 => hps u2 (mF_tr hf hf2) (k1.trans g1) (dK_tr g2 k2) k3)))
end
