/-! load. -/
def mI (B : Nat → Int32) (n : Nat) (u : S_X10) : Prop := mt B n u ∧ u.2.2.2.2.2.1 = 0 ∧ u.2.2.2.2.1 = nI 0 ∧ u.2.2.2.2.2.2.1 = -1 ∧ u.2.2.2.2.2.2.2.2.2.2.2.2.2.2.2.1 = nI 0 ∧ u.2.2.2.2.2.2.2.2.2.2.2.2.2.2.2.2.1 = nI 0 ∧ ∀ i, i < 1728 → u.2.2.2.2.2.2.2.2.2.1 i = 0
theorem q_inv {N : Nat} (u1 : S_X10) (mh : S_MH) (hd0 : u1.2.2.2.2.2.2.2.2.2.1 0 = nI N) {post : Int32 → S_X10 × S_MH → Prop} (hp : post (nI N) ((u1.1, u1.2.1, u1.2.2.1, u1.2.2.2.1, u1.2.2.2.2.1, u1.2.2.2.2.2.1, u1.2.2.2.2.2.2.1, u1.2.2.2.2.2.2.2.1, (cpD u1.2.2.2.2.2.2.2.2.2.1 u1.2.2.2.2.2.2.2.2.1), u1.2.2.2.2.2.2.2.2.2.1, u1.2.2.2.2.2.2.2.2.2.2.1, (flL u1.2.2.2.2.2.2.2.2.2.2.2.1 0), u1.2.2.2.2.2.2.2.2.2.2.2.2.1, u1.2.2.2.2.2.2.2.2.2.2.2.2.2.1, u1.2.2.2.2.2.2.2.2.2.2.2.2.2.2.1, u1.2.2.2.2.2.2.2.2.2.2.2.2.2.2.2.1, u1.2.2.2.2.2.2.2.2.2.2.2.2.2.2.2.2.1, u1.2.2.2.2.2.2.2.2.2.2.2.2.2.2.2.2.2.1, u1.2.2.2.2.2.2.2.2.2.2.2.2.2.2.2.2.2.2.1, u1.2.2.2.2.2.2.2.2.2.2.2.2.2.2.2.2.2.2.2.1, u1.2.2.2.2.2.2.2.2.2.2.2.2.2.2.2.2.2.2.2.2.1, u1.2.2.2.2.2.2.2.2.2.2.2.2.2.2.2.2.2.2.2.2.2), mh)) : wp_X10_copy u1.2.2.2.2.2.2.2.2.2.1 u1.2.2.2.2.2.2.2.2.1 (fun u_26 => ∃ m, zl (fun K st => j_X10_load_186 K st.1 st.2.1 st.2.2 post) m ((0 : Int32), (u1.1, u1.2.1, u1.2.2.1, u1.2.2.2.1, u1.2.2.2.2.1, u1.2.2.2.2.2.1, u1.2.2.2.2.2.2.1, u1.2.2.2.2.2.2.2.1, u_26.2, u_26.1, u1.2.2.2.2.2.2.2.2.2.2.1, u1.2.2.2.2.2.2.2.2.2.2.2.1, u1.2.2.2.2.2.2.2.2.2.2.2.2.1, u1.2.2.2.2.2.2.2.2.2.2.2.2.2.1, u1.2.2.2.2.2.2.2.2.2.2.2.2.2.2.1, u1.2.2.2.2.2.2.2.2.2.2.2.2.2.2.2.1, u1.2.2.2.2.2.2.2.2.2.2.2.2.2.2.2.2.1, u1.2.2.2.2.2.2.2.2.2.2.2.2.2.2.2.2.2.1, u1.2.2.2.2.2.2.2.2.2.2.2.2.2.2.2.2.2.2.1, u1.2.2.2.2.2.2.2.2.2.2.2.2.2.2.2.2.2.2.2.1, u1.2.2.2.2.2.2.2.2.2.2.2.2.2.2.2.2.2.2.2.2.1, u1.2.2.2.2.2.2.2.2.2.2.2.2.2.2.2.2.2.2.2.2.2), mh)) := by
  refine q_copy _ _ _ ?_
  refine zl_for (fun k w => (nI k, (u1.1, u1.2.1, u1.2.2.1, u1.2.2.2.1, u1.2.2.2.2.1, u1.2.2.2.2.2.1, u1.2.2.2.2.2.2.1, u1.2.2.2.2.2.2.2.1, (cpD u1.2.2.2.2.2.2.2.2.2.1 u1.2.2.2.2.2.2.2.2.1), u1.2.2.2.2.2.2.2.2.2.1, u1.2.2.2.2.2.2.2.2.2.2.1, w, u1.2.2.2.2.2.2.2.2.2.2.2.2.1, u1.2.2.2.2.2.2.2.2.2.2.2.2.2.1, u1.2.2.2.2.2.2.2.2.2.2.2.2.2.2.1, u1.2.2.2.2.2.2.2.2.2.2.2.2.2.2.2.1, u1.2.2.2.2.2.2.2.2.2.2.2.2.2.2.2.2.1, u1.2.2.2.2.2.2.2.2.2.2.2.2.2.2.2.2.2.1, u1.2.2.2.2.2.2.2.2.2.2.2.2.2.2.2.2.2.2.1, u1.2.2.2.2.2.2.2.2.2.2.2.2.2.2.2.2.2.2.2.1, u1.2.2.2.2.2.2.2.2.2.2.2.2.2.2.2.2.2.2.2.2.1, u1.2.2.2.2.2.2.2.2.2.2.2.2.2.2.2.2.2.2.2.2.2), mh)) (fun k w => vp_updL w k (0 : Int64)) 40 u1.2.2.2.2.2.2.2.2.2.2.2.1 rfl ?_ ?_
  · intro k hk K hK
    refine ⟨fun h1 => ?_, fun _ => ⟨in_of hk (by omega), fun x36 e36 => ?_⟩⟩
    · dsimp only at h1
      rw [show (40 : Int32) = nI 40 from rfl, le_nI (by omega) (by omega)] at h1; omega
    · dsimp only at e36 ⊢
      rw [ix_1] at e36
      subst e36
      rw [cl_nI (by omega)]
      exact hK
  · intro K
    have e9 : cpD u1.2.2.2.2.2.2.2.2.2.1 u1.2.2.2.2.2.2.2.2.1 0 = nI N := (cpD_in (by omega)).trans hd0
    refine ⟨fun _ => ?_, fun h1 => absurd (show (40 : Int32) ≤ nI 40 by decide) h1⟩
    show post (cpD u1.2.2.2.2.2.2.2.2.2.1 u1.2.2.2.2.2.2.2.2.1 0) _
    rw [e9, fo_fillL (fun _ => (0 : Int64))]
    exact hp
theorem period_eq (p : Int32) (post : Int32 → Unit → Prop) : wp_X10_period p post = post ((148 : Int32) + 5 * p) () := rfl
theorem r_after {N : Nat} (hN : N ≤ 40) {FR : Nat → Int32} {u : S_X10} {mh mh' : S_MH} {ud' : Int32} (h0 : u.2.2.2.2.2.1 = 0) (hd0 : u.2.2.2.2.2.2.2.2.2.1 0 = nI N) (hdem : ∀ p, p < N → ∀ u1 : S_X10, u1.2.2.2.2.2.2.2.2.2.1 = dfo FR p u.2.2.2.2.2.2.2.2.2.1 → ∀ post : Int32 → S_X10 → Prop, (∀ s', post (FR p) (u1.1, u1.2.1, u1.2.2.1, u1.2.2.2.1, u1.2.2.2.2.1, u1.2.2.2.2.2.1, u1.2.2.2.2.2.2.1, u1.2.2.2.2.2.2.2.1, u1.2.2.2.2.2.2.2.2.1, u1.2.2.2.2.2.2.2.2.2.1, u1.2.2.2.2.2.2.2.2.2.2.1, u1.2.2.2.2.2.2.2.2.2.2.2.1, u1.2.2.2.2.2.2.2.2.2.2.2.2.1, u1.2.2.2.2.2.2.2.2.2.2.2.2.2.1, u1.2.2.2.2.2.2.2.2.2.2.2.2.2.2.1, u1.2.2.2.2.2.2.2.2.2.2.2.2.2.2.2.1, u1.2.2.2.2.2.2.2.2.2.2.2.2.2.2.2.2.1, s', u1.2.2.2.2.2.2.2.2.2.2.2.2.2.2.2.2.2.2.1, u1.2.2.2.2.2.2.2.2.2.2.2.2.2.2.2.2.2.2.2.1, u1.2.2.2.2.2.2.2.2.2.2.2.2.2.2.2.2.2.2.2.2.1, u1.2.2.2.2.2.2.2.2.2.2.2.2.2.2.2.2.2.2.2.2.2)) → wp_X10_demand u1 (nI p) post) (hrem : ∀ ub : S_X10, ub.2.2.2.2.2.2.2.2.1 = u.2.2.2.2.2.2.2.2.1 → ub.2.2.2.2.2.2.2.2.2.2.2.1 = u.2.2.2.2.2.2.2.2.2.2.2.1 → ub.2.2.2.2.2.2.2.2.2.2.2.2.2.1 = u.2.2.2.2.2.2.2.2.2.2.2.2.2.1 → ∀ post : S_X10 × S_MH → Prop, post ((ub.1, ub.2.1, ub.2.2.1, ub.2.2.2.1, ub.2.2.2.2.1, ub.2.2.2.2.2.1, ub.2.2.2.2.2.2.1, ub.2.2.2.2.2.2.2.1, ub.2.2.2.2.2.2.2.2.1, ub.2.2.2.2.2.2.2.2.2.1, ub.2.2.2.2.2.2.2.2.2.2.1, ub.2.2.2.2.2.2.2.2.2.2.2.1, ub.2.2.2.2.2.2.2.2.2.2.2.2.1, ud', ub.2.2.2.2.2.2.2.2.2.2.2.2.2.2.1, ub.2.2.2.2.2.2.2.2.2.2.2.2.2.2.2.1, ub.2.2.2.2.2.2.2.2.2.2.2.2.2.2.2.2.1, ub.2.2.2.2.2.2.2.2.2.2.2.2.2.2.2.2.2.1, ub.2.2.2.2.2.2.2.2.2.2.2.2.2.2.2.2.2.2.1, ub.2.2.2.2.2.2.2.2.2.2.2.2.2.2.2.2.2.2.2.1, ub.2.2.2.2.2.2.2.2.2.2.2.2.2.2.2.2.2.2.2.2.1, ub.2.2.2.2.2.2.2.2.2.2.2.2.2.2.2.2.2.2.2.2.2), mh') → wp_X10_remember ub mh post) {post : Int32 → S_X10 × S_MH → Prop}
    (hp : ∀ u', u'.1 = u.1 → u'.2.2.1 = u.2.2.1 → u'.2.2.2.2.2.2.2.1 = u.2.2.2.2.2.2.1 → u'.2.2.2.2.2.2.2.2.2.2.2.2.2.1 = ud' → u'.2.2.2.2.2.2.2.2.1 = cpD (dfo FR N u.2.2.2.2.2.2.2.2.2.1) u.2.2.2.2.2.2.2.2.1 → u'.2.2.2.2.2.2.2.2.2.2.2.1 = flL u.2.2.2.2.2.2.2.2.2.2.2.1 0 → post (nI N) (u', mh')) : j_X10_load_115 u mh post := by
  have hz : ∀ k, dfo FR k u.2.2.2.2.2.2.2.2.2.1 0 = nI N := fun k => (dfo_out k (fun p _ => by omega)).trans hd0
  have key : ∀ (j p : Nat), p + j = N → ∀ u1 : S_X10, mF u u1 → u1.2.2.2.2.2.2.2.1 = u.2.2.2.2.2.2.1 → u1.2.2.2.2.2.2.2.2.2.1 = dfo FR p u.2.2.2.2.2.2.2.2.2.1 → zl (fun K st => j_X10_load_137 K st.1 st.2.1 st.2.2 post) (j + 1) (nI p, u1, mh) := by
    intro j
    induction j with
    | zero =>
      intro p hpj u1 hf he hd
      have e : p = N := by omega
      subst e
      refine ⟨fun _ => ?_, fun q => ?_⟩
      · refine hrem u1 hf.2.2.2.2.1 hf.2.2.2.2.2.1 hf.2.2.2.2.2.2 _ ?_
        generalize hU : ((u1.1, u1.2.1, u1.2.2.1, u1.2.2.2.1, u1.2.2.2.2.1, u1.2.2.2.2.2.1, u1.2.2.2.2.2.2.1, u1.2.2.2.2.2.2.2.1, u1.2.2.2.2.2.2.2.2.1, u1.2.2.2.2.2.2.2.2.2.1, u1.2.2.2.2.2.2.2.2.2.2.1, u1.2.2.2.2.2.2.2.2.2.2.2.1, u1.2.2.2.2.2.2.2.2.2.2.2.2.1, ud', u1.2.2.2.2.2.2.2.2.2.2.2.2.2.2.1, u1.2.2.2.2.2.2.2.2.2.2.2.2.2.2.2.1, u1.2.2.2.2.2.2.2.2.2.2.2.2.2.2.2.2.1, u1.2.2.2.2.2.2.2.2.2.2.2.2.2.2.2.2.2.1, u1.2.2.2.2.2.2.2.2.2.2.2.2.2.2.2.2.2.2.1, u1.2.2.2.2.2.2.2.2.2.2.2.2.2.2.2.2.2.2.2.1, u1.2.2.2.2.2.2.2.2.2.2.2.2.2.2.2.2.2.2.2.2.1, u1.2.2.2.2.2.2.2.2.2.2.2.2.2.2.2.2.2.2.2.2.2) : S_X10) = U
        have y1 : U.2.2.2.2.2.2.2.2.2.1 = u1.2.2.2.2.2.2.2.2.2.1 := by rw [← hU]
        have y2 : U.2.2.2.2.2.2.2.2.1 = u1.2.2.2.2.2.2.2.2.1 := by rw [← hU]
        have y3 : U.2.2.2.2.2.2.2.2.2.2.2.1 = u1.2.2.2.2.2.2.2.2.2.2.2.1 := by rw [← hU]
        have y4 : U.1 = u1.1 := by rw [← hU]
        have y5 : U.2.2.1 = u1.2.2.1 := by rw [← hU]
        have y6 : U.2.2.2.2.2.2.2.1 = u1.2.2.2.2.2.2.2.1 := by rw [← hU]
        have y7 : U.2.2.2.2.2.2.2.2.2.2.2.2.2.1 = ud' := by rw [← hU]
        refine q_inv (N := p) U mh' (by rw [y1, hd]; exact hz p) ?_
        refine hp _ (y4.trans hf.1) (y5.trans hf.2.2.1) (y6.trans he) y7 ?_ ?_
        · show cpD U.2.2.2.2.2.2.2.2.2.1 U.2.2.2.2.2.2.2.2.1 = _
          rw [y1, y2, hd, hf.2.2.2.2.1]
        · show flL U.2.2.2.2.2.2.2.2.2.2.2.1 0 = _
          rw [y3, hf.2.2.2.2.2.1]
      · dsimp only at q
        rw [hd, hz] at q
        exact absurd ((le_nI (by omega) (by omega)).mpr (Nat.le_refl _)) q
    | succ j ih =>
      intro p hpj u1 hf he hd
      have i1 : nI (148 + 5 * p) + 1 = nI (149 + 5 * p) := by rw [ix_1]; congr 1; omega
      refine ⟨fun q => ?_, fun _ => ?_⟩
      · dsimp only at q
        rw [hd, hz, le_nI (by omega) (by omega)] at q; omega
      · rw [period_eq]
        dsimp only
        refine hdem p (by omega) u1 hd _ (fun s' => ?_)
        have i3 : ((148 : Int32) + 5 * nI p) + 1 = nI (149 + 5 * p) := by rw [ix_per]; exact i1
        have i4 : (((148 : Int32) + 5 * nI p) + 1).toNatClampNeg = 149 + 5 * p := by rw [i3]; exact cl_nI (by omega)
        refine ⟨?_, fun x33 e33 => ?_⟩
        · show vp_in (((148 : Int32) + 5 * nI p) + 1) 1728
          rw [i3]
          exact in_of (by omega) (by omega)
        · have e34 : x33 = nI (p + 1) := e33.trans (ix_1 p)
          subst e34
          have hd2 : upd u1.2.2.2.2.2.2.2.2.2.1 (((148 : Int32) + 5 * nI p) + 1).toNatClampNeg (FR p) = dfo FR (p + 1) u.2.2.2.2.2.2.2.2.2.1 := by
            rw [i4, hd]; rfl
          exact ih (p + 1) (by omega) _ ⟨hf.1, hf.2.1, hf.2.2.1, hf.2.2.2.1, hf.2.2.2.2.1, hf.2.2.2.2.2.1, hf.2.2.2.2.2.2⟩ he hd2
  refine r_good (u := (u.1, u.2.1, u.2.2.1, u.2.2.2.1, u.2.2.2.2.1, u.2.2.2.2.2.1, u.2.2.2.2.2.2.1, u.2.2.2.2.2.2.1, u.2.2.2.2.2.2.2.2.1, u.2.2.2.2.2.2.2.2.2.1, u.2.2.2.2.2.2.2.2.2.2.1, u.2.2.2.2.2.2.2.2.2.2.2.1, u.2.2.2.2.2.2.2.2.2.2.2.2.1, u.2.2.2.2.2.2.2.2.2.2.2.2.2.1, u.2.2.2.2.2.2.2.2.2.2.2.2.2.2.1, u.2.2.2.2.2.2.2.2.2.2.2.2.2.2.2.1, u.2.2.2.2.2.2.2.2.2.2.2.2.2.2.2.2.1, u.2.2.2.2.2.2.2.2.2.2.2.2.2.2.2.2.2.1, u.2.2.2.2.2.2.2.2.2.2.2.2.2.2.2.2.2.2.1, u.2.2.2.2.2.2.2.2.2.2.2.2.2.2.2.2.2.2.2.1, u.2.2.2.2.2.2.2.2.2.2.2.2.2.2.2.2.2.2.2.2.1, u.2.2.2.2.2.2.2.2.2.2.2.2.2.2.2.2.2.2.2.2.2)) h0 ⟨fun _ => ⟨N + 1, key N 0 (by omega) _ ⟨rfl, rfl, rfl, rfl, rfl, rfl, rfl⟩ rfl rfl⟩, fun q => absurd q (by decide)⟩
theorem r_afterE {u : S_X10} {mh : S_MH} (h : ¬ u.2.2.2.2.2.1 = 0) {post : Int32 → S_X10 × S_MH → Prop} (hp : post u.2.2.2.2.2.1 ((u.1, u.2.1, u.2.2.1, u.2.2.2.1, u.2.2.2.2.1, u.2.2.2.2.2.1, u.2.2.2.2.2.2.1, u.2.2.2.2.2.2.1, u.2.2.2.2.2.2.2.2.1, u.2.2.2.2.2.2.2.2.2.1, u.2.2.2.2.2.2.2.2.2.2.1, u.2.2.2.2.2.2.2.2.2.2.2.1, u.2.2.2.2.2.2.2.2.2.2.2.2.1, u.2.2.2.2.2.2.2.2.2.2.2.2.2.1, u.2.2.2.2.2.2.2.2.2.2.2.2.2.2.1, u.2.2.2.2.2.2.2.2.2.2.2.2.2.2.2.1, u.2.2.2.2.2.2.2.2.2.2.2.2.2.2.2.2.1, u.2.2.2.2.2.2.2.2.2.2.2.2.2.2.2.2.2.1, u.2.2.2.2.2.2.2.2.2.2.2.2.2.2.2.2.2.2.1, u.2.2.2.2.2.2.2.2.2.2.2.2.2.2.2.2.2.2.2.1, u.2.2.2.2.2.2.2.2.2.2.2.2.2.2.2.2.2.2.2.2.1, u.2.2.2.2.2.2.2.2.2.2.2.2.2.2.2.2.2.2.2.2.2), mh)) : j_X10_load_115 u mh post := r_bad (u := (u.1, u.2.1, u.2.2.1, u.2.2.2.1, u.2.2.2.2.1, u.2.2.2.2.2.1, u.2.2.2.2.2.2.1, u.2.2.2.2.2.2.1, u.2.2.2.2.2.2.2.2.1, u.2.2.2.2.2.2.2.2.2.1, u.2.2.2.2.2.2.2.2.2.2.1, u.2.2.2.2.2.2.2.2.2.2.2.1, u.2.2.2.2.2.2.2.2.2.2.2.2.1, u.2.2.2.2.2.2.2.2.2.2.2.2.2.1, u.2.2.2.2.2.2.2.2.2.2.2.2.2.2.1, u.2.2.2.2.2.2.2.2.2.2.2.2.2.2.2.1, u.2.2.2.2.2.2.2.2.2.2.2.2.2.2.2.2.1, u.2.2.2.2.2.2.2.2.2.2.2.2.2.2.2.2.2.1, u.2.2.2.2.2.2.2.2.2.2.2.2.2.2.2.2.2.2.1, u.2.2.2.2.2.2.2.2.2.2.2.2.2.2.2.2.2.2.2.1, u.2.2.2.2.2.2.2.2.2.2.2.2.2.2.2.2.2.2.2.2.1, u.2.2.2.2.2.2.2.2.2.2.2.2.2.2.2.2.2.2.2.2.2)) h ⟨fun q => absurd rfl q, fun _ => hp⟩
def clF (a : S_X0) (r : Int32) (FR : Nat → Int32) (N : Nat) : S_X0 := ((0 : Int32), fl a.2.1 r, ffo FR N (fl a.2.2.1 r), fl a.2.2.2.1 (-1), fl a.2.2.2.2.1 0, fl a.2.2.2.2.2.1 0, flL a.2.2.2.2.2.2 0)
def clT (t : S_X7) : S_X7 := ((0 : Int32), (0 : Int32), (0 : Int32), (0 : Int32), (0 : Int32), (0 : Int32), (0 : Int32), (0 : Int32), (0 : Int32), (0 : Int32), (0 : Int32), t.2.2.2.2.2.2.2.2.2.2.2.1, t.2.2.2.2.2.2.2.2.2.2.2.2.1, (0 : Int64), t.2.2.2.2.2.2.2.2.2.2.2.2.2.2.1, t.2.2.2.2.2.2.2.2.2.2.2.2.2.2.2)
theorem bnd_cl (t : S_X7) (N pr fe : Int32) (k : Nat) : bnd (N, pr, fe, (clT t).2.2.2.1, (clT t).2.2.2.2.1, (clT t).2.2.2.2.2.1, (clT t).2.2.2.2.2.2.1, (clT t).2.2.2.2.2.2.2.1, (clT t).2.2.2.2.2.2.2.2.1, (clT t).2.2.2.2.2.2.2.2.2.1, (clT t).2.2.2.2.2.2.2.2.2.2.1, (clT t).2.2.2.2.2.2.2.2.2.2.2.1, (clT t).2.2.2.2.2.2.2.2.2.2.2.2.1, (clT t).2.2.2.2.2.2.2.2.2.2.2.2.2.1, (clT t).2.2.2.2.2.2.2.2.2.2.2.2.2.2.1, (clT t).2.2.2.2.2.2.2.2.2.2.2.2.2.2.2) k = false := by
  show (Int64.toBitVec 0).toNat.testBit k = false
  rw [show (Int64.toBitVec 0).toNat = 0 from rfl, Nat.zero_testBit]
theorem bB_0 {br : S_X1} (h0 : br.2.2.1 = 0) (h1 : ∀ k, k < 20 → br.2.2.2.2.2.2 k = 0) (w : Nat) : bB 0 w br := ⟨by omega, fun k hk => Or.inl (h1 k hk), fun k hk => absurd hk (by omega), h0, by show fb_ct _ 0 ≤ w; show 0 ≤ w; omega⟩
section
variable {T B : Nat → Int32} {n : Nat}
theorem P_read (hT : tx T B n) (t0 : S_X7) (a0 : S_X0) (br : S_X1) (da : Int32) (hbr : br.1 = 0 ∧ br.2.1 = 0 ∧ br.2.2.1 = 0 ∧ ∀ k, k < 20 → br.2.2.2.2.2.2 k = 0) :
    (∃ e ae, ¬ e = 0 ∧ (∀ (x : S_X5) (x3 : S_X3) (post : Int32 → S_X6 × S_X5 × S_X3 × S_X2 → Prop), tk T n (sk T n 0) x → (∀ w : S_X6 × S_X5 × S_X3 × S_X2, er w.2.1 e ae → w.2.2.2.2.2 = br → post e w) → wp_X6_readContract ((0 : Int32), da) x (clT t0, a0, br) (fun u_5 => ∃ m, zl (fun K st => j_X6_read_29 K st.1 st.2.1 st.2.2.1 st.2.2.2.1 st.2.2.2.2.1 st.2.2.2.2.2 post) m (nI n, (0 : Int32), u_5.1, u_5.2.1, x3, u_5.2.2))) ∧ ∀ (u : S_X10) (mh : S_MH) (post : Int32 → S_X10 × S_MH → Prop), mI B n u → (∀ u', mF u u' → u'.2.2.2.2.2.2.2.1 = ae → post e (u', mh)) → wp_X10_readContract u (fun u_8 => ∃ m, zl (fun K st => j_X10_load_93 K st.1 st.2 post) m (u_8, mh))) ∨
    ∃ N t' a', t'.1 = nI N ∧ (∀ (x : S_X5) (x3 : S_X3) (post : Int32 → S_X6 × S_X5 × S_X3 × S_X2 → Prop), tk T n (sk T n 0) x → (∀ w : S_X6 × S_X5 × S_X3 × S_X2, w.2.1.2.2.2.2.2.2.2.2 = -1 → w.2.2.2 = (t', a', br) → post 0 w) → wp_X6_readContract ((0 : Int32), da) x (clT t0, a0, br) (fun u_5 => ∃ m, zl (fun K st => j_X6_read_29 K st.1 st.2.1 st.2.2.1 st.2.2.2.1 st.2.2.2.2.1 st.2.2.2.2.2 post) m (nI n, (0 : Int32), u_5.1, u_5.2.1, x3, u_5.2.2))) ∧ ∀ (u : S_X10) (mh mh' : S_MH) (ud' : Int32) (post : Int32 → S_X10 × S_MH → Prop), mI B n u → (∀ ub : S_X10, ub.2.2.2.2.2.2.2.2.1 = u.2.2.2.2.2.2.2.2.1 → ub.2.2.2.2.2.2.2.2.2.2.2.1 = u.2.2.2.2.2.2.2.2.2.2.2.1 → ub.2.2.2.2.2.2.2.2.2.2.2.2.2.1 = u.2.2.2.2.2.2.2.2.2.2.2.2.2.1 → ∀ post : S_X10 × S_MH → Prop, post ((ub.1, ub.2.1, ub.2.2.1, ub.2.2.2.1, ub.2.2.2.2.1, ub.2.2.2.2.2.1, ub.2.2.2.2.2.2.1, ub.2.2.2.2.2.2.2.1, ub.2.2.2.2.2.2.2.2.1, ub.2.2.2.2.2.2.2.2.2.1, ub.2.2.2.2.2.2.2.2.2.2.1, ub.2.2.2.2.2.2.2.2.2.2.2.1, ub.2.2.2.2.2.2.2.2.2.2.2.2.1, ud', ub.2.2.2.2.2.2.2.2.2.2.2.2.2.2.1, ub.2.2.2.2.2.2.2.2.2.2.2.2.2.2.2.1, ub.2.2.2.2.2.2.2.2.2.2.2.2.2.2.2.2.1, ub.2.2.2.2.2.2.2.2.2.2.2.2.2.2.2.2.2.1, ub.2.2.2.2.2.2.2.2.2.2.2.2.2.2.2.2.2.2.1, ub.2.2.2.2.2.2.2.2.2.2.2.2.2.2.2.2.2.2.2.1, ub.2.2.2.2.2.2.2.2.2.2.2.2.2.2.2.2.2.2.2.2.1, ub.2.2.2.2.2.2.2.2.2.2.2.2.2.2.2.2.2.2.2.2.2), mh') → wp_X10_remember ub mh post) → (∀ u', u'.1 = u.1 → u'.2.2.1 = u.2.2.1 → u'.2.2.2.2.2.2.2.1 = -1 → u'.2.2.2.2.2.2.2.2.2.2.2.2.2.1 = ud' → rC (t', a', br) u'.2.2.2.2.2.2.2.2.1 u'.2.2.2.2.2.2.2.2.2.2.2.1 → post (nI N) (u', mh')) → wp_X10_readContract u (fun u_8 => ∃ m, zl (fun K st => j_X10_load_93 K st.1 st.2 post) m (u_8, mh)) := by
  have hn8 := hT.1
  have hs0 := sk_le (T := T) (n := n) (p := 0) (by omega)
  have h64E : ∀ {e ae : Int32} (w : S_X6 × S_X5 × S_X3 × S_X2) (post : Int32 → S_X6 × S_X5 × S_X3 × S_X2 → Prop), er w.2.1 e ae → post e w → j_X6_read_64 w.1 w.2.1 w.2.2.1 w.2.2.2 post := by
    intro e ae w post h hp
    refine ⟨fun _ => ?_, fun q => absurd (h.1.symm.trans q) h.2.1⟩
    rw [h.1]
    exact hp
  rcases P_con hT hs0.2 with ⟨e, ae, hea, c1, r1⟩ | ⟨e, N, r, pr, fe, hN2, hN, hr9, hpr, hfe, hen, c1, r1⟩
  · refine Or.inl ⟨e, ae, hea, fun x x3 post hx hp => ?_, fun u mh post hI hps => ?_⟩
    · exact c1 _ x _ _ _ _ hx (fun x' c' h' hb' => ⟨1, x_read (w := (((0 : Int32), da), x', x3, c')) h' _ _ post (h64E (((0 : Int32), da), x', x3, c') post h' (hp (((0 : Int32), da), x', x3, c') h' hb'))⟩)
    · obtain ⟨hu, h0, hpp, he1, hne, hse, hdr⟩ := hI
      refine r1 u 0 _ ⟨hu, h0, hpp, by omega, rfl⟩ (fun u' hf g1 g2 => ⟨1, y_read (by rw [g1]; exact hea) post (r_afterE (by rw [g1]; exact hea) ?_)⟩)
      rw [g1]
      exact hps _ ⟨hf.1, hf.2.1, hf.2.2.1, hf.2.2.2.1, hf.2.2.2.2.1, hf.2.2.2.2.2.1, hf.2.2.2.2.2.2⟩ g2
  · have hs1 := sk_le (T := T) (n := n) (p := e) hen
    have hic : IC T n N 0 da (0, 0, [], fun _ => 0) ((nI N), (nI pr), (nI fe), (clT t0).2.2.2.1, (clT t0).2.2.2.2.1, (clT t0).2.2.2.2.2.1, (clT t0).2.2.2.2.2.2.1, (clT t0).2.2.2.2.2.2.2.1, (clT t0).2.2.2.2.2.2.2.2.1, (clT t0).2.2.2.2.2.2.2.2.2.1, (clT t0).2.2.2.2.2.2.2.2.2.2.1, (clT t0).2.2.2.2.2.2.2.2.2.2.2.1, (clT t0).2.2.2.2.2.2.2.2.2.2.2.2.1, (clT t0).2.2.2.2.2.2.2.2.2.2.2.2.2.1, (clT t0).2.2.2.2.2.2.2.2.2.2.2.2.2.2.1, (clT t0).2.2.2.2.2.2.2.2.2.2.2.2.2.2.2) := ⟨by omega, fun _ => rfl, fun q => absurd q (by decide), rfl⟩
    have hDc : ∀ (D : Nat → Int32) (i : Nat), (∀ p, p < N → ¬ i = 148 + 5 * p ∧ ¬ i = 150 + 5 * p) → ¬ i = 0 → ¬ i = 2 → ¬ i = 3 → fo (dPg (nI r)) N (upd (upd (upd D 0 (nI N)) 2 (nI pr)) 3 (nI fe)) i = D i := by
      intro D i h1 h2 h3 h4
      rw [dP_out N h1, upd_ne _ _ h4, upd_ne _ _ h3, upd_ne _ _ h2]
    have hSI0 : ∀ D : Nat → Int32, (∀ i, i < 1728 → D i = 0) → SI 0 (0, 0, [], fun _ => 0) ((nI N), (nI pr), (nI fe), (clT t0).2.2.2.1, (clT t0).2.2.2.2.1, (clT t0).2.2.2.2.2.1, (clT t0).2.2.2.2.2.2.1, (clT t0).2.2.2.2.2.2.2.1, (clT t0).2.2.2.2.2.2.2.2.1, (clT t0).2.2.2.2.2.2.2.2.2.1, (clT t0).2.2.2.2.2.2.2.2.2.2.1, (clT t0).2.2.2.2.2.2.2.2.2.2.2.1, (clT t0).2.2.2.2.2.2.2.2.2.2.2.2.1, (clT t0).2.2.2.2.2.2.2.2.2.2.2.2.2.1, (clT t0).2.2.2.2.2.2.2.2.2.2.2.2.2.2.1, (clT t0).2.2.2.2.2.2.2.2.2.2.2.2.2.2.2) (fo (dPg (nI r)) N (upd (upd (upd D 0 (nI N)) 2 (nI pr)) 3 (nI fe))) := by
      intro D hD
      have hz : ∀ i, i < 1728 → (∀ p, p < N → ¬ i = 148 + 5 * p ∧ ¬ i = 150 + 5 * p) → ¬ i = 0 → ¬ i = 2 → ¬ i = 3 → fo (dPg (nI r)) N (upd (upd (upd D 0 (nI N)) 2 (nI pr)) 3 (nI fe)) i = 0 := fun i hi h1 h2 h3 h4 => (hDc D i h1 h2 h3 h4).trans (hD i hi)
      refine ⟨by omega, ⟨⟨?_, ?_, ?_, ?_, ?_, ?_, ?_, ?_, ?_, ?_, ?_⟩, fun k hk => ⟨?_, fun q => ?_⟩, fun k hk hl => ?_⟩, ?_, fun _ => rfl, fun _ => ⟨?_, ?_, fun i hi => absurd hi (by simp)⟩, fun q => absurd q (by decide)⟩
      · rw [dP_out N (fun p _ => by omega), upd_ne _ _ (by omega), upd_ne _ _ (by omega), upd_same]
      · rw [dP_out N (fun p _ => by omega), upd_ne _ _ (by omega), upd_same]
      · rw [dP_out N (fun p _ => by omega), upd_same]
      · exact (hz 4 (by omega) (fun p _ => by omega) (by omega) (by omega) (by omega)).symm
      · exact (hz 5 (by omega) (fun p _ => by omega) (by omega) (by omega) (by omega)).symm
      · exact (hz 6 (by omega) (fun p _ => by omega) (by omega) (by omega) (by omega)).symm
      · exact (hz 7 (by omega) (fun p _ => by omega) (by omega) (by omega) (by omega)).symm
      · exact (hz 8 (by omega) (fun p _ => by omega) (by omega) (by omega) (by omega)).symm
      · exact (hz 9 (by omega) (fun p _ => by omega) (by omega) (by omega) (by omega)).symm
      · exact (hz 10 (by omega) (fun p _ => by omega) (by omega) (by omega) (by omega)).symm
      · exact (hz 11 (by omega) (fun p _ => by omega) (by omega) (by omega) (by omega)).symm
      · rw [bnd_cl, hz (16 + 3 * k) (by omega) (fun p _ => by omega) (by omega) (by omega) (by omega)]
        exact ⟨fun q => absurd q (by decide), fun q => absurd q (by decide)⟩
      · rw [bnd_cl] at q
        exact absurd q (by decide)
      · exact absurd hl (nI_pos (by omega))
      · exact ⟨⟨N, hN, rfl⟩, ⟨pr, hpr, rfl⟩, ⟨fe, hfe, rfl⟩, ⟨0, by omega, rfl⟩, ⟨0, by omega, rfl⟩, ⟨0, by omega, rfl⟩, ⟨0, by omega, rfl⟩, ⟨0, by omega, rfl⟩, ⟨0, by omega, rfl⟩, ⟨0, by omega, rfl⟩, ⟨0, by omega, rfl⟩⟩
      · exact hz 15 (by omega) (fun p _ => by omega) (by omega) (by omega) (by omega)
      · exact hz 14 (by omega) (fun p _ => by omega) (by omega) (by omega) (by omega)
    rcases P_loop hT N (clA a0 (nI r)) br (n - e) e 0 da (0, 0, [], fun _ => 0) _ (Nat.le_refl _) hen hic with ⟨e2, ae, hea, ⟨m1, c2⟩, ⟨m2, r2⟩⟩ | ⟨s', da', dm', t', hic2, ⟨m1, c2⟩, ⟨m2, r2⟩⟩
    · refine Or.inl ⟨e2, ae, hea, fun x x3 post hx hp => ?_, fun u mh post hI hps => ?_⟩
      · exact c1 _ x _ _ _ _ hx (fun x' hx' => ⟨m1, c2 x' x3 0 post hx' (by omega) (fun w h1 h2 => h64E w post h1 (hp w h1 h2))⟩)
      · obtain ⟨hu, h0, hpp, he1, hne, hse, hdr⟩ := hI
        refine r1 u 0 _ ⟨hu, h0, hpp, by omega, rfl⟩ (fun u' hf g1 g2 g3 g4 g5 => ⟨m2, r2 u' mh post ⟨g4, g3.trans hne, g2.trans hse, by rw [g5]; exact hSI0 _ hdr⟩ (fun u2 hf2 k1 k2 => r_afterE (by rw [k1]; exact hea) ?_)⟩)
        rw [k1]
        have hf3 := mF_tr hf hf2
        exact hps _ ⟨hf3.1, hf3.2.1, hf3.2.2.1, hf3.2.2.2.1, hf3.2.2.2.2.1, hf3.2.2.2.2.2.1, hf3.2.2.2.2.2.2⟩ k2
    · -- what the forecasts are
      have hFx : ∃ FR : Nat → Int32, (∀ p, p < N → lim (FR p) 9999) ∧ (∀ (x : S_X5) (x3 : S_X3) (post : Int32 → S_X6 × S_X5 × S_X3 × S_X2 → Prop), tk T n n x → (∀ w : S_X6 × S_X5 × S_X3 × S_X2, w.2.1.2.2.2.2.2.2.2.2 = -1 → w.2.2.2 = (t', clF a0 (nI r) FR N, br) → post 0 w) → j_X6_read_64 (nI s', da') x x3 (t', clA a0 (nI r), br) post) ∧ ∀ u : S_X10, SI s' dm' t' u.2.2.2.2.2.2.2.2.2.1 → (∀ p, p < N → u.2.2.2.2.2.2.2.2.2.1 (148 + 5 * p) = nI r) → ∀ p, p < N → ∀ u1 : S_X10, u1.2.2.2.2.2.2.2.2.2.1 = dfo FR p u.2.2.2.2.2.2.2.2.2.1 → ∀ post : Int32 → S_X10 → Prop, (∀ s', post (FR p) (u1.1, u1.2.1, u1.2.2.1, u1.2.2.2.1, u1.2.2.2.2.1, u1.2.2.2.2.2.1, u1.2.2.2.2.2.2.1, u1.2.2.2.2.2.2.2.1, u1.2.2.2.2.2.2.2.2.1, u1.2.2.2.2.2.2.2.2.2.1, u1.2.2.2.2.2.2.2.2.2.2.1, u1.2.2.2.2.2.2.2.2.2.2.2.1, u1.2.2.2.2.2.2.2.2.2.2.2.2.1, u1.2.2.2.2.2.2.2.2.2.2.2.2.2.1, u1.2.2.2.2.2.2.2.2.2.2.2.2.2.2.1, u1.2.2.2.2.2.2.2.2.2.2.2.2.2.2.2.1, u1.2.2.2.2.2.2.2.2.2.2.2.2.2.2.2.2.1, s', u1.2.2.2.2.2.2.2.2.2.2.2.2.2.2.2.2.2.2.1, u1.2.2.2.2.2.2.2.2.2.2.2.2.2.2.2.2.2.2.2.1, u1.2.2.2.2.2.2.2.2.2.2.2.2.2.2.2.2.2.2.2.2.1, u1.2.2.2.2.2.2.2.2.2.2.2.2.2.2.2.2.2.2.2.2.2)) → wp_X10_demand u1 (nI p) post := by
        obtain ⟨i1, i2, i3, htN⟩ := id hic2
        obtain ⟨-, -, b3, -, -⟩ := bit_all s' i1 6 (by omega)
        have e64 : (nI s' &&& (64 : Int32)) = 0 ↔ s'.testBit 6 = false := b3
        cases hb6 : s'.testBit 6 with
        | false =>
          refine ⟨fun _ => nI r, fun _ _ => ⟨r, hr9, rfl⟩, fun x x3 post hx hp => ?_, fun u hSI hres p hp u1 hd post hpp => ?_⟩
          · have hx0 := hx.2.2.1
            refine ⟨fun q => absurd hx0 q, fun _ => ⟨fun _ => ?_, fun q => absurd (e64.mpr hb6) q⟩⟩
            rw [hx0]
            refine hp _ hx.2.2.2.1 ?_
            have ef : ffo (fun _ => nI r) N (fl a0.2.2.1 (nI r)) = fl a0.2.2.1 (nI r) := by
              unfold ffo
              rw [fo_fill (fun _ => nI r)]
              funext j
              by_cases q : j < N
              · rw [if_pos q]
                unfold fl
                rw [if_pos (by omega)]
              · rw [if_neg q]
            unfold clF
            rw [ef]
            rfl
          · have h15 := (hSI.2.2.2.2.1 hb6).1
            refine r_dem (by omega) (r := r) ?_ ?_ ?_
            · rw [hd, dfo_out p (fun p' _ => by omega)]; exact hres p hp
            · rw [hd, dfo_out p (fun p' _ => by omega)]; exact h15
            · have := hpp u1.2.2.2.2.2.2.2.2.2.2.2.2.2.2.2.2.2.1
              exact this
        | true =>
          obtain ⟨j1, j2, j3, j4, j5, j6⟩ := i3 hb6
          refine ⟨fun p => clV (dm'.2.2.2 (nI p, nI r)), fun p _ => clV_lim _, fun x x3 post hx hp => ?_, fun u hSI hres p hp u1 hd post hpp => ?_⟩
          · have hx0 := hx.2.2.1
            refine ⟨fun q => absurd hx0 q, fun _ => ⟨fun q => absurd ((e64.mp q).symm.trans hb6) (by decide), fun _ => ?_⟩⟩
            subst j1
            refine ⟨N + 1, ?_⟩
            refine c_fore hT (s := s') (a := clA a0 (nI r)) (FR := fun p => clV (dm'.2.2.2 (nI p, nI r))) hN htN j2 j3 j6 (fun p hp2 => ?_) N 0 (by omega) x x3 _ (tk_tt hx) (fun x' x3' hx' => ?_)
            · show _ = clV (dm'.2.2.2 (nI p, fl a0.2.1 (nI r) p))
              unfold fl
              rw [if_pos (by omega)]
            · dsimp only
              rw [hx'.2.2.1]
              exact hp _ hx'.2.2.2 rfl
          · obtain ⟨h15, hcd⟩ := hSI.2.2.2.2.2 hb6
            refine r_demV (r := r) (cs := dm'.2.2.1) (val := dm'.2.2.2) (by omega) hr9 ?_ ?_ j4 ?_ j5 hpp
            · rw [hd, dfo_out p (fun p' _ => by omega)]; exact hres p hp
            · rw [hd, dfo_out p (fun p' _ => by omega)]; exact h15
            · rw [hd]
              exact cod_cong hcd (dfo_out p (fun p' _ => by omega)) (fun i hi => dfo_out p (fun p' hp' => by omega))
      obtain ⟨FR, hFl, hFc, hFr⟩ := hFx
      have htN := hic2.2.2.2
      refine Or.inr ⟨N, t', clF a0 (nI r) FR N, htN, fun x x3 post hx hp => ?_, fun u mh mh' ud' post hI hrem hps => ?_⟩
      · exact c1 _ x _ _ _ _ hx (fun x' hx' => ⟨m1, c2 x' x3 0 post hx' (by omega) (fun x2 x3' hx2 => hFc x2 x3' post hx2 hp)⟩)
      · obtain ⟨hu, h0, hpp, he1, hne, hse, hdr⟩ := hI
        refine r1 u 0 _ ⟨hu, h0, hpp, by omega, rfl⟩ (fun u' hf g1 g2 g3 g4 g5 => ⟨m2, r2 u' mh post ⟨g4, g3.trans hne, g2.trans hse, by rw [g5]; exact hSI0 _ hdr⟩ (fun u2 hf2 k1 k2 k3 => ?_)⟩)
        have hf3 := mF_tr hf hf2
        have hSI := k3.2.2.2
        have hdk : ∀ i, (i ≤ 3 ∨ i = 12 ∨ i = 13 ∨ (148 ≤ i ∧ i < 428)) → u2.2.2.2.2.2.2.2.2.2.1 i = fo (dPg (nI r)) N (upd (upd (upd u.2.2.2.2.2.2.2.2.2.1 0 (nI N)) 2 (nI pr)) 3 (nI fe)) i := fun i hi => (k2 i hi).trans (by rw [g5])
        have hd0 : u2.2.2.2.2.2.2.2.2.2.1 0 = nI N := by rw [← hSI.2.1.1.1]; exact htN
        have hres : ∀ p, p < N → u2.2.2.2.2.2.2.2.2.2.1 (148 + 5 * p) = nI r := fun p hp => (hdk _ (by omega)).trans (dP_in N p hp).1
        have hord : ∀ p, p < N → u2.2.2.2.2.2.2.2.2.2.1 (150 + 5 * p) = -1 := fun p hp => (hdk _ (by omega)).trans (dP_in N p hp).2
        have hzz : ∀ i, (i = 1 ∨ i = 12 ∨ i = 13 ∨ (148 ≤ i ∧ i < 428)) → (∀ p, p < N → ¬ i = 148 + 5 * p ∧ ¬ i = 150 + 5 * p) → u2.2.2.2.2.2.2.2.2.2.1 i = 0 := fun i hi h1 => (hdk i (by omega)).trans ((hDc _ i h1 (by omega) (by omega) (by omega)).trans (hdr i (by omega)))
        refine r_after hN (FR := FR) k3.1.2.1 hd0 (hFr u2 hSI hres) (fun ub e1 e2 e3 => hrem ub (e1.trans hf3.2.2.2.2.1) (e2.trans hf3.2.2.2.2.2.1) (e3.trans hf3.2.2.2.2.2.2)) (fun u4 w1 w2 w3 w4 w5 w6 => hps u4 (w1.trans hf3.1) (w2.trans hf3.2.2.1) (w3.trans (k1.trans (g1.trans he1))) w4 ?_)
        have hD : ∀ i, i < 1728 → (∀ p, p < N → ¬ i = 149 + 5 * p) → u4.2.2.2.2.2.2.2.2.1 i = u2.2.2.2.2.2.2.2.2.2.1 i := by
          intro i hi h1
          rw [w5, cpD_in hi]
          exact dfo_out N h1
        obtain ⟨w, hw4, hw⟩ := hSI.2.2.1.2.2.2.2.2.2.2.2.1
        refine ⟨rT_cong hSI.2.1 (fun i hi => hD i (by omega) (fun p _ => by omega)), hSI.2.2.1, ⟨N, 0, hN, htN, by omega, rfl, ⟨?_, fun p hp => ⟨?_, ?_, ?_, ?_, ?_⟩⟩, fun p hp => ⟨?_, ?_, Or.inl ?_, ?_⟩, fun p hp => ?_⟩, ⟨0, w, hw, hw4, ⟨hbr.1, ?_, ?_, fun k hk => absurd hk (by omega)⟩, bB_0 hbr.2.2.1 hbr.2.2.2 w⟩⟩
        · show (0 : Int32) = u4.2.2.2.2.2.2.2.2.1 1
          rw [hD 1 (by omega) (fun p _ => by omega)]
          exact (hzz 1 (by omega) (fun p _ => by omega)).symm
        · show fl a0.2.1 (nI r) p = u4.2.2.2.2.2.2.2.2.1 (148 + 5 * p)
          rw [hD _ (by omega) (fun p' _ => by omega), hres p hp]
          unfold fl
          rw [if_pos (by omega)]
        · show ffo FR N (fl a0.2.2.1 (nI r)) p = u4.2.2.2.2.2.2.2.2.1 (149 + 5 * p)
          rw [ffo_in hp, w5, cpD_in (by omega), dfo_in N p hp]
        · show fl a0.2.2.2.1 (-1) p = u4.2.2.2.2.2.2.2.2.1 (150 + 5 * p)
          rw [hD _ (by omega) (fun p' _ => by omega), hord p hp]
          unfold fl
          rw [if_pos (by omega)]
        · show fl a0.2.2.2.2.1 0 p = u4.2.2.2.2.2.2.2.2.1 (151 + 5 * p)
          rw [hD _ (by omega) (fun p' _ => by omega), hzz _ (by omega) (fun p' _ => by omega)]
          unfold fl
          rw [if_pos (by omega)]
        · show fl a0.2.2.2.2.2.1 0 p = u4.2.2.2.2.2.2.2.2.1 (152 + 5 * p)
          rw [hD _ (by omega) (fun p' _ => by omega), hzz _ (by omega) (fun p' _ => by omega)]
          unfold fl
          rw [if_pos (by omega)]
        · show lim (fl a0.2.1 (nI r) p) 9999
          unfold fl
          rw [if_pos (by omega)]
          exact ⟨r, hr9, rfl⟩
        · show lim (ffo FR N (fl a0.2.2.1 (nI r)) p) 9999
          rw [ffo_in hp]
          exact hFl p hp
        · show fl a0.2.2.2.1 (-1) p = -1
          unfold fl
          rw [if_pos (by omega)]
        · show lim (fl a0.2.2.2.2.1 0 p) 9999
          unfold fl
          rw [if_pos (by omega)]
          exact ⟨0, by omega, rfl⟩
        · show flL a0.2.2.2.2.2.2 0 p = u4.2.2.2.2.2.2.2.2.2.2.2.1 p
          rw [w6]
          unfold flL
          rw [if_pos (by omega), if_pos (by omega)]
        · show br.1 = u4.2.2.2.2.2.2.2.2.1 12
          rw [hD 12 (by omega) (fun p _ => by omega), hzz 12 (by omega) (fun p _ => by omega)]
          exact hbr.1
        · show br.2.1 = u4.2.2.2.2.2.2.2.2.1 13
          rw [hD 13 (by omega) (fun p _ => by omega), hzz 13 (by omega) (fun p _ => by omega)]
          exact hbr.2.1
end
