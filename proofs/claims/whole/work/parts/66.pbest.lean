/-! projected, bestReserved, reserve's loop. -/
def rset (f : Nat → Int32) (p0 e : Nat) (x : Int32) : Nat → Int32 := fun q => if p0 ≤ q ∧ q < e then x else f q
theorem rset_0 (f : Nat → Int32) (p0 : Nat) (x : Int32) : rset f p0 p0 x = f := by
  funext q
  unfold rset
  rw [if_neg (by omega)]
theorem rset_succ (f : Nat → Int32) {p0 k : Nat} (x : Int32) : upd (rset f p0 (p0 + k) x) (p0 + k) x = rset f p0 (p0 + (k + 1)) x := by
  funext q
  by_cases e : q = p0 + k
  · subst e; rw [upd_same]; unfold rset; rw [if_pos (by omega)]
  · rw [upd_ne _ _ e]
    unfold rset
    by_cases h : p0 ≤ q ∧ q < p0 + k
    · rw [if_pos h, if_pos (by omega)]
    · rw [if_neg h, if_neg (by omega)]
theorem rset_at (f : Nat → Int32) (p0 k : Nat) (x : Int32) : rset f p0 (p0 + k) x (p0 + k) = f (p0 + k) := by
  unfold rset
  rw [if_neg (by omega)]
def rct (f : Nat → Int32) (p0 : Nat) (x : Int32) (k : Nat) : Nat := fb_ct (fun j => decide (¬ f (p0 + j) = x)) k
theorem q_reserve (a : S_X0) (p0 j : Nat) (hj : p0 + j ≤ 40) (x : Int32) (post : Int32 → S_X0 → Prop) (h : post (nI (rct a.2.1 p0 x j)) (a.1, (rset a.2.1 p0 (p0 + j) x), a.2.2.1, a.2.2.2.1, a.2.2.2.2.1, a.2.2.2.2.2.1, a.2.2.2.2.2.2)) : wp_X0_reserveFrom a (nI p0) (nI (p0 + j)) x post := by
  unfold wp_X0_reserveFrom
  refine zl_seq (fun k => (nI (p0 + j), x, nI (rct a.2.1 p0 x k), nI (p0 + k), (a.1, (rset a.2.1 p0 (p0 + k) x), a.2.2.1, a.2.2.2.1, a.2.2.2.2.1, a.2.2.2.2.2.1, a.2.2.2.2.2.2))) j ?_ ?_ ?_
  · show _ = (nI (p0 + j), x, nI 0, nI p0, (a.1, (rset a.2.1 p0 p0 x), a.2.2.1, a.2.2.2.1, a.2.2.2.2.1, a.2.2.2.2.2.1, a.2.2.2.2.2.2))
    rw [rset_0]; rfl
  · intro k hk K hK
    have ein : vp_in (nI (p0 + k)) 40 := in_of (by omega) (by omega)
    refine ⟨fun h1 => ?_, fun _ => ⟨ein, fun h1 => ?_, fun h1 => ⟨ein, fun x5 e5 => ?_⟩⟩⟩
    · dsimp only at h1
      rw [le_nI (by omega) (by omega)] at h1; omega
    · dsimp only at h1 ⊢
      rw [cl_nI (by omega), rset_at] at h1
      intro x6 e6
      subst e6
      rw [ix_1]
      have e7 : rct a.2.1 p0 x (k + 1) = rct a.2.1 p0 x k := by
        unfold rct
        rw [fb_ct_succ, if_neg (by simp [h1])]; rfl
      have e8 : rset a.2.1 p0 (p0 + (k + 1)) x = rset a.2.1 p0 (p0 + k) x := by
        rw [← rset_succ, fa_upd_same]
        rw [rset_at]; exact h1
      dsimp only at hK
      rw [e7, e8] at hK
      exact hK
    · dsimp only at h1 e5 ⊢
      rw [cl_nI (by omega), rset_at] at h1
      rw [cl_nI (by omega)]
      intro x6 e6
      subst e6
      rw [ix_1] at e5
      subst e5
      rw [ix_1, rset_succ]
      have e7 : rct a.2.1 p0 x (k + 1) = rct a.2.1 p0 x k + 1 := by
        unfold rct
        rw [fb_ct_succ, if_pos (by simp [h1])]
      dsimp only at hK
      rw [e7] at hK
      exact hK
  · intro K
    refine ⟨fun _ => h, fun h1 => ?_⟩
    dsimp only at h1
    rw [le_nI (by omega) (by omega)] at h1; omega
/-- the reference's rows with the capacities from p0 on -/
def dset (d : Nat → Int32) (p0 e : Nat) (x : Int32) : Nat → Int32 := fun i => if 148 ≤ i ∧ i < 348 ∧ (i - 148) % 5 = 0 ∧ p0 ≤ (i - 148) / 5 ∧ (i - 148) / 5 < e then x else d i
theorem dset_0 (d : Nat → Int32) (p0 : Nat) (x : Int32) : dset d p0 p0 x = d := by
  funext i
  unfold dset
  rw [if_neg (by omega)]
theorem dset_succ (d : Nat → Int32) {p0 k : Nat} (h : p0 + k < 40) (x : Int32) : upd (dset d p0 (p0 + k) x) (148 + 5 * (p0 + k)) x = dset d p0 (p0 + (k + 1)) x := by
  funext i
  by_cases e : i = 148 + 5 * (p0 + k)
  · rw [e, upd_same]; unfold dset; rw [if_pos (by omega)]
  · rw [upd_ne _ _ e]
    unfold dset
    by_cases h2 : 148 ≤ i ∧ i < 348 ∧ (i - 148) % 5 = 0 ∧ p0 ≤ (i - 148) / 5 ∧ (i - 148) / 5 < p0 + k
    · rw [if_pos h2, if_pos (by omega)]
    · rw [if_neg h2, if_neg (by omega)]
theorem dset_at (d : Nat → Int32) (p0 k : Nat) (x : Int32) : dset d p0 (p0 + k) x (148 + 5 * (p0 + k)) = d (148 + 5 * (p0 + k)) := by
  unfold dset
  rw [if_neg (by omega)]
theorem dset_low (d : Nat → Int32) (p0 e : Nat) (x : Int32) {i : Nat} (h : ¬ (148 ≤ i ∧ i < 348)) : dset d p0 e x i = d i := by
  unfold dset
  rw [if_neg (by omega)]
theorem rA_dset {n p0 e : Nat} {a : S_X0} {d : Nat → Int32} (hn : n ≤ 40) (h : rA n a d) (x : Int32) : rA n (a.1, (rset a.2.1 p0 e x), a.2.2.1, a.2.2.2.1, a.2.2.2.2.1, a.2.2.2.2.2.1, a.2.2.2.2.2.2) (dset d p0 e x) := by
  refine ⟨by rw [dset_low _ _ _ _ (by omega)]; exact h.1, fun p hp => ?_⟩
  obtain ⟨h0, h1, h2, h3, h4⟩ := h.2 p hp
  refine ⟨?_, ?_, ?_, ?_, ?_⟩
  · unfold rset dset
    by_cases q : p0 ≤ p ∧ p < e
    · rw [if_pos q, if_pos (by omega)]
    · rw [if_neg q, if_neg (by omega)]; exact h0
  · unfold dset; rw [if_neg (by omega)]; exact h1
  · unfold dset; rw [if_neg (by omega)]; exact h2
  · unfold dset; rw [if_neg (by omega)]; exact h3
  · unfold dset; rw [if_neg (by omega)]; exact h4
theorem bA_rset {n p0 e : Nat} {a : S_X0} (h : bA n a) {x : Int32} (hx : lim x 9999) : bA n (a.1, (rset a.2.1 p0 e x), a.2.2.1, a.2.2.2.1, a.2.2.2.2.1, a.2.2.2.2.2.1, a.2.2.2.2.2.2) := by
  intro p hp
  obtain ⟨h0, h1, h2, h3⟩ := h p hp
  refine ⟨?_, h1, h2, h3⟩
  unfold rset
  by_cases q : p0 ≤ p ∧ p < e
  · rw [if_pos q]; exact hx
  · rw [if_neg q]; exact h0
def cpD (d e : Nat → Int32) : Nat → Int32 := fun k => if k < 1728 then d k else e k
theorem cpD_in {d e : Nat → Int32} {i : Nat} (h : i < 1728) : cpD d e i = d i := if_pos h
/-- projected -/
theorem P_projected {c : S_X2} {u : S_X10} (hC : rC c u.2.2.2.2.2.2.2.2.1 u.2.2.2.2.2.2.2.2.2.2.2.1) (x9 : S_X9) (tr : S_X0) : ∃ (r : Int64) (tr' : S_X0) (fu : Nat → Int32) (sp : Nat → Int64), (∀ post : Int64 → S_X9 × S_X2 × S_X0 → Prop, post r (x9, c, tr') → wp_X9_projected x9 c tr post) ∧ (∀ post : Int64 → S_X10 → Prop, post r ((0 : Int32), u.2.1, u.2.2.1, u.2.2.2.1, u.2.2.2.2.1, u.2.2.2.2.2.1, u.2.2.2.2.2.2.1, u.2.2.2.2.2.2.2.1, u.2.2.2.2.2.2.2.2.1, u.2.2.2.2.2.2.2.2.2.1, fu, u.2.2.2.2.2.2.2.2.2.2.2.1, sp, u.2.2.2.2.2.2.2.2.2.2.2.2.2.1, u.2.2.2.2.2.2.2.2.2.2.2.2.2.2.1, u.2.2.2.2.2.2.2.2.2.2.2.2.2.2.2.1, u.2.2.2.2.2.2.2.2.2.2.2.2.2.2.2.2.1, u.2.2.2.2.2.2.2.2.2.2.2.2.2.2.2.2.2.1, u.2.2.2.2.2.2.2.2.2.2.2.2.2.2.2.2.2.2.1, u.2.2.2.2.2.2.2.2.2.2.2.2.2.2.2.2.2.2.2.1, u.2.2.2.2.2.2.2.2.2.2.2.2.2.2.2.2.2.2.2.2.1, u.2.2.2.2.2.2.2.2.2.2.2.2.2.2.2.2.2.2.2.2.2) → wp_X10_projected u post) := by
  obtain ⟨ht, bt, ⟨n, k, hn, htn, hk, hclk, ra, ba, hi⟩, -⟩ := hC
  have e := eA_cp n hn tr c.2.1
  obtain ⟨a', X, Y, hX, hY, g1, g2⟩ := p_rest hn bt htn (n - k) k (cpA tr c.2.1) (by omega) (e.1.trans hclk) (bA_eA ba e)
  have hT : rT c.1 (cpD u.2.2.2.2.2.2.2.2.1 u.2.2.2.2.2.2.2.2.2.2.1) := rT_cong ht (fun i hi => cpD_in (by omega))
  have hA : rA n (cpA tr c.2.1) (cpD u.2.2.2.2.2.2.2.2.1 u.2.2.2.2.2.2.2.2.2.2.1) := rA_cong hn (rA_eA ra e) (fun i hi => cpD_in (by omega))
  obtain ⟨fu, sp, g3⟩ := g2 _ hT hA ((0 : Int32), u.2.1, u.2.2.1, u.2.2.2.1, u.2.2.2.2.1, u.2.2.2.2.2.1, u.2.2.2.2.2.2.1, u.2.2.2.2.2.2.2.1, u.2.2.2.2.2.2.2.2.1, u.2.2.2.2.2.2.2.2.2.1, (cpD u.2.2.2.2.2.2.2.2.1 u.2.2.2.2.2.2.2.2.2.2.1), u.2.2.2.2.2.2.2.2.2.2.2.1, u.2.2.2.2.2.2.2.2.2.2.2.2.1, u.2.2.2.2.2.2.2.2.2.2.2.2.2.1, u.2.2.2.2.2.2.2.2.2.2.2.2.2.2.1, u.2.2.2.2.2.2.2.2.2.2.2.2.2.2.2.1, u.2.2.2.2.2.2.2.2.2.2.2.2.2.2.2.2.1, u.2.2.2.2.2.2.2.2.2.2.2.2.2.2.2.2.2.1, u.2.2.2.2.2.2.2.2.2.2.2.2.2.2.2.2.2.2.1, u.2.2.2.2.2.2.2.2.2.2.2.2.2.2.2.2.2.2.2.1, u.2.2.2.2.2.2.2.2.2.2.2.2.2.2.2.2.2.2.2.2.1, u.2.2.2.2.2.2.2.2.2.2.2.2.2.2.2.2.2.2.2.2.2) rfl
  refine ⟨0 + (lN X - lN Y), a', fu, sp, ?_, ?_⟩
  · intro post hp
    have g4 := g1 0 (fun r w => post r (x9, (w.2, c.2.1, c.2.2), w.1)) hp
    show ∃ m, zl _ m ((0 : Int64), (cpA tr c.2.1).1, cpA tr c.2.1, c.1)
    rw [e.1, hclk]
    exact g4
  · intro post hp
    exact q_copy _ _ _ (g3 0 _ hp)
