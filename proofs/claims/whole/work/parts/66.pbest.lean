/-! projected, bestReserved, reserve's loop. -/
def rset (f : Nat → Int32) (p0 e : Nat) (x : Int32) : Nat → Int32 := fun q => if p0 ≤ q ∧ q < e then x else f q
theorem rset_0 (f : Nat → Int32) (p0 : Nat) (x : Int32) : rset f p0 p0 x = f := by
  funext q
  unfold rset
  rw [if_neg (by omega)]
theorem rset_succ (f : Nat → Int32) {p0 k : Nat} (x : Int32) : upd (rset f p0 (p0 + k) x) (p0 + k) x = rset f p0 (p0 + (k + 1)) x := by
  funext q
  by_cases e : q = p0 + k
  · subst e; rw [upd_same]; unfold rset; rw [if_pos (by omega)]
  · rw [upd_ne _ _ e]
    unfold rset
    by_cases h : p0 ≤ q ∧ q < p0 + k
    · rw [if_pos h, if_pos (by omega)]
    · rw [if_neg h, if_neg (by omega)]
theorem rset_at (f : Nat → Int32) (p0 k : Nat) (x : Int32) : rset f p0 (p0 + k) x (p0 + k) = f (p0 + k) := by
  unfold rset
  rw [if_neg (by omega)]
def rct (f : Nat → Int32) (p0 : Nat) (x : Int32) (k : Nat) : Nat := fb_ct (fun j => decide (¬ f (p0 + j) = x)) k
theorem q_reserve (a : S_X0) (p0 j : Nat) (hj : p0 + j ≤ 40) (x : Int32) (post : Int32 → S_X0 → Prop) (h : post (nI (rct a.2.1 p0 x j)) (a.1, (rset a.2.1 p0 (p0 + j) x), a.2.2.1, a.2.2.2.1, a.2.2.2.2.1, a.2.2.2.2.2.1, a.2.2.2.2.2.2)) : wp_X0_reserveFrom a (nI p0) (nI (p0 + j)) x post := by
  unfold wp_X0_reserveFrom
  refine zl_seq (fun k => (nI (p0 + j), x, nI (rct a.2.1 p0 x k), nI (p0 + k), (a.1, (rset a.2.1 p0 (p0 + k) x), a.2.2.1, a.2.2.2.1, a.2.2.2.2.1, a.2.2.2.2.2.1, a.2.2.2.2.2.2))) j ?_ ?_ ?_
  · show _ = (nI (p0 + j), x, nI 0, nI p0, (a.1, (rset a.2.1 p0 p0 x), a.2.2.1, a.2.2.2.1, a.2.2.2.2.1, a.2.2.2.2.2.1, a.2.2.2.2.2.2))
    rw [rset_0]; rfl
  · intro k hk K hK
    have ein : vp_in (nI (p0 + k)) 40 := in_of (by omega) (by omega)
    refine ⟨fun h1 => ?_, fun _ => ⟨ein, fun h1 => ?_, fun h1 => ⟨ein, fun x5 e5 => ?_⟩⟩⟩
    · dsimp only at h1
      rw [le_nI (by omega) (by omega)] at h1; omega
    · dsimp only at h1 ⊢
      rw [cl_nI (by omega), rset_at] at h1
      intro x6 e6
      subst e6
      rw [ix_1]
      have e7 : rct a.2.1 p0 x (k + 1) = rct a.2.1 p0 x k := by
        unfold rct
        rw [fb_ct_succ, if_neg (by simp [h1])]; rfl
      have e8 : rset a.2.1 p0 (p0 + (k + 1)) x = rset a.2.1 p0 (p0 + k) x := by
        rw [← rset_succ, fa_upd_same]
        rw [rset_at]; exact h1
      rw [e7, e8] at hK
      exact hK
    · dsimp only at h1 e5 ⊢
      rw [cl_nI (by omega), rset_at] at h1
      rw [cl_nI (by omega)]
      intro x6 e6
      subst e6
      rw [ix_1] at e5
      subst e5
      rw [ix_1, rset_succ]
      have e7 : rct a.2.1 p0 x (k + 1) = rct a.2.1 p0 x k + 1 := by
        unfold rct
        rw [fb_ct_succ, if_pos (by simp [h1])]
      rw [e7] at hK
      exact hK
  · intro K
    refine ⟨fun _ => h, fun h1 => ?_⟩
    dsimp only at h1
    rw [le_nI (by omega) (by omega)] at h1; omega
/-- the reference's rows with the capacities from p0 on -/
def dset (d : Nat → Int32) (p0 e : Nat) (x : Int32) : Nat → Int32 := fun i => if 148 ≤ i ∧ i < 348 ∧ (i - 148) % 5 = 0 ∧ p0 ≤ (i - 148) / 5 ∧ (i - 148) / 5 < e then x else d i
theorem dset_0 (d : Nat → Int32) (p0 : Nat) (x : Int32) : dset d p0 p0 x = d := by
  funext i
  unfold dset
  rw [if_neg (by omega)]
theorem dset_succ (d : Nat → Int32) {p0 k : Nat} (h : p0 + k < 40) (x : Int32) : upd (dset d p0 (p0 + k) x) (148 + 5 * (p0 + k)) x = dset d p0 (p0 + (k + 1)) x := by
  funext i
  by_cases e : i = 148 + 5 * (p0 + k)
  · rw [e, upd_same]; unfold dset; rw [if_pos (by omega)]
  · rw [upd_ne _ _ e]
    unfold dset
    by_cases h2 : 148 ≤ i ∧ i < 348 ∧ (i - 148) % 5 = 0 ∧ p0 ≤ (i - 148) / 5 ∧ (i - 148) / 5 < p0 + k
    · rw [if_pos h2, if_pos (by omega)]
    · rw [if_neg h2, if_neg (by omega)]
theorem dset_at (d : Nat → Int32) (p0 k : Nat) (x : Int32) : dset d p0 (p0 + k) x (148 + 5 * (p0 + k)) = d (148 + 5 * (p0 + k)) := by
  unfold dset
  rw [if_neg (by omega)]
theorem dset_low (d : Nat → Int32) (p0 e : Nat) (x : Int32) {i : Nat} (h : ¬ (148 ≤ i ∧ i < 348)) : dset d p0 e x i = d i := by
  unfold dset
  rw [if_neg (by omega)]
theorem rA_dset {n p0 e : Nat} {a : S_X0} {d : Nat → Int32} (hn : n ≤ 40) (h : rA n a d) (x : Int32) : rA n (a.1, (rset a.2.1 p0 e x), a.2.2.1, a.2.2.2.1, a.2.2.2.2.1, a.2.2.2.2.2.1, a.2.2.2.2.2.2) (dset d p0 e x) := by
  refine ⟨by rw [dset_low _ _ _ _ (by omega)]; exact h.1, fun p hp => ?_⟩
  obtain ⟨h0, h1, h2, h3, h4⟩ := h.2 p hp
  refine ⟨?_, ?_, ?_, ?_, ?_⟩
  · unfold rset dset
    dsimp only
    by_cases q : p0 ≤ p ∧ p < e
    · rw [if_pos q, if_pos (by omega)]
    · rw [if_neg q, if_neg (by omega)]; exact h0
  · unfold dset; rw [if_neg (by omega)]; exact h1
  · unfold dset; rw [if_neg (by omega)]; exact h2
  · unfold dset; rw [if_neg (by omega)]; exact h3
  · unfold dset; rw [if_neg (by omega)]; exact h4
theorem bA_rset {n p0 e : Nat} {a : S_X0} (h : bA n a) {x : Int32} (hx : lim x 9999) : bA n (a.1, (rset a.2.1 p0 e x), a.2.2.1, a.2.2.2.1, a.2.2.2.2.1, a.2.2.2.2.2.1, a.2.2.2.2.2.2) := by
  intro p hp
  obtain ⟨h0, h1, h2, h3⟩ := h p hp
  refine ⟨?_, h1, h2, h3⟩
  unfold rset
  dsimp only
  by_cases q : p0 ≤ p ∧ p < e
  · rw [if_pos q]; exact hx
  · rw [if_neg q]; exact h0
def cpD (d e : Nat → Int32) : Nat → Int32 := fun k => if k < 1728 then d k else e k
theorem cpD_in {d e : Nat → Int32} {i : Nat} (h : i < 1728) : cpD d e i = d i := if_pos h
/-- projected -/
theorem P_projected {c : S_X2} {u : S_X10} (hC : rC c u.2.2.2.2.2.2.2.2.1 u.2.2.2.2.2.2.2.2.2.2.2.1) (x9 : S_X9) (tr : S_X0) : ∃ (r : Int64) (tr' : S_X0) (fu : Nat → Int32) (sp : Nat → Int64), (∀ post : Int64 → S_X9 × S_X2 × S_X0 → Prop, post r (x9, c, tr') → wp_X9_projected x9 c tr post) ∧ (∀ post : Int64 → S_X10 → Prop, post r ((0 : Int32), u.2.1, u.2.2.1, u.2.2.2.1, u.2.2.2.2.1, u.2.2.2.2.2.1, u.2.2.2.2.2.2.1, u.2.2.2.2.2.2.2.1, u.2.2.2.2.2.2.2.2.1, u.2.2.2.2.2.2.2.2.2.1, fu, u.2.2.2.2.2.2.2.2.2.2.2.1, sp, u.2.2.2.2.2.2.2.2.2.2.2.2.2.1, u.2.2.2.2.2.2.2.2.2.2.2.2.2.2.1, u.2.2.2.2.2.2.2.2.2.2.2.2.2.2.2.1, u.2.2.2.2.2.2.2.2.2.2.2.2.2.2.2.2.1, u.2.2.2.2.2.2.2.2.2.2.2.2.2.2.2.2.2.1, u.2.2.2.2.2.2.2.2.2.2.2.2.2.2.2.2.2.2.1, u.2.2.2.2.2.2.2.2.2.2.2.2.2.2.2.2.2.2.2.1, u.2.2.2.2.2.2.2.2.2.2.2.2.2.2.2.2.2.2.2.2.1, u.2.2.2.2.2.2.2.2.2.2.2.2.2.2.2.2.2.2.2.2.2) → wp_X10_projected u post) := by
  obtain ⟨ht, bt, ⟨n, k, hn, htn, hk, hclk, ra, ba, hi⟩, -⟩ := hC
  have e := eA_cp n hn tr c.2.1
  obtain ⟨a', X, Y, hX, hY, g1, g2⟩ := p_rest hn bt htn (n - k) k (cpA tr c.2.1) (by omega) (e.1.trans hclk) (bA_eA ba e)
  have hT : rT c.1 (cpD u.2.2.2.2.2.2.2.2.1 u.2.2.2.2.2.2.2.2.2.2.1) := rT_cong ht (fun i hi => cpD_in (by omega))
  have hA : rA n (cpA tr c.2.1) (cpD u.2.2.2.2.2.2.2.2.1 u.2.2.2.2.2.2.2.2.2.2.1) := rA_cong hn (rA_eA ra e) (fun i hi => cpD_in (by omega))
  obtain ⟨fu, sp, g3⟩ := g2 _ hT hA ((0 : Int32), u.2.1, u.2.2.1, u.2.2.2.1, u.2.2.2.2.1, u.2.2.2.2.2.1, u.2.2.2.2.2.2.1, u.2.2.2.2.2.2.2.1, u.2.2.2.2.2.2.2.2.1, u.2.2.2.2.2.2.2.2.2.1, (cpD u.2.2.2.2.2.2.2.2.1 u.2.2.2.2.2.2.2.2.2.2.1), u.2.2.2.2.2.2.2.2.2.2.2.1, u.2.2.2.2.2.2.2.2.2.2.2.2.1, u.2.2.2.2.2.2.2.2.2.2.2.2.2.1, u.2.2.2.2.2.2.2.2.2.2.2.2.2.2.1, u.2.2.2.2.2.2.2.2.2.2.2.2.2.2.2.1, u.2.2.2.2.2.2.2.2.2.2.2.2.2.2.2.2.1, u.2.2.2.2.2.2.2.2.2.2.2.2.2.2.2.2.2.1, u.2.2.2.2.2.2.2.2.2.2.2.2.2.2.2.2.2.2.1, u.2.2.2.2.2.2.2.2.2.2.2.2.2.2.2.2.2.2.2.1, u.2.2.2.2.2.2.2.2.2.2.2.2.2.2.2.2.2.2.2.2.1, u.2.2.2.2.2.2.2.2.2.2.2.2.2.2.2.2.2.2.2.2.2) rfl
  refine ⟨0 + (lN X - lN Y), a', fu, sp, ?_, ?_⟩
  · intro post hp
    have g4 := g1 0 (fun r w => post r (x9, (w.2, c.2.1, c.2.2), w.1)) hp
    show ∃ m, zl _ m ((0 : Int64), (cpA tr c.2.1).1, cpA tr c.2.1, c.1)
    rw [e.1, hclk]
    exact g4
  · intro post hp
    exact q_copy _ _ _ (g3 0 _ hp)

theorem rset_low (f : Nat → Int32) {p0 e p : Nat} (x : Int32) (h : p < p0) : rset f p0 e x p = f p := if_neg (by omega)
theorem rset_cong {f g : Nat → Int32} {p0 e p : Nat} (x : Int32) (h : f p = g p) : rset f p0 e x p = rset g p0 e x p := by
  unfold rset
  by_cases q : p0 ≤ p ∧ p < e
  · rw [if_pos q, if_pos q]
  · rw [if_neg q, if_neg q]; exact h
/-- one level's costs -/
theorem p_level {n k X0 Y0 : Nat} {c : S_X2} {a0 S : S_X0} {u : S_X10} (hn : n ≤ 40) (hk : k + 1 < n) (bt : bT c.1) (htn : c.1.1 = nI n) (ht : rT c.1 u.2.2.2.2.2.2.2.2.1) (ra : rA n a0 u.2.2.2.2.2.2.2.2.1) (bS : bA n S) (hS : S.1 = nI (k + 1)) (hSr : S.2.1 = a0.2.1) (hclk : a0.1 = nI k)
    (hc2 : ∀ (f d : Nat → Int32), f k = a0.2.1 k → rT c.1 d → rA n (a0.1, f, a0.2.2.1, a0.2.2.2.1, a0.2.2.2.2.1, a0.2.2.2.2.2.1, a0.2.2.2.2.2.2) d → ∃ d' : Nat → Int32, (∀ (b : Nat → Int64) (post : (Nat → Int32) × (Nat → Int64) → Prop), post (d', vp_updL b k (lN X0 - lN Y0)) → wp_X10_closeOne d b post) ∧ rA n (S.1, f, S.2.2.1, S.2.2.2.1, S.2.2.2.2.1, S.2.2.2.2.2.1, S.2.2.2.2.2.2) d' ∧ ∀ i, ¬ (i = 1 ∨ (148 ≤ i ∧ i < 348)) → d' i = d i)
    (x9 : S_X9) (tr : S_X0) (l : Nat) (hl : l ≤ 9999) :
    ∃ (tr' : S_X0) (X Y : Nat) (fu : Nat → Int32) (sp : Nat → Int64), X ≤ 40000000000 ∧ Y ≤ 40000000000 ∧
      (∀ post : Int64 → S_X9 × S_X2 × S_X0 × S_X0 → Prop, post (lN X - lN Y) (x9, c, S, tr') → wp_X9_costsAtLevel x9 c S tr (nI l) post) ∧
      ∀ (K68 : Int32 × Int32 × Int64 × Int32 × S_X10 → Prop) (x1 x2 : Int32) (x3 : Int64) (post : Int32 → S_X10 → Prop),
        ((x2 < 0 → j_X10_bestReserved_144 K68 x1 (nI l) ((lN X0 - lN Y0) + (lN X - lN Y)) (u.1, u.2.1, u.2.2.1, u.2.2.2.1, u.2.2.2.2.1, u.2.2.2.2.2.1, u.2.2.2.2.2.2.1, u.2.2.2.2.2.2.2.1, u.2.2.2.2.2.2.2.2.1, u.2.2.2.2.2.2.2.2.2.1, fu, u.2.2.2.2.2.2.2.2.2.2.2.1, sp, u.2.2.2.2.2.2.2.2.2.2.2.2.2.1, u.2.2.2.2.2.2.2.2.2.2.2.2.2.2.1, u.2.2.2.2.2.2.2.2.2.2.2.2.2.2.2.1, u.2.2.2.2.2.2.2.2.2.2.2.2.2.2.2.2.1, u.2.2.2.2.2.2.2.2.2.2.2.2.2.2.2.2.2.1, u.2.2.2.2.2.2.2.2.2.2.2.2.2.2.2.2.2.2.1, u.2.2.2.2.2.2.2.2.2.2.2.2.2.2.2.2.2.2.2.1, u.2.2.2.2.2.2.2.2.2.2.2.2.2.2.2.2.2.2.2.2.1, u.2.2.2.2.2.2.2.2.2.2.2.2.2.2.2.2.2.2.2.2.2) post) ∧ (¬ x2 < 0 → ((lg_cmp ((lN X0 - lN Y0) + (lN X - lN Y)) x3 < 0 → j_X10_bestReserved_144 K68 x1 (nI l) ((lN X0 - lN Y0) + (lN X - lN Y)) (u.1, u.2.1, u.2.2.1, u.2.2.2.1, u.2.2.2.2.1, u.2.2.2.2.2.1, u.2.2.2.2.2.2.1, u.2.2.2.2.2.2.2.1, u.2.2.2.2.2.2.2.2.1, u.2.2.2.2.2.2.2.2.2.1, fu, u.2.2.2.2.2.2.2.2.2.2.2.1, sp, u.2.2.2.2.2.2.2.2.2.2.2.2.2.1, u.2.2.2.2.2.2.2.2.2.2.2.2.2.2.1, u.2.2.2.2.2.2.2.2.2.2.2.2.2.2.2.1, u.2.2.2.2.2.2.2.2.2.2.2.2.2.2.2.2.1, u.2.2.2.2.2.2.2.2.2.2.2.2.2.2.2.2.2.1, u.2.2.2.2.2.2.2.2.2.2.2.2.2.2.2.2.2.2.1, u.2.2.2.2.2.2.2.2.2.2.2.2.2.2.2.2.2.2.2.1, u.2.2.2.2.2.2.2.2.2.2.2.2.2.2.2.2.2.2.2.2.1, u.2.2.2.2.2.2.2.2.2.2.2.2.2.2.2.2.2.2.2.2.2) post) ∧ (¬ lg_cmp ((lN X0 - lN Y0) + (lN X - lN Y)) x3 < 0 → j_X10_bestReserved_150 K68 x1 x2 x3 (nI l) (u.1, u.2.1, u.2.2.1, u.2.2.2.1, u.2.2.2.2.1, u.2.2.2.2.2.1, u.2.2.2.2.2.2.1, u.2.2.2.2.2.2.2.1, u.2.2.2.2.2.2.2.2.1, u.2.2.2.2.2.2.2.2.2.1, fu, u.2.2.2.2.2.2.2.2.2.2.2.1, sp, u.2.2.2.2.2.2.2.2.2.2.2.2.2.1, u.2.2.2.2.2.2.2.2.2.2.2.2.2.2.1, u.2.2.2.2.2.2.2.2.2.2.2.2.2.2.2.1, u.2.2.2.2.2.2.2.2.2.2.2.2.2.2.2.2.1, u.2.2.2.2.2.2.2.2.2.2.2.2.2.2.2.2.2.1, u.2.2.2.2.2.2.2.2.2.2.2.2.2.2.2.2.2.2.1, u.2.2.2.2.2.2.2.2.2.2.2.2.2.2.2.2.2.2.2.1, u.2.2.2.2.2.2.2.2.2.2.2.2.2.2.2.2.2.2.2.2.1, u.2.2.2.2.2.2.2.2.2.2.2.2.2.2.2.2.2.2.2.2.2) post)))) →
        wp_X10_copy u.2.2.2.2.2.2.2.2.1 u.2.2.2.2.2.2.2.2.2.2.1 (fun w => ∀ x14 : Int32, x14 = (w.1 1) + (1 : Int32) → ∃ m, zl (fun K st => j_X10_bestReserved_95 K K68 st.1 st.2.1 st.2.2.1 st.2.2.2.1 st.2.2.2.2.1 st.2.2.2.2.2 post) m (x1, x2, x3, nI l, x14, (u.1, u.2.1, u.2.2.1, u.2.2.2.1, u.2.2.2.2.1, u.2.2.2.2.2.1, u.2.2.2.2.2.2.1, u.2.2.2.2.2.2.2.1, w.1, u.2.2.2.2.2.2.2.2.2.1, w.2, u.2.2.2.2.2.2.2.2.2.2.2.1, u.2.2.2.2.2.2.2.2.2.2.2.2.1, u.2.2.2.2.2.2.2.2.2.2.2.2.2.1, u.2.2.2.2.2.2.2.2.2.2.2.2.2.2.1, u.2.2.2.2.2.2.2.2.2.2.2.2.2.2.2.1, u.2.2.2.2.2.2.2.2.2.2.2.2.2.2.2.2.1, u.2.2.2.2.2.2.2.2.2.2.2.2.2.2.2.2.2.1, u.2.2.2.2.2.2.2.2.2.2.2.2.2.2.2.2.2.2.1, u.2.2.2.2.2.2.2.2.2.2.2.2.2.2.2.2.2.2.2.1, u.2.2.2.2.2.2.2.2.2.2.2.2.2.2.2.2.2.2.2.2.1, u.2.2.2.2.2.2.2.2.2.2.2.2.2.2.2.2.2.2.2.2.2))) := by
  have e := eA_cp n hn tr S
  have bC : bA n ((cpA tr S).1, (rset (cpA tr S).2.1 (k + 1) (k + 1 + (n - (k + 1))) (nI l)), (cpA tr S).2.2.1, (cpA tr S).2.2.2.1, (cpA tr S).2.2.2.2.1, (cpA tr S).2.2.2.2.2.1, (cpA tr S).2.2.2.2.2.2) := bA_rset (bA_eA bS e) ⟨l, hl, rfl⟩
  obtain ⟨a', X, Y, hX, hY, g1, g2⟩ := p_rest hn bt htn (n - (k + 1)) (k + 1) ((cpA tr S).1, (rset (cpA tr S).2.1 (k + 1) (k + 1 + (n - (k + 1))) (nI l)), (cpA tr S).2.2.1, (cpA tr S).2.2.2.1, (cpA tr S).2.2.2.2.1, (cpA tr S).2.2.2.2.2.1, (cpA tr S).2.2.2.2.2.2) (by omega) (e.1.trans hS) bC
  have hT : rT c.1 (cpD u.2.2.2.2.2.2.2.2.1 u.2.2.2.2.2.2.2.2.2.2.1) := rT_cong ht (fun i hi => cpD_in (by omega))
  have hA : rA n a0 (cpD u.2.2.2.2.2.2.2.2.1 u.2.2.2.2.2.2.2.2.2.2.1) := rA_cong hn ra (fun i hi => cpD_in (by omega))
  have hT2 : rT c.1 (dset (cpD u.2.2.2.2.2.2.2.2.1 u.2.2.2.2.2.2.2.2.2.2.1) (k + 1) (k + 1 + (n - (k + 1))) (nI l)) := rT_cong hT (fun i hi => dset_low _ _ _ _ (by omega))
  obtain ⟨d', q1, q2, q3⟩ := hc2 (rset a0.2.1 (k + 1) (k + 1 + (n - (k + 1))) (nI l)) _ (rset_low _ _ (by omega)) hT2 (rA_dset hn hA (nI l))
  have hd1 : d' 1 = nI (k + 1) := by rw [← q2.1]; exact hS
  have hT3 : rT c.1 d' := rT_cong hT2 (fun i hi => q3 i (by omega))
  have hA3 : rA n ((cpA tr S).1, (rset (cpA tr S).2.1 (k + 1) (k + 1 + (n - (k + 1))) (nI l)), (cpA tr S).2.2.1, (cpA tr S).2.2.2.1, (cpA tr S).2.2.2.2.1, (cpA tr S).2.2.2.2.2.1, (cpA tr S).2.2.2.2.2.2) d' := by
    refine rA_eA q2 ⟨e.1, fun p hp => ?_⟩
    obtain ⟨e0, e1, e2, e3, e4, e5⟩ := e.2 p hp
    refine ⟨?_, e1, e2, e3, e4, e5⟩
    exact rset_cong _ (e0.trans (by rw [hSr]))
  obtain ⟨fu, sp, g3⟩ := g2 d' hT3 hA3 (u.1, u.2.1, u.2.2.1, u.2.2.2.1, u.2.2.2.2.1, u.2.2.2.2.2.1, u.2.2.2.2.2.2.1, u.2.2.2.2.2.2.2.1, u.2.2.2.2.2.2.2.2.1, u.2.2.2.2.2.2.2.2.2.1, d', u.2.2.2.2.2.2.2.2.2.2.2.1, (vp_updL u.2.2.2.2.2.2.2.2.2.2.2.2.1 k (lN X0 - lN Y0)), u.2.2.2.2.2.2.2.2.2.2.2.2.2.1, u.2.2.2.2.2.2.2.2.2.2.2.2.2.2.1, u.2.2.2.2.2.2.2.2.2.2.2.2.2.2.2.1, u.2.2.2.2.2.2.2.2.2.2.2.2.2.2.2.2.1, u.2.2.2.2.2.2.2.2.2.2.2.2.2.2.2.2.2.1, u.2.2.2.2.2.2.2.2.2.2.2.2.2.2.2.2.2.2.1, u.2.2.2.2.2.2.2.2.2.2.2.2.2.2.2.2.2.2.2.1, u.2.2.2.2.2.2.2.2.2.2.2.2.2.2.2.2.2.2.2.2.1, u.2.2.2.2.2.2.2.2.2.2.2.2.2.2.2.2.2.2.2.2.2) rfl
  refine ⟨a', X, Y, fu, sp, by omega, by omega, ?_, ?_⟩
  · intro post hp
    have e9 : n = k + 1 + (n - (k + 1)) := by omega
    show wp_X0_reserveFrom (cpA tr S) (cpA tr S).1 c.1.1 (nI l) _
    rw [htn, e.1, hS]
    have g4 := g1 0 (fun r w => post r (x9, (w.2, c.2.1, c.2.2), S, w.1)) (by rw [Int64.zero_add]; exact hp)
    have key := q_reserve (cpA tr S) (k + 1) (n - (k + 1)) (by omega) (nI l) (fun r_4 u_3 => wp_X0_closeRest u_3 c.1 (fun r_6 u_5 => post r_6 (x9, (u_5.2, c.2.1, c.2.2), S, u_5.1))) (by
      show ∃ m, zl _ m ((0 : Int64), (cpA tr S).1, ((cpA tr S).1, (rset (cpA tr S).2.1 (k + 1) (k + 1 + (n - (k + 1))) (nI l)), (cpA tr S).2.2.1, (cpA tr S).2.2.2.1, (cpA tr S).2.2.2.2.1, (cpA tr S).2.2.2.2.2.1, (cpA tr S).2.2.2.2.2.2), c.1)
      have hcl : (cpA tr S).1 = nI (k + 1) := e.1.trans hS
      rw [hcl] at g4 ⊢
      exact g4)
    rw [← e9] at key
    exact key
  · intro K68 x1 x2 x3 post hp
    refine q_copy _ _ _ ?_
    intro x14 e14
    have hdk : u.2.2.2.2.2.2.2.2.1 1 = nI k := by rw [← ra.1]; exact hclk
    have hd0 : u.2.2.2.2.2.2.2.2.1 0 = nI n := by rw [← ht.1.1]; exact htn
    dsimp only at e14
    rw [hdk, ix_1] at e14
    subst e14
    refine zl_seq (fun j => (x1, x2, x3, nI l, nI (k + 1 + j), (u.1, u.2.1, u.2.2.1, u.2.2.2.1, u.2.2.2.2.1, u.2.2.2.2.2.1, u.2.2.2.2.2.2.1, u.2.2.2.2.2.2.2.1, u.2.2.2.2.2.2.2.2.1, u.2.2.2.2.2.2.2.2.2.1, (dset (cpD u.2.2.2.2.2.2.2.2.1 u.2.2.2.2.2.2.2.2.2.2.1) (k + 1) (k + 1 + j) (nI l)), u.2.2.2.2.2.2.2.2.2.2.2.1, u.2.2.2.2.2.2.2.2.2.2.2.2.1, u.2.2.2.2.2.2.2.2.2.2.2.2.2.1, u.2.2.2.2.2.2.2.2.2.2.2.2.2.2.1, u.2.2.2.2.2.2.2.2.2.2.2.2.2.2.2.1, u.2.2.2.2.2.2.2.2.2.2.2.2.2.2.2.2.1, u.2.2.2.2.2.2.2.2.2.2.2.2.2.2.2.2.2.1, u.2.2.2.2.2.2.2.2.2.2.2.2.2.2.2.2.2.2.1, u.2.2.2.2.2.2.2.2.2.2.2.2.2.2.2.2.2.2.2.1, u.2.2.2.2.2.2.2.2.2.2.2.2.2.2.2.2.2.2.2.2.1, u.2.2.2.2.2.2.2.2.2.2.2.2.2.2.2.2.2.2.2.2.2))) (n - (k + 1)) ?_ ?_ ?_
    · show _ = (x1, x2, x3, nI l, nI (k + 1), (u.1, u.2.1, u.2.2.1, u.2.2.2.1, u.2.2.2.2.1, u.2.2.2.2.2.1, u.2.2.2.2.2.2.1, u.2.2.2.2.2.2.2.1, u.2.2.2.2.2.2.2.2.1, u.2.2.2.2.2.2.2.2.2.1, (dset (cpD u.2.2.2.2.2.2.2.2.1 u.2.2.2.2.2.2.2.2.2.2.1) (k + 1) (k + 1) (nI l)), u.2.2.2.2.2.2.2.2.2.2.2.1, u.2.2.2.2.2.2.2.2.2.2.2.2.1, u.2.2.2.2.2.2.2.2.2.2.2.2.2.1, u.2.2.2.2.2.2.2.2.2.2.2.2.2.2.1, u.2.2.2.2.2.2.2.2.2.2.2.2.2.2.2.1, u.2.2.2.2.2.2.2.2.2.2.2.2.2.2.2.2.1, u.2.2.2.2.2.2.2.2.2.2.2.2.2.2.2.2.2.1, u.2.2.2.2.2.2.2.2.2.2.2.2.2.2.2.2.2.2.1, u.2.2.2.2.2.2.2.2.2.2.2.2.2.2.2.2.2.2.2.1, u.2.2.2.2.2.2.2.2.2.2.2.2.2.2.2.2.2.2.2.2.1, u.2.2.2.2.2.2.2.2.2.2.2.2.2.2.2.2.2.2.2.2.2))
      rw [dset_0]; rfl
    · intro j hj K hK
      refine ⟨fun h1 => ?_, fun _ => ?_⟩
      · dsimp only at h1
        rw [hd0, le_nI (by omega) (by omega)] at h1; omega
      · dsimp only
        unfold wp_X10_period
        rw [ix_per]
        refine ⟨in_of (by omega) (by omega), fun x23 e23 => ?_⟩
        rw [ix_1] at e23
        subst e23
        rw [cl_nI (by omega), dset_succ _ (by omega)]
        exact hK
    · intro K
      refine ⟨fun _ => ?_, fun h1 => ?_⟩
      · refine zl_step (s' := ((0 : Int64) + (lN X0 - lN Y0), (u.1, u.2.1, u.2.2.1, u.2.2.2.1, u.2.2.2.2.1, u.2.2.2.2.2.1, u.2.2.2.2.2.2.1, u.2.2.2.2.2.2.2.1, u.2.2.2.2.2.2.2.2.1, u.2.2.2.2.2.2.2.2.2.1, d', u.2.2.2.2.2.2.2.2.2.2.2.1, (vp_updL u.2.2.2.2.2.2.2.2.2.2.2.2.1 k (lN X0 - lN Y0)), u.2.2.2.2.2.2.2.2.2.2.2.2.2.1, u.2.2.2.2.2.2.2.2.2.2.2.2.2.2.1, u.2.2.2.2.2.2.2.2.2.2.2.2.2.2.2.1, u.2.2.2.2.2.2.2.2.2.2.2.2.2.2.2.2.1, u.2.2.2.2.2.2.2.2.2.2.2.2.2.2.2.2.2.1, u.2.2.2.2.2.2.2.2.2.2.2.2.2.2.2.2.2.2.1, u.2.2.2.2.2.2.2.2.2.2.2.2.2.2.2.2.2.2.2.1, u.2.2.2.2.2.2.2.2.2.2.2.2.2.2.2.2.2.2.2.2.1, u.2.2.2.2.2.2.2.2.2.2.2.2.2.2.2.2.2.2.2.2.2))) (fun K' hK' => ⟨fun h => ?_, fun _ => ⟨fun h => absurd h (by decide), fun _ => ?_⟩⟩) (g3 _ _ ?_)
        · dsimp only at h
          rw [dset_low _ _ _ _ (by omega), dset_low _ _ _ _ (by omega), cpD_in (by omega), cpD_in (by omega), hd0, hdk, le_nI (by omega) (by omega)] at h; omega
        · refine q1 _ _ ?_
          dsimp only
          rw [hd1, nI_pred]
          refine ⟨in_of (by omega) (by omega), fun x7 e7 => ?_⟩
          rw [cl_nI (by omega), updL_same] at e7
          subst e7
          exact hK'
        · rw [Int64.zero_add]
          exact hp
      · dsimp only at h1
        rw [hd0, le_nI (by omega) (by omega)] at h1; omega
theorem l_cmp {X0 Y0 X Y X' Y' : Nat} (h0 : X0 ≤ 40000000000) (h1 : Y0 ≤ 40000000000) (h2 : X ≤ 40000000000) (h3 : Y ≤ 40000000000) (h4 : X' ≤ 40000000000) (h5 : Y' ≤ 40000000000) : ((lN X0 - lN Y0) + (lN X - lN Y) < (lN X0 - lN Y0) + (lN X' - lN Y')) ↔ (lN X - lN Y < lN X' - lN Y') := by
  have e0 := l_toInt (X := X0) (Y := Y0) (by omega) (by omega)
  have e1 := l_toInt (X := X) (Y := Y) (by omega) (by omega)
  have e2 := l_toInt (X := X') (Y := Y') (by omega) (by omega)
  rw [fa_lt64, fa_lt64, fb_addL (by omega) (by omega), fb_addL (by omega) (by omega)]
  omega

theorem p_levels {n k X0 Y0 lm : Nat} {c : S_X2} {a0 S : S_X0} (hn : n ≤ 40) (hk : k + 1 < n) (bt : bT c.1) (htn : c.1.1 = nI n) (hX0 : X0 ≤ 1000000000) (hY0 : Y0 ≤ 1000000000) (dd : Nat → Int32) (ht : rT c.1 dd) (ra : rA n a0 dd) (bS : bA n S) (hS : S.1 = nI (k + 1)) (hSr : S.2.1 = a0.2.1) (hclk : a0.1 = nI k)
    (hc2 : ∀ (f d : Nat → Int32), f k = a0.2.1 k → rT c.1 d → rA n (a0.1, f, a0.2.2.1, a0.2.2.2.1, a0.2.2.2.2.1, a0.2.2.2.2.2.1, a0.2.2.2.2.2.2) d → ∃ d' : Nat → Int32, (∀ (b : Nat → Int64) (post : (Nat → Int32) × (Nat → Int64) → Prop), post (d', vp_updL b k (lN X0 - lN Y0)) → wp_X10_closeOne d b post) ∧ rA n (S.1, f, S.2.2.1, S.2.2.2.1, S.2.2.2.2.1, S.2.2.2.2.2.1, S.2.2.2.2.2.2) d' ∧ ∀ i, ¬ (i = 1 ∨ (148 ≤ i ∧ i < 348)) → d' i = d i)
    (x9 : S_X9) (hlm : lm ≤ 500) : ∀ (j l : Nat), l + j = lm + 1 → ∀ (bst X Y : Nat) (tr : S_X0) (u : S_X10), u.2.2.2.2.2.2.2.2.1 = dd → bst ≤ 500 → X ≤ 40000000000 → Y ≤ 40000000000 →
    ∃ (b' : Nat) (tr' : S_X0) (fu : Nat → Int32) (sp : Nat → Int64),
      (∀ post : Int32 → S_X9 × S_X2 × S_X0 × S_X0 → Prop, post (nI b') (x9, c, S, tr') → ∃ m, zl (fun K st => j_X9_cheapestLevel_40 K st.1 st.2.1 st.2.2.1 st.2.2.2.1 st.2.2.2.2.1 st.2.2.2.2.2.1 st.2.2.2.2.2.2.1 st.2.2.2.2.2.2.2 post) m (nI lm, nI bst, lN X - lN Y, nI l, x9, c, S, tr)) ∧
      (∀ post : Int32 → S_X10 → Prop, post (nI b') (u.1, u.2.1, u.2.2.1, u.2.2.2.1, u.2.2.2.2.1, u.2.2.2.2.2.1, u.2.2.2.2.2.2.1, u.2.2.2.2.2.2.2.1, u.2.2.2.2.2.2.2.2.1, u.2.2.2.2.2.2.2.2.2.1, fu, u.2.2.2.2.2.2.2.2.2.2.2.1, sp, u.2.2.2.2.2.2.2.2.2.2.2.2.2.1, u.2.2.2.2.2.2.2.2.2.2.2.2.2.2.1, u.2.2.2.2.2.2.2.2.2.2.2.2.2.2.2.1, u.2.2.2.2.2.2.2.2.2.2.2.2.2.2.2.2.1, u.2.2.2.2.2.2.2.2.2.2.2.2.2.2.2.2.2.1, u.2.2.2.2.2.2.2.2.2.2.2.2.2.2.2.2.2.2.1, u.2.2.2.2.2.2.2.2.2.2.2.2.2.2.2.2.2.2.2.1, u.2.2.2.2.2.2.2.2.2.2.2.2.2.2.2.2.2.2.2.2.1, u.2.2.2.2.2.2.2.2.2.2.2.2.2.2.2.2.2.2.2.2.2) → ∃ m, zl (fun K st => j_X10_bestReserved_68 K st.1 st.2.1 st.2.2.1 st.2.2.2.1 st.2.2.2.2 post) m (nI lm, nI bst, (lN X0 - lN Y0) + (lN X - lN Y), nI l, u)) := by
  intro j
  induction j with
  | zero =>
    intro l hlj bst X Y tr u hu hb hX hY
    refine ⟨bst, tr, u.2.2.2.2.2.2.2.2.2.2.1, u.2.2.2.2.2.2.2.2.2.2.2.2.1, ?_, ?_⟩
    · intro post hp
      refine zl_exit (fun K => ⟨fun _ => hp, fun h => ?_⟩)
      exact absurd ((lt_nI (by omega) (by omega)).mpr (by omega)) h
    · intro post hp
      refine zl_exit (fun K => ⟨fun _ => hp, fun h => ?_⟩)
      exact absurd ((lt_nI (by omega) (by omega)).mpr (by omega)) h
  | succ j ih =>
    intro l hlj bst X Y tr u hu hb hX hY
    have ht' : rT c.1 u.2.2.2.2.2.2.2.2.1 := by rw [hu]; exact ht
    have ra' : rA n a0 u.2.2.2.2.2.2.2.2.1 := by rw [hu]; exact ra
    obtain ⟨tr1, X1, Y1, fu1, sp1, hX1, hY1, g1, g2⟩ := p_level hn hk bt htn ht' ra' bS hS hSr hclk hc2 x9 tr l (by omega)
    have hnl : ¬ nI lm < nI l := fun h => by rw [lt_nI (by omega) (by omega)] at h; omega
    have hcmp := l_cmp (X0 := X0) (Y0 := Y0) (X := X1) (Y := Y1) (X' := X) (Y' := Y) (by omega) (by omega) hX1 hY1 hX hY
    by_cases hlt : lN X1 - lN Y1 < lN X - lN Y
    · obtain ⟨b', tr', fu, sp, k1, k2⟩ := ih (l + 1) (by omega) l X1 Y1 tr1 (u.1, u.2.1, u.2.2.1, u.2.2.2.1, u.2.2.2.2.1, u.2.2.2.2.2.1, u.2.2.2.2.2.2.1, u.2.2.2.2.2.2.2.1, u.2.2.2.2.2.2.2.2.1, u.2.2.2.2.2.2.2.2.2.1, fu1, u.2.2.2.2.2.2.2.2.2.2.2.1, sp1, u.2.2.2.2.2.2.2.2.2.2.2.2.2.1, u.2.2.2.2.2.2.2.2.2.2.2.2.2.2.1, u.2.2.2.2.2.2.2.2.2.2.2.2.2.2.2.1, u.2.2.2.2.2.2.2.2.2.2.2.2.2.2.2.2.1, u.2.2.2.2.2.2.2.2.2.2.2.2.2.2.2.2.2.1, u.2.2.2.2.2.2.2.2.2.2.2.2.2.2.2.2.2.2.1, u.2.2.2.2.2.2.2.2.2.2.2.2.2.2.2.2.2.2.2.1, u.2.2.2.2.2.2.2.2.2.2.2.2.2.2.2.2.2.2.2.2.1, u.2.2.2.2.2.2.2.2.2.2.2.2.2.2.2.2.2.2.2.2.2) hu (by omega) hX1 hY1
      refine ⟨b', tr', fu, sp, ?_, ?_⟩
      · intro post hp
        refine zl_step (s' := (nI lm, nI l, lN X1 - lN Y1, nI (l + 1), x9, c, S, tr1)) (fun K hK => ⟨fun h => absurd h hnl, fun _ => g1 _ ⟨fun h => ?_, fun _ => ?_⟩⟩) (k1 post hp)
        · exact absurd hlt ((lg_ge _ _).mp h)
        · intro x11 e11
          rw [ix_1] at e11
          subst e11
          exact hK
      · intro post hp
        refine zl_step (s' := (nI lm, nI l, (lN X0 - lN Y0) + (lN X1 - lN Y1), nI (l + 1), (u.1, u.2.1, u.2.2.1, u.2.2.2.1, u.2.2.2.2.1, u.2.2.2.2.2.1, u.2.2.2.2.2.2.1, u.2.2.2.2.2.2.2.1, u.2.2.2.2.2.2.2.2.1, u.2.2.2.2.2.2.2.2.2.1, fu1, u.2.2.2.2.2.2.2.2.2.2.2.1, sp1, u.2.2.2.2.2.2.2.2.2.2.2.2.2.1, u.2.2.2.2.2.2.2.2.2.2.2.2.2.2.1, u.2.2.2.2.2.2.2.2.2.2.2.2.2.2.2.1, u.2.2.2.2.2.2.2.2.2.2.2.2.2.2.2.2.1, u.2.2.2.2.2.2.2.2.2.2.2.2.2.2.2.2.2.1, u.2.2.2.2.2.2.2.2.2.2.2.2.2.2.2.2.2.2.1, u.2.2.2.2.2.2.2.2.2.2.2.2.2.2.2.2.2.2.2.1, u.2.2.2.2.2.2.2.2.2.2.2.2.2.2.2.2.2.2.2.2.1, u.2.2.2.2.2.2.2.2.2.2.2.2.2.2.2.2.2.2.2.2.2))) (fun K hK => ⟨fun h => absurd h hnl, fun _ => g2 K _ _ _ post ⟨fun h => absurd h (nI_pos (by omega)), fun _ => ⟨fun _ => ?_, fun h => ?_⟩⟩⟩) (k2 post hp)
        · intro x24 e24
          rw [ix_1] at e24
          subst e24
          exact hK
        · exact absurd ((lg_lt _ _).mpr (hcmp.mpr hlt)) h
    · obtain ⟨b', tr', fu, sp, k1, k2⟩ := ih (l + 1) (by omega) bst X Y tr1 (u.1, u.2.1, u.2.2.1, u.2.2.2.1, u.2.2.2.2.1, u.2.2.2.2.2.1, u.2.2.2.2.2.2.1, u.2.2.2.2.2.2.2.1, u.2.2.2.2.2.2.2.2.1, u.2.2.2.2.2.2.2.2.2.1, fu1, u.2.2.2.2.2.2.2.2.2.2.2.1, sp1, u.2.2.2.2.2.2.2.2.2.2.2.2.2.1, u.2.2.2.2.2.2.2.2.2.2.2.2.2.2.1, u.2.2.2.2.2.2.2.2.2.2.2.2.2.2.2.1, u.2.2.2.2.2.2.2.2.2.2.2.2.2.2.2.2.1, u.2.2.2.2.2.2.2.2.2.2.2.2.2.2.2.2.2.1, u.2.2.2.2.2.2.2.2.2.2.2.2.2.2.2.2.2.2.1, u.2.2.2.2.2.2.2.2.2.2.2.2.2.2.2.2.2.2.2.1, u.2.2.2.2.2.2.2.2.2.2.2.2.2.2.2.2.2.2.2.2.1, u.2.2.2.2.2.2.2.2.2.2.2.2.2.2.2.2.2.2.2.2.2) hu hb hX hY
      refine ⟨b', tr', fu, sp, ?_, ?_⟩
      · intro post hp
        refine zl_step (s' := (nI lm, nI bst, lN X - lN Y, nI (l + 1), x9, c, S, tr1)) (fun K hK => ⟨fun h => absurd h hnl, fun _ => g1 _ ⟨fun _ => ?_, fun h => ?_⟩⟩) (k1 post hp)
        · intro x11 e11
          rw [ix_1] at e11
          subst e11
          exact hK
        · exact absurd ((lg_ge _ _).mpr hlt) h
      · intro post hp
        refine zl_step (s' := (nI lm, nI bst, (lN X0 - lN Y0) + (lN X - lN Y), nI (l + 1), (u.1, u.2.1, u.2.2.1, u.2.2.2.1, u.2.2.2.2.1, u.2.2.2.2.2.1, u.2.2.2.2.2.2.1, u.2.2.2.2.2.2.2.1, u.2.2.2.2.2.2.2.2.1, u.2.2.2.2.2.2.2.2.2.1, fu1, u.2.2.2.2.2.2.2.2.2.2.2.1, sp1, u.2.2.2.2.2.2.2.2.2.2.2.2.2.1, u.2.2.2.2.2.2.2.2.2.2.2.2.2.2.1, u.2.2.2.2.2.2.2.2.2.2.2.2.2.2.2.1, u.2.2.2.2.2.2.2.2.2.2.2.2.2.2.2.2.1, u.2.2.2.2.2.2.2.2.2.2.2.2.2.2.2.2.2.1, u.2.2.2.2.2.2.2.2.2.2.2.2.2.2.2.2.2.2.1, u.2.2.2.2.2.2.2.2.2.2.2.2.2.2.2.2.2.2.2.1, u.2.2.2.2.2.2.2.2.2.2.2.2.2.2.2.2.2.2.2.2.1, u.2.2.2.2.2.2.2.2.2.2.2.2.2.2.2.2.2.2.2.2.2))) (fun K hK => ⟨fun h => absurd h hnl, fun _ => g2 K _ _ _ post ⟨fun h => absurd h (nI_pos (by omega)), fun _ => ⟨fun h => ?_, fun _ => ?_⟩⟩⟩) (k2 post hp)
        · exact absurd (hcmp.mp ((lg_lt _ _).mp h)) hlt
        · intro x24 e24
          rw [ix_1] at e24
          subst e24
          exact hK
/-- the best reservation, where there is a later period -/
theorem P_cheapest {c : S_X2} {u : S_X10} {n k lm : Nat} (hn : n ≤ 40) (hk : k + 1 < n) (bt : bT c.1) (htn : c.1.1 = nI n) (ht : rT c.1 u.2.2.2.2.2.2.2.2.1) (hclk : c.2.1.1 = nI k) (ra : rA n c.2.1 u.2.2.2.2.2.2.2.2.1) (ba : bA n c.2.1) (hlm : lm ≤ 500) (x9 : S_X9) (st tr : S_X0) :
    ∃ (b' : Nat) (st' tr' : S_X0) (fu : Nat → Int32) (sp : Nat → Int64),
      (∀ post : Int32 → S_X9 × S_X2 × S_X0 × S_X0 → Prop, post (nI b') (x9, c, st', tr') → wp_X9_cheapestLevel x9 c st tr (nI lm) post) ∧
      (∀ post : Int32 → S_X10 → Prop, post (nI b') (u.1, u.2.1, u.2.2.1, u.2.2.2.1, u.2.2.2.2.1, u.2.2.2.2.2.1, u.2.2.2.2.2.2.1, u.2.2.2.2.2.2.2.1, u.2.2.2.2.2.2.2.2.1, u.2.2.2.2.2.2.2.2.2.1, fu, u.2.2.2.2.2.2.2.2.2.2.2.1, sp, u.2.2.2.2.2.2.2.2.2.2.2.2.2.1, u.2.2.2.2.2.2.2.2.2.2.2.2.2.2.1, u.2.2.2.2.2.2.2.2.2.2.2.2.2.2.2.1, u.2.2.2.2.2.2.2.2.2.2.2.2.2.2.2.2.1, u.2.2.2.2.2.2.2.2.2.2.2.2.2.2.2.2.2.1, u.2.2.2.2.2.2.2.2.2.2.2.2.2.2.2.2.2.2.1, u.2.2.2.2.2.2.2.2.2.2.2.2.2.2.2.2.2.2.2.1, u.2.2.2.2.2.2.2.2.2.2.2.2.2.2.2.2.2.2.2.2.1, u.2.2.2.2.2.2.2.2.2.2.2.2.2.2.2.2.2.2.2.2.2) → ∃ m, zl (fun K st => j_X10_bestReserved_68 K st.1 st.2.1 st.2.2.1 st.2.2.2.1 st.2.2.2.2 post) m (nI lm, (-1 : Int32), (0 : Int64), (0 : Int32), u)) := by
  have e := eA_cp n hn st c.2.1
  have ra0 : rA n (cpA st c.2.1) u.2.2.2.2.2.2.2.2.1 := rA_eA ra e
  have hclk0 : (cpA st c.2.1).1 = nI k := e.1.trans hclk
  obtain ⟨od, o', m', X0, Y0, hX0, hY0, b1, c1, c2⟩ := p_close hn (by omega) hclk0 bt htn (bA_eA ba e)
  obtain ⟨tr1, X1, Y1, fu1, sp1, hX1, hY1, g1, g2⟩ := p_level hn hk bt htn ht ra0 b1 rfl rfl hclk0 c2 x9 tr 0 (by omega)
  obtain ⟨b', tr', fu, sp, k1, k2⟩ := p_levels hn hk bt htn hX0 hY0 u.2.2.2.2.2.2.2.2.1 ht ra0 b1 rfl rfl hclk0 c2 x9 hlm lm 1 (by omega) 0 X1 Y1 tr1 (u.1, u.2.1, u.2.2.1, u.2.2.2.1, u.2.2.2.2.1, u.2.2.2.2.2.1, u.2.2.2.2.2.2.1, u.2.2.2.2.2.2.2.1, u.2.2.2.2.2.2.2.2.1, u.2.2.2.2.2.2.2.2.2.1, fu1, u.2.2.2.2.2.2.2.2.2.2.2.1, sp1, u.2.2.2.2.2.2.2.2.2.2.2.2.2.1, u.2.2.2.2.2.2.2.2.2.2.2.2.2.2.1, u.2.2.2.2.2.2.2.2.2.2.2.2.2.2.2.1, u.2.2.2.2.2.2.2.2.2.2.2.2.2.2.2.2.1, u.2.2.2.2.2.2.2.2.2.2.2.2.2.2.2.2.2.1, u.2.2.2.2.2.2.2.2.2.2.2.2.2.2.2.2.2.2.1, u.2.2.2.2.2.2.2.2.2.2.2.2.2.2.2.2.2.2.2.1, u.2.2.2.2.2.2.2.2.2.2.2.2.2.2.2.2.2.2.2.2.1, u.2.2.2.2.2.2.2.2.2.2.2.2.2.2.2.2.2.2.2.2.2) rfl (by omega) hX1 hY1
  refine ⟨b', ((nI (k + 1)), (cpA st c.2.1).2.1, (cpA st c.2.1).2.2.1, od, o', m', (vp_updL (cpA st c.2.1).2.2.2.2.2.2 k (lN X0 - lN Y0))), tr', fu, sp, ?_, ?_⟩
  · intro post hp
    exact c1 (cpA st c.2.1).2.1 rfl _ (g1 _ (k1 post hp))
  · intro post hp
    refine zl_step (s' := (nI lm, nI 0, (lN X0 - lN Y0) + (lN X1 - lN Y1), nI 1, (u.1, u.2.1, u.2.2.1, u.2.2.2.1, u.2.2.2.2.1, u.2.2.2.2.2.1, u.2.2.2.2.2.2.1, u.2.2.2.2.2.2.2.1, u.2.2.2.2.2.2.2.2.1, u.2.2.2.2.2.2.2.2.2.1, fu1, u.2.2.2.2.2.2.2.2.2.2.2.1, sp1, u.2.2.2.2.2.2.2.2.2.2.2.2.2.1, u.2.2.2.2.2.2.2.2.2.2.2.2.2.2.1, u.2.2.2.2.2.2.2.2.2.2.2.2.2.2.2.1, u.2.2.2.2.2.2.2.2.2.2.2.2.2.2.2.2.1, u.2.2.2.2.2.2.2.2.2.2.2.2.2.2.2.2.2.1, u.2.2.2.2.2.2.2.2.2.2.2.2.2.2.2.2.2.2.1, u.2.2.2.2.2.2.2.2.2.2.2.2.2.2.2.2.2.2.2.1, u.2.2.2.2.2.2.2.2.2.2.2.2.2.2.2.2.2.2.2.2.1, u.2.2.2.2.2.2.2.2.2.2.2.2.2.2.2.2.2.2.2.2.2))) (fun K hK => ⟨fun h => ?_, fun _ => g2 K _ _ _ post ⟨fun _ => ?_, fun h => absurd (show (-1 : Int32) < 0 by decide) h⟩⟩) (k2 post hp)
    · exact absurd h (nI_pos (by omega))
    · intro x24 e24
      subst e24
      exact hK
