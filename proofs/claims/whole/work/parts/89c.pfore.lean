/-! The initial forecasts. -/
def clV (v : Int64) : Int32 := (if (if v < (9999 : Int64) then v else (9999 : Int64)) < (0 : Int64) then (0 : Int64) else (if v < (9999 : Int64) then v else (9999 : Int64))).toInt32
theorem n9_p : (9999 : Int64).toInt = 9999 := by decide
theorem n0_p : (0 : Int64).toInt = 0 := by decide
theorem clV_lo {v : Int64} (h : v.toInt < 0) : clV v = 0 := by
  unfold clV
  have q : v < (9999 : Int64) := by rw [fa_lt64, n9_p]; omega
  rw [if_pos q, if_pos (by rw [fa_lt64, n0_p]; exact h)]
  rfl
theorem clV_hi {v : Int64} (h : 9999 < v.toInt) : clV v = 9999 := by
  unfold clV
  have q : ¬ v < (9999 : Int64) := by rw [fa_lt64, n9_p]; omega
  rw [if_neg q, if_neg (by decide)]
  rfl
theorem clV_mid {v : Int64} (h1 : 0 ≤ v.toInt) (h2 : v.toInt ≤ 9999) : clV v = v.toInt32 := by
  unfold clV
  by_cases q : v < (9999 : Int64)
  · rw [if_pos q, if_neg (by rw [fa_lt64, n0_p]; omega)]
  · rw [if_neg q, if_neg (by decide)]
    rw [fa_lt64, n9_p] at q
    have e : v = 9999 := by rw [fa_eq64, n9_p]; omega
    rw [e]
theorem clV_lim (v : Int64) : lim (clV v) 9999 := by
  by_cases h1 : v.toInt < 0
  · rw [clV_lo h1]; exact ⟨0, by omega, rfl⟩
  · by_cases h2 : 9999 < v.toInt
    · rw [clV_hi h2]; exact ⟨9999, by omega, rfl⟩
    · rw [clV_mid (by omega) (by omega)]
      refine ⟨v.toInt.toNat, by omega, ?_⟩
      have hv : v = lN v.toInt.toNat := by
        rw [fa_eq64, pk_lT (by omega)]
        omega
      rw [fa_eq, nI_toInt (by omega)]
      rw [Int64.toInt_toInt32, fb_bmod (by omega) (by omega)]
      omega
theorem r_clV {v : Int64} {u : S_X10} {post : Int32 → S_X10 → Prop} (h : post (clV v) u) : (0 ≤ (lg_cmp v (0 : Int64)) → (((lg_cmp v (9999 : Int64)) ≤ 0 → (post (v.toInt32) u)) ∧ (¬ ((lg_cmp v (9999 : Int64)) ≤ 0) → (post (9999 : Int32) u)))) ∧ (¬ (0 ≤ (lg_cmp v (0 : Int64))) → (post (0 : Int32) u)) := by
  refine ⟨fun q => ⟨fun q2 => ?_, fun q2 => ?_⟩, fun q => ?_⟩
  · rw [lg_ge, fa_lt64, n0_p] at q
    rw [lg_le, fa_le64, n9_p] at q2
    rw [clV_mid (by omega) q2] at h
    exact h
  · rw [lg_le, fa_le64, n9_p] at q2
    rw [clV_hi (by omega)] at h
    exact h
  · rw [lg_ge, fa_lt64, n0_p] at q
    rw [clV_lo (by omega)] at h
    exact h
/-- the forecasts, one by one -/
def ffo (FR : Nat → Int32) (k : Nat) (f : Nat → Int32) : Nat → Int32 := fo (fun p f => upd f p (FR p)) k f
def dfo (FR : Nat → Int32) (k : Nat) (D : Nat → Int32) : Nat → Int32 := fo (fun p D => upd D (149 + 5 * p) (FR p)) k D
theorem ffo_in {FR : Nat → Int32} {f : Nat → Int32} {k p : Nat} (h : p < k) : ffo FR k f p = FR p := by
  unfold ffo
  rw [fo_fill]
  exact if_pos h
theorem dfo_out {FR : Nat → Int32} {D : Nat → Int32} {i : Nat} : ∀ k, (∀ p, p < k → ¬ i = 149 + 5 * p) → dfo FR k D i = D i := by
  intro k
  induction k with
  | zero => intro _; rfl
  | succ k ih =>
    intro h
    show upd (dfo FR k D) (149 + 5 * k) (FR k) i = D i
    rw [upd_ne _ _ (h k (by omega))]
    exact ih (fun p hp => h p (by omega))
theorem dfo_in {FR : Nat → Int32} {D : Nat → Int32} : ∀ k p, p < k → dfo FR k D (149 + 5 * p) = FR p := by
  intro k
  induction k with
  | zero => intro p hp; omega
  | succ k ih =>
    intro p hp
    show upd (dfo FR k D) (149 + 5 * k) (FR k) (149 + 5 * p) = FR p
    by_cases e : p = k
    · subst e; exact upd_same _ _ _
    · rw [upd_ne _ _ (by omega)]
      exact ih p (by omega)
section
variable {T B : Nat → Int32} {n : Nat}
theorem c_fore (hT : tx T B n) {s qd e N : Nat} {t : S_X7} {a : S_X0} {br : S_X1} {val : S_X3 → Int64} (hN : N ≤ 40) (htN : t.1 = nI N) (hqd : qd ≤ n) (hsk : sk T n qd = qd) (hc : CO T n (wp_X3_sum 6) qd 0 e val) {FR : Nat → Int32} (hFR : ∀ p, p < N → FR p = clV (val (nI p, a.2.1 p))) : ∀ (j p : Nat), p + j = N → ∀ (x : S_X5) (x3 : S_X3) (post : S_X6 × S_X5 × S_X3 × S_X2 → Prop), tt T n x → (∀ x' x3', tt T n x' → post ((nI s, nI qd), x', x3', (t, (a.1, a.2.1, (ffo FR N a.2.2.1), a.2.2.2.1, a.2.2.2.2.1, a.2.2.2.2.2.1, a.2.2.2.2.2.2), br))) → zl (fun K st => j_X6_computeForecasts_10 K st.1 st.2.1 st.2.2.1 st.2.2.2.1 st.2.2.2.2 post) (j + 1) (nI p, (nI s, nI qd), x, x3, (t, (a.1, a.2.1, (ffo FR p a.2.2.1), a.2.2.2.1, a.2.2.2.2.1, a.2.2.2.2.2.1, a.2.2.2.2.2.2), br)) := by
  intro j
  induction j with
  | zero =>
    intro p hp x x3 post hx hpost
    have e : p = N := by omega
    subst e
    refine ⟨fun _ => hpost x x3 hx, fun q => ?_⟩
    dsimp only at q
    rw [htN] at q
    exact absurd ((le_nI (by omega) (by omega)).mpr (Nat.le_refl _)) q
  | succ j ih =>
    intro p hp x x3 post hx hpost
    have hcl : (nI p).toNatClampNeg = p := cl_nI (by omega)
    have hin : vp_in (nI p) 40 := in_of (by omega) (by omega)
    refine ⟨fun q => ?_, fun _ => ?_⟩
    · dsimp only at q
      rw [htN, le_nI (by omega) (by omega)] at q; omega
    · refine q_advance hT qd hqd (x.1, x.2.1, x.2.2.1, (nI qd), x.2.2.2.2.1, x.2.2.2.2.2.1, x.2.2.2.2.2.2.1, x.2.2.2.2.2.2.2.1, x.2.2.2.2.2.2.2.2) hx rfl (fun x1 h1 => ⟨hin, fun x5 e5 => ?_⟩)
      rw [hsk] at h1
      dsimp only at e5
      rw [hcl] at e5
      subst e5
      refine hc (nI p, a.2.1 p) x1 _ h1 (fun x2 h2 x8 e8 => ⟨hin, fun x10 e10 => ?_⟩)
      dsimp only at e10
      rw [ix_1] at e10
      subst e10
      have e9 : x8 = FR p := by rw [hFR p (by omega)]; exact e8
      subst e9
      dsimp only
      rw [hcl]
      exact ih (p + 1) (by omega) x2 _ post (tk_tt h2) hpost
theorem r_dem {u : S_X10} {p r : Nat} (hp : p < 40) (hr : u.2.2.2.2.2.2.2.2.2.1 (148 + 5 * p) = nI r) (h15 : u.2.2.2.2.2.2.2.2.2.1 15 = 0) {post : Int32 → S_X10 → Prop} (h : post (nI r) u) : wp_X10_demand u (nI p) post := by
  unfold wp_X10_demand wp_X10_period
  dsimp only
  rw [ix_per, cl_nI (by omega), hr]
  refine ⟨in_of (by omega) (by omega), fun x4 e4 => ⟨fun q => absurd h15 q, fun _ => ?_⟩⟩
  subst e4
  exact h
theorem r_demV {u : S_X10} {p r : Nat} (hp : p < 40) (hr9 : r ≤ 9999) (hr : u.2.2.2.2.2.2.2.2.2.1 (148 + 5 * p) = nI r) (h15 : u.2.2.2.2.2.2.2.2.2.1 15 = 1) {cs : List Int32} {val : S_X3 → Int64} (hcl : cs.length ≤ 1290) (hcd : cod u.2.2.2.2.2.2.2.2.2.1 cs) (hev : EV cs val) {post : Int32 → S_X10 → Prop} (h : ∀ s', post (clV (val (nI p, nI r))) (u.1, u.2.1, u.2.2.1, u.2.2.2.1, u.2.2.2.2.1, u.2.2.2.2.2.1, u.2.2.2.2.2.2.1, u.2.2.2.2.2.2.2.1, u.2.2.2.2.2.2.2.2.1, u.2.2.2.2.2.2.2.2.2.1, u.2.2.2.2.2.2.2.2.2.2.1, u.2.2.2.2.2.2.2.2.2.2.2.1, u.2.2.2.2.2.2.2.2.2.2.2.2.1, u.2.2.2.2.2.2.2.2.2.2.2.2.2.1, u.2.2.2.2.2.2.2.2.2.2.2.2.2.2.1, u.2.2.2.2.2.2.2.2.2.2.2.2.2.2.2.1, u.2.2.2.2.2.2.2.2.2.2.2.2.2.2.2.2.1, s', u.2.2.2.2.2.2.2.2.2.2.2.2.2.2.2.2.2.2.1, u.2.2.2.2.2.2.2.2.2.2.2.2.2.2.2.2.2.2.2.1, u.2.2.2.2.2.2.2.2.2.2.2.2.2.2.2.2.2.2.2.2.1, u.2.2.2.2.2.2.2.2.2.2.2.2.2.2.2.2.2.2.2.2.2)) : wp_X10_demand u (nI p) post := by
  unfold wp_X10_demand wp_X10_period
  dsimp only
  rw [ix_per, cl_nI (by omega), hr]
  refine ⟨in_of (by omega) (by omega), fun x4 e4 => ⟨fun _ => ?_, fun q => absurd (h15.symm.trans q) (by decide)⟩⟩
  subst e4
  refine hev (nI p) (nI r) u 0 0 cs.length post ⟨p, by omega, rfl⟩ ⟨r, hr9, rfl⟩ hcd.1 hcl (by omega) (Nat.le_refl _) (fun j hj => ?_) (fun s' _ hs => ?_)
  · rw [Nat.zero_add]; exact hcd.2 j hj
  · refine zl_exit (fun K => ⟨fun _ => ?_, fun q => ?_⟩)
    · have h2 := h s'
      dsimp only
      rw [hs]
      exact r_clV h2
    · dsimp only at q
      rw [hcd.1, Nat.zero_add, le_nI (by omega) (by omega)] at q; omega
end
theorem rem_u {u ub : S_X10} {mh mh' : S_MH} {ud' : Int32} (h : ∀ post : S_X10 × S_MH → Prop, post ((u.1, u.2.1, u.2.2.1, u.2.2.2.1, u.2.2.2.2.1, u.2.2.2.2.2.1, u.2.2.2.2.2.2.1, u.2.2.2.2.2.2.2.1, u.2.2.2.2.2.2.2.2.1, u.2.2.2.2.2.2.2.2.2.1, u.2.2.2.2.2.2.2.2.2.2.1, u.2.2.2.2.2.2.2.2.2.2.2.1, u.2.2.2.2.2.2.2.2.2.2.2.2.1, ud', u.2.2.2.2.2.2.2.2.2.2.2.2.2.2.1, u.2.2.2.2.2.2.2.2.2.2.2.2.2.2.2.1, u.2.2.2.2.2.2.2.2.2.2.2.2.2.2.2.2.1, u.2.2.2.2.2.2.2.2.2.2.2.2.2.2.2.2.2.1, u.2.2.2.2.2.2.2.2.2.2.2.2.2.2.2.2.2.2.1, u.2.2.2.2.2.2.2.2.2.2.2.2.2.2.2.2.2.2.2.1, u.2.2.2.2.2.2.2.2.2.2.2.2.2.2.2.2.2.2.2.2.1, u.2.2.2.2.2.2.2.2.2.2.2.2.2.2.2.2.2.2.2.2.2), mh') → wp_X10_remember u mh post) (e1 : ub.2.2.2.2.2.2.2.2.1 = u.2.2.2.2.2.2.2.2.1) (e2 : ub.2.2.2.2.2.2.2.2.2.2.2.1 = u.2.2.2.2.2.2.2.2.2.2.2.1) (e3 : ub.2.2.2.2.2.2.2.2.2.2.2.2.2.1 = u.2.2.2.2.2.2.2.2.2.2.2.2.2.1) (post : S_X10 × S_MH → Prop) (hp : post ((ub.1, ub.2.1, ub.2.2.1, ub.2.2.2.1, ub.2.2.2.2.1, ub.2.2.2.2.2.1, ub.2.2.2.2.2.2.1, ub.2.2.2.2.2.2.2.1, ub.2.2.2.2.2.2.2.2.1, ub.2.2.2.2.2.2.2.2.2.1, ub.2.2.2.2.2.2.2.2.2.2.1, ub.2.2.2.2.2.2.2.2.2.2.2.1, ub.2.2.2.2.2.2.2.2.2.2.2.2.1, ud', ub.2.2.2.2.2.2.2.2.2.2.2.2.2.2.1, ub.2.2.2.2.2.2.2.2.2.2.2.2.2.2.2.1, ub.2.2.2.2.2.2.2.2.2.2.2.2.2.2.2.2.1, ub.2.2.2.2.2.2.2.2.2.2.2.2.2.2.2.2.2.1, ub.2.2.2.2.2.2.2.2.2.2.2.2.2.2.2.2.2.2.1, ub.2.2.2.2.2.2.2.2.2.2.2.2.2.2.2.2.2.2.2.1, ub.2.2.2.2.2.2.2.2.2.2.2.2.2.2.2.2.2.2.2.2.1, ub.2.2.2.2.2.2.2.2.2.2.2.2.2.2.2.2.2.2.2.2.2), mh')) : wp_X10_remember ub mh post := by
  obtain ⟨a1, a2, a3, a4, a5, a6, a7, a8, a9, a10, a11, a12, a13, a14, a15, a16, a17, a18, a19, a20, a21, a22⟩ := ub
  dsimp only at e1 e2 e3
  subst e1 e2 e3
  have h1 := h (fun w => post ((a1, a2, a3, a4, a5, a6, a7, a8, w.1.2.2.2.2.2.2.2.2.1, a10, a11, w.1.2.2.2.2.2.2.2.2.2.2.2.1, a13, w.1.2.2.2.2.2.2.2.2.2.2.2.2.2.1, a15, a16, a17, a18, a19, a20, a21, a22), w.2)) hp
  unfold wp_X10_remember wq_body wq_tail at h1 ⊢
  exact h1
