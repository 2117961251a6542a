/-! The rest of the periods; projections; the best reservation. -/
def eA (n : Nat) (a b : S_X0) : Prop := a.1 = b.1 ∧ ∀ p, p < n → a.2.1 p = b.2.1 p ∧ a.2.2.1 p = b.2.2.1 p ∧ a.2.2.2.1 p = b.2.2.2.1 p ∧ a.2.2.2.2.1 p = b.2.2.2.2.1 p ∧ a.2.2.2.2.2.1 p = b.2.2.2.2.2.1 p ∧ a.2.2.2.2.2.2 p = b.2.2.2.2.2.2 p
theorem rA_eA {n : Nat} {a b : S_X0} {d : Nat → Int32} (h : rA n a d) (e : eA n b a) : rA n b d := by
  refine ⟨e.1.trans h.1, fun p hp => ?_⟩
  obtain ⟨e0, e1, e2, e3, e4, -⟩ := e.2 p hp
  obtain ⟨h0, h1, h2, h3, h4⟩ := h.2 p hp
  exact ⟨e0.trans h0, e1.trans h1, e2.trans h2, e3.trans h3, e4.trans h4⟩
theorem bA_eA {n : Nat} {a b : S_X0} (h : bA n a) (e : eA n b a) : bA n b := by
  intro p hp
  obtain ⟨e0, e1, e2, e3, e4, -⟩ := e.2 p hp
  obtain ⟨h0, h1, h2, h3⟩ := h p hp
  rw [e0, e1, e2, e3]
  exact ⟨h0, h1, h2, h3⟩
def cpA (u v : S_X0) : S_X0 := (v.1, (va_cpy v.2.1 u.2.1 0 0 40), (va_cpy v.2.2.1 u.2.2.1 0 0 40), (va_cpy v.2.2.2.1 u.2.2.2.1 0 0 40), (va_cpy v.2.2.2.2.1 u.2.2.2.2.1 0 0 40), (va_cpy v.2.2.2.2.2.1 u.2.2.2.2.2.1 0 0 40), (va_cpy v.2.2.2.2.2.2 u.2.2.2.2.2.2 0 0 40))
theorem cpy_in {α : Type} (f g : Nat → α) {n p : Nat} (h : p < n) : va_cpy f g 0 0 n p = f p := by
  unfold va_cpy
  rw [if_pos (by omega)]
  congr 1; omega
theorem eA_cp (n : Nat) (hn : n ≤ 40) (u v : S_X0) : eA n (cpA u v) v := by
  refine ⟨rfl, fun p hp => ?_⟩
  exact ⟨cpy_in _ _ (by omega), cpy_in _ _ (by omega), cpy_in _ _ (by omega), cpy_in _ _ (by omega), cpy_in _ _ (by omega), cpy_in _ _ (by omega)⟩
theorem p_rest {n : Nat} {t : S_X7} (hn : n ≤ 40) (bt : bT t) (htn : t.1 = nI n) : ∀ (j c : Nat) (a : S_X0), c + j = n → a.1 = nI c → bA n a →
    ∃ (a' : S_X0) (X Y : Nat), X ≤ j * 1000000000 ∧ Y ≤ j * 1000000000 ∧
      (∀ (acc : Int64) (post : Int64 → S_X0 × S_X7 → Prop), post (acc + (lN X - lN Y)) (a', t) → ∃ m, zl (fun K st => j_X0_closeRest_8 K st.1 st.2.1 st.2.2.1 st.2.2.2 post) m (acc, nI c, a, t)) ∧
      ∀ d : Nat → Int32, rT t d → rA n a d → ∀ u : S_X10, u.2.2.2.2.2.2.2.2.2.2.1 = d → ∃ (fu : Nat → Int32) (sp : Nat → Int64), ∀ (acc : Int64) (post : Int64 → S_X10 → Prop), post (acc + (lN X - lN Y)) (u.1, u.2.1, u.2.2.1, u.2.2.2.1, u.2.2.2.2.1, u.2.2.2.2.2.1, u.2.2.2.2.2.2.1, u.2.2.2.2.2.2.2.1, u.2.2.2.2.2.2.2.2.1, u.2.2.2.2.2.2.2.2.2.1, fu, u.2.2.2.2.2.2.2.2.2.2.2.1, sp, u.2.2.2.2.2.2.2.2.2.2.2.2.2.1, u.2.2.2.2.2.2.2.2.2.2.2.2.2.2.1, u.2.2.2.2.2.2.2.2.2.2.2.2.2.2.2.1, u.2.2.2.2.2.2.2.2.2.2.2.2.2.2.2.2.1, u.2.2.2.2.2.2.2.2.2.2.2.2.2.2.2.2.2.1, u.2.2.2.2.2.2.2.2.2.2.2.2.2.2.2.2.2.2.1, u.2.2.2.2.2.2.2.2.2.2.2.2.2.2.2.2.2.2.2.1, u.2.2.2.2.2.2.2.2.2.2.2.2.2.2.2.2.2.2.2.2.1, u.2.2.2.2.2.2.2.2.2.2.2.2.2.2.2.2.2.2.2.2.2) → ∃ m, zl (fun K st => j_X10_project_2 K st.1 st.2 post) m (acc, u) := by
  intro j
  induction j with
  | zero =>
    intro c a hcj hclk ba
    have e : c = n := by omega
    subst e
    refine ⟨a, 0, 0, by omega, by omega, ?_, ?_⟩
    · intro acc post hp
      refine zl_exit (fun K => ⟨fun _ => ?_, fun h => ?_⟩)
      · rw [l_zero] at hp; exact hp
      · dsimp only at h
        rw [htn, le_nI (by omega) (by omega)] at h; omega
    · intro d ht ra u hu
      refine ⟨u.2.2.2.2.2.2.2.2.2.2.1, u.2.2.2.2.2.2.2.2.2.2.2.2.1, fun acc post hp => ?_⟩
      rw [l_zero] at hp
      refine zl_exit (fun K => ⟨fun _ => ⟨fun _ => hp, fun h => absurd rfl h⟩, fun h => ?_⟩)
      dsimp only at h
      rw [hu, ← ht.1.1, ← ra.1, htn, hclk, le_nI (by omega) (by omega)] at h; omega
  | succ j ih =>
    intro c a hcj hclk ba
    obtain ⟨od, o', m', X, Y, hX, hY, b1, c1, c2⟩ := p_close hn (by omega) hclk bt htn ba
    obtain ⟨a2, X2, Y2, hX2, hY2, g1, g2⟩ := ih (c + 1) _ (by omega) rfl b1
    have er : ∀ acc : Int64, acc + (lN X - lN Y) + (lN X2 - lN Y2) = acc + (lN (X + X2) - lN (Y + Y2)) := by
      intro acc
      rw [Int64.add_assoc, l_ring, lN_add, lN_add]
    refine ⟨a2, X + X2, Y + Y2, by omega, by omega, ?_, ?_⟩
    · intro acc post hp
      refine zl_step (s' := (acc + (lN X - lN Y), nI (c + 1), ((nI (c + 1)), a.2.1, a.2.2.1, od, o', m', (vp_updL a.2.2.2.2.2.2 c (lN X - lN Y))), t)) (fun K hK => ⟨fun h => ?_, fun _ => ?_⟩) (g1 _ _ (by rw [er]; exact hp))
      · dsimp only at h
        rw [htn, le_nI (by omega) (by omega)] at h; omega
      · refine c1 a.2.1 rfl _ ?_
        intro x4 e4 x5 e5
        subst e4 e5
        rw [ix_1]
        exact hK
    · intro d ht ra u hu
      obtain ⟨d', k1, k2, k3⟩ := c2 a.2.1 d rfl ht ra
      have hd1 : d' 1 = nI (c + 1) := k2.1.symm
      obtain ⟨fu, sp, k4⟩ := g2 d' (rT_cong ht (fun i hi => k3 i (by omega))) k2 (u.1, u.2.1, u.2.2.1, u.2.2.2.1, u.2.2.2.2.1, u.2.2.2.2.2.1, u.2.2.2.2.2.2.1, u.2.2.2.2.2.2.2.1, u.2.2.2.2.2.2.2.2.1, u.2.2.2.2.2.2.2.2.2.1, d', u.2.2.2.2.2.2.2.2.2.2.2.1, (vp_updL u.2.2.2.2.2.2.2.2.2.2.2.2.1 c (lN X - lN Y)), u.2.2.2.2.2.2.2.2.2.2.2.2.2.1, u.2.2.2.2.2.2.2.2.2.2.2.2.2.2.1, u.2.2.2.2.2.2.2.2.2.2.2.2.2.2.2.1, u.2.2.2.2.2.2.2.2.2.2.2.2.2.2.2.2.1, u.2.2.2.2.2.2.2.2.2.2.2.2.2.2.2.2.2.1, u.2.2.2.2.2.2.2.2.2.2.2.2.2.2.2.2.2.2.1, u.2.2.2.2.2.2.2.2.2.2.2.2.2.2.2.2.2.2.2.1, u.2.2.2.2.2.2.2.2.2.2.2.2.2.2.2.2.2.2.2.2.1, u.2.2.2.2.2.2.2.2.2.2.2.2.2.2.2.2.2.2.2.2.2) rfl
      refine ⟨fu, sp, fun acc post hp => ?_⟩
      refine zl_step (s' := (acc + (lN X - lN Y), (u.1, u.2.1, u.2.2.1, u.2.2.2.1, u.2.2.2.2.1, u.2.2.2.2.2.1, u.2.2.2.2.2.2.1, u.2.2.2.2.2.2.2.1, u.2.2.2.2.2.2.2.2.1, u.2.2.2.2.2.2.2.2.2.1, d', u.2.2.2.2.2.2.2.2.2.2.2.1, (vp_updL u.2.2.2.2.2.2.2.2.2.2.2.2.1 c (lN X - lN Y)), u.2.2.2.2.2.2.2.2.2.2.2.2.2.1, u.2.2.2.2.2.2.2.2.2.2.2.2.2.2.1, u.2.2.2.2.2.2.2.2.2.2.2.2.2.2.2.1, u.2.2.2.2.2.2.2.2.2.2.2.2.2.2.2.2.1, u.2.2.2.2.2.2.2.2.2.2.2.2.2.2.2.2.2.1, u.2.2.2.2.2.2.2.2.2.2.2.2.2.2.2.2.2.2.1, u.2.2.2.2.2.2.2.2.2.2.2.2.2.2.2.2.2.2.2.1, u.2.2.2.2.2.2.2.2.2.2.2.2.2.2.2.2.2.2.2.2.1, u.2.2.2.2.2.2.2.2.2.2.2.2.2.2.2.2.2.2.2.2.2))) (fun K hK => ⟨fun h => ?_, fun _ => ⟨fun h => absurd h (by decide), fun _ => ?_⟩⟩) (k4 _ _ (by rw [er]; exact hp))
      · dsimp only at h
        rw [hu, ← ht.1.1, ← ra.1, htn, hclk, le_nI (by omega) (by omega)] at h; omega
      · dsimp only
        rw [hu]
        refine k1 _ _ ?_
        dsimp only
        rw [hd1, nI_pred]
        refine ⟨in_of (by omega) (by omega), fun x7 e7 => ?_⟩
        rw [cl_nI (by omega), updL_same] at e7
        subst e7
        exact hK
