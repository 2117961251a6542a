/-! What the class's state has in common with the reference's. -/
def bnd (t : S_X7) (k : Nat) : Bool := t.2.2.2.2.2.2.2.2.2.2.2.2.2.1.toBitVec.toNat.testBit k
def rT (t : S_X7) (d : Nat → Int32) : Prop :=
  (t.1 = d 0 ∧ t.2.1 = d 2 ∧ t.2.2.1 = d 3 ∧ t.2.2.2.1 = d 4 ∧ t.2.2.2.2.1 = d 5 ∧ t.2.2.2.2.2.1 = d 6 ∧ t.2.2.2.2.2.2.1 = d 7 ∧ t.2.2.2.2.2.2.2.1 = d 8 ∧ t.2.2.2.2.2.2.2.2.1 = d 9 ∧ t.2.2.2.2.2.2.2.2.2.1 = d 10 ∧ t.2.2.2.2.2.2.2.2.2.2.1 = d 11) ∧
  (∀ k, k < 40 → (bnd t k = true ↔ d (16 + 3 * k) = 1) ∧ (bnd t k = true → t.2.2.2.2.2.2.2.2.2.2.2.2.2.2.1 k = d (17 + 3 * k) ∧ t.2.2.2.2.2.2.2.2.2.2.2.2.2.2.2 k = d (18 + 3 * k))) ∧
  (∀ k, k < 6 → nI k < t.2.2.2.2.2.2.2.2.2.2.1 → t.2.2.2.2.2.2.2.2.2.2.2.1 k = d (136 + 2 * k) ∧ t.2.2.2.2.2.2.2.2.2.2.2.2.1 k = d (137 + 2 * k))
def bT (t : S_X7) : Prop := lim t.1 40 ∧ lim t.2.1 999 ∧ lim t.2.2.1 99 ∧ lim t.2.2.2.1 9999 ∧ lim t.2.2.2.2.1 999 ∧ lim t.2.2.2.2.2.1 6 ∧ lim t.2.2.2.2.2.2.1 100 ∧ lim t.2.2.2.2.2.2.2.1 999 ∧ lim t.2.2.2.2.2.2.2.2.1 4 ∧ lim t.2.2.2.2.2.2.2.2.2.1 40 ∧ lim t.2.2.2.2.2.2.2.2.2.2.1 6
def rA (n : Nat) (a : S_X0) (d : Nat → Int32) : Prop := a.1 = d 1 ∧ ∀ p, p < n → a.2.1 p = d (148 + 5 * p) ∧ a.2.2.1 p = d (149 + 5 * p) ∧ a.2.2.2.1 p = d (150 + 5 * p) ∧ a.2.2.2.2.1 p = d (151 + 5 * p) ∧ a.2.2.2.2.2.1 p = d (152 + 5 * p)
def bA (n : Nat) (a : S_X0) : Prop := ∀ p, p < n → lim (a.2.1 p) 9999 ∧ lim (a.2.2.1 p) 9999 ∧ (a.2.2.2.1 p = -1 ∨ lim (a.2.2.2.1 p) 9999) ∧ lim (a.2.2.2.2.1 p) 9999
def rB (m : Nat) (x : S_X1) (d : Nat → Int32) : Prop := x.1 = nI m ∧ x.1 = d 12 ∧ x.2.1 = d 13 ∧ ∀ k, k < m → x.2.2.2.1 k = d (348 + 4 * k) ∧ x.2.2.2.2.1 k = d (349 + 4 * k) ∧ x.2.2.2.2.2.1 k = d (350 + 4 * k) ∧ x.2.2.2.2.2.2 k = d (351 + 4 * k)
def wct (x : S_X1) (m : Nat) : Nat := fb_ct (fun k => decide (x.2.2.2.2.2.2 k = 1)) m
def bB (m v : Nat) (x : S_X1) : Prop := m ≤ 20 ∧ (∀ k, k < 20 → x.2.2.2.2.2.2 k = 0 ∨ x.2.2.2.2.2.2 k = 1) ∧ (∀ k, k < m → lim (x.2.2.2.1 k) 39) ∧ x.2.2.1 = nI (wct x m) ∧ wct x m ≤ v
/-- a contract -/
def rC (c : S_X2) (d : Nat → Int32) (b : Nat → Int64) : Prop :=
  rT c.1 d ∧ bT c.1 ∧ (∃ n k, n ≤ 40 ∧ c.1.1 = nI n ∧ k ≤ n ∧ c.2.1.1 = nI k ∧ rA n c.2.1 d ∧ bA n c.2.1 ∧ ∀ p, p < n → c.2.1.2.2.2.2.2.2 p = b p) ∧ (∃ m v, c.1.2.2.2.2.2.2.2.2.1 = nI v ∧ v ≤ 4 ∧ rB m c.2.2 d ∧ bB m v c.2.2)
theorem rT_cong {t : S_X7} {d e : Nat → Int32} (h : rT t d) (he : ∀ i, (i = 0 ∨ (2 ≤ i ∧ i ≤ 11) ∨ (16 ≤ i ∧ i < 148)) → e i = d i) : rT t e := by
  obtain ⟨⟨h0, h2, h3, h4, h5, h6, h7, h8, h9, h10, h11⟩, hb, hs⟩ := h
  refine ⟨⟨?_, ?_, ?_, ?_, ?_, ?_, ?_, ?_, ?_, ?_, ?_⟩, ?_, ?_⟩
  · rw [he 0 (by omega)]; exact h0
  · rw [he 2 (by omega)]; exact h2
  · rw [he 3 (by omega)]; exact h3
  · rw [he 4 (by omega)]; exact h4
  · rw [he 5 (by omega)]; exact h5
  · rw [he 6 (by omega)]; exact h6
  · rw [he 7 (by omega)]; exact h7
  · rw [he 8 (by omega)]; exact h8
  · rw [he 9 (by omega)]; exact h9
  · rw [he 10 (by omega)]; exact h10
  · rw [he 11 (by omega)]; exact h11
  · intro k hk
    rw [he _ (by omega), he _ (by omega), he _ (by omega)]
    exact hb k hk
  · intro k hk
    rw [he _ (by omega), he _ (by omega)]
    exact hs k hk
theorem rA_cong {n : Nat} {a : S_X0} {d e : Nat → Int32} (hn : n ≤ 40) (h : rA n a d) (he : ∀ i, (i = 1 ∨ (148 ≤ i ∧ i < 348)) → e i = d i) : rA n a e := by
  obtain ⟨h1, hp⟩ := h
  refine ⟨by rw [he 1 (by omega)]; exact h1, fun p hq => ?_⟩
  rw [he _ (by omega), he _ (by omega), he _ (by omega), he _ (by omega), he _ (by omega)]
  exact hp p hq
theorem rB_cong {m : Nat} {x : S_X1} {d e : Nat → Int32} (hm : m ≤ 20) (h : rB m x d) (he : ∀ i, (i = 12 ∨ i = 13 ∨ (348 ≤ i ∧ i < 428)) → e i = d i) : rB m x e := by
  obtain ⟨h0, h1, h2, hp⟩ := h
  refine ⟨h0, by rw [he 12 (by omega)]; exact h1, by rw [he 13 (by omega)]; exact h2, fun p hq => ?_⟩
  rw [he _ (by omega), he _ (by omega), he _ (by omega), he _ (by omega)]
  exact hp p hq
theorem rA_clock {n : Nat} {a : S_X0} {d : Nat → Int32} (h : rA n a d) (x : Int32) : rA n (x, a.2.1, a.2.2.1, a.2.2.2.1, a.2.2.2.2.1, a.2.2.2.2.2.1, a.2.2.2.2.2.2) (upd d 1 x) := by
  obtain ⟨h1, hp⟩ := h
  refine ⟨(upd_same _ _ _).symm, fun p hq => ?_⟩
  rw [upd_ne _ _ (by omega), upd_ne _ _ (by omega), upd_ne _ _ (by omega), upd_ne _ _ (by omega), upd_ne _ _ (by omega)]
  exact hp p hq
theorem rA_inv {n : Nat} {a : S_X0} {d : Nat → Int32} (h : rA n a d) (x : Nat → Int64) : rA n (a.1, a.2.1, a.2.2.1, a.2.2.2.1, a.2.2.2.2.1, a.2.2.2.2.2.1, x) d := h
theorem rA_reserved {n : Nat} {a : S_X0} {d : Nat → Int32} (h : rA n a d) (p : Nat) (x : Int32) : rA n (a.1, (upd a.2.1 p x), a.2.2.1, a.2.2.2.1, a.2.2.2.2.1, a.2.2.2.2.2.1, a.2.2.2.2.2.2) (upd d (148 + 5 * p) x) := by
  obtain ⟨h1, hp⟩ := h
  refine ⟨by rw [upd_ne _ _ (by omega)]; exact h1, fun q hq => ?_⟩
  obtain ⟨g0, g1, g2, g3, g4⟩ := hp q hq
  by_cases e : q = p
  · subst e
    refine ⟨?_, ?_, ?_, ?_, ?_⟩
    · rw [upd_same]; exact (upd_same _ _ _)
    · rw [upd_ne _ _ (by omega)]; exact g1
    · rw [upd_ne _ _ (by omega)]; exact g2
    · rw [upd_ne _ _ (by omega)]; exact g3
    · rw [upd_ne _ _ (by omega)]; exact g4
  · refine ⟨?_, ?_, ?_, ?_, ?_⟩
    · rw [upd_ne _ _ (by omega)]; exact (upd_ne _ _ e).trans g0
    · rw [upd_ne _ _ (by omega)]; exact g1
    · rw [upd_ne _ _ (by omega)]; exact g2
    · rw [upd_ne _ _ (by omega)]; exact g3
    · rw [upd_ne _ _ (by omega)]; exact g4
theorem rA_forecast {n : Nat} {a : S_X0} {d : Nat → Int32} (h : rA n a d) (p : Nat) (x : Int32) : rA n (a.1, a.2.1, (upd a.2.2.1 p x), a.2.2.2.1, a.2.2.2.2.1, a.2.2.2.2.2.1, a.2.2.2.2.2.2) (upd d (149 + 5 * p) x) := by
  obtain ⟨h1, hp⟩ := h
  refine ⟨by rw [upd_ne _ _ (by omega)]; exact h1, fun q hq => ?_⟩
  obtain ⟨g0, g1, g2, g3, g4⟩ := hp q hq
  by_cases e : q = p
  · subst e
    refine ⟨?_, ?_, ?_, ?_, ?_⟩
    · rw [upd_ne _ _ (by omega)]; exact g0
    · rw [upd_same]; exact (upd_same _ _ _)
    · rw [upd_ne _ _ (by omega)]; exact g2
    · rw [upd_ne _ _ (by omega)]; exact g3
    · rw [upd_ne _ _ (by omega)]; exact g4
  · refine ⟨?_, ?_, ?_, ?_, ?_⟩
    · rw [upd_ne _ _ (by omega)]; exact g0
    · rw [upd_ne _ _ (by omega)]; exact (upd_ne _ _ e).trans g1
    · rw [upd_ne _ _ (by omega)]; exact g2
    · rw [upd_ne _ _ (by omega)]; exact g3
    · rw [upd_ne _ _ (by omega)]; exact g4
theorem rA_order {n : Nat} {a : S_X0} {d : Nat → Int32} (h : rA n a d) (p : Nat) (x : Int32) : rA n (a.1, a.2.1, a.2.2.1, (upd a.2.2.2.1 p x), a.2.2.2.2.1, a.2.2.2.2.2.1, a.2.2.2.2.2.2) (upd d (150 + 5 * p) x) := by
  obtain ⟨h1, hp⟩ := h
  refine ⟨by rw [upd_ne _ _ (by omega)]; exact h1, fun q hq => ?_⟩
  obtain ⟨g0, g1, g2, g3, g4⟩ := hp q hq
  by_cases e : q = p
  · subst e
    refine ⟨?_, ?_, ?_, ?_, ?_⟩
    · rw [upd_ne _ _ (by omega)]; exact g0
    · rw [upd_ne _ _ (by omega)]; exact g1
    · rw [upd_same]; exact (upd_same _ _ _)
    · rw [upd_ne _ _ (by omega)]; exact g3
    · rw [upd_ne _ _ (by omega)]; exact g4
  · refine ⟨?_, ?_, ?_, ?_, ?_⟩
    · rw [upd_ne _ _ (by omega)]; exact g0
    · rw [upd_ne _ _ (by omega)]; exact g1
    · rw [upd_ne _ _ (by omega)]; exact (upd_ne _ _ e).trans g2
    · rw [upd_ne _ _ (by omega)]; exact g3
    · rw [upd_ne _ _ (by omega)]; exact g4
theorem rA_open {n : Nat} {a : S_X0} {d : Nat → Int32} (h : rA n a d) (p : Nat) (x : Int32) : rA n (a.1, a.2.1, a.2.2.1, a.2.2.2.1, (upd a.2.2.2.2.1 p x), a.2.2.2.2.2.1, a.2.2.2.2.2.2) (upd d (151 + 5 * p) x) := by
  obtain ⟨h1, hp⟩ := h
  refine ⟨by rw [upd_ne _ _ (by omega)]; exact h1, fun q hq => ?_⟩
  obtain ⟨g0, g1, g2, g3, g4⟩ := hp q hq
  by_cases e : q = p
  · subst e
    refine ⟨?_, ?_, ?_, ?_, ?_⟩
    · rw [upd_ne _ _ (by omega)]; exact g0
    · rw [upd_ne _ _ (by omega)]; exact g1
    · rw [upd_ne _ _ (by omega)]; exact g2
    · rw [upd_same]; exact (upd_same _ _ _)
    · rw [upd_ne _ _ (by omega)]; exact g4
  · refine ⟨?_, ?_, ?_, ?_, ?_⟩
    · rw [upd_ne _ _ (by omega)]; exact g0
    · rw [upd_ne _ _ (by omega)]; exact g1
    · rw [upd_ne _ _ (by omega)]; exact g2
    · rw [upd_ne _ _ (by omega)]; exact (upd_ne _ _ e).trans g3
    · rw [upd_ne _ _ (by omega)]; exact g4
theorem rA_missed {n : Nat} {a : S_X0} {d : Nat → Int32} (h : rA n a d) (p : Nat) (x : Int32) : rA n (a.1, a.2.1, a.2.2.1, a.2.2.2.1, a.2.2.2.2.1, (upd a.2.2.2.2.2.1 p x), a.2.2.2.2.2.2) (upd d (152 + 5 * p) x) := by
  obtain ⟨h1, hp⟩ := h
  refine ⟨by rw [upd_ne _ _ (by omega)]; exact h1, fun q hq => ?_⟩
  obtain ⟨g0, g1, g2, g3, g4⟩ := hp q hq
  by_cases e : q = p
  · subst e
    refine ⟨?_, ?_, ?_, ?_, ?_⟩
    · rw [upd_ne _ _ (by omega)]; exact g0
    · rw [upd_ne _ _ (by omega)]; exact g1
    · rw [upd_ne _ _ (by omega)]; exact g2
    · rw [upd_ne _ _ (by omega)]; exact g3
    · rw [upd_same]; exact (upd_same _ _ _)
  · refine ⟨?_, ?_, ?_, ?_, ?_⟩
    · rw [upd_ne _ _ (by omega)]; exact g0
    · rw [upd_ne _ _ (by omega)]; exact g1
    · rw [upd_ne _ _ (by omega)]; exact g2
    · rw [upd_ne _ _ (by omega)]; exact g3
    · rw [upd_ne _ _ (by omega)]; exact (upd_ne _ _ e).trans g4
theorem bA_open {n : Nat} {a : S_X0} (h : bA n a) (p : Nat) {x : Int32} (hx : lim x 9999) : bA n (a.1, a.2.1, a.2.2.1, a.2.2.2.1, (upd a.2.2.2.2.1 p x), a.2.2.2.2.2.1, a.2.2.2.2.2.2) := by
  intro q hq
  obtain ⟨g0, g1, g2, g3⟩ := h q hq
  refine ⟨g0, g1, g2, ?_⟩
  dsimp only
  by_cases e : q = p
  · subst e; rw [upd_same]; exact hx
  · rw [upd_ne _ _ e]; exact g3
theorem bA_order {n : Nat} {a : S_X0} (h : bA n a) (p : Nat) {x : Int32} (hx : lim x 9999) : bA n (a.1, a.2.1, a.2.2.1, (upd a.2.2.2.1 p x), a.2.2.2.2.1, a.2.2.2.2.2.1, a.2.2.2.2.2.2) := by
  intro q hq
  obtain ⟨g0, g1, g2, g3⟩ := h q hq
  refine ⟨g0, g1, ?_, g3⟩
  dsimp only
  by_cases e : q = p
  · subst e; rw [upd_same]; exact Or.inr hx
  · rw [upd_ne _ _ e]; exact g2
theorem bA_reserved {n : Nat} {a : S_X0} (h : bA n a) (p : Nat) {x : Int32} (hx : lim x 9999) : bA n (a.1, (upd a.2.1 p x), a.2.2.1, a.2.2.2.1, a.2.2.2.2.1, a.2.2.2.2.2.1, a.2.2.2.2.2.2) := by
  intro q hq
  obtain ⟨g0, g1, g2, g3⟩ := h q hq
  refine ⟨?_, g1, g2, g3⟩
  dsimp only
  by_cases e : q = p
  · subst e; rw [upd_same]; exact hx
  · rw [upd_ne _ _ e]; exact g0
theorem bA_forecast {n : Nat} {a : S_X0} (h : bA n a) (p : Nat) {x : Int32} (hx : lim x 9999) : bA n (a.1, a.2.1, (upd a.2.2.1 p x), a.2.2.2.1, a.2.2.2.2.1, a.2.2.2.2.2.1, a.2.2.2.2.2.2) := by
  intro q hq
  obtain ⟨g0, g1, g2, g3⟩ := h q hq
  refine ⟨g0, ?_, g2, g3⟩
  dsimp only
  by_cases e : q = p
  · subst e; rw [upd_same]; exact hx
  · rw [upd_ne _ _ e]; exact g1
theorem bA_missed {n : Nat} {a : S_X0} (h : bA n a) (f : Nat → Int32) : bA n (a.1, a.2.1, a.2.2.1, a.2.2.2.1, a.2.2.2.2.1, f, a.2.2.2.2.2.2) := h
theorem bA_clock {n : Nat} {a : S_X0} (h : bA n a) (x : Int32) : bA n (x, a.2.1, a.2.2.1, a.2.2.2.1, a.2.2.2.2.1, a.2.2.2.2.2.1, a.2.2.2.2.2.2) := h
theorem bA_inv {n : Nat} {a : S_X0} (h : bA n a) (x : Nat → Int64) : bA n (a.1, a.2.1, a.2.2.1, a.2.2.2.1, a.2.2.2.2.1, a.2.2.2.2.2.1, x) := h
