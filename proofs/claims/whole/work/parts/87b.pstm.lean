/-! Statements with one number or two. -/
def dK (D D' : Nat → Int32) : Prop := ∀ i, (i ≤ 3 ∨ i = 12 ∨ i = 13 ∨ (148 ≤ i ∧ i < 428)) → D' i = D i
theorem dK_tr {D E F : Nat → Int32} (h : dK D E) (h2 : dK E F) : dK D F := fun i hi => (h2 i hi).trans (h i hi)
abbrev DM : Type := Nat × Nat × List Int32 × (S_X3 → Int64)
def DI (T : Nat → Int32) (n : Nat) (da : Int32) (dm : DM) : Prop := da = nI dm.1 ∧ dm.1 ≤ n ∧ sk T n dm.1 = dm.1 ∧ dm.2.2.1.length ≤ 1290 ∧ EV dm.2.2.1 dm.2.2.2 ∧ CO T n (wp_X3_sum 6) dm.1 0 dm.2.1 dm.2.2.2
def IC (T : Nat → Int32) (n N s : Nat) (da : Int32) (dm : DM) (t : S_X7) : Prop := s < 128 ∧ (s.testBit 1 = false → t.2.2.2.2.2.2.2.2.2.2.1 = 0) ∧ (s.testBit 6 = true → DI T n da dm) ∧ t.1 = nI N
def SI (s : Nat) (dm : DM) (t : S_X7) (D : Nat → Int32) : Prop := s < 128 ∧ rT t D ∧ bT t ∧ (s.testBit 1 = false → t.2.2.2.2.2.2.2.2.2.2.1 = 0) ∧ (s.testBit 6 = false → D 15 = 0 ∧ cod D []) ∧ (s.testBit 6 = true → D 15 = 1 ∧ cod D dm.2.2.1)
def rs (T B : Nat → Int32) (n : Nat) (u : S_X10) (p q s : Nat) (dm : DM) (t : S_X7) : Prop := gu T B n u p q ∧ u.2.2.2.2.2.2.2.2.2.2.2.2.2.2.2.1 = nI 0 ∧ u.2.2.2.2.2.2.2.2.2.2.2.2.2.2.2.2.1 = nI s ∧ SI s dm t u.2.2.2.2.2.2.2.2.2.1
def wS (x6 : S_X6) (x : S_X5) (x3 : S_X3) (c : S_X2) (post : S_X6 × S_X5 × S_X3 × S_X2 → Prop) : Prop := wp_X6_readStatement x6 x x3 c (fun w => wp_X5_sign w.2.1 (59 : Int32) (fun x' => post (w.1, x', w.2.2.1, w.2.2.2)))
def SE (T B : Nat → Int32) (n q s : Nat) (da : Int32) (dm : DM) (t : S_X7) (a : S_X0) (br : S_X1) (e ae : Int32) : Prop := (∀ (x : S_X5) (x3 : S_X3) (post : S_X6 × S_X5 × S_X3 × S_X2 → Prop), tk T n q x → (∀ w : S_X6 × S_X5 × S_X3 × S_X2, er w.2.1 e ae → w.2.2.2.2.2 = br → post w) → wS (nI s, da) x x3 (t, a, br) post) ∧ ∀ (u : S_X10) (p : Nat) (post : S_X10 → Prop), rs T B n u p q s dm t → (∀ u', mF u u' → u'.2.2.2.2.2.1 = e → u'.2.2.2.2.2.2.1 = ae → post u') → wp_X10_statement u post
def SOk (T B : Nat → Int32) (n q s : Nat) (da : Int32) (dm : DM) (t : S_X7) (a : S_X0) (br : S_X1) (e s' : Nat) (da' : Int32) (dm' : DM) (t' : S_X7) : Prop := (∀ (x : S_X5) (x3 : S_X3) (post : S_X6 × S_X5 × S_X3 × S_X2 → Prop), tk T n q x → (∀ x' x3', tk T n (sk T n e) x' → post ((nI s', da'), x', x3', (t', a, br))) → wS (nI s, da) x x3 (t, a, br) post) ∧ ∀ (u : S_X10) (p : Nat) (post : S_X10 → Prop), rs T B n u p q s dm t → (∀ u', mF u u' → u'.2.2.2.2.2.2.1 = u.2.2.2.2.2.2.1 → dK u.2.2.2.2.2.2.2.2.2.1 u'.2.2.2.2.2.2.2.2.2.1 → rs T B n u' e (sk T n e) s' dm' t' → post u') → wp_X10_statement u post
def SX (T B : Nat → Int32) (n q s : Nat) (da : Int32) (dm : DM) (t : S_X7) (a : S_X0) (br : S_X1) : Prop := (∃ e ae, ¬ e = 0 ∧ SE T B n q s da dm t a br e ae) ∨ ∃ e s' da' dm' t', q < e ∧ e ≤ n ∧ (∀ N, IC T n N s da dm t → IC T n N s' da' dm' t') ∧ SOk T B n q s da dm t a br e s' da' dm' t'
theorem cod_cong {D D' : Nat → Int32} {L : List Int32} (h : cod D L) (h14 : D' 14 = D 14) (hc : ∀ i, 428 ≤ i → D' i = D i) : cod D' L := ⟨h14.trans h.1, fun i hi => (hc _ (by omega)).trans (h.2 i hi)⟩
theorem SI_gen {s s' : Nat} {dm : DM} {t t' : S_X7} {D D' : Nat → Int32} (h : SI s dm t D) (hs : s' < 128) (h6 : s'.testBit 6 = s.testBit 6) (h1 : s'.testBit 1 = false → t'.2.2.2.2.2.2.2.2.2.2.1 = 0) (hD : ∀ i, i = 14 ∨ i = 15 ∨ 428 ≤ i → D' i = D i) (hr : rT t' D') (hb : bT t') : SI s' dm t' D' := by
  obtain ⟨-, -, -, -, a5, a6⟩ := h
  refine ⟨hs, hr, hb, h1, fun q => ?_, fun q => ?_⟩
  · rw [h6] at q
    obtain ⟨b1, b2⟩ := a5 q
    exact ⟨(hD 15 (by omega)).trans b1, cod_cong b2 (hD 14 (by omega)) (fun i hi => hD i (by omega))⟩
  · rw [h6] at q
    obtain ⟨b1, b2⟩ := a6 q
    exact ⟨(hD 15 (by omega)).trans b1, cod_cong b2 (hD 14 (by omega)) (fun i hi => hD i (by omega))⟩
theorem bit_or {s k j : Nat} (h : j ≠ k) : (s ||| 2 ^ k).testBit j = s.testBit j := by
  rw [fb_bit_set, decide_eq_false h, Bool.or_false]
theorem bit_or1 {s k : Nat} : (s ||| 2 ^ k).testBit k = true := by
  rw [fb_bit_set, decide_eq_true rfl, Bool.or_true]

theorem rTu_periods {t : S_X7} {D : Nat → Int32} (h : rT t D) (y : Int32) : rT (y, t.2.1, t.2.2.1, t.2.2.2.1, t.2.2.2.2.1, t.2.2.2.2.2.1, t.2.2.2.2.2.2.1, t.2.2.2.2.2.2.2.1, t.2.2.2.2.2.2.2.2.1, t.2.2.2.2.2.2.2.2.2.1, t.2.2.2.2.2.2.2.2.2.2.1, t.2.2.2.2.2.2.2.2.2.2.2.1, t.2.2.2.2.2.2.2.2.2.2.2.2.1, t.2.2.2.2.2.2.2.2.2.2.2.2.2.1, t.2.2.2.2.2.2.2.2.2.2.2.2.2.2.1, t.2.2.2.2.2.2.2.2.2.2.2.2.2.2.2) (upd D 0 y) := by
  obtain ⟨⟨h0_, h2_, h3_, h4_, h5_, h6_, h7_, h8_, h9_, h10_, h11_⟩, hb, hs⟩ := h
  refine ⟨⟨?_, ?_, ?_, ?_, ?_, ?_, ?_, ?_, ?_, ?_, ?_⟩, fun k hk => ?_, fun k hk hl => ?_⟩
  · exact (upd_same _ _ _).symm
  · exact h2_.trans (upd_ne _ _ (by omega)).symm
  · exact h3_.trans (upd_ne _ _ (by omega)).symm
  · exact h4_.trans (upd_ne _ _ (by omega)).symm
  · exact h5_.trans (upd_ne _ _ (by omega)).symm
  · exact h6_.trans (upd_ne _ _ (by omega)).symm
  · exact h7_.trans (upd_ne _ _ (by omega)).symm
  · exact h8_.trans (upd_ne _ _ (by omega)).symm
  · exact h9_.trans (upd_ne _ _ (by omega)).symm
  · exact h10_.trans (upd_ne _ _ (by omega)).symm
  · exact h11_.trans (upd_ne _ _ (by omega)).symm
  · rw [upd_ne _ _ (by omega), upd_ne _ _ (by omega), upd_ne _ _ (by omega)]
    exact hb k hk
  · rw [upd_ne _ _ (by omega), upd_ne _ _ (by omega)]
    exact hs k hk hl
theorem bTu_periods {t : S_X7} (h : bT t) {y : Int32} (hy : lim y 40) : bT (y, t.2.1, t.2.2.1, t.2.2.2.1, t.2.2.2.2.1, t.2.2.2.2.2.1, t.2.2.2.2.2.2.1, t.2.2.2.2.2.2.2.1, t.2.2.2.2.2.2.2.2.1, t.2.2.2.2.2.2.2.2.2.1, t.2.2.2.2.2.2.2.2.2.2.1, t.2.2.2.2.2.2.2.2.2.2.2.1, t.2.2.2.2.2.2.2.2.2.2.2.2.1, t.2.2.2.2.2.2.2.2.2.2.2.2.2.1, t.2.2.2.2.2.2.2.2.2.2.2.2.2.2.1, t.2.2.2.2.2.2.2.2.2.2.2.2.2.2.2) := ⟨hy, h.2.1, h.2.2.1, h.2.2.2.1, h.2.2.2.2.1, h.2.2.2.2.2.1, h.2.2.2.2.2.2.1, h.2.2.2.2.2.2.2.1, h.2.2.2.2.2.2.2.2.1, h.2.2.2.2.2.2.2.2.2.1, h.2.2.2.2.2.2.2.2.2.2⟩
theorem rTu_price {t : S_X7} {D : Nat → Int32} (h : rT t D) (y : Int32) : rT (t.1, y, t.2.2.1, t.2.2.2.1, t.2.2.2.2.1, t.2.2.2.2.2.1, t.2.2.2.2.2.2.1, t.2.2.2.2.2.2.2.1, t.2.2.2.2.2.2.2.2.1, t.2.2.2.2.2.2.2.2.2.1, t.2.2.2.2.2.2.2.2.2.2.1, t.2.2.2.2.2.2.2.2.2.2.2.1, t.2.2.2.2.2.2.2.2.2.2.2.2.1, t.2.2.2.2.2.2.2.2.2.2.2.2.2.1, t.2.2.2.2.2.2.2.2.2.2.2.2.2.2.1, t.2.2.2.2.2.2.2.2.2.2.2.2.2.2.2) (upd D 2 y) := by
  obtain ⟨⟨h0_, h2_, h3_, h4_, h5_, h6_, h7_, h8_, h9_, h10_, h11_⟩, hb, hs⟩ := h
  refine ⟨⟨?_, ?_, ?_, ?_, ?_, ?_, ?_, ?_, ?_, ?_, ?_⟩, fun k hk => ?_, fun k hk hl => ?_⟩
  · exact h0_.trans (upd_ne _ _ (by omega)).symm
  · exact (upd_same _ _ _).symm
  · exact h3_.trans (upd_ne _ _ (by omega)).symm
  · exact h4_.trans (upd_ne _ _ (by omega)).symm
  · exact h5_.trans (upd_ne _ _ (by omega)).symm
  · exact h6_.trans (upd_ne _ _ (by omega)).symm
  · exact h7_.trans (upd_ne _ _ (by omega)).symm
  · exact h8_.trans (upd_ne _ _ (by omega)).symm
  · exact h9_.trans (upd_ne _ _ (by omega)).symm
  · exact h10_.trans (upd_ne _ _ (by omega)).symm
  · exact h11_.trans (upd_ne _ _ (by omega)).symm
  · rw [upd_ne _ _ (by omega), upd_ne _ _ (by omega), upd_ne _ _ (by omega)]
    exact hb k hk
  · rw [upd_ne _ _ (by omega), upd_ne _ _ (by omega)]
    exact hs k hk hl
theorem bTu_price {t : S_X7} (h : bT t) {y : Int32} (hy : lim y 999) : bT (t.1, y, t.2.2.1, t.2.2.2.1, t.2.2.2.2.1, t.2.2.2.2.2.1, t.2.2.2.2.2.2.1, t.2.2.2.2.2.2.2.1, t.2.2.2.2.2.2.2.2.1, t.2.2.2.2.2.2.2.2.2.1, t.2.2.2.2.2.2.2.2.2.2.1, t.2.2.2.2.2.2.2.2.2.2.2.1, t.2.2.2.2.2.2.2.2.2.2.2.2.1, t.2.2.2.2.2.2.2.2.2.2.2.2.2.1, t.2.2.2.2.2.2.2.2.2.2.2.2.2.2.1, t.2.2.2.2.2.2.2.2.2.2.2.2.2.2.2) := ⟨h.1, hy, h.2.2.1, h.2.2.2.1, h.2.2.2.2.1, h.2.2.2.2.2.1, h.2.2.2.2.2.2.1, h.2.2.2.2.2.2.2.1, h.2.2.2.2.2.2.2.2.1, h.2.2.2.2.2.2.2.2.2.1, h.2.2.2.2.2.2.2.2.2.2⟩
theorem rTu_fee {t : S_X7} {D : Nat → Int32} (h : rT t D) (y : Int32) : rT (t.1, t.2.1, y, t.2.2.2.1, t.2.2.2.2.1, t.2.2.2.2.2.1, t.2.2.2.2.2.2.1, t.2.2.2.2.2.2.2.1, t.2.2.2.2.2.2.2.2.1, t.2.2.2.2.2.2.2.2.2.1, t.2.2.2.2.2.2.2.2.2.2.1, t.2.2.2.2.2.2.2.2.2.2.2.1, t.2.2.2.2.2.2.2.2.2.2.2.2.1, t.2.2.2.2.2.2.2.2.2.2.2.2.2.1, t.2.2.2.2.2.2.2.2.2.2.2.2.2.2.1, t.2.2.2.2.2.2.2.2.2.2.2.2.2.2.2) (upd D 3 y) := by
  obtain ⟨⟨h0_, h2_, h3_, h4_, h5_, h6_, h7_, h8_, h9_, h10_, h11_⟩, hb, hs⟩ := h
  refine ⟨⟨?_, ?_, ?_, ?_, ?_, ?_, ?_, ?_, ?_, ?_, ?_⟩, fun k hk => ?_, fun k hk hl => ?_⟩
  · exact h0_.trans (upd_ne _ _ (by omega)).symm
  · exact h2_.trans (upd_ne _ _ (by omega)).symm
  · exact (upd_same _ _ _).symm
  · exact h4_.trans (upd_ne _ _ (by omega)).symm
  · exact h5_.trans (upd_ne _ _ (by omega)).symm
  · exact h6_.trans (upd_ne _ _ (by omega)).symm
  · exact h7_.trans (upd_ne _ _ (by omega)).symm
  · exact h8_.trans (upd_ne _ _ (by omega)).symm
  · exact h9_.trans (upd_ne _ _ (by omega)).symm
  · exact h10_.trans (upd_ne _ _ (by omega)).symm
  · exact h11_.trans (upd_ne _ _ (by omega)).symm
  · rw [upd_ne _ _ (by omega), upd_ne _ _ (by omega), upd_ne _ _ (by omega)]
    exact hb k hk
  · rw [upd_ne _ _ (by omega), upd_ne _ _ (by omega)]
    exact hs k hk hl
theorem bTu_fee {t : S_X7} (h : bT t) {y : Int32} (hy : lim y 99) : bT (t.1, t.2.1, y, t.2.2.2.1, t.2.2.2.2.1, t.2.2.2.2.2.1, t.2.2.2.2.2.2.1, t.2.2.2.2.2.2.2.1, t.2.2.2.2.2.2.2.2.1, t.2.2.2.2.2.2.2.2.2.1, t.2.2.2.2.2.2.2.2.2.2.1, t.2.2.2.2.2.2.2.2.2.2.2.1, t.2.2.2.2.2.2.2.2.2.2.2.2.1, t.2.2.2.2.2.2.2.2.2.2.2.2.2.1, t.2.2.2.2.2.2.2.2.2.2.2.2.2.2.1, t.2.2.2.2.2.2.2.2.2.2.2.2.2.2.2) := ⟨h.1, h.2.1, hy, h.2.2.2.1, h.2.2.2.2.1, h.2.2.2.2.2.1, h.2.2.2.2.2.2.1, h.2.2.2.2.2.2.2.1, h.2.2.2.2.2.2.2.2.1, h.2.2.2.2.2.2.2.2.2.1, h.2.2.2.2.2.2.2.2.2.2⟩
theorem rTu_spotLimit {t : S_X7} {D : Nat → Int32} (h : rT t D) (y : Int32) : rT (t.1, t.2.1, t.2.2.1, y, t.2.2.2.2.1, t.2.2.2.2.2.1, t.2.2.2.2.2.2.1, t.2.2.2.2.2.2.2.1, t.2.2.2.2.2.2.2.2.1, t.2.2.2.2.2.2.2.2.2.1, t.2.2.2.2.2.2.2.2.2.2.1, t.2.2.2.2.2.2.2.2.2.2.2.1, t.2.2.2.2.2.2.2.2.2.2.2.2.1, t.2.2.2.2.2.2.2.2.2.2.2.2.2.1, t.2.2.2.2.2.2.2.2.2.2.2.2.2.2.1, t.2.2.2.2.2.2.2.2.2.2.2.2.2.2.2) (upd D 4 y) := by
  obtain ⟨⟨h0_, h2_, h3_, h4_, h5_, h6_, h7_, h8_, h9_, h10_, h11_⟩, hb, hs⟩ := h
  refine ⟨⟨?_, ?_, ?_, ?_, ?_, ?_, ?_, ?_, ?_, ?_, ?_⟩, fun k hk => ?_, fun k hk hl => ?_⟩
  · exact h0_.trans (upd_ne _ _ (by omega)).symm
  · exact h2_.trans (upd_ne _ _ (by omega)).symm
  · exact h3_.trans (upd_ne _ _ (by omega)).symm
  · exact (upd_same _ _ _).symm
  · exact h5_.trans (upd_ne _ _ (by omega)).symm
  · exact h6_.trans (upd_ne _ _ (by omega)).symm
  · exact h7_.trans (upd_ne _ _ (by omega)).symm
  · exact h8_.trans (upd_ne _ _ (by omega)).symm
  · exact h9_.trans (upd_ne _ _ (by omega)).symm
  · exact h10_.trans (upd_ne _ _ (by omega)).symm
  · exact h11_.trans (upd_ne _ _ (by omega)).symm
  · rw [upd_ne _ _ (by omega), upd_ne _ _ (by omega), upd_ne _ _ (by omega)]
    exact hb k hk
  · rw [upd_ne _ _ (by omega), upd_ne _ _ (by omega)]
    exact hs k hk hl
theorem bTu_spotLimit {t : S_X7} (h : bT t) {y : Int32} (hy : lim y 9999) : bT (t.1, t.2.1, t.2.2.1, y, t.2.2.2.2.1, t.2.2.2.2.2.1, t.2.2.2.2.2.2.1, t.2.2.2.2.2.2.2.1, t.2.2.2.2.2.2.2.2.1, t.2.2.2.2.2.2.2.2.2.1, t.2.2.2.2.2.2.2.2.2.2.1, t.2.2.2.2.2.2.2.2.2.2.2.1, t.2.2.2.2.2.2.2.2.2.2.2.2.1, t.2.2.2.2.2.2.2.2.2.2.2.2.2.1, t.2.2.2.2.2.2.2.2.2.2.2.2.2.2.1, t.2.2.2.2.2.2.2.2.2.2.2.2.2.2.2) := ⟨h.1, h.2.1, h.2.2.1, hy, h.2.2.2.2.1, h.2.2.2.2.2.1, h.2.2.2.2.2.2.1, h.2.2.2.2.2.2.2.1, h.2.2.2.2.2.2.2.2.1, h.2.2.2.2.2.2.2.2.2.1, h.2.2.2.2.2.2.2.2.2.2⟩
theorem rTu_spotPrice {t : S_X7} {D : Nat → Int32} (h : rT t D) (y : Int32) : rT (t.1, t.2.1, t.2.2.1, t.2.2.2.1, y, t.2.2.2.2.2.1, t.2.2.2.2.2.2.1, t.2.2.2.2.2.2.2.1, t.2.2.2.2.2.2.2.2.1, t.2.2.2.2.2.2.2.2.2.1, t.2.2.2.2.2.2.2.2.2.2.1, t.2.2.2.2.2.2.2.2.2.2.2.1, t.2.2.2.2.2.2.2.2.2.2.2.2.1, t.2.2.2.2.2.2.2.2.2.2.2.2.2.1, t.2.2.2.2.2.2.2.2.2.2.2.2.2.2.1, t.2.2.2.2.2.2.2.2.2.2.2.2.2.2.2) (upd D 5 y) := by
  obtain ⟨⟨h0_, h2_, h3_, h4_, h5_, h6_, h7_, h8_, h9_, h10_, h11_⟩, hb, hs⟩ := h
  refine ⟨⟨?_, ?_, ?_, ?_, ?_, ?_, ?_, ?_, ?_, ?_, ?_⟩, fun k hk => ?_, fun k hk hl => ?_⟩
  · exact h0_.trans (upd_ne _ _ (by omega)).symm
  · exact h2_.trans (upd_ne _ _ (by omega)).symm
  · exact h3_.trans (upd_ne _ _ (by omega)).symm
  · exact h4_.trans (upd_ne _ _ (by omega)).symm
  · exact (upd_same _ _ _).symm
  · exact h6_.trans (upd_ne _ _ (by omega)).symm
  · exact h7_.trans (upd_ne _ _ (by omega)).symm
  · exact h8_.trans (upd_ne _ _ (by omega)).symm
  · exact h9_.trans (upd_ne _ _ (by omega)).symm
  · exact h10_.trans (upd_ne _ _ (by omega)).symm
  · exact h11_.trans (upd_ne _ _ (by omega)).symm
  · rw [upd_ne _ _ (by omega), upd_ne _ _ (by omega), upd_ne _ _ (by omega)]
    exact hb k hk
  · rw [upd_ne _ _ (by omega), upd_ne _ _ (by omega)]
    exact hs k hk hl
theorem bTu_spotPrice {t : S_X7} (h : bT t) {y : Int32} (hy : lim y 999) : bT (t.1, t.2.1, t.2.2.1, t.2.2.2.1, y, t.2.2.2.2.2.1, t.2.2.2.2.2.2.1, t.2.2.2.2.2.2.2.1, t.2.2.2.2.2.2.2.2.1, t.2.2.2.2.2.2.2.2.2.1, t.2.2.2.2.2.2.2.2.2.2.1, t.2.2.2.2.2.2.2.2.2.2.2.1, t.2.2.2.2.2.2.2.2.2.2.2.2.1, t.2.2.2.2.2.2.2.2.2.2.2.2.2.1, t.2.2.2.2.2.2.2.2.2.2.2.2.2.2.1, t.2.2.2.2.2.2.2.2.2.2.2.2.2.2.2) := ⟨h.1, h.2.1, h.2.2.1, h.2.2.2.1, hy, h.2.2.2.2.2.1, h.2.2.2.2.2.2.1, h.2.2.2.2.2.2.2.1, h.2.2.2.2.2.2.2.2.1, h.2.2.2.2.2.2.2.2.2.1, h.2.2.2.2.2.2.2.2.2.2⟩
theorem rTu_window {t : S_X7} {D : Nat → Int32} (h : rT t D) (y : Int32) : rT (t.1, t.2.1, t.2.2.1, t.2.2.2.1, t.2.2.2.2.1, y, t.2.2.2.2.2.2.1, t.2.2.2.2.2.2.2.1, t.2.2.2.2.2.2.2.2.1, t.2.2.2.2.2.2.2.2.2.1, t.2.2.2.2.2.2.2.2.2.2.1, t.2.2.2.2.2.2.2.2.2.2.2.1, t.2.2.2.2.2.2.2.2.2.2.2.2.1, t.2.2.2.2.2.2.2.2.2.2.2.2.2.1, t.2.2.2.2.2.2.2.2.2.2.2.2.2.2.1, t.2.2.2.2.2.2.2.2.2.2.2.2.2.2.2) (upd D 6 y) := by
  obtain ⟨⟨h0_, h2_, h3_, h4_, h5_, h6_, h7_, h8_, h9_, h10_, h11_⟩, hb, hs⟩ := h
  refine ⟨⟨?_, ?_, ?_, ?_, ?_, ?_, ?_, ?_, ?_, ?_, ?_⟩, fun k hk => ?_, fun k hk hl => ?_⟩
  · exact h0_.trans (upd_ne _ _ (by omega)).symm
  · exact h2_.trans (upd_ne _ _ (by omega)).symm
  · exact h3_.trans (upd_ne _ _ (by omega)).symm
  · exact h4_.trans (upd_ne _ _ (by omega)).symm
  · exact h5_.trans (upd_ne _ _ (by omega)).symm
  · exact (upd_same _ _ _).symm
  · exact h7_.trans (upd_ne _ _ (by omega)).symm
  · exact h8_.trans (upd_ne _ _ (by omega)).symm
  · exact h9_.trans (upd_ne _ _ (by omega)).symm
  · exact h10_.trans (upd_ne _ _ (by omega)).symm
  · exact h11_.trans (upd_ne _ _ (by omega)).symm
  · rw [upd_ne _ _ (by omega), upd_ne _ _ (by omega), upd_ne _ _ (by omega)]
    exact hb k hk
  · rw [upd_ne _ _ (by omega), upd_ne _ _ (by omega)]
    exact hs k hk hl
theorem bTu_window {t : S_X7} (h : bT t) {y : Int32} (hy : lim y 6) : bT (t.1, t.2.1, t.2.2.1, t.2.2.2.1, t.2.2.2.2.1, y, t.2.2.2.2.2.2.1, t.2.2.2.2.2.2.2.1, t.2.2.2.2.2.2.2.2.1, t.2.2.2.2.2.2.2.2.2.1, t.2.2.2.2.2.2.2.2.2.2.1, t.2.2.2.2.2.2.2.2.2.2.2.1, t.2.2.2.2.2.2.2.2.2.2.2.2.1, t.2.2.2.2.2.2.2.2.2.2.2.2.2.1, t.2.2.2.2.2.2.2.2.2.2.2.2.2.2.1, t.2.2.2.2.2.2.2.2.2.2.2.2.2.2.2) := ⟨h.1, h.2.1, h.2.2.1, h.2.2.2.1, h.2.2.2.2.1, hy, h.2.2.2.2.2.2.1, h.2.2.2.2.2.2.2.1, h.2.2.2.2.2.2.2.2.1, h.2.2.2.2.2.2.2.2.2.1, h.2.2.2.2.2.2.2.2.2.2⟩
theorem rTu_minimum {t : S_X7} {D : Nat → Int32} (h : rT t D) (y : Int32) : rT (t.1, t.2.1, t.2.2.1, t.2.2.2.1, t.2.2.2.2.1, t.2.2.2.2.2.1, y, t.2.2.2.2.2.2.2.1, t.2.2.2.2.2.2.2.2.1, t.2.2.2.2.2.2.2.2.2.1, t.2.2.2.2.2.2.2.2.2.2.1, t.2.2.2.2.2.2.2.2.2.2.2.1, t.2.2.2.2.2.2.2.2.2.2.2.2.1, t.2.2.2.2.2.2.2.2.2.2.2.2.2.1, t.2.2.2.2.2.2.2.2.2.2.2.2.2.2.1, t.2.2.2.2.2.2.2.2.2.2.2.2.2.2.2) (upd D 7 y) := by
  obtain ⟨⟨h0_, h2_, h3_, h4_, h5_, h6_, h7_, h8_, h9_, h10_, h11_⟩, hb, hs⟩ := h
  refine ⟨⟨?_, ?_, ?_, ?_, ?_, ?_, ?_, ?_, ?_, ?_, ?_⟩, fun k hk => ?_, fun k hk hl => ?_⟩
  · exact h0_.trans (upd_ne _ _ (by omega)).symm
  · exact h2_.trans (upd_ne _ _ (by omega)).symm
  · exact h3_.trans (upd_ne _ _ (by omega)).symm
  · exact h4_.trans (upd_ne _ _ (by omega)).symm
  · exact h5_.trans (upd_ne _ _ (by omega)).symm
  · exact h6_.trans (upd_ne _ _ (by omega)).symm
  · exact (upd_same _ _ _).symm
  · exact h8_.trans (upd_ne _ _ (by omega)).symm
  · exact h9_.trans (upd_ne _ _ (by omega)).symm
  · exact h10_.trans (upd_ne _ _ (by omega)).symm
  · exact h11_.trans (upd_ne _ _ (by omega)).symm
  · rw [upd_ne _ _ (by omega), upd_ne _ _ (by omega), upd_ne _ _ (by omega)]
    exact hb k hk
  · rw [upd_ne _ _ (by omega), upd_ne _ _ (by omega)]
    exact hs k hk hl
theorem bTu_minimum {t : S_X7} (h : bT t) {y : Int32} (hy : lim y 100) : bT (t.1, t.2.1, t.2.2.1, t.2.2.2.1, t.2.2.2.2.1, t.2.2.2.2.2.1, y, t.2.2.2.2.2.2.2.1, t.2.2.2.2.2.2.2.2.1, t.2.2.2.2.2.2.2.2.2.1, t.2.2.2.2.2.2.2.2.2.2.1, t.2.2.2.2.2.2.2.2.2.2.2.1, t.2.2.2.2.2.2.2.2.2.2.2.2.1, t.2.2.2.2.2.2.2.2.2.2.2.2.2.1, t.2.2.2.2.2.2.2.2.2.2.2.2.2.2.1, t.2.2.2.2.2.2.2.2.2.2.2.2.2.2.2) := ⟨h.1, h.2.1, h.2.2.1, h.2.2.2.1, h.2.2.2.2.1, h.2.2.2.2.2.1, hy, h.2.2.2.2.2.2.2.1, h.2.2.2.2.2.2.2.2.1, h.2.2.2.2.2.2.2.2.2.1, h.2.2.2.2.2.2.2.2.2.2⟩
theorem rTu_miss {t : S_X7} {D : Nat → Int32} (h : rT t D) (y : Int32) : rT (t.1, t.2.1, t.2.2.1, t.2.2.2.1, t.2.2.2.2.1, t.2.2.2.2.2.1, t.2.2.2.2.2.2.1, y, t.2.2.2.2.2.2.2.2.1, t.2.2.2.2.2.2.2.2.2.1, t.2.2.2.2.2.2.2.2.2.2.1, t.2.2.2.2.2.2.2.2.2.2.2.1, t.2.2.2.2.2.2.2.2.2.2.2.2.1, t.2.2.2.2.2.2.2.2.2.2.2.2.2.1, t.2.2.2.2.2.2.2.2.2.2.2.2.2.2.1, t.2.2.2.2.2.2.2.2.2.2.2.2.2.2.2) (upd D 8 y) := by
  obtain ⟨⟨h0_, h2_, h3_, h4_, h5_, h6_, h7_, h8_, h9_, h10_, h11_⟩, hb, hs⟩ := h
  refine ⟨⟨?_, ?_, ?_, ?_, ?_, ?_, ?_, ?_, ?_, ?_, ?_⟩, fun k hk => ?_, fun k hk hl => ?_⟩
  · exact h0_.trans (upd_ne _ _ (by omega)).symm
  · exact h2_.trans (upd_ne _ _ (by omega)).symm
  · exact h3_.trans (upd_ne _ _ (by omega)).symm
  · exact h4_.trans (upd_ne _ _ (by omega)).symm
  · exact h5_.trans (upd_ne _ _ (by omega)).symm
  · exact h6_.trans (upd_ne _ _ (by omega)).symm
  · exact h7_.trans (upd_ne _ _ (by omega)).symm
  · exact (upd_same _ _ _).symm
  · exact h9_.trans (upd_ne _ _ (by omega)).symm
  · exact h10_.trans (upd_ne _ _ (by omega)).symm
  · exact h11_.trans (upd_ne _ _ (by omega)).symm
  · rw [upd_ne _ _ (by omega), upd_ne _ _ (by omega), upd_ne _ _ (by omega)]
    exact hb k hk
  · rw [upd_ne _ _ (by omega), upd_ne _ _ (by omega)]
    exact hs k hk hl
theorem bTu_miss {t : S_X7} (h : bT t) {y : Int32} (hy : lim y 999) : bT (t.1, t.2.1, t.2.2.1, t.2.2.2.1, t.2.2.2.2.1, t.2.2.2.2.2.1, t.2.2.2.2.2.2.1, y, t.2.2.2.2.2.2.2.2.1, t.2.2.2.2.2.2.2.2.2.1, t.2.2.2.2.2.2.2.2.2.2.1, t.2.2.2.2.2.2.2.2.2.2.2.1, t.2.2.2.2.2.2.2.2.2.2.2.2.1, t.2.2.2.2.2.2.2.2.2.2.2.2.2.1, t.2.2.2.2.2.2.2.2.2.2.2.2.2.2.1, t.2.2.2.2.2.2.2.2.2.2.2.2.2.2.2) := ⟨h.1, h.2.1, h.2.2.1, h.2.2.2.1, h.2.2.2.2.1, h.2.2.2.2.2.1, h.2.2.2.2.2.2.1, hy, h.2.2.2.2.2.2.2.2.1, h.2.2.2.2.2.2.2.2.2.1, h.2.2.2.2.2.2.2.2.2.2⟩
theorem rTu_waivers {t : S_X7} {D : Nat → Int32} (h : rT t D) (y : Int32) : rT (t.1, t.2.1, t.2.2.1, t.2.2.2.1, t.2.2.2.2.1, t.2.2.2.2.2.1, t.2.2.2.2.2.2.1, t.2.2.2.2.2.2.2.1, y, t.2.2.2.2.2.2.2.2.2.1, t.2.2.2.2.2.2.2.2.2.2.1, t.2.2.2.2.2.2.2.2.2.2.2.1, t.2.2.2.2.2.2.2.2.2.2.2.2.1, t.2.2.2.2.2.2.2.2.2.2.2.2.2.1, t.2.2.2.2.2.2.2.2.2.2.2.2.2.2.1, t.2.2.2.2.2.2.2.2.2.2.2.2.2.2.2) (upd D 9 y) := by
  obtain ⟨⟨h0_, h2_, h3_, h4_, h5_, h6_, h7_, h8_, h9_, h10_, h11_⟩, hb, hs⟩ := h
  refine ⟨⟨?_, ?_, ?_, ?_, ?_, ?_, ?_, ?_, ?_, ?_, ?_⟩, fun k hk => ?_, fun k hk hl => ?_⟩
  · exact h0_.trans (upd_ne _ _ (by omega)).symm
  · exact h2_.trans (upd_ne _ _ (by omega)).symm
  · exact h3_.trans (upd_ne _ _ (by omega)).symm
  · exact h4_.trans (upd_ne _ _ (by omega)).symm
  · exact h5_.trans (upd_ne _ _ (by omega)).symm
  · exact h6_.trans (upd_ne _ _ (by omega)).symm
  · exact h7_.trans (upd_ne _ _ (by omega)).symm
  · exact h8_.trans (upd_ne _ _ (by omega)).symm
  · exact (upd_same _ _ _).symm
  · exact h10_.trans (upd_ne _ _ (by omega)).symm
  · exact h11_.trans (upd_ne _ _ (by omega)).symm
  · rw [upd_ne _ _ (by omega), upd_ne _ _ (by omega), upd_ne _ _ (by omega)]
    exact hb k hk
  · rw [upd_ne _ _ (by omega), upd_ne _ _ (by omega)]
    exact hs k hk hl
theorem bTu_waivers {t : S_X7} (h : bT t) {y : Int32} (hy : lim y 4) : bT (t.1, t.2.1, t.2.2.1, t.2.2.2.1, t.2.2.2.2.1, t.2.2.2.2.2.1, t.2.2.2.2.2.2.1, t.2.2.2.2.2.2.2.1, y, t.2.2.2.2.2.2.2.2.2.1, t.2.2.2.2.2.2.2.2.2.2.1, t.2.2.2.2.2.2.2.2.2.2.2.1, t.2.2.2.2.2.2.2.2.2.2.2.2.1, t.2.2.2.2.2.2.2.2.2.2.2.2.2.1, t.2.2.2.2.2.2.2.2.2.2.2.2.2.2.1, t.2.2.2.2.2.2.2.2.2.2.2.2.2.2.2) := ⟨h.1, h.2.1, h.2.2.1, h.2.2.2.1, h.2.2.2.2.1, h.2.2.2.2.2.1, h.2.2.2.2.2.2.1, h.2.2.2.2.2.2.2.1, hy, h.2.2.2.2.2.2.2.2.2.1, h.2.2.2.2.2.2.2.2.2.2⟩
theorem rTu_gap {t : S_X7} {D : Nat → Int32} (h : rT t D) (y : Int32) : rT (t.1, t.2.1, t.2.2.1, t.2.2.2.1, t.2.2.2.2.1, t.2.2.2.2.2.1, t.2.2.2.2.2.2.1, t.2.2.2.2.2.2.2.1, t.2.2.2.2.2.2.2.2.1, y, t.2.2.2.2.2.2.2.2.2.2.1, t.2.2.2.2.2.2.2.2.2.2.2.1, t.2.2.2.2.2.2.2.2.2.2.2.2.1, t.2.2.2.2.2.2.2.2.2.2.2.2.2.1, t.2.2.2.2.2.2.2.2.2.2.2.2.2.2.1, t.2.2.2.2.2.2.2.2.2.2.2.2.2.2.2) (upd D 10 y) := by
  obtain ⟨⟨h0_, h2_, h3_, h4_, h5_, h6_, h7_, h8_, h9_, h10_, h11_⟩, hb, hs⟩ := h
  refine ⟨⟨?_, ?_, ?_, ?_, ?_, ?_, ?_, ?_, ?_, ?_, ?_⟩, fun k hk => ?_, fun k hk hl => ?_⟩
  · exact h0_.trans (upd_ne _ _ (by omega)).symm
  · exact h2_.trans (upd_ne _ _ (by omega)).symm
  · exact h3_.trans (upd_ne _ _ (by omega)).symm
  · exact h4_.trans (upd_ne _ _ (by omega)).symm
  · exact h5_.trans (upd_ne _ _ (by omega)).symm
  · exact h6_.trans (upd_ne _ _ (by omega)).symm
  · exact h7_.trans (upd_ne _ _ (by omega)).symm
  · exact h8_.trans (upd_ne _ _ (by omega)).symm
  · exact h9_.trans (upd_ne _ _ (by omega)).symm
  · exact (upd_same _ _ _).symm
  · exact h11_.trans (upd_ne _ _ (by omega)).symm
  · rw [upd_ne _ _ (by omega), upd_ne _ _ (by omega), upd_ne _ _ (by omega)]
    exact hb k hk
  · rw [upd_ne _ _ (by omega), upd_ne _ _ (by omega)]
    exact hs k hk hl
theorem bTu_gap {t : S_X7} (h : bT t) {y : Int32} (hy : lim y 40) : bT (t.1, t.2.1, t.2.2.1, t.2.2.2.1, t.2.2.2.2.1, t.2.2.2.2.2.1, t.2.2.2.2.2.2.1, t.2.2.2.2.2.2.2.1, t.2.2.2.2.2.2.2.2.1, y, t.2.2.2.2.2.2.2.2.2.2.1, t.2.2.2.2.2.2.2.2.2.2.2.1, t.2.2.2.2.2.2.2.2.2.2.2.2.1, t.2.2.2.2.2.2.2.2.2.2.2.2.2.1, t.2.2.2.2.2.2.2.2.2.2.2.2.2.2.1, t.2.2.2.2.2.2.2.2.2.2.2.2.2.2.2) := ⟨h.1, h.2.1, h.2.2.1, h.2.2.2.1, h.2.2.2.2.1, h.2.2.2.2.2.1, h.2.2.2.2.2.2.1, h.2.2.2.2.2.2.2.1, h.2.2.2.2.2.2.2.2.1, hy, h.2.2.2.2.2.2.2.2.2.2⟩
section
variable {T B : Nat → Int32} {n : Nat}
theorem P_spot (hT : tx T B n) {q s : Nat} {da : Int32} {dm : DM} {t : S_X7} {a : S_X0} {br : S_X1} (hs : s < 128) (hw : wd T n q (zsb 17)) : SX T B n q s da dm t a br := by
  have hle := (wd_let (w_ok 1 (by omega)) hw).2.2
  have hl0 := (wOK_f (w_ok 1 (by omega))).1
  have hle : q + (zsb 17).length ≤ n := hle
  have hl0 : 0 < (zsb 17).length := hl0
  have hsk0 := sk_le (T := T) (n := n) (p := q + (zsb 17).length) hle
  cases hb : s.testBit 0 with
  | true =>
    refine Or.inl ⟨-2, nI q, by decide, fun x x3 post hx hp => ?_, fun u p post hr hps => ?_⟩
    · unfold wS
      refine c_stmt hT hx hs (fun w => absurd w (wd_ex (i := 1) (j := 0) (by omega) (by omega) (by omega) hw)) (fun _ q1 => absurd (hb.symm.trans q1) (by decide)) (fun w => absurd w (wd_ex (i := 1) (j := 2) (by omega) (by omega) (by omega) hw)) (fun w => absurd w (wd_ex (i := 1) (j := 3) (by omega) (by omega) (by omega) hw)) (fun w => absurd w (wd_ex (i := 1) (j := 4) (by omega) (by omega) (by omega) hw)) (fun w => absurd w (wd_ex (i := 1) (j := 5) (by omega) (by omega) (by omega) hw)) (fun w => absurd w (wd_ex (i := 1) (j := 6) (by omega) (by omega) (by omega) hw)) (fun w => absurd w (wd_ex (i := 1) (j := 7) (by omega) (by omega) (by omega) hw)) (fun _ _ _ _ _ _ _ _ x' h' => e_sign h' (by decide) (fun x2 h2 => hp _ h2 rfl))
    · obtain ⟨hg, hne, hse, hSI⟩ := hr
      refine r_stmt hT hg (fun w => absurd w (wd_ex (i := 1) (j := 0) (by omega) (by omega) (by omega) hw)) (fun _ => r_once1 (u := (u.1, u.2.1, u.2.2.1, u.2.2.2.1, (nI (q + (zsb 17).length)), u.2.2.2.2.2.1, u.2.2.2.2.2.2.1, u.2.2.2.2.2.2.2.1, u.2.2.2.2.2.2.2.2.1, u.2.2.2.2.2.2.2.2.2.1, u.2.2.2.2.2.2.2.2.2.2.1, u.2.2.2.2.2.2.2.2.2.2.2.1, u.2.2.2.2.2.2.2.2.2.2.2.2.1, u.2.2.2.2.2.2.2.2.2.2.2.2.2.1, u.2.2.2.2.2.2.2.2.2.2.2.2.2.2.1, u.2.2.2.2.2.2.2.2.2.2.2.2.2.2.2.1, u.2.2.2.2.2.2.2.2.2.2.2.2.2.2.2.2.1, u.2.2.2.2.2.2.2.2.2.2.2.2.2.2.2.2.2.1, u.2.2.2.2.2.2.2.2.2.2.2.2.2.2.2.2.2.2.1, u.2.2.2.2.2.2.2.2.2.2.2.2.2.2.2.2.2.2.2.1, u.2.2.2.2.2.2.2.2.2.2.2.2.2.2.2.2.2.2.2.2.1, u.2.2.2.2.2.2.2.2.2.2.2.2.2.2.2.2.2.2.2.2.2)) hs (by omega) hse hg.2.1 hb (fun y => re_number ne2 (re_number ne2 (re_expect ne2 (hps _ ⟨rfl, rfl, rfl, rfl, rfl, rfl, rfl⟩ rfl rfl))))) (fun w => absurd w (wd_ex (i := 1) (j := 2) (by omega) (by omega) (by omega) hw)) (fun w => absurd w (wd_ex (i := 1) (j := 3) (by omega) (by omega) (by omega) hw)) (fun w => absurd w (wd_ex (i := 1) (j := 4) (by omega) (by omega) (by omega) hw)) (fun w => absurd w (wd_ex (i := 1) (j := 5) (by omega) (by omega) (by omega) hw)) (fun w => absurd w (wd_ex (i := 1) (j := 6) (by omega) (by omega) (by omega) hw)) (fun w => absurd w (wd_ex (i := 1) (j := 7) (by omega) (by omega) (by omega) hw)) (fun n16 n17 n18 n19 n20 n21 n22 n23 => absurd hw n17)
  | false =>
    rcases P_num hT (q := sk T n (q + (zsb 17).length)) (lo := 0) (hi := 9999) (by omega) (by omega) with ⟨e0, he0, c0, r0⟩ | ⟨e0, d0, dl0, dh0, f0, g0, c0, r0⟩
    · refine Or.inl ⟨e0, nI (sk T n (q + (zsb 17).length)), he0, fun x x3 post hx hp => ?_, fun u p post hr hps => ?_⟩
      · unfold wS
        refine c_stmt hT hx hs (fun w => absurd w (wd_ex (i := 1) (j := 0) (by omega) (by omega) (by omega) hw)) (fun _ _ x0 hx0 => c0 x0 _ hx0 (fun y0 hz => e_number hz (fun y1 hz => e_sign hz (by decide) (fun x9 h9 => hp _ h9 rfl)))) (fun w => absurd w (wd_ex (i := 1) (j := 2) (by omega) (by omega) (by omega) hw)) (fun w => absurd w (wd_ex (i := 1) (j := 3) (by omega) (by omega) (by omega) hw)) (fun w => absurd w (wd_ex (i := 1) (j := 4) (by omega) (by omega) (by omega) hw)) (fun w => absurd w (wd_ex (i := 1) (j := 5) (by omega) (by omega) (by omega) hw)) (fun w => absurd w (wd_ex (i := 1) (j := 6) (by omega) (by omega) (by omega) hw)) (fun w => absurd w (wd_ex (i := 1) (j := 7) (by omega) (by omega) (by omega) hw)) (fun n16 n17 n18 n19 n20 n21 n22 n23 => absurd (n17 hw) (by rw [hb]; decide))
      · obtain ⟨hg, hne, hse, hSI⟩ := hr
        obtain ⟨hu, h0, -, -, -⟩ := id hg
        refine r_stmt hT hg (fun w => absurd w (wd_ex (i := 1) (j := 0) (by omega) (by omega) (by omega) hw)) (fun _ => r_once0 (u := (u.1, u.2.1, u.2.2.1, u.2.2.2.1, (nI (q + (zsb 17).length)), u.2.2.2.2.2.1, u.2.2.2.2.2.2.1, u.2.2.2.2.2.2.2.1, u.2.2.2.2.2.2.2.2.1, u.2.2.2.2.2.2.2.2.2.1, u.2.2.2.2.2.2.2.2.2.2.1, u.2.2.2.2.2.2.2.2.2.2.2.1, u.2.2.2.2.2.2.2.2.2.2.2.2.1, u.2.2.2.2.2.2.2.2.2.2.2.2.2.1, u.2.2.2.2.2.2.2.2.2.2.2.2.2.2.1, u.2.2.2.2.2.2.2.2.2.2.2.2.2.2.2.1, u.2.2.2.2.2.2.2.2.2.2.2.2.2.2.2.2.1, u.2.2.2.2.2.2.2.2.2.2.2.2.2.2.2.2.2.1, u.2.2.2.2.2.2.2.2.2.2.2.2.2.2.2.2.2.2.1, u.2.2.2.2.2.2.2.2.2.2.2.2.2.2.2.2.2.2.2.1, u.2.2.2.2.2.2.2.2.2.2.2.2.2.2.2.2.2.2.2.2.1, u.2.2.2.2.2.2.2.2.2.2.2.2.2.2.2.2.2.2.2.2.2)) hs (by omega) hse hb (r0 _ _ _ ⟨hu, h0, rfl, by omega, rfl⟩ (fun r u1 hf g1 g2 => re_number (by rw [g1]; exact he0) (re_expect (by rw [g1]; exact he0) (hps _ hf g1 g2))))) (fun w => absurd w (wd_ex (i := 1) (j := 2) (by omega) (by omega) (by omega) hw)) (fun w => absurd w (wd_ex (i := 1) (j := 3) (by omega) (by omega) (by omega) hw)) (fun w => absurd w (wd_ex (i := 1) (j := 4) (by omega) (by omega) (by omega) hw)) (fun w => absurd w (wd_ex (i := 1) (j := 5) (by omega) (by omega) (by omega) hw)) (fun w => absurd w (wd_ex (i := 1) (j := 6) (by omega) (by omega) (by omega) hw)) (fun w => absurd w (wd_ex (i := 1) (j := 7) (by omega) (by omega) (by omega) hw)) (fun n16 n17 n18 n19 n20 n21 n22 n23 => absurd hw n17)
    · have hsk1 := sk_le (T := T) (n := n) (p := e0) g0
      rcases P_num hT (q := sk T n e0) (lo := 0) (hi := 999) (by omega) (by omega) with ⟨e1, he1, c1, r1⟩ | ⟨e1, d1, dl1, dh1, f1, g1, c1, r1⟩
      · refine Or.inl ⟨e1, nI (sk T n e0), he1, fun x x3 post hx hp => ?_, fun u p post hr hps => ?_⟩
        · unfold wS
          refine c_stmt hT hx hs (fun w => absurd w (wd_ex (i := 1) (j := 0) (by omega) (by omega) (by omega) hw)) (fun _ _ x0 hx0 => c0 x0 _ hx0 (fun x1 hx1 => c1 x1 _ hx1 (fun y1 hz => e_sign hz (by decide) (fun x9 h9 => hp _ h9 rfl)))) (fun w => absurd w (wd_ex (i := 1) (j := 2) (by omega) (by omega) (by omega) hw)) (fun w => absurd w (wd_ex (i := 1) (j := 3) (by omega) (by omega) (by omega) hw)) (fun w => absurd w (wd_ex (i := 1) (j := 4) (by omega) (by omega) (by omega) hw)) (fun w => absurd w (wd_ex (i := 1) (j := 5) (by omega) (by omega) (by omega) hw)) (fun w => absurd w (wd_ex (i := 1) (j := 6) (by omega) (by omega) (by omega) hw)) (fun w => absurd w (wd_ex (i := 1) (j := 7) (by omega) (by omega) (by omega) hw)) (fun n16 n17 n18 n19 n20 n21 n22 n23 => absurd (n17 hw) (by rw [hb]; decide))
        · obtain ⟨hg, hne, hse, hSI⟩ := hr
          obtain ⟨hu, h0, -, -, -⟩ := id hg
          refine r_stmt hT hg (fun w => absurd w (wd_ex (i := 1) (j := 0) (by omega) (by omega) (by omega) hw)) (fun _ => r_once0 (u := (u.1, u.2.1, u.2.2.1, u.2.2.2.1, (nI (q + (zsb 17).length)), u.2.2.2.2.2.1, u.2.2.2.2.2.2.1, u.2.2.2.2.2.2.2.1, u.2.2.2.2.2.2.2.2.1, u.2.2.2.2.2.2.2.2.2.1, u.2.2.2.2.2.2.2.2.2.2.1, u.2.2.2.2.2.2.2.2.2.2.2.1, u.2.2.2.2.2.2.2.2.2.2.2.2.1, u.2.2.2.2.2.2.2.2.2.2.2.2.2.1, u.2.2.2.2.2.2.2.2.2.2.2.2.2.2.1, u.2.2.2.2.2.2.2.2.2.2.2.2.2.2.2.1, u.2.2.2.2.2.2.2.2.2.2.2.2.2.2.2.2.1, u.2.2.2.2.2.2.2.2.2.2.2.2.2.2.2.2.2.1, u.2.2.2.2.2.2.2.2.2.2.2.2.2.2.2.2.2.2.1, u.2.2.2.2.2.2.2.2.2.2.2.2.2.2.2.2.2.2.2.1, u.2.2.2.2.2.2.2.2.2.2.2.2.2.2.2.2.2.2.2.2.1, u.2.2.2.2.2.2.2.2.2.2.2.2.2.2.2.2.2.2.2.2.2)) hs (by omega) hse hb (r0 _ _ _ ⟨hu, h0, rfl, by omega, rfl⟩ (r1 _ _ _ ⟨hu, h0, rfl, by omega, rfl⟩ (fun r u1 hf g1 g2 => re_expect (by rw [g1]; exact he1) (hps _ hf g1 g2))))) (fun w => absurd w (wd_ex (i := 1) (j := 2) (by omega) (by omega) (by omega) hw)) (fun w => absurd w (wd_ex (i := 1) (j := 3) (by omega) (by omega) (by omega) hw)) (fun w => absurd w (wd_ex (i := 1) (j := 4) (by omega) (by omega) (by omega) hw)) (fun w => absurd w (wd_ex (i := 1) (j := 5) (by omega) (by omega) (by omega) hw)) (fun w => absurd w (wd_ex (i := 1) (j := 6) (by omega) (by omega) (by omega) hw)) (fun w => absurd w (wd_ex (i := 1) (j := 7) (by omega) (by omega) (by omega) hw)) (fun n16 n17 n18 n19 n20 n21 n22 n23 => absurd hw n17)
      · have hsk2 := sk_le (T := T) (n := n) (p := e1) g1
        rcases P_semi hT (q := sk T n e1) with ⟨cs, rs1⟩ | ⟨hlt, cs, rs1⟩
        · refine Or.inl ⟨-2, nI (sk T n e1), by decide, fun x x3 post hx hp => ?_, fun u p post hr hps => ?_⟩
          · unfold wS
            refine c_stmt hT hx hs (fun w => absurd w (wd_ex (i := 1) (j := 0) (by omega) (by omega) (by omega) hw)) (fun _ _ x0 hx0 => c0 x0 _ hx0 (fun x1 hx1 => c1 x1 _ hx1 (fun x2 hx2 => cs x2 _ hx2 (fun x9 h9 => hp _ h9 rfl)))) (fun w => absurd w (wd_ex (i := 1) (j := 2) (by omega) (by omega) (by omega) hw)) (fun w => absurd w (wd_ex (i := 1) (j := 3) (by omega) (by omega) (by omega) hw)) (fun w => absurd w (wd_ex (i := 1) (j := 4) (by omega) (by omega) (by omega) hw)) (fun w => absurd w (wd_ex (i := 1) (j := 5) (by omega) (by omega) (by omega) hw)) (fun w => absurd w (wd_ex (i := 1) (j := 6) (by omega) (by omega) (by omega) hw)) (fun w => absurd w (wd_ex (i := 1) (j := 7) (by omega) (by omega) (by omega) hw)) (fun n16 n17 n18 n19 n20 n21 n22 n23 => absurd (n17 hw) (by rw [hb]; decide))
          · obtain ⟨hg, hne, hse, hSI⟩ := hr
            obtain ⟨hu, h0, -, -, -⟩ := id hg
            refine r_stmt hT hg (fun w => absurd w (wd_ex (i := 1) (j := 0) (by omega) (by omega) (by omega) hw)) (fun _ => r_once0 (u := (u.1, u.2.1, u.2.2.1, u.2.2.2.1, (nI (q + (zsb 17).length)), u.2.2.2.2.2.1, u.2.2.2.2.2.2.1, u.2.2.2.2.2.2.2.1, u.2.2.2.2.2.2.2.2.1, u.2.2.2.2.2.2.2.2.2.1, u.2.2.2.2.2.2.2.2.2.2.1, u.2.2.2.2.2.2.2.2.2.2.2.1, u.2.2.2.2.2.2.2.2.2.2.2.2.1, u.2.2.2.2.2.2.2.2.2.2.2.2.2.1, u.2.2.2.2.2.2.2.2.2.2.2.2.2.2.1, u.2.2.2.2.2.2.2.2.2.2.2.2.2.2.2.1, u.2.2.2.2.2.2.2.2.2.2.2.2.2.2.2.2.1, u.2.2.2.2.2.2.2.2.2.2.2.2.2.2.2.2.2.1, u.2.2.2.2.2.2.2.2.2.2.2.2.2.2.2.2.2.2.1, u.2.2.2.2.2.2.2.2.2.2.2.2.2.2.2.2.2.2.2.1, u.2.2.2.2.2.2.2.2.2.2.2.2.2.2.2.2.2.2.2.2.1, u.2.2.2.2.2.2.2.2.2.2.2.2.2.2.2.2.2.2.2.2.2)) hs (by omega) hse hb (r0 _ _ _ ⟨hu, h0, rfl, by omega, rfl⟩ (r1 _ _ _ ⟨hu, h0, rfl, by omega, rfl⟩ (rs1 _ _ _ ⟨hu, h0, rfl, by omega, rfl⟩ (fun u1 hf g1 g2 => hps _ hf g1 g2))))) (fun w => absurd w (wd_ex (i := 1) (j := 2) (by omega) (by omega) (by omega) hw)) (fun w => absurd w (wd_ex (i := 1) (j := 3) (by omega) (by omega) (by omega) hw)) (fun w => absurd w (wd_ex (i := 1) (j := 4) (by omega) (by omega) (by omega) hw)) (fun w => absurd w (wd_ex (i := 1) (j := 5) (by omega) (by omega) (by omega) hw)) (fun w => absurd w (wd_ex (i := 1) (j := 6) (by omega) (by omega) (by omega) hw)) (fun w => absurd w (wd_ex (i := 1) (j := 7) (by omega) (by omega) (by omega) hw)) (fun n16 n17 n18 n19 n20 n21 n22 n23 => absurd hw n17)
        · refine Or.inr ⟨sk T n e1 + 1, s ||| 2 ^ 0, da, dm, (t.1, t.2.1, t.2.2.1, (nI d0), (nI d1), t.2.2.2.2.2.1, t.2.2.2.2.2.2.1, t.2.2.2.2.2.2.2.1, t.2.2.2.2.2.2.2.2.1, t.2.2.2.2.2.2.2.2.2.1, t.2.2.2.2.2.2.2.2.2.2.1, t.2.2.2.2.2.2.2.2.2.2.2.1, t.2.2.2.2.2.2.2.2.2.2.2.2.1, t.2.2.2.2.2.2.2.2.2.2.2.2.2.1, t.2.2.2.2.2.2.2.2.2.2.2.2.2.2.1, t.2.2.2.2.2.2.2.2.2.2.2.2.2.2.2), by omega, by omega, fun N hz => ⟨(bit_all s hs 0 (by omega)).2.2.2.2, fun q1 => hz.2.1 (by rw [← bit_or (k := 0) (by omega)]; exact q1), fun q1 => hz.2.2.1 (by rw [← bit_or (k := 0) (by omega)]; exact q1), hz.2.2.2⟩, fun x x3 post hx hp => ?_, fun u p post hr hps => ?_⟩
          · unfold wS
            refine c_stmt hT hx hs (fun w => absurd w (wd_ex (i := 1) (j := 0) (by omega) (by omega) (by omega) hw)) (fun _ _ x0 hx0 => c0 x0 _ hx0 (fun x1 hx1 => c1 x1 _ hx1 (fun x2 hx2 => cs x2 _ hx2 (fun x9 h9 => hp _ _ h9)))) (fun w => absurd w (wd_ex (i := 1) (j := 2) (by omega) (by omega) (by omega) hw)) (fun w => absurd w (wd_ex (i := 1) (j := 3) (by omega) (by omega) (by omega) hw)) (fun w => absurd w (wd_ex (i := 1) (j := 4) (by omega) (by omega) (by omega) hw)) (fun w => absurd w (wd_ex (i := 1) (j := 5) (by omega) (by omega) (by omega) hw)) (fun w => absurd w (wd_ex (i := 1) (j := 6) (by omega) (by omega) (by omega) hw)) (fun w => absurd w (wd_ex (i := 1) (j := 7) (by omega) (by omega) (by omega) hw)) (fun n16 n17 n18 n19 n20 n21 n22 n23 => absurd (n17 hw) (by rw [hb]; decide))
          · obtain ⟨hg, hne, hse, hSI⟩ := hr
            obtain ⟨hu, h0, -, -, -⟩ := id hg
            refine r_stmt hT hg (fun w => absurd w (wd_ex (i := 1) (j := 0) (by omega) (by omega) (by omega) hw)) (fun _ => r_once0 (u := (u.1, u.2.1, u.2.2.1, u.2.2.2.1, (nI (q + (zsb 17).length)), u.2.2.2.2.2.1, u.2.2.2.2.2.2.1, u.2.2.2.2.2.2.2.1, u.2.2.2.2.2.2.2.2.1, u.2.2.2.2.2.2.2.2.2.1, u.2.2.2.2.2.2.2.2.2.2.1, u.2.2.2.2.2.2.2.2.2.2.2.1, u.2.2.2.2.2.2.2.2.2.2.2.2.1, u.2.2.2.2.2.2.2.2.2.2.2.2.2.1, u.2.2.2.2.2.2.2.2.2.2.2.2.2.2.1, u.2.2.2.2.2.2.2.2.2.2.2.2.2.2.2.1, u.2.2.2.2.2.2.2.2.2.2.2.2.2.2.2.2.1, u.2.2.2.2.2.2.2.2.2.2.2.2.2.2.2.2.2.1, u.2.2.2.2.2.2.2.2.2.2.2.2.2.2.2.2.2.2.1, u.2.2.2.2.2.2.2.2.2.2.2.2.2.2.2.2.2.2.2.1, u.2.2.2.2.2.2.2.2.2.2.2.2.2.2.2.2.2.2.2.2.1, u.2.2.2.2.2.2.2.2.2.2.2.2.2.2.2.2.2.2.2.2.2)) hs (by omega) hse hb (r0 _ _ _ ⟨hu, h0, rfl, by omega, rfl⟩ (r1 _ _ _ ⟨hu, h0, rfl, by omega, rfl⟩ (rs1 _ _ _ ⟨hu, h0, rfl, by omega, rfl⟩ ?_)))) (fun w => absurd w (wd_ex (i := 1) (j := 2) (by omega) (by omega) (by omega) hw)) (fun w => absurd w (wd_ex (i := 1) (j := 3) (by omega) (by omega) (by omega) hw)) (fun w => absurd w (wd_ex (i := 1) (j := 4) (by omega) (by omega) (by omega) hw)) (fun w => absurd w (wd_ex (i := 1) (j := 5) (by omega) (by omega) (by omega) hw)) (fun w => absurd w (wd_ex (i := 1) (j := 6) (by omega) (by omega) (by omega) hw)) (fun w => absurd w (wd_ex (i := 1) (j := 7) (by omega) (by omega) (by omega) hw)) (fun n16 n17 n18 n19 n20 n21 n22 n23 => absurd hw n17)
            refine hps _ ⟨rfl, rfl, rfl, rfl, rfl, rfl, rfl⟩ rfl ?_ ⟨⟨hu, h0, rfl, by omega, rfl⟩, hne, rfl, ?_⟩
            · exact fun i hi => (upd_ne _ _ (by omega)).trans (upd_ne _ _ (by omega))
            · exact SI_gen hSI (bit_all s hs 0 (by omega)).2.2.2.2 (bit_or (by omega)) (fun q1 => hSI.2.2.2.1 (by rw [← bit_or (k := 0) (by omega)]; exact q1)) (fun i hi => (upd_ne _ _ (by omega)).trans (upd_ne _ _ (by omega))) (rTu_spotPrice (rTu_spotLimit hSI.2.1 (nI d0)) (nI d1)) (bTu_spotPrice (bTu_spotLimit hSI.2.2.1 ⟨d0, by omega, rfl⟩) ⟨d1, by omega, rfl⟩)
theorem P_window (hT : tx T B n) {q s : Nat} {da : Int32} {dm : DM} {t : S_X7} {a : S_X0} {br : S_X1} (hs : s < 128) (hw : wd T n q (zsb 19)) : SX T B n q s da dm t a br := by
  have hle := (wd_let (w_ok 3 (by omega)) hw).2.2
  have hl0 := (wOK_f (w_ok 3 (by omega))).1
  have hle : q + (zsb 19).length ≤ n := hle
  have hl0 : 0 < (zsb 19).length := hl0
  have hsk0 := sk_le (T := T) (n := n) (p := q + (zsb 19).length) hle
  cases hb : s.testBit 2 with
  | true =>
    refine Or.inl ⟨-2, nI q, by decide, fun x x3 post hx hp => ?_, fun u p post hr hps => ?_⟩
    · unfold wS
      refine c_stmt hT hx hs (fun w => absurd w (wd_ex (i := 3) (j := 0) (by omega) (by omega) (by omega) hw)) (fun w => absurd w (wd_ex (i := 3) (j := 1) (by omega) (by omega) (by omega) hw)) (fun w => absurd w (wd_ex (i := 3) (j := 2) (by omega) (by omega) (by omega) hw)) (fun _ q1 => absurd (hb.symm.trans q1) (by decide)) (fun w => absurd w (wd_ex (i := 3) (j := 4) (by omega) (by omega) (by omega) hw)) (fun w => absurd w (wd_ex (i := 3) (j := 5) (by omega) (by omega) (by omega) hw)) (fun w => absurd w (wd_ex (i := 3) (j := 6) (by omega) (by omega) (by omega) hw)) (fun w => absurd w (wd_ex (i := 3) (j := 7) (by omega) (by omega) (by omega) hw)) (fun _ _ _ _ _ _ _ _ x' h' => e_sign h' (by decide) (fun x2 h2 => hp _ h2 rfl))
    · obtain ⟨hg, hne, hse, hSI⟩ := hr
      refine r_stmt hT hg (fun w => absurd w (wd_ex (i := 3) (j := 0) (by omega) (by omega) (by omega) hw)) (fun w => absurd w (wd_ex (i := 3) (j := 1) (by omega) (by omega) (by omega) hw)) (fun w => absurd w (wd_ex (i := 3) (j := 2) (by omega) (by omega) (by omega) hw)) (fun _ => r_once1 (u := (u.1, u.2.1, u.2.2.1, u.2.2.2.1, (nI (q + (zsb 19).length)), u.2.2.2.2.2.1, u.2.2.2.2.2.2.1, u.2.2.2.2.2.2.2.1, u.2.2.2.2.2.2.2.2.1, u.2.2.2.2.2.2.2.2.2.1, u.2.2.2.2.2.2.2.2.2.2.1, u.2.2.2.2.2.2.2.2.2.2.2.1, u.2.2.2.2.2.2.2.2.2.2.2.2.1, u.2.2.2.2.2.2.2.2.2.2.2.2.2.1, u.2.2.2.2.2.2.2.2.2.2.2.2.2.2.1, u.2.2.2.2.2.2.2.2.2.2.2.2.2.2.2.1, u.2.2.2.2.2.2.2.2.2.2.2.2.2.2.2.2.1, u.2.2.2.2.2.2.2.2.2.2.2.2.2.2.2.2.2.1, u.2.2.2.2.2.2.2.2.2.2.2.2.2.2.2.2.2.2.1, u.2.2.2.2.2.2.2.2.2.2.2.2.2.2.2.2.2.2.2.1, u.2.2.2.2.2.2.2.2.2.2.2.2.2.2.2.2.2.2.2.2.1, u.2.2.2.2.2.2.2.2.2.2.2.2.2.2.2.2.2.2.2.2.2)) hs (by omega) hse hg.2.1 hb (fun y => re_number ne2 (re_expect ne2 (hps _ ⟨rfl, rfl, rfl, rfl, rfl, rfl, rfl⟩ rfl rfl)))) (fun w => absurd w (wd_ex (i := 3) (j := 4) (by omega) (by omega) (by omega) hw)) (fun w => absurd w (wd_ex (i := 3) (j := 5) (by omega) (by omega) (by omega) hw)) (fun w => absurd w (wd_ex (i := 3) (j := 6) (by omega) (by omega) (by omega) hw)) (fun w => absurd w (wd_ex (i := 3) (j := 7) (by omega) (by omega) (by omega) hw)) (fun n16 n17 n18 n19 n20 n21 n22 n23 => absurd hw n19)
  | false =>
    rcases P_num hT (q := sk T n (q + (zsb 19).length)) (lo := 0) (hi := 6) (by omega) (by omega) with ⟨e0, he0, c0, r0⟩ | ⟨e0, d0, dl0, dh0, f0, g0, c0, r0⟩
    · refine Or.inl ⟨e0, nI (sk T n (q + (zsb 19).length)), he0, fun x x3 post hx hp => ?_, fun u p post hr hps => ?_⟩
      · unfold wS
        refine c_stmt hT hx hs (fun w => absurd w (wd_ex (i := 3) (j := 0) (by omega) (by omega) (by omega) hw)) (fun w => absurd w (wd_ex (i := 3) (j := 1) (by omega) (by omega) (by omega) hw)) (fun w => absurd w (wd_ex (i := 3) (j := 2) (by omega) (by omega) (by omega) hw)) (fun _ _ x0 hx0 => c0 x0 _ hx0 (fun y0 hz => e_sign hz (by decide) (fun x9 h9 => hp _ h9 rfl))) (fun w => absurd w (wd_ex (i := 3) (j := 4) (by omega) (by omega) (by omega) hw)) (fun w => absurd w (wd_ex (i := 3) (j := 5) (by omega) (by omega) (by omega) hw)) (fun w => absurd w (wd_ex (i := 3) (j := 6) (by omega) (by omega) (by omega) hw)) (fun w => absurd w (wd_ex (i := 3) (j := 7) (by omega) (by omega) (by omega) hw)) (fun n16 n17 n18 n19 n20 n21 n22 n23 => absurd (n19 hw) (by rw [hb]; decide))
      · obtain ⟨hg, hne, hse, hSI⟩ := hr
        obtain ⟨hu, h0, -, -, -⟩ := id hg
        refine r_stmt hT hg (fun w => absurd w (wd_ex (i := 3) (j := 0) (by omega) (by omega) (by omega) hw)) (fun w => absurd w (wd_ex (i := 3) (j := 1) (by omega) (by omega) (by omega) hw)) (fun w => absurd w (wd_ex (i := 3) (j := 2) (by omega) (by omega) (by omega) hw)) (fun _ => r_once0 (u := (u.1, u.2.1, u.2.2.1, u.2.2.2.1, (nI (q + (zsb 19).length)), u.2.2.2.2.2.1, u.2.2.2.2.2.2.1, u.2.2.2.2.2.2.2.1, u.2.2.2.2.2.2.2.2.1, u.2.2.2.2.2.2.2.2.2.1, u.2.2.2.2.2.2.2.2.2.2.1, u.2.2.2.2.2.2.2.2.2.2.2.1, u.2.2.2.2.2.2.2.2.2.2.2.2.1, u.2.2.2.2.2.2.2.2.2.2.2.2.2.1, u.2.2.2.2.2.2.2.2.2.2.2.2.2.2.1, u.2.2.2.2.2.2.2.2.2.2.2.2.2.2.2.1, u.2.2.2.2.2.2.2.2.2.2.2.2.2.2.2.2.1, u.2.2.2.2.2.2.2.2.2.2.2.2.2.2.2.2.2.1, u.2.2.2.2.2.2.2.2.2.2.2.2.2.2.2.2.2.2.1, u.2.2.2.2.2.2.2.2.2.2.2.2.2.2.2.2.2.2.2.1, u.2.2.2.2.2.2.2.2.2.2.2.2.2.2.2.2.2.2.2.2.1, u.2.2.2.2.2.2.2.2.2.2.2.2.2.2.2.2.2.2.2.2.2)) hs (by omega) hse hb (r0 _ _ _ ⟨hu, h0, rfl, by omega, rfl⟩ (fun r u1 hf g1 g2 => re_expect (by rw [g1]; exact he0) (hps _ hf g1 g2)))) (fun w => absurd w (wd_ex (i := 3) (j := 4) (by omega) (by omega) (by omega) hw)) (fun w => absurd w (wd_ex (i := 3) (j := 5) (by omega) (by omega) (by omega) hw)) (fun w => absurd w (wd_ex (i := 3) (j := 6) (by omega) (by omega) (by omega) hw)) (fun w => absurd w (wd_ex (i := 3) (j := 7) (by omega) (by omega) (by omega) hw)) (fun n16 n17 n18 n19 n20 n21 n22 n23 => absurd hw n19)
    · have hsk1 := sk_le (T := T) (n := n) (p := e0) g0
      rcases P_semi hT (q := sk T n e0) with ⟨cs, rs1⟩ | ⟨hlt, cs, rs1⟩
      · refine Or.inl ⟨-2, nI (sk T n e0), by decide, fun x x3 post hx hp => ?_, fun u p post hr hps => ?_⟩
        · unfold wS
          refine c_stmt hT hx hs (fun w => absurd w (wd_ex (i := 3) (j := 0) (by omega) (by omega) (by omega) hw)) (fun w => absurd w (wd_ex (i := 3) (j := 1) (by omega) (by omega) (by omega) hw)) (fun w => absurd w (wd_ex (i := 3) (j := 2) (by omega) (by omega) (by omega) hw)) (fun _ _ x0 hx0 => c0 x0 _ hx0 (fun x1 hx1 => cs x1 _ hx1 (fun x9 h9 => hp _ h9 rfl))) (fun w => absurd w (wd_ex (i := 3) (j := 4) (by omega) (by omega) (by omega) hw)) (fun w => absurd w (wd_ex (i := 3) (j := 5) (by omega) (by omega) (by omega) hw)) (fun w => absurd w (wd_ex (i := 3) (j := 6) (by omega) (by omega) (by omega) hw)) (fun w => absurd w (wd_ex (i := 3) (j := 7) (by omega) (by omega) (by omega) hw)) (fun n16 n17 n18 n19 n20 n21 n22 n23 => absurd (n19 hw) (by rw [hb]; decide))
        · obtain ⟨hg, hne, hse, hSI⟩ := hr
          obtain ⟨hu, h0, -, -, -⟩ := id hg
          refine r_stmt hT hg (fun w => absurd w (wd_ex (i := 3) (j := 0) (by omega) (by omega) (by omega) hw)) (fun w => absurd w (wd_ex (i := 3) (j := 1) (by omega) (by omega) (by omega) hw)) (fun w => absurd w (wd_ex (i := 3) (j := 2) (by omega) (by omega) (by omega) hw)) (fun _ => r_once0 (u := (u.1, u.2.1, u.2.2.1, u.2.2.2.1, (nI (q + (zsb 19).length)), u.2.2.2.2.2.1, u.2.2.2.2.2.2.1, u.2.2.2.2.2.2.2.1, u.2.2.2.2.2.2.2.2.1, u.2.2.2.2.2.2.2.2.2.1, u.2.2.2.2.2.2.2.2.2.2.1, u.2.2.2.2.2.2.2.2.2.2.2.1, u.2.2.2.2.2.2.2.2.2.2.2.2.1, u.2.2.2.2.2.2.2.2.2.2.2.2.2.1, u.2.2.2.2.2.2.2.2.2.2.2.2.2.2.1, u.2.2.2.2.2.2.2.2.2.2.2.2.2.2.2.1, u.2.2.2.2.2.2.2.2.2.2.2.2.2.2.2.2.1, u.2.2.2.2.2.2.2.2.2.2.2.2.2.2.2.2.2.1, u.2.2.2.2.2.2.2.2.2.2.2.2.2.2.2.2.2.2.1, u.2.2.2.2.2.2.2.2.2.2.2.2.2.2.2.2.2.2.2.1, u.2.2.2.2.2.2.2.2.2.2.2.2.2.2.2.2.2.2.2.2.1, u.2.2.2.2.2.2.2.2.2.2.2.2.2.2.2.2.2.2.2.2.2)) hs (by omega) hse hb (r0 _ _ _ ⟨hu, h0, rfl, by omega, rfl⟩ (rs1 _ _ _ ⟨hu, h0, rfl, by omega, rfl⟩ (fun u1 hf g1 g2 => hps _ hf g1 g2)))) (fun w => absurd w (wd_ex (i := 3) (j := 4) (by omega) (by omega) (by omega) hw)) (fun w => absurd w (wd_ex (i := 3) (j := 5) (by omega) (by omega) (by omega) hw)) (fun w => absurd w (wd_ex (i := 3) (j := 6) (by omega) (by omega) (by omega) hw)) (fun w => absurd w (wd_ex (i := 3) (j := 7) (by omega) (by omega) (by omega) hw)) (fun n16 n17 n18 n19 n20 n21 n22 n23 => absurd hw n19)
      · refine Or.inr ⟨sk T n e0 + 1, s ||| 2 ^ 2, da, dm, (t.1, t.2.1, t.2.2.1, t.2.2.2.1, t.2.2.2.2.1, (nI d0), t.2.2.2.2.2.2.1, t.2.2.2.2.2.2.2.1, t.2.2.2.2.2.2.2.2.1, t.2.2.2.2.2.2.2.2.2.1, t.2.2.2.2.2.2.2.2.2.2.1, t.2.2.2.2.2.2.2.2.2.2.2.1, t.2.2.2.2.2.2.2.2.2.2.2.2.1, t.2.2.2.2.2.2.2.2.2.2.2.2.2.1, t.2.2.2.2.2.2.2.2.2.2.2.2.2.2.1, t.2.2.2.2.2.2.2.2.2.2.2.2.2.2.2), by omega, by omega, fun N hz => ⟨(bit_all s hs 2 (by omega)).2.2.2.2, fun q1 => hz.2.1 (by rw [← bit_or (k := 2) (by omega)]; exact q1), fun q1 => hz.2.2.1 (by rw [← bit_or (k := 2) (by omega)]; exact q1), hz.2.2.2⟩, fun x x3 post hx hp => ?_, fun u p post hr hps => ?_⟩
        · unfold wS
          refine c_stmt hT hx hs (fun w => absurd w (wd_ex (i := 3) (j := 0) (by omega) (by omega) (by omega) hw)) (fun w => absurd w (wd_ex (i := 3) (j := 1) (by omega) (by omega) (by omega) hw)) (fun w => absurd w (wd_ex (i := 3) (j := 2) (by omega) (by omega) (by omega) hw)) (fun _ _ x0 hx0 => c0 x0 _ hx0 (fun x1 hx1 => cs x1 _ hx1 (fun x9 h9 => hp _ _ h9))) (fun w => absurd w (wd_ex (i := 3) (j := 4) (by omega) (by omega) (by omega) hw)) (fun w => absurd w (wd_ex (i := 3) (j := 5) (by omega) (by omega) (by omega) hw)) (fun w => absurd w (wd_ex (i := 3) (j := 6) (by omega) (by omega) (by omega) hw)) (fun w => absurd w (wd_ex (i := 3) (j := 7) (by omega) (by omega) (by omega) hw)) (fun n16 n17 n18 n19 n20 n21 n22 n23 => absurd (n19 hw) (by rw [hb]; decide))
        · obtain ⟨hg, hne, hse, hSI⟩ := hr
          obtain ⟨hu, h0, -, -, -⟩ := id hg
          refine r_stmt hT hg (fun w => absurd w (wd_ex (i := 3) (j := 0) (by omega) (by omega) (by omega) hw)) (fun w => absurd w (wd_ex (i := 3) (j := 1) (by omega) (by omega) (by omega) hw)) (fun w => absurd w (wd_ex (i := 3) (j := 2) (by omega) (by omega) (by omega) hw)) (fun _ => r_once0 (u := (u.1, u.2.1, u.2.2.1, u.2.2.2.1, (nI (q + (zsb 19).length)), u.2.2.2.2.2.1, u.2.2.2.2.2.2.1, u.2.2.2.2.2.2.2.1, u.2.2.2.2.2.2.2.2.1, u.2.2.2.2.2.2.2.2.2.1, u.2.2.2.2.2.2.2.2.2.2.1, u.2.2.2.2.2.2.2.2.2.2.2.1, u.2.2.2.2.2.2.2.2.2.2.2.2.1, u.2.2.2.2.2.2.2.2.2.2.2.2.2.1, u.2.2.2.2.2.2.2.2.2.2.2.2.2.2.1, u.2.2.2.2.2.2.2.2.2.2.2.2.2.2.2.1, u.2.2.2.2.2.2.2.2.2.2.2.2.2.2.2.2.1, u.2.2.2.2.2.2.2.2.2.2.2.2.2.2.2.2.2.1, u.2.2.2.2.2.2.2.2.2.2.2.2.2.2.2.2.2.2.1, u.2.2.2.2.2.2.2.2.2.2.2.2.2.2.2.2.2.2.2.1, u.2.2.2.2.2.2.2.2.2.2.2.2.2.2.2.2.2.2.2.2.1, u.2.2.2.2.2.2.2.2.2.2.2.2.2.2.2.2.2.2.2.2.2)) hs (by omega) hse hb (r0 _ _ _ ⟨hu, h0, rfl, by omega, rfl⟩ (rs1 _ _ _ ⟨hu, h0, rfl, by omega, rfl⟩ ?_))) (fun w => absurd w (wd_ex (i := 3) (j := 4) (by omega) (by omega) (by omega) hw)) (fun w => absurd w (wd_ex (i := 3) (j := 5) (by omega) (by omega) (by omega) hw)) (fun w => absurd w (wd_ex (i := 3) (j := 6) (by omega) (by omega) (by omega) hw)) (fun w => absurd w (wd_ex (i := 3) (j := 7) (by omega) (by omega) (by omega) hw)) (fun n16 n17 n18 n19 n20 n21 n22 n23 => absurd hw n19)
          refine hps _ ⟨rfl, rfl, rfl, rfl, rfl, rfl, rfl⟩ rfl ?_ ⟨⟨hu, h0, rfl, by omega, rfl⟩, hne, rfl, ?_⟩
          · exact fun i hi => upd_ne _ _ (by omega)
          · exact SI_gen hSI (bit_all s hs 2 (by omega)).2.2.2.2 (bit_or (by omega)) (fun q1 => hSI.2.2.2.1 (by rw [← bit_or (k := 2) (by omega)]; exact q1)) (fun i hi => upd_ne _ _ (by omega)) (rTu_window hSI.2.1 (nI d0)) (bTu_window hSI.2.2.1 ⟨d0, by omega, rfl⟩)
theorem P_minimum (hT : tx T B n) {q s : Nat} {da : Int32} {dm : DM} {t : S_X7} {a : S_X0} {br : S_X1} (hs : s < 128) (hw : wd T n q (zsb 20)) : SX T B n q s da dm t a br := by
  have hle := (wd_let (w_ok 4 (by omega)) hw).2.2
  have hl0 := (wOK_f (w_ok 4 (by omega))).1
  have hle : q + (zsb 20).length ≤ n := hle
  have hl0 : 0 < (zsb 20).length := hl0
  have hsk0 := sk_le (T := T) (n := n) (p := q + (zsb 20).length) hle
  cases hb : s.testBit 3 with
  | true =>
    refine Or.inl ⟨-2, nI q, by decide, fun x x3 post hx hp => ?_, fun u p post hr hps => ?_⟩
    · unfold wS
      refine c_stmt hT hx hs (fun w => absurd w (wd_ex (i := 4) (j := 0) (by omega) (by omega) (by omega) hw)) (fun w => absurd w (wd_ex (i := 4) (j := 1) (by omega) (by omega) (by omega) hw)) (fun w => absurd w (wd_ex (i := 4) (j := 2) (by omega) (by omega) (by omega) hw)) (fun w => absurd w (wd_ex (i := 4) (j := 3) (by omega) (by omega) (by omega) hw)) (fun _ q1 => absurd (hb.symm.trans q1) (by decide)) (fun w => absurd w (wd_ex (i := 4) (j := 5) (by omega) (by omega) (by omega) hw)) (fun w => absurd w (wd_ex (i := 4) (j := 6) (by omega) (by omega) (by omega) hw)) (fun w => absurd w (wd_ex (i := 4) (j := 7) (by omega) (by omega) (by omega) hw)) (fun _ _ _ _ _ _ _ _ x' h' => e_sign h' (by decide) (fun x2 h2 => hp _ h2 rfl))
    · obtain ⟨hg, hne, hse, hSI⟩ := hr
      refine r_stmt hT hg (fun w => absurd w (wd_ex (i := 4) (j := 0) (by omega) (by omega) (by omega) hw)) (fun w => absurd w (wd_ex (i := 4) (j := 1) (by omega) (by omega) (by omega) hw)) (fun w => absurd w (wd_ex (i := 4) (j := 2) (by omega) (by omega) (by omega) hw)) (fun w => absurd w (wd_ex (i := 4) (j := 3) (by omega) (by omega) (by omega) hw)) (fun _ => r_once1 (u := (u.1, u.2.1, u.2.2.1, u.2.2.2.1, (nI (q + (zsb 20).length)), u.2.2.2.2.2.1, u.2.2.2.2.2.2.1, u.2.2.2.2.2.2.2.1, u.2.2.2.2.2.2.2.2.1, u.2.2.2.2.2.2.2.2.2.1, u.2.2.2.2.2.2.2.2.2.2.1, u.2.2.2.2.2.2.2.2.2.2.2.1, u.2.2.2.2.2.2.2.2.2.2.2.2.1, u.2.2.2.2.2.2.2.2.2.2.2.2.2.1, u.2.2.2.2.2.2.2.2.2.2.2.2.2.2.1, u.2.2.2.2.2.2.2.2.2.2.2.2.2.2.2.1, u.2.2.2.2.2.2.2.2.2.2.2.2.2.2.2.2.1, u.2.2.2.2.2.2.2.2.2.2.2.2.2.2.2.2.2.1, u.2.2.2.2.2.2.2.2.2.2.2.2.2.2.2.2.2.2.1, u.2.2.2.2.2.2.2.2.2.2.2.2.2.2.2.2.2.2.2.1, u.2.2.2.2.2.2.2.2.2.2.2.2.2.2.2.2.2.2.2.2.1, u.2.2.2.2.2.2.2.2.2.2.2.2.2.2.2.2.2.2.2.2.2)) hs (by omega) hse hg.2.1 hb (fun y => re_number ne2 (re_expect ne2 (hps _ ⟨rfl, rfl, rfl, rfl, rfl, rfl, rfl⟩ rfl rfl)))) (fun w => absurd w (wd_ex (i := 4) (j := 5) (by omega) (by omega) (by omega) hw)) (fun w => absurd w (wd_ex (i := 4) (j := 6) (by omega) (by omega) (by omega) hw)) (fun w => absurd w (wd_ex (i := 4) (j := 7) (by omega) (by omega) (by omega) hw)) (fun n16 n17 n18 n19 n20 n21 n22 n23 => absurd hw n20)
  | false =>
    rcases P_num hT (q := sk T n (q + (zsb 20).length)) (lo := 0) (hi := 100) (by omega) (by omega) with ⟨e0, he0, c0, r0⟩ | ⟨e0, d0, dl0, dh0, f0, g0, c0, r0⟩
    · refine Or.inl ⟨e0, nI (sk T n (q + (zsb 20).length)), he0, fun x x3 post hx hp => ?_, fun u p post hr hps => ?_⟩
      · unfold wS
        refine c_stmt hT hx hs (fun w => absurd w (wd_ex (i := 4) (j := 0) (by omega) (by omega) (by omega) hw)) (fun w => absurd w (wd_ex (i := 4) (j := 1) (by omega) (by omega) (by omega) hw)) (fun w => absurd w (wd_ex (i := 4) (j := 2) (by omega) (by omega) (by omega) hw)) (fun w => absurd w (wd_ex (i := 4) (j := 3) (by omega) (by omega) (by omega) hw)) (fun _ _ x0 hx0 => c0 x0 _ hx0 (fun y0 hz => e_sign hz (by decide) (fun x9 h9 => hp _ h9 rfl))) (fun w => absurd w (wd_ex (i := 4) (j := 5) (by omega) (by omega) (by omega) hw)) (fun w => absurd w (wd_ex (i := 4) (j := 6) (by omega) (by omega) (by omega) hw)) (fun w => absurd w (wd_ex (i := 4) (j := 7) (by omega) (by omega) (by omega) hw)) (fun n16 n17 n18 n19 n20 n21 n22 n23 => absurd (n20 hw) (by rw [hb]; decide))
      · obtain ⟨hg, hne, hse, hSI⟩ := hr
        obtain ⟨hu, h0, -, -, -⟩ := id hg
        refine r_stmt hT hg (fun w => absurd w (wd_ex (i := 4) (j := 0) (by omega) (by omega) (by omega) hw)) (fun w => absurd w (wd_ex (i := 4) (j := 1) (by omega) (by omega) (by omega) hw)) (fun w => absurd w (wd_ex (i := 4) (j := 2) (by omega) (by omega) (by omega) hw)) (fun w => absurd w (wd_ex (i := 4) (j := 3) (by omega) (by omega) (by omega) hw)) (fun _ => r_once0 (u := (u.1, u.2.1, u.2.2.1, u.2.2.2.1, (nI (q + (zsb 20).length)), u.2.2.2.2.2.1, u.2.2.2.2.2.2.1, u.2.2.2.2.2.2.2.1, u.2.2.2.2.2.2.2.2.1, u.2.2.2.2.2.2.2.2.2.1, u.2.2.2.2.2.2.2.2.2.2.1, u.2.2.2.2.2.2.2.2.2.2.2.1, u.2.2.2.2.2.2.2.2.2.2.2.2.1, u.2.2.2.2.2.2.2.2.2.2.2.2.2.1, u.2.2.2.2.2.2.2.2.2.2.2.2.2.2.1, u.2.2.2.2.2.2.2.2.2.2.2.2.2.2.2.1, u.2.2.2.2.2.2.2.2.2.2.2.2.2.2.2.2.1, u.2.2.2.2.2.2.2.2.2.2.2.2.2.2.2.2.2.1, u.2.2.2.2.2.2.2.2.2.2.2.2.2.2.2.2.2.2.1, u.2.2.2.2.2.2.2.2.2.2.2.2.2.2.2.2.2.2.2.1, u.2.2.2.2.2.2.2.2.2.2.2.2.2.2.2.2.2.2.2.2.1, u.2.2.2.2.2.2.2.2.2.2.2.2.2.2.2.2.2.2.2.2.2)) hs (by omega) hse hb (r0 _ _ _ ⟨hu, h0, rfl, by omega, rfl⟩ (fun r u1 hf g1 g2 => re_expect (by rw [g1]; exact he0) (hps _ hf g1 g2)))) (fun w => absurd w (wd_ex (i := 4) (j := 5) (by omega) (by omega) (by omega) hw)) (fun w => absurd w (wd_ex (i := 4) (j := 6) (by omega) (by omega) (by omega) hw)) (fun w => absurd w (wd_ex (i := 4) (j := 7) (by omega) (by omega) (by omega) hw)) (fun n16 n17 n18 n19 n20 n21 n22 n23 => absurd hw n20)
    · have hsk1 := sk_le (T := T) (n := n) (p := e0) g0
      rcases P_semi hT (q := sk T n e0) with ⟨cs, rs1⟩ | ⟨hlt, cs, rs1⟩
      · refine Or.inl ⟨-2, nI (sk T n e0), by decide, fun x x3 post hx hp => ?_, fun u p post hr hps => ?_⟩
        · unfold wS
          refine c_stmt hT hx hs (fun w => absurd w (wd_ex (i := 4) (j := 0) (by omega) (by omega) (by omega) hw)) (fun w => absurd w (wd_ex (i := 4) (j := 1) (by omega) (by omega) (by omega) hw)) (fun w => absurd w (wd_ex (i := 4) (j := 2) (by omega) (by omega) (by omega) hw)) (fun w => absurd w (wd_ex (i := 4) (j := 3) (by omega) (by omega) (by omega) hw)) (fun _ _ x0 hx0 => c0 x0 _ hx0 (fun x1 hx1 => cs x1 _ hx1 (fun x9 h9 => hp _ h9 rfl))) (fun w => absurd w (wd_ex (i := 4) (j := 5) (by omega) (by omega) (by omega) hw)) (fun w => absurd w (wd_ex (i := 4) (j := 6) (by omega) (by omega) (by omega) hw)) (fun w => absurd w (wd_ex (i := 4) (j := 7) (by omega) (by omega) (by omega) hw)) (fun n16 n17 n18 n19 n20 n21 n22 n23 => absurd (n20 hw) (by rw [hb]; decide))
        · obtain ⟨hg, hne, hse, hSI⟩ := hr
          obtain ⟨hu, h0, -, -, -⟩ := id hg
          refine r_stmt hT hg (fun w => absurd w (wd_ex (i := 4) (j := 0) (by omega) (by omega) (by omega) hw)) (fun w => absurd w (wd_ex (i := 4) (j := 1) (by omega) (by omega) (by omega) hw)) (fun w => absurd w (wd_ex (i := 4) (j := 2) (by omega) (by omega) (by omega) hw)) (fun w => absurd w (wd_ex (i := 4) (j := 3) (by omega) (by omega) (by omega) hw)) (fun _ => r_once0 (u := (u.1, u.2.1, u.2.2.1, u.2.2.2.1, (nI (q + (zsb 20).length)), u.2.2.2.2.2.1, u.2.2.2.2.2.2.1, u.2.2.2.2.2.2.2.1, u.2.2.2.2.2.2.2.2.1, u.2.2.2.2.2.2.2.2.2.1, u.2.2.2.2.2.2.2.2.2.2.1, u.2.2.2.2.2.2.2.2.2.2.2.1, u.2.2.2.2.2.2.2.2.2.2.2.2.1, u.2.2.2.2.2.2.2.2.2.2.2.2.2.1, u.2.2.2.2.2.2.2.2.2.2.2.2.2.2.1, u.2.2.2.2.2.2.2.2.2.2.2.2.2.2.2.1, u.2.2.2.2.2.2.2.2.2.2.2.2.2.2.2.2.1, u.2.2.2.2.2.2.2.2.2.2.2.2.2.2.2.2.2.1, u.2.2.2.2.2.2.2.2.2.2.2.2.2.2.2.2.2.2.1, u.2.2.2.2.2.2.2.2.2.2.2.2.2.2.2.2.2.2.2.1, u.2.2.2.2.2.2.2.2.2.2.2.2.2.2.2.2.2.2.2.2.1, u.2.2.2.2.2.2.2.2.2.2.2.2.2.2.2.2.2.2.2.2.2)) hs (by omega) hse hb (r0 _ _ _ ⟨hu, h0, rfl, by omega, rfl⟩ (rs1 _ _ _ ⟨hu, h0, rfl, by omega, rfl⟩ (fun u1 hf g1 g2 => hps _ hf g1 g2)))) (fun w => absurd w (wd_ex (i := 4) (j := 5) (by omega) (by omega) (by omega) hw)) (fun w => absurd w (wd_ex (i := 4) (j := 6) (by omega) (by omega) (by omega) hw)) (fun w => absurd w (wd_ex (i := 4) (j := 7) (by omega) (by omega) (by omega) hw)) (fun n16 n17 n18 n19 n20 n21 n22 n23 => absurd hw n20)
      · refine Or.inr ⟨sk T n e0 + 1, s ||| 2 ^ 3, da, dm, (t.1, t.2.1, t.2.2.1, t.2.2.2.1, t.2.2.2.2.1, t.2.2.2.2.2.1, (nI d0), t.2.2.2.2.2.2.2.1, t.2.2.2.2.2.2.2.2.1, t.2.2.2.2.2.2.2.2.2.1, t.2.2.2.2.2.2.2.2.2.2.1, t.2.2.2.2.2.2.2.2.2.2.2.1, t.2.2.2.2.2.2.2.2.2.2.2.2.1, t.2.2.2.2.2.2.2.2.2.2.2.2.2.1, t.2.2.2.2.2.2.2.2.2.2.2.2.2.2.1, t.2.2.2.2.2.2.2.2.2.2.2.2.2.2.2), by omega, by omega, fun N hz => ⟨(bit_all s hs 3 (by omega)).2.2.2.2, fun q1 => hz.2.1 (by rw [← bit_or (k := 3) (by omega)]; exact q1), fun q1 => hz.2.2.1 (by rw [← bit_or (k := 3) (by omega)]; exact q1), hz.2.2.2⟩, fun x x3 post hx hp => ?_, fun u p post hr hps => ?_⟩
        · unfold wS
          refine c_stmt hT hx hs (fun w => absurd w (wd_ex (i := 4) (j := 0) (by omega) (by omega) (by omega) hw)) (fun w => absurd w (wd_ex (i := 4) (j := 1) (by omega) (by omega) (by omega) hw)) (fun w => absurd w (wd_ex (i := 4) (j := 2) (by omega) (by omega) (by omega) hw)) (fun w => absurd w (wd_ex (i := 4) (j := 3) (by omega) (by omega) (by omega) hw)) (fun _ _ x0 hx0 => c0 x0 _ hx0 (fun x1 hx1 => cs x1 _ hx1 (fun x9 h9 => hp _ _ h9))) (fun w => absurd w (wd_ex (i := 4) (j := 5) (by omega) (by omega) (by omega) hw)) (fun w => absurd w (wd_ex (i := 4) (j := 6) (by omega) (by omega) (by omega) hw)) (fun w => absurd w (wd_ex (i := 4) (j := 7) (by omega) (by omega) (by omega) hw)) (fun n16 n17 n18 n19 n20 n21 n22 n23 => absurd (n20 hw) (by rw [hb]; decide))
        · obtain ⟨hg, hne, hse, hSI⟩ := hr
          obtain ⟨hu, h0, -, -, -⟩ := id hg
          refine r_stmt hT hg (fun w => absurd w (wd_ex (i := 4) (j := 0) (by omega) (by omega) (by omega) hw)) (fun w => absurd w (wd_ex (i := 4) (j := 1) (by omega) (by omega) (by omega) hw)) (fun w => absurd w (wd_ex (i := 4) (j := 2) (by omega) (by omega) (by omega) hw)) (fun w => absurd w (wd_ex (i := 4) (j := 3) (by omega) (by omega) (by omega) hw)) (fun _ => r_once0 (u := (u.1, u.2.1, u.2.2.1, u.2.2.2.1, (nI (q + (zsb 20).length)), u.2.2.2.2.2.1, u.2.2.2.2.2.2.1, u.2.2.2.2.2.2.2.1, u.2.2.2.2.2.2.2.2.1, u.2.2.2.2.2.2.2.2.2.1, u.2.2.2.2.2.2.2.2.2.2.1, u.2.2.2.2.2.2.2.2.2.2.2.1, u.2.2.2.2.2.2.2.2.2.2.2.2.1, u.2.2.2.2.2.2.2.2.2.2.2.2.2.1, u.2.2.2.2.2.2.2.2.2.2.2.2.2.2.1, u.2.2.2.2.2.2.2.2.2.2.2.2.2.2.2.1, u.2.2.2.2.2.2.2.2.2.2.2.2.2.2.2.2.1, u.2.2.2.2.2.2.2.2.2.2.2.2.2.2.2.2.2.1, u.2.2.2.2.2.2.2.2.2.2.2.2.2.2.2.2.2.2.1, u.2.2.2.2.2.2.2.2.2.2.2.2.2.2.2.2.2.2.2.1, u.2.2.2.2.2.2.2.2.2.2.2.2.2.2.2.2.2.2.2.2.1, u.2.2.2.2.2.2.2.2.2.2.2.2.2.2.2.2.2.2.2.2.2)) hs (by omega) hse hb (r0 _ _ _ ⟨hu, h0, rfl, by omega, rfl⟩ (rs1 _ _ _ ⟨hu, h0, rfl, by omega, rfl⟩ ?_))) (fun w => absurd w (wd_ex (i := 4) (j := 5) (by omega) (by omega) (by omega) hw)) (fun w => absurd w (wd_ex (i := 4) (j := 6) (by omega) (by omega) (by omega) hw)) (fun w => absurd w (wd_ex (i := 4) (j := 7) (by omega) (by omega) (by omega) hw)) (fun n16 n17 n18 n19 n20 n21 n22 n23 => absurd hw n20)
          refine hps _ ⟨rfl, rfl, rfl, rfl, rfl, rfl, rfl⟩ rfl ?_ ⟨⟨hu, h0, rfl, by omega, rfl⟩, hne, rfl, ?_⟩
          · exact fun i hi => upd_ne _ _ (by omega)
          · exact SI_gen hSI (bit_all s hs 3 (by omega)).2.2.2.2 (bit_or (by omega)) (fun q1 => hSI.2.2.2.1 (by rw [← bit_or (k := 3) (by omega)]; exact q1)) (fun i hi => upd_ne _ _ (by omega)) (rTu_minimum hSI.2.1 (nI d0)) (bTu_minimum hSI.2.2.1 ⟨d0, by omega, rfl⟩)
theorem P_miss (hT : tx T B n) {q s : Nat} {da : Int32} {dm : DM} {t : S_X7} {a : S_X0} {br : S_X1} (hs : s < 128) (hw : wd T n q (zsb 21)) : SX T B n q s da dm t a br := by
  have hle := (wd_let (w_ok 5 (by omega)) hw).2.2
  have hl0 := (wOK_f (w_ok 5 (by omega))).1
  have hle : q + (zsb 21).length ≤ n := hle
  have hl0 : 0 < (zsb 21).length := hl0
  have hsk0 := sk_le (T := T) (n := n) (p := q + (zsb 21).length) hle
  cases hb : s.testBit 4 with
  | true =>
    refine Or.inl ⟨-2, nI q, by decide, fun x x3 post hx hp => ?_, fun u p post hr hps => ?_⟩
    · unfold wS
      refine c_stmt hT hx hs (fun w => absurd w (wd_ex (i := 5) (j := 0) (by omega) (by omega) (by omega) hw)) (fun w => absurd w (wd_ex (i := 5) (j := 1) (by omega) (by omega) (by omega) hw)) (fun w => absurd w (wd_ex (i := 5) (j := 2) (by omega) (by omega) (by omega) hw)) (fun w => absurd w (wd_ex (i := 5) (j := 3) (by omega) (by omega) (by omega) hw)) (fun w => absurd w (wd_ex (i := 5) (j := 4) (by omega) (by omega) (by omega) hw)) (fun _ q1 => absurd (hb.symm.trans q1) (by decide)) (fun w => absurd w (wd_ex (i := 5) (j := 6) (by omega) (by omega) (by omega) hw)) (fun w => absurd w (wd_ex (i := 5) (j := 7) (by omega) (by omega) (by omega) hw)) (fun _ _ _ _ _ _ _ _ x' h' => e_sign h' (by decide) (fun x2 h2 => hp _ h2 rfl))
    · obtain ⟨hg, hne, hse, hSI⟩ := hr
      refine r_stmt hT hg (fun w => absurd w (wd_ex (i := 5) (j := 0) (by omega) (by omega) (by omega) hw)) (fun w => absurd w (wd_ex (i := 5) (j := 1) (by omega) (by omega) (by omega) hw)) (fun w => absurd w (wd_ex (i := 5) (j := 2) (by omega) (by omega) (by omega) hw)) (fun w => absurd w (wd_ex (i := 5) (j := 3) (by omega) (by omega) (by omega) hw)) (fun w => absurd w (wd_ex (i := 5) (j := 4) (by omega) (by omega) (by omega) hw)) (fun _ => r_once1 (u := (u.1, u.2.1, u.2.2.1, u.2.2.2.1, (nI (q + (zsb 21).length)), u.2.2.2.2.2.1, u.2.2.2.2.2.2.1, u.2.2.2.2.2.2.2.1, u.2.2.2.2.2.2.2.2.1, u.2.2.2.2.2.2.2.2.2.1, u.2.2.2.2.2.2.2.2.2.2.1, u.2.2.2.2.2.2.2.2.2.2.2.1, u.2.2.2.2.2.2.2.2.2.2.2.2.1, u.2.2.2.2.2.2.2.2.2.2.2.2.2.1, u.2.2.2.2.2.2.2.2.2.2.2.2.2.2.1, u.2.2.2.2.2.2.2.2.2.2.2.2.2.2.2.1, u.2.2.2.2.2.2.2.2.2.2.2.2.2.2.2.2.1, u.2.2.2.2.2.2.2.2.2.2.2.2.2.2.2.2.2.1, u.2.2.2.2.2.2.2.2.2.2.2.2.2.2.2.2.2.2.1, u.2.2.2.2.2.2.2.2.2.2.2.2.2.2.2.2.2.2.2.1, u.2.2.2.2.2.2.2.2.2.2.2.2.2.2.2.2.2.2.2.2.1, u.2.2.2.2.2.2.2.2.2.2.2.2.2.2.2.2.2.2.2.2.2)) hs (by omega) hse hg.2.1 hb (fun y => re_number ne2 (re_expect ne2 (hps _ ⟨rfl, rfl, rfl, rfl, rfl, rfl, rfl⟩ rfl rfl)))) (fun w => absurd w (wd_ex (i := 5) (j := 6) (by omega) (by omega) (by omega) hw)) (fun w => absurd w (wd_ex (i := 5) (j := 7) (by omega) (by omega) (by omega) hw)) (fun n16 n17 n18 n19 n20 n21 n22 n23 => absurd hw n21)
  | false =>
    rcases P_num hT (q := sk T n (q + (zsb 21).length)) (lo := 0) (hi := 999) (by omega) (by omega) with ⟨e0, he0, c0, r0⟩ | ⟨e0, d0, dl0, dh0, f0, g0, c0, r0⟩
    · refine Or.inl ⟨e0, nI (sk T n (q + (zsb 21).length)), he0, fun x x3 post hx hp => ?_, fun u p post hr hps => ?_⟩
      · unfold wS
        refine c_stmt hT hx hs (fun w => absurd w (wd_ex (i := 5) (j := 0) (by omega) (by omega) (by omega) hw)) (fun w => absurd w (wd_ex (i := 5) (j := 1) (by omega) (by omega) (by omega) hw)) (fun w => absurd w (wd_ex (i := 5) (j := 2) (by omega) (by omega) (by omega) hw)) (fun w => absurd w (wd_ex (i := 5) (j := 3) (by omega) (by omega) (by omega) hw)) (fun w => absurd w (wd_ex (i := 5) (j := 4) (by omega) (by omega) (by omega) hw)) (fun _ _ x0 hx0 => c0 x0 _ hx0 (fun y0 hz => e_sign hz (by decide) (fun x9 h9 => hp _ h9 rfl))) (fun w => absurd w (wd_ex (i := 5) (j := 6) (by omega) (by omega) (by omega) hw)) (fun w => absurd w (wd_ex (i := 5) (j := 7) (by omega) (by omega) (by omega) hw)) (fun n16 n17 n18 n19 n20 n21 n22 n23 => absurd (n21 hw) (by rw [hb]; decide))
      · obtain ⟨hg, hne, hse, hSI⟩ := hr
        obtain ⟨hu, h0, -, -, -⟩ := id hg
        refine r_stmt hT hg (fun w => absurd w (wd_ex (i := 5) (j := 0) (by omega) (by omega) (by omega) hw)) (fun w => absurd w (wd_ex (i := 5) (j := 1) (by omega) (by omega) (by omega) hw)) (fun w => absurd w (wd_ex (i := 5) (j := 2) (by omega) (by omega) (by omega) hw)) (fun w => absurd w (wd_ex (i := 5) (j := 3) (by omega) (by omega) (by omega) hw)) (fun w => absurd w (wd_ex (i := 5) (j := 4) (by omega) (by omega) (by omega) hw)) (fun _ => r_once0 (u := (u.1, u.2.1, u.2.2.1, u.2.2.2.1, (nI (q + (zsb 21).length)), u.2.2.2.2.2.1, u.2.2.2.2.2.2.1, u.2.2.2.2.2.2.2.1, u.2.2.2.2.2.2.2.2.1, u.2.2.2.2.2.2.2.2.2.1, u.2.2.2.2.2.2.2.2.2.2.1, u.2.2.2.2.2.2.2.2.2.2.2.1, u.2.2.2.2.2.2.2.2.2.2.2.2.1, u.2.2.2.2.2.2.2.2.2.2.2.2.2.1, u.2.2.2.2.2.2.2.2.2.2.2.2.2.2.1, u.2.2.2.2.2.2.2.2.2.2.2.2.2.2.2.1, u.2.2.2.2.2.2.2.2.2.2.2.2.2.2.2.2.1, u.2.2.2.2.2.2.2.2.2.2.2.2.2.2.2.2.2.1, u.2.2.2.2.2.2.2.2.2.2.2.2.2.2.2.2.2.2.1, u.2.2.2.2.2.2.2.2.2.2.2.2.2.2.2.2.2.2.2.1, u.2.2.2.2.2.2.2.2.2.2.2.2.2.2.2.2.2.2.2.2.1, u.2.2.2.2.2.2.2.2.2.2.2.2.2.2.2.2.2.2.2.2.2)) hs (by omega) hse hb (r0 _ _ _ ⟨hu, h0, rfl, by omega, rfl⟩ (fun r u1 hf g1 g2 => re_expect (by rw [g1]; exact he0) (hps _ hf g1 g2)))) (fun w => absurd w (wd_ex (i := 5) (j := 6) (by omega) (by omega) (by omega) hw)) (fun w => absurd w (wd_ex (i := 5) (j := 7) (by omega) (by omega) (by omega) hw)) (fun n16 n17 n18 n19 n20 n21 n22 n23 => absurd hw n21)
    · have hsk1 := sk_le (T := T) (n := n) (p := e0) g0
      rcases P_semi hT (q := sk T n e0) with ⟨cs, rs1⟩ | ⟨hlt, cs, rs1⟩
      · refine Or.inl ⟨-2, nI (sk T n e0), by decide, fun x x3 post hx hp => ?_, fun u p post hr hps => ?_⟩
        · unfold wS
          refine c_stmt hT hx hs (fun w => absurd w (wd_ex (i := 5) (j := 0) (by omega) (by omega) (by omega) hw)) (fun w => absurd w (wd_ex (i := 5) (j := 1) (by omega) (by omega) (by omega) hw)) (fun w => absurd w (wd_ex (i := 5) (j := 2) (by omega) (by omega) (by omega) hw)) (fun w => absurd w (wd_ex (i := 5) (j := 3) (by omega) (by omega) (by omega) hw)) (fun w => absurd w (wd_ex (i := 5) (j := 4) (by omega) (by omega) (by omega) hw)) (fun _ _ x0 hx0 => c0 x0 _ hx0 (fun x1 hx1 => cs x1 _ hx1 (fun x9 h9 => hp _ h9 rfl))) (fun w => absurd w (wd_ex (i := 5) (j := 6) (by omega) (by omega) (by omega) hw)) (fun w => absurd w (wd_ex (i := 5) (j := 7) (by omega) (by omega) (by omega) hw)) (fun n16 n17 n18 n19 n20 n21 n22 n23 => absurd (n21 hw) (by rw [hb]; decide))
        · obtain ⟨hg, hne, hse, hSI⟩ := hr
          obtain ⟨hu, h0, -, -, -⟩ := id hg
          refine r_stmt hT hg (fun w => absurd w (wd_ex (i := 5) (j := 0) (by omega) (by omega) (by omega) hw)) (fun w => absurd w (wd_ex (i := 5) (j := 1) (by omega) (by omega) (by omega) hw)) (fun w => absurd w (wd_ex (i := 5) (j := 2) (by omega) (by omega) (by omega) hw)) (fun w => absurd w (wd_ex (i := 5) (j := 3) (by omega) (by omega) (by omega) hw)) (fun w => absurd w (wd_ex (i := 5) (j := 4) (by omega) (by omega) (by omega) hw)) (fun _ => r_once0 (u := (u.1, u.2.1, u.2.2.1, u.2.2.2.1, (nI (q + (zsb 21).length)), u.2.2.2.2.2.1, u.2.2.2.2.2.2.1, u.2.2.2.2.2.2.2.1, u.2.2.2.2.2.2.2.2.1, u.2.2.2.2.2.2.2.2.2.1, u.2.2.2.2.2.2.2.2.2.2.1, u.2.2.2.2.2.2.2.2.2.2.2.1, u.2.2.2.2.2.2.2.2.2.2.2.2.1, u.2.2.2.2.2.2.2.2.2.2.2.2.2.1, u.2.2.2.2.2.2.2.2.2.2.2.2.2.2.1, u.2.2.2.2.2.2.2.2.2.2.2.2.2.2.2.1, u.2.2.2.2.2.2.2.2.2.2.2.2.2.2.2.2.1, u.2.2.2.2.2.2.2.2.2.2.2.2.2.2.2.2.2.1, u.2.2.2.2.2.2.2.2.2.2.2.2.2.2.2.2.2.2.1, u.2.2.2.2.2.2.2.2.2.2.2.2.2.2.2.2.2.2.2.1, u.2.2.2.2.2.2.2.2.2.2.2.2.2.2.2.2.2.2.2.2.1, u.2.2.2.2.2.2.2.2.2.2.2.2.2.2.2.2.2.2.2.2.2)) hs (by omega) hse hb (r0 _ _ _ ⟨hu, h0, rfl, by omega, rfl⟩ (rs1 _ _ _ ⟨hu, h0, rfl, by omega, rfl⟩ (fun u1 hf g1 g2 => hps _ hf g1 g2)))) (fun w => absurd w (wd_ex (i := 5) (j := 6) (by omega) (by omega) (by omega) hw)) (fun w => absurd w (wd_ex (i := 5) (j := 7) (by omega) (by omega) (by omega) hw)) (fun n16 n17 n18 n19 n20 n21 n22 n23 => absurd hw n21)
      · refine Or.inr ⟨sk T n e0 + 1, s ||| 2 ^ 4, da, dm, (t.1, t.2.1, t.2.2.1, t.2.2.2.1, t.2.2.2.2.1, t.2.2.2.2.2.1, t.2.2.2.2.2.2.1, (nI d0), t.2.2.2.2.2.2.2.2.1, t.2.2.2.2.2.2.2.2.2.1, t.2.2.2.2.2.2.2.2.2.2.1, t.2.2.2.2.2.2.2.2.2.2.2.1, t.2.2.2.2.2.2.2.2.2.2.2.2.1, t.2.2.2.2.2.2.2.2.2.2.2.2.2.1, t.2.2.2.2.2.2.2.2.2.2.2.2.2.2.1, t.2.2.2.2.2.2.2.2.2.2.2.2.2.2.2), by omega, by omega, fun N hz => ⟨(bit_all s hs 4 (by omega)).2.2.2.2, fun q1 => hz.2.1 (by rw [← bit_or (k := 4) (by omega)]; exact q1), fun q1 => hz.2.2.1 (by rw [← bit_or (k := 4) (by omega)]; exact q1), hz.2.2.2⟩, fun x x3 post hx hp => ?_, fun u p post hr hps => ?_⟩
        · unfold wS
          refine c_stmt hT hx hs (fun w => absurd w (wd_ex (i := 5) (j := 0) (by omega) (by omega) (by omega) hw)) (fun w => absurd w (wd_ex (i := 5) (j := 1) (by omega) (by omega) (by omega) hw)) (fun w => absurd w (wd_ex (i := 5) (j := 2) (by omega) (by omega) (by omega) hw)) (fun w => absurd w (wd_ex (i := 5) (j := 3) (by omega) (by omega) (by omega) hw)) (fun w => absurd w (wd_ex (i := 5) (j := 4) (by omega) (by omega) (by omega) hw)) (fun _ _ x0 hx0 => c0 x0 _ hx0 (fun x1 hx1 => cs x1 _ hx1 (fun x9 h9 => hp _ _ h9))) (fun w => absurd w (wd_ex (i := 5) (j := 6) (by omega) (by omega) (by omega) hw)) (fun w => absurd w (wd_ex (i := 5) (j := 7) (by omega) (by omega) (by omega) hw)) (fun n16 n17 n18 n19 n20 n21 n22 n23 => absurd (n21 hw) (by rw [hb]; decide))
        · obtain ⟨hg, hne, hse, hSI⟩ := hr
          obtain ⟨hu, h0, -, -, -⟩ := id hg
          refine r_stmt hT hg (fun w => absurd w (wd_ex (i := 5) (j := 0) (by omega) (by omega) (by omega) hw)) (fun w => absurd w (wd_ex (i := 5) (j := 1) (by omega) (by omega) (by omega) hw)) (fun w => absurd w (wd_ex (i := 5) (j := 2) (by omega) (by omega) (by omega) hw)) (fun w => absurd w (wd_ex (i := 5) (j := 3) (by omega) (by omega) (by omega) hw)) (fun w => absurd w (wd_ex (i := 5) (j := 4) (by omega) (by omega) (by omega) hw)) (fun _ => r_once0 (u := (u.1, u.2.1, u.2.2.1, u.2.2.2.1, (nI (q + (zsb 21).length)), u.2.2.2.2.2.1, u.2.2.2.2.2.2.1, u.2.2.2.2.2.2.2.1, u.2.2.2.2.2.2.2.2.1, u.2.2.2.2.2.2.2.2.2.1, u.2.2.2.2.2.2.2.2.2.2.1, u.2.2.2.2.2.2.2.2.2.2.2.1, u.2.2.2.2.2.2.2.2.2.2.2.2.1, u.2.2.2.2.2.2.2.2.2.2.2.2.2.1, u.2.2.2.2.2.2.2.2.2.2.2.2.2.2.1, u.2.2.2.2.2.2.2.2.2.2.2.2.2.2.2.1, u.2.2.2.2.2.2.2.2.2.2.2.2.2.2.2.2.1, u.2.2.2.2.2.2.2.2.2.2.2.2.2.2.2.2.2.1, u.2.2.2.2.2.2.2.2.2.2.2.2.2.2.2.2.2.2.1, u.2.2.2.2.2.2.2.2.2.2.2.2.2.2.2.2.2.2.2.1, u.2.2.2.2.2.2.2.2.2.2.2.2.2.2.2.2.2.2.2.2.1, u.2.2.2.2.2.2.2.2.2.2.2.2.2.2.2.2.2.2.2.2.2)) hs (by omega) hse hb (r0 _ _ _ ⟨hu, h0, rfl, by omega, rfl⟩ (rs1 _ _ _ ⟨hu, h0, rfl, by omega, rfl⟩ ?_))) (fun w => absurd w (wd_ex (i := 5) (j := 6) (by omega) (by omega) (by omega) hw)) (fun w => absurd w (wd_ex (i := 5) (j := 7) (by omega) (by omega) (by omega) hw)) (fun n16 n17 n18 n19 n20 n21 n22 n23 => absurd hw n21)
          refine hps _ ⟨rfl, rfl, rfl, rfl, rfl, rfl, rfl⟩ rfl ?_ ⟨⟨hu, h0, rfl, by omega, rfl⟩, hne, rfl, ?_⟩
          · exact fun i hi => upd_ne _ _ (by omega)
          · exact SI_gen hSI (bit_all s hs 4 (by omega)).2.2.2.2 (bit_or (by omega)) (fun q1 => hSI.2.2.2.1 (by rw [← bit_or (k := 4) (by omega)]; exact q1)) (fun i hi => upd_ne _ _ (by omega)) (rTu_miss hSI.2.1 (nI d0)) (bTu_miss hSI.2.2.1 ⟨d0, by omega, rfl⟩)
theorem P_waivers (hT : tx T B n) {q s : Nat} {da : Int32} {dm : DM} {t : S_X7} {a : S_X0} {br : S_X1} (hs : s < 128) (hw : wd T n q (zsb 22)) : SX T B n q s da dm t a br := by
  have hle := (wd_let (w_ok 6 (by omega)) hw).2.2
  have hl0 := (wOK_f (w_ok 6 (by omega))).1
  have hle : q + (zsb 22).length ≤ n := hle
  have hl0 : 0 < (zsb 22).length := hl0
  have hsk0 := sk_le (T := T) (n := n) (p := q + (zsb 22).length) hle
  cases hb : s.testBit 5 with
  | true =>
    refine Or.inl ⟨-2, nI q, by decide, fun x x3 post hx hp => ?_, fun u p post hr hps => ?_⟩
    · unfold wS
      refine c_stmt hT hx hs (fun w => absurd w (wd_ex (i := 6) (j := 0) (by omega) (by omega) (by omega) hw)) (fun w => absurd w (wd_ex (i := 6) (j := 1) (by omega) (by omega) (by omega) hw)) (fun w => absurd w (wd_ex (i := 6) (j := 2) (by omega) (by omega) (by omega) hw)) (fun w => absurd w (wd_ex (i := 6) (j := 3) (by omega) (by omega) (by omega) hw)) (fun w => absurd w (wd_ex (i := 6) (j := 4) (by omega) (by omega) (by omega) hw)) (fun w => absurd w (wd_ex (i := 6) (j := 5) (by omega) (by omega) (by omega) hw)) (fun _ q1 => absurd (hb.symm.trans q1) (by decide)) (fun w => absurd w (wd_ex (i := 6) (j := 7) (by omega) (by omega) (by omega) hw)) (fun _ _ _ _ _ _ _ _ x' h' => e_sign h' (by decide) (fun x2 h2 => hp _ h2 rfl))
    · obtain ⟨hg, hne, hse, hSI⟩ := hr
      refine r_stmt hT hg (fun w => absurd w (wd_ex (i := 6) (j := 0) (by omega) (by omega) (by omega) hw)) (fun w => absurd w (wd_ex (i := 6) (j := 1) (by omega) (by omega) (by omega) hw)) (fun w => absurd w (wd_ex (i := 6) (j := 2) (by omega) (by omega) (by omega) hw)) (fun w => absurd w (wd_ex (i := 6) (j := 3) (by omega) (by omega) (by omega) hw)) (fun w => absurd w (wd_ex (i := 6) (j := 4) (by omega) (by omega) (by omega) hw)) (fun w => absurd w (wd_ex (i := 6) (j := 5) (by omega) (by omega) (by omega) hw)) (fun _ => r_once1 (u := (u.1, u.2.1, u.2.2.1, u.2.2.2.1, (nI (q + (zsb 22).length)), u.2.2.2.2.2.1, u.2.2.2.2.2.2.1, u.2.2.2.2.2.2.2.1, u.2.2.2.2.2.2.2.2.1, u.2.2.2.2.2.2.2.2.2.1, u.2.2.2.2.2.2.2.2.2.2.1, u.2.2.2.2.2.2.2.2.2.2.2.1, u.2.2.2.2.2.2.2.2.2.2.2.2.1, u.2.2.2.2.2.2.2.2.2.2.2.2.2.1, u.2.2.2.2.2.2.2.2.2.2.2.2.2.2.1, u.2.2.2.2.2.2.2.2.2.2.2.2.2.2.2.1, u.2.2.2.2.2.2.2.2.2.2.2.2.2.2.2.2.1, u.2.2.2.2.2.2.2.2.2.2.2.2.2.2.2.2.2.1, u.2.2.2.2.2.2.2.2.2.2.2.2.2.2.2.2.2.2.1, u.2.2.2.2.2.2.2.2.2.2.2.2.2.2.2.2.2.2.2.1, u.2.2.2.2.2.2.2.2.2.2.2.2.2.2.2.2.2.2.2.2.1, u.2.2.2.2.2.2.2.2.2.2.2.2.2.2.2.2.2.2.2.2.2)) hs (by omega) hse hg.2.1 hb (fun y => re_number ne2 (re_number ne2 (re_expect ne2 (hps _ ⟨rfl, rfl, rfl, rfl, rfl, rfl, rfl⟩ rfl rfl))))) (fun w => absurd w (wd_ex (i := 6) (j := 7) (by omega) (by omega) (by omega) hw)) (fun n16 n17 n18 n19 n20 n21 n22 n23 => absurd hw n22)
  | false =>
    rcases P_num hT (q := sk T n (q + (zsb 22).length)) (lo := 0) (hi := 4) (by omega) (by omega) with ⟨e0, he0, c0, r0⟩ | ⟨e0, d0, dl0, dh0, f0, g0, c0, r0⟩
    · refine Or.inl ⟨e0, nI (sk T n (q + (zsb 22).length)), he0, fun x x3 post hx hp => ?_, fun u p post hr hps => ?_⟩
      · unfold wS
        refine c_stmt hT hx hs (fun w => absurd w (wd_ex (i := 6) (j := 0) (by omega) (by omega) (by omega) hw)) (fun w => absurd w (wd_ex (i := 6) (j := 1) (by omega) (by omega) (by omega) hw)) (fun w => absurd w (wd_ex (i := 6) (j := 2) (by omega) (by omega) (by omega) hw)) (fun w => absurd w (wd_ex (i := 6) (j := 3) (by omega) (by omega) (by omega) hw)) (fun w => absurd w (wd_ex (i := 6) (j := 4) (by omega) (by omega) (by omega) hw)) (fun w => absurd w (wd_ex (i := 6) (j := 5) (by omega) (by omega) (by omega) hw)) (fun _ _ x0 hx0 => c0 x0 _ hx0 (fun y0 hz => e_number hz (fun y1 hz => e_sign hz (by decide) (fun x9 h9 => hp _ h9 rfl)))) (fun w => absurd w (wd_ex (i := 6) (j := 7) (by omega) (by omega) (by omega) hw)) (fun n16 n17 n18 n19 n20 n21 n22 n23 => absurd (n22 hw) (by rw [hb]; decide))
      · obtain ⟨hg, hne, hse, hSI⟩ := hr
        obtain ⟨hu, h0, -, -, -⟩ := id hg
        refine r_stmt hT hg (fun w => absurd w (wd_ex (i := 6) (j := 0) (by omega) (by omega) (by omega) hw)) (fun w => absurd w (wd_ex (i := 6) (j := 1) (by omega) (by omega) (by omega) hw)) (fun w => absurd w (wd_ex (i := 6) (j := 2) (by omega) (by omega) (by omega) hw)) (fun w => absurd w (wd_ex (i := 6) (j := 3) (by omega) (by omega) (by omega) hw)) (fun w => absurd w (wd_ex (i := 6) (j := 4) (by omega) (by omega) (by omega) hw)) (fun w => absurd w (wd_ex (i := 6) (j := 5) (by omega) (by omega) (by omega) hw)) (fun _ => r_once0 (u := (u.1, u.2.1, u.2.2.1, u.2.2.2.1, (nI (q + (zsb 22).length)), u.2.2.2.2.2.1, u.2.2.2.2.2.2.1, u.2.2.2.2.2.2.2.1, u.2.2.2.2.2.2.2.2.1, u.2.2.2.2.2.2.2.2.2.1, u.2.2.2.2.2.2.2.2.2.2.1, u.2.2.2.2.2.2.2.2.2.2.2.1, u.2.2.2.2.2.2.2.2.2.2.2.2.1, u.2.2.2.2.2.2.2.2.2.2.2.2.2.1, u.2.2.2.2.2.2.2.2.2.2.2.2.2.2.1, u.2.2.2.2.2.2.2.2.2.2.2.2.2.2.2.1, u.2.2.2.2.2.2.2.2.2.2.2.2.2.2.2.2.1, u.2.2.2.2.2.2.2.2.2.2.2.2.2.2.2.2.2.1, u.2.2.2.2.2.2.2.2.2.2.2.2.2.2.2.2.2.2.1, u.2.2.2.2.2.2.2.2.2.2.2.2.2.2.2.2.2.2.2.1, u.2.2.2.2.2.2.2.2.2.2.2.2.2.2.2.2.2.2.2.2.1, u.2.2.2.2.2.2.2.2.2.2.2.2.2.2.2.2.2.2.2.2.2)) hs (by omega) hse hb (r0 _ _ _ ⟨hu, h0, rfl, by omega, rfl⟩ (fun r u1 hf g1 g2 => re_number (by rw [g1]; exact he0) (re_expect (by rw [g1]; exact he0) (hps _ hf g1 g2))))) (fun w => absurd w (wd_ex (i := 6) (j := 7) (by omega) (by omega) (by omega) hw)) (fun n16 n17 n18 n19 n20 n21 n22 n23 => absurd hw n22)
    · have hsk1 := sk_le (T := T) (n := n) (p := e0) g0
      rcases P_num hT (q := sk T n e0) (lo := 0) (hi := 40) (by omega) (by omega) with ⟨e1, he1, c1, r1⟩ | ⟨e1, d1, dl1, dh1, f1, g1, c1, r1⟩
      · refine Or.inl ⟨e1, nI (sk T n e0), he1, fun x x3 post hx hp => ?_, fun u p post hr hps => ?_⟩
        · unfold wS
          refine c_stmt hT hx hs (fun w => absurd w (wd_ex (i := 6) (j := 0) (by omega) (by omega) (by omega) hw)) (fun w => absurd w (wd_ex (i := 6) (j := 1) (by omega) (by omega) (by omega) hw)) (fun w => absurd w (wd_ex (i := 6) (j := 2) (by omega) (by omega) (by omega) hw)) (fun w => absurd w (wd_ex (i := 6) (j := 3) (by omega) (by omega) (by omega) hw)) (fun w => absurd w (wd_ex (i := 6) (j := 4) (by omega) (by omega) (by omega) hw)) (fun w => absurd w (wd_ex (i := 6) (j := 5) (by omega) (by omega) (by omega) hw)) (fun _ _ x0 hx0 => c0 x0 _ hx0 (fun x1 hx1 => c1 x1 _ hx1 (fun y1 hz => e_sign hz (by decide) (fun x9 h9 => hp _ h9 rfl)))) (fun w => absurd w (wd_ex (i := 6) (j := 7) (by omega) (by omega) (by omega) hw)) (fun n16 n17 n18 n19 n20 n21 n22 n23 => absurd (n22 hw) (by rw [hb]; decide))
        · obtain ⟨hg, hne, hse, hSI⟩ := hr
          obtain ⟨hu, h0, -, -, -⟩ := id hg
          refine r_stmt hT hg (fun w => absurd w (wd_ex (i := 6) (j := 0) (by omega) (by omega) (by omega) hw)) (fun w => absurd w (wd_ex (i := 6) (j := 1) (by omega) (by omega) (by omega) hw)) (fun w => absurd w (wd_ex (i := 6) (j := 2) (by omega) (by omega) (by omega) hw)) (fun w => absurd w (wd_ex (i := 6) (j := 3) (by omega) (by omega) (by omega) hw)) (fun w => absurd w (wd_ex (i := 6) (j := 4) (by omega) (by omega) (by omega) hw)) (fun w => absurd w (wd_ex (i := 6) (j := 5) (by omega) (by omega) (by omega) hw)) (fun _ => r_once0 (u := (u.1, u.2.1, u.2.2.1, u.2.2.2.1, (nI (q + (zsb 22).length)), u.2.2.2.2.2.1, u.2.2.2.2.2.2.1, u.2.2.2.2.2.2.2.1, u.2.2.2.2.2.2.2.2.1, u.2.2.2.2.2.2.2.2.2.1, u.2.2.2.2.2.2.2.2.2.2.1, u.2.2.2.2.2.2.2.2.2.2.2.1, u.2.2.2.2.2.2.2.2.2.2.2.2.1, u.2.2.2.2.2.2.2.2.2.2.2.2.2.1, u.2.2.2.2.2.2.2.2.2.2.2.2.2.2.1, u.2.2.2.2.2.2.2.2.2.2.2.2.2.2.2.1, u.2.2.2.2.2.2.2.2.2.2.2.2.2.2.2.2.1, u.2.2.2.2.2.2.2.2.2.2.2.2.2.2.2.2.2.1, u.2.2.2.2.2.2.2.2.2.2.2.2.2.2.2.2.2.2.1, u.2.2.2.2.2.2.2.2.2.2.2.2.2.2.2.2.2.2.2.1, u.2.2.2.2.2.2.2.2.2.2.2.2.2.2.2.2.2.2.2.2.1, u.2.2.2.2.2.2.2.2.2.2.2.2.2.2.2.2.2.2.2.2.2)) hs (by omega) hse hb (r0 _ _ _ ⟨hu, h0, rfl, by omega, rfl⟩ (r1 _ _ _ ⟨hu, h0, rfl, by omega, rfl⟩ (fun r u1 hf g1 g2 => re_expect (by rw [g1]; exact he1) (hps _ hf g1 g2))))) (fun w => absurd w (wd_ex (i := 6) (j := 7) (by omega) (by omega) (by omega) hw)) (fun n16 n17 n18 n19 n20 n21 n22 n23 => absurd hw n22)
      · have hsk2 := sk_le (T := T) (n := n) (p := e1) g1
        rcases P_semi hT (q := sk T n e1) with ⟨cs, rs1⟩ | ⟨hlt, cs, rs1⟩
        · refine Or.inl ⟨-2, nI (sk T n e1), by decide, fun x x3 post hx hp => ?_, fun u p post hr hps => ?_⟩
          · unfold wS
            refine c_stmt hT hx hs (fun w => absurd w (wd_ex (i := 6) (j := 0) (by omega) (by omega) (by omega) hw)) (fun w => absurd w (wd_ex (i := 6) (j := 1) (by omega) (by omega) (by omega) hw)) (fun w => absurd w (wd_ex (i := 6) (j := 2) (by omega) (by omega) (by omega) hw)) (fun w => absurd w (wd_ex (i := 6) (j := 3) (by omega) (by omega) (by omega) hw)) (fun w => absurd w (wd_ex (i := 6) (j := 4) (by omega) (by omega) (by omega) hw)) (fun w => absurd w (wd_ex (i := 6) (j := 5) (by omega) (by omega) (by omega) hw)) (fun _ _ x0 hx0 => c0 x0 _ hx0 (fun x1 hx1 => c1 x1 _ hx1 (fun x2 hx2 => cs x2 _ hx2 (fun x9 h9 => hp _ h9 rfl)))) (fun w => absurd w (wd_ex (i := 6) (j := 7) (by omega) (by omega) (by omega) hw)) (fun n16 n17 n18 n19 n20 n21 n22 n23 => absurd (n22 hw) (by rw [hb]; decide))
          · obtain ⟨hg, hne, hse, hSI⟩ := hr
            obtain ⟨hu, h0, -, -, -⟩ := id hg
            refine r_stmt hT hg (fun w => absurd w (wd_ex (i := 6) (j := 0) (by omega) (by omega) (by omega) hw)) (fun w => absurd w (wd_ex (i := 6) (j := 1) (by omega) (by omega) (by omega) hw)) (fun w => absurd w (wd_ex (i := 6) (j := 2) (by omega) (by omega) (by omega) hw)) (fun w => absurd w (wd_ex (i := 6) (j := 3) (by omega) (by omega) (by omega) hw)) (fun w => absurd w (wd_ex (i := 6) (j := 4) (by omega) (by omega) (by omega) hw)) (fun w => absurd w (wd_ex (i := 6) (j := 5) (by omega) (by omega) (by omega) hw)) (fun _ => r_once0 (u := (u.1, u.2.1, u.2.2.1, u.2.2.2.1, (nI (q + (zsb 22).length)), u.2.2.2.2.2.1, u.2.2.2.2.2.2.1, u.2.2.2.2.2.2.2.1, u.2.2.2.2.2.2.2.2.1, u.2.2.2.2.2.2.2.2.2.1, u.2.2.2.2.2.2.2.2.2.2.1, u.2.2.2.2.2.2.2.2.2.2.2.1, u.2.2.2.2.2.2.2.2.2.2.2.2.1, u.2.2.2.2.2.2.2.2.2.2.2.2.2.1, u.2.2.2.2.2.2.2.2.2.2.2.2.2.2.1, u.2.2.2.2.2.2.2.2.2.2.2.2.2.2.2.1, u.2.2.2.2.2.2.2.2.2.2.2.2.2.2.2.2.1, u.2.2.2.2.2.2.2.2.2.2.2.2.2.2.2.2.2.1, u.2.2.2.2.2.2.2.2.2.2.2.2.2.2.2.2.2.2.1, u.2.2.2.2.2.2.2.2.2.2.2.2.2.2.2.2.2.2.2.1, u.2.2.2.2.2.2.2.2.2.2.2.2.2.2.2.2.2.2.2.2.1, u.2.2.2.2.2.2.2.2.2.2.2.2.2.2.2.2.2.2.2.2.2)) hs (by omega) hse hb (r0 _ _ _ ⟨hu, h0, rfl, by omega, rfl⟩ (r1 _ _ _ ⟨hu, h0, rfl, by omega, rfl⟩ (rs1 _ _ _ ⟨hu, h0, rfl, by omega, rfl⟩ (fun u1 hf g1 g2 => hps _ hf g1 g2))))) (fun w => absurd w (wd_ex (i := 6) (j := 7) (by omega) (by omega) (by omega) hw)) (fun n16 n17 n18 n19 n20 n21 n22 n23 => absurd hw n22)
        · refine Or.inr ⟨sk T n e1 + 1, s ||| 2 ^ 5, da, dm, (t.1, t.2.1, t.2.2.1, t.2.2.2.1, t.2.2.2.2.1, t.2.2.2.2.2.1, t.2.2.2.2.2.2.1, t.2.2.2.2.2.2.2.1, (nI d0), (nI d1), t.2.2.2.2.2.2.2.2.2.2.1, t.2.2.2.2.2.2.2.2.2.2.2.1, t.2.2.2.2.2.2.2.2.2.2.2.2.1, t.2.2.2.2.2.2.2.2.2.2.2.2.2.1, t.2.2.2.2.2.2.2.2.2.2.2.2.2.2.1, t.2.2.2.2.2.2.2.2.2.2.2.2.2.2.2), by omega, by omega, fun N hz => ⟨(bit_all s hs 5 (by omega)).2.2.2.2, fun q1 => hz.2.1 (by rw [← bit_or (k := 5) (by omega)]; exact q1), fun q1 => hz.2.2.1 (by rw [← bit_or (k := 5) (by omega)]; exact q1), hz.2.2.2⟩, fun x x3 post hx hp => ?_, fun u p post hr hps => ?_⟩
          · unfold wS
            refine c_stmt hT hx hs (fun w => absurd w (wd_ex (i := 6) (j := 0) (by omega) (by omega) (by omega) hw)) (fun w => absurd w (wd_ex (i := 6) (j := 1) (by omega) (by omega) (by omega) hw)) (fun w => absurd w (wd_ex (i := 6) (j := 2) (by omega) (by omega) (by omega) hw)) (fun w => absurd w (wd_ex (i := 6) (j := 3) (by omega) (by omega) (by omega) hw)) (fun w => absurd w (wd_ex (i := 6) (j := 4) (by omega) (by omega) (by omega) hw)) (fun w => absurd w (wd_ex (i := 6) (j := 5) (by omega) (by omega) (by omega) hw)) (fun _ _ x0 hx0 => c0 x0 _ hx0 (fun x1 hx1 => c1 x1 _ hx1 (fun x2 hx2 => cs x2 _ hx2 (fun x9 h9 => hp _ _ h9)))) (fun w => absurd w (wd_ex (i := 6) (j := 7) (by omega) (by omega) (by omega) hw)) (fun n16 n17 n18 n19 n20 n21 n22 n23 => absurd (n22 hw) (by rw [hb]; decide))
          · obtain ⟨hg, hne, hse, hSI⟩ := hr
            obtain ⟨hu, h0, -, -, -⟩ := id hg
            refine r_stmt hT hg (fun w => absurd w (wd_ex (i := 6) (j := 0) (by omega) (by omega) (by omega) hw)) (fun w => absurd w (wd_ex (i := 6) (j := 1) (by omega) (by omega) (by omega) hw)) (fun w => absurd w (wd_ex (i := 6) (j := 2) (by omega) (by omega) (by omega) hw)) (fun w => absurd w (wd_ex (i := 6) (j := 3) (by omega) (by omega) (by omega) hw)) (fun w => absurd w (wd_ex (i := 6) (j := 4) (by omega) (by omega) (by omega) hw)) (fun w => absurd w (wd_ex (i := 6) (j := 5) (by omega) (by omega) (by omega) hw)) (fun _ => r_once0 (u := (u.1, u.2.1, u.2.2.1, u.2.2.2.1, (nI (q + (zsb 22).length)), u.2.2.2.2.2.1, u.2.2.2.2.2.2.1, u.2.2.2.2.2.2.2.1, u.2.2.2.2.2.2.2.2.1, u.2.2.2.2.2.2.2.2.2.1, u.2.2.2.2.2.2.2.2.2.2.1, u.2.2.2.2.2.2.2.2.2.2.2.1, u.2.2.2.2.2.2.2.2.2.2.2.2.1, u.2.2.2.2.2.2.2.2.2.2.2.2.2.1, u.2.2.2.2.2.2.2.2.2.2.2.2.2.2.1, u.2.2.2.2.2.2.2.2.2.2.2.2.2.2.2.1, u.2.2.2.2.2.2.2.2.2.2.2.2.2.2.2.2.1, u.2.2.2.2.2.2.2.2.2.2.2.2.2.2.2.2.2.1, u.2.2.2.2.2.2.2.2.2.2.2.2.2.2.2.2.2.2.1, u.2.2.2.2.2.2.2.2.2.2.2.2.2.2.2.2.2.2.2.1, u.2.2.2.2.2.2.2.2.2.2.2.2.2.2.2.2.2.2.2.2.1, u.2.2.2.2.2.2.2.2.2.2.2.2.2.2.2.2.2.2.2.2.2)) hs (by omega) hse hb (r0 _ _ _ ⟨hu, h0, rfl, by omega, rfl⟩ (r1 _ _ _ ⟨hu, h0, rfl, by omega, rfl⟩ (rs1 _ _ _ ⟨hu, h0, rfl, by omega, rfl⟩ ?_)))) (fun w => absurd w (wd_ex (i := 6) (j := 7) (by omega) (by omega) (by omega) hw)) (fun n16 n17 n18 n19 n20 n21 n22 n23 => absurd hw n22)
            refine hps _ ⟨rfl, rfl, rfl, rfl, rfl, rfl, rfl⟩ rfl ?_ ⟨⟨hu, h0, rfl, by omega, rfl⟩, hne, rfl, ?_⟩
            · exact fun i hi => (upd_ne _ _ (by omega)).trans (upd_ne _ _ (by omega))
            · exact SI_gen hSI (bit_all s hs 5 (by omega)).2.2.2.2 (bit_or (by omega)) (fun q1 => hSI.2.2.2.1 (by rw [← bit_or (k := 5) (by omega)]; exact q1)) (fun i hi => (upd_ne _ _ (by omega)).trans (upd_ne _ _ (by omega))) (rTu_gap (rTu_waivers hSI.2.1 (nI d0)) (nI d1)) (bTu_gap (bTu_waivers hSI.2.2.1 ⟨d0, by omega, rfl⟩) ⟨d1, by omega, rfl⟩)
end
