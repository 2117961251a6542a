/-! append. -/
theorem by_low (s : Int32) : s.toInt8.toInt32 &&& 255 = s &&& 255 := by
  apply Int32.toBitVec_inj.mp
  apply BitVec.eq_of_getLsbD_eq
  intro i hi
  have h255 : ∀ i, i < 32 → (Int32.toBitVec 255).getLsbD i = decide (i < 8) := by decide +kernel
  rw [Int32.toBitVec_and, Int32.toBitVec_and, BitVec.getLsbD_and, BitVec.getLsbD_and, h255 i hi]
  by_cases q : i < 8
  · have e : (s.toInt8.toInt32.toBitVec).getLsbD i = s.toBitVec.getLsbD i := by
      rw [Int8.toBitVec_toInt32, Int32.toBitVec_toInt8, BitVec.getLsbD_signExtend, BitVec.getLsbD_signExtend]
      simp [q, hi]
    rw [e]
  · simp [q]
theorem nar_byte (s : Int32) : vp_nar .byte s.toInt8.toInt32 = s.toInt8.toInt32 := by
  show s.toInt8.toInt32.toInt8.toInt32 = s.toInt8.toInt32
  exact fb_byte_twice s
def cby (w : Int32) (k : Nat) : Int32 := (w >>> ((nI (24 - 8 * (k % 4))) &&& 31)).toInt8.toInt32
def rby (w : Int32) (k : Nat) : Int32 := (w >>> ((nI (24 - 8 * (k % 4))) &&& 31)) &&& 255
theorem by_cby (w : Int32) (k : Nat) : by8 (cby w k) := fb_byte_twice _
theorem by_rby (w : Int32) (k : Nat) : rby w k = cby w k &&& 255 := (by_low _).symm
theorem q_addWord (x : S_X5) (w : Int32) (g : Nat) (hg : g + 4 ≤ 800) (hx : x.2.1 = nI g) (post : S_X5 → Prop) (h : post ((upd (upd (upd (upd x.1 g (cby w 0)) (g + 1) (cby w 1)) (g + 2) (cby w 2)) (g + 3) (cby w 3)), (nI (g + 4)), x.2.2.1, x.2.2.2.1, x.2.2.2.2.1, x.2.2.2.2.2.1, x.2.2.2.2.2.2.1, x.2.2.2.2.2.2.2.1, x.2.2.2.2.2.2.2.2)) : wp_X5_addWord x w post := by
  unfold wp_X5_addWord
  have c0 : vp_nar .byte ((w >>> ((24 : Int32) &&& 31)).toInt8.toInt32) = cby w 0 := nar_byte _
  have c1 : vp_nar .byte ((w >>> ((16 : Int32) &&& 31)).toInt8.toInt32) = cby w 1 := nar_byte _
  have c2 : vp_nar .byte ((w >>> ((8 : Int32) &&& 31)).toInt8.toInt32) = cby w 2 := nar_byte _
  have c3 : vp_nar .byte ((w >>> ((0 : Int32) &&& 31)).toInt8.toInt32) = cby w 3 := nar_byte _
  refine zl_step (s' := (w, (16 : Int32), ((upd x.1 g (cby w 0)), (nI (g + 1)), x.2.2.1, x.2.2.2.1, x.2.2.2.2.1, x.2.2.2.2.2.1, x.2.2.2.2.2.2.1, x.2.2.2.2.2.2.2.1, x.2.2.2.2.2.2.2.2))) (fun K hK => ⟨fun q => absurd q (show ¬ (24 : Int32) < 0 by decide), fun _ x2 e2 => ?_⟩) ?_
  · dsimp only at e2 ⊢
    subst e2
    rw [hx, c0, cl_nI (by omega), ix_1]
    refine ⟨in_of (by omega) (by omega), fun x4 e4 x5 e5 => ?_⟩
    subst e4 e5
    exact hK
  refine zl_step (s' := (w, (8 : Int32), ((upd (upd x.1 g (cby w 0)) (g + 1) (cby w 1)), (nI (g + 2)), x.2.2.1, x.2.2.2.1, x.2.2.2.2.1, x.2.2.2.2.2.1, x.2.2.2.2.2.2.1, x.2.2.2.2.2.2.2.1, x.2.2.2.2.2.2.2.2))) (fun K hK => ⟨fun q => absurd q (show ¬ (16 : Int32) < 0 by decide), fun _ x2 e2 => ?_⟩) ?_
  · dsimp only at e2 ⊢
    subst e2
    rw [c1, cl_nI (by omega), ix_1]
    refine ⟨in_of (by omega) (by omega), fun x4 e4 x5 e5 => ?_⟩
    subst e4 e5
    exact hK
  refine zl_step (s' := (w, (0 : Int32), ((upd (upd (upd x.1 g (cby w 0)) (g + 1) (cby w 1)) (g + 2) (cby w 2)), (nI (g + 3)), x.2.2.1, x.2.2.2.1, x.2.2.2.2.1, x.2.2.2.2.2.1, x.2.2.2.2.2.2.1, x.2.2.2.2.2.2.2.1, x.2.2.2.2.2.2.2.2))) (fun K hK => ⟨fun q => absurd q (show ¬ (8 : Int32) < 0 by decide), fun _ x2 e2 => ?_⟩) ?_
  · dsimp only at e2 ⊢
    subst e2
    rw [c2, cl_nI (by omega), ix_1]
    refine ⟨in_of (by omega) (by omega), fun x4 e4 x5 e5 => ?_⟩
    subst e4 e5
    exact hK
  refine zl_step (s' := (w, (-8 : Int32), ((upd (upd (upd (upd x.1 g (cby w 0)) (g + 1) (cby w 1)) (g + 2) (cby w 2)) (g + 3) (cby w 3)), (nI (g + 4)), x.2.2.1, x.2.2.2.1, x.2.2.2.2.1, x.2.2.2.2.2.1, x.2.2.2.2.2.2.1, x.2.2.2.2.2.2.2.1, x.2.2.2.2.2.2.2.2))) (fun K hK => ⟨fun q => absurd q (show ¬ (0 : Int32) < 0 by decide), fun _ x2 e2 => ?_⟩) ?_
  · dsimp only at e2 ⊢
    subst e2
    rw [c3, cl_nI (by omega), ix_1]
    refine ⟨in_of (by omega) (by omega), fun x4 e4 x5 e5 => ?_⟩
    subst e4 e5
    exact hK
  exact zl_exit (fun K => ⟨fun _ => h, fun q => absurd (show (-8 : Int32) < 0 by decide) q⟩)
def wse (w0 w1 w2 w3 w4 : Int32) (k : Nat) : Int32 := if k < 4 then w0 else if k < 8 then w1 else if k < 12 then w2 else if k < 16 then w3 else w4
def gap20 (w0 w1 w2 w3 w4 : Int32) (g : Nat) (k : Nat) (v : Nat → Int32) : Nat → Int32 := upd v (g + k) (rby (wse w0 w1 w2 w3 w4 k) k)
def gac20 (w0 w1 w2 w3 w4 : Int32) (g : Nat) (k : Nat) (v : Nat → Int32) : Nat → Int32 := upd v (g + k) (cby (wse w0 w1 w2 w3 w4 k) k)
theorem q_app76 (w0 w1 w2 w3 w4 : Int32) (u : S_X10) (g k : Nat) (hk : k < 20) (hg : g + 20 ≤ 800) (K : Int32 × Int32 × Int32 × Int32 × Int32 × Int32 × S_X10 → Prop) (post : Int32 → S_X10 → Prop) (v : Nat → Int32) (y : Int32) (hy : y = wse w0 w1 w2 w3 w4 k) (hK : K (w0, w1, w2, w3, w4, nI (k + 1), (u.1, (gap20 w0 w1 w2 w3 w4 g k v), (nI (g + (k + 1))), u.2.2.2.1, u.2.2.2.2.1, u.2.2.2.2.2.1, u.2.2.2.2.2.2.1, u.2.2.2.2.2.2.2.1, u.2.2.2.2.2.2.2.2.1, u.2.2.2.2.2.2.2.2.2.1, u.2.2.2.2.2.2.2.2.2.2.1, u.2.2.2.2.2.2.2.2.2.2.2.1, u.2.2.2.2.2.2.2.2.2.2.2.2.1, u.2.2.2.2.2.2.2.2.2.2.2.2.2.1, u.2.2.2.2.2.2.2.2.2.2.2.2.2.2.1, u.2.2.2.2.2.2.2.2.2.2.2.2.2.2.2.1, u.2.2.2.2.2.2.2.2.2.2.2.2.2.2.2.2.1, u.2.2.2.2.2.2.2.2.2.2.2.2.2.2.2.2.2.1, u.2.2.2.2.2.2.2.2.2.2.2.2.2.2.2.2.2.2.1, u.2.2.2.2.2.2.2.2.2.2.2.2.2.2.2.2.2.2.2.1, u.2.2.2.2.2.2.2.2.2.2.2.2.2.2.2.2.2.2.2.2.1, u.2.2.2.2.2.2.2.2.2.2.2.2.2.2.2.2.2.2.2.2.2))) : j_X10_append_76 K w0 w1 w2 w3 w4 (nI k) y (u.1, v, (nI (g + k)), u.2.2.2.1, u.2.2.2.2.1, u.2.2.2.2.2.1, u.2.2.2.2.2.2.1, u.2.2.2.2.2.2.2.1, u.2.2.2.2.2.2.2.2.1, u.2.2.2.2.2.2.2.2.2.1, u.2.2.2.2.2.2.2.2.2.2.1, u.2.2.2.2.2.2.2.2.2.2.2.1, u.2.2.2.2.2.2.2.2.2.2.2.2.1, u.2.2.2.2.2.2.2.2.2.2.2.2.2.1, u.2.2.2.2.2.2.2.2.2.2.2.2.2.2.1, u.2.2.2.2.2.2.2.2.2.2.2.2.2.2.2.1, u.2.2.2.2.2.2.2.2.2.2.2.2.2.2.2.2.1, u.2.2.2.2.2.2.2.2.2.2.2.2.2.2.2.2.2.1, u.2.2.2.2.2.2.2.2.2.2.2.2.2.2.2.2.2.2.1, u.2.2.2.2.2.2.2.2.2.2.2.2.2.2.2.2.2.2.2.1, u.2.2.2.2.2.2.2.2.2.2.2.2.2.2.2.2.2.2.2.2.1, u.2.2.2.2.2.2.2.2.2.2.2.2.2.2.2.2.2.2.2.2.2) post := by
  intro x7 e7
  have e : (24 : Int32) - 8 * (nI k - nI k / 4 * 4) = nI (24 - 8 * (k % 4)) := by
    rw [show (4 : Int32) = nI 4 from rfl, pk_rem (by omega) (by omega) (by omega), show (8 : Int32) = nI 8 from rfl, pk_mul, show (24 : Int32) = nI 24 from rfl, pk_sub (by omega)]
  rw [e, hy] at e7
  subst e7
  dsimp only
  rw [ix_1, ix_1, cl_nI (by omega)]
  refine ⟨in_of (by omega) (by omega), fun x9 e9 x10 e10 => ?_⟩
  subst e9 e10
  exact hK
theorem q_append (w0 w1 w2 w3 w4 : Int32) (u : S_X10) (g : Nat) (hg : g + 20 ≤ 800) (hu : u.2.2.1 = nI g) (post : Int32 → S_X10 → Prop) (h : post (nI (g + 20)) ((0 : Int32), (fo (gap20 w0 w1 w2 w3 w4 g) 20 u.2.1), (nI (g + 20)), u.2.2.2.1, u.2.2.2.2.1, u.2.2.2.2.2.1, u.2.2.2.2.2.2.1, u.2.2.2.2.2.2.2.1, u.2.2.2.2.2.2.2.2.1, u.2.2.2.2.2.2.2.2.2.1, u.2.2.2.2.2.2.2.2.2.2.1, u.2.2.2.2.2.2.2.2.2.2.2.1, u.2.2.2.2.2.2.2.2.2.2.2.2.1, u.2.2.2.2.2.2.2.2.2.2.2.2.2.1, u.2.2.2.2.2.2.2.2.2.2.2.2.2.2.1, u.2.2.2.2.2.2.2.2.2.2.2.2.2.2.2.1, u.2.2.2.2.2.2.2.2.2.2.2.2.2.2.2.2.1, u.2.2.2.2.2.2.2.2.2.2.2.2.2.2.2.2.2.1, u.2.2.2.2.2.2.2.2.2.2.2.2.2.2.2.2.2.2.1, u.2.2.2.2.2.2.2.2.2.2.2.2.2.2.2.2.2.2.2.1, u.2.2.2.2.2.2.2.2.2.2.2.2.2.2.2.2.2.2.2.2.1, u.2.2.2.2.2.2.2.2.2.2.2.2.2.2.2.2.2.2.2.2.2)) : wp_X10_append u w0 w1 w2 w3 w4 post := by
  refine ⟨fun _ => ?_, fun q => ?_⟩
  · have hz : ∀ m k, m < 20 → k < 20 → (nI m ≤ nI k ↔ m ≤ k) := fun m k _ _ => le_nI (by omega) (by omega)
    refine zl_seq (fun k => (w0, w1, w2, w3, w4, nI k, ((0 : Int32), (fo (gap20 w0 w1 w2 w3 w4 g) k u.2.1), (nI (g + k)), u.2.2.2.1, u.2.2.2.2.1, u.2.2.2.2.2.1, u.2.2.2.2.2.2.1, u.2.2.2.2.2.2.2.1, u.2.2.2.2.2.2.2.2.1, u.2.2.2.2.2.2.2.2.2.1, u.2.2.2.2.2.2.2.2.2.2.1, u.2.2.2.2.2.2.2.2.2.2.2.1, u.2.2.2.2.2.2.2.2.2.2.2.2.1, u.2.2.2.2.2.2.2.2.2.2.2.2.2.1, u.2.2.2.2.2.2.2.2.2.2.2.2.2.2.1, u.2.2.2.2.2.2.2.2.2.2.2.2.2.2.2.1, u.2.2.2.2.2.2.2.2.2.2.2.2.2.2.2.2.1, u.2.2.2.2.2.2.2.2.2.2.2.2.2.2.2.2.2.1, u.2.2.2.2.2.2.2.2.2.2.2.2.2.2.2.2.2.2.1, u.2.2.2.2.2.2.2.2.2.2.2.2.2.2.2.2.2.2.2.1, u.2.2.2.2.2.2.2.2.2.2.2.2.2.2.2.2.2.2.2.2.1, u.2.2.2.2.2.2.2.2.2.2.2.2.2.2.2.2.2.2.2.2.2))) 20 ?_ ?_ ?_
    · rw [hu]; rfl
    · intro k hk K hK
      have hgo : ∀ y : Int32, y = wse w0 w1 w2 w3 w4 k → j_X10_append_76 K w0 w1 w2 w3 w4 (nI k) y ((0 : Int32), (fo (gap20 w0 w1 w2 w3 w4 g) k u.2.1), (nI (g + k)), u.2.2.2.1, u.2.2.2.2.1, u.2.2.2.2.2.1, u.2.2.2.2.2.2.1, u.2.2.2.2.2.2.2.1, u.2.2.2.2.2.2.2.2.1, u.2.2.2.2.2.2.2.2.2.1, u.2.2.2.2.2.2.2.2.2.2.1, u.2.2.2.2.2.2.2.2.2.2.2.1, u.2.2.2.2.2.2.2.2.2.2.2.2.1, u.2.2.2.2.2.2.2.2.2.2.2.2.2.1, u.2.2.2.2.2.2.2.2.2.2.2.2.2.2.1, u.2.2.2.2.2.2.2.2.2.2.2.2.2.2.2.1, u.2.2.2.2.2.2.2.2.2.2.2.2.2.2.2.2.1, u.2.2.2.2.2.2.2.2.2.2.2.2.2.2.2.2.2.1, u.2.2.2.2.2.2.2.2.2.2.2.2.2.2.2.2.2.2.1, u.2.2.2.2.2.2.2.2.2.2.2.2.2.2.2.2.2.2.2.1, u.2.2.2.2.2.2.2.2.2.2.2.2.2.2.2.2.2.2.2.2.1, u.2.2.2.2.2.2.2.2.2.2.2.2.2.2.2.2.2.2.2.2.2) post := fun y hy => q_app76 w0 w1 w2 w3 w4 ((0 : Int32), u.2.1, u.2.2.1, u.2.2.2.1, u.2.2.2.2.1, u.2.2.2.2.2.1, u.2.2.2.2.2.2.1, u.2.2.2.2.2.2.2.1, u.2.2.2.2.2.2.2.2.1, u.2.2.2.2.2.2.2.2.2.1, u.2.2.2.2.2.2.2.2.2.2.1, u.2.2.2.2.2.2.2.2.2.2.2.1, u.2.2.2.2.2.2.2.2.2.2.2.2.1, u.2.2.2.2.2.2.2.2.2.2.2.2.2.1, u.2.2.2.2.2.2.2.2.2.2.2.2.2.2.1, u.2.2.2.2.2.2.2.2.2.2.2.2.2.2.2.1, u.2.2.2.2.2.2.2.2.2.2.2.2.2.2.2.2.1, u.2.2.2.2.2.2.2.2.2.2.2.2.2.2.2.2.2.1, u.2.2.2.2.2.2.2.2.2.2.2.2.2.2.2.2.2.2.1, u.2.2.2.2.2.2.2.2.2.2.2.2.2.2.2.2.2.2.2.1, u.2.2.2.2.2.2.2.2.2.2.2.2.2.2.2.2.2.2.2.2.1, u.2.2.2.2.2.2.2.2.2.2.2.2.2.2.2.2.2.2.2.2.2) g k hk hg K post (fo (gap20 w0 w1 w2 w3 w4 g) k u.2.1) y hy hK
      refine ⟨fun q => ?_, fun _ => ⟨fun q4 => ⟨fun q8 => ⟨fun q12 => ⟨fun q16 => hgo _ ?_, fun q16 => hgo _ ?_⟩, fun q12 => hgo _ ?_⟩, fun q8 => hgo _ ?_⟩, fun q4 => hgo _ ?_⟩⟩
      · dsimp only at q
        rw [show (20 : Int32) = nI 20 from rfl, le_nI (by omega) (by omega)] at q; omega
      · dsimp only at q16
        rw [show (16 : Int32) = nI 16 from rfl, hz _ _ (by omega) hk] at q16
        unfold wse
        rw [if_neg (by omega), if_neg (by omega), if_neg (by omega), if_neg (by omega)]
      · dsimp only at q12 q16
        rw [show (16 : Int32) = nI 16 from rfl, hz _ _ (by omega) hk] at q16
        rw [show (12 : Int32) = nI 12 from rfl, hz _ _ (by omega) hk] at q12
        unfold wse
        rw [if_neg (by omega), if_neg (by omega), if_neg (by omega), if_pos (by omega)]
      · dsimp only at q12 q8
        rw [show (8 : Int32) = nI 8 from rfl, hz _ _ (by omega) hk] at q8
        rw [show (12 : Int32) = nI 12 from rfl, hz _ _ (by omega) hk] at q12
        unfold wse
        rw [if_neg (by omega), if_neg (by omega), if_pos (by omega)]
      · dsimp only at q4 q8
        rw [show (8 : Int32) = nI 8 from rfl, hz _ _ (by omega) hk] at q8
        rw [show (4 : Int32) = nI 4 from rfl, hz _ _ (by omega) hk] at q4
        unfold wse
        rw [if_neg (by omega), if_pos (by omega)]
      · dsimp only at q4
        rw [show (4 : Int32) = nI 4 from rfl, hz _ _ (by omega) hk] at q4
        unfold wse
        rw [if_pos (by omega)]
    · intro K
      exact ⟨fun _ => h, fun q => absurd (show (20 : Int32) ≤ nI 20 by decide) q⟩
  · rw [hu, show (20 : Int32) = nI 20 from rfl, nI_add] at q
    exact absurd (show nI (g + 20) ≤ nI 800 from (le_nI (by omega) (by omega)).mpr (by omega)) q
theorem C_0 : caseOK wl_0 := by
  intro v h x1 x2 x3 x4 x5 K hK
  obtain ⟨o, x9, c, h4, x6, inp, d3, dr, x8, st, tr, mm, mh, xh⟩ := v
  obtain ⟨hC, hE, ⟨f, hf, ef, em, hb⟩, hDr, hH⟩ := id h
  dsimp only at hC hE ef em hb hDr hH
  rcases Nat.lt_or_ge 800 (f + 20) with hlt | hge
  · have e1 : ∀ y : Int32, y = nI f → ¬ (y + (20 : Int32) ≤ (800 : Int32)) := by
      intro y hy q
      rw [hy, show (20 : Int32) = nI 20 from rfl, nI_add, show (800 : Int32) = nI 800 from rfl, le_nI (by omega) (by omega)] at q
      omega
    exact ⟨fun q => absurd q (e1 _ ef), fun _ => ⟨fun q => absurd q (e1 _ em), fun _ => ⟨rfl, hK _ h⟩⟩⟩
  · refine ⟨fun _ => ?_, fun q => ?_⟩
    · refine q_addWord _ x1 f (by omega) ef _ ?_
      refine q_addWord _ x2 (f + 4) (by omega) rfl _ ?_
      refine q_addWord _ x3 (f + 8) (by omega) rfl _ ?_
      refine q_addWord _ x4 (f + 12) (by omega) rfl _ ?_
      refine q_addWord _ x5 (f + 16) (by omega) rfl _ ?_
      refine q_append x1 x2 x3 x4 x5 mm f hge em _ ⟨rfl, hK _ ?_⟩
      refine ⟨hC, hE, ⟨f + 20, by omega, rfl, rfl, ?_⟩, hDr, hH⟩
      have key : ∀ k, k ≤ 20 → ∀ i, i < f + k → by8 (fo (gac20 x1 x2 x3 x4 x5 f) k inp.1 i) ∧ fo (gap20 x1 x2 x3 x4 x5 f) k mm.2.1 i = fo (gac20 x1 x2 x3 x4 x5 f) k inp.1 i &&& 255 := by
        intro k
        induction k with
        | zero => intro _ i hi; exact hb i hi
        | succ k ih =>
          intro hk i hi
          by_cases e : i = f + k
          · subst e
            have e1 : fo (gac20 x1 x2 x3 x4 x5 f) (k + 1) inp.1 (f + k) = cby (wse x1 x2 x3 x4 x5 k) k := upd_same _ _ _
            have e2 : fo (gap20 x1 x2 x3 x4 x5 f) (k + 1) mm.2.1 (f + k) = rby (wse x1 x2 x3 x4 x5 k) k := upd_same _ _ _
            rw [e1, e2]
            exact ⟨by_cby _ _, by_rby _ _⟩
          · have e1 : fo (gac20 x1 x2 x3 x4 x5 f) (k + 1) inp.1 i = fo (gac20 x1 x2 x3 x4 x5 f) k inp.1 i := upd_ne _ _ e
            have e2 : fo (gap20 x1 x2 x3 x4 x5 f) (k + 1) mm.2.1 i = fo (gap20 x1 x2 x3 x4 x5 f) k mm.2.1 i := upd_ne _ _ e
            rw [e1, e2]
            exact ih (by omega) i (by omega)
      exact key 20 (by omega)
    · rw [ef, show (20 : Int32) = nI 20 from rfl, nI_add] at q
      exact absurd (show nI (f + 20) ≤ nI 800 from (le_nI (by omega) (by omega)).mpr (by omega)) q
