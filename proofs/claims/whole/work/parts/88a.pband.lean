/-! The band statement. -/
theorem bnd_add {t : S_X7} {d k : Nat} (hd : d < 40) (lo hi : Nat → Int32) : bnd (t.1, t.2.1, t.2.2.1, t.2.2.2.1, t.2.2.2.2.1, t.2.2.2.2.2.1, t.2.2.2.2.2.2.1, t.2.2.2.2.2.2.2.1, t.2.2.2.2.2.2.2.2.1, t.2.2.2.2.2.2.2.2.2.1, t.2.2.2.2.2.2.2.2.2.2.1, t.2.2.2.2.2.2.2.2.2.2.2.1, t.2.2.2.2.2.2.2.2.2.2.2.2.1, (t.2.2.2.2.2.2.2.2.2.2.2.2.2.1 ||| ((1 : Int64) <<< ((nI d).toInt64 &&& 63))), lo, hi) k = (bnd t k || decide (k = d)) := by
  obtain ⟨m, hm, em⟩ := wb_of t.2.2.2.2.2.2.2.2.2.2.2.2.2.1
  have h2 : 2 ^ d < 2 ^ 64 := wb_lt2 (by omega)
  have e1 : (1 : Int64) <<< ((nI d).toInt64 &&& 63) = lN (2 ^ d) := by
    have := wb_shl 1 (k := d) (by omega)
    rw [Nat.one_mul] at this
    exact this
  show (t.2.2.2.2.2.2.2.2.2.2.2.2.2.1 ||| ((1 : Int64) <<< ((nI d).toInt64 &&& 63))).toBitVec.toNat.testBit k = (t.2.2.2.2.2.2.2.2.2.2.2.2.2.1.toBitVec.toNat.testBit k || decide (k = d))
  rw [e1, em, wb_or hm h2, wb_tn (Nat.or_lt_two_pow hm h2), wb_tn hm, fb_bit_set]
theorem rT_band {t : S_X7} {D : Nat → Int32} (h : rT t D) {d : Nat} (hd : d < 40) (x y : Int32) : rT (t.1, t.2.1, t.2.2.1, t.2.2.2.1, t.2.2.2.2.1, t.2.2.2.2.2.1, t.2.2.2.2.2.2.1, t.2.2.2.2.2.2.2.1, t.2.2.2.2.2.2.2.2.1, t.2.2.2.2.2.2.2.2.2.1, t.2.2.2.2.2.2.2.2.2.2.1, t.2.2.2.2.2.2.2.2.2.2.2.1, t.2.2.2.2.2.2.2.2.2.2.2.2.1, (t.2.2.2.2.2.2.2.2.2.2.2.2.2.1 ||| ((1 : Int64) <<< ((nI d).toInt64 &&& 63))), (upd t.2.2.2.2.2.2.2.2.2.2.2.2.2.2.1 d x), (upd t.2.2.2.2.2.2.2.2.2.2.2.2.2.2.2 d y)) (upd (upd (upd D (16 + 3 * d) 1) (17 + 3 * d) x) (18 + 3 * d) y) := by
  obtain ⟨⟨h0, h2, h3, h4, h5, h6, h7, h8, h9, h10, h11⟩, hb, hs⟩ := h
  have hD : ∀ i, ¬ (i = 16 + 3 * d ∨ i = 17 + 3 * d ∨ i = 18 + 3 * d) → upd (upd (upd D (16 + 3 * d) 1) (17 + 3 * d) x) (18 + 3 * d) y i = D i := by
    intro i hi
    rw [upd_ne _ _ (by omega), upd_ne _ _ (by omega), upd_ne _ _ (by omega)]
  refine ⟨⟨h0.trans (hD 0 (by omega)).symm, h2.trans (hD 2 (by omega)).symm, h3.trans (hD 3 (by omega)).symm, h4.trans (hD 4 (by omega)).symm, h5.trans (hD 5 (by omega)).symm, h6.trans (hD 6 (by omega)).symm, h7.trans (hD 7 (by omega)).symm, h8.trans (hD 8 (by omega)).symm, h9.trans (hD 9 (by omega)).symm, h10.trans (hD 10 (by omega)).symm, h11.trans (hD 11 (by omega)).symm⟩, fun k hk => ?_, fun k hk hl => ?_⟩
  · rw [bnd_add hd]
    by_cases e : k = d
    · subst e
      rw [decide_eq_true rfl, Bool.or_true]
      refine ⟨⟨fun _ => ?_, fun _ => rfl⟩, fun _ => ⟨?_, ?_⟩⟩
      · rw [upd_ne _ _ (by omega), upd_ne _ _ (by omega), upd_same]
      · refine (upd_same _ _ _).trans ?_
        rw [upd_ne _ _ (by omega), upd_same]
      · exact (upd_same _ _ _).trans (upd_same _ _ _).symm
    · rw [decide_eq_false e, Bool.or_false, hD _ (by omega), hD _ (by omega), hD _ (by omega)]
      refine ⟨(hb k hk).1, fun q => ?_⟩
      obtain ⟨a1, a2⟩ := (hb k hk).2 q
      exact ⟨(upd_ne _ _ e).trans a1, (upd_ne _ _ e).trans a2⟩
  · rw [hD _ (by omega), hD _ (by omega)]
    exact hs k hk hl
theorem e_band {x6 : S_X6} {c : S_X2} {y : S_X5} {e a : Int32} (h : er y e a) {k : Nat} (hk : k < 40) {post : S_X6 × S_X5 × S_X2 → Prop} (hp : ∀ y' t', er y' e a → post (x6, y', (t', c.2.1, c.2.2))) : j_X6_readBand_45 (nI k) x6 y c post :=
  e_number h (fun y1 h1 => e_number h1 (fun y2 h2 => fun x1 e1 => ⟨in_of hk (by omega), in_of hk (by omega), hp y2 _ h2⟩))
theorem re_band {u : S_X10} (h : ¬ u.2.2.2.2.2.1 = 0) {r : Int32} {post : S_X10 → Prop} (hp : post u) : j_X10_readBand_38 r u post := re_number h (re_number h (r_bad h ⟨fun q => absurd rfl q, fun _ => hp⟩))
section
variable {T B : Nat → Int32} {n : Nat}
theorem P_band (hT : tx T B n) {q s : Nat} {da : Int32} {dm : DM} {t : S_X7} {a : S_X0} {br : S_X1} (hs : s < 128) (hw : wd T n q (zsb 16)) : SX T B n q s da dm t a br := by
  have hle : q + (zsb 16).length ≤ n := (wd_let (w_ok 0 (by omega)) hw).2.2
  have hl0 : 0 < (zsb 16).length := (wOK_f (w_ok 0 (by omega))).1
  have hsk0 := sk_le (T := T) (n := n) (p := q + (zsb 16).length) hle
  have hE : ∀ {x3 : S_X3} {post : S_X6 × S_X5 × S_X3 × S_X2 → Prop} {y : S_X5} {e ae : Int32} (_ : er y e ae) {k : Nat} (_ : k < 40) (_ : ∀ w : S_X6 × S_X5 × S_X3 × S_X2, er w.2.1 e ae → w.2.2.2.2.2 = br → post w), j_X6_readBand_45 (nI k) (nI s, da) y (t, a, br) (fun u_45 => (fun w => wp_X5_sign w.2.1 (59 : Int32) (fun x' => post (w.1, x', w.2.2.1, w.2.2.2))) (u_45.1, u_45.2.1, x3, u_45.2.2)) := by
    intro x3 post y e ae h k hk hp
    exact e_band h hk (fun y' t' h' => e_sign h' (by decide) (fun x9 h9 => hp _ h9 rfl))
  rcases P_num hT (q := sk T n (q + (zsb 16).length)) (lo := 0) (hi := 39) (by omega) (by omega) with ⟨e0, he0, c0, r0⟩ | ⟨e0, d0, dl0, dh0, f0, g0, c0, r0⟩
  · refine Or.inl ⟨e0, nI (sk T n (q + (zsb 16).length)), he0, fun x x3 post hx hp => ?_, fun u p post hr hps => ?_⟩
    · unfold wS
      refine c_stmt hT hx hs (fun _ x0 hx0 => c0 x0 _ hx0 (fun y hz => q_hasBand (t := t) (k := 0) (by omega) (fun _ => ⟨fun _ => hE hz (by omega) hp, fun q1 => absurd rfl q1⟩) (fun _ => ⟨fun q1 => absurd q1 (by decide), fun _ => q_failE hz (fun y2 hz2 => hE hz2 (by omega) hp)⟩))) (fun w => absurd w (wd_ex (i := 0) (j := 1) (by omega) (by omega) (by omega) hw)) (fun w => absurd w (wd_ex (i := 0) (j := 2) (by omega) (by omega) (by omega) hw)) (fun w => absurd w (wd_ex (i := 0) (j := 3) (by omega) (by omega) (by omega) hw)) (fun w => absurd w (wd_ex (i := 0) (j := 4) (by omega) (by omega) (by omega) hw)) (fun w => absurd w (wd_ex (i := 0) (j := 5) (by omega) (by omega) (by omega) hw)) (fun w => absurd w (wd_ex (i := 0) (j := 6) (by omega) (by omega) (by omega) hw)) (fun w => absurd w (wd_ex (i := 0) (j := 7) (by omega) (by omega) (by omega) hw)) (fun n16 n17 n18 n19 n20 n21 n22 n23 => absurd hw n16)
    · obtain ⟨hg, hne, hse, hSI⟩ := hr
      obtain ⟨hu, h0, -, -, -⟩ := id hg
      refine r_stmt hT hg (fun _ => r0 _ _ _ ⟨hu, h0, rfl, by omega, rfl⟩ (fun r u1 hf g1 g2 => r_bad (by rw [g1]; exact he0) ⟨fun _ => re_band (by rw [g1]; exact he0) (re_expect (by rw [g1]; exact he0) (hps _ hf g1 g2)), fun q1 => absurd rfl q1⟩)) (fun w => absurd w (wd_ex (i := 0) (j := 1) (by omega) (by omega) (by omega) hw)) (fun w => absurd w (wd_ex (i := 0) (j := 2) (by omega) (by omega) (by omega) hw)) (fun w => absurd w (wd_ex (i := 0) (j := 3) (by omega) (by omega) (by omega) hw)) (fun w => absurd w (wd_ex (i := 0) (j := 4) (by omega) (by omega) (by omega) hw)) (fun w => absurd w (wd_ex (i := 0) (j := 5) (by omega) (by omega) (by omega) hw)) (fun w => absurd w (wd_ex (i := 0) (j := 6) (by omega) (by omega) (by omega) hw)) (fun w => absurd w (wd_ex (i := 0) (j := 7) (by omega) (by omega) (by omega) hw)) (fun n16 n17 n18 n19 n20 n21 n22 n23 => absurd hw n16)

  · have hd40 : d0 < 40 := by omega
    have hsk1 := sk_le (T := T) (n := n) (p := e0) g0
    cases hbd : bnd t d0 with
    | true =>
      refine Or.inl ⟨-3, nI (sk T n (q + (zsb 16).length)), by decide, fun x x3 post hx hp => ?_, fun u p post hr hps => ?_⟩
      · unfold wS
        refine c_stmt hT hx hs (fun _ x0 hx0 => c0 x0 _ hx0 (fun x1 hx1 => q_hasBand (t := t) (k := d0) hd40 (fun q1 => absurd (hbd.symm.trans q1) (by decide)) (fun _ => ⟨fun q1 => absurd q1 (by decide), fun _ => ?_⟩))) (fun w => absurd w (wd_ex (i := 0) (j := 1) (by omega) (by omega) (by omega) hw)) (fun w => absurd w (wd_ex (i := 0) (j := 2) (by omega) (by omega) (by omega) hw)) (fun w => absurd w (wd_ex (i := 0) (j := 3) (by omega) (by omega) (by omega) hw)) (fun w => absurd w (wd_ex (i := 0) (j := 4) (by omega) (by omega) (by omega) hw)) (fun w => absurd w (wd_ex (i := 0) (j := 5) (by omega) (by omega) (by omega) hw)) (fun w => absurd w (wd_ex (i := 0) (j := 6) (by omega) (by omega) (by omega) hw)) (fun w => absurd w (wd_ex (i := 0) (j := 7) (by omega) (by omega) (by omega) hw)) (fun n16 n17 n18 n19 n20 n21 n22 n23 => absurd hw n16)
        show wp_X5_fail x1 (-3) x0.2.2.2.2.2.1 _
        rw [hx0.2.2.2.2.1]
        exact q_fail0 hx1.2.2.1 (by decide) (fun y2 hz2 => hE hz2 hd40 hp)
      · obtain ⟨hg, hne, hse, hSI⟩ := hr
        obtain ⟨hu, h0, -, -, -⟩ := id hg
        have hD := ((hSI.2.1.2.1 d0 hd40).1).mp hbd
        refine r_stmt hT hg (fun _ => r0 _ _ _ ⟨hu, h0, rfl, by omega, rfl⟩ (r_good (u := (u.1, u.2.1, u.2.2.1, u.2.2.2.1, (nI e0), u.2.2.2.2.2.1, u.2.2.2.2.2.2.1, u.2.2.2.2.2.2.2.1, u.2.2.2.2.2.2.2.2.1, u.2.2.2.2.2.2.2.2.2.1, u.2.2.2.2.2.2.2.2.2.2.1, u.2.2.2.2.2.2.2.2.2.2.2.1, u.2.2.2.2.2.2.2.2.2.2.2.2.1, u.2.2.2.2.2.2.2.2.2.2.2.2.2.1, (nI (sk T n (q + (zsb 16).length))), u.2.2.2.2.2.2.2.2.2.2.2.2.2.2.2.1, u.2.2.2.2.2.2.2.2.2.2.2.2.2.2.2.2.1, u.2.2.2.2.2.2.2.2.2.2.2.2.2.2.2.2.2.1, u.2.2.2.2.2.2.2.2.2.2.2.2.2.2.2.2.2.2.1, u.2.2.2.2.2.2.2.2.2.2.2.2.2.2.2.2.2.2.2.1, u.2.2.2.2.2.2.2.2.2.2.2.2.2.2.2.2.2.2.2.2.1, u.2.2.2.2.2.2.2.2.2.2.2.2.2.2.2.2.2.2.2.2.2)) h0 ⟨fun q1 => absurd q1 (by decide), fun _ => ?_⟩)) (fun w => absurd w (wd_ex (i := 0) (j := 1) (by omega) (by omega) (by omega) hw)) (fun w => absurd w (wd_ex (i := 0) (j := 2) (by omega) (by omega) (by omega) hw)) (fun w => absurd w (wd_ex (i := 0) (j := 3) (by omega) (by omega) (by omega) hw)) (fun w => absurd w (wd_ex (i := 0) (j := 4) (by omega) (by omega) (by omega) hw)) (fun w => absurd w (wd_ex (i := 0) (j := 5) (by omega) (by omega) (by omega) hw)) (fun w => absurd w (wd_ex (i := 0) (j := 6) (by omega) (by omega) (by omega) hw)) (fun w => absurd w (wd_ex (i := 0) (j := 7) (by omega) (by omega) (by omega) hw)) (fun n16 n17 n18 n19 n20 n21 n22 n23 => absurd hw n16)
        unfold wp_X10_band
        dsimp only
        rw [ix_ban, cl_nI (by omega)]
        refine ⟨in_of (by omega) (by omega), fun q1 => absurd hD q1, fun _ => ?_⟩
        exact r_report0 (u := (u.1, u.2.1, u.2.2.1, u.2.2.2.1, (nI e0), u.2.2.2.2.2.1, u.2.2.2.2.2.2.1, u.2.2.2.2.2.2.2.1, u.2.2.2.2.2.2.2.2.1, u.2.2.2.2.2.2.2.2.2.1, u.2.2.2.2.2.2.2.2.2.2.1, u.2.2.2.2.2.2.2.2.2.2.2.1, u.2.2.2.2.2.2.2.2.2.2.2.2.1, u.2.2.2.2.2.2.2.2.2.2.2.2.2.1, (nI (sk T n (q + (zsb 16).length))), u.2.2.2.2.2.2.2.2.2.2.2.2.2.2.2.1, u.2.2.2.2.2.2.2.2.2.2.2.2.2.2.2.2.1, u.2.2.2.2.2.2.2.2.2.2.2.2.2.2.2.2.2.1, u.2.2.2.2.2.2.2.2.2.2.2.2.2.2.2.2.2.2.1, u.2.2.2.2.2.2.2.2.2.2.2.2.2.2.2.2.2.2.2.1, u.2.2.2.2.2.2.2.2.2.2.2.2.2.2.2.2.2.2.2.2.1, u.2.2.2.2.2.2.2.2.2.2.2.2.2.2.2.2.2.2.2.2.2)) h0 (re_band ne3 (re_expect ne3 (hps _ ⟨rfl, rfl, rfl, rfl, rfl, rfl, rfl⟩ rfl rfl)))
    | false =>

      rcases P_num hT (q := sk T n e0) (lo := 0) (hi := 100) (by omega) (by omega) with ⟨e1, he1, c1, r1⟩ | ⟨e1, d1, dl1, dh1, f1, g1, c1, r1⟩
      · refine Or.inl ⟨e1, nI (sk T n e0), he1, fun x x3 post hx hp => ?_, fun u p post hr hps => ?_⟩
        · unfold wS
          refine c_stmt hT hx hs (fun _ x0 hx0 => c0 x0 _ hx0 (fun x1 hx1 => q_hasBand (t := t) (k := d0) hd40 (fun _ => ⟨fun _ => c1 x1 _ hx1 (fun y hz => e_number hz (fun y2 hz2 => fun z1 e9 => ⟨in_of hd40 (by omega), in_of hd40 (by omega), e_sign hz2 (by decide) (fun x9 h9 => hp _ h9 rfl)⟩)), fun q1 => absurd rfl q1⟩) (fun q1 => absurd (hbd.symm.trans q1) (by decide)))) (fun w => absurd w (wd_ex (i := 0) (j := 1) (by omega) (by omega) (by omega) hw)) (fun w => absurd w (wd_ex (i := 0) (j := 2) (by omega) (by omega) (by omega) hw)) (fun w => absurd w (wd_ex (i := 0) (j := 3) (by omega) (by omega) (by omega) hw)) (fun w => absurd w (wd_ex (i := 0) (j := 4) (by omega) (by omega) (by omega) hw)) (fun w => absurd w (wd_ex (i := 0) (j := 5) (by omega) (by omega) (by omega) hw)) (fun w => absurd w (wd_ex (i := 0) (j := 6) (by omega) (by omega) (by omega) hw)) (fun w => absurd w (wd_ex (i := 0) (j := 7) (by omega) (by omega) (by omega) hw)) (fun n16 n17 n18 n19 n20 n21 n22 n23 => absurd hw n16)
        · obtain ⟨hg, hne, hse, hSI⟩ := hr
          obtain ⟨hu, h0, -, -, -⟩ := id hg
          have hD : ¬ u.2.2.2.2.2.2.2.2.2.1 (16 + 3 * d0) = 1 := fun q1 => by have := ((hSI.2.1.2.1 d0 hd40).1).mpr q1; rw [hbd] at this; exact absurd this (by decide)
          refine r_stmt hT hg (fun _ => r0 _ _ _ ⟨hu, h0, rfl, by omega, rfl⟩ (r_good (u := (u.1, u.2.1, u.2.2.1, u.2.2.2.1, (nI e0), u.2.2.2.2.2.1, u.2.2.2.2.2.2.1, u.2.2.2.2.2.2.2.1, u.2.2.2.2.2.2.2.2.1, u.2.2.2.2.2.2.2.2.2.1, u.2.2.2.2.2.2.2.2.2.2.1, u.2.2.2.2.2.2.2.2.2.2.2.1, u.2.2.2.2.2.2.2.2.2.2.2.2.1, u.2.2.2.2.2.2.2.2.2.2.2.2.2.1, (nI (sk T n (q + (zsb 16).length))), u.2.2.2.2.2.2.2.2.2.2.2.2.2.2.2.1, u.2.2.2.2.2.2.2.2.2.2.2.2.2.2.2.2.1, u.2.2.2.2.2.2.2.2.2.2.2.2.2.2.2.2.2.1, u.2.2.2.2.2.2.2.2.2.2.2.2.2.2.2.2.2.2.1, u.2.2.2.2.2.2.2.2.2.2.2.2.2.2.2.2.2.2.2.1, u.2.2.2.2.2.2.2.2.2.2.2.2.2.2.2.2.2.2.2.2.1, u.2.2.2.2.2.2.2.2.2.2.2.2.2.2.2.2.2.2.2.2.2)) h0 ⟨fun q1 => absurd q1 (by decide), fun _ => ?_⟩)) (fun w => absurd w (wd_ex (i := 0) (j := 1) (by omega) (by omega) (by omega) hw)) (fun w => absurd w (wd_ex (i := 0) (j := 2) (by omega) (by omega) (by omega) hw)) (fun w => absurd w (wd_ex (i := 0) (j := 3) (by omega) (by omega) (by omega) hw)) (fun w => absurd w (wd_ex (i := 0) (j := 4) (by omega) (by omega) (by omega) hw)) (fun w => absurd w (wd_ex (i := 0) (j := 5) (by omega) (by omega) (by omega) hw)) (fun w => absurd w (wd_ex (i := 0) (j := 6) (by omega) (by omega) (by omega) hw)) (fun w => absurd w (wd_ex (i := 0) (j := 7) (by omega) (by omega) (by omega) hw)) (fun n16 n17 n18 n19 n20 n21 n22 n23 => absurd hw n16)
          unfold wp_X10_band
          dsimp only
          rw [ix_ban, cl_nI (by omega)]
          refine ⟨in_of (by omega) (by omega), fun _ => ?_, fun q1 => absurd q1 hD⟩
          exact r1 _ _ _ ⟨hu, h0, rfl, by omega, rfl⟩ (fun r u1 hf k1 k2 => re_number (by rw [k1]; exact he1) (r_bad (by rw [k1]; exact he1) ⟨fun q1 => absurd rfl q1, fun _ => re_expect (by rw [k1]; exact he1) (hps _ hf k1 k2)⟩))
      · have hsk2 := sk_le (T := T) (n := n) (p := e1) g1
        rcases P_num hT (q := sk T n e1) (lo := 0) (hi := 100) (by omega) (by omega) with ⟨e2, he2, c2, r2⟩ | ⟨e2, d2, dl2, dh2, f2, g2, c2, r2⟩
        · refine Or.inl ⟨e2, nI (sk T n e1), he2, fun x x3 post hx hp => ?_, fun u p post hr hps => ?_⟩
          · unfold wS
            refine c_stmt hT hx hs (fun _ x0 hx0 => c0 x0 _ hx0 (fun x1 hx1 => q_hasBand (t := t) (k := d0) hd40 (fun _ => ⟨fun _ => c1 x1 _ hx1 (fun x2 hx2 => c2 x2 _ hx2 (fun y hz => fun z1 e9 => ⟨in_of hd40 (by omega), in_of hd40 (by omega), e_sign hz (by decide) (fun x9 h9 => hp _ h9 rfl)⟩)), fun q1 => absurd rfl q1⟩) (fun q1 => absurd (hbd.symm.trans q1) (by decide)))) (fun w => absurd w (wd_ex (i := 0) (j := 1) (by omega) (by omega) (by omega) hw)) (fun w => absurd w (wd_ex (i := 0) (j := 2) (by omega) (by omega) (by omega) hw)) (fun w => absurd w (wd_ex (i := 0) (j := 3) (by omega) (by omega) (by omega) hw)) (fun w => absurd w (wd_ex (i := 0) (j := 4) (by omega) (by omega) (by omega) hw)) (fun w => absurd w (wd_ex (i := 0) (j := 5) (by omega) (by omega) (by omega) hw)) (fun w => absurd w (wd_ex (i := 0) (j := 6) (by omega) (by omega) (by omega) hw)) (fun w => absurd w (wd_ex (i := 0) (j := 7) (by omega) (by omega) (by omega) hw)) (fun n16 n17 n18 n19 n20 n21 n22 n23 => absurd hw n16)
          · obtain ⟨hg, hne, hse, hSI⟩ := hr
            obtain ⟨hu, h0, -, -, -⟩ := id hg
            have hD : ¬ u.2.2.2.2.2.2.2.2.2.1 (16 + 3 * d0) = 1 := fun q1 => by have := ((hSI.2.1.2.1 d0 hd40).1).mpr q1; rw [hbd] at this; exact absurd this (by decide)
            refine r_stmt hT hg (fun _ => r0 _ _ _ ⟨hu, h0, rfl, by omega, rfl⟩ (r_good (u := (u.1, u.2.1, u.2.2.1, u.2.2.2.1, (nI e0), u.2.2.2.2.2.1, u.2.2.2.2.2.2.1, u.2.2.2.2.2.2.2.1, u.2.2.2.2.2.2.2.2.1, u.2.2.2.2.2.2.2.2.2.1, u.2.2.2.2.2.2.2.2.2.2.1, u.2.2.2.2.2.2.2.2.2.2.2.1, u.2.2.2.2.2.2.2.2.2.2.2.2.1, u.2.2.2.2.2.2.2.2.2.2.2.2.2.1, (nI (sk T n (q + (zsb 16).length))), u.2.2.2.2.2.2.2.2.2.2.2.2.2.2.2.1, u.2.2.2.2.2.2.2.2.2.2.2.2.2.2.2.2.1, u.2.2.2.2.2.2.2.2.2.2.2.2.2.2.2.2.2.1, u.2.2.2.2.2.2.2.2.2.2.2.2.2.2.2.2.2.2.1, u.2.2.2.2.2.2.2.2.2.2.2.2.2.2.2.2.2.2.2.1, u.2.2.2.2.2.2.2.2.2.2.2.2.2.2.2.2.2.2.2.2.1, u.2.2.2.2.2.2.2.2.2.2.2.2.2.2.2.2.2.2.2.2.2)) h0 ⟨fun q1 => absurd q1 (by decide), fun _ => ?_⟩)) (fun w => absurd w (wd_ex (i := 0) (j := 1) (by omega) (by omega) (by omega) hw)) (fun w => absurd w (wd_ex (i := 0) (j := 2) (by omega) (by omega) (by omega) hw)) (fun w => absurd w (wd_ex (i := 0) (j := 3) (by omega) (by omega) (by omega) hw)) (fun w => absurd w (wd_ex (i := 0) (j := 4) (by omega) (by omega) (by omega) hw)) (fun w => absurd w (wd_ex (i := 0) (j := 5) (by omega) (by omega) (by omega) hw)) (fun w => absurd w (wd_ex (i := 0) (j := 6) (by omega) (by omega) (by omega) hw)) (fun w => absurd w (wd_ex (i := 0) (j := 7) (by omega) (by omega) (by omega) hw)) (fun n16 n17 n18 n19 n20 n21 n22 n23 => absurd hw n16)
            unfold wp_X10_band
            dsimp only
            rw [ix_ban, cl_nI (by omega)]
            refine ⟨in_of (by omega) (by omega), fun _ => ?_, fun q1 => absurd q1 hD⟩
            exact r1 _ _ _ ⟨hu, h0, rfl, by omega, rfl⟩ (r2 _ _ _ ⟨hu, h0, rfl, by omega, rfl⟩ (fun r u1 hf k1 k2 => r_bad (by rw [k1]; exact he2) ⟨fun q1 => absurd rfl q1, fun _ => re_expect (by rw [k1]; exact he2) (hps _ hf k1 k2)⟩))
        · have hsk3 := sk_le (T := T) (n := n) (p := e2) g2
          rcases P_semi hT (q := sk T n e2) with ⟨cs, rs1⟩ | ⟨hlt, cs, rs1⟩
          · refine Or.inl ⟨-2, nI (sk T n e2), by decide, fun x x3 post hx hp => ?_, fun u p post hr hps => ?_⟩
            · unfold wS
              refine c_stmt hT hx hs (fun _ x0 hx0 => c0 x0 _ hx0 (fun x1 hx1 => q_hasBand (t := t) (k := d0) hd40 (fun _ => ⟨fun _ => c1 x1 _ hx1 (fun x2 hx2 => c2 x2 _ hx2 (fun x4 hx4 => fun z1 e9 => ⟨in_of hd40 (by omega), in_of hd40 (by omega), cs x4 _ hx4 (fun x9 h9 => hp _ h9 rfl)⟩)), fun q1 => absurd rfl q1⟩) (fun q1 => absurd (hbd.symm.trans q1) (by decide)))) (fun w => absurd w (wd_ex (i := 0) (j := 1) (by omega) (by omega) (by omega) hw)) (fun w => absurd w (wd_ex (i := 0) (j := 2) (by omega) (by omega) (by omega) hw)) (fun w => absurd w (wd_ex (i := 0) (j := 3) (by omega) (by omega) (by omega) hw)) (fun w => absurd w (wd_ex (i := 0) (j := 4) (by omega) (by omega) (by omega) hw)) (fun w => absurd w (wd_ex (i := 0) (j := 5) (by omega) (by omega) (by omega) hw)) (fun w => absurd w (wd_ex (i := 0) (j := 6) (by omega) (by omega) (by omega) hw)) (fun w => absurd w (wd_ex (i := 0) (j := 7) (by omega) (by omega) (by omega) hw)) (fun n16 n17 n18 n19 n20 n21 n22 n23 => absurd hw n16)
            · obtain ⟨hg, hne, hse, hSI⟩ := hr
              obtain ⟨hu, h0, -, -, -⟩ := id hg
              have hD : ¬ u.2.2.2.2.2.2.2.2.2.1 (16 + 3 * d0) = 1 := fun q1 => by have := ((hSI.2.1.2.1 d0 hd40).1).mpr q1; rw [hbd] at this; exact absurd this (by decide)
              refine r_stmt hT hg (fun _ => r0 _ _ _ ⟨hu, h0, rfl, by omega, rfl⟩ (r_good (u := (u.1, u.2.1, u.2.2.1, u.2.2.2.1, (nI e0), u.2.2.2.2.2.1, u.2.2.2.2.2.2.1, u.2.2.2.2.2.2.2.1, u.2.2.2.2.2.2.2.2.1, u.2.2.2.2.2.2.2.2.2.1, u.2.2.2.2.2.2.2.2.2.2.1, u.2.2.2.2.2.2.2.2.2.2.2.1, u.2.2.2.2.2.2.2.2.2.2.2.2.1, u.2.2.2.2.2.2.2.2.2.2.2.2.2.1, (nI (sk T n (q + (zsb 16).length))), u.2.2.2.2.2.2.2.2.2.2.2.2.2.2.2.1, u.2.2.2.2.2.2.2.2.2.2.2.2.2.2.2.2.1, u.2.2.2.2.2.2.2.2.2.2.2.2.2.2.2.2.2.1, u.2.2.2.2.2.2.2.2.2.2.2.2.2.2.2.2.2.2.1, u.2.2.2.2.2.2.2.2.2.2.2.2.2.2.2.2.2.2.2.1, u.2.2.2.2.2.2.2.2.2.2.2.2.2.2.2.2.2.2.2.2.1, u.2.2.2.2.2.2.2.2.2.2.2.2.2.2.2.2.2.2.2.2.2)) h0 ⟨fun q1 => absurd q1 (by decide), fun _ => ?_⟩)) (fun w => absurd w (wd_ex (i := 0) (j := 1) (by omega) (by omega) (by omega) hw)) (fun w => absurd w (wd_ex (i := 0) (j := 2) (by omega) (by omega) (by omega) hw)) (fun w => absurd w (wd_ex (i := 0) (j := 3) (by omega) (by omega) (by omega) hw)) (fun w => absurd w (wd_ex (i := 0) (j := 4) (by omega) (by omega) (by omega) hw)) (fun w => absurd w (wd_ex (i := 0) (j := 5) (by omega) (by omega) (by omega) hw)) (fun w => absurd w (wd_ex (i := 0) (j := 6) (by omega) (by omega) (by omega) hw)) (fun w => absurd w (wd_ex (i := 0) (j := 7) (by omega) (by omega) (by omega) hw)) (fun n16 n17 n18 n19 n20 n21 n22 n23 => absurd hw n16)
              unfold wp_X10_band
              dsimp only
              rw [ix_ban, cl_nI (by omega)]
              refine ⟨in_of (by omega) (by omega), fun _ => ?_, fun q1 => absurd q1 hD⟩
              refine r1 _ _ _ ⟨hu, h0, rfl, by omega, rfl⟩ (r2 _ _ _ ⟨hu, h0, rfl, by omega, rfl⟩ (r_good (u := (u.1, u.2.1, u.2.2.1, u.2.2.2.1, (nI e2), u.2.2.2.2.2.1, u.2.2.2.2.2.2.1, u.2.2.2.2.2.2.2.1, u.2.2.2.2.2.2.2.2.1, u.2.2.2.2.2.2.2.2.2.1, u.2.2.2.2.2.2.2.2.2.2.1, u.2.2.2.2.2.2.2.2.2.2.2.1, u.2.2.2.2.2.2.2.2.2.2.2.2.1, u.2.2.2.2.2.2.2.2.2.2.2.2.2.1, (nI (sk T n e1)), u.2.2.2.2.2.2.2.2.2.2.2.2.2.2.2.1, u.2.2.2.2.2.2.2.2.2.2.2.2.2.2.2.2.1, u.2.2.2.2.2.2.2.2.2.2.2.2.2.2.2.2.2.1, u.2.2.2.2.2.2.2.2.2.2.2.2.2.2.2.2.2.2.1, u.2.2.2.2.2.2.2.2.2.2.2.2.2.2.2.2.2.2.2.1, u.2.2.2.2.2.2.2.2.2.2.2.2.2.2.2.2.2.2.2.2.1, u.2.2.2.2.2.2.2.2.2.2.2.2.2.2.2.2.2.2.2.2.2)) h0 ⟨fun _ => ?_, fun q1 => absurd q1 (by decide)⟩))
              unfold wp_X10_band
              dsimp only
              rw [ix_ban, ix_1, ix_2, cl_nI (by omega), cl_nI (by omega), cl_nI (by omega)]
              refine ⟨in_of (by omega) (by omega), in_of (by omega) (by omega), in_of (by omega) (by omega), ?_⟩
              exact rs1 _ _ _ ⟨hu, h0, rfl, by omega, rfl⟩ (fun u1 hf k1 k2 => hps _ hf k1 k2)
          · refine Or.inr ⟨sk T n e2 + 1, s, da, dm, (t.1, t.2.1, t.2.2.1, t.2.2.2.1, t.2.2.2.2.1, t.2.2.2.2.2.1, t.2.2.2.2.2.2.1, t.2.2.2.2.2.2.2.1, t.2.2.2.2.2.2.2.2.1, t.2.2.2.2.2.2.2.2.2.1, t.2.2.2.2.2.2.2.2.2.2.1, t.2.2.2.2.2.2.2.2.2.2.2.1, t.2.2.2.2.2.2.2.2.2.2.2.2.1, (t.2.2.2.2.2.2.2.2.2.2.2.2.2.1 ||| ((1 : Int64) <<< ((nI d0).toInt64 &&& 63))), (upd t.2.2.2.2.2.2.2.2.2.2.2.2.2.2.1 d0 (nI d1)), (upd t.2.2.2.2.2.2.2.2.2.2.2.2.2.2.2 d0 (nI d2))), by omega, by omega, fun N hz => hz, fun x x3 post hx hp => ?_, fun u p post hr hps => ?_⟩
            · unfold wS
              refine c_stmt hT hx hs (fun _ x0 hx0 => c0 x0 _ hx0 (fun x1 hx1 => q_hasBand (t := t) (k := d0) hd40 (fun _ => ⟨fun _ => c1 x1 _ hx1 (fun x2 hx2 => c2 x2 _ hx2 (fun x4 hx4 => fun z1 e9 => ⟨in_of hd40 (by omega), in_of hd40 (by omega), cs x4 _ hx4 (fun x9 h9 => by subst e9; dsimp only; rw [cl_nI (by omega)]; exact hp _ _ h9)⟩)), fun q1 => absurd rfl q1⟩) (fun q1 => absurd (hbd.symm.trans q1) (by decide)))) (fun w => absurd w (wd_ex (i := 0) (j := 1) (by omega) (by omega) (by omega) hw)) (fun w => absurd w (wd_ex (i := 0) (j := 2) (by omega) (by omega) (by omega) hw)) (fun w => absurd w (wd_ex (i := 0) (j := 3) (by omega) (by omega) (by omega) hw)) (fun w => absurd w (wd_ex (i := 0) (j := 4) (by omega) (by omega) (by omega) hw)) (fun w => absurd w (wd_ex (i := 0) (j := 5) (by omega) (by omega) (by omega) hw)) (fun w => absurd w (wd_ex (i := 0) (j := 6) (by omega) (by omega) (by omega) hw)) (fun w => absurd w (wd_ex (i := 0) (j := 7) (by omega) (by omega) (by omega) hw)) (fun n16 n17 n18 n19 n20 n21 n22 n23 => absurd hw n16)
            · obtain ⟨hg, hne, hse, hSI⟩ := hr
              obtain ⟨hu, h0, -, -, -⟩ := id hg
              have hD : ¬ u.2.2.2.2.2.2.2.2.2.1 (16 + 3 * d0) = 1 := fun q1 => by have := ((hSI.2.1.2.1 d0 hd40).1).mpr q1; rw [hbd] at this; exact absurd this (by decide)
              refine r_stmt hT hg (fun _ => r0 _ _ _ ⟨hu, h0, rfl, by omega, rfl⟩ (r_good (u := (u.1, u.2.1, u.2.2.1, u.2.2.2.1, (nI e0), u.2.2.2.2.2.1, u.2.2.2.2.2.2.1, u.2.2.2.2.2.2.2.1, u.2.2.2.2.2.2.2.2.1, u.2.2.2.2.2.2.2.2.2.1, u.2.2.2.2.2.2.2.2.2.2.1, u.2.2.2.2.2.2.2.2.2.2.2.1, u.2.2.2.2.2.2.2.2.2.2.2.2.1, u.2.2.2.2.2.2.2.2.2.2.2.2.2.1, (nI (sk T n (q + (zsb 16).length))), u.2.2.2.2.2.2.2.2.2.2.2.2.2.2.2.1, u.2.2.2.2.2.2.2.2.2.2.2.2.2.2.2.2.1, u.2.2.2.2.2.2.2.2.2.2.2.2.2.2.2.2.2.1, u.2.2.2.2.2.2.2.2.2.2.2.2.2.2.2.2.2.2.1, u.2.2.2.2.2.2.2.2.2.2.2.2.2.2.2.2.2.2.2.1, u.2.2.2.2.2.2.2.2.2.2.2.2.2.2.2.2.2.2.2.2.1, u.2.2.2.2.2.2.2.2.2.2.2.2.2.2.2.2.2.2.2.2.2)) h0 ⟨fun q1 => absurd q1 (by decide), fun _ => ?_⟩)) (fun w => absurd w (wd_ex (i := 0) (j := 1) (by omega) (by omega) (by omega) hw)) (fun w => absurd w (wd_ex (i := 0) (j := 2) (by omega) (by omega) (by omega) hw)) (fun w => absurd w (wd_ex (i := 0) (j := 3) (by omega) (by omega) (by omega) hw)) (fun w => absurd w (wd_ex (i := 0) (j := 4) (by omega) (by omega) (by omega) hw)) (fun w => absurd w (wd_ex (i := 0) (j := 5) (by omega) (by omega) (by omega) hw)) (fun w => absurd w (wd_ex (i := 0) (j := 6) (by omega) (by omega) (by omega) hw)) (fun w => absurd w (wd_ex (i := 0) (j := 7) (by omega) (by omega) (by omega) hw)) (fun n16 n17 n18 n19 n20 n21 n22 n23 => absurd hw n16)
              unfold wp_X10_band
              dsimp only
              rw [ix_ban, cl_nI (by omega)]
              refine ⟨in_of (by omega) (by omega), fun _ => ?_, fun q1 => absurd q1 hD⟩
              refine r1 _ _ _ ⟨hu, h0, rfl, by omega, rfl⟩ (r2 _ _ _ ⟨hu, h0, rfl, by omega, rfl⟩ (r_good (u := (u.1, u.2.1, u.2.2.1, u.2.2.2.1, (nI e2), u.2.2.2.2.2.1, u.2.2.2.2.2.2.1, u.2.2.2.2.2.2.2.1, u.2.2.2.2.2.2.2.2.1, u.2.2.2.2.2.2.2.2.2.1, u.2.2.2.2.2.2.2.2.2.2.1, u.2.2.2.2.2.2.2.2.2.2.2.1, u.2.2.2.2.2.2.2.2.2.2.2.2.1, u.2.2.2.2.2.2.2.2.2.2.2.2.2.1, (nI (sk T n e1)), u.2.2.2.2.2.2.2.2.2.2.2.2.2.2.2.1, u.2.2.2.2.2.2.2.2.2.2.2.2.2.2.2.2.1, u.2.2.2.2.2.2.2.2.2.2.2.2.2.2.2.2.2.1, u.2.2.2.2.2.2.2.2.2.2.2.2.2.2.2.2.2.2.1, u.2.2.2.2.2.2.2.2.2.2.2.2.2.2.2.2.2.2.2.1, u.2.2.2.2.2.2.2.2.2.2.2.2.2.2.2.2.2.2.2.2.1, u.2.2.2.2.2.2.2.2.2.2.2.2.2.2.2.2.2.2.2.2.2)) h0 ⟨fun _ => ?_, fun q1 => absurd q1 (by decide)⟩))
              unfold wp_X10_band
              dsimp only
              rw [ix_ban, ix_1, ix_2, cl_nI (by omega), cl_nI (by omega), cl_nI (by omega)]
              refine ⟨in_of (by omega) (by omega), in_of (by omega) (by omega), in_of (by omega) (by omega), ?_⟩
              refine rs1 _ _ _ ⟨hu, h0, rfl, by omega, rfl⟩ ?_
              have hDD : ∀ i, ¬ (i = 16 + 3 * d0 ∨ i = 17 + 3 * d0 ∨ i = 18 + 3 * d0) → upd (upd (upd u.2.2.2.2.2.2.2.2.2.1 (16 + 3 * d0) 1) (17 + 3 * d0) (nI d1)) (18 + 3 * d0) (nI d2) i = u.2.2.2.2.2.2.2.2.2.1 i := by
                intro i hi
                rw [upd_ne _ _ (by omega), upd_ne _ _ (by omega), upd_ne _ _ (by omega)]
              have i1 : 16 + 3 * d0 + 1 = 17 + 3 * d0 := by omega
              have i2 : 16 + 3 * d0 + 2 = 18 + 3 * d0 := by omega
              rw [i1, i2]
              refine hps _ ⟨rfl, rfl, rfl, rfl, rfl, rfl, rfl⟩ rfl (fun i hi => hDD i (by omega)) ⟨⟨hu, h0, rfl, by omega, rfl⟩, hne, hse, ?_⟩
              exact SI_gen hSI hs rfl (fun q1 => hSI.2.2.2.1 q1) (fun i hi => hDD i (by omega)) (rT_band hSI.2.1 hd40 (nI d1) (nI d2)) hSI.2.2.1
end
