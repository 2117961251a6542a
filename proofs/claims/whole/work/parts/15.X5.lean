abbrev r_X3_quotient : Room := { frames := 0, cells := 0, slots := 0, locals := 0 }
def wp_X3_quotient (p0 : Int64) (p1 : Int64) (post : Int64 → Unit → Prop) : Prop := (¬ ((lg_cmp p1 (0 : Int64)) = 0) → ((¬ p1 = 0) ∧ (post (p0 / p1) ()))) ∧ ((lg_cmp p1 (0 : Int64)) = 0 → (post (0 : Int64) ()))
set_option maxHeartbeats 4000000 in
set_option maxRecDepth 100000 in
theorem c_X3_quotient (l : Launch) (E : zE) (Z : zZ) (hZ0 : zSt Z) (sz : Nat) (p0 : Int64) (p1 : Int64) (post : Int64 → Unit → Prop) (hw : wp_X3_quotient p0 p1 post) : Met l yX3_quotient (zws yX3_quotient cX3_quotient 4 (some .long)) r_X3_quotient (va_Pc [.long p0, .long p1] (zPre Z E ([]) sz)) (va_Ql post (zAt E (va_A ([]) sz) (fun u => [])) (va_A ([]) sz)) 0 0 (va_A ([]) sz) := by
  refine z_ofW (Qf := fun A => va_Ql post (zAt E A (fun u => [])) A) (by decide) (Nat.le_of_ble_eq_true rfl) ?_
  intro p e s m args below meth c A ls C0 hA hK hZ hP hD hS hl
  obtain ⟨hx, hb, hml, hr, hown, hts, hlocks, hin⟩ := id C0
  have hown : s.vm.findClass RX3 = some m.cls := hown
  have hl : lv_has ls 4 [(0, .long p0), (2, .long p1)] := hl
  refine lv_lload_n hx hb dX3_quotient_0 rfl (lv_at hl 1 rfl) ?_
  refine lv_lconst (v := 0) hx hb dX3_quotient_1 rfl ?_
  refine W.lcmp hx hb dX3_quotient_2 ?_
  obtain ⟨hwt, hwf⟩ := hw
  refine lv_if_ne (tgt := 10) hx hb dX3_quotient_3 (by decide) (fun c_1 => ?_) (fun c_1 => ?_)
  · have hw := hwt c_1
    refine lv_lload_n hx hb dX3_quotient_10 rfl (lv_at hl 0 rfl) ?_
    refine lv_lload_n hx hb dX3_quotient_11 rfl (lv_at hl 1 rfl) ?_
    obtain ⟨h_2, hw⟩ := hw
    refine lv_ldiv hx hb dX3_quotient_12 h_2 ?_
    exact z_lret (k := (fun u => [])) () C0 hP hD hS hw dX3_quotient_13
  · have hw := hwf c_1
    refine lv_lconst (v := 0) hx hb dX3_quotient_6 rfl ?_
    refine lv_goto (tgt := 13) hx hb dX3_quotient_7 (by decide) ?_
    exact z_lret (k := (fun u => [])) () C0 hP hD hS hw dX3_quotient_13
abbrev r_X3_limited : Room := { frames := 1, cells := 0, slots := 0, locals := 32 }
def wp_X3_limited (p0 : Int64) (post : Int64 → Unit → Prop) : Prop := post (if (if p0 < (1000000 : Int64) then p0 else (1000000 : Int64)) < (-1000000 : Int64) then (-1000000 : Int64) else (if p0 < (1000000 : Int64) then p0 else (1000000 : Int64))) ()
set_option maxHeartbeats 4000000 in
set_option maxRecDepth 100000 in
theorem c_X3_limited (l : Launch) (E : zE) (Z : zZ) (hZ0 : zSt Z) (sz : Nat) (p0 : Int64) (post : Int64 → Unit → Prop) (hw : wp_X3_limited p0 post) : Met l yX3_limited (zws yX3_limited cX3_limited 2 (some .long)) r_X3_limited (va_Pc [.long p0] (zPre Z E ([]) sz)) (va_Ql post (zAt E (va_A ([]) sz) (fun u => [])) (va_A ([]) sz)) 0 0 (va_A ([]) sz) := by
  refine z_ofW (Qf := fun A => va_Ql post (zAt E A (fun u => [])) A) (by decide) (Nat.le_of_ble_eq_true rfl) ?_
  intro p e s m args below meth c A ls C0 hA hK hZ hP hD hS hl
  obtain ⟨hx, hb, hml, hr, hown, hts, hlocks, hin⟩ := id C0
  have hown : s.vm.findClass RX3 = some m.cls := hown
  have hl : lv_has ls 2 [(0, .long p0)] := hl
  refine lv_ldc2 hx hb hown (hts _ wm_4_57) dX3_limited_0 ?_
  refine lv_ldc2 hx hb hown (hts _ wm_4_58) dX3_limited_3 ?_
  refine lv_lload_n hx hb dX3_limited_6 rfl (lv_at hl 0 rfl) ?_
  refine va_mmin_long hx hb (hml.trans hl.1.symm) hown (hts _ wm_4_59) (hts _ wm_4_60) (hts _ wm_1_16) (hts _ wm_4_61) (Nat.le_of_ble_eq_true rfl) (Nat.le_of_ble_eq_true rfl) (Nat.le_of_ble_eq_true rfl) (Nat.le_of_ble_eq_true rfl) dX3_limited_7 ?_
  refine va_mmax_long hx hb (hml.trans hl.1.symm) hown (hts _ wm_4_62) (hts _ wm_4_63) (hts _ wm_1_16) (hts _ wm_4_64) (Nat.le_of_ble_eq_true rfl) (Nat.le_of_ble_eq_true rfl) (Nat.le_of_ble_eq_true rfl) (Nat.le_of_ble_eq_true rfl) dX3_limited_10 ?_
  exact z_lret (k := (fun u => [])) () C0 hP hD hS hw dX3_limited_13
abbrev r_X5_addWord : Room := { frames := 0, cells := 0, slots := 0, locals := 0 }
def j_X5_addWord_3 (K3 : (Int32 × Int32 × S_X5) → Prop) (x1 : Int32) (x2 : Int32) (u0 : S_X5) (post : S_X5 → Prop) : Prop := (x2 < 0 → (post u0)) ∧ (¬ (x2 < 0) → (∀ x_2 : Int32, x_2 = ((x1 >>> (x2 &&& 31)).toInt8.toInt32) → (vp_in u0.2.1 800 ∧ (∀ x_4 : Int32, x_4 = (u0.2.1 + (1 : Int32)) → (∀ x_5 : Int32, x_5 = x2 + (-8) → (K3 (x1, x_5, ((upd u0.1 u0.2.1.toNatClampNeg (vp_nar .byte x_2)), x_4, u0.2.2.1, u0.2.2.2.1, u0.2.2.2.2.1, u0.2.2.2.2.2.1, u0.2.2.2.2.2.2.1, u0.2.2.2.2.2.2.2.1, u0.2.2.2.2.2.2.2.2))))))))
def wp_X5_addWord (u0 : S_X5) (p1 : Int32) (post : S_X5 → Prop) : Prop := ∃ n, zl (fun K st => j_X5_addWord_3 K st.1 st.2.1 st.2.2 post) n (p1, (24 : Int32), u0)
set_option maxHeartbeats 4000000 in
set_option maxRecDepth 100000 in
theorem t_X5_addWord_3 {p : Program} {l : Launch} {e : Env} {s : State} {m : MethodId} {args : Array Value} {below : List Frame} {meth : Method} {c : Code} {Z : zZ} {E : zE} {A : Nat → Prop} {q0 : Nat → Nat} (hZ0 : zSt Z) (C0 : zC p s m args meth c yX5_addWord cX5_addWord 3 none) (hA : ∀ q : Nat, s.heap.size ≤ q → A q) (hK : va_K (zD E) vwCl (zT E) s) (hZ : Z A s s.heap) (post : S_X5 → Prop) : ∀ (n : Nat) (x1 : Int32) (x2 : Int32) (u0 : S_X5) (H : Heap) (locs : List Loc) (ls : Array Slot), zl (fun K st => j_X5_addWord_3 K st.1 st.2.1 st.2.2 post) n (x1, x2, u0) → va_P (zD E) vwCl (k_X5 E q0 u0) H → va_D A (k_X5 E q0 u0) → va_S A s.heap H locs → lv_has ls 3 [(0, .ref (q0 0)), (1, .int x1), (2, .int x2)] → W p l e r_X5_addWord s m args below meth c H locs 0 0 (MQ below (va_Qv post (zAt E A (fun u => k_X5 E q0 u)) A) args s 0 0 A) (F0 m 3 ls []) := by
  obtain ⟨hx, hb, hml, hr, hown, hts, hlocks, hin⟩ := id C0
  have hown : s.vm.findClass RX5 = some m.cls := hown
  intro n
  induction n with
  | zero => intro x1 x2 u0 H locs ls hw; exact hw.elim
  | succ n hk_3 =>
    intro x1 x2 u0 H locs ls hw hP hD hS hl
    have hw : j_X5_addWord_3 _ x1 x2 u0 post := hw
    refine lv_iload_n hx hb dX5_addWord_3 rfl (lv_at hl 2 rfl) ?_
    obtain ⟨hwt, hwf⟩ := hw
    refine lv_if_lt (tgt := 36) hx hb dX5_addWord_4 (by decide) (fun c_1 => ?_) (fun c_1 => ?_)
    · have hw := hwt c_1
      exact z_vret (k := (fun u => k_X5 E q0 u)) u0 C0 hP hD hS hw dX5_addWord_36
    · have hw := hwf c_1
      refine lv_aload_n hx hb dX5_addWord_7 rfl (lv_at hl 0 rfl) ?_
      refine va_get (D := zD E) (ci := 5) (v := .ref (q0 1)) (C := RX5) (T := TX5) (N := 9) hx hb hts uw_X5 hown hK hP 0 rfl rfl 0 (by decide) (hts _ wm_2_4) (fun _ h9 => h9) rfl dX5_addWord_8 ?_
      refine lv_aload_n hx hb dX5_addWord_11 rfl (lv_at hl 0 rfl) ?_
      refine va_get (D := zD E) (ci := 5) (v := .int u0.2.1) (C := RX5) (T := TX5) (N := 9) hx hb hts uw_X5 hown hK hP 0 rfl rfl 1 (by decide) (hts _ wm_2_5) (fun _ h9 => h9) rfl dX5_addWord_12 ?_
      refine lv_iload_n hx hb dX5_addWord_15 rfl (lv_at hl 1 rfl) ?_
      refine lv_iload_n hx hb dX5_addWord_16 rfl (lv_at hl 2 rfl) ?_
      refine lv_ishr hx hb dX5_addWord_17 ?_
      refine lv_i2b hx hb dX5_addWord_18 rfl ?_
      refine lv_topi (fun x_2 ex_2 => ?_)
      have hw := hw x_2 ex_2
      obtain ⟨h_3, hw⟩ := hw
      refine va_bast hx hb hK hP hD hS 1 3 rfl rfl h_3 dX5_addWord_19 (fun H locs hP hD hS => ?_)
      have hP : va_P (zD E) vwCl (k_X5 E q0 ((upd u0.1 u0.2.1.toNatClampNeg (vp_nar .byte x_2)), u0.2.1, u0.2.2.1, u0.2.2.2.1, u0.2.2.2.2.1, u0.2.2.2.2.2.1, u0.2.2.2.2.2.2.1, u0.2.2.2.2.2.2.2.1, u0.2.2.2.2.2.2.2.2)) H := hP
      have hD : va_D A (k_X5 E q0 ((upd u0.1 u0.2.1.toNatClampNeg (vp_nar .byte x_2)), u0.2.1, u0.2.2.1, u0.2.2.2.1, u0.2.2.2.2.1, u0.2.2.2.2.2.1, u0.2.2.2.2.2.2.1, u0.2.2.2.2.2.2.2.1, u0.2.2.2.2.2.2.2.2)) := hD
      refine lv_aload_n hx hb dX5_addWord_20 rfl (lv_at hl 0 rfl) ?_
      refine lv_dup hx hb dX5_addWord_21 rfl ?_
      refine va_get (D := zD E) (ci := 5) (v := .int u0.2.1) (C := RX5) (T := TX5) (N := 9) hx hb hts uw_X5 hown hK hP 0 rfl rfl 1 (by decide) (hts _ wm_2_5) (fun _ h9 => h9) rfl dX5_addWord_22 ?_
      refine lv_iconst (v := 1) hx hb dX5_addWord_25 rfl ?_
      refine lv_iadd hx hb dX5_addWord_26 ?_
      refine lv_topi (fun x_4 ex_4 => ?_)
      have hw := hw x_4 ex_4
      refine va_put (D := zD E) (ci := 5) (v := .int x_4) (ty := .int) (C := RX5) (T := TX5) (N := 9) hx hb hts uw_X5 tyX5 tyX5_ok nmX5 hown hK hP hD hS 0 rfl rfl 1 (by decide) (hts _ wm_2_5) (fun _ h9 => h9) rfl (by decide +kernel) rfl rfl (Nat.le_of_ble_eq_true rfl) dX5_addWord_27 (fun H locs hP hD hS => ?_)
      have hP : va_P (zD E) vwCl (k_X5 E q0 ((upd u0.1 u0.2.1.toNatClampNeg (vp_nar .byte x_2)), x_4, u0.2.2.1, u0.2.2.2.1, u0.2.2.2.2.1, u0.2.2.2.2.2.1, u0.2.2.2.2.2.2.1, u0.2.2.2.2.2.2.2.1, u0.2.2.2.2.2.2.2.2)) H := hP
      have hD : va_D A (k_X5 E q0 ((upd u0.1 u0.2.1.toNatClampNeg (vp_nar .byte x_2)), x_4, u0.2.2.1, u0.2.2.2.1, u0.2.2.2.2.1, u0.2.2.2.2.2.1, u0.2.2.2.2.2.2.1, u0.2.2.2.2.2.2.2.1, u0.2.2.2.2.2.2.2.2)) := hD
      obtain ⟨x_5, ex_5⟩ : ∃ y : Int32, y = x2 + (-8) := ⟨_, rfl⟩
      have hw := hw x_5 ex_5
      refine lv_iinc (v := x_5) (lv' := [(2, .int x_5), (0, .ref (q0 0)), (1, .int x1)]) hx hb dX5_addWord_30 hl (k := 2) rfl (by rw [ex_5]; rfl) (by decide) rfl (fun ls hl => ?_)
      refine lv_goto (tgt := 3) hx hb dX5_addWord_33 (by decide) ?_
      exact hk_3 x1 x_5 ((upd u0.1 u0.2.1.toNatClampNeg (vp_nar .byte x_2)), x_4, u0.2.2.1, u0.2.2.2.1, u0.2.2.2.2.1, u0.2.2.2.2.2.1, u0.2.2.2.2.2.2.1, u0.2.2.2.2.2.2.2.1, u0.2.2.2.2.2.2.2.2) _ _ _ hw hP hD hS (lv_sub hl [1, 2, 0] rfl)
set_option maxHeartbeats 4000000 in
set_option maxRecDepth 100000 in
theorem c_X5_addWord (l : Launch) (E : zE) (Z : zZ) (hZ0 : zSt Z) (q0 : Nat → Nat) (sz : Nat) (u0 : S_X5) (p1 : Int32) (post : S_X5 → Prop) (hw : wp_X5_addWord u0 p1 post) : Met l yX5_addWord (zws yX5_addWord cX5_addWord 3 none) r_X5_addWord (va_Pc [.ref (q0 0), .int p1] (zPre Z E (k_X5 E q0 u0) sz)) (va_Qv post (zAt E (va_A (k_X5 E q0 u0) sz) (fun u => k_X5 E q0 u)) (va_A (k_X5 E q0 u0) sz)) 0 0 (va_A (k_X5 E q0 u0) sz) := by
  refine z_ofW (Qf := fun A => va_Qv post (zAt E A (fun u => k_X5 E q0 u)) A) (by decide) (Nat.le_of_ble_eq_true rfl) ?_
  intro p e s m args below meth c A ls C0 hA hK hZ hP hD hS hl
  obtain ⟨hx, hb, hml, hr, hown, hts, hlocks, hin⟩ := id C0
  have hown : s.vm.findClass RX5 = some m.cls := hown
  have hl : lv_has ls 3 [(0, .ref (q0 0)), (1, .int p1)] := hl
  refine lv_bipush (v := 24) hx hb dX5_addWord_0 rfl ?_
  refine lv_istore_n (lv' := [(2, .int (24 : Int32)), (0, .ref (q0 0)), (1, .int p1)]) hx hb dX5_addWord_2 rfl hl (by decide) rfl (fun ls hl => ?_)
  obtain ⟨n9, hw⟩ := hw
  exact t_X5_addWord_3 (l := l) hZ0 C0 hA hK hZ post n9 p1 (24 : Int32) u0 _ _ _ hw hP hD hS (lv_sub hl [1, 2, 0] rfl)
abbrev r_X5_advance : Room := { frames := 1, cells := 0, slots := 0, locals := 32 }
def j_X5_advance_273 (u0 : S_X5) (post : S_X5 → Prop) : Prop := vp_in u0.2.2.2.1 800 ∧ (∀ x_23 : Int32, x_23 = ((u0.1 u0.2.2.2.1.toNatClampNeg) &&& (255 : Int32)) → (∀ x_24 : Int32, x_24 = (u0.2.2.2.1 + (1 : Int32)) → (post (u0.1, u0.2.1, u0.2.2.1, x_24, x_23, u0.2.2.2.2.2.1, u0.2.2.2.2.2.2.1, u0.2.2.2.2.2.2.2.1, u0.2.2.2.2.2.2.2.2))))
def j_X5_advance_221 (K221 : S_X5 → Prop) (u0 : S_X5) (post : S_X5 → Prop) : Prop := (u0.2.2.1 ≤ u0.2.2.2.1 → (post u0)) ∧ (¬ (u0.2.2.1 ≤ u0.2.2.2.1) → (vp_in u0.2.2.2.1 800 ∧ (((u0.1 u0.2.2.2.1.toNatClampNeg) < (97 : Int32) → (post u0)) ∧ (¬ ((u0.1 u0.2.2.2.1.toNatClampNeg) < (97 : Int32)) → (vp_in u0.2.2.2.1 800 ∧ (((122 : Int32) < (u0.1 u0.2.2.2.1.toNatClampNeg) → (post u0)) ∧ (¬ ((122 : Int32) < (u0.1 u0.2.2.2.1.toNatClampNeg)) → (∀ x_30 : Int32, x_30 = (u0.2.2.2.1 + (1 : Int32)) → (K221 (u0.1, u0.2.1, u0.2.2.1, x_30, u0.2.2.2.2.1, u0.2.2.2.2.2.1, u0.2.2.2.2.2.2.1, u0.2.2.2.2.2.2.2.1, u0.2.2.2.2.2.2.2.2))))))))))
def j_X5_advance_186 (u0 : S_X5) (post : S_X5 → Prop) : Prop := vp_in u0.2.2.2.1 800 ∧ (((u0.1 u0.2.2.2.1.toNatClampNeg) < (97 : Int32) → (j_X5_advance_273 u0 post)) ∧ (¬ ((u0.1 u0.2.2.2.1.toNatClampNeg) < (97 : Int32)) → (vp_in u0.2.2.2.1 800 ∧ (((122 : Int32) < (u0.1 u0.2.2.2.1.toNatClampNeg) → (j_X5_advance_273 u0 post)) ∧ (¬ ((122 : Int32) < (u0.1 u0.2.2.2.1.toNatClampNeg)) → (∃ n, zl (fun K st => j_X5_advance_221 K st post) n (u0.1, u0.2.1, u0.2.2.1, u0.2.2.2.1, (257 : Int32), u0.2.2.2.2.2.1, u0.2.2.2.2.2.2.1, u0.2.2.2.2.2.2.2.1, u0.2.2.2.2.2.2.2.2)))))))
def j_X5_advance_105 (K105 : S_X5 → Prop) (u0 : S_X5) (post : S_X5 → Prop) : Prop := (u0.2.2.1 ≤ u0.2.2.2.1 → (post u0)) ∧ (¬ (u0.2.2.1 ≤ u0.2.2.2.1) → (vp_in u0.2.2.2.1 800 ∧ (((u0.1 u0.2.2.2.1.toNatClampNeg) < (48 : Int32) → (post u0)) ∧ (¬ ((u0.1 u0.2.2.2.1.toNatClampNeg) < (48 : Int32)) → (vp_in u0.2.2.2.1 800 ∧ (((57 : Int32) < (u0.1 u0.2.2.2.1.toNatClampNeg) → (post u0)) ∧ (¬ ((57 : Int32) < (u0.1 u0.2.2.2.1.toNatClampNeg)) → (vp_in u0.2.2.2.1 800 ∧ (∀ x_20 : Int32, x_20 = (if ((((10 : Int32) * u0.2.2.2.2.2.2.1) + (u0.1 u0.2.2.2.1.toNatClampNeg)) - (48 : Int32)) < (100000 : Int32) then ((((10 : Int32) * u0.2.2.2.2.2.2.1) + (u0.1 u0.2.2.2.1.toNatClampNeg)) - (48 : Int32)) else (100000 : Int32)) → (∀ x_21 : Int32, x_21 = (u0.2.2.2.1 + (1 : Int32)) → (K105 (u0.1, u0.2.1, u0.2.2.1, x_21, u0.2.2.2.2.1, u0.2.2.2.2.2.1, x_20, u0.2.2.2.2.2.2.2.1, u0.2.2.2.2.2.2.2.2))))))))))))
def j_X5_advance_38 (u0 : S_X5) (post : S_X5 → Prop) : Prop := (u0.2.2.2.1 < u0.2.2.1 → (vp_in u0.2.2.2.1 800 ∧ (((u0.1 u0.2.2.2.1.toNatClampNeg) < (48 : Int32) → (j_X5_advance_186 (u0.1, u0.2.1, u0.2.2.1, u0.2.2.2.1, u0.2.2.2.2.1, u0.2.2.2.1, u0.2.2.2.2.2.2.1, u0.2.2.2.2.2.2.2.1, u0.2.2.2.2.2.2.2.2) post)) ∧ (¬ ((u0.1 u0.2.2.2.1.toNatClampNeg) < (48 : Int32)) → (vp_in u0.2.2.2.1 800 ∧ (((57 : Int32) < (u0.1 u0.2.2.2.1.toNatClampNeg) → (j_X5_advance_186 (u0.1, u0.2.1, u0.2.2.1, u0.2.2.2.1, u0.2.2.2.2.1, u0.2.2.2.1, u0.2.2.2.2.2.2.1, u0.2.2.2.2.2.2.2.1, u0.2.2.2.2.2.2.2.2) post)) ∧ (¬ ((57 : Int32) < (u0.1 u0.2.2.2.1.toNatClampNeg)) → (∃ n, zl (fun K st => j_X5_advance_105 K st post) n (u0.1, u0.2.1, u0.2.2.1, u0.2.2.2.1, (256 : Int32), u0.2.2.2.1, (0 : Int32), u0.2.2.2.2.2.2.2.1, u0.2.2.2.2.2.2.2.2))))))))) ∧ (¬ (u0.2.2.2.1 < u0.2.2.1) → (post (u0.1, u0.2.1, u0.2.2.1, u0.2.2.2.1, (-1 : Int32), u0.2.2.2.1, u0.2.2.2.2.2.2.1, u0.2.2.2.2.2.2.2.1, u0.2.2.2.2.2.2.2.2)))
def j_X5_advance_0 (K0 : S_X5 → Prop) (u0 : S_X5) (post : S_X5 → Prop) : Prop := (u0.2.2.1 ≤ u0.2.2.2.1 → (j_X5_advance_38 u0 post)) ∧ (¬ (u0.2.2.1 ≤ u0.2.2.2.1) → (vp_in u0.2.2.2.1 800 ∧ ((¬ ((u0.1 u0.2.2.2.1.toNatClampNeg) = (32 : Int32)) → (j_X5_advance_38 u0 post)) ∧ ((u0.1 u0.2.2.2.1.toNatClampNeg) = (32 : Int32) → (∀ x_4 : Int32, x_4 = (u0.2.2.2.1 + (1 : Int32)) → (K0 (u0.1, u0.2.1, u0.2.2.1, x_4, u0.2.2.2.2.1, u0.2.2.2.2.2.1, u0.2.2.2.2.2.2.1, u0.2.2.2.2.2.2.2.1, u0.2.2.2.2.2.2.2.2)))))))
def wp_X5_advance (u0 : S_X5) (post : S_X5 → Prop) : Prop := ∃ n, zl (fun K st => j_X5_advance_0 K st post) n u0
set_option maxHeartbeats 4000000 in
set_option maxRecDepth 100000 in
theorem t_X5_advance_273 {p : Program} {l : Launch} {e : Env} {s : State} {m : MethodId} {args : Array Value} {below : List Frame} {meth : Method} {c : Code} {Z : zZ} {E : zE} {A : Nat → Prop} {q0 : Nat → Nat} (hZ0 : zSt Z) (C0 : zC p s m args meth c yX5_advance cX5_advance 1 none) (hA : ∀ q : Nat, s.heap.size ≤ q → A q) (hK : va_K (zD E) vwCl (zT E) s) (hZ : Z A s s.heap) (post : S_X5 → Prop) : ∀ (u0 : S_X5) (H : Heap) (locs : List Loc) (ls : Array Slot), j_X5_advance_273 u0 post → va_P (zD E) vwCl (k_X5 E q0 u0) H → va_D A (k_X5 E q0 u0) → va_S A s.heap H locs → lv_has ls 1 [(0, .ref (q0 0))] → W p l e r_X5_advance s m args below meth c H locs 0 0 (MQ below (va_Qv post (zAt E A (fun u => k_X5 E q0 u)) A) args s 0 0 A) (F0 m 273 ls []) := by
  obtain ⟨hx, hb, hml, hr, hown, hts, hlocks, hin⟩ := id C0
  have hown : s.vm.findClass RX5 = some m.cls := hown
  intro u0 H locs ls hw hP hD hS hl
  refine lv_aload_n hx hb dX5_advance_273 rfl (lv_at hl 0 rfl) ?_
  refine lv_aload_n hx hb dX5_advance_274 rfl (lv_at hl 0 rfl) ?_
  refine va_get (D := zD E) (ci := 5) (v := .ref (q0 1)) (C := RX5) (T := TX5) (N := 9) hx hb hts uw_X5 hown hK hP 0 rfl rfl 0 (by decide) (hts _ wm_2_4) (fun _ h9 => h9) rfl dX5_advance_275 ?_
  refine lv_aload_n hx hb dX5_advance_278 rfl (lv_at hl 0 rfl) ?_
  refine va_get (D := zD E) (ci := 5) (v := .int u0.2.2.2.1) (C := RX5) (T := TX5) (N := 9) hx hb hts uw_X5 hown hK hP 0 rfl rfl 3 (by decide) (hts _ wm_2_8) (fun _ h9 => h9) rfl dX5_advance_279 ?_
  obtain ⟨h_22, hw⟩ := hw
  refine va_bald hx hb hK hP 1 3 rfl rfl h_22 dX5_advance_282 ?_
  refine lv_sipush (v := 255) hx hb dX5_advance_283 rfl ?_
  refine lv_iand hx hb dX5_advance_286 ?_
  refine lv_topi (fun x_23 ex_23 => ?_)
  have hw := hw x_23 ex_23
  refine va_put (D := zD E) (ci := 5) (v := .int x_23) (ty := .int) (C := RX5) (T := TX5) (N := 9) hx hb hts uw_X5 tyX5 tyX5_ok nmX5 hown hK hP hD hS 0 rfl rfl 4 (by decide) (hts _ wm_2_9) (fun _ h9 => h9) rfl (by decide +kernel) rfl rfl (Nat.le_of_ble_eq_true rfl) dX5_advance_287 (fun H locs hP hD hS => ?_)
  have hP : va_P (zD E) vwCl (k_X5 E q0 (u0.1, u0.2.1, u0.2.2.1, u0.2.2.2.1, x_23, u0.2.2.2.2.2.1, u0.2.2.2.2.2.2.1, u0.2.2.2.2.2.2.2.1, u0.2.2.2.2.2.2.2.2)) H := hP
  have hD : va_D A (k_X5 E q0 (u0.1, u0.2.1, u0.2.2.1, u0.2.2.2.1, x_23, u0.2.2.2.2.2.1, u0.2.2.2.2.2.2.1, u0.2.2.2.2.2.2.2.1, u0.2.2.2.2.2.2.2.2)) := hD
  refine lv_aload_n hx hb dX5_advance_290 rfl (lv_at hl 0 rfl) ?_
  refine lv_dup hx hb dX5_advance_291 rfl ?_
  refine va_get (D := zD E) (ci := 5) (v := .int u0.2.2.2.1) (C := RX5) (T := TX5) (N := 9) hx hb hts uw_X5 hown hK hP 0 rfl rfl 3 (by decide) (hts _ wm_2_8) (fun _ h9 => h9) rfl dX5_advance_292 ?_
  refine lv_iconst (v := 1) hx hb dX5_advance_295 rfl ?_
  refine lv_iadd hx hb dX5_advance_296 ?_
  refine lv_topi (fun x_24 ex_24 => ?_)
  have hw := hw x_24 ex_24
  refine va_put (D := zD E) (ci := 5) (v := .int x_24) (ty := .int) (C := RX5) (T := TX5) (N := 9) hx hb hts uw_X5 tyX5 tyX5_ok nmX5 hown hK hP hD hS 0 rfl rfl 3 (by decide) (hts _ wm_2_8) (fun _ h9 => h9) rfl (by decide +kernel) rfl rfl (Nat.le_of_ble_eq_true rfl) dX5_advance_297 (fun H locs hP hD hS => ?_)
  have hP : va_P (zD E) vwCl (k_X5 E q0 (u0.1, u0.2.1, u0.2.2.1, x_24, x_23, u0.2.2.2.2.2.1, u0.2.2.2.2.2.2.1, u0.2.2.2.2.2.2.2.1, u0.2.2.2.2.2.2.2.2)) H := hP
  have hD : va_D A (k_X5 E q0 (u0.1, u0.2.1, u0.2.2.1, x_24, x_23, u0.2.2.2.2.2.1, u0.2.2.2.2.2.2.1, u0.2.2.2.2.2.2.2.1, u0.2.2.2.2.2.2.2.2)) := hD
  exact z_vret (k := (fun u => k_X5 E q0 u)) (u0.1, u0.2.1, u0.2.2.1, x_24, x_23, u0.2.2.2.2.2.1, u0.2.2.2.2.2.2.1, u0.2.2.2.2.2.2.2.1, u0.2.2.2.2.2.2.2.2) C0 hP hD hS hw dX5_advance_300
set_option maxHeartbeats 4000000 in
set_option maxRecDepth 100000 in
theorem t_X5_advance_221 {p : Program} {l : Launch} {e : Env} {s : State} {m : MethodId} {args : Array Value} {below : List Frame} {meth : Method} {c : Code} {Z : zZ} {E : zE} {A : Nat → Prop} {q0 : Nat → Nat} (hZ0 : zSt Z) (C0 : zC p s m args meth c yX5_advance cX5_advance 1 none) (hA : ∀ q : Nat, s.heap.size ≤ q → A q) (hK : va_K (zD E) vwCl (zT E) s) (hZ : Z A s s.heap) (post : S_X5 → Prop) : ∀ (n : Nat) (u0 : S_X5) (H : Heap) (locs : List Loc) (ls : Array Slot), zl (fun K st => j_X5_advance_221 K st post) n u0 → va_P (zD E) vwCl (k_X5 E q0 u0) H → va_D A (k_X5 E q0 u0) → va_S A s.heap H locs → lv_has ls 1 [(0, .ref (q0 0))] → W p l e r_X5_advance s m args below meth c H locs 0 0 (MQ below (va_Qv post (zAt E A (fun u => k_X5 E q0 u)) A) args s 0 0 A) (F0 m 221 ls []) := by
  obtain ⟨hx, hb, hml, hr, hown, hts, hlocks, hin⟩ := id C0
  have hown : s.vm.findClass RX5 = some m.cls := hown
  intro n
  induction n with
  | zero => intro u0 H locs ls hw; exact hw.elim
  | succ n hk_221 =>
    intro u0 H locs ls hw hP hD hS hl
    have hw : j_X5_advance_221 _ u0 post := hw
    refine lv_aload_n hx hb dX5_advance_221 rfl (lv_at hl 0 rfl) ?_
    refine va_get (D := zD E) (ci := 5) (v := .int u0.2.2.2.1) (C := RX5) (T := TX5) (N := 9) hx hb hts uw_X5 hown hK hP 0 rfl rfl 3 (by decide) (hts _ wm_2_8) (fun _ h9 => h9) rfl dX5_advance_222 ?_
    refine lv_aload_n hx hb dX5_advance_225 rfl (lv_at hl 0 rfl) ?_
    refine va_get (D := zD E) (ci := 5) (v := .int u0.2.2.1) (C := RX5) (T := TX5) (N := 9) hx hb hts uw_X5 hown hK hP 0 rfl rfl 2 (by decide) (hts _ wm_2_7) (fun _ h9 => h9) rfl dX5_advance_226 ?_
    obtain ⟨hwt, hwf⟩ := hw
    refine lv_icmp_ge (tgt := 300) hx hb dX5_advance_229 (by decide) (fun c_25 => ?_) (fun c_25 => ?_)
    · have hw := hwt c_25
      exact z_vret (k := (fun u => k_X5 E q0 u)) u0 C0 hP hD hS hw dX5_advance_300
    · have hw := hwf c_25
      refine lv_aload_n hx hb dX5_advance_232 rfl (lv_at hl 0 rfl) ?_
      refine va_get (D := zD E) (ci := 5) (v := .ref (q0 1)) (C := RX5) (T := TX5) (N := 9) hx hb hts uw_X5 hown hK hP 0 rfl rfl 0 (by decide) (hts _ wm_2_4) (fun _ h9 => h9) rfl dX5_advance_233 ?_
      refine lv_aload_n hx hb dX5_advance_236 rfl (lv_at hl 0 rfl) ?_
      refine va_get (D := zD E) (ci := 5) (v := .int u0.2.2.2.1) (C := RX5) (T := TX5) (N := 9) hx hb hts uw_X5 hown hK hP 0 rfl rfl 3 (by decide) (hts _ wm_2_8) (fun _ h9 => h9) rfl dX5_advance_237 ?_
      obtain ⟨h_26, hw⟩ := hw
      refine va_bald hx hb hK hP 1 3 rfl rfl h_26 dX5_advance_240 ?_
      refine lv_bipush (v := 97) hx hb dX5_advance_241 rfl ?_
      obtain ⟨hwt, hwf⟩ := hw
      refine lv_icmp_lt (tgt := 300) hx hb dX5_advance_243 (by decide) (fun c_27 => ?_) (fun c_27 => ?_)
      · have hw := hwt c_27
        exact z_vret (k := (fun u => k_X5 E q0 u)) u0 C0 hP hD hS hw dX5_advance_300
      · have hw := hwf c_27
        refine lv_aload_n hx hb dX5_advance_246 rfl (lv_at hl 0 rfl) ?_
        refine va_get (D := zD E) (ci := 5) (v := .ref (q0 1)) (C := RX5) (T := TX5) (N := 9) hx hb hts uw_X5 hown hK hP 0 rfl rfl 0 (by decide) (hts _ wm_2_4) (fun _ h9 => h9) rfl dX5_advance_247 ?_
        refine lv_aload_n hx hb dX5_advance_250 rfl (lv_at hl 0 rfl) ?_
        refine va_get (D := zD E) (ci := 5) (v := .int u0.2.2.2.1) (C := RX5) (T := TX5) (N := 9) hx hb hts uw_X5 hown hK hP 0 rfl rfl 3 (by decide) (hts _ wm_2_8) (fun _ h9 => h9) rfl dX5_advance_251 ?_
        obtain ⟨h_28, hw⟩ := hw
        refine va_bald hx hb hK hP 1 3 rfl rfl h_28 dX5_advance_254 ?_
        refine lv_bipush (v := 122) hx hb dX5_advance_255 rfl ?_
        obtain ⟨hwt, hwf⟩ := hw
        refine lv_icmp_gt (tgt := 300) hx hb dX5_advance_257 (by decide) (fun c_29 => ?_) (fun c_29 => ?_)
        · have hw := hwt c_29
          exact z_vret (k := (fun u => k_X5 E q0 u)) u0 C0 hP hD hS hw dX5_advance_300
        · have hw := hwf c_29
          refine lv_aload_n hx hb dX5_advance_260 rfl (lv_at hl 0 rfl) ?_
          refine lv_dup hx hb dX5_advance_261 rfl ?_
          refine va_get (D := zD E) (ci := 5) (v := .int u0.2.2.2.1) (C := RX5) (T := TX5) (N := 9) hx hb hts uw_X5 hown hK hP 0 rfl rfl 3 (by decide) (hts _ wm_2_8) (fun _ h9 => h9) rfl dX5_advance_262 ?_
          refine lv_iconst (v := 1) hx hb dX5_advance_265 rfl ?_
          refine lv_iadd hx hb dX5_advance_266 ?_
          refine lv_topi (fun x_30 ex_30 => ?_)
          have hw := hw x_30 ex_30
          refine va_put (D := zD E) (ci := 5) (v := .int x_30) (ty := .int) (C := RX5) (T := TX5) (N := 9) hx hb hts uw_X5 tyX5 tyX5_ok nmX5 hown hK hP hD hS 0 rfl rfl 3 (by decide) (hts _ wm_2_8) (fun _ h9 => h9) rfl (by decide +kernel) rfl rfl (Nat.le_of_ble_eq_true rfl) dX5_advance_267 (fun H locs hP hD hS => ?_)
          have hP : va_P (zD E) vwCl (k_X5 E q0 (u0.1, u0.2.1, u0.2.2.1, x_30, u0.2.2.2.2.1, u0.2.2.2.2.2.1, u0.2.2.2.2.2.2.1, u0.2.2.2.2.2.2.2.1, u0.2.2.2.2.2.2.2.2)) H := hP
          have hD : va_D A (k_X5 E q0 (u0.1, u0.2.1, u0.2.2.1, x_30, u0.2.2.2.2.1, u0.2.2.2.2.2.1, u0.2.2.2.2.2.2.1, u0.2.2.2.2.2.2.2.1, u0.2.2.2.2.2.2.2.2)) := hD
          refine lv_goto (tgt := 221) hx hb dX5_advance_270 (by decide) ?_
          exact hk_221 (u0.1, u0.2.1, u0.2.2.1, x_30, u0.2.2.2.2.1, u0.2.2.2.2.2.1, u0.2.2.2.2.2.2.1, u0.2.2.2.2.2.2.2.1, u0.2.2.2.2.2.2.2.2) _ _ _ hw hP hD hS (lv_sub hl [0] rfl)
set_option maxHeartbeats 4000000 in
set_option maxRecDepth 100000 in
theorem t_X5_advance_186 {p : Program} {l : Launch} {e : Env} {s : State} {m : MethodId} {args : Array Value} {below : List Frame} {meth : Method} {c : Code} {Z : zZ} {E : zE} {A : Nat → Prop} {q0 : Nat → Nat} (hZ0 : zSt Z) (C0 : zC p s m args meth c yX5_advance cX5_advance 1 none) (hA : ∀ q : Nat, s.heap.size ≤ q → A q) (hK : va_K (zD E) vwCl (zT E) s) (hZ : Z A s s.heap) (post : S_X5 → Prop) : ∀ (u0 : S_X5) (H : Heap) (locs : List Loc) (ls : Array Slot), j_X5_advance_186 u0 post → va_P (zD E) vwCl (k_X5 E q0 u0) H → va_D A (k_X5 E q0 u0) → va_S A s.heap H locs → lv_has ls 1 [(0, .ref (q0 0))] → W p l e r_X5_advance s m args below meth c H locs 0 0 (MQ below (va_Qv post (zAt E A (fun u => k_X5 E q0 u)) A) args s 0 0 A) (F0 m 186 ls []) := by
  obtain ⟨hx, hb, hml, hr, hown, hts, hlocks, hin⟩ := id C0
  have hown : s.vm.findClass RX5 = some m.cls := hown
  intro u0 H locs ls hw hP hD hS hl
  refine lv_aload_n hx hb dX5_advance_186 rfl (lv_at hl 0 rfl) ?_
  refine va_get (D := zD E) (ci := 5) (v := .ref (q0 1)) (C := RX5) (T := TX5) (N := 9) hx hb hts uw_X5 hown hK hP 0 rfl rfl 0 (by decide) (hts _ wm_2_4) (fun _ h9 => h9) rfl dX5_advance_187 ?_
  refine lv_aload_n hx hb dX5_advance_190 rfl (lv_at hl 0 rfl) ?_
  refine va_get (D := zD E) (ci := 5) (v := .int u0.2.2.2.1) (C := RX5) (T := TX5) (N := 9) hx hb hts uw_X5 hown hK hP 0 rfl rfl 3 (by decide) (hts _ wm_2_8) (fun _ h9 => h9) rfl dX5_advance_191 ?_
  obtain ⟨h_10, hw⟩ := hw
  refine va_bald hx hb hK hP 1 3 rfl rfl h_10 dX5_advance_194 ?_
  refine lv_bipush (v := 97) hx hb dX5_advance_195 rfl ?_
  obtain ⟨hwt, hwf⟩ := hw
  refine lv_icmp_lt (tgt := 273) hx hb dX5_advance_197 (by decide) (fun c_11 => ?_) (fun c_11 => ?_)
  · have hw := hwt c_11
    exact t_X5_advance_273 (l := l) hZ0 C0 hA hK hZ post u0 _ _ _ hw hP hD hS (lv_sub hl [0] rfl)
  · have hw := hwf c_11
    refine lv_aload_n hx hb dX5_advance_200 rfl (lv_at hl 0 rfl) ?_
    refine va_get (D := zD E) (ci := 5) (v := .ref (q0 1)) (C := RX5) (T := TX5) (N := 9) hx hb hts uw_X5 hown hK hP 0 rfl rfl 0 (by decide) (hts _ wm_2_4) (fun _ h9 => h9) rfl dX5_advance_201 ?_
    refine lv_aload_n hx hb dX5_advance_204 rfl (lv_at hl 0 rfl) ?_
    refine va_get (D := zD E) (ci := 5) (v := .int u0.2.2.2.1) (C := RX5) (T := TX5) (N := 9) hx hb hts uw_X5 hown hK hP 0 rfl rfl 3 (by decide) (hts _ wm_2_8) (fun _ h9 => h9) rfl dX5_advance_205 ?_
    obtain ⟨h_12, hw⟩ := hw
    refine va_bald hx hb hK hP 1 3 rfl rfl h_12 dX5_advance_208 ?_
    refine lv_bipush (v := 122) hx hb dX5_advance_209 rfl ?_
    obtain ⟨hwt, hwf⟩ := hw
    refine lv_icmp_gt (tgt := 273) hx hb dX5_advance_211 (by decide) (fun c_13 => ?_) (fun c_13 => ?_)
    · have hw := hwt c_13
      exact t_X5_advance_273 (l := l) hZ0 C0 hA hK hZ post u0 _ _ _ hw hP hD hS (lv_sub hl [0] rfl)
    · have hw := hwf c_13
      refine lv_aload_n hx hb dX5_advance_214 rfl (lv_at hl 0 rfl) ?_
      refine lv_sipush (v := 257) hx hb dX5_advance_215 rfl ?_
      refine va_put (D := zD E) (ci := 5) (v := .int (257 : Int32)) (ty := .int) (C := RX5) (T := TX5) (N := 9) hx hb hts uw_X5 tyX5 tyX5_ok nmX5 hown hK hP hD hS 0 rfl rfl 4 (by decide) (hts _ wm_2_9) (fun _ h9 => h9) rfl (by decide +kernel) rfl rfl (Nat.le_of_ble_eq_true rfl) dX5_advance_218 (fun H locs hP hD hS => ?_)
      have hP : va_P (zD E) vwCl (k_X5 E q0 (u0.1, u0.2.1, u0.2.2.1, u0.2.2.2.1, (257 : Int32), u0.2.2.2.2.2.1, u0.2.2.2.2.2.2.1, u0.2.2.2.2.2.2.2.1, u0.2.2.2.2.2.2.2.2)) H := hP
      have hD : va_D A (k_X5 E q0 (u0.1, u0.2.1, u0.2.2.1, u0.2.2.2.1, (257 : Int32), u0.2.2.2.2.2.1, u0.2.2.2.2.2.2.1, u0.2.2.2.2.2.2.2.1, u0.2.2.2.2.2.2.2.2)) := hD
      obtain ⟨n9, hw⟩ := hw
      exact t_X5_advance_221 (l := l) hZ0 C0 hA hK hZ post n9 (u0.1, u0.2.1, u0.2.2.1, u0.2.2.2.1, (257 : Int32), u0.2.2.2.2.2.1, u0.2.2.2.2.2.2.1, u0.2.2.2.2.2.2.2.1, u0.2.2.2.2.2.2.2.2) _ _ _ hw hP hD hS (lv_sub hl [0] rfl)
set_option maxHeartbeats 4000000 in
set_option maxRecDepth 100000 in
theorem t_X5_advance_105 {p : Program} {l : Launch} {e : Env} {s : State} {m : MethodId} {args : Array Value} {below : List Frame} {meth : Method} {c : Code} {Z : zZ} {E : zE} {A : Nat → Prop} {q0 : Nat → Nat} (hZ0 : zSt Z) (C0 : zC p s m args meth c yX5_advance cX5_advance 1 none) (hA : ∀ q : Nat, s.heap.size ≤ q → A q) (hK : va_K (zD E) vwCl (zT E) s) (hZ : Z A s s.heap) (post : S_X5 → Prop) : ∀ (n : Nat) (u0 : S_X5) (H : Heap) (locs : List Loc) (ls : Array Slot), zl (fun K st => j_X5_advance_105 K st post) n u0 → va_P (zD E) vwCl (k_X5 E q0 u0) H → va_D A (k_X5 E q0 u0) → va_S A s.heap H locs → lv_has ls 1 [(0, .ref (q0 0))] → W p l e r_X5_advance s m args below meth c H locs 0 0 (MQ below (va_Qv post (zAt E A (fun u => k_X5 E q0 u)) A) args s 0 0 A) (F0 m 105 ls []) := by
  obtain ⟨hx, hb, hml, hr, hown, hts, hlocks, hin⟩ := id C0
  have hown : s.vm.findClass RX5 = some m.cls := hown
  intro n
  induction n with
  | zero => intro u0 H locs ls hw; exact hw.elim
  | succ n hk_105 =>
    intro u0 H locs ls hw hP hD hS hl
    have hw : j_X5_advance_105 _ u0 post := hw
    refine lv_aload_n hx hb dX5_advance_105 rfl (lv_at hl 0 rfl) ?_
    refine va_get (D := zD E) (ci := 5) (v := .int u0.2.2.2.1) (C := RX5) (T := TX5) (N := 9) hx hb hts uw_X5 hown hK hP 0 rfl rfl 3 (by decide) (hts _ wm_2_8) (fun _ h9 => h9) rfl dX5_advance_106 ?_
    refine lv_aload_n hx hb dX5_advance_109 rfl (lv_at hl 0 rfl) ?_
    refine va_get (D := zD E) (ci := 5) (v := .int u0.2.2.1) (C := RX5) (T := TX5) (N := 9) hx hb hts uw_X5 hown hK hP 0 rfl rfl 2 (by decide) (hts _ wm_2_7) (fun _ h9 => h9) rfl dX5_advance_110 ?_
    obtain ⟨hwt, hwf⟩ := hw
    refine lv_icmp_ge (tgt := 300) hx hb dX5_advance_113 (by decide) (fun c_14 => ?_) (fun c_14 => ?_)
    · have hw := hwt c_14
      exact z_vret (k := (fun u => k_X5 E q0 u)) u0 C0 hP hD hS hw dX5_advance_300
    · have hw := hwf c_14
      refine lv_aload_n hx hb dX5_advance_116 rfl (lv_at hl 0 rfl) ?_
      refine va_get (D := zD E) (ci := 5) (v := .ref (q0 1)) (C := RX5) (T := TX5) (N := 9) hx hb hts uw_X5 hown hK hP 0 rfl rfl 0 (by decide) (hts _ wm_2_4) (fun _ h9 => h9) rfl dX5_advance_117 ?_
      refine lv_aload_n hx hb dX5_advance_120 rfl (lv_at hl 0 rfl) ?_
      refine va_get (D := zD E) (ci := 5) (v := .int u0.2.2.2.1) (C := RX5) (T := TX5) (N := 9) hx hb hts uw_X5 hown hK hP 0 rfl rfl 3 (by decide) (hts _ wm_2_8) (fun _ h9 => h9) rfl dX5_advance_121 ?_
      obtain ⟨h_15, hw⟩ := hw
      refine va_bald hx hb hK hP 1 3 rfl rfl h_15 dX5_advance_124 ?_
      refine lv_bipush (v := 48) hx hb dX5_advance_125 rfl ?_
      obtain ⟨hwt, hwf⟩ := hw
      refine lv_icmp_lt (tgt := 300) hx hb dX5_advance_127 (by decide) (fun c_16 => ?_) (fun c_16 => ?_)
      · have hw := hwt c_16
        exact z_vret (k := (fun u => k_X5 E q0 u)) u0 C0 hP hD hS hw dX5_advance_300
      · have hw := hwf c_16
        refine lv_aload_n hx hb dX5_advance_130 rfl (lv_at hl 0 rfl) ?_
        refine va_get (D := zD E) (ci := 5) (v := .ref (q0 1)) (C := RX5) (T := TX5) (N := 9) hx hb hts uw_X5 hown hK hP 0 rfl rfl 0 (by decide) (hts _ wm_2_4) (fun _ h9 => h9) rfl dX5_advance_131 ?_
        refine lv_aload_n hx hb dX5_advance_134 rfl (lv_at hl 0 rfl) ?_
        refine va_get (D := zD E) (ci := 5) (v := .int u0.2.2.2.1) (C := RX5) (T := TX5) (N := 9) hx hb hts uw_X5 hown hK hP 0 rfl rfl 3 (by decide) (hts _ wm_2_8) (fun _ h9 => h9) rfl dX5_advance_135 ?_
        obtain ⟨h_17, hw⟩ := hw
        refine va_bald hx hb hK hP 1 3 rfl rfl h_17 dX5_advance_138 ?_
        refine lv_bipush (v := 57) hx hb dX5_advance_139 rfl ?_
        obtain ⟨hwt, hwf⟩ := hw
        refine lv_icmp_gt (tgt := 300) hx hb dX5_advance_141 (by decide) (fun c_18 => ?_) (fun c_18 => ?_)
        · have hw := hwt c_18
          exact z_vret (k := (fun u => k_X5 E q0 u)) u0 C0 hP hD hS hw dX5_advance_300
        · have hw := hwf c_18
          refine lv_aload_n hx hb dX5_advance_144 rfl (lv_at hl 0 rfl) ?_
          refine lv_ldc hx hb hown (hts _ wm_3_144) dX5_advance_145 ?_
          refine lv_bipush (v := 10) hx hb dX5_advance_147 rfl ?_
          refine lv_aload_n hx hb dX5_advance_149 rfl (lv_at hl 0 rfl) ?_
          refine va_get (D := zD E) (ci := 5) (v := .int u0.2.2.2.2.2.2.1) (C := RX5) (T := TX5) (N := 9) hx hb hts uw_X5 hown hK hP 0 rfl rfl 6 (by decide) (hts _ wm_2_15) (fun _ h9 => h9) rfl dX5_advance_150 ?_
          refine lv_imul hx hb dX5_advance_153 ?_
          refine lv_aload_n hx hb dX5_advance_154 rfl (lv_at hl 0 rfl) ?_
          refine va_get (D := zD E) (ci := 5) (v := .ref (q0 1)) (C := RX5) (T := TX5) (N := 9) hx hb hts uw_X5 hown hK hP 0 rfl rfl 0 (by decide) (hts _ wm_2_4) (fun _ h9 => h9) rfl dX5_advance_155 ?_
          refine lv_aload_n hx hb dX5_advance_158 rfl (lv_at hl 0 rfl) ?_
          refine va_get (D := zD E) (ci := 5) (v := .int u0.2.2.2.1) (C := RX5) (T := TX5) (N := 9) hx hb hts uw_X5 hown hK hP 0 rfl rfl 3 (by decide) (hts _ wm_2_8) (fun _ h9 => h9) rfl dX5_advance_159 ?_
          obtain ⟨h_19, hw⟩ := hw
          refine va_bald hx hb hK hP 1 3 rfl rfl h_19 dX5_advance_162 ?_
          refine lv_iadd hx hb dX5_advance_163 ?_
          refine lv_bipush (v := 48) hx hb dX5_advance_164 rfl ?_
          refine lv_isub hx hb dX5_advance_166 ?_
          refine va_mmin hx hb (hml.trans hl.1.symm) hown (hts _ wm_3_145) (hts _ wm_2_184) (hts _ wm_1_16) (hts _ wm_2_185) (Nat.le_of_ble_eq_true rfl) (Nat.le_of_ble_eq_true rfl) (Nat.le_of_ble_eq_true rfl) (Nat.le_of_ble_eq_true rfl) dX5_advance_167 ?_
          refine lv_topi (fun x_20 ex_20 => ?_)
          have hw := hw x_20 ex_20
          refine va_put (D := zD E) (ci := 5) (v := .int x_20) (ty := .int) (C := RX5) (T := TX5) (N := 9) hx hb hts uw_X5 tyX5 tyX5_ok nmX5 hown hK hP hD hS 0 rfl rfl 6 (by decide) (hts _ wm_2_15) (fun _ h9 => h9) rfl (by decide +kernel) rfl rfl (Nat.le_of_ble_eq_true rfl) dX5_advance_170 (fun H locs hP hD hS => ?_)
          have hP : va_P (zD E) vwCl (k_X5 E q0 (u0.1, u0.2.1, u0.2.2.1, u0.2.2.2.1, u0.2.2.2.2.1, u0.2.2.2.2.2.1, x_20, u0.2.2.2.2.2.2.2.1, u0.2.2.2.2.2.2.2.2)) H := hP
          have hD : va_D A (k_X5 E q0 (u0.1, u0.2.1, u0.2.2.1, u0.2.2.2.1, u0.2.2.2.2.1, u0.2.2.2.2.2.1, x_20, u0.2.2.2.2.2.2.2.1, u0.2.2.2.2.2.2.2.2)) := hD
          refine lv_aload_n hx hb dX5_advance_173 rfl (lv_at hl 0 rfl) ?_
          refine lv_dup hx hb dX5_advance_174 rfl ?_
          refine va_get (D := zD E) (ci := 5) (v := .int u0.2.2.2.1) (C := RX5) (T := TX5) (N := 9) hx hb hts uw_X5 hown hK hP 0 rfl rfl 3 (by decide) (hts _ wm_2_8) (fun _ h9 => h9) rfl dX5_advance_175 ?_
          refine lv_iconst (v := 1) hx hb dX5_advance_178 rfl ?_
          refine lv_iadd hx hb dX5_advance_179 ?_
          refine lv_topi (fun x_21 ex_21 => ?_)
          have hw := hw x_21 ex_21
          refine va_put (D := zD E) (ci := 5) (v := .int x_21) (ty := .int) (C := RX5) (T := TX5) (N := 9) hx hb hts uw_X5 tyX5 tyX5_ok nmX5 hown hK hP hD hS 0 rfl rfl 3 (by decide) (hts _ wm_2_8) (fun _ h9 => h9) rfl (by decide +kernel) rfl rfl (Nat.le_of_ble_eq_true rfl) dX5_advance_180 (fun H locs hP hD hS => ?_)
          have hP : va_P (zD E) vwCl (k_X5 E q0 (u0.1, u0.2.1, u0.2.2.1, x_21, u0.2.2.2.2.1, u0.2.2.2.2.2.1, x_20, u0.2.2.2.2.2.2.2.1, u0.2.2.2.2.2.2.2.2)) H := hP
          have hD : va_D A (k_X5 E q0 (u0.1, u0.2.1, u0.2.2.1, x_21, u0.2.2.2.2.1, u0.2.2.2.2.2.1, x_20, u0.2.2.2.2.2.2.2.1, u0.2.2.2.2.2.2.2.2)) := hD
          refine lv_goto (tgt := 105) hx hb dX5_advance_183 (by decide) ?_
          exact hk_105 (u0.1, u0.2.1, u0.2.2.1, x_21, u0.2.2.2.2.1, u0.2.2.2.2.2.1, x_20, u0.2.2.2.2.2.2.2.1, u0.2.2.2.2.2.2.2.2) _ _ _ hw hP hD hS (lv_sub hl [0] rfl)
set_option maxHeartbeats 4000000 in
set_option maxRecDepth 100000 in
theorem t_X5_advance_38 {p : Program} {l : Launch} {e : Env} {s : State} {m : MethodId} {args : Array Value} {below : List Frame} {meth : Method} {c : Code} {Z : zZ} {E : zE} {A : Nat → Prop} {q0 : Nat → Nat} (hZ0 : zSt Z) (C0 : zC p s m args meth c yX5_advance cX5_advance 1 none) (hA : ∀ q : Nat, s.heap.size ≤ q → A q) (hK : va_K (zD E) vwCl (zT E) s) (hZ : Z A s s.heap) (post : S_X5 → Prop) : ∀ (u0 : S_X5) (H : Heap) (locs : List Loc) (ls : Array Slot), j_X5_advance_38 u0 post → va_P (zD E) vwCl (k_X5 E q0 u0) H → va_D A (k_X5 E q0 u0) → va_S A s.heap H locs → lv_has ls 1 [(0, .ref (q0 0))] → W p l e r_X5_advance s m args below meth c H locs 0 0 (MQ below (va_Qv post (zAt E A (fun u => k_X5 E q0 u)) A) args s 0 0 A) (F0 m 38 ls []) := by
  obtain ⟨hx, hb, hml, hr, hown, hts, hlocks, hin⟩ := id C0
  have hown : s.vm.findClass RX5 = some m.cls := hown
  intro u0 H locs ls hw hP hD hS hl
  refine lv_aload_n hx hb dX5_advance_38 rfl (lv_at hl 0 rfl) ?_
  refine lv_aload_n hx hb dX5_advance_39 rfl (lv_at hl 0 rfl) ?_
  refine va_get (D := zD E) (ci := 5) (v := .int u0.2.2.2.1) (C := RX5) (T := TX5) (N := 9) hx hb hts uw_X5 hown hK hP 0 rfl rfl 3 (by decide) (hts _ wm_2_8) (fun _ h9 => h9) rfl dX5_advance_40 ?_
  refine va_put (D := zD E) (ci := 5) (v := .int u0.2.2.2.1) (ty := .int) (C := RX5) (T := TX5) (N := 9) hx hb hts uw_X5 tyX5 tyX5_ok nmX5 hown hK hP hD hS 0 rfl rfl 5 (by decide) (hts _ wm_2_12) (fun _ h9 => h9) rfl (by decide +kernel) rfl rfl (Nat.le_of_ble_eq_true rfl) dX5_advance_43 (fun H locs hP hD hS => ?_)
  have hP : va_P (zD E) vwCl (k_X5 E q0 (u0.1, u0.2.1, u0.2.2.1, u0.2.2.2.1, u0.2.2.2.2.1, u0.2.2.2.1, u0.2.2.2.2.2.2.1, u0.2.2.2.2.2.2.2.1, u0.2.2.2.2.2.2.2.2)) H := hP
  have hD : va_D A (k_X5 E q0 (u0.1, u0.2.1, u0.2.2.1, u0.2.2.2.1, u0.2.2.2.2.1, u0.2.2.2.1, u0.2.2.2.2.2.2.1, u0.2.2.2.2.2.2.2.1, u0.2.2.2.2.2.2.2.2)) := hD
  refine lv_aload_n hx hb dX5_advance_46 rfl (lv_at hl 0 rfl) ?_
  refine va_get (D := zD E) (ci := 5) (v := .int u0.2.2.2.1) (C := RX5) (T := TX5) (N := 9) hx hb hts uw_X5 hown hK hP 0 rfl rfl 3 (by decide) (hts _ wm_2_8) (fun _ h9 => h9) rfl dX5_advance_47 ?_
  refine lv_aload_n hx hb dX5_advance_50 rfl (lv_at hl 0 rfl) ?_
  refine va_get (D := zD E) (ci := 5) (v := .int u0.2.2.1) (C := RX5) (T := TX5) (N := 9) hx hb hts uw_X5 hown hK hP 0 rfl rfl 2 (by decide) (hts _ wm_2_7) (fun _ h9 => h9) rfl dX5_advance_51 ?_
  obtain ⟨hwt, hwf⟩ := hw
  refine lv_icmp_lt (tgt := 65) hx hb dX5_advance_54 (by decide) (fun c_5 => ?_) (fun c_5 => ?_)
  · have hw := hwt c_5
    refine lv_aload_n hx hb dX5_advance_65 rfl (lv_at hl 0 rfl) ?_
    refine va_get (D := zD E) (ci := 5) (v := .ref (q0 1)) (C := RX5) (T := TX5) (N := 9) hx hb hts uw_X5 hown hK hP 0 rfl rfl 0 (by decide) (hts _ wm_2_4) (fun _ h9 => h9) rfl dX5_advance_66 ?_
    refine lv_aload_n hx hb dX5_advance_69 rfl (lv_at hl 0 rfl) ?_
    refine va_get (D := zD E) (ci := 5) (v := .int u0.2.2.2.1) (C := RX5) (T := TX5) (N := 9) hx hb hts uw_X5 hown hK hP 0 rfl rfl 3 (by decide) (hts _ wm_2_8) (fun _ h9 => h9) rfl dX5_advance_70 ?_
    obtain ⟨h_6, hw⟩ := hw
    refine va_bald hx hb hK hP 1 3 rfl rfl h_6 dX5_advance_73 ?_
    refine lv_bipush (v := 48) hx hb dX5_advance_74 rfl ?_
    obtain ⟨hwt, hwf⟩ := hw
    refine lv_icmp_lt (tgt := 186) hx hb dX5_advance_76 (by decide) (fun c_7 => ?_) (fun c_7 => ?_)
    · have hw := hwt c_7
      exact t_X5_advance_186 (l := l) hZ0 C0 hA hK hZ post (u0.1, u0.2.1, u0.2.2.1, u0.2.2.2.1, u0.2.2.2.2.1, u0.2.2.2.1, u0.2.2.2.2.2.2.1, u0.2.2.2.2.2.2.2.1, u0.2.2.2.2.2.2.2.2) _ _ _ hw hP hD hS (lv_sub hl [0] rfl)
    · have hw := hwf c_7
      refine lv_aload_n hx hb dX5_advance_79 rfl (lv_at hl 0 rfl) ?_
      refine va_get (D := zD E) (ci := 5) (v := .ref (q0 1)) (C := RX5) (T := TX5) (N := 9) hx hb hts uw_X5 hown hK hP 0 rfl rfl 0 (by decide) (hts _ wm_2_4) (fun _ h9 => h9) rfl dX5_advance_80 ?_
      refine lv_aload_n hx hb dX5_advance_83 rfl (lv_at hl 0 rfl) ?_
      refine va_get (D := zD E) (ci := 5) (v := .int u0.2.2.2.1) (C := RX5) (T := TX5) (N := 9) hx hb hts uw_X5 hown hK hP 0 rfl rfl 3 (by decide) (hts _ wm_2_8) (fun _ h9 => h9) rfl dX5_advance_84 ?_
      obtain ⟨h_8, hw⟩ := hw
      refine va_bald hx hb hK hP 1 3 rfl rfl h_8 dX5_advance_87 ?_
      refine lv_bipush (v := 57) hx hb dX5_advance_88 rfl ?_
      obtain ⟨hwt, hwf⟩ := hw
      refine lv_icmp_gt (tgt := 186) hx hb dX5_advance_90 (by decide) (fun c_9 => ?_) (fun c_9 => ?_)
      · have hw := hwt c_9
        exact t_X5_advance_186 (l := l) hZ0 C0 hA hK hZ post (u0.1, u0.2.1, u0.2.2.1, u0.2.2.2.1, u0.2.2.2.2.1, u0.2.2.2.1, u0.2.2.2.2.2.2.1, u0.2.2.2.2.2.2.2.1, u0.2.2.2.2.2.2.2.2) _ _ _ hw hP hD hS (lv_sub hl [0] rfl)
      · have hw := hwf c_9
        refine lv_aload_n hx hb dX5_advance_93 rfl (lv_at hl 0 rfl) ?_
        refine lv_sipush (v := 256) hx hb dX5_advance_94 rfl ?_
        refine va_put (D := zD E) (ci := 5) (v := .int (256 : Int32)) (ty := .int) (C := RX5) (T := TX5) (N := 9) hx hb hts uw_X5 tyX5 tyX5_ok nmX5 hown hK hP hD hS 0 rfl rfl 4 (by decide) (hts _ wm_2_9) (fun _ h9 => h9) rfl (by decide +kernel) rfl rfl (Nat.le_of_ble_eq_true rfl) dX5_advance_97 (fun H locs hP hD hS => ?_)
        have hP : va_P (zD E) vwCl (k_X5 E q0 (u0.1, u0.2.1, u0.2.2.1, u0.2.2.2.1, (256 : Int32), u0.2.2.2.1, u0.2.2.2.2.2.2.1, u0.2.2.2.2.2.2.2.1, u0.2.2.2.2.2.2.2.2)) H := hP
        have hD : va_D A (k_X5 E q0 (u0.1, u0.2.1, u0.2.2.1, u0.2.2.2.1, (256 : Int32), u0.2.2.2.1, u0.2.2.2.2.2.2.1, u0.2.2.2.2.2.2.2.1, u0.2.2.2.2.2.2.2.2)) := hD
        refine lv_aload_n hx hb dX5_advance_100 rfl (lv_at hl 0 rfl) ?_
        refine lv_iconst (v := 0) hx hb dX5_advance_101 rfl ?_
        refine va_put (D := zD E) (ci := 5) (v := .int (0 : Int32)) (ty := .int) (C := RX5) (T := TX5) (N := 9) hx hb hts uw_X5 tyX5 tyX5_ok nmX5 hown hK hP hD hS 0 rfl rfl 6 (by decide) (hts _ wm_2_15) (fun _ h9 => h9) rfl (by decide +kernel) rfl rfl (Nat.le_of_ble_eq_true rfl) dX5_advance_102 (fun H locs hP hD hS => ?_)
        have hP : va_P (zD E) vwCl (k_X5 E q0 (u0.1, u0.2.1, u0.2.2.1, u0.2.2.2.1, (256 : Int32), u0.2.2.2.1, (0 : Int32), u0.2.2.2.2.2.2.2.1, u0.2.2.2.2.2.2.2.2)) H := hP
        have hD : va_D A (k_X5 E q0 (u0.1, u0.2.1, u0.2.2.1, u0.2.2.2.1, (256 : Int32), u0.2.2.2.1, (0 : Int32), u0.2.2.2.2.2.2.2.1, u0.2.2.2.2.2.2.2.2)) := hD
        obtain ⟨n9, hw⟩ := hw
        exact t_X5_advance_105 (l := l) hZ0 C0 hA hK hZ post n9 (u0.1, u0.2.1, u0.2.2.1, u0.2.2.2.1, (256 : Int32), u0.2.2.2.1, (0 : Int32), u0.2.2.2.2.2.2.2.1, u0.2.2.2.2.2.2.2.2) _ _ _ hw hP hD hS (lv_sub hl [0] rfl)
  · have hw := hwf c_5
    refine lv_aload_n hx hb dX5_advance_57 rfl (lv_at hl 0 rfl) ?_
    refine lv_iconst (v := (-1)) hx hb dX5_advance_58 rfl ?_
    refine va_put (D := zD E) (ci := 5) (v := .int (-1 : Int32)) (ty := .int) (C := RX5) (T := TX5) (N := 9) hx hb hts uw_X5 tyX5 tyX5_ok nmX5 hown hK hP hD hS 0 rfl rfl 4 (by decide) (hts _ wm_2_9) (fun _ h9 => h9) rfl (by decide +kernel) rfl rfl (Nat.le_of_ble_eq_true rfl) dX5_advance_59 (fun H locs hP hD hS => ?_)
    have hP : va_P (zD E) vwCl (k_X5 E q0 (u0.1, u0.2.1, u0.2.2.1, u0.2.2.2.1, (-1 : Int32), u0.2.2.2.1, u0.2.2.2.2.2.2.1, u0.2.2.2.2.2.2.2.1, u0.2.2.2.2.2.2.2.2)) H := hP
    have hD : va_D A (k_X5 E q0 (u0.1, u0.2.1, u0.2.2.1, u0.2.2.2.1, (-1 : Int32), u0.2.2.2.1, u0.2.2.2.2.2.2.1, u0.2.2.2.2.2.2.2.1, u0.2.2.2.2.2.2.2.2)) := hD
    refine lv_goto (tgt := 300) hx hb dX5_advance_62 (by decide) ?_
    exact z_vret (k := (fun u => k_X5 E q0 u)) (u0.1, u0.2.1, u0.2.2.1, u0.2.2.2.1, (-1 : Int32), u0.2.2.2.1, u0.2.2.2.2.2.2.1, u0.2.2.2.2.2.2.2.1, u0.2.2.2.2.2.2.2.2) C0 hP hD hS hw dX5_advance_300
set_option maxHeartbeats 4000000 in
set_option maxRecDepth 100000 in
theorem t_X5_advance_0 {p : Program} {l : Launch} {e : Env} {s : State} {m : MethodId} {args : Array Value} {below : List Frame} {meth : Method} {c : Code} {Z : zZ} {E : zE} {A : Nat → Prop} {q0 : Nat → Nat} (hZ0 : zSt Z) (C0 : zC p s m args meth c yX5_advance cX5_advance 1 none) (hA : ∀ q : Nat, s.heap.size ≤ q → A q) (hK : va_K (zD E) vwCl (zT E) s) (hZ : Z A s s.heap) (post : S_X5 → Prop) : ∀ (n : Nat) (u0 : S_X5) (H : Heap) (locs : List Loc) (ls : Array Slot), zl (fun K st => j_X5_advance_0 K st post) n u0 → va_P (zD E) vwCl (k_X5 E q0 u0) H → va_D A (k_X5 E q0 u0) → va_S A s.heap H locs → lv_has ls 1 [(0, .ref (q0 0))] → W p l e r_X5_advance s m args below meth c H locs 0 0 (MQ below (va_Qv post (zAt E A (fun u => k_X5 E q0 u)) A) args s 0 0 A) (F0 m 0 ls []) := by
  obtain ⟨hx, hb, hml, hr, hown, hts, hlocks, hin⟩ := id C0
  have hown : s.vm.findClass RX5 = some m.cls := hown
  intro n
  induction n with
  | zero => intro u0 H locs ls hw; exact hw.elim
  | succ n hk_0 =>
    intro u0 H locs ls hw hP hD hS hl
    have hw : j_X5_advance_0 _ u0 post := hw
    refine lv_aload_n hx hb dX5_advance_0 rfl (lv_at hl 0 rfl) ?_
    refine va_get (D := zD E) (ci := 5) (v := .int u0.2.2.2.1) (C := RX5) (T := TX5) (N := 9) hx hb hts uw_X5 hown hK hP 0 rfl rfl 3 (by decide) (hts _ wm_2_8) (fun _ h9 => h9) rfl dX5_advance_1 ?_
    refine lv_aload_n hx hb dX5_advance_4 rfl (lv_at hl 0 rfl) ?_
    refine va_get (D := zD E) (ci := 5) (v := .int u0.2.2.1) (C := RX5) (T := TX5) (N := 9) hx hb hts uw_X5 hown hK hP 0 rfl rfl 2 (by decide) (hts _ wm_2_7) (fun _ h9 => h9) rfl dX5_advance_5 ?_
    obtain ⟨hwt, hwf⟩ := hw
    refine lv_icmp_ge (tgt := 38) hx hb dX5_advance_8 (by decide) (fun c_1 => ?_) (fun c_1 => ?_)
    · have hw := hwt c_1
      exact t_X5_advance_38 (l := l) hZ0 C0 hA hK hZ post u0 _ _ _ hw hP hD hS (lv_sub hl [0] rfl)
    · have hw := hwf c_1
      refine lv_aload_n hx hb dX5_advance_11 rfl (lv_at hl 0 rfl) ?_
      refine va_get (D := zD E) (ci := 5) (v := .ref (q0 1)) (C := RX5) (T := TX5) (N := 9) hx hb hts uw_X5 hown hK hP 0 rfl rfl 0 (by decide) (hts _ wm_2_4) (fun _ h9 => h9) rfl dX5_advance_12 ?_
      refine lv_aload_n hx hb dX5_advance_15 rfl (lv_at hl 0 rfl) ?_
      refine va_get (D := zD E) (ci := 5) (v := .int u0.2.2.2.1) (C := RX5) (T := TX5) (N := 9) hx hb hts uw_X5 hown hK hP 0 rfl rfl 3 (by decide) (hts _ wm_2_8) (fun _ h9 => h9) rfl dX5_advance_16 ?_
      obtain ⟨h_2, hw⟩ := hw
      refine va_bald hx hb hK hP 1 3 rfl rfl h_2 dX5_advance_19 ?_
      refine lv_bipush (v := 32) hx hb dX5_advance_20 rfl ?_
      obtain ⟨hwt, hwf⟩ := hw
      refine lv_icmp_ne (tgt := 38) hx hb dX5_advance_22 (by decide) (fun c_3 => ?_) (fun c_3 => ?_)
      · have hw := hwt c_3
        exact t_X5_advance_38 (l := l) hZ0 C0 hA hK hZ post u0 _ _ _ hw hP hD hS (lv_sub hl [0] rfl)
      · have hw := hwf c_3
        refine lv_aload_n hx hb dX5_advance_25 rfl (lv_at hl 0 rfl) ?_
        refine lv_dup hx hb dX5_advance_26 rfl ?_
        refine va_get (D := zD E) (ci := 5) (v := .int u0.2.2.2.1) (C := RX5) (T := TX5) (N := 9) hx hb hts uw_X5 hown hK hP 0 rfl rfl 3 (by decide) (hts _ wm_2_8) (fun _ h9 => h9) rfl dX5_advance_27 ?_
        refine lv_iconst (v := 1) hx hb dX5_advance_30 rfl ?_
        refine lv_iadd hx hb dX5_advance_31 ?_
        refine lv_topi (fun x_4 ex_4 => ?_)
        have hw := hw x_4 ex_4
        refine va_put (D := zD E) (ci := 5) (v := .int x_4) (ty := .int) (C := RX5) (T := TX5) (N := 9) hx hb hts uw_X5 tyX5 tyX5_ok nmX5 hown hK hP hD hS 0 rfl rfl 3 (by decide) (hts _ wm_2_8) (fun _ h9 => h9) rfl (by decide +kernel) rfl rfl (Nat.le_of_ble_eq_true rfl) dX5_advance_32 (fun H locs hP hD hS => ?_)
        have hP : va_P (zD E) vwCl (k_X5 E q0 (u0.1, u0.2.1, u0.2.2.1, x_4, u0.2.2.2.2.1, u0.2.2.2.2.2.1, u0.2.2.2.2.2.2.1, u0.2.2.2.2.2.2.2.1, u0.2.2.2.2.2.2.2.2)) H := hP
        have hD : va_D A (k_X5 E q0 (u0.1, u0.2.1, u0.2.2.1, x_4, u0.2.2.2.2.1, u0.2.2.2.2.2.1, u0.2.2.2.2.2.2.1, u0.2.2.2.2.2.2.2.1, u0.2.2.2.2.2.2.2.2)) := hD
        refine lv_goto (tgt := 0) hx hb dX5_advance_35 (by decide) ?_
        exact hk_0 (u0.1, u0.2.1, u0.2.2.1, x_4, u0.2.2.2.2.1, u0.2.2.2.2.2.1, u0.2.2.2.2.2.2.1, u0.2.2.2.2.2.2.2.1, u0.2.2.2.2.2.2.2.2) _ _ _ hw hP hD hS (lv_sub hl [0] rfl)
set_option maxHeartbeats 4000000 in
set_option maxRecDepth 100000 in
theorem c_X5_advance (l : Launch) (E : zE) (Z : zZ) (hZ0 : zSt Z) (q0 : Nat → Nat) (sz : Nat) (u0 : S_X5) (post : S_X5 → Prop) (hw : wp_X5_advance u0 post) : Met l yX5_advance (zws yX5_advance cX5_advance 1 none) r_X5_advance (va_Pc [.ref (q0 0)] (zPre Z E (k_X5 E q0 u0) sz)) (va_Qv post (zAt E (va_A (k_X5 E q0 u0) sz) (fun u => k_X5 E q0 u)) (va_A (k_X5 E q0 u0) sz)) 0 0 (va_A (k_X5 E q0 u0) sz) := by
  refine z_ofW (Qf := fun A => va_Qv post (zAt E A (fun u => k_X5 E q0 u)) A) (by decide) (Nat.le_of_ble_eq_true rfl) ?_
  intro p e s m args below meth c A ls C0 hA hK hZ hP hD hS hl
  obtain ⟨hx, hb, hml, hr, hown, hts, hlocks, hin⟩ := id C0
  have hown : s.vm.findClass RX5 = some m.cls := hown
  have hl : lv_has ls 1 [(0, .ref (q0 0))] := hl
  obtain ⟨n9, hw⟩ := hw
  exact t_X5_advance_0 (l := l) hZ0 C0 hA hK hZ post n9 u0 _ _ _ hw hP hD hS (lv_sub hl [0] rfl)
abbrev r_X5_goTo : Room := { frames := 2, cells := 0, slots := 0, locals := 52 }
def wp_X5_goTo (u0 : S_X5) (p1 : Int32) (post : S_X5 → Prop) : Prop := wp_X5_advance (u0.1, u0.2.1, u0.2.2.1, p1, u0.2.2.2.2.1, u0.2.2.2.2.2.1, u0.2.2.2.2.2.2.1, u0.2.2.2.2.2.2.2.1, u0.2.2.2.2.2.2.2.2) (fun u_1 => post u_1)
set_option maxHeartbeats 4000000 in
set_option maxRecDepth 100000 in
theorem c_X5_goTo (l : Launch) (E : zE) (Z : zZ) (hZ0 : zSt Z) (q0 : Nat → Nat) (sz : Nat) (u0 : S_X5) (p1 : Int32) (post : S_X5 → Prop) (hw : wp_X5_goTo u0 p1 post) : Met l yX5_goTo (zws yX5_goTo cX5_goTo 2 none) r_X5_goTo (va_Pc [.ref (q0 0), .int p1] (zPre Z E (k_X5 E q0 u0) sz)) (va_Qv post (zAt E (va_A (k_X5 E q0 u0) sz) (fun u => k_X5 E q0 u)) (va_A (k_X5 E q0 u0) sz)) 0 0 (va_A (k_X5 E q0 u0) sz) := by
  refine z_ofW (Qf := fun A => va_Qv post (zAt E A (fun u => k_X5 E q0 u)) A) (by decide) (Nat.le_of_ble_eq_true rfl) ?_
  intro p e s m args below meth c A ls C0 hA hK hZ hP hD hS hl
  obtain ⟨hx, hb, hml, hr, hown, hts, hlocks, hin⟩ := id C0
  have hown : s.vm.findClass RX5 = some m.cls := hown
  have hl : lv_has ls 2 [(0, .ref (q0 0)), (1, .int p1)] := hl
  refine lv_aload_n hx hb dX5_goTo_0 rfl (lv_at hl 0 rfl) ?_
  refine lv_iload_n hx hb dX5_goTo_1 rfl (lv_at hl 1 rfl) ?_
  refine va_put (D := zD E) (ci := 5) (v := .int p1) (ty := .int) (C := RX5) (T := TX5) (N := 9) hx hb hts uw_X5 tyX5 tyX5_ok nmX5 hown hK hP hD hS 0 rfl rfl 3 (by decide) (hts _ wm_2_8) (fun _ h9 => h9) rfl (by decide +kernel) rfl rfl (Nat.le_of_ble_eq_true rfl) dX5_goTo_2 (fun H locs hP hD hS => ?_)
  have hP : va_P (zD E) vwCl (k_X5 E q0 (u0.1, u0.2.1, u0.2.2.1, p1, u0.2.2.2.2.1, u0.2.2.2.2.2.1, u0.2.2.2.2.2.2.1, u0.2.2.2.2.2.2.2.1, u0.2.2.2.2.2.2.2.2)) H := hP
  have hD : va_D A (k_X5 E q0 (u0.1, u0.2.1, u0.2.2.1, p1, u0.2.2.2.2.1, u0.2.2.2.2.2.1, u0.2.2.2.2.2.2.1, u0.2.2.2.2.2.2.2.1, u0.2.2.2.2.2.2.2.2)) := hD
  refine lv_aload_n hx hb dX5_goTo_5 rfl (lv_at hl 0 rfl) ?_
  refine z_kv (z_rV (rest := []) hZ0 C0 hK hZ hA hP hD hS hl.1 (c_X5_advance l E Z hZ0 q0 H.size (u0.1, u0.2.1, u0.2.2.1, p1, u0.2.2.2.2.1, u0.2.2.2.2.2.1, u0.2.2.2.2.2.2.1, u0.2.2.2.2.2.2.2.1, u0.2.2.2.2.2.2.2.2) _ hw) yv_X5_44 [0, 1] rfl (by decide) (ci := 5) rfl rfl 0 rfl ⟨Nat.le_of_ble_eq_true rfl, Nat.le_of_ble_eq_true rfl⟩ ⟨rfl, rfl⟩ rfl rfl (Nat.le_of_ble_eq_true rfl) ⟨Nat.le_of_ble_eq_true rfl, Nat.le_of_ble_eq_true rfl⟩ dX5_goTo_6) hP hD hS hA [0, 1] [] [0, 1] rfl (wr := []) rfl (by decide) (by decide) (fun u => k_X5 E q0 u) (fun u => rfl) (by decide) (fun u_1 H locs hw hP hD hS => ?_)
  exact z_vret (k := (fun u => k_X5 E q0 u)) u_1 C0 hP hD hS hw dX5_goTo_9
abbrev r_X5_begin : Room := { frames := 3, cells := 0, slots := 0, locals := 73 }
def wp_X5_begin (u0 : S_X5) (p1 : Int32) (post : S_X5 → Prop) : Prop := wp_X5_goTo (u0.1, u0.2.1, p1, u0.2.2.2.1, u0.2.2.2.2.1, u0.2.2.2.2.2.1, u0.2.2.2.2.2.2.1, (0 : Int32), (-1 : Int32)) (0 : Int32) (fun u_1 => post u_1)
set_option maxHeartbeats 4000000 in
set_option maxRecDepth 100000 in
theorem c_X5_begin (l : Launch) (E : zE) (Z : zZ) (hZ0 : zSt Z) (q0 : Nat → Nat) (sz : Nat) (u0 : S_X5) (p1 : Int32) (post : S_X5 → Prop) (hw : wp_X5_begin u0 p1 post) : Met l yX5_begin (zws yX5_begin cX5_begin 2 none) r_X5_begin (va_Pc [.ref (q0 0), .int p1] (zPre Z E (k_X5 E q0 u0) sz)) (va_Qv post (zAt E (va_A (k_X5 E q0 u0) sz) (fun u => k_X5 E q0 u)) (va_A (k_X5 E q0 u0) sz)) 0 0 (va_A (k_X5 E q0 u0) sz) := by
  refine z_ofW (Qf := fun A => va_Qv post (zAt E A (fun u => k_X5 E q0 u)) A) (by decide) (Nat.le_of_ble_eq_true rfl) ?_
  intro p e s m args below meth c A ls C0 hA hK hZ hP hD hS hl
  obtain ⟨hx, hb, hml, hr, hown, hts, hlocks, hin⟩ := id C0
  have hown : s.vm.findClass RX5 = some m.cls := hown
  have hl : lv_has ls 2 [(0, .ref (q0 0)), (1, .int p1)] := hl
  refine lv_aload_n hx hb dX5_begin_0 rfl (lv_at hl 0 rfl) ?_
  refine lv_iload_n hx hb dX5_begin_1 rfl (lv_at hl 1 rfl) ?_
  refine va_put (D := zD E) (ci := 5) (v := .int p1) (ty := .int) (C := RX5) (T := TX5) (N := 9) hx hb hts uw_X5 tyX5 tyX5_ok nmX5 hown hK hP hD hS 0 rfl rfl 2 (by decide) (hts _ wm_2_7) (fun _ h9 => h9) rfl (by decide +kernel) rfl rfl (Nat.le_of_ble_eq_true rfl) dX5_begin_2 (fun H locs hP hD hS => ?_)
  have hP : va_P (zD E) vwCl (k_X5 E q0 (u0.1, u0.2.1, p1, u0.2.2.2.1, u0.2.2.2.2.1, u0.2.2.2.2.2.1, u0.2.2.2.2.2.2.1, u0.2.2.2.2.2.2.2.1, u0.2.2.2.2.2.2.2.2)) H := hP
  have hD : va_D A (k_X5 E q0 (u0.1, u0.2.1, p1, u0.2.2.2.1, u0.2.2.2.2.1, u0.2.2.2.2.2.1, u0.2.2.2.2.2.2.1, u0.2.2.2.2.2.2.2.1, u0.2.2.2.2.2.2.2.2)) := hD
  refine lv_aload_n hx hb dX5_begin_5 rfl (lv_at hl 0 rfl) ?_
  refine lv_iconst (v := 0) hx hb dX5_begin_6 rfl ?_
  refine va_put (D := zD E) (ci := 5) (v := .int (0 : Int32)) (ty := .int) (C := RX5) (T := TX5) (N := 9) hx hb hts uw_X5 tyX5 tyX5_ok nmX5 hown hK hP hD hS 0 rfl rfl 7 (by decide) (hts _ wm_2_16) (fun _ h9 => h9) rfl (by decide +kernel) rfl rfl (Nat.le_of_ble_eq_true rfl) dX5_begin_7 (fun H locs hP hD hS => ?_)
  have hP : va_P (zD E) vwCl (k_X5 E q0 (u0.1, u0.2.1, p1, u0.2.2.2.1, u0.2.2.2.2.1, u0.2.2.2.2.2.1, u0.2.2.2.2.2.2.1, (0 : Int32), u0.2.2.2.2.2.2.2.2)) H := hP
  have hD : va_D A (k_X5 E q0 (u0.1, u0.2.1, p1, u0.2.2.2.1, u0.2.2.2.2.1, u0.2.2.2.2.2.1, u0.2.2.2.2.2.2.1, (0 : Int32), u0.2.2.2.2.2.2.2.2)) := hD
  refine lv_aload_n hx hb dX5_begin_10 rfl (lv_at hl 0 rfl) ?_
  refine lv_iconst (v := (-1)) hx hb dX5_begin_11 rfl ?_
  refine va_put (D := zD E) (ci := 5) (v := .int (-1 : Int32)) (ty := .int) (C := RX5) (T := TX5) (N := 9) hx hb hts uw_X5 tyX5 tyX5_ok nmX5 hown hK hP hD hS 0 rfl rfl 8 (by decide) (hts _ wm_2_18) (fun _ h9 => h9) rfl (by decide +kernel) rfl rfl (Nat.le_of_ble_eq_true rfl) dX5_begin_12 (fun H locs hP hD hS => ?_)
  have hP : va_P (zD E) vwCl (k_X5 E q0 (u0.1, u0.2.1, p1, u0.2.2.2.1, u0.2.2.2.2.1, u0.2.2.2.2.2.1, u0.2.2.2.2.2.2.1, (0 : Int32), (-1 : Int32))) H := hP
  have hD : va_D A (k_X5 E q0 (u0.1, u0.2.1, p1, u0.2.2.2.1, u0.2.2.2.2.1, u0.2.2.2.2.2.1, u0.2.2.2.2.2.2.1, (0 : Int32), (-1 : Int32))) := hD
  refine lv_aload_n hx hb dX5_begin_15 rfl (lv_at hl 0 rfl) ?_
  refine lv_iconst (v := 0) hx hb dX5_begin_16 rfl ?_
  refine z_kv (z_rV (rest := []) hZ0 C0 hK hZ hA hP hD hS hl.1 (c_X5_goTo l E Z hZ0 q0 H.size (u0.1, u0.2.1, p1, u0.2.2.2.1, u0.2.2.2.2.1, u0.2.2.2.2.2.1, u0.2.2.2.2.2.2.1, (0 : Int32), (-1 : Int32)) (0 : Int32) _ hw) yv_X5_40 [0, 1] rfl (by decide) (ci := 5) rfl rfl 0 rfl ⟨Nat.le_of_ble_eq_true rfl, Nat.le_of_ble_eq_true rfl⟩ ⟨rfl, rfl⟩ rfl rfl (Nat.le_of_ble_eq_true rfl) ⟨Nat.le_of_ble_eq_true rfl, Nat.le_of_ble_eq_true rfl⟩ dX5_begin_17) hP hD hS hA [0, 1] [] [0, 1] rfl (wr := []) rfl (by decide) (by decide) (fun u => k_X5 E q0 u) (fun u => rfl) (by decide) (fun u_1 H locs hw hP hD hS => ?_)
  exact z_vret (k := (fun u => k_X5 E q0 u)) u_1 C0 hP hD hS hw dX5_begin_20
abbrev r_X5_fail : Room := { frames := 0, cells := 0, slots := 0, locals := 0 }
def wp_X5_fail (u0 : S_X5) (p1 : Int32) (p2 : Int32) (post : S_X5 → Prop) : Prop := (¬ (u0.2.2.2.2.2.2.2.1 = 0) → (post (u0.1, u0.2.1, u0.2.2.1, u0.2.2.1, (-1 : Int32), u0.2.2.2.2.2.1, u0.2.2.2.2.2.2.1, u0.2.2.2.2.2.2.2.1, u0.2.2.2.2.2.2.2.2))) ∧ (u0.2.2.2.2.2.2.2.1 = 0 → (post (u0.1, u0.2.1, u0.2.2.1, u0.2.2.1, (-1 : Int32), u0.2.2.2.2.2.1, u0.2.2.2.2.2.2.1, p1, p2)))
set_option maxHeartbeats 4000000 in
set_option maxRecDepth 100000 in
theorem c_X5_fail (l : Launch) (E : zE) (Z : zZ) (hZ0 : zSt Z) (q0 : Nat → Nat) (sz : Nat) (u0 : S_X5) (p1 : Int32) (p2 : Int32) (post : S_X5 → Prop) (hw : wp_X5_fail u0 p1 p2 post) : Met l yX5_fail (zws yX5_fail cX5_fail 3 none) r_X5_fail (va_Pc [.ref (q0 0), .int p1, .int p2] (zPre Z E (k_X5 E q0 u0) sz)) (va_Qv post (zAt E (va_A (k_X5 E q0 u0) sz) (fun u => k_X5 E q0 u)) (va_A (k_X5 E q0 u0) sz)) 0 0 (va_A (k_X5 E q0 u0) sz) := by
  refine z_ofW (Qf := fun A => va_Qv post (zAt E A (fun u => k_X5 E q0 u)) A) (by decide) (Nat.le_of_ble_eq_true rfl) ?_
  intro p e s m args below meth c A ls C0 hA hK hZ hP hD hS hl
  obtain ⟨hx, hb, hml, hr, hown, hts, hlocks, hin⟩ := id C0
  have hown : s.vm.findClass RX5 = some m.cls := hown
  have hl : lv_has ls 3 [(0, .ref (q0 0)), (1, .int p1), (2, .int p2)] := hl
  refine lv_aload_n hx hb dX5_fail_0 rfl (lv_at hl 0 rfl) ?_
  refine va_get (D := zD E) (ci := 5) (v := .int u0.2.2.2.2.2.2.2.1) (C := RX5) (T := TX5) (N := 9) hx hb hts uw_X5 hown hK hP 0 rfl rfl 7 (by decide) (hts _ wm_2_16) (fun _ h9 => h9) rfl dX5_fail_1 ?_
  obtain ⟨hwt, hwf⟩ := hw
  refine lv_if_ne (tgt := 17) hx hb dX5_fail_4 (by decide) (fun c_1 => ?_) (fun c_1 => ?_)
  · have hw := hwt c_1
    refine lv_aload_n hx hb dX5_fail_17 rfl (lv_at hl 0 rfl) ?_
    refine lv_aload_n hx hb dX5_fail_18 rfl (lv_at hl 0 rfl) ?_
    refine va_get (D := zD E) (ci := 5) (v := .int u0.2.2.1) (C := RX5) (T := TX5) (N := 9) hx hb hts uw_X5 hown hK hP 0 rfl rfl 2 (by decide) (hts _ wm_2_7) (fun _ h9 => h9) rfl dX5_fail_19 ?_
    refine va_put (D := zD E) (ci := 5) (v := .int u0.2.2.1) (ty := .int) (C := RX5) (T := TX5) (N := 9) hx hb hts uw_X5 tyX5 tyX5_ok nmX5 hown hK hP hD hS 0 rfl rfl 3 (by decide) (hts _ wm_2_8) (fun _ h9 => h9) rfl (by decide +kernel) rfl rfl (Nat.le_of_ble_eq_true rfl) dX5_fail_22 (fun H locs hP hD hS => ?_)
    have hP : va_P (zD E) vwCl (k_X5 E q0 (u0.1, u0.2.1, u0.2.2.1, u0.2.2.1, u0.2.2.2.2.1, u0.2.2.2.2.2.1, u0.2.2.2.2.2.2.1, u0.2.2.2.2.2.2.2.1, u0.2.2.2.2.2.2.2.2)) H := hP
    have hD : va_D A (k_X5 E q0 (u0.1, u0.2.1, u0.2.2.1, u0.2.2.1, u0.2.2.2.2.1, u0.2.2.2.2.2.1, u0.2.2.2.2.2.2.1, u0.2.2.2.2.2.2.2.1, u0.2.2.2.2.2.2.2.2)) := hD
    refine lv_aload_n hx hb dX5_fail_25 rfl (lv_at hl 0 rfl) ?_
    refine lv_iconst (v := (-1)) hx hb dX5_fail_26 rfl ?_
    refine va_put (D := zD E) (ci := 5) (v := .int (-1 : Int32)) (ty := .int) (C := RX5) (T := TX5) (N := 9) hx hb hts uw_X5 tyX5 tyX5_ok nmX5 hown hK hP hD hS 0 rfl rfl 4 (by decide) (hts _ wm_2_9) (fun _ h9 => h9) rfl (by decide +kernel) rfl rfl (Nat.le_of_ble_eq_true rfl) dX5_fail_27 (fun H locs hP hD hS => ?_)
    have hP : va_P (zD E) vwCl (k_X5 E q0 (u0.1, u0.2.1, u0.2.2.1, u0.2.2.1, (-1 : Int32), u0.2.2.2.2.2.1, u0.2.2.2.2.2.2.1, u0.2.2.2.2.2.2.2.1, u0.2.2.2.2.2.2.2.2)) H := hP
    have hD : va_D A (k_X5 E q0 (u0.1, u0.2.1, u0.2.2.1, u0.2.2.1, (-1 : Int32), u0.2.2.2.2.2.1, u0.2.2.2.2.2.2.1, u0.2.2.2.2.2.2.2.1, u0.2.2.2.2.2.2.2.2)) := hD
    exact z_vret (k := (fun u => k_X5 E q0 u)) (u0.1, u0.2.1, u0.2.2.1, u0.2.2.1, (-1 : Int32), u0.2.2.2.2.2.1, u0.2.2.2.2.2.2.1, u0.2.2.2.2.2.2.2.1, u0.2.2.2.2.2.2.2.2) C0 hP hD hS hw dX5_fail_30
  · have hw := hwf c_1
    refine lv_aload_n hx hb dX5_fail_7 rfl (lv_at hl 0 rfl) ?_
    refine lv_iload_n hx hb dX5_fail_8 rfl (lv_at hl 1 rfl) ?_
    refine va_put (D := zD E) (ci := 5) (v := .int p1) (ty := .int) (C := RX5) (T := TX5) (N := 9) hx hb hts uw_X5 tyX5 tyX5_ok nmX5 hown hK hP hD hS 0 rfl rfl 7 (by decide) (hts _ wm_2_16) (fun _ h9 => h9) rfl (by decide +kernel) rfl rfl (Nat.le_of_ble_eq_true rfl) dX5_fail_9 (fun H locs hP hD hS => ?_)
    have hP : va_P (zD E) vwCl (k_X5 E q0 (u0.1, u0.2.1, u0.2.2.1, u0.2.2.2.1, u0.2.2.2.2.1, u0.2.2.2.2.2.1, u0.2.2.2.2.2.2.1, p1, u0.2.2.2.2.2.2.2.2)) H := hP
    have hD : va_D A (k_X5 E q0 (u0.1, u0.2.1, u0.2.2.1, u0.2.2.2.1, u0.2.2.2.2.1, u0.2.2.2.2.2.1, u0.2.2.2.2.2.2.1, p1, u0.2.2.2.2.2.2.2.2)) := hD
    refine lv_aload_n hx hb dX5_fail_12 rfl (lv_at hl 0 rfl) ?_
    refine lv_iload_n hx hb dX5_fail_13 rfl (lv_at hl 2 rfl) ?_
    refine va_put (D := zD E) (ci := 5) (v := .int p2) (ty := .int) (C := RX5) (T := TX5) (N := 9) hx hb hts uw_X5 tyX5 tyX5_ok nmX5 hown hK hP hD hS 0 rfl rfl 8 (by decide) (hts _ wm_2_18) (fun _ h9 => h9) rfl (by decide +kernel) rfl rfl (Nat.le_of_ble_eq_true rfl) dX5_fail_14 (fun H locs hP hD hS => ?_)
    have hP : va_P (zD E) vwCl (k_X5 E q0 (u0.1, u0.2.1, u0.2.2.1, u0.2.2.2.1, u0.2.2.2.2.1, u0.2.2.2.2.2.1, u0.2.2.2.2.2.2.1, p1, p2)) H := hP
    have hD : va_D A (k_X5 E q0 (u0.1, u0.2.1, u0.2.2.1, u0.2.2.2.1, u0.2.2.2.2.1, u0.2.2.2.2.2.1, u0.2.2.2.2.2.2.1, p1, p2)) := hD
    refine lv_aload_n hx hb dX5_fail_17 rfl (lv_at hl 0 rfl) ?_
    refine lv_aload_n hx hb dX5_fail_18 rfl (lv_at hl 0 rfl) ?_
    refine va_get (D := zD E) (ci := 5) (v := .int u0.2.2.1) (C := RX5) (T := TX5) (N := 9) hx hb hts uw_X5 hown hK hP 0 rfl rfl 2 (by decide) (hts _ wm_2_7) (fun _ h9 => h9) rfl dX5_fail_19 ?_
    refine va_put (D := zD E) (ci := 5) (v := .int u0.2.2.1) (ty := .int) (C := RX5) (T := TX5) (N := 9) hx hb hts uw_X5 tyX5 tyX5_ok nmX5 hown hK hP hD hS 0 rfl rfl 3 (by decide) (hts _ wm_2_8) (fun _ h9 => h9) rfl (by decide +kernel) rfl rfl (Nat.le_of_ble_eq_true rfl) dX5_fail_22 (fun H locs hP hD hS => ?_)
    have hP : va_P (zD E) vwCl (k_X5 E q0 (u0.1, u0.2.1, u0.2.2.1, u0.2.2.1, u0.2.2.2.2.1, u0.2.2.2.2.2.1, u0.2.2.2.2.2.2.1, p1, p2)) H := hP
    have hD : va_D A (k_X5 E q0 (u0.1, u0.2.1, u0.2.2.1, u0.2.2.1, u0.2.2.2.2.1, u0.2.2.2.2.2.1, u0.2.2.2.2.2.2.1, p1, p2)) := hD
    refine lv_aload_n hx hb dX5_fail_25 rfl (lv_at hl 0 rfl) ?_
    refine lv_iconst (v := (-1)) hx hb dX5_fail_26 rfl ?_
    refine va_put (D := zD E) (ci := 5) (v := .int (-1 : Int32)) (ty := .int) (C := RX5) (T := TX5) (N := 9) hx hb hts uw_X5 tyX5 tyX5_ok nmX5 hown hK hP hD hS 0 rfl rfl 4 (by decide) (hts _ wm_2_9) (fun _ h9 => h9) rfl (by decide +kernel) rfl rfl (Nat.le_of_ble_eq_true rfl) dX5_fail_27 (fun H locs hP hD hS => ?_)
    have hP : va_P (zD E) vwCl (k_X5 E q0 (u0.1, u0.2.1, u0.2.2.1, u0.2.2.1, (-1 : Int32), u0.2.2.2.2.2.1, u0.2.2.2.2.2.2.1, p1, p2)) H := hP
    have hD : va_D A (k_X5 E q0 (u0.1, u0.2.1, u0.2.2.1, u0.2.2.1, (-1 : Int32), u0.2.2.2.2.2.1, u0.2.2.2.2.2.2.1, p1, p2)) := hD
    exact z_vret (k := (fun u => k_X5 E q0 u)) (u0.1, u0.2.1, u0.2.2.1, u0.2.2.1, (-1 : Int32), u0.2.2.2.2.2.1, u0.2.2.2.2.2.2.1, p1, p2) C0 hP hD hS hw dX5_fail_30
abbrev r_X5_number : Room := { frames := 2, cells := 0, slots := 0, locals := 52 }
def j_X5_number_38 (x1 : Int32) (u0 : S_X5) (post : Int32 → S_X5 → Prop) : Prop := wp_X5_fail u0 (-3 : Int32) u0.2.2.2.2.2.1 (fun u_8 => post x1 u_8)
def wp_X5_number (u0 : S_X5) (p1 : Int32) (p2 : Int32) (post : Int32 → S_X5 → Prop) : Prop := (u0.2.2.2.2.1 = (256 : Int32) → ((u0.2.2.2.2.2.2.1 < p1 → (j_X5_number_38 p1 u0 post)) ∧ (¬ (u0.2.2.2.2.2.2.1 < p1) → ((u0.2.2.2.2.2.2.1 ≤ p2 → (wp_X5_advance u0 (fun u_4 => post u0.2.2.2.2.2.2.1 u_4))) ∧ (¬ (u0.2.2.2.2.2.2.1 ≤ p2) → (j_X5_number_38 p1 u0 post)))))) ∧ (¬ (u0.2.2.2.2.1 = (256 : Int32)) → (wp_X5_fail u0 (-2 : Int32) u0.2.2.2.2.2.1 (fun u_6 => post p1 u_6)))
set_option maxHeartbeats 4000000 in
set_option maxRecDepth 100000 in
theorem t_X5_number_38 {p : Program} {l : Launch} {e : Env} {s : State} {m : MethodId} {args : Array Value} {below : List Frame} {meth : Method} {c : Code} {Z : zZ} {E : zE} {A : Nat → Prop} {q0 : Nat → Nat} (hZ0 : zSt Z) (C0 : zC p s m args meth c yX5_number cX5_number 4 (some .int)) (hA : ∀ q : Nat, s.heap.size ≤ q → A q) (hK : va_K (zD E) vwCl (zT E) s) (hZ : Z A s s.heap) (post : Int32 → S_X5 → Prop) : ∀ (x1 : Int32) (u0 : S_X5) (H : Heap) (locs : List Loc) (ls : Array Slot), j_X5_number_38 x1 u0 post → va_P (zD E) vwCl (k_X5 E q0 u0) H → va_D A (k_X5 E q0 u0) → va_S A s.heap H locs → lv_has ls 4 [(0, .ref (q0 0)), (1, .int x1)] → W p l e r_X5_number s m args below meth c H locs 0 0 (MQ below (va_Qi post (zAt E A (fun u => k_X5 E q0 u)) A) args s 0 0 A) (F0 m 38 ls []) := by
  obtain ⟨hx, hb, hml, hr, hown, hts, hlocks, hin⟩ := id C0
  have hown : s.vm.findClass RX5 = some m.cls := hown
  intro x1 u0 H locs ls hw hP hD hS hl
  refine lv_aload_n hx hb dX5_number_38 rfl (lv_at hl 0 rfl) ?_
  refine lv_bipush (v := (-3)) hx hb dX5_number_39 rfl ?_
  refine lv_aload_n hx hb dX5_number_41 rfl (lv_at hl 0 rfl) ?_
  refine va_get (D := zD E) (ci := 5) (v := .int u0.2.2.2.2.2.1) (C := RX5) (T := TX5) (N := 9) hx hb hts uw_X5 hown hK hP 0 rfl rfl 5 (by decide) (hts _ wm_2_12) (fun _ h9 => h9) rfl dX5_number_42 ?_
  refine z_kv (z_rV (rest := []) hZ0 C0 hK hZ hA hP hD hS hl.1 (c_X5_fail l E Z hZ0 q0 H.size u0 (-3 : Int32) u0.2.2.2.2.2.1 _ hw) yv_X5_54 [0, 1] rfl (by decide) (ci := 5) rfl rfl 0 rfl ⟨Nat.le_of_ble_eq_true rfl, Nat.le_of_ble_eq_true rfl⟩ ⟨rfl, rfl⟩ rfl rfl (Nat.le_of_ble_eq_true rfl) ⟨Nat.le_of_ble_eq_true rfl, Nat.le_of_ble_eq_true rfl⟩ dX5_number_45) hP hD hS hA [0, 1] [] [0, 1] rfl (wr := []) rfl (by decide) (by decide) (fun u => k_X5 E q0 u) (fun u => rfl) (by decide) (fun u_8 H locs hw hP hD hS => ?_)
  refine lv_iload_n hx hb dX5_number_48 rfl (lv_at hl 1 rfl) ?_
  exact z_iret (k := (fun u => k_X5 E q0 u)) u_8 C0 hP hD hS hw dX5_number_49
set_option maxHeartbeats 4000000 in
set_option maxRecDepth 100000 in
theorem c_X5_number (l : Launch) (E : zE) (Z : zZ) (hZ0 : zSt Z) (q0 : Nat → Nat) (sz : Nat) (u0 : S_X5) (p1 : Int32) (p2 : Int32) (post : Int32 → S_X5 → Prop) (hw : wp_X5_number u0 p1 p2 post) : Met l yX5_number (zws yX5_number cX5_number 4 (some .int)) r_X5_number (va_Pc [.ref (q0 0), .int p1, .int p2] (zPre Z E (k_X5 E q0 u0) sz)) (va_Qi post (zAt E (va_A (k_X5 E q0 u0) sz) (fun u => k_X5 E q0 u)) (va_A (k_X5 E q0 u0) sz)) 0 0 (va_A (k_X5 E q0 u0) sz) := by
  refine z_ofW (Qf := fun A => va_Qi post (zAt E A (fun u => k_X5 E q0 u)) A) (by decide) (Nat.le_of_ble_eq_true rfl) ?_
  intro p e s m args below meth c A ls C0 hA hK hZ hP hD hS hl
  obtain ⟨hx, hb, hml, hr, hown, hts, hlocks, hin⟩ := id C0
  have hown : s.vm.findClass RX5 = some m.cls := hown
  have hl : lv_has ls 4 [(0, .ref (q0 0)), (1, .int p1), (2, .int p2)] := hl
  refine lv_aload_n hx hb dX5_number_0 rfl (lv_at hl 0 rfl) ?_
  refine va_get (D := zD E) (ci := 5) (v := .int u0.2.2.2.2.1) (C := RX5) (T := TX5) (N := 9) hx hb hts uw_X5 hown hK hP 0 rfl rfl 4 (by decide) (hts _ wm_2_9) (fun _ h9 => h9) rfl dX5_number_1 ?_
  refine lv_sipush (v := 256) hx hb dX5_number_4 rfl ?_
  obtain ⟨hwt, hwf⟩ := hw
  refine lv_icmp_eq (tgt := 22) hx hb dX5_number_7 (by decide) (fun c_1 => ?_) (fun c_1 => ?_)
  · have hw := hwt c_1
    refine lv_aload_n hx hb dX5_number_22 rfl (lv_at hl 0 rfl) ?_
    refine va_get (D := zD E) (ci := 5) (v := .int u0.2.2.2.2.2.2.1) (C := RX5) (T := TX5) (N := 9) hx hb hts uw_X5 hown hK hP 0 rfl rfl 6 (by decide) (hts _ wm_2_15) (fun _ h9 => h9) rfl dX5_number_23 ?_
    refine lv_iload_n hx hb dX5_number_26 rfl (lv_at hl 1 rfl) ?_
    obtain ⟨hwt, hwf⟩ := hw
    refine lv_icmp_lt (tgt := 38) hx hb dX5_number_27 (by decide) (fun c_2 => ?_) (fun c_2 => ?_)
    · have hw := hwt c_2
      exact t_X5_number_38 (l := l) hZ0 C0 hA hK hZ post p1 u0 _ _ _ hw hP hD hS (lv_sub hl [0, 1] rfl)
    · have hw := hwf c_2
      refine lv_aload_n hx hb dX5_number_30 rfl (lv_at hl 0 rfl) ?_
      refine va_get (D := zD E) (ci := 5) (v := .int u0.2.2.2.2.2.2.1) (C := RX5) (T := TX5) (N := 9) hx hb hts uw_X5 hown hK hP 0 rfl rfl 6 (by decide) (hts _ wm_2_15) (fun _ h9 => h9) rfl dX5_number_31 ?_
      refine lv_iload_n hx hb dX5_number_34 rfl (lv_at hl 2 rfl) ?_
      obtain ⟨hwt, hwf⟩ := hw
      refine lv_icmp_le (tgt := 50) hx hb dX5_number_35 (by decide) (fun c_3 => ?_) (fun c_3 => ?_)
      · have hw := hwt c_3
        refine lv_aload_n hx hb dX5_number_50 rfl (lv_at hl 0 rfl) ?_
        refine va_get (D := zD E) (ci := 5) (v := .int u0.2.2.2.2.2.2.1) (C := RX5) (T := TX5) (N := 9) hx hb hts uw_X5 hown hK hP 0 rfl rfl 6 (by decide) (hts _ wm_2_15) (fun _ h9 => h9) rfl dX5_number_51 ?_
        refine lv_istore_n (lv' := [(3, .int u0.2.2.2.2.2.2.1), (0, .ref (q0 0)), (1, .int p1), (2, .int p2)]) hx hb dX5_number_54 rfl hl (by decide) rfl (fun ls hl => ?_)
        refine lv_aload_n hx hb dX5_number_55 rfl (lv_at hl 1 rfl) ?_
        refine z_kv (z_rV (rest := []) hZ0 C0 hK hZ hA hP hD hS hl.1 (c_X5_advance l E Z hZ0 q0 s.heap.size u0 _ hw) yv_X5_44 [0, 1] rfl (by decide) (ci := 5) rfl rfl 0 rfl ⟨Nat.le_of_ble_eq_true rfl, Nat.le_of_ble_eq_true rfl⟩ ⟨rfl, rfl⟩ rfl rfl (Nat.le_of_ble_eq_true rfl) ⟨Nat.le_of_ble_eq_true rfl, Nat.le_of_ble_eq_true rfl⟩ dX5_number_56) hP hD hS hA [0, 1] [] [0, 1] rfl (wr := []) rfl (by decide) (by decide) (fun u => k_X5 E q0 u) (fun u => rfl) (by decide) (fun u_4 H locs hw hP hD hS => ?_)
        refine lv_iload_n hx hb dX5_number_59 rfl (lv_at hl 0 rfl) ?_
        exact z_iret (k := (fun u => k_X5 E q0 u)) u_4 C0 hP hD hS hw dX5_number_60
      · have hw := hwf c_3
        exact t_X5_number_38 (l := l) hZ0 C0 hA hK hZ post p1 u0 _ _ _ hw hP hD hS (lv_sub hl [0, 1] rfl)
  · have hw := hwf c_1
    refine lv_aload_n hx hb dX5_number_10 rfl (lv_at hl 0 rfl) ?_
    refine lv_bipush (v := (-2)) hx hb dX5_number_11 rfl ?_
    refine lv_aload_n hx hb dX5_number_13 rfl (lv_at hl 0 rfl) ?_
    refine va_get (D := zD E) (ci := 5) (v := .int u0.2.2.2.2.2.1) (C := RX5) (T := TX5) (N := 9) hx hb hts uw_X5 hown hK hP 0 rfl rfl 5 (by decide) (hts _ wm_2_12) (fun _ h9 => h9) rfl dX5_number_14 ?_
    refine z_kv (z_rV (rest := []) hZ0 C0 hK hZ hA hP hD hS hl.1 (c_X5_fail l E Z hZ0 q0 s.heap.size u0 (-2 : Int32) u0.2.2.2.2.2.1 _ hw) yv_X5_54 [0, 1] rfl (by decide) (ci := 5) rfl rfl 0 rfl ⟨Nat.le_of_ble_eq_true rfl, Nat.le_of_ble_eq_true rfl⟩ ⟨rfl, rfl⟩ rfl rfl (Nat.le_of_ble_eq_true rfl) ⟨Nat.le_of_ble_eq_true rfl, Nat.le_of_ble_eq_true rfl⟩ dX5_number_17) hP hD hS hA [0, 1] [] [0, 1] rfl (wr := []) rfl (by decide) (by decide) (fun u => k_X5 E q0 u) (fun u => rfl) (by decide) (fun u_6 H locs hw hP hD hS => ?_)
    refine lv_iload_n hx hb dX5_number_20 rfl (lv_at hl 1 rfl) ?_
    exact z_iret (k := (fun u => k_X5 E q0 u)) u_6 C0 hP hD hS hw dX5_number_21
abbrev r_X5_sign : Room := { frames := 2, cells := 0, slots := 0, locals := 52 }
def wp_X5_sign (u0 : S_X5) (p1 : Int32) (post : S_X5 → Prop) : Prop := (¬ (u0.2.2.2.2.1 = p1) → (wp_X5_fail u0 (-2 : Int32) u0.2.2.2.2.2.1 (fun u_2 => post u_2))) ∧ (u0.2.2.2.2.1 = p1 → (wp_X5_advance u0 (fun u_4 => post u_4)))
set_option maxHeartbeats 4000000 in
set_option maxRecDepth 100000 in
theorem c_X5_sign (l : Launch) (E : zE) (Z : zZ) (hZ0 : zSt Z) (q0 : Nat → Nat) (sz : Nat) (u0 : S_X5) (p1 : Int32) (post : S_X5 → Prop) (hw : wp_X5_sign u0 p1 post) : Met l yX5_sign (zws yX5_sign cX5_sign 2 none) r_X5_sign (va_Pc [.ref (q0 0), .int p1] (zPre Z E (k_X5 E q0 u0) sz)) (va_Qv post (zAt E (va_A (k_X5 E q0 u0) sz) (fun u => k_X5 E q0 u)) (va_A (k_X5 E q0 u0) sz)) 0 0 (va_A (k_X5 E q0 u0) sz) := by
  refine z_ofW (Qf := fun A => va_Qv post (zAt E A (fun u => k_X5 E q0 u)) A) (by decide) (Nat.le_of_ble_eq_true rfl) ?_
  intro p e s m args below meth c A ls C0 hA hK hZ hP hD hS hl
  obtain ⟨hx, hb, hml, hr, hown, hts, hlocks, hin⟩ := id C0
  have hown : s.vm.findClass RX5 = some m.cls := hown
  have hl : lv_has ls 2 [(0, .ref (q0 0)), (1, .int p1)] := hl
  refine lv_aload_n hx hb dX5_sign_0 rfl (lv_at hl 0 rfl) ?_
  refine va_get (D := zD E) (ci := 5) (v := .int u0.2.2.2.2.1) (C := RX5) (T := TX5) (N := 9) hx hb hts uw_X5 hown hK hP 0 rfl rfl 4 (by decide) (hts _ wm_2_9) (fun _ h9 => h9) rfl dX5_sign_1 ?_
  refine lv_iload_n hx hb dX5_sign_4 rfl (lv_at hl 1 rfl) ?_
  obtain ⟨hwt, hwf⟩ := hw
  refine lv_icmp_ne (tgt := 15) hx hb dX5_sign_5 (by decide) (fun c_1 => ?_) (fun c_1 => ?_)
  · have hw := hwt c_1
    refine lv_aload_n hx hb dX5_sign_15 rfl (lv_at hl 0 rfl) ?_
    refine lv_bipush (v := (-2)) hx hb dX5_sign_16 rfl ?_
    refine lv_aload_n hx hb dX5_sign_18 rfl (lv_at hl 0 rfl) ?_
    refine va_get (D := zD E) (ci := 5) (v := .int u0.2.2.2.2.2.1) (C := RX5) (T := TX5) (N := 9) hx hb hts uw_X5 hown hK hP 0 rfl rfl 5 (by decide) (hts _ wm_2_12) (fun _ h9 => h9) rfl dX5_sign_19 ?_
    refine z_kv (z_rV (rest := []) hZ0 C0 hK hZ hA hP hD hS hl.1 (c_X5_fail l E Z hZ0 q0 s.heap.size u0 (-2 : Int32) u0.2.2.2.2.2.1 _ hw) yv_X5_54 [0, 1] rfl (by decide) (ci := 5) rfl rfl 0 rfl ⟨Nat.le_of_ble_eq_true rfl, Nat.le_of_ble_eq_true rfl⟩ ⟨rfl, rfl⟩ rfl rfl (Nat.le_of_ble_eq_true rfl) ⟨Nat.le_of_ble_eq_true rfl, Nat.le_of_ble_eq_true rfl⟩ dX5_sign_22) hP hD hS hA [0, 1] [] [0, 1] rfl (wr := []) rfl (by decide) (by decide) (fun u => k_X5 E q0 u) (fun u => rfl) (by decide) (fun u_2 H locs hw hP hD hS => ?_)
    exact z_vret (k := (fun u => k_X5 E q0 u)) u_2 C0 hP hD hS hw dX5_sign_25
  · have hw := hwf c_1
    refine lv_aload_n hx hb dX5_sign_8 rfl (lv_at hl 0 rfl) ?_
    refine z_kv (z_rV (rest := []) hZ0 C0 hK hZ hA hP hD hS hl.1 (c_X5_advance l E Z hZ0 q0 s.heap.size u0 _ hw) yv_X5_44 [0, 1] rfl (by decide) (ci := 5) rfl rfl 0 rfl ⟨Nat.le_of_ble_eq_true rfl, Nat.le_of_ble_eq_true rfl⟩ ⟨rfl, rfl⟩ rfl rfl (Nat.le_of_ble_eq_true rfl) ⟨Nat.le_of_ble_eq_true rfl, Nat.le_of_ble_eq_true rfl⟩ dX5_sign_9) hP hD hS hA [0, 1] [] [0, 1] rfl (wr := []) rfl (by decide) (by decide) (fun u => k_X5 E q0 u) (fun u => rfl) (by decide) (fun u_4 H locs hw hP hD hS => ?_)
    refine lv_goto (tgt := 25) hx hb dX5_sign_12 (by decide) ?_
    exact z_vret (k := (fun u => k_X5 E q0 u)) u_4 C0 hP hD hS hw dX5_sign_25
abbrev r_X5_takeSign : Room := { frames := 2, cells := 0, slots := 0, locals := 52 }
def j_X5_takeSign_13 (y0 : Int32) (u0 : S_X5) (post : Int32 → S_X5 → Prop) : Prop := (y0 = 0 → ((narrow .boolean (.int y0) = .int y0) ∧ (post y0 u0))) ∧ (¬ (y0 = 0) → (wp_X5_advance u0 (fun u_4 => (narrow .boolean (.int y0) = .int y0) ∧ (post y0 u_4))))
def wp_X5_takeSign (u0 : S_X5) (p1 : Int32) (post : Int32 → S_X5 → Prop) : Prop := (¬ (u0.2.2.2.2.1 = p1) → (j_X5_takeSign_13 (0 : Int32) u0 post)) ∧ (u0.2.2.2.2.1 = p1 → (j_X5_takeSign_13 (1 : Int32) u0 post))
set_option maxHeartbeats 4000000 in
set_option maxRecDepth 100000 in
theorem t_X5_takeSign_13 {p : Program} {l : Launch} {e : Env} {s : State} {m : MethodId} {args : Array Value} {below : List Frame} {meth : Method} {c : Code} {Z : zZ} {E : zE} {A : Nat → Prop} {q0 : Nat → Nat} (hZ0 : zSt Z) (C0 : zC p s m args meth c yX5_takeSign cX5_takeSign 3 (some .boolean)) (hA : ∀ q : Nat, s.heap.size ≤ q → A q) (hK : va_K (zD E) vwCl (zT E) s) (hZ : Z A s s.heap) (post : Int32 → S_X5 → Prop) : ∀ (y0 : Int32) (u0 : S_X5) (H : Heap) (locs : List Loc) (ls : Array Slot), j_X5_takeSign_13 y0 u0 post → va_P (zD E) vwCl (k_X5 E q0 u0) H → va_D A (k_X5 E q0 u0) → va_S A s.heap H locs → lv_has ls 3 [(0, .ref (q0 0))] → W p l e r_X5_takeSign s m args below meth c H locs 0 0 (MQ below (va_Qi post (zAt E A (fun u => k_X5 E q0 u)) A) args s 0 0 A) (F0 m 13 ls [.int y0]) := by
  obtain ⟨hx, hb, hml, hr, hown, hts, hlocks, hin⟩ := id C0
  have hown : s.vm.findClass RX5 = some m.cls := hown
  intro y0 u0 H locs ls hw hP hD hS hl
  refine lv_istore_n (lv' := [(2, .int y0), (0, .ref (q0 0))]) hx hb dX5_takeSign_13 rfl hl (by decide) rfl (fun ls hl => ?_)
  refine lv_iload_n hx hb dX5_takeSign_14 rfl (lv_at hl 0 rfl) ?_
  obtain ⟨hwt, hwf⟩ := hw
  refine lv_if_eq (tgt := 22) hx hb dX5_takeSign_15 (by decide) (fun c_2 => ?_) (fun c_2 => ?_)
  · have hw := hwt c_2
    refine lv_iload_n hx hb dX5_takeSign_22 rfl (lv_at hl 0 rfl) ?_
    obtain ⟨h_3, hw⟩ := hw
    exact z_zret (k := (fun u => k_X5 E q0 u)) u0 C0 h_3 hP hD hS hw dX5_takeSign_23
  · have hw := hwf c_2
    refine lv_aload_n hx hb dX5_takeSign_18 rfl (lv_at hl 1 rfl) ?_
    refine z_kv (z_rV (rest := []) hZ0 C0 hK hZ hA hP hD hS hl.1 (c_X5_advance l E Z hZ0 q0 H.size u0 _ hw) yv_X5_44 [0, 1] rfl (by decide) (ci := 5) rfl rfl 0 rfl ⟨Nat.le_of_ble_eq_true rfl, Nat.le_of_ble_eq_true rfl⟩ ⟨rfl, rfl⟩ rfl rfl (Nat.le_of_ble_eq_true rfl) ⟨Nat.le_of_ble_eq_true rfl, Nat.le_of_ble_eq_true rfl⟩ dX5_takeSign_19) hP hD hS hA [0, 1] [] [0, 1] rfl (wr := []) rfl (by decide) (by decide) (fun u => k_X5 E q0 u) (fun u => rfl) (by decide) (fun u_4 H locs hw hP hD hS => ?_)
    refine lv_iload_n hx hb dX5_takeSign_22 rfl (lv_at hl 0 rfl) ?_
    obtain ⟨h_6, hw⟩ := hw
    exact z_zret (k := (fun u => k_X5 E q0 u)) u_4 C0 h_6 hP hD hS hw dX5_takeSign_23
set_option maxHeartbeats 4000000 in
set_option maxRecDepth 100000 in
theorem c_X5_takeSign (l : Launch) (E : zE) (Z : zZ) (hZ0 : zSt Z) (q0 : Nat → Nat) (sz : Nat) (u0 : S_X5) (p1 : Int32) (post : Int32 → S_X5 → Prop) (hw : wp_X5_takeSign u0 p1 post) : Met l yX5_takeSign (zws yX5_takeSign cX5_takeSign 3 (some .boolean)) r_X5_takeSign (va_Pc [.ref (q0 0), .int p1] (zPre Z E (k_X5 E q0 u0) sz)) (va_Qi post (zAt E (va_A (k_X5 E q0 u0) sz) (fun u => k_X5 E q0 u)) (va_A (k_X5 E q0 u0) sz)) 0 0 (va_A (k_X5 E q0 u0) sz) := by
  refine z_ofW (Qf := fun A => va_Qi post (zAt E A (fun u => k_X5 E q0 u)) A) (by decide) (Nat.le_of_ble_eq_true rfl) ?_
  intro p e s m args below meth c A ls C0 hA hK hZ hP hD hS hl
  obtain ⟨hx, hb, hml, hr, hown, hts, hlocks, hin⟩ := id C0
  have hown : s.vm.findClass RX5 = some m.cls := hown
  have hl : lv_has ls 3 [(0, .ref (q0 0)), (1, .int p1)] := hl
  refine lv_aload_n hx hb dX5_takeSign_0 rfl (lv_at hl 0 rfl) ?_
  refine va_get (D := zD E) (ci := 5) (v := .int u0.2.2.2.2.1) (C := RX5) (T := TX5) (N := 9) hx hb hts uw_X5 hown hK hP 0 rfl rfl 4 (by decide) (hts _ wm_2_9) (fun _ h9 => h9) rfl dX5_takeSign_1 ?_
  refine lv_iload_n hx hb dX5_takeSign_4 rfl (lv_at hl 1 rfl) ?_
  obtain ⟨hwt, hwf⟩ := hw
  refine lv_icmp_ne (tgt := 12) hx hb dX5_takeSign_5 (by decide) (fun c_1 => ?_) (fun c_1 => ?_)
  · have hw := hwt c_1
    refine lv_iconst (v := 0) hx hb dX5_takeSign_12 rfl ?_
    exact t_X5_takeSign_13 (l := l) hZ0 C0 hA hK hZ post (0 : Int32) u0 _ _ _ hw hP hD hS (lv_sub hl [0] rfl)
  · have hw := hwf c_1
    refine lv_iconst (v := 1) hx hb dX5_takeSign_8 rfl ?_
    refine lv_goto (tgt := 13) hx hb dX5_takeSign_9 (by decide) ?_
    exact t_X5_takeSign_13 (l := l) hZ0 C0 hA hK hZ post (1 : Int32) u0 _ _ _ hw hP hD hS (lv_sub hl [0] rfl)
abbrev r_X8_fits : Room := { frames := 2, cells := 0, slots := 0, locals := 54 }
def j_X8_fits_3 (K3 : (Int32 × Int32 × Int32 × S_X8 × S_X1) → Prop) (x2 : Int32) (x3 : Int32) (x4 : Int32) (u0 : S_X8) (u1 : S_X1) (post : Int32 → (S_X8 × S_X1) → Prop) : Prop := (x3 ≤ x4 → (post (1 : Int32) (u0, u1))) ∧ (¬ (x3 ≤ x4) → (vp_in x4 4 ∧ (wp_X1_distance u1 x2 (u0.2.2.2.2.1 x4.toNatClampNeg) (fun r_4 u_3 => (u0.2.2.2.1 ≤ r_4 → (∀ x_6 : Int32, x_6 = x4 + 1 → (K3 (x2, x3, x_6, u0, u_3)))) ∧ (¬ (u0.2.2.2.1 ≤ r_4) → (post (0 : Int32) (u0, u_3)))))))
def wp_X8_fits (u0 : S_X8) (u1 : S_X1) (p2 : Int32) (p3 : Int32) (post : Int32 → (S_X8 × S_X1) → Prop) : Prop := ∃ n, zl (fun K st => j_X8_fits_3 K st.1 st.2.1 st.2.2.1 st.2.2.2.1 st.2.2.2.2 post) n (p2, p3, (0 : Int32), u0, u1)
set_option maxHeartbeats 4000000 in
set_option maxRecDepth 100000 in
theorem t_X8_fits_3 {p : Program} {l : Launch} {e : Env} {s : State} {m : MethodId} {args : Array Value} {below : List Frame} {meth : Method} {c : Code} {Z : zZ} {E : zE} {A : Nat → Prop} {q0 : Nat → Nat} {q1 : Nat → Nat} (hZ0 : zSt Z) (C0 : zC p s m args meth c yX8_fits cX8_fits 5 (some .boolean)) (hA : ∀ q : Nat, s.heap.size ≤ q → A q) (hK : va_K (zD E) vwCl (zT E) s) (hZ : Z A s s.heap) (post : Int32 → (S_X8 × S_X1) → Prop) : ∀ (n : Nat) (x2 : Int32) (x3 : Int32) (x4 : Int32) (u0 : S_X8) (u1 : S_X1) (H : Heap) (locs : List Loc) (ls : Array Slot), zl (fun K st => j_X8_fits_3 K st.1 st.2.1 st.2.2.1 st.2.2.2.1 st.2.2.2.2 post) n (x2, x3, x4, u0, u1) → va_P (zD E) vwCl (k_X8 E q0 u0 ++ (k_X1 E q1 u1)) H → va_D A (k_X8 E q0 u0 ++ (k_X1 E q1 u1)) → va_S A s.heap H locs → lv_has ls 5 [(0, .ref (q0 0)), (1, .ref (q1 0)), (2, .int x2), (3, .int x3), (4, .int x4)] → W p l e r_X8_fits s m args below meth c H locs 0 0 (MQ below (va_Qi post (zAt E A (fun u => k_X8 E q0 u.1 ++ (k_X1 E q1 u.2))) A) args s 0 0 A) (F0 m 3 ls []) := by
  obtain ⟨hx, hb, hml, hr, hown, hts, hlocks, hin⟩ := id C0
  have hown : s.vm.findClass RX8 = some m.cls := hown
  intro n
  induction n with
  | zero => intro x2 x3 x4 u0 u1 H locs ls hw; exact hw.elim
  | succ n hk_3 =>
    intro x2 x3 x4 u0 u1 H locs ls hw hP hD hS hl
    have hw : j_X8_fits_3 _ x2 x3 x4 u0 u1 post := hw
    refine lv_iload hx hb dX8_fits_3 (lv_at hl 4 rfl) ?_
    refine lv_iload_n hx hb dX8_fits_5 rfl (lv_at hl 3 rfl) ?_
    obtain ⟨hwt, hwf⟩ := hw
    refine lv_icmp_ge (tgt := 36) hx hb dX8_fits_6 (by decide) (fun c_1 => ?_) (fun c_1 => ?_)
    · have hw := hwt c_1
      refine lv_iconst (v := 1) hx hb dX8_fits_36 rfl ?_
      exact z_zret (k := (fun u => k_X8 E q0 u.1 ++ (k_X1 E q1 u.2))) (u0, u1) C0 rfl hP hD hS hw dX8_fits_37
    · have hw := hwf c_1
      refine lv_aload_n hx hb dX8_fits_9 rfl (lv_at hl 1 rfl) ?_
      refine lv_iload_n hx hb dX8_fits_10 rfl (lv_at hl 2 rfl) ?_
      refine lv_aload_n hx hb dX8_fits_11 rfl (lv_at hl 0 rfl) ?_
      refine va_get (D := zD E) (ci := 8) (v := .ref (q0 2)) (C := RX8) (T := TX8) (N := 8) hx hb hts uw_X8 hown hK hP 0 rfl rfl 4 (by decide) (hts _ wm_2_85) (fun _ h9 => h9) rfl dX8_fits_12 ?_
      refine lv_iload hx hb dX8_fits_15 (lv_at hl 4 rfl) ?_
      obtain ⟨h_2, hw⟩ := hw
      refine va_iald hx hb hK hP 2 0 rfl rfl h_2 dX8_fits_17 ?_
      refine z_ki (z_rN (rest := []) hZ0 C0 hK hZ hA hP hD hS hl.1 (c_X1_distance l E Z hZ0 q1 H.size u1 x2 (u0.2.2.2.2.1 x4.toNatClampNeg) _ hw) yv_X8_78 [4, 5, 6, 7, 8] rfl (by decide) (ci := 1) rfl rfl 4 rfl ⟨Nat.le_of_ble_eq_true rfl, Nat.le_of_ble_eq_true rfl⟩ ⟨rfl, rfl⟩ rfl rfl (Nat.le_of_ble_eq_true rfl) ⟨Nat.le_of_ble_eq_true rfl, Nat.le_of_ble_eq_true rfl⟩ dX8_fits_18) hP hD hS hA [4, 5, 6, 7, 8] [0, 1, 2, 3] [0, 1, 2, 3, 4, 5, 6, 7, 8] rfl (wr := [_, _, _, _]) rfl (by decide) (by decide) (fun u => k_X8 E q0 u0 ++ (k_X1 E q1 u)) (fun u => rfl) (by decide) (fun r_4 u_3 H locs hw hP hD hS => ?_)
      refine lv_aload_n hx hb dX8_fits_21 rfl (lv_at hl 0 rfl) ?_
      refine va_get (D := zD E) (ci := 8) (v := .int u0.2.2.2.1) (C := RX8) (T := TX8) (N := 8) hx hb hts uw_X8 hown hK hP 0 rfl rfl 3 (by decide) (hts _ wm_2_84) (fun _ h9 => h9) rfl dX8_fits_22 ?_
      obtain ⟨hwt, hwf⟩ := hw
      refine lv_icmp_ge (tgt := 30) hx hb dX8_fits_25 (by decide) (fun c_5 => ?_) (fun c_5 => ?_)
      · have hw := hwt c_5
        obtain ⟨x_6, ex_6⟩ : ∃ y : Int32, y = x4 + 1 := ⟨_, rfl⟩
        have hw := hw x_6 ex_6
        refine lv_iinc (v := x_6) (lv' := [(4, .int x_6), (0, .ref (q0 0)), (1, .ref (q1 0)), (2, .int x2), (3, .int x3)]) hx hb dX8_fits_30 hl (k := 4) rfl (by rw [ex_6]; rfl) (by decide) rfl (fun ls hl => ?_)
        refine lv_goto (tgt := 3) hx hb dX8_fits_33 (by decide) ?_
        exact hk_3 x2 x3 x_6 u0 u_3 _ _ _ hw hP hD hS (lv_sub hl [1, 2, 3, 4, 0] rfl)
      · have hw := hwf c_5
        refine lv_iconst (v := 0) hx hb dX8_fits_28 rfl ?_
        exact z_zret (k := (fun u => k_X8 E q0 u.1 ++ (k_X1 E q1 u.2))) (u0, u_3) C0 rfl hP hD hS hw dX8_fits_29
set_option maxHeartbeats 4000000 in
set_option maxRecDepth 100000 in
theorem c_X8_fits (l : Launch) (E : zE) (Z : zZ) (hZ0 : zSt Z) (q0 : Nat → Nat) (q1 : Nat → Nat) (sz : Nat) (u0 : S_X8) (u1 : S_X1) (p2 : Int32) (p3 : Int32) (post : Int32 → (S_X8 × S_X1) → Prop) (hw : wp_X8_fits u0 u1 p2 p3 post) : Met l yX8_fits (zws yX8_fits cX8_fits 5 (some .boolean)) r_X8_fits (va_Pc [.ref (q0 0), .ref (q1 0), .int p2, .int p3] (zPre Z E (k_X8 E q0 u0 ++ (k_X1 E q1 u1)) sz)) (va_Qi post (zAt E (va_A (k_X8 E q0 u0 ++ (k_X1 E q1 u1)) sz) (fun u => k_X8 E q0 u.1 ++ (k_X1 E q1 u.2))) (va_A (k_X8 E q0 u0 ++ (k_X1 E q1 u1)) sz)) 0 0 (va_A (k_X8 E q0 u0 ++ (k_X1 E q1 u1)) sz) := by
  refine z_ofW (Qf := fun A => va_Qi post (zAt E A (fun u => k_X8 E q0 u.1 ++ (k_X1 E q1 u.2))) A) (by decide) (Nat.le_of_ble_eq_true rfl) ?_
  intro p e s m args below meth c A ls C0 hA hK hZ hP hD hS hl
  obtain ⟨hx, hb, hml, hr, hown, hts, hlocks, hin⟩ := id C0
  have hown : s.vm.findClass RX8 = some m.cls := hown
  have hl : lv_has ls 5 [(0, .ref (q0 0)), (1, .ref (q1 0)), (2, .int p2), (3, .int p3)] := hl
  refine lv_iconst (v := 0) hx hb dX8_fits_0 rfl ?_
  refine lv_istore (lv' := [(4, .int (0 : Int32)), (0, .ref (q0 0)), (1, .ref (q1 0)), (2, .int p2), (3, .int p3)]) hx hb dX8_fits_1 hl (by decide) rfl (fun ls hl => ?_)
  obtain ⟨n9, hw⟩ := hw
  exact t_X8_fits_3 (l := l) hZ0 C0 hA hK hZ post n9 p2 p3 (0 : Int32) u0 u1 _ _ _ hw hP hD hS (lv_sub hl [1, 2, 3, 4, 0] rfl)
abbrev r_X8_breachAt : Room := { frames := 0, cells := 0, slots := 0, locals := 0 }
def wp_X8_breachAt (u0 : S_X8) (p1 : Int32) (post : Int32 → S_X8 → Prop) : Prop := (u0.2.2.2.2.2.2.1 ≤ p1 → (post (-1 : Int32) u0)) ∧ (¬ (u0.2.2.2.2.2.2.1 ≤ p1) → (vp_in p1 4 ∧ (post (u0.2.2.2.2.2.1 p1.toNatClampNeg) u0)))
set_option maxHeartbeats 4000000 in
set_option maxRecDepth 100000 in
theorem c_X8_breachAt (l : Launch) (E : zE) (Z : zZ) (hZ0 : zSt Z) (q0 : Nat → Nat) (sz : Nat) (u0 : S_X8) (p1 : Int32) (post : Int32 → S_X8 → Prop) (hw : wp_X8_breachAt u0 p1 post) : Met l yX8_breachAt (zws yX8_breachAt cX8_breachAt 2 (some .int)) r_X8_breachAt (va_Pc [.ref (q0 0), .int p1] (zPre Z E (k_X8 E q0 u0) sz)) (va_Qi post (zAt E (va_A (k_X8 E q0 u0) sz) (fun u => k_X8 E q0 u)) (va_A (k_X8 E q0 u0) sz)) 0 0 (va_A (k_X8 E q0 u0) sz) := by
  refine z_ofW (Qf := fun A => va_Qi post (zAt E A (fun u => k_X8 E q0 u)) A) (by decide) (Nat.le_of_ble_eq_true rfl) ?_
  intro p e s m args below meth c A ls C0 hA hK hZ hP hD hS hl
  obtain ⟨hx, hb, hml, hr, hown, hts, hlocks, hin⟩ := id C0
  have hown : s.vm.findClass RX8 = some m.cls := hown
  have hl : lv_has ls 2 [(0, .ref (q0 0)), (1, .int p1)] := hl
  refine lv_iload_n hx hb dX8_breachAt_0 rfl (lv_at hl 1 rfl) ?_
  refine lv_aload_n hx hb dX8_breachAt_1 rfl (lv_at hl 0 rfl) ?_
  refine va_get (D := zD E) (ci := 8) (v := .int u0.2.2.2.2.2.2.1) (C := RX8) (T := TX8) (N := 8) hx hb hts uw_X8 hown hK hP 0 rfl rfl 6 (by decide) (hts _ wm_2_87) (fun _ h9 => h9) rfl dX8_breachAt_2 ?_
  obtain ⟨hwt, hwf⟩ := hw
  refine lv_icmp_ge (tgt := 17) hx hb dX8_breachAt_5 (by decide) (fun c_1 => ?_) (fun c_1 => ?_)
  · have hw := hwt c_1
    refine lv_iconst (v := (-1)) hx hb dX8_breachAt_17 rfl ?_
    exact z_iret (k := (fun u => k_X8 E q0 u)) u0 C0 hP hD hS hw dX8_breachAt_18
  · have hw := hwf c_1
    refine lv_aload_n hx hb dX8_breachAt_8 rfl (lv_at hl 0 rfl) ?_
    refine va_get (D := zD E) (ci := 8) (v := .ref (q0 3)) (C := RX8) (T := TX8) (N := 8) hx hb hts uw_X8 hown hK hP 0 rfl rfl 5 (by decide) (hts _ wm_2_86) (fun _ h9 => h9) rfl dX8_breachAt_9 ?_
    refine lv_iload_n hx hb dX8_breachAt_12 rfl (lv_at hl 1 rfl) ?_
    obtain ⟨h_2, hw⟩ := hw
    refine va_iald hx hb hK hP 3 0 rfl rfl h_2 dX8_breachAt_13 ?_
    refine lv_goto (tgt := 18) hx hb dX8_breachAt_14 (by decide) ?_
    exact z_iret (k := (fun u => k_X8 E q0 u)) u0 C0 hP hD hS hw dX8_breachAt_18
