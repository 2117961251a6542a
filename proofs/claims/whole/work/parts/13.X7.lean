abbrev r_X7_clear : Room := { frames := 0, cells := 0, slots := 0, locals := 0 }
def wp_X7_clear (u0 : S_X7) (post : S_X7 → Prop) : Prop := post ((0 : Int32), (0 : Int32), (0 : Int32), (0 : Int32), (0 : Int32), (0 : Int32), (0 : Int32), (0 : Int32), (0 : Int32), (0 : Int32), (0 : Int32), u0.2.2.2.2.2.2.2.2.2.2.2.1, u0.2.2.2.2.2.2.2.2.2.2.2.2.1, (0 : Int64), u0.2.2.2.2.2.2.2.2.2.2.2.2.2.2.1, u0.2.2.2.2.2.2.2.2.2.2.2.2.2.2.2)
set_option maxHeartbeats 4000000 in
set_option maxRecDepth 100000 in
theorem c_X7_clear (l : Launch) (E : zE) (Z : zZ) (hZ0 : zSt Z) (q0 : Nat → Nat) (sz : Nat) (u0 : S_X7) (post : S_X7 → Prop) (hw : wp_X7_clear u0 post) : Met l yX7_clear (zws yX7_clear cX7_clear 1 none) r_X7_clear (va_Pc [.ref (q0 0)] (zPre Z E (k_X7 E q0 u0) sz)) (va_Qv post (zAt E (va_A (k_X7 E q0 u0) sz) (fun u => k_X7 E q0 u)) (va_A (k_X7 E q0 u0) sz)) 0 0 (va_A (k_X7 E q0 u0) sz) := by
  refine z_ofW (Qf := fun A => va_Qv post (zAt E A (fun u => k_X7 E q0 u)) A) (by decide) (Nat.le_of_ble_eq_true rfl) ?_
  intro p e s m args below meth c A ls C0 hA hK hZ hP hD hS hl
  obtain ⟨hx, hb, hml, hr, hown, hts, hlocks, hin⟩ := id C0
  have hown : s.vm.findClass RX7 = some m.cls := hown
  have hl : lv_has ls 1 [(0, .ref (q0 0))] := hl
  refine lv_aload_n hx hb dX7_clear_0 rfl (lv_at hl 0 rfl) ?_
  refine lv_iconst (v := 0) hx hb dX7_clear_1 rfl ?_
  refine va_put (D := zD E) (ci := 7) (v := .int (0 : Int32)) (ty := .int) (C := RX7) (T := TX7) (N := 16) hx hb hts uw_X7 tyX7 tyX7_ok nmX7 hown hK hP hD hS 0 rfl rfl 0 (by decide) (hts _ wm_1_45) (fun _ h9 => h9) rfl (by decide +kernel) rfl rfl (Nat.le_of_ble_eq_true rfl) dX7_clear_2 (fun H locs hP hD hS => ?_)
  have hP : va_P (zD E) vwCl (k_X7 E q0 ((0 : Int32), u0.2.1, u0.2.2.1, u0.2.2.2.1, u0.2.2.2.2.1, u0.2.2.2.2.2.1, u0.2.2.2.2.2.2.1, u0.2.2.2.2.2.2.2.1, u0.2.2.2.2.2.2.2.2.1, u0.2.2.2.2.2.2.2.2.2.1, u0.2.2.2.2.2.2.2.2.2.2.1, u0.2.2.2.2.2.2.2.2.2.2.2.1, u0.2.2.2.2.2.2.2.2.2.2.2.2.1, u0.2.2.2.2.2.2.2.2.2.2.2.2.2.1, u0.2.2.2.2.2.2.2.2.2.2.2.2.2.2.1, u0.2.2.2.2.2.2.2.2.2.2.2.2.2.2.2)) H := hP
  have hD : va_D A (k_X7 E q0 ((0 : Int32), u0.2.1, u0.2.2.1, u0.2.2.2.1, u0.2.2.2.2.1, u0.2.2.2.2.2.1, u0.2.2.2.2.2.2.1, u0.2.2.2.2.2.2.2.1, u0.2.2.2.2.2.2.2.2.1, u0.2.2.2.2.2.2.2.2.2.1, u0.2.2.2.2.2.2.2.2.2.2.1, u0.2.2.2.2.2.2.2.2.2.2.2.1, u0.2.2.2.2.2.2.2.2.2.2.2.2.1, u0.2.2.2.2.2.2.2.2.2.2.2.2.2.1, u0.2.2.2.2.2.2.2.2.2.2.2.2.2.2.1, u0.2.2.2.2.2.2.2.2.2.2.2.2.2.2.2)) := hD
  refine lv_aload_n hx hb dX7_clear_5 rfl (lv_at hl 0 rfl) ?_
  refine lv_iconst (v := 0) hx hb dX7_clear_6 rfl ?_
  refine va_put (D := zD E) (ci := 7) (v := .int (0 : Int32)) (ty := .int) (C := RX7) (T := TX7) (N := 16) hx hb hts uw_X7 tyX7 tyX7_ok nmX7 hown hK hP hD hS 0 rfl rfl 1 (by decide) (hts _ wm_1_49) (fun _ h9 => h9) rfl (by decide +kernel) rfl rfl (Nat.le_of_ble_eq_true rfl) dX7_clear_7 (fun H locs hP hD hS => ?_)
  have hP : va_P (zD E) vwCl (k_X7 E q0 ((0 : Int32), (0 : Int32), u0.2.2.1, u0.2.2.2.1, u0.2.2.2.2.1, u0.2.2.2.2.2.1, u0.2.2.2.2.2.2.1, u0.2.2.2.2.2.2.2.1, u0.2.2.2.2.2.2.2.2.1, u0.2.2.2.2.2.2.2.2.2.1, u0.2.2.2.2.2.2.2.2.2.2.1, u0.2.2.2.2.2.2.2.2.2.2.2.1, u0.2.2.2.2.2.2.2.2.2.2.2.2.1, u0.2.2.2.2.2.2.2.2.2.2.2.2.2.1, u0.2.2.2.2.2.2.2.2.2.2.2.2.2.2.1, u0.2.2.2.2.2.2.2.2.2.2.2.2.2.2.2)) H := hP
  have hD : va_D A (k_X7 E q0 ((0 : Int32), (0 : Int32), u0.2.2.1, u0.2.2.2.1, u0.2.2.2.2.1, u0.2.2.2.2.2.1, u0.2.2.2.2.2.2.1, u0.2.2.2.2.2.2.2.1, u0.2.2.2.2.2.2.2.2.1, u0.2.2.2.2.2.2.2.2.2.1, u0.2.2.2.2.2.2.2.2.2.2.1, u0.2.2.2.2.2.2.2.2.2.2.2.1, u0.2.2.2.2.2.2.2.2.2.2.2.2.1, u0.2.2.2.2.2.2.2.2.2.2.2.2.2.1, u0.2.2.2.2.2.2.2.2.2.2.2.2.2.2.1, u0.2.2.2.2.2.2.2.2.2.2.2.2.2.2.2)) := hD
  refine lv_aload_n hx hb dX7_clear_10 rfl (lv_at hl 0 rfl) ?_
  refine lv_iconst (v := 0) hx hb dX7_clear_11 rfl ?_
  refine va_put (D := zD E) (ci := 7) (v := .int (0 : Int32)) (ty := .int) (C := RX7) (T := TX7) (N := 16) hx hb hts uw_X7 tyX7 tyX7_ok nmX7 hown hK hP hD hS 0 rfl rfl 2 (by decide) (hts _ wm_1_52) (fun _ h9 => h9) rfl (by decide +kernel) rfl rfl (Nat.le_of_ble_eq_true rfl) dX7_clear_12 (fun H locs hP hD hS => ?_)
  have hP : va_P (zD E) vwCl (k_X7 E q0 ((0 : Int32), (0 : Int32), (0 : Int32), u0.2.2.2.1, u0.2.2.2.2.1, u0.2.2.2.2.2.1, u0.2.2.2.2.2.2.1, u0.2.2.2.2.2.2.2.1, u0.2.2.2.2.2.2.2.2.1, u0.2.2.2.2.2.2.2.2.2.1, u0.2.2.2.2.2.2.2.2.2.2.1, u0.2.2.2.2.2.2.2.2.2.2.2.1, u0.2.2.2.2.2.2.2.2.2.2.2.2.1, u0.2.2.2.2.2.2.2.2.2.2.2.2.2.1, u0.2.2.2.2.2.2.2.2.2.2.2.2.2.2.1, u0.2.2.2.2.2.2.2.2.2.2.2.2.2.2.2)) H := hP
  have hD : va_D A (k_X7 E q0 ((0 : Int32), (0 : Int32), (0 : Int32), u0.2.2.2.1, u0.2.2.2.2.1, u0.2.2.2.2.2.1, u0.2.2.2.2.2.2.1, u0.2.2.2.2.2.2.2.1, u0.2.2.2.2.2.2.2.2.1, u0.2.2.2.2.2.2.2.2.2.1, u0.2.2.2.2.2.2.2.2.2.2.1, u0.2.2.2.2.2.2.2.2.2.2.2.1, u0.2.2.2.2.2.2.2.2.2.2.2.2.1, u0.2.2.2.2.2.2.2.2.2.2.2.2.2.1, u0.2.2.2.2.2.2.2.2.2.2.2.2.2.2.1, u0.2.2.2.2.2.2.2.2.2.2.2.2.2.2.2)) := hD
  refine lv_aload_n hx hb dX7_clear_15 rfl (lv_at hl 0 rfl) ?_
  refine lv_iconst (v := 0) hx hb dX7_clear_16 rfl ?_
  refine va_put (D := zD E) (ci := 7) (v := .int (0 : Int32)) (ty := .int) (C := RX7) (T := TX7) (N := 16) hx hb hts uw_X7 tyX7 tyX7_ok nmX7 hown hK hP hD hS 0 rfl rfl 3 (by decide) (hts _ wm_1_55) (fun _ h9 => h9) rfl (by decide +kernel) rfl rfl (Nat.le_of_ble_eq_true rfl) dX7_clear_17 (fun H locs hP hD hS => ?_)
  have hP : va_P (zD E) vwCl (k_X7 E q0 ((0 : Int32), (0 : Int32), (0 : Int32), (0 : Int32), u0.2.2.2.2.1, u0.2.2.2.2.2.1, u0.2.2.2.2.2.2.1, u0.2.2.2.2.2.2.2.1, u0.2.2.2.2.2.2.2.2.1, u0.2.2.2.2.2.2.2.2.2.1, u0.2.2.2.2.2.2.2.2.2.2.1, u0.2.2.2.2.2.2.2.2.2.2.2.1, u0.2.2.2.2.2.2.2.2.2.2.2.2.1, u0.2.2.2.2.2.2.2.2.2.2.2.2.2.1, u0.2.2.2.2.2.2.2.2.2.2.2.2.2.2.1, u0.2.2.2.2.2.2.2.2.2.2.2.2.2.2.2)) H := hP
  have hD : va_D A (k_X7 E q0 ((0 : Int32), (0 : Int32), (0 : Int32), (0 : Int32), u0.2.2.2.2.1, u0.2.2.2.2.2.1, u0.2.2.2.2.2.2.1, u0.2.2.2.2.2.2.2.1, u0.2.2.2.2.2.2.2.2.1, u0.2.2.2.2.2.2.2.2.2.1, u0.2.2.2.2.2.2.2.2.2.2.1, u0.2.2.2.2.2.2.2.2.2.2.2.1, u0.2.2.2.2.2.2.2.2.2.2.2.2.1, u0.2.2.2.2.2.2.2.2.2.2.2.2.2.1, u0.2.2.2.2.2.2.2.2.2.2.2.2.2.2.1, u0.2.2.2.2.2.2.2.2.2.2.2.2.2.2.2)) := hD
  refine lv_aload_n hx hb dX7_clear_20 rfl (lv_at hl 0 rfl) ?_
  refine lv_iconst (v := 0) hx hb dX7_clear_21 rfl ?_
  refine va_put (D := zD E) (ci := 7) (v := .int (0 : Int32)) (ty := .int) (C := RX7) (T := TX7) (N := 16) hx hb hts uw_X7 tyX7 tyX7_ok nmX7 hown hK hP hD hS 0 rfl rfl 4 (by decide) (hts _ wm_1_58) (fun _ h9 => h9) rfl (by decide +kernel) rfl rfl (Nat.le_of_ble_eq_true rfl) dX7_clear_22 (fun H locs hP hD hS => ?_)
  have hP : va_P (zD E) vwCl (k_X7 E q0 ((0 : Int32), (0 : Int32), (0 : Int32), (0 : Int32), (0 : Int32), u0.2.2.2.2.2.1, u0.2.2.2.2.2.2.1, u0.2.2.2.2.2.2.2.1, u0.2.2.2.2.2.2.2.2.1, u0.2.2.2.2.2.2.2.2.2.1, u0.2.2.2.2.2.2.2.2.2.2.1, u0.2.2.2.2.2.2.2.2.2.2.2.1, u0.2.2.2.2.2.2.2.2.2.2.2.2.1, u0.2.2.2.2.2.2.2.2.2.2.2.2.2.1, u0.2.2.2.2.2.2.2.2.2.2.2.2.2.2.1, u0.2.2.2.2.2.2.2.2.2.2.2.2.2.2.2)) H := hP
  have hD : va_D A (k_X7 E q0 ((0 : Int32), (0 : Int32), (0 : Int32), (0 : Int32), (0 : Int32), u0.2.2.2.2.2.1, u0.2.2.2.2.2.2.1, u0.2.2.2.2.2.2.2.1, u0.2.2.2.2.2.2.2.2.1, u0.2.2.2.2.2.2.2.2.2.1, u0.2.2.2.2.2.2.2.2.2.2.1, u0.2.2.2.2.2.2.2.2.2.2.2.1, u0.2.2.2.2.2.2.2.2.2.2.2.2.1, u0.2.2.2.2.2.2.2.2.2.2.2.2.2.1, u0.2.2.2.2.2.2.2.2.2.2.2.2.2.2.1, u0.2.2.2.2.2.2.2.2.2.2.2.2.2.2.2)) := hD
  refine lv_aload_n hx hb dX7_clear_25 rfl (lv_at hl 0 rfl) ?_
  refine lv_iconst (v := 0) hx hb dX7_clear_26 rfl ?_
  refine va_put (D := zD E) (ci := 7) (v := .int (0 : Int32)) (ty := .int) (C := RX7) (T := TX7) (N := 16) hx hb hts uw_X7 tyX7 tyX7_ok nmX7 hown hK hP hD hS 0 rfl rfl 5 (by decide) (hts _ wm_1_61) (fun _ h9 => h9) rfl (by decide +kernel) rfl rfl (Nat.le_of_ble_eq_true rfl) dX7_clear_27 (fun H locs hP hD hS => ?_)
  have hP : va_P (zD E) vwCl (k_X7 E q0 ((0 : Int32), (0 : Int32), (0 : Int32), (0 : Int32), (0 : Int32), (0 : Int32), u0.2.2.2.2.2.2.1, u0.2.2.2.2.2.2.2.1, u0.2.2.2.2.2.2.2.2.1, u0.2.2.2.2.2.2.2.2.2.1, u0.2.2.2.2.2.2.2.2.2.2.1, u0.2.2.2.2.2.2.2.2.2.2.2.1, u0.2.2.2.2.2.2.2.2.2.2.2.2.1, u0.2.2.2.2.2.2.2.2.2.2.2.2.2.1, u0.2.2.2.2.2.2.2.2.2.2.2.2.2.2.1, u0.2.2.2.2.2.2.2.2.2.2.2.2.2.2.2)) H := hP
  have hD : va_D A (k_X7 E q0 ((0 : Int32), (0 : Int32), (0 : Int32), (0 : Int32), (0 : Int32), (0 : Int32), u0.2.2.2.2.2.2.1, u0.2.2.2.2.2.2.2.1, u0.2.2.2.2.2.2.2.2.1, u0.2.2.2.2.2.2.2.2.2.1, u0.2.2.2.2.2.2.2.2.2.2.1, u0.2.2.2.2.2.2.2.2.2.2.2.1, u0.2.2.2.2.2.2.2.2.2.2.2.2.1, u0.2.2.2.2.2.2.2.2.2.2.2.2.2.1, u0.2.2.2.2.2.2.2.2.2.2.2.2.2.2.1, u0.2.2.2.2.2.2.2.2.2.2.2.2.2.2.2)) := hD
  refine lv_aload_n hx hb dX7_clear_30 rfl (lv_at hl 0 rfl) ?_
  refine lv_iconst (v := 0) hx hb dX7_clear_31 rfl ?_
  refine va_put (D := zD E) (ci := 7) (v := .int (0 : Int32)) (ty := .int) (C := RX7) (T := TX7) (N := 16) hx hb hts uw_X7 tyX7 tyX7_ok nmX7 hown hK hP hD hS 0 rfl rfl 6 (by decide) (hts _ wm_1_64) (fun _ h9 => h9) rfl (by decide +kernel) rfl rfl (Nat.le_of_ble_eq_true rfl) dX7_clear_32 (fun H locs hP hD hS => ?_)
  have hP : va_P (zD E) vwCl (k_X7 E q0 ((0 : Int32), (0 : Int32), (0 : Int32), (0 : Int32), (0 : Int32), (0 : Int32), (0 : Int32), u0.2.2.2.2.2.2.2.1, u0.2.2.2.2.2.2.2.2.1, u0.2.2.2.2.2.2.2.2.2.1, u0.2.2.2.2.2.2.2.2.2.2.1, u0.2.2.2.2.2.2.2.2.2.2.2.1, u0.2.2.2.2.2.2.2.2.2.2.2.2.1, u0.2.2.2.2.2.2.2.2.2.2.2.2.2.1, u0.2.2.2.2.2.2.2.2.2.2.2.2.2.2.1, u0.2.2.2.2.2.2.2.2.2.2.2.2.2.2.2)) H := hP
  have hD : va_D A (k_X7 E q0 ((0 : Int32), (0 : Int32), (0 : Int32), (0 : Int32), (0 : Int32), (0 : Int32), (0 : Int32), u0.2.2.2.2.2.2.2.1, u0.2.2.2.2.2.2.2.2.1, u0.2.2.2.2.2.2.2.2.2.1, u0.2.2.2.2.2.2.2.2.2.2.1, u0.2.2.2.2.2.2.2.2.2.2.2.1, u0.2.2.2.2.2.2.2.2.2.2.2.2.1, u0.2.2.2.2.2.2.2.2.2.2.2.2.2.1, u0.2.2.2.2.2.2.2.2.2.2.2.2.2.2.1, u0.2.2.2.2.2.2.2.2.2.2.2.2.2.2.2)) := hD
  refine lv_aload_n hx hb dX7_clear_35 rfl (lv_at hl 0 rfl) ?_
  refine lv_iconst (v := 0) hx hb dX7_clear_36 rfl ?_
  refine va_put (D := zD E) (ci := 7) (v := .int (0 : Int32)) (ty := .int) (C := RX7) (T := TX7) (N := 16) hx hb hts uw_X7 tyX7 tyX7_ok nmX7 hown hK hP hD hS 0 rfl rfl 7 (by decide) (hts _ wm_1_67) (fun _ h9 => h9) rfl (by decide +kernel) rfl rfl (Nat.le_of_ble_eq_true rfl) dX7_clear_37 (fun H locs hP hD hS => ?_)
  have hP : va_P (zD E) vwCl (k_X7 E q0 ((0 : Int32), (0 : Int32), (0 : Int32), (0 : Int32), (0 : Int32), (0 : Int32), (0 : Int32), (0 : Int32), u0.2.2.2.2.2.2.2.2.1, u0.2.2.2.2.2.2.2.2.2.1, u0.2.2.2.2.2.2.2.2.2.2.1, u0.2.2.2.2.2.2.2.2.2.2.2.1, u0.2.2.2.2.2.2.2.2.2.2.2.2.1, u0.2.2.2.2.2.2.2.2.2.2.2.2.2.1, u0.2.2.2.2.2.2.2.2.2.2.2.2.2.2.1, u0.2.2.2.2.2.2.2.2.2.2.2.2.2.2.2)) H := hP
  have hD : va_D A (k_X7 E q0 ((0 : Int32), (0 : Int32), (0 : Int32), (0 : Int32), (0 : Int32), (0 : Int32), (0 : Int32), (0 : Int32), u0.2.2.2.2.2.2.2.2.1, u0.2.2.2.2.2.2.2.2.2.1, u0.2.2.2.2.2.2.2.2.2.2.1, u0.2.2.2.2.2.2.2.2.2.2.2.1, u0.2.2.2.2.2.2.2.2.2.2.2.2.1, u0.2.2.2.2.2.2.2.2.2.2.2.2.2.1, u0.2.2.2.2.2.2.2.2.2.2.2.2.2.2.1, u0.2.2.2.2.2.2.2.2.2.2.2.2.2.2.2)) := hD
  refine lv_aload_n hx hb dX7_clear_40 rfl (lv_at hl 0 rfl) ?_
  refine lv_iconst (v := 0) hx hb dX7_clear_41 rfl ?_
  refine va_put (D := zD E) (ci := 7) (v := .int (0 : Int32)) (ty := .int) (C := RX7) (T := TX7) (N := 16) hx hb hts uw_X7 tyX7 tyX7_ok nmX7 hown hK hP hD hS 0 rfl rfl 8 (by decide) (hts _ wm_1_70) (fun _ h9 => h9) rfl (by decide +kernel) rfl rfl (Nat.le_of_ble_eq_true rfl) dX7_clear_42 (fun H locs hP hD hS => ?_)
  have hP : va_P (zD E) vwCl (k_X7 E q0 ((0 : Int32), (0 : Int32), (0 : Int32), (0 : Int32), (0 : Int32), (0 : Int32), (0 : Int32), (0 : Int32), (0 : Int32), u0.2.2.2.2.2.2.2.2.2.1, u0.2.2.2.2.2.2.2.2.2.2.1, u0.2.2.2.2.2.2.2.2.2.2.2.1, u0.2.2.2.2.2.2.2.2.2.2.2.2.1, u0.2.2.2.2.2.2.2.2.2.2.2.2.2.1, u0.2.2.2.2.2.2.2.2.2.2.2.2.2.2.1, u0.2.2.2.2.2.2.2.2.2.2.2.2.2.2.2)) H := hP
  have hD : va_D A (k_X7 E q0 ((0 : Int32), (0 : Int32), (0 : Int32), (0 : Int32), (0 : Int32), (0 : Int32), (0 : Int32), (0 : Int32), (0 : Int32), u0.2.2.2.2.2.2.2.2.2.1, u0.2.2.2.2.2.2.2.2.2.2.1, u0.2.2.2.2.2.2.2.2.2.2.2.1, u0.2.2.2.2.2.2.2.2.2.2.2.2.1, u0.2.2.2.2.2.2.2.2.2.2.2.2.2.1, u0.2.2.2.2.2.2.2.2.2.2.2.2.2.2.1, u0.2.2.2.2.2.2.2.2.2.2.2.2.2.2.2)) := hD
  refine lv_aload_n hx hb dX7_clear_45 rfl (lv_at hl 0 rfl) ?_
  refine lv_iconst (v := 0) hx hb dX7_clear_46 rfl ?_
  refine va_put (D := zD E) (ci := 7) (v := .int (0 : Int32)) (ty := .int) (C := RX7) (T := TX7) (N := 16) hx hb hts uw_X7 tyX7 tyX7_ok nmX7 hown hK hP hD hS 0 rfl rfl 9 (by decide) (hts _ wm_1_75) (fun _ h9 => h9) rfl (by decide +kernel) rfl rfl (Nat.le_of_ble_eq_true rfl) dX7_clear_47 (fun H locs hP hD hS => ?_)
  have hP : va_P (zD E) vwCl (k_X7 E q0 ((0 : Int32), (0 : Int32), (0 : Int32), (0 : Int32), (0 : Int32), (0 : Int32), (0 : Int32), (0 : Int32), (0 : Int32), (0 : Int32), u0.2.2.2.2.2.2.2.2.2.2.1, u0.2.2.2.2.2.2.2.2.2.2.2.1, u0.2.2.2.2.2.2.2.2.2.2.2.2.1, u0.2.2.2.2.2.2.2.2.2.2.2.2.2.1, u0.2.2.2.2.2.2.2.2.2.2.2.2.2.2.1, u0.2.2.2.2.2.2.2.2.2.2.2.2.2.2.2)) H := hP
  have hD : va_D A (k_X7 E q0 ((0 : Int32), (0 : Int32), (0 : Int32), (0 : Int32), (0 : Int32), (0 : Int32), (0 : Int32), (0 : Int32), (0 : Int32), (0 : Int32), u0.2.2.2.2.2.2.2.2.2.2.1, u0.2.2.2.2.2.2.2.2.2.2.2.1, u0.2.2.2.2.2.2.2.2.2.2.2.2.1, u0.2.2.2.2.2.2.2.2.2.2.2.2.2.1, u0.2.2.2.2.2.2.2.2.2.2.2.2.2.2.1, u0.2.2.2.2.2.2.2.2.2.2.2.2.2.2.2)) := hD
  refine lv_aload_n hx hb dX7_clear_50 rfl (lv_at hl 0 rfl) ?_
  refine lv_iconst (v := 0) hx hb dX7_clear_51 rfl ?_
  refine va_put (D := zD E) (ci := 7) (v := .int (0 : Int32)) (ty := .int) (C := RX7) (T := TX7) (N := 16) hx hb hts uw_X7 tyX7 tyX7_ok nmX7 hown hK hP hD hS 0 rfl rfl 10 (by decide) (hts _ wm_1_79) (fun _ h9 => h9) rfl (by decide +kernel) rfl rfl (Nat.le_of_ble_eq_true rfl) dX7_clear_52 (fun H locs hP hD hS => ?_)
  have hP : va_P (zD E) vwCl (k_X7 E q0 ((0 : Int32), (0 : Int32), (0 : Int32), (0 : Int32), (0 : Int32), (0 : Int32), (0 : Int32), (0 : Int32), (0 : Int32), (0 : Int32), (0 : Int32), u0.2.2.2.2.2.2.2.2.2.2.2.1, u0.2.2.2.2.2.2.2.2.2.2.2.2.1, u0.2.2.2.2.2.2.2.2.2.2.2.2.2.1, u0.2.2.2.2.2.2.2.2.2.2.2.2.2.2.1, u0.2.2.2.2.2.2.2.2.2.2.2.2.2.2.2)) H := hP
  have hD : va_D A (k_X7 E q0 ((0 : Int32), (0 : Int32), (0 : Int32), (0 : Int32), (0 : Int32), (0 : Int32), (0 : Int32), (0 : Int32), (0 : Int32), (0 : Int32), (0 : Int32), u0.2.2.2.2.2.2.2.2.2.2.2.1, u0.2.2.2.2.2.2.2.2.2.2.2.2.1, u0.2.2.2.2.2.2.2.2.2.2.2.2.2.1, u0.2.2.2.2.2.2.2.2.2.2.2.2.2.2.1, u0.2.2.2.2.2.2.2.2.2.2.2.2.2.2.2)) := hD
  refine lv_aload_n hx hb dX7_clear_55 rfl (lv_at hl 0 rfl) ?_
  refine lv_lconst (v := 0) hx hb dX7_clear_56 rfl ?_
  refine va_put (D := zD E) (ci := 7) (v := .long (0 : Int64)) (ty := .long) (C := RX7) (T := TX7) (N := 16) hx hb hts uw_X7 tyX7 tyX7_ok nmX7 hown hK hP hD hS 0 rfl rfl 13 (by decide) (hts _ wm_1_85) (fun _ h9 => h9) rfl (by decide +kernel) rfl rfl (Nat.le_of_ble_eq_true rfl) dX7_clear_57 (fun H locs hP hD hS => ?_)
  have hP : va_P (zD E) vwCl (k_X7 E q0 ((0 : Int32), (0 : Int32), (0 : Int32), (0 : Int32), (0 : Int32), (0 : Int32), (0 : Int32), (0 : Int32), (0 : Int32), (0 : Int32), (0 : Int32), u0.2.2.2.2.2.2.2.2.2.2.2.1, u0.2.2.2.2.2.2.2.2.2.2.2.2.1, (0 : Int64), u0.2.2.2.2.2.2.2.2.2.2.2.2.2.2.1, u0.2.2.2.2.2.2.2.2.2.2.2.2.2.2.2)) H := hP
  have hD : va_D A (k_X7 E q0 ((0 : Int32), (0 : Int32), (0 : Int32), (0 : Int32), (0 : Int32), (0 : Int32), (0 : Int32), (0 : Int32), (0 : Int32), (0 : Int32), (0 : Int32), u0.2.2.2.2.2.2.2.2.2.2.2.1, u0.2.2.2.2.2.2.2.2.2.2.2.2.1, (0 : Int64), u0.2.2.2.2.2.2.2.2.2.2.2.2.2.2.1, u0.2.2.2.2.2.2.2.2.2.2.2.2.2.2.2)) := hD
  exact z_vret (k := (fun u => k_X7 E q0 u)) ((0 : Int32), (0 : Int32), (0 : Int32), (0 : Int32), (0 : Int32), (0 : Int32), (0 : Int32), (0 : Int32), (0 : Int32), (0 : Int32), (0 : Int32), u0.2.2.2.2.2.2.2.2.2.2.2.1, u0.2.2.2.2.2.2.2.2.2.2.2.2.1, (0 : Int64), u0.2.2.2.2.2.2.2.2.2.2.2.2.2.2.1, u0.2.2.2.2.2.2.2.2.2.2.2.2.2.2.2) C0 hP hD hS hw dX7_clear_60
abbrev r_X7_copyFrom : Room := { frames := 1, cells := 0, slots := 0, locals := 40 }
def wp_X7_copyFrom (u0 : S_X7) (u1 : S_X7) (post : (S_X7 × S_X7) → Prop) : Prop := post ((u1.1, u1.2.1, u1.2.2.1, u1.2.2.2.1, u1.2.2.2.2.1, u1.2.2.2.2.2.1, u1.2.2.2.2.2.2.1, u1.2.2.2.2.2.2.2.1, u1.2.2.2.2.2.2.2.2.1, u1.2.2.2.2.2.2.2.2.2.1, u1.2.2.2.2.2.2.2.2.2.2.1, (va_cpy u1.2.2.2.2.2.2.2.2.2.2.2.1 u0.2.2.2.2.2.2.2.2.2.2.2.1 0 0 6), (va_cpy u1.2.2.2.2.2.2.2.2.2.2.2.2.1 u0.2.2.2.2.2.2.2.2.2.2.2.2.1 0 0 6), u1.2.2.2.2.2.2.2.2.2.2.2.2.2.1, (va_cpy u1.2.2.2.2.2.2.2.2.2.2.2.2.2.2.1 u0.2.2.2.2.2.2.2.2.2.2.2.2.2.2.1 0 0 40), (va_cpy u1.2.2.2.2.2.2.2.2.2.2.2.2.2.2.2 u0.2.2.2.2.2.2.2.2.2.2.2.2.2.2.2 0 0 40)), u1)
set_option maxHeartbeats 4000000 in
set_option maxRecDepth 100000 in
theorem c_X7_copyFrom (l : Launch) (E : zE) (Z : zZ) (hZ0 : zSt Z) (q0 : Nat → Nat) (q1 : Nat → Nat) (sz : Nat) (u0 : S_X7) (u1 : S_X7) (post : (S_X7 × S_X7) → Prop) (hw : wp_X7_copyFrom u0 u1 post) : Met l yX7_copyFrom (zws yX7_copyFrom cX7_copyFrom 2 none) r_X7_copyFrom (va_Pc [.ref (q0 0), .ref (q1 0)] (zPre Z E (k_X7 E q0 u0 ++ (k_X7 E q1 u1)) sz)) (va_Qv post (zAt E (va_A (k_X7 E q0 u0 ++ (k_X7 E q1 u1)) sz) (fun u => k_X7 E q0 u.1 ++ (k_X7 E q1 u.2))) (va_A (k_X7 E q0 u0 ++ (k_X7 E q1 u1)) sz)) 0 0 (va_A (k_X7 E q0 u0 ++ (k_X7 E q1 u1)) sz) := by
  refine z_ofW (Qf := fun A => va_Qv post (zAt E A (fun u => k_X7 E q0 u.1 ++ (k_X7 E q1 u.2))) A) (by decide) (Nat.le_of_ble_eq_true rfl) ?_
  intro p e s m args below meth c A ls C0 hA hK hZ hP hD hS hl
  obtain ⟨hx, hb, hml, hr, hown, hts, hlocks, hin⟩ := id C0
  have hown : s.vm.findClass RX7 = some m.cls := hown
  have hl : lv_has ls 2 [(0, .ref (q0 0)), (1, .ref (q1 0))] := hl
  refine lv_aload_n hx hb dX7_copyFrom_0 rfl (lv_at hl 0 rfl) ?_
  refine lv_aload_n hx hb dX7_copyFrom_1 rfl (lv_at hl 1 rfl) ?_
  refine va_get (D := zD E) (ci := 7) (v := .int u1.1) (C := RX7) (T := TX7) (N := 16) hx hb hts uw_X7 hown hK hP 5 rfl rfl 0 (by decide) (hts _ wm_1_45) (fun _ h9 => h9) rfl dX7_copyFrom_2 ?_
  refine va_put (D := zD E) (ci := 7) (v := .int u1.1) (ty := .int) (C := RX7) (T := TX7) (N := 16) hx hb hts uw_X7 tyX7 tyX7_ok nmX7 hown hK hP hD hS 0 rfl rfl 0 (by decide) (hts _ wm_1_45) (fun _ h9 => h9) rfl (by decide +kernel) rfl rfl (Nat.le_of_ble_eq_true rfl) dX7_copyFrom_5 (fun H locs hP hD hS => ?_)
  have hP : va_P (zD E) vwCl (k_X7 E q0 (u1.1, u0.2.1, u0.2.2.1, u0.2.2.2.1, u0.2.2.2.2.1, u0.2.2.2.2.2.1, u0.2.2.2.2.2.2.1, u0.2.2.2.2.2.2.2.1, u0.2.2.2.2.2.2.2.2.1, u0.2.2.2.2.2.2.2.2.2.1, u0.2.2.2.2.2.2.2.2.2.2.1, u0.2.2.2.2.2.2.2.2.2.2.2.1, u0.2.2.2.2.2.2.2.2.2.2.2.2.1, u0.2.2.2.2.2.2.2.2.2.2.2.2.2.1, u0.2.2.2.2.2.2.2.2.2.2.2.2.2.2.1, u0.2.2.2.2.2.2.2.2.2.2.2.2.2.2.2) ++ (k_X7 E q1 u1)) H := hP
  have hD : va_D A (k_X7 E q0 (u1.1, u0.2.1, u0.2.2.1, u0.2.2.2.1, u0.2.2.2.2.1, u0.2.2.2.2.2.1, u0.2.2.2.2.2.2.1, u0.2.2.2.2.2.2.2.1, u0.2.2.2.2.2.2.2.2.1, u0.2.2.2.2.2.2.2.2.2.1, u0.2.2.2.2.2.2.2.2.2.2.1, u0.2.2.2.2.2.2.2.2.2.2.2.1, u0.2.2.2.2.2.2.2.2.2.2.2.2.1, u0.2.2.2.2.2.2.2.2.2.2.2.2.2.1, u0.2.2.2.2.2.2.2.2.2.2.2.2.2.2.1, u0.2.2.2.2.2.2.2.2.2.2.2.2.2.2.2) ++ (k_X7 E q1 u1)) := hD
  refine lv_aload_n hx hb dX7_copyFrom_8 rfl (lv_at hl 0 rfl) ?_
  refine lv_aload_n hx hb dX7_copyFrom_9 rfl (lv_at hl 1 rfl) ?_
  refine va_get (D := zD E) (ci := 7) (v := .int u1.2.1) (C := RX7) (T := TX7) (N := 16) hx hb hts uw_X7 hown hK hP 5 rfl rfl 1 (by decide) (hts _ wm_1_49) (fun _ h9 => h9) rfl dX7_copyFrom_10 ?_
  refine va_put (D := zD E) (ci := 7) (v := .int u1.2.1) (ty := .int) (C := RX7) (T := TX7) (N := 16) hx hb hts uw_X7 tyX7 tyX7_ok nmX7 hown hK hP hD hS 0 rfl rfl 1 (by decide) (hts _ wm_1_49) (fun _ h9 => h9) rfl (by decide +kernel) rfl rfl (Nat.le_of_ble_eq_true rfl) dX7_copyFrom_13 (fun H locs hP hD hS => ?_)
  have hP : va_P (zD E) vwCl (k_X7 E q0 (u1.1, u1.2.1, u0.2.2.1, u0.2.2.2.1, u0.2.2.2.2.1, u0.2.2.2.2.2.1, u0.2.2.2.2.2.2.1, u0.2.2.2.2.2.2.2.1, u0.2.2.2.2.2.2.2.2.1, u0.2.2.2.2.2.2.2.2.2.1, u0.2.2.2.2.2.2.2.2.2.2.1, u0.2.2.2.2.2.2.2.2.2.2.2.1, u0.2.2.2.2.2.2.2.2.2.2.2.2.1, u0.2.2.2.2.2.2.2.2.2.2.2.2.2.1, u0.2.2.2.2.2.2.2.2.2.2.2.2.2.2.1, u0.2.2.2.2.2.2.2.2.2.2.2.2.2.2.2) ++ (k_X7 E q1 u1)) H := hP
  have hD : va_D A (k_X7 E q0 (u1.1, u1.2.1, u0.2.2.1, u0.2.2.2.1, u0.2.2.2.2.1, u0.2.2.2.2.2.1, u0.2.2.2.2.2.2.1, u0.2.2.2.2.2.2.2.1, u0.2.2.2.2.2.2.2.2.1, u0.2.2.2.2.2.2.2.2.2.1, u0.2.2.2.2.2.2.2.2.2.2.1, u0.2.2.2.2.2.2.2.2.2.2.2.1, u0.2.2.2.2.2.2.2.2.2.2.2.2.1, u0.2.2.2.2.2.2.2.2.2.2.2.2.2.1, u0.2.2.2.2.2.2.2.2.2.2.2.2.2.2.1, u0.2.2.2.2.2.2.2.2.2.2.2.2.2.2.2) ++ (k_X7 E q1 u1)) := hD
  refine lv_aload_n hx hb dX7_copyFrom_16 rfl (lv_at hl 0 rfl) ?_
  refine lv_aload_n hx hb dX7_copyFrom_17 rfl (lv_at hl 1 rfl) ?_
  refine va_get (D := zD E) (ci := 7) (v := .int u1.2.2.1) (C := RX7) (T := TX7) (N := 16) hx hb hts uw_X7 hown hK hP 5 rfl rfl 2 (by decide) (hts _ wm_1_52) (fun _ h9 => h9) rfl dX7_copyFrom_18 ?_
  refine va_put (D := zD E) (ci := 7) (v := .int u1.2.2.1) (ty := .int) (C := RX7) (T := TX7) (N := 16) hx hb hts uw_X7 tyX7 tyX7_ok nmX7 hown hK hP hD hS 0 rfl rfl 2 (by decide) (hts _ wm_1_52) (fun _ h9 => h9) rfl (by decide +kernel) rfl rfl (Nat.le_of_ble_eq_true rfl) dX7_copyFrom_21 (fun H locs hP hD hS => ?_)
  have hP : va_P (zD E) vwCl (k_X7 E q0 (u1.1, u1.2.1, u1.2.2.1, u0.2.2.2.1, u0.2.2.2.2.1, u0.2.2.2.2.2.1, u0.2.2.2.2.2.2.1, u0.2.2.2.2.2.2.2.1, u0.2.2.2.2.2.2.2.2.1, u0.2.2.2.2.2.2.2.2.2.1, u0.2.2.2.2.2.2.2.2.2.2.1, u0.2.2.2.2.2.2.2.2.2.2.2.1, u0.2.2.2.2.2.2.2.2.2.2.2.2.1, u0.2.2.2.2.2.2.2.2.2.2.2.2.2.1, u0.2.2.2.2.2.2.2.2.2.2.2.2.2.2.1, u0.2.2.2.2.2.2.2.2.2.2.2.2.2.2.2) ++ (k_X7 E q1 u1)) H := hP
  have hD : va_D A (k_X7 E q0 (u1.1, u1.2.1, u1.2.2.1, u0.2.2.2.1, u0.2.2.2.2.1, u0.2.2.2.2.2.1, u0.2.2.2.2.2.2.1, u0.2.2.2.2.2.2.2.1, u0.2.2.2.2.2.2.2.2.1, u0.2.2.2.2.2.2.2.2.2.1, u0.2.2.2.2.2.2.2.2.2.2.1, u0.2.2.2.2.2.2.2.2.2.2.2.1, u0.2.2.2.2.2.2.2.2.2.2.2.2.1, u0.2.2.2.2.2.2.2.2.2.2.2.2.2.1, u0.2.2.2.2.2.2.2.2.2.2.2.2.2.2.1, u0.2.2.2.2.2.2.2.2.2.2.2.2.2.2.2) ++ (k_X7 E q1 u1)) := hD
  refine lv_aload_n hx hb dX7_copyFrom_24 rfl (lv_at hl 0 rfl) ?_
  refine lv_aload_n hx hb dX7_copyFrom_25 rfl (lv_at hl 1 rfl) ?_
  refine va_get (D := zD E) (ci := 7) (v := .int u1.2.2.2.1) (C := RX7) (T := TX7) (N := 16) hx hb hts uw_X7 hown hK hP 5 rfl rfl 3 (by decide) (hts _ wm_1_55) (fun _ h9 => h9) rfl dX7_copyFrom_26 ?_
  refine va_put (D := zD E) (ci := 7) (v := .int u1.2.2.2.1) (ty := .int) (C := RX7) (T := TX7) (N := 16) hx hb hts uw_X7 tyX7 tyX7_ok nmX7 hown hK hP hD hS 0 rfl rfl 3 (by decide) (hts _ wm_1_55) (fun _ h9 => h9) rfl (by decide +kernel) rfl rfl (Nat.le_of_ble_eq_true rfl) dX7_copyFrom_29 (fun H locs hP hD hS => ?_)
  have hP : va_P (zD E) vwCl (k_X7 E q0 (u1.1, u1.2.1, u1.2.2.1, u1.2.2.2.1, u0.2.2.2.2.1, u0.2.2.2.2.2.1, u0.2.2.2.2.2.2.1, u0.2.2.2.2.2.2.2.1, u0.2.2.2.2.2.2.2.2.1, u0.2.2.2.2.2.2.2.2.2.1, u0.2.2.2.2.2.2.2.2.2.2.1, u0.2.2.2.2.2.2.2.2.2.2.2.1, u0.2.2.2.2.2.2.2.2.2.2.2.2.1, u0.2.2.2.2.2.2.2.2.2.2.2.2.2.1, u0.2.2.2.2.2.2.2.2.2.2.2.2.2.2.1, u0.2.2.2.2.2.2.2.2.2.2.2.2.2.2.2) ++ (k_X7 E q1 u1)) H := hP
  have hD : va_D A (k_X7 E q0 (u1.1, u1.2.1, u1.2.2.1, u1.2.2.2.1, u0.2.2.2.2.1, u0.2.2.2.2.2.1, u0.2.2.2.2.2.2.1, u0.2.2.2.2.2.2.2.1, u0.2.2.2.2.2.2.2.2.1, u0.2.2.2.2.2.2.2.2.2.1, u0.2.2.2.2.2.2.2.2.2.2.1, u0.2.2.2.2.2.2.2.2.2.2.2.1, u0.2.2.2.2.2.2.2.2.2.2.2.2.1, u0.2.2.2.2.2.2.2.2.2.2.2.2.2.1, u0.2.2.2.2.2.2.2.2.2.2.2.2.2.2.1, u0.2.2.2.2.2.2.2.2.2.2.2.2.2.2.2) ++ (k_X7 E q1 u1)) := hD
  refine lv_aload_n hx hb dX7_copyFrom_32 rfl (lv_at hl 0 rfl) ?_
  refine lv_aload_n hx hb dX7_copyFrom_33 rfl (lv_at hl 1 rfl) ?_
  refine va_get (D := zD E) (ci := 7) (v := .int u1.2.2.2.2.1) (C := RX7) (T := TX7) (N := 16) hx hb hts uw_X7 hown hK hP 5 rfl rfl 4 (by decide) (hts _ wm_1_58) (fun _ h9 => h9) rfl dX7_copyFrom_34 ?_
  refine va_put (D := zD E) (ci := 7) (v := .int u1.2.2.2.2.1) (ty := .int) (C := RX7) (T := TX7) (N := 16) hx hb hts uw_X7 tyX7 tyX7_ok nmX7 hown hK hP hD hS 0 rfl rfl 4 (by decide) (hts _ wm_1_58) (fun _ h9 => h9) rfl (by decide +kernel) rfl rfl (Nat.le_of_ble_eq_true rfl) dX7_copyFrom_37 (fun H locs hP hD hS => ?_)
  have hP : va_P (zD E) vwCl (k_X7 E q0 (u1.1, u1.2.1, u1.2.2.1, u1.2.2.2.1, u1.2.2.2.2.1, u0.2.2.2.2.2.1, u0.2.2.2.2.2.2.1, u0.2.2.2.2.2.2.2.1, u0.2.2.2.2.2.2.2.2.1, u0.2.2.2.2.2.2.2.2.2.1, u0.2.2.2.2.2.2.2.2.2.2.1, u0.2.2.2.2.2.2.2.2.2.2.2.1, u0.2.2.2.2.2.2.2.2.2.2.2.2.1, u0.2.2.2.2.2.2.2.2.2.2.2.2.2.1, u0.2.2.2.2.2.2.2.2.2.2.2.2.2.2.1, u0.2.2.2.2.2.2.2.2.2.2.2.2.2.2.2) ++ (k_X7 E q1 u1)) H := hP
  have hD : va_D A (k_X7 E q0 (u1.1, u1.2.1, u1.2.2.1, u1.2.2.2.1, u1.2.2.2.2.1, u0.2.2.2.2.2.1, u0.2.2.2.2.2.2.1, u0.2.2.2.2.2.2.2.1, u0.2.2.2.2.2.2.2.2.1, u0.2.2.2.2.2.2.2.2.2.1, u0.2.2.2.2.2.2.2.2.2.2.1, u0.2.2.2.2.2.2.2.2.2.2.2.1, u0.2.2.2.2.2.2.2.2.2.2.2.2.1, u0.2.2.2.2.2.2.2.2.2.2.2.2.2.1, u0.2.2.2.2.2.2.2.2.2.2.2.2.2.2.1, u0.2.2.2.2.2.2.2.2.2.2.2.2.2.2.2) ++ (k_X7 E q1 u1)) := hD
  refine lv_aload_n hx hb dX7_copyFrom_40 rfl (lv_at hl 0 rfl) ?_
  refine lv_aload_n hx hb dX7_copyFrom_41 rfl (lv_at hl 1 rfl) ?_
  refine va_get (D := zD E) (ci := 7) (v := .int u1.2.2.2.2.2.1) (C := RX7) (T := TX7) (N := 16) hx hb hts uw_X7 hown hK hP 5 rfl rfl 5 (by decide) (hts _ wm_1_61) (fun _ h9 => h9) rfl dX7_copyFrom_42 ?_
  refine va_put (D := zD E) (ci := 7) (v := .int u1.2.2.2.2.2.1) (ty := .int) (C := RX7) (T := TX7) (N := 16) hx hb hts uw_X7 tyX7 tyX7_ok nmX7 hown hK hP hD hS 0 rfl rfl 5 (by decide) (hts _ wm_1_61) (fun _ h9 => h9) rfl (by decide +kernel) rfl rfl (Nat.le_of_ble_eq_true rfl) dX7_copyFrom_45 (fun H locs hP hD hS => ?_)
  have hP : va_P (zD E) vwCl (k_X7 E q0 (u1.1, u1.2.1, u1.2.2.1, u1.2.2.2.1, u1.2.2.2.2.1, u1.2.2.2.2.2.1, u0.2.2.2.2.2.2.1, u0.2.2.2.2.2.2.2.1, u0.2.2.2.2.2.2.2.2.1, u0.2.2.2.2.2.2.2.2.2.1, u0.2.2.2.2.2.2.2.2.2.2.1, u0.2.2.2.2.2.2.2.2.2.2.2.1, u0.2.2.2.2.2.2.2.2.2.2.2.2.1, u0.2.2.2.2.2.2.2.2.2.2.2.2.2.1, u0.2.2.2.2.2.2.2.2.2.2.2.2.2.2.1, u0.2.2.2.2.2.2.2.2.2.2.2.2.2.2.2) ++ (k_X7 E q1 u1)) H := hP
  have hD : va_D A (k_X7 E q0 (u1.1, u1.2.1, u1.2.2.1, u1.2.2.2.1, u1.2.2.2.2.1, u1.2.2.2.2.2.1, u0.2.2.2.2.2.2.1, u0.2.2.2.2.2.2.2.1, u0.2.2.2.2.2.2.2.2.1, u0.2.2.2.2.2.2.2.2.2.1, u0.2.2.2.2.2.2.2.2.2.2.1, u0.2.2.2.2.2.2.2.2.2.2.2.1, u0.2.2.2.2.2.2.2.2.2.2.2.2.1, u0.2.2.2.2.2.2.2.2.2.2.2.2.2.1, u0.2.2.2.2.2.2.2.2.2.2.2.2.2.2.1, u0.2.2.2.2.2.2.2.2.2.2.2.2.2.2.2) ++ (k_X7 E q1 u1)) := hD
  refine lv_aload_n hx hb dX7_copyFrom_48 rfl (lv_at hl 0 rfl) ?_
  refine lv_aload_n hx hb dX7_copyFrom_49 rfl (lv_at hl 1 rfl) ?_
  refine va_get (D := zD E) (ci := 7) (v := .int u1.2.2.2.2.2.2.1) (C := RX7) (T := TX7) (N := 16) hx hb hts uw_X7 hown hK hP 5 rfl rfl 6 (by decide) (hts _ wm_1_64) (fun _ h9 => h9) rfl dX7_copyFrom_50 ?_
  refine va_put (D := zD E) (ci := 7) (v := .int u1.2.2.2.2.2.2.1) (ty := .int) (C := RX7) (T := TX7) (N := 16) hx hb hts uw_X7 tyX7 tyX7_ok nmX7 hown hK hP hD hS 0 rfl rfl 6 (by decide) (hts _ wm_1_64) (fun _ h9 => h9) rfl (by decide +kernel) rfl rfl (Nat.le_of_ble_eq_true rfl) dX7_copyFrom_53 (fun H locs hP hD hS => ?_)
  have hP : va_P (zD E) vwCl (k_X7 E q0 (u1.1, u1.2.1, u1.2.2.1, u1.2.2.2.1, u1.2.2.2.2.1, u1.2.2.2.2.2.1, u1.2.2.2.2.2.2.1, u0.2.2.2.2.2.2.2.1, u0.2.2.2.2.2.2.2.2.1, u0.2.2.2.2.2.2.2.2.2.1, u0.2.2.2.2.2.2.2.2.2.2.1, u0.2.2.2.2.2.2.2.2.2.2.2.1, u0.2.2.2.2.2.2.2.2.2.2.2.2.1, u0.2.2.2.2.2.2.2.2.2.2.2.2.2.1, u0.2.2.2.2.2.2.2.2.2.2.2.2.2.2.1, u0.2.2.2.2.2.2.2.2.2.2.2.2.2.2.2) ++ (k_X7 E q1 u1)) H := hP
  have hD : va_D A (k_X7 E q0 (u1.1, u1.2.1, u1.2.2.1, u1.2.2.2.1, u1.2.2.2.2.1, u1.2.2.2.2.2.1, u1.2.2.2.2.2.2.1, u0.2.2.2.2.2.2.2.1, u0.2.2.2.2.2.2.2.2.1, u0.2.2.2.2.2.2.2.2.2.1, u0.2.2.2.2.2.2.2.2.2.2.1, u0.2.2.2.2.2.2.2.2.2.2.2.1, u0.2.2.2.2.2.2.2.2.2.2.2.2.1, u0.2.2.2.2.2.2.2.2.2.2.2.2.2.1, u0.2.2.2.2.2.2.2.2.2.2.2.2.2.2.1, u0.2.2.2.2.2.2.2.2.2.2.2.2.2.2.2) ++ (k_X7 E q1 u1)) := hD
  refine lv_aload_n hx hb dX7_copyFrom_56 rfl (lv_at hl 0 rfl) ?_
  refine lv_aload_n hx hb dX7_copyFrom_57 rfl (lv_at hl 1 rfl) ?_
  refine va_get (D := zD E) (ci := 7) (v := .int u1.2.2.2.2.2.2.2.1) (C := RX7) (T := TX7) (N := 16) hx hb hts uw_X7 hown hK hP 5 rfl rfl 7 (by decide) (hts _ wm_1_67) (fun _ h9 => h9) rfl dX7_copyFrom_58 ?_
  refine va_put (D := zD E) (ci := 7) (v := .int u1.2.2.2.2.2.2.2.1) (ty := .int) (C := RX7) (T := TX7) (N := 16) hx hb hts uw_X7 tyX7 tyX7_ok nmX7 hown hK hP hD hS 0 rfl rfl 7 (by decide) (hts _ wm_1_67) (fun _ h9 => h9) rfl (by decide +kernel) rfl rfl (Nat.le_of_ble_eq_true rfl) dX7_copyFrom_61 (fun H locs hP hD hS => ?_)
  have hP : va_P (zD E) vwCl (k_X7 E q0 (u1.1, u1.2.1, u1.2.2.1, u1.2.2.2.1, u1.2.2.2.2.1, u1.2.2.2.2.2.1, u1.2.2.2.2.2.2.1, u1.2.2.2.2.2.2.2.1, u0.2.2.2.2.2.2.2.2.1, u0.2.2.2.2.2.2.2.2.2.1, u0.2.2.2.2.2.2.2.2.2.2.1, u0.2.2.2.2.2.2.2.2.2.2.2.1, u0.2.2.2.2.2.2.2.2.2.2.2.2.1, u0.2.2.2.2.2.2.2.2.2.2.2.2.2.1, u0.2.2.2.2.2.2.2.2.2.2.2.2.2.2.1, u0.2.2.2.2.2.2.2.2.2.2.2.2.2.2.2) ++ (k_X7 E q1 u1)) H := hP
  have hD : va_D A (k_X7 E q0 (u1.1, u1.2.1, u1.2.2.1, u1.2.2.2.1, u1.2.2.2.2.1, u1.2.2.2.2.2.1, u1.2.2.2.2.2.2.1, u1.2.2.2.2.2.2.2.1, u0.2.2.2.2.2.2.2.2.1, u0.2.2.2.2.2.2.2.2.2.1, u0.2.2.2.2.2.2.2.2.2.2.1, u0.2.2.2.2.2.2.2.2.2.2.2.1, u0.2.2.2.2.2.2.2.2.2.2.2.2.1, u0.2.2.2.2.2.2.2.2.2.2.2.2.2.1, u0.2.2.2.2.2.2.2.2.2.2.2.2.2.2.1, u0.2.2.2.2.2.2.2.2.2.2.2.2.2.2.2) ++ (k_X7 E q1 u1)) := hD
  refine lv_aload_n hx hb dX7_copyFrom_64 rfl (lv_at hl 0 rfl) ?_
  refine lv_aload_n hx hb dX7_copyFrom_65 rfl (lv_at hl 1 rfl) ?_
  refine va_get (D := zD E) (ci := 7) (v := .int u1.2.2.2.2.2.2.2.2.1) (C := RX7) (T := TX7) (N := 16) hx hb hts uw_X7 hown hK hP 5 rfl rfl 8 (by decide) (hts _ wm_1_70) (fun _ h9 => h9) rfl dX7_copyFrom_66 ?_
  refine va_put (D := zD E) (ci := 7) (v := .int u1.2.2.2.2.2.2.2.2.1) (ty := .int) (C := RX7) (T := TX7) (N := 16) hx hb hts uw_X7 tyX7 tyX7_ok nmX7 hown hK hP hD hS 0 rfl rfl 8 (by decide) (hts _ wm_1_70) (fun _ h9 => h9) rfl (by decide +kernel) rfl rfl (Nat.le_of_ble_eq_true rfl) dX7_copyFrom_69 (fun H locs hP hD hS => ?_)
  have hP : va_P (zD E) vwCl (k_X7 E q0 (u1.1, u1.2.1, u1.2.2.1, u1.2.2.2.1, u1.2.2.2.2.1, u1.2.2.2.2.2.1, u1.2.2.2.2.2.2.1, u1.2.2.2.2.2.2.2.1, u1.2.2.2.2.2.2.2.2.1, u0.2.2.2.2.2.2.2.2.2.1, u0.2.2.2.2.2.2.2.2.2.2.1, u0.2.2.2.2.2.2.2.2.2.2.2.1, u0.2.2.2.2.2.2.2.2.2.2.2.2.1, u0.2.2.2.2.2.2.2.2.2.2.2.2.2.1, u0.2.2.2.2.2.2.2.2.2.2.2.2.2.2.1, u0.2.2.2.2.2.2.2.2.2.2.2.2.2.2.2) ++ (k_X7 E q1 u1)) H := hP
  have hD : va_D A (k_X7 E q0 (u1.1, u1.2.1, u1.2.2.1, u1.2.2.2.1, u1.2.2.2.2.1, u1.2.2.2.2.2.1, u1.2.2.2.2.2.2.1, u1.2.2.2.2.2.2.2.1, u1.2.2.2.2.2.2.2.2.1, u0.2.2.2.2.2.2.2.2.2.1, u0.2.2.2.2.2.2.2.2.2.2.1, u0.2.2.2.2.2.2.2.2.2.2.2.1, u0.2.2.2.2.2.2.2.2.2.2.2.2.1, u0.2.2.2.2.2.2.2.2.2.2.2.2.2.1, u0.2.2.2.2.2.2.2.2.2.2.2.2.2.2.1, u0.2.2.2.2.2.2.2.2.2.2.2.2.2.2.2) ++ (k_X7 E q1 u1)) := hD
  refine lv_aload_n hx hb dX7_copyFrom_72 rfl (lv_at hl 0 rfl) ?_
  refine lv_aload_n hx hb dX7_copyFrom_73 rfl (lv_at hl 1 rfl) ?_
  refine va_get (D := zD E) (ci := 7) (v := .int u1.2.2.2.2.2.2.2.2.2.1) (C := RX7) (T := TX7) (N := 16) hx hb hts uw_X7 hown hK hP 5 rfl rfl 9 (by decide) (hts _ wm_1_75) (fun _ h9 => h9) rfl dX7_copyFrom_74 ?_
  refine va_put (D := zD E) (ci := 7) (v := .int u1.2.2.2.2.2.2.2.2.2.1) (ty := .int) (C := RX7) (T := TX7) (N := 16) hx hb hts uw_X7 tyX7 tyX7_ok nmX7 hown hK hP hD hS 0 rfl rfl 9 (by decide) (hts _ wm_1_75) (fun _ h9 => h9) rfl (by decide +kernel) rfl rfl (Nat.le_of_ble_eq_true rfl) dX7_copyFrom_77 (fun H locs hP hD hS => ?_)
  have hP : va_P (zD E) vwCl (k_X7 E q0 (u1.1, u1.2.1, u1.2.2.1, u1.2.2.2.1, u1.2.2.2.2.1, u1.2.2.2.2.2.1, u1.2.2.2.2.2.2.1, u1.2.2.2.2.2.2.2.1, u1.2.2.2.2.2.2.2.2.1, u1.2.2.2.2.2.2.2.2.2.1, u0.2.2.2.2.2.2.2.2.2.2.1, u0.2.2.2.2.2.2.2.2.2.2.2.1, u0.2.2.2.2.2.2.2.2.2.2.2.2.1, u0.2.2.2.2.2.2.2.2.2.2.2.2.2.1, u0.2.2.2.2.2.2.2.2.2.2.2.2.2.2.1, u0.2.2.2.2.2.2.2.2.2.2.2.2.2.2.2) ++ (k_X7 E q1 u1)) H := hP
  have hD : va_D A (k_X7 E q0 (u1.1, u1.2.1, u1.2.2.1, u1.2.2.2.1, u1.2.2.2.2.1, u1.2.2.2.2.2.1, u1.2.2.2.2.2.2.1, u1.2.2.2.2.2.2.2.1, u1.2.2.2.2.2.2.2.2.1, u1.2.2.2.2.2.2.2.2.2.1, u0.2.2.2.2.2.2.2.2.2.2.1, u0.2.2.2.2.2.2.2.2.2.2.2.1, u0.2.2.2.2.2.2.2.2.2.2.2.2.1, u0.2.2.2.2.2.2.2.2.2.2.2.2.2.1, u0.2.2.2.2.2.2.2.2.2.2.2.2.2.2.1, u0.2.2.2.2.2.2.2.2.2.2.2.2.2.2.2) ++ (k_X7 E q1 u1)) := hD
  refine lv_aload_n hx hb dX7_copyFrom_80 rfl (lv_at hl 0 rfl) ?_
  refine lv_aload_n hx hb dX7_copyFrom_81 rfl (lv_at hl 1 rfl) ?_
  refine va_get (D := zD E) (ci := 7) (v := .int u1.2.2.2.2.2.2.2.2.2.2.1) (C := RX7) (T := TX7) (N := 16) hx hb hts uw_X7 hown hK hP 5 rfl rfl 10 (by decide) (hts _ wm_1_79) (fun _ h9 => h9) rfl dX7_copyFrom_82 ?_
  refine va_put (D := zD E) (ci := 7) (v := .int u1.2.2.2.2.2.2.2.2.2.2.1) (ty := .int) (C := RX7) (T := TX7) (N := 16) hx hb hts uw_X7 tyX7 tyX7_ok nmX7 hown hK hP hD hS 0 rfl rfl 10 (by decide) (hts _ wm_1_79) (fun _ h9 => h9) rfl (by decide +kernel) rfl rfl (Nat.le_of_ble_eq_true rfl) dX7_copyFrom_85 (fun H locs hP hD hS => ?_)
  have hP : va_P (zD E) vwCl (k_X7 E q0 (u1.1, u1.2.1, u1.2.2.1, u1.2.2.2.1, u1.2.2.2.2.1, u1.2.2.2.2.2.1, u1.2.2.2.2.2.2.1, u1.2.2.2.2.2.2.2.1, u1.2.2.2.2.2.2.2.2.1, u1.2.2.2.2.2.2.2.2.2.1, u1.2.2.2.2.2.2.2.2.2.2.1, u0.2.2.2.2.2.2.2.2.2.2.2.1, u0.2.2.2.2.2.2.2.2.2.2.2.2.1, u0.2.2.2.2.2.2.2.2.2.2.2.2.2.1, u0.2.2.2.2.2.2.2.2.2.2.2.2.2.2.1, u0.2.2.2.2.2.2.2.2.2.2.2.2.2.2.2) ++ (k_X7 E q1 u1)) H := hP
  have hD : va_D A (k_X7 E q0 (u1.1, u1.2.1, u1.2.2.1, u1.2.2.2.1, u1.2.2.2.2.1, u1.2.2.2.2.2.1, u1.2.2.2.2.2.2.1, u1.2.2.2.2.2.2.2.1, u1.2.2.2.2.2.2.2.2.1, u1.2.2.2.2.2.2.2.2.2.1, u1.2.2.2.2.2.2.2.2.2.2.1, u0.2.2.2.2.2.2.2.2.2.2.2.1, u0.2.2.2.2.2.2.2.2.2.2.2.2.1, u0.2.2.2.2.2.2.2.2.2.2.2.2.2.1, u0.2.2.2.2.2.2.2.2.2.2.2.2.2.2.1, u0.2.2.2.2.2.2.2.2.2.2.2.2.2.2.2) ++ (k_X7 E q1 u1)) := hD
  refine lv_aload_n hx hb dX7_copyFrom_88 rfl (lv_at hl 0 rfl) ?_
  refine lv_aload_n hx hb dX7_copyFrom_89 rfl (lv_at hl 1 rfl) ?_
  refine va_get (D := zD E) (ci := 7) (v := .long u1.2.2.2.2.2.2.2.2.2.2.2.2.2.1) (C := RX7) (T := TX7) (N := 16) hx hb hts uw_X7 hown hK hP 5 rfl rfl 13 (by decide) (hts _ wm_1_85) (fun _ h9 => h9) rfl dX7_copyFrom_90 ?_
  refine va_put (D := zD E) (ci := 7) (v := .long u1.2.2.2.2.2.2.2.2.2.2.2.2.2.1) (ty := .long) (C := RX7) (T := TX7) (N := 16) hx hb hts uw_X7 tyX7 tyX7_ok nmX7 hown hK hP hD hS 0 rfl rfl 13 (by decide) (hts _ wm_1_85) (fun _ h9 => h9) rfl (by decide +kernel) rfl rfl (Nat.le_of_ble_eq_true rfl) dX7_copyFrom_93 (fun H locs hP hD hS => ?_)
  have hP : va_P (zD E) vwCl (k_X7 E q0 (u1.1, u1.2.1, u1.2.2.1, u1.2.2.2.1, u1.2.2.2.2.1, u1.2.2.2.2.2.1, u1.2.2.2.2.2.2.1, u1.2.2.2.2.2.2.2.1, u1.2.2.2.2.2.2.2.2.1, u1.2.2.2.2.2.2.2.2.2.1, u1.2.2.2.2.2.2.2.2.2.2.1, u0.2.2.2.2.2.2.2.2.2.2.2.1, u0.2.2.2.2.2.2.2.2.2.2.2.2.1, u1.2.2.2.2.2.2.2.2.2.2.2.2.2.1, u0.2.2.2.2.2.2.2.2.2.2.2.2.2.2.1, u0.2.2.2.2.2.2.2.2.2.2.2.2.2.2.2) ++ (k_X7 E q1 u1)) H := hP
  have hD : va_D A (k_X7 E q0 (u1.1, u1.2.1, u1.2.2.1, u1.2.2.2.1, u1.2.2.2.2.1, u1.2.2.2.2.2.1, u1.2.2.2.2.2.2.1, u1.2.2.2.2.2.2.2.1, u1.2.2.2.2.2.2.2.2.1, u1.2.2.2.2.2.2.2.2.2.1, u1.2.2.2.2.2.2.2.2.2.2.1, u0.2.2.2.2.2.2.2.2.2.2.2.1, u0.2.2.2.2.2.2.2.2.2.2.2.2.1, u1.2.2.2.2.2.2.2.2.2.2.2.2.2.1, u0.2.2.2.2.2.2.2.2.2.2.2.2.2.2.1, u0.2.2.2.2.2.2.2.2.2.2.2.2.2.2.2) ++ (k_X7 E q1 u1)) := hD
  refine lv_aload_n hx hb dX7_copyFrom_96 rfl (lv_at hl 1 rfl) ?_
  refine va_get (D := zD E) (ci := 7) (v := .ref (q1 1)) (C := RX7) (T := TX7) (N := 16) hx hb hts uw_X7 hown hK hP 5 rfl rfl 11 (by decide) (hts _ wm_1_81) (fun _ h9 => h9) rfl dX7_copyFrom_97 ?_
  refine lv_iconst (v := 0) hx hb dX7_copyFrom_100 rfl ?_
  refine lv_aload_n hx hb dX7_copyFrom_101 rfl (lv_at hl 0 rfl) ?_
  refine va_get (D := zD E) (ci := 7) (v := .ref (q0 1)) (C := RX7) (T := TX7) (N := 16) hx hb hts uw_X7 hown hK hP 0 rfl rfl 11 (by decide) (hts _ wm_1_81) (fun _ h9 => h9) rfl dX7_copyFrom_102 ?_
  refine lv_iconst (v := 0) hx hb dX7_copyFrom_105 rfl ?_
  refine lv_bipush (v := 6) hx hb dX7_copyFrom_106 rfl ?_
  refine va_copyi hx hb (hml.trans hl.1.symm) hown (hts _ wm_3_30) (hts _ wm_2_207) (hts _ wm_2_206) (hts _ wm_1_22) hK hP hD hS 6 1 0 0 rfl rfl rfl rfl rfl (by decide) (by decide) (by decide) (show (0 : Int32).toNatClampNeg + (6 : Int32).toNatClampNeg ≤ 6 by decide) (show (0 : Int32).toNatClampNeg + (6 : Int32).toNatClampNeg ≤ 6 by decide) (fun _ _ => rfl) (Nat.le_of_ble_eq_true rfl) (Nat.le_of_ble_eq_true rfl) dX7_copyFrom_108 (fun H locs hP hD hS => ?_)
  have hP : va_P (zD E) vwCl (k_X7 E q0 (u1.1, u1.2.1, u1.2.2.1, u1.2.2.2.1, u1.2.2.2.2.1, u1.2.2.2.2.2.1, u1.2.2.2.2.2.2.1, u1.2.2.2.2.2.2.2.1, u1.2.2.2.2.2.2.2.2.1, u1.2.2.2.2.2.2.2.2.2.1, u1.2.2.2.2.2.2.2.2.2.2.1, (va_cpy u1.2.2.2.2.2.2.2.2.2.2.2.1 u0.2.2.2.2.2.2.2.2.2.2.2.1 0 0 6), u0.2.2.2.2.2.2.2.2.2.2.2.2.1, u1.2.2.2.2.2.2.2.2.2.2.2.2.2.1, u0.2.2.2.2.2.2.2.2.2.2.2.2.2.2.1, u0.2.2.2.2.2.2.2.2.2.2.2.2.2.2.2) ++ (k_X7 E q1 u1)) H := hP
  have hD : va_D A (k_X7 E q0 (u1.1, u1.2.1, u1.2.2.1, u1.2.2.2.1, u1.2.2.2.2.1, u1.2.2.2.2.2.1, u1.2.2.2.2.2.2.1, u1.2.2.2.2.2.2.2.1, u1.2.2.2.2.2.2.2.2.1, u1.2.2.2.2.2.2.2.2.2.1, u1.2.2.2.2.2.2.2.2.2.2.1, (va_cpy u1.2.2.2.2.2.2.2.2.2.2.2.1 u0.2.2.2.2.2.2.2.2.2.2.2.1 0 0 6), u0.2.2.2.2.2.2.2.2.2.2.2.2.1, u1.2.2.2.2.2.2.2.2.2.2.2.2.2.1, u0.2.2.2.2.2.2.2.2.2.2.2.2.2.2.1, u0.2.2.2.2.2.2.2.2.2.2.2.2.2.2.2) ++ (k_X7 E q1 u1)) := hD
  refine lv_aload_n hx hb dX7_copyFrom_111 rfl (lv_at hl 1 rfl) ?_
  refine va_get (D := zD E) (ci := 7) (v := .ref (q1 2)) (C := RX7) (T := TX7) (N := 16) hx hb hts uw_X7 hown hK hP 5 rfl rfl 12 (by decide) (hts _ wm_1_83) (fun _ h9 => h9) rfl dX7_copyFrom_112 ?_
  refine lv_iconst (v := 0) hx hb dX7_copyFrom_115 rfl ?_
  refine lv_aload_n hx hb dX7_copyFrom_116 rfl (lv_at hl 0 rfl) ?_
  refine va_get (D := zD E) (ci := 7) (v := .ref (q0 2)) (C := RX7) (T := TX7) (N := 16) hx hb hts uw_X7 hown hK hP 0 rfl rfl 12 (by decide) (hts _ wm_1_83) (fun _ h9 => h9) rfl dX7_copyFrom_117 ?_
  refine lv_iconst (v := 0) hx hb dX7_copyFrom_120 rfl ?_
  refine lv_bipush (v := 6) hx hb dX7_copyFrom_121 rfl ?_
  refine va_copyi hx hb (hml.trans hl.1.symm) hown (hts _ wm_3_30) (hts _ wm_2_207) (hts _ wm_2_206) (hts _ wm_1_22) hK hP hD hS 7 2 0 0 rfl rfl rfl rfl rfl (by decide) (by decide) (by decide) (show (0 : Int32).toNatClampNeg + (6 : Int32).toNatClampNeg ≤ 6 by decide) (show (0 : Int32).toNatClampNeg + (6 : Int32).toNatClampNeg ≤ 6 by decide) (fun _ _ => rfl) (Nat.le_of_ble_eq_true rfl) (Nat.le_of_ble_eq_true rfl) dX7_copyFrom_123 (fun H locs hP hD hS => ?_)
  have hP : va_P (zD E) vwCl (k_X7 E q0 (u1.1, u1.2.1, u1.2.2.1, u1.2.2.2.1, u1.2.2.2.2.1, u1.2.2.2.2.2.1, u1.2.2.2.2.2.2.1, u1.2.2.2.2.2.2.2.1, u1.2.2.2.2.2.2.2.2.1, u1.2.2.2.2.2.2.2.2.2.1, u1.2.2.2.2.2.2.2.2.2.2.1, (va_cpy u1.2.2.2.2.2.2.2.2.2.2.2.1 u0.2.2.2.2.2.2.2.2.2.2.2.1 0 0 6), (va_cpy u1.2.2.2.2.2.2.2.2.2.2.2.2.1 u0.2.2.2.2.2.2.2.2.2.2.2.2.1 0 0 6), u1.2.2.2.2.2.2.2.2.2.2.2.2.2.1, u0.2.2.2.2.2.2.2.2.2.2.2.2.2.2.1, u0.2.2.2.2.2.2.2.2.2.2.2.2.2.2.2) ++ (k_X7 E q1 u1)) H := hP
  have hD : va_D A (k_X7 E q0 (u1.1, u1.2.1, u1.2.2.1, u1.2.2.2.1, u1.2.2.2.2.1, u1.2.2.2.2.2.1, u1.2.2.2.2.2.2.1, u1.2.2.2.2.2.2.2.1, u1.2.2.2.2.2.2.2.2.1, u1.2.2.2.2.2.2.2.2.2.1, u1.2.2.2.2.2.2.2.2.2.2.1, (va_cpy u1.2.2.2.2.2.2.2.2.2.2.2.1 u0.2.2.2.2.2.2.2.2.2.2.2.1 0 0 6), (va_cpy u1.2.2.2.2.2.2.2.2.2.2.2.2.1 u0.2.2.2.2.2.2.2.2.2.2.2.2.1 0 0 6), u1.2.2.2.2.2.2.2.2.2.2.2.2.2.1, u0.2.2.2.2.2.2.2.2.2.2.2.2.2.2.1, u0.2.2.2.2.2.2.2.2.2.2.2.2.2.2.2) ++ (k_X7 E q1 u1)) := hD
  refine lv_aload_n hx hb dX7_copyFrom_126 rfl (lv_at hl 1 rfl) ?_
  refine va_get (D := zD E) (ci := 7) (v := .ref (q1 3)) (C := RX7) (T := TX7) (N := 16) hx hb hts uw_X7 hown hK hP 5 rfl rfl 14 (by decide) (hts _ wm_1_86) (fun _ h9 => h9) rfl dX7_copyFrom_127 ?_
  refine lv_iconst (v := 0) hx hb dX7_copyFrom_130 rfl ?_
  refine lv_aload_n hx hb dX7_copyFrom_131 rfl (lv_at hl 0 rfl) ?_
  refine va_get (D := zD E) (ci := 7) (v := .ref (q0 3)) (C := RX7) (T := TX7) (N := 16) hx hb hts uw_X7 hown hK hP 0 rfl rfl 14 (by decide) (hts _ wm_1_86) (fun _ h9 => h9) rfl dX7_copyFrom_132 ?_
  refine lv_iconst (v := 0) hx hb dX7_copyFrom_135 rfl ?_
  refine lv_bipush (v := 40) hx hb dX7_copyFrom_136 rfl ?_
  refine va_copyi hx hb (hml.trans hl.1.symm) hown (hts _ wm_3_30) (hts _ wm_2_207) (hts _ wm_2_206) (hts _ wm_1_22) hK hP hD hS 8 3 0 0 rfl rfl rfl rfl rfl (by decide) (by decide) (by decide) (show (0 : Int32).toNatClampNeg + (40 : Int32).toNatClampNeg ≤ 40 by decide) (show (0 : Int32).toNatClampNeg + (40 : Int32).toNatClampNeg ≤ 40 by decide) (fun _ _ => rfl) (Nat.le_of_ble_eq_true rfl) (Nat.le_of_ble_eq_true rfl) dX7_copyFrom_138 (fun H locs hP hD hS => ?_)
  have hP : va_P (zD E) vwCl (k_X7 E q0 (u1.1, u1.2.1, u1.2.2.1, u1.2.2.2.1, u1.2.2.2.2.1, u1.2.2.2.2.2.1, u1.2.2.2.2.2.2.1, u1.2.2.2.2.2.2.2.1, u1.2.2.2.2.2.2.2.2.1, u1.2.2.2.2.2.2.2.2.2.1, u1.2.2.2.2.2.2.2.2.2.2.1, (va_cpy u1.2.2.2.2.2.2.2.2.2.2.2.1 u0.2.2.2.2.2.2.2.2.2.2.2.1 0 0 6), (va_cpy u1.2.2.2.2.2.2.2.2.2.2.2.2.1 u0.2.2.2.2.2.2.2.2.2.2.2.2.1 0 0 6), u1.2.2.2.2.2.2.2.2.2.2.2.2.2.1, (va_cpy u1.2.2.2.2.2.2.2.2.2.2.2.2.2.2.1 u0.2.2.2.2.2.2.2.2.2.2.2.2.2.2.1 0 0 40), u0.2.2.2.2.2.2.2.2.2.2.2.2.2.2.2) ++ (k_X7 E q1 u1)) H := hP
  have hD : va_D A (k_X7 E q0 (u1.1, u1.2.1, u1.2.2.1, u1.2.2.2.1, u1.2.2.2.2.1, u1.2.2.2.2.2.1, u1.2.2.2.2.2.2.1, u1.2.2.2.2.2.2.2.1, u1.2.2.2.2.2.2.2.2.1, u1.2.2.2.2.2.2.2.2.2.1, u1.2.2.2.2.2.2.2.2.2.2.1, (va_cpy u1.2.2.2.2.2.2.2.2.2.2.2.1 u0.2.2.2.2.2.2.2.2.2.2.2.1 0 0 6), (va_cpy u1.2.2.2.2.2.2.2.2.2.2.2.2.1 u0.2.2.2.2.2.2.2.2.2.2.2.2.1 0 0 6), u1.2.2.2.2.2.2.2.2.2.2.2.2.2.1, (va_cpy u1.2.2.2.2.2.2.2.2.2.2.2.2.2.2.1 u0.2.2.2.2.2.2.2.2.2.2.2.2.2.2.1 0 0 40), u0.2.2.2.2.2.2.2.2.2.2.2.2.2.2.2) ++ (k_X7 E q1 u1)) := hD
  refine lv_aload_n hx hb dX7_copyFrom_141 rfl (lv_at hl 1 rfl) ?_
  refine va_get (D := zD E) (ci := 7) (v := .ref (q1 4)) (C := RX7) (T := TX7) (N := 16) hx hb hts uw_X7 hown hK hP 5 rfl rfl 15 (by decide) (hts _ wm_1_87) (fun _ h9 => h9) rfl dX7_copyFrom_142 ?_
  refine lv_iconst (v := 0) hx hb dX7_copyFrom_145 rfl ?_
  refine lv_aload_n hx hb dX7_copyFrom_146 rfl (lv_at hl 0 rfl) ?_
  refine va_get (D := zD E) (ci := 7) (v := .ref (q0 4)) (C := RX7) (T := TX7) (N := 16) hx hb hts uw_X7 hown hK hP 0 rfl rfl 15 (by decide) (hts _ wm_1_87) (fun _ h9 => h9) rfl dX7_copyFrom_147 ?_
  refine lv_iconst (v := 0) hx hb dX7_copyFrom_150 rfl ?_
  refine lv_bipush (v := 40) hx hb dX7_copyFrom_151 rfl ?_
  refine va_copyi hx hb (hml.trans hl.1.symm) hown (hts _ wm_3_30) (hts _ wm_2_207) (hts _ wm_2_206) (hts _ wm_1_22) hK hP hD hS 9 4 0 0 rfl rfl rfl rfl rfl (by decide) (by decide) (by decide) (show (0 : Int32).toNatClampNeg + (40 : Int32).toNatClampNeg ≤ 40 by decide) (show (0 : Int32).toNatClampNeg + (40 : Int32).toNatClampNeg ≤ 40 by decide) (fun _ _ => rfl) (Nat.le_of_ble_eq_true rfl) (Nat.le_of_ble_eq_true rfl) dX7_copyFrom_153 (fun H locs hP hD hS => ?_)
  have hP : va_P (zD E) vwCl (k_X7 E q0 (u1.1, u1.2.1, u1.2.2.1, u1.2.2.2.1, u1.2.2.2.2.1, u1.2.2.2.2.2.1, u1.2.2.2.2.2.2.1, u1.2.2.2.2.2.2.2.1, u1.2.2.2.2.2.2.2.2.1, u1.2.2.2.2.2.2.2.2.2.1, u1.2.2.2.2.2.2.2.2.2.2.1, (va_cpy u1.2.2.2.2.2.2.2.2.2.2.2.1 u0.2.2.2.2.2.2.2.2.2.2.2.1 0 0 6), (va_cpy u1.2.2.2.2.2.2.2.2.2.2.2.2.1 u0.2.2.2.2.2.2.2.2.2.2.2.2.1 0 0 6), u1.2.2.2.2.2.2.2.2.2.2.2.2.2.1, (va_cpy u1.2.2.2.2.2.2.2.2.2.2.2.2.2.2.1 u0.2.2.2.2.2.2.2.2.2.2.2.2.2.2.1 0 0 40), (va_cpy u1.2.2.2.2.2.2.2.2.2.2.2.2.2.2.2 u0.2.2.2.2.2.2.2.2.2.2.2.2.2.2.2 0 0 40)) ++ (k_X7 E q1 u1)) H := hP
  have hD : va_D A (k_X7 E q0 (u1.1, u1.2.1, u1.2.2.1, u1.2.2.2.1, u1.2.2.2.2.1, u1.2.2.2.2.2.1, u1.2.2.2.2.2.2.1, u1.2.2.2.2.2.2.2.1, u1.2.2.2.2.2.2.2.2.1, u1.2.2.2.2.2.2.2.2.2.1, u1.2.2.2.2.2.2.2.2.2.2.1, (va_cpy u1.2.2.2.2.2.2.2.2.2.2.2.1 u0.2.2.2.2.2.2.2.2.2.2.2.1 0 0 6), (va_cpy u1.2.2.2.2.2.2.2.2.2.2.2.2.1 u0.2.2.2.2.2.2.2.2.2.2.2.2.1 0 0 6), u1.2.2.2.2.2.2.2.2.2.2.2.2.2.1, (va_cpy u1.2.2.2.2.2.2.2.2.2.2.2.2.2.2.1 u0.2.2.2.2.2.2.2.2.2.2.2.2.2.2.1 0 0 40), (va_cpy u1.2.2.2.2.2.2.2.2.2.2.2.2.2.2.2 u0.2.2.2.2.2.2.2.2.2.2.2.2.2.2.2 0 0 40)) ++ (k_X7 E q1 u1)) := hD
  exact z_vret (k := (fun u => k_X7 E q0 u.1 ++ (k_X7 E q1 u.2))) ((u1.1, u1.2.1, u1.2.2.1, u1.2.2.2.1, u1.2.2.2.2.1, u1.2.2.2.2.2.1, u1.2.2.2.2.2.2.1, u1.2.2.2.2.2.2.2.1, u1.2.2.2.2.2.2.2.2.1, u1.2.2.2.2.2.2.2.2.2.1, u1.2.2.2.2.2.2.2.2.2.2.1, (va_cpy u1.2.2.2.2.2.2.2.2.2.2.2.1 u0.2.2.2.2.2.2.2.2.2.2.2.1 0 0 6), (va_cpy u1.2.2.2.2.2.2.2.2.2.2.2.2.1 u0.2.2.2.2.2.2.2.2.2.2.2.2.1 0 0 6), u1.2.2.2.2.2.2.2.2.2.2.2.2.2.1, (va_cpy u1.2.2.2.2.2.2.2.2.2.2.2.2.2.2.1 u0.2.2.2.2.2.2.2.2.2.2.2.2.2.2.1 0 0 40), (va_cpy u1.2.2.2.2.2.2.2.2.2.2.2.2.2.2.2 u0.2.2.2.2.2.2.2.2.2.2.2.2.2.2.2 0 0 40)), u1) C0 hP hD hS hw dX7_copyFrom_156
abbrev r_X7_hasBand : Room := { frames := 0, cells := 0, slots := 0, locals := 0 }
def wp_X7_hasBand (u0 : S_X7) (p1 : Int32) (post : Int32 → S_X7 → Prop) : Prop := ((lg_cmp (((u0.2.2.2.2.2.2.2.2.2.2.2.2.2.1.toUInt64 >>> (p1.toInt64.toUInt64 &&& Int64.toUInt64 63)).toInt64) &&& (1 : Int64)) (0 : Int64)) = 0 → (post (0 : Int32) u0)) ∧ (¬ ((lg_cmp (((u0.2.2.2.2.2.2.2.2.2.2.2.2.2.1.toUInt64 >>> (p1.toInt64.toUInt64 &&& Int64.toUInt64 63)).toInt64) &&& (1 : Int64)) (0 : Int64)) = 0) → (post (1 : Int32) u0))
set_option maxHeartbeats 4000000 in
set_option maxRecDepth 100000 in
theorem c_X7_hasBand (l : Launch) (E : zE) (Z : zZ) (hZ0 : zSt Z) (q0 : Nat → Nat) (sz : Nat) (u0 : S_X7) (p1 : Int32) (post : Int32 → S_X7 → Prop) (hw : wp_X7_hasBand u0 p1 post) : Met l yX7_hasBand (zws yX7_hasBand cX7_hasBand 2 (some .boolean)) r_X7_hasBand (va_Pc [.ref (q0 0), .int p1] (zPre Z E (k_X7 E q0 u0) sz)) (va_Qi post (zAt E (va_A (k_X7 E q0 u0) sz) (fun u => k_X7 E q0 u)) (va_A (k_X7 E q0 u0) sz)) 0 0 (va_A (k_X7 E q0 u0) sz) := by
  refine z_ofW (Qf := fun A => va_Qi post (zAt E A (fun u => k_X7 E q0 u)) A) (by decide) (Nat.le_of_ble_eq_true rfl) ?_
  intro p e s m args below meth c A ls C0 hA hK hZ hP hD hS hl
  obtain ⟨hx, hb, hml, hr, hown, hts, hlocks, hin⟩ := id C0
  have hown : s.vm.findClass RX7 = some m.cls := hown
  have hl : lv_has ls 2 [(0, .ref (q0 0)), (1, .int p1)] := hl
  refine lv_aload_n hx hb dX7_hasBand_0 rfl (lv_at hl 0 rfl) ?_
  refine va_get (D := zD E) (ci := 7) (v := .long u0.2.2.2.2.2.2.2.2.2.2.2.2.2.1) (C := RX7) (T := TX7) (N := 16) hx hb hts uw_X7 hown hK hP 0 rfl rfl 13 (by decide) (hts _ wm_1_85) (fun _ h9 => h9) rfl dX7_hasBand_1 ?_
  refine lv_iload_n hx hb dX7_hasBand_4 rfl (lv_at hl 1 rfl) ?_
  refine lv_lushr hx hb dX7_hasBand_5 rfl ?_
  refine lv_lconst (v := 1) hx hb dX7_hasBand_6 rfl ?_
  refine lv_land hx hb dX7_hasBand_7 ?_
  refine lv_lconst (v := 0) hx hb dX7_hasBand_8 rfl ?_
  refine W.lcmp hx hb dX7_hasBand_9 ?_
  obtain ⟨hwt, hwf⟩ := hw
  refine lv_if_eq (tgt := 17) hx hb dX7_hasBand_10 (by decide) (fun c_1 => ?_) (fun c_1 => ?_)
  · have hw := hwt c_1
    refine lv_iconst (v := 0) hx hb dX7_hasBand_17 rfl ?_
    exact z_zret (k := (fun u => k_X7 E q0 u)) u0 C0 rfl hP hD hS hw dX7_hasBand_18
  · have hw := hwf c_1
    refine lv_iconst (v := 1) hx hb dX7_hasBand_13 rfl ?_
    refine lv_goto (tgt := 18) hx hb dX7_hasBand_14 (by decide) ?_
    exact z_zret (k := (fun u => k_X7 E q0 u)) u0 C0 rfl hP hD hS hw dX7_hasBand_18
abbrev r_X7_addBand : Room := { frames := 0, cells := 0, slots := 0, locals := 0 }
def wp_X7_addBand (u0 : S_X7) (p1 : Int32) (p2 : Int32) (p3 : Int32) (post : S_X7 → Prop) : Prop := ∀ x_1 : Int64, x_1 = (u0.2.2.2.2.2.2.2.2.2.2.2.2.2.1 ||| ((1 : Int64) <<< (p1.toInt64 &&& 63))) → (vp_in p1 40 ∧ (vp_in p1 40 ∧ (post (u0.1, u0.2.1, u0.2.2.1, u0.2.2.2.1, u0.2.2.2.2.1, u0.2.2.2.2.2.1, u0.2.2.2.2.2.2.1, u0.2.2.2.2.2.2.2.1, u0.2.2.2.2.2.2.2.2.1, u0.2.2.2.2.2.2.2.2.2.1, u0.2.2.2.2.2.2.2.2.2.2.1, u0.2.2.2.2.2.2.2.2.2.2.2.1, u0.2.2.2.2.2.2.2.2.2.2.2.2.1, x_1, (upd u0.2.2.2.2.2.2.2.2.2.2.2.2.2.2.1 p1.toNatClampNeg p2), (upd u0.2.2.2.2.2.2.2.2.2.2.2.2.2.2.2 p1.toNatClampNeg p3)))))
set_option maxHeartbeats 4000000 in
set_option maxRecDepth 100000 in
theorem c_X7_addBand (l : Launch) (E : zE) (Z : zZ) (hZ0 : zSt Z) (q0 : Nat → Nat) (sz : Nat) (u0 : S_X7) (p1 : Int32) (p2 : Int32) (p3 : Int32) (post : S_X7 → Prop) (hw : wp_X7_addBand u0 p1 p2 p3 post) : Met l yX7_addBand (zws yX7_addBand cX7_addBand 4 none) r_X7_addBand (va_Pc [.ref (q0 0), .int p1, .int p2, .int p3] (zPre Z E (k_X7 E q0 u0) sz)) (va_Qv post (zAt E (va_A (k_X7 E q0 u0) sz) (fun u => k_X7 E q0 u)) (va_A (k_X7 E q0 u0) sz)) 0 0 (va_A (k_X7 E q0 u0) sz) := by
  refine z_ofW (Qf := fun A => va_Qv post (zAt E A (fun u => k_X7 E q0 u)) A) (by decide) (Nat.le_of_ble_eq_true rfl) ?_
  intro p e s m args below meth c A ls C0 hA hK hZ hP hD hS hl
  obtain ⟨hx, hb, hml, hr, hown, hts, hlocks, hin⟩ := id C0
  have hown : s.vm.findClass RX7 = some m.cls := hown
  have hl : lv_has ls 4 [(0, .ref (q0 0)), (1, .int p1), (2, .int p2), (3, .int p3)] := hl
  refine lv_aload_n hx hb dX7_addBand_0 rfl (lv_at hl 0 rfl) ?_
  refine lv_dup hx hb dX7_addBand_1 rfl ?_
  refine va_get (D := zD E) (ci := 7) (v := .long u0.2.2.2.2.2.2.2.2.2.2.2.2.2.1) (C := RX7) (T := TX7) (N := 16) hx hb hts uw_X7 hown hK hP 0 rfl rfl 13 (by decide) (hts _ wm_1_85) (fun _ h9 => h9) rfl dX7_addBand_2 ?_
  refine lv_lconst (v := 1) hx hb dX7_addBand_5 rfl ?_
  refine lv_iload_n hx hb dX7_addBand_6 rfl (lv_at hl 1 rfl) ?_
  refine lv_lshl hx hb dX7_addBand_7 rfl ?_
  refine lv_lor hx hb dX7_addBand_8 ?_
  refine lv_topl (fun x_1 ex_1 => ?_)
  have hw := hw x_1 ex_1
  refine va_put (D := zD E) (ci := 7) (v := .long x_1) (ty := .long) (C := RX7) (T := TX7) (N := 16) hx hb hts uw_X7 tyX7 tyX7_ok nmX7 hown hK hP hD hS 0 rfl rfl 13 (by decide) (hts _ wm_1_85) (fun _ h9 => h9) rfl (by decide +kernel) rfl rfl (Nat.le_of_ble_eq_true rfl) dX7_addBand_9 (fun H locs hP hD hS => ?_)
  have hP : va_P (zD E) vwCl (k_X7 E q0 (u0.1, u0.2.1, u0.2.2.1, u0.2.2.2.1, u0.2.2.2.2.1, u0.2.2.2.2.2.1, u0.2.2.2.2.2.2.1, u0.2.2.2.2.2.2.2.1, u0.2.2.2.2.2.2.2.2.1, u0.2.2.2.2.2.2.2.2.2.1, u0.2.2.2.2.2.2.2.2.2.2.1, u0.2.2.2.2.2.2.2.2.2.2.2.1, u0.2.2.2.2.2.2.2.2.2.2.2.2.1, x_1, u0.2.2.2.2.2.2.2.2.2.2.2.2.2.2.1, u0.2.2.2.2.2.2.2.2.2.2.2.2.2.2.2)) H := hP
  have hD : va_D A (k_X7 E q0 (u0.1, u0.2.1, u0.2.2.1, u0.2.2.2.1, u0.2.2.2.2.1, u0.2.2.2.2.2.1, u0.2.2.2.2.2.2.1, u0.2.2.2.2.2.2.2.1, u0.2.2.2.2.2.2.2.2.1, u0.2.2.2.2.2.2.2.2.2.1, u0.2.2.2.2.2.2.2.2.2.2.1, u0.2.2.2.2.2.2.2.2.2.2.2.1, u0.2.2.2.2.2.2.2.2.2.2.2.2.1, x_1, u0.2.2.2.2.2.2.2.2.2.2.2.2.2.2.1, u0.2.2.2.2.2.2.2.2.2.2.2.2.2.2.2)) := hD
  refine lv_aload_n hx hb dX7_addBand_12 rfl (lv_at hl 0 rfl) ?_
  refine va_get (D := zD E) (ci := 7) (v := .ref (q0 3)) (C := RX7) (T := TX7) (N := 16) hx hb hts uw_X7 hown hK hP 0 rfl rfl 14 (by decide) (hts _ wm_1_86) (fun _ h9 => h9) rfl dX7_addBand_13 ?_
  refine lv_iload_n hx hb dX7_addBand_16 rfl (lv_at hl 1 rfl) ?_
  refine lv_iload_n hx hb dX7_addBand_17 rfl (lv_at hl 2 rfl) ?_
  obtain ⟨h_2, hw⟩ := hw
  refine va_iast hx hb hK hP hD hS 3 0 rfl rfl h_2 dX7_addBand_18 (fun H locs hP hD hS => ?_)
  have hP : va_P (zD E) vwCl (k_X7 E q0 (u0.1, u0.2.1, u0.2.2.1, u0.2.2.2.1, u0.2.2.2.2.1, u0.2.2.2.2.2.1, u0.2.2.2.2.2.2.1, u0.2.2.2.2.2.2.2.1, u0.2.2.2.2.2.2.2.2.1, u0.2.2.2.2.2.2.2.2.2.1, u0.2.2.2.2.2.2.2.2.2.2.1, u0.2.2.2.2.2.2.2.2.2.2.2.1, u0.2.2.2.2.2.2.2.2.2.2.2.2.1, x_1, (upd u0.2.2.2.2.2.2.2.2.2.2.2.2.2.2.1 p1.toNatClampNeg p2), u0.2.2.2.2.2.2.2.2.2.2.2.2.2.2.2)) H := hP
  have hD : va_D A (k_X7 E q0 (u0.1, u0.2.1, u0.2.2.1, u0.2.2.2.1, u0.2.2.2.2.1, u0.2.2.2.2.2.1, u0.2.2.2.2.2.2.1, u0.2.2.2.2.2.2.2.1, u0.2.2.2.2.2.2.2.2.1, u0.2.2.2.2.2.2.2.2.2.1, u0.2.2.2.2.2.2.2.2.2.2.1, u0.2.2.2.2.2.2.2.2.2.2.2.1, u0.2.2.2.2.2.2.2.2.2.2.2.2.1, x_1, (upd u0.2.2.2.2.2.2.2.2.2.2.2.2.2.2.1 p1.toNatClampNeg p2), u0.2.2.2.2.2.2.2.2.2.2.2.2.2.2.2)) := hD
  refine lv_aload_n hx hb dX7_addBand_19 rfl (lv_at hl 0 rfl) ?_
  refine va_get (D := zD E) (ci := 7) (v := .ref (q0 4)) (C := RX7) (T := TX7) (N := 16) hx hb hts uw_X7 hown hK hP 0 rfl rfl 15 (by decide) (hts _ wm_1_87) (fun _ h9 => h9) rfl dX7_addBand_20 ?_
  refine lv_iload_n hx hb dX7_addBand_23 rfl (lv_at hl 1 rfl) ?_
  refine lv_iload_n hx hb dX7_addBand_24 rfl (lv_at hl 3 rfl) ?_
  obtain ⟨h_3, hw⟩ := hw
  refine va_iast hx hb hK hP hD hS 4 0 rfl rfl h_3 dX7_addBand_25 (fun H locs hP hD hS => ?_)
  have hP : va_P (zD E) vwCl (k_X7 E q0 (u0.1, u0.2.1, u0.2.2.1, u0.2.2.2.1, u0.2.2.2.2.1, u0.2.2.2.2.2.1, u0.2.2.2.2.2.2.1, u0.2.2.2.2.2.2.2.1, u0.2.2.2.2.2.2.2.2.1, u0.2.2.2.2.2.2.2.2.2.1, u0.2.2.2.2.2.2.2.2.2.2.1, u0.2.2.2.2.2.2.2.2.2.2.2.1, u0.2.2.2.2.2.2.2.2.2.2.2.2.1, x_1, (upd u0.2.2.2.2.2.2.2.2.2.2.2.2.2.2.1 p1.toNatClampNeg p2), (upd u0.2.2.2.2.2.2.2.2.2.2.2.2.2.2.2 p1.toNatClampNeg p3))) H := hP
  have hD : va_D A (k_X7 E q0 (u0.1, u0.2.1, u0.2.2.1, u0.2.2.2.1, u0.2.2.2.2.1, u0.2.2.2.2.2.1, u0.2.2.2.2.2.2.1, u0.2.2.2.2.2.2.2.1, u0.2.2.2.2.2.2.2.2.1, u0.2.2.2.2.2.2.2.2.2.1, u0.2.2.2.2.2.2.2.2.2.2.1, u0.2.2.2.2.2.2.2.2.2.2.2.1, u0.2.2.2.2.2.2.2.2.2.2.2.2.1, x_1, (upd u0.2.2.2.2.2.2.2.2.2.2.2.2.2.2.1 p1.toNatClampNeg p2), (upd u0.2.2.2.2.2.2.2.2.2.2.2.2.2.2.2 p1.toNatClampNeg p3))) := hD
  exact z_vret (k := (fun u => k_X7 E q0 u)) (u0.1, u0.2.1, u0.2.2.1, u0.2.2.2.1, u0.2.2.2.2.1, u0.2.2.2.2.2.1, u0.2.2.2.2.2.2.1, u0.2.2.2.2.2.2.2.1, u0.2.2.2.2.2.2.2.2.1, u0.2.2.2.2.2.2.2.2.2.1, u0.2.2.2.2.2.2.2.2.2.2.1, u0.2.2.2.2.2.2.2.2.2.2.2.1, u0.2.2.2.2.2.2.2.2.2.2.2.2.1, x_1, (upd u0.2.2.2.2.2.2.2.2.2.2.2.2.2.2.1 p1.toNatClampNeg p2), (upd u0.2.2.2.2.2.2.2.2.2.2.2.2.2.2.2 p1.toNatClampNeg p3)) C0 hP hD hS hw dX7_addBand_26
abbrev r_X7_bandLead : Room := { frames := 1, cells := 0, slots := 0, locals := 21 }
def j_X7_bandLead_2 (K2 : (Int32 × S_X7) → Prop) (x2 : Int32) (u0 : S_X7) (post : Int32 → S_X7 → Prop) : Prop := (x2 < 0 → (post (-1 : Int32) u0)) ∧ (¬ (x2 < 0) → (wp_X7_hasBand u0 x2 (fun r_3 u_2 => (r_3 = 0 → (∀ x_5 : Int32, x_5 = x2 + (-1) → (K2 (x_5, u_2)))) ∧ (¬ (r_3 = 0) → (post x2 u_2)))))
def wp_X7_bandLead (u0 : S_X7) (p1 : Int32) (post : Int32 → S_X7 → Prop) : Prop := ∃ n, zl (fun K st => j_X7_bandLead_2 K st.1 st.2 post) n (p1, u0)
set_option maxHeartbeats 4000000 in
set_option maxRecDepth 100000 in
theorem t_X7_bandLead_2 {p : Program} {l : Launch} {e : Env} {s : State} {m : MethodId} {args : Array Value} {below : List Frame} {meth : Method} {c : Code} {Z : zZ} {E : zE} {A : Nat → Prop} {q0 : Nat → Nat} (hZ0 : zSt Z) (C0 : zC p s m args meth c yX7_bandLead cX7_bandLead 3 (some .int)) (hA : ∀ q : Nat, s.heap.size ≤ q → A q) (hK : va_K (zD E) vwCl (zT E) s) (hZ : Z A s s.heap) (post : Int32 → S_X7 → Prop) : ∀ (n : Nat) (x2 : Int32) (u0 : S_X7) (H : Heap) (locs : List Loc) (ls : Array Slot), zl (fun K st => j_X7_bandLead_2 K st.1 st.2 post) n (x2, u0) → va_P (zD E) vwCl (k_X7 E q0 u0) H → va_D A (k_X7 E q0 u0) → va_S A s.heap H locs → lv_has ls 3 [(0, .ref (q0 0)), (2, .int x2)] → W p l e r_X7_bandLead s m args below meth c H locs 0 0 (MQ below (va_Qi post (zAt E A (fun u => k_X7 E q0 u)) A) args s 0 0 A) (F0 m 2 ls []) := by
  obtain ⟨hx, hb, hml, hr, hown, hts, hlocks, hin⟩ := id C0
  have hown : s.vm.findClass RX7 = some m.cls := hown
  intro n
  induction n with
  | zero => intro x2 u0 H locs ls hw; exact hw.elim
  | succ n hk_2 =>
    intro x2 u0 H locs ls hw hP hD hS hl
    have hw : j_X7_bandLead_2 _ x2 u0 post := hw
    refine lv_iload_n hx hb dX7_bandLead_2 rfl (lv_at hl 1 rfl) ?_
    obtain ⟨hwt, hwf⟩ := hw
    refine lv_if_lt (tgt := 22) hx hb dX7_bandLead_3 (by decide) (fun c_1 => ?_) (fun c_1 => ?_)
    · have hw := hwt c_1
      refine lv_iconst (v := (-1)) hx hb dX7_bandLead_22 rfl ?_
      exact z_iret (k := (fun u => k_X7 E q0 u)) u0 C0 hP hD hS hw dX7_bandLead_23
    · have hw := hwf c_1
      refine lv_aload_n hx hb dX7_bandLead_6 rfl (lv_at hl 0 rfl) ?_
      refine lv_iload_n hx hb dX7_bandLead_7 rfl (lv_at hl 1 rfl) ?_
      refine z_ki (z_rV (rest := []) hZ0 C0 hK hZ hA hP hD hS hl.1 (c_X7_hasBand l E Z hZ0 q0 H.size u0 x2 _ hw) yv_X7_68 [0, 1, 2, 3, 4] rfl (by decide) (ci := 7) rfl rfl 0 rfl ⟨Nat.le_of_ble_eq_true rfl, Nat.le_of_ble_eq_true rfl⟩ ⟨rfl, rfl⟩ rfl rfl (Nat.le_of_ble_eq_true rfl) ⟨Nat.le_of_ble_eq_true rfl, Nat.le_of_ble_eq_true rfl⟩ dX7_bandLead_8) hP hD hS hA [0, 1, 2, 3, 4] [] [0, 1, 2, 3, 4] rfl (wr := []) rfl (by decide) (by decide) (fun u => k_X7 E q0 u) (fun u => rfl) (by decide) (fun r_3 u_2 H locs hw hP hD hS => ?_)
      obtain ⟨hwt, hwf⟩ := hw
      refine lv_if_eq (tgt := 16) hx hb dX7_bandLead_11 (by decide) (fun c_4 => ?_) (fun c_4 => ?_)
      · have hw := hwt c_4
        obtain ⟨x_5, ex_5⟩ : ∃ y : Int32, y = x2 + (-1) := ⟨_, rfl⟩
        have hw := hw x_5 ex_5
        refine lv_iinc (v := x_5) (lv' := [(2, .int x_5), (0, .ref (q0 0))]) hx hb dX7_bandLead_16 hl (k := 1) rfl (by rw [ex_5]; rfl) (by decide) rfl (fun ls hl => ?_)
        refine lv_goto (tgt := 2) hx hb dX7_bandLead_19 (by decide) ?_
        exact hk_2 x_5 u_2 _ _ _ hw hP hD hS (lv_sub hl [1, 0] rfl)
      · have hw := hwf c_4
        refine lv_iload_n hx hb dX7_bandLead_14 rfl (lv_at hl 1 rfl) ?_
        exact z_iret (k := (fun u => k_X7 E q0 u)) u_2 C0 hP hD hS hw dX7_bandLead_15
set_option maxHeartbeats 4000000 in
set_option maxRecDepth 100000 in
theorem c_X7_bandLead (l : Launch) (E : zE) (Z : zZ) (hZ0 : zSt Z) (q0 : Nat → Nat) (sz : Nat) (u0 : S_X7) (p1 : Int32) (post : Int32 → S_X7 → Prop) (hw : wp_X7_bandLead u0 p1 post) : Met l yX7_bandLead (zws yX7_bandLead cX7_bandLead 3 (some .int)) r_X7_bandLead (va_Pc [.ref (q0 0), .int p1] (zPre Z E (k_X7 E q0 u0) sz)) (va_Qi post (zAt E (va_A (k_X7 E q0 u0) sz) (fun u => k_X7 E q0 u)) (va_A (k_X7 E q0 u0) sz)) 0 0 (va_A (k_X7 E q0 u0) sz) := by
  refine z_ofW (Qf := fun A => va_Qi post (zAt E A (fun u => k_X7 E q0 u)) A) (by decide) (Nat.le_of_ble_eq_true rfl) ?_
  intro p e s m args below meth c A ls C0 hA hK hZ hP hD hS hl
  obtain ⟨hx, hb, hml, hr, hown, hts, hlocks, hin⟩ := id C0
  have hown : s.vm.findClass RX7 = some m.cls := hown
  have hl : lv_has ls 3 [(0, .ref (q0 0)), (1, .int p1)] := hl
  refine lv_iload_n hx hb dX7_bandLead_0 rfl (lv_at hl 1 rfl) ?_
  refine lv_istore_n (lv' := [(2, .int p1), (0, .ref (q0 0)), (1, .int p1)]) hx hb dX7_bandLead_1 rfl hl (by decide) rfl (fun ls hl => ?_)
  obtain ⟨n9, hw⟩ := hw
  exact t_X7_bandLead_2 (l := l) hZ0 C0 hA hK hZ post n9 p1 u0 _ _ _ hw hP hD hS (lv_sub hl [1, 0] rfl)
abbrev r_X7_smallest : Room := { frames := 2, cells := 0, slots := 0, locals := 43 }
def wp_X7_smallest (u0 : S_X7) (p1 : Int32) (p2 : Int32) (post : Int32 → S_X7 → Prop) : Prop := wp_X7_bandLead u0 p1 (fun r_2 u_1 => (0 ≤ r_2 → (vp_in r_2 40 ∧ (post (p2 - ((p2 * (u_1.2.2.2.2.2.2.2.2.2.2.2.2.2.2.1 r_2.toNatClampNeg)) / (100 : Int32))) u_1))) ∧ (¬ (0 ≤ r_2) → (post (0 : Int32) u_1)))
set_option maxHeartbeats 4000000 in
set_option maxRecDepth 100000 in
theorem c_X7_smallest (l : Launch) (E : zE) (Z : zZ) (hZ0 : zSt Z) (q0 : Nat → Nat) (sz : Nat) (u0 : S_X7) (p1 : Int32) (p2 : Int32) (post : Int32 → S_X7 → Prop) (hw : wp_X7_smallest u0 p1 p2 post) : Met l yX7_smallest (zws yX7_smallest cX7_smallest 4 (some .int)) r_X7_smallest (va_Pc [.ref (q0 0), .int p1, .int p2] (zPre Z E (k_X7 E q0 u0) sz)) (va_Qi post (zAt E (va_A (k_X7 E q0 u0) sz) (fun u => k_X7 E q0 u)) (va_A (k_X7 E q0 u0) sz)) 0 0 (va_A (k_X7 E q0 u0) sz) := by
  refine z_ofW (Qf := fun A => va_Qi post (zAt E A (fun u => k_X7 E q0 u)) A) (by decide) (Nat.le_of_ble_eq_true rfl) ?_
  intro p e s m args below meth c A ls C0 hA hK hZ hP hD hS hl
  obtain ⟨hx, hb, hml, hr, hown, hts, hlocks, hin⟩ := id C0
  have hown : s.vm.findClass RX7 = some m.cls := hown
  have hl : lv_has ls 4 [(0, .ref (q0 0)), (1, .int p1), (2, .int p2)] := hl
  refine lv_aload_n hx hb dX7_smallest_0 rfl (lv_at hl 0 rfl) ?_
  refine lv_iload_n hx hb dX7_smallest_1 rfl (lv_at hl 1 rfl) ?_
  refine z_ki (z_rV (rest := []) hZ0 C0 hK hZ hA hP hD hS hl.1 (c_X7_bandLead l E Z hZ0 q0 s.heap.size u0 p1 _ hw) yv_X7_72 [0, 1, 2, 3, 4] rfl (by decide) (ci := 7) rfl rfl 0 rfl ⟨Nat.le_of_ble_eq_true rfl, Nat.le_of_ble_eq_true rfl⟩ ⟨rfl, rfl⟩ rfl rfl (Nat.le_of_ble_eq_true rfl) ⟨Nat.le_of_ble_eq_true rfl, Nat.le_of_ble_eq_true rfl⟩ dX7_smallest_2) hP hD hS hA [0, 1, 2, 3, 4] [] [0, 1, 2, 3, 4] rfl (wr := []) rfl (by decide) (by decide) (fun u => k_X7 E q0 u) (fun u => rfl) (by decide) (fun r_2 u_1 H locs hw hP hD hS => ?_)
  refine lv_istore_n (lv' := [(3, .int r_2), (0, .ref (q0 0)), (1, .int p1), (2, .int p2)]) hx hb dX7_smallest_5 rfl hl (by decide) rfl (fun ls hl => ?_)
  refine lv_iload_n hx hb dX7_smallest_6 rfl (lv_at hl 0 rfl) ?_
  obtain ⟨hwt, hwf⟩ := hw
  refine lv_if_ge (tgt := 14) hx hb dX7_smallest_7 (by decide) (fun c_3 => ?_) (fun c_3 => ?_)
  · have hw := hwt c_3
    refine lv_iload_n hx hb dX7_smallest_14 rfl (lv_at hl 3 rfl) ?_
    refine lv_iload_n hx hb dX7_smallest_15 rfl (lv_at hl 3 rfl) ?_
    refine lv_aload_n hx hb dX7_smallest_16 rfl (lv_at hl 1 rfl) ?_
    refine va_get (D := zD E) (ci := 7) (v := .ref (q0 3)) (C := RX7) (T := TX7) (N := 16) hx hb hts uw_X7 hown hK hP 0 rfl rfl 14 (by decide) (hts _ wm_1_86) (fun _ h9 => h9) rfl dX7_smallest_17 ?_
    refine lv_iload_n hx hb dX7_smallest_20 rfl (lv_at hl 0 rfl) ?_
    obtain ⟨h_4, hw⟩ := hw
    refine va_iald hx hb hK hP 3 0 rfl rfl h_4 dX7_smallest_21 ?_
    refine lv_imul hx hb dX7_smallest_22 ?_
    refine lv_bipush (v := 100) hx hb dX7_smallest_23 rfl ?_
    refine lv_idiv hx hb dX7_smallest_25 (by decide) ?_
    refine lv_isub hx hb dX7_smallest_26 ?_
    exact z_iret (k := (fun u => k_X7 E q0 u)) u_1 C0 hP hD hS hw dX7_smallest_27
  · have hw := hwf c_3
    refine lv_iconst (v := 0) hx hb dX7_smallest_10 rfl ?_
    refine lv_goto (tgt := 27) hx hb dX7_smallest_11 (by decide) ?_
    exact z_iret (k := (fun u => k_X7 E q0 u)) u_1 C0 hP hD hS hw dX7_smallest_27
abbrev r_X7_greatest : Room := { frames := 2, cells := 0, slots := 0, locals := 43 }
def wp_X7_greatest (u0 : S_X7) (p1 : Int32) (p2 : Int32) (post : Int32 → S_X7 → Prop) : Prop := wp_X7_bandLead u0 p1 (fun r_2 u_1 => (0 ≤ r_2 → (vp_in r_2 40 ∧ (post (p2 + ((p2 * (u_1.2.2.2.2.2.2.2.2.2.2.2.2.2.2.2 r_2.toNatClampNeg)) / (100 : Int32))) u_1))) ∧ (¬ (0 ≤ r_2) → (post (9999 : Int32) u_1)))
set_option maxHeartbeats 4000000 in
set_option maxRecDepth 100000 in
theorem c_X7_greatest (l : Launch) (E : zE) (Z : zZ) (hZ0 : zSt Z) (q0 : Nat → Nat) (sz : Nat) (u0 : S_X7) (p1 : Int32) (p2 : Int32) (post : Int32 → S_X7 → Prop) (hw : wp_X7_greatest u0 p1 p2 post) : Met l yX7_greatest (zws yX7_greatest cX7_greatest 4 (some .int)) r_X7_greatest (va_Pc [.ref (q0 0), .int p1, .int p2] (zPre Z E (k_X7 E q0 u0) sz)) (va_Qi post (zAt E (va_A (k_X7 E q0 u0) sz) (fun u => k_X7 E q0 u)) (va_A (k_X7 E q0 u0) sz)) 0 0 (va_A (k_X7 E q0 u0) sz) := by
  refine z_ofW (Qf := fun A => va_Qi post (zAt E A (fun u => k_X7 E q0 u)) A) (by decide) (Nat.le_of_ble_eq_true rfl) ?_
  intro p e s m args below meth c A ls C0 hA hK hZ hP hD hS hl
  obtain ⟨hx, hb, hml, hr, hown, hts, hlocks, hin⟩ := id C0
  have hown : s.vm.findClass RX7 = some m.cls := hown
  have hl : lv_has ls 4 [(0, .ref (q0 0)), (1, .int p1), (2, .int p2)] := hl
  refine lv_aload_n hx hb dX7_greatest_0 rfl (lv_at hl 0 rfl) ?_
  refine lv_iload_n hx hb dX7_greatest_1 rfl (lv_at hl 1 rfl) ?_
  refine z_ki (z_rV (rest := []) hZ0 C0 hK hZ hA hP hD hS hl.1 (c_X7_bandLead l E Z hZ0 q0 s.heap.size u0 p1 _ hw) yv_X7_72 [0, 1, 2, 3, 4] rfl (by decide) (ci := 7) rfl rfl 0 rfl ⟨Nat.le_of_ble_eq_true rfl, Nat.le_of_ble_eq_true rfl⟩ ⟨rfl, rfl⟩ rfl rfl (Nat.le_of_ble_eq_true rfl) ⟨Nat.le_of_ble_eq_true rfl, Nat.le_of_ble_eq_true rfl⟩ dX7_greatest_2) hP hD hS hA [0, 1, 2, 3, 4] [] [0, 1, 2, 3, 4] rfl (wr := []) rfl (by decide) (by decide) (fun u => k_X7 E q0 u) (fun u => rfl) (by decide) (fun r_2 u_1 H locs hw hP hD hS => ?_)
  refine lv_istore_n (lv' := [(3, .int r_2), (0, .ref (q0 0)), (1, .int p1), (2, .int p2)]) hx hb dX7_greatest_5 rfl hl (by decide) rfl (fun ls hl => ?_)
  refine lv_iload_n hx hb dX7_greatest_6 rfl (lv_at hl 0 rfl) ?_
  obtain ⟨hwt, hwf⟩ := hw
  refine lv_if_ge (tgt := 16) hx hb dX7_greatest_7 (by decide) (fun c_3 => ?_) (fun c_3 => ?_)
  · have hw := hwt c_3
    refine lv_iload_n hx hb dX7_greatest_16 rfl (lv_at hl 3 rfl) ?_
    refine lv_iload_n hx hb dX7_greatest_17 rfl (lv_at hl 3 rfl) ?_
    refine lv_aload_n hx hb dX7_greatest_18 rfl (lv_at hl 1 rfl) ?_
    refine va_get (D := zD E) (ci := 7) (v := .ref (q0 4)) (C := RX7) (T := TX7) (N := 16) hx hb hts uw_X7 hown hK hP 0 rfl rfl 15 (by decide) (hts _ wm_1_87) (fun _ h9 => h9) rfl dX7_greatest_19 ?_
    refine lv_iload_n hx hb dX7_greatest_22 rfl (lv_at hl 0 rfl) ?_
    obtain ⟨h_4, hw⟩ := hw
    refine va_iald hx hb hK hP 4 0 rfl rfl h_4 dX7_greatest_23 ?_
    refine lv_imul hx hb dX7_greatest_24 ?_
    refine lv_bipush (v := 100) hx hb dX7_greatest_25 rfl ?_
    refine lv_idiv hx hb dX7_greatest_27 (by decide) ?_
    refine lv_iadd hx hb dX7_greatest_28 ?_
    exact z_iret (k := (fun u => k_X7 E q0 u)) u_1 C0 hP hD hS hw dX7_greatest_29
  · have hw := hwf c_3
    refine lv_sipush (v := 9999) hx hb dX7_greatest_10 rfl ?_
    refine lv_goto (tgt := 29) hx hb dX7_greatest_13 (by decide) ?_
    exact z_iret (k := (fun u => k_X7 E q0 u)) u_1 C0 hP hD hS hw dX7_greatest_29
abbrev r_X7_excess : Room := { frames := 3, cells := 0, slots := 0, locals := 66 }
def wp_X7_excess (u0 : S_X7) (p1 : Int32) (p2 : Int32) (p3 : Int32) (post : Int32 → S_X7 → Prop) : Prop := wp_X7_smallest u0 p1 p2 (fun r_2 u_1 => ∀ x_3 : Int32, x_3 = (r_2 - p3) → (wp_X7_greatest u_1 p1 p2 (fun r_5 u_4 => ∀ x_6 : Int32, x_6 = (p3 - r_5) → (post (if (0 : Int32) < (if x_3 < x_6 then x_6 else x_3) then (if x_3 < x_6 then x_6 else x_3) else (0 : Int32)) u_4))))
set_option maxHeartbeats 4000000 in
set_option maxRecDepth 100000 in
theorem c_X7_excess (l : Launch) (E : zE) (Z : zZ) (hZ0 : zSt Z) (q0 : Nat → Nat) (sz : Nat) (u0 : S_X7) (p1 : Int32) (p2 : Int32) (p3 : Int32) (post : Int32 → S_X7 → Prop) (hw : wp_X7_excess u0 p1 p2 p3 post) : Met l yX7_excess (zws yX7_excess cX7_excess 6 (some .int)) r_X7_excess (va_Pc [.ref (q0 0), .int p1, .int p2, .int p3] (zPre Z E (k_X7 E q0 u0) sz)) (va_Qi post (zAt E (va_A (k_X7 E q0 u0) sz) (fun u => k_X7 E q0 u)) (va_A (k_X7 E q0 u0) sz)) 0 0 (va_A (k_X7 E q0 u0) sz) := by
  refine z_ofW (Qf := fun A => va_Qi post (zAt E A (fun u => k_X7 E q0 u)) A) (by decide) (Nat.le_of_ble_eq_true rfl) ?_
  intro p e s m args below meth c A ls C0 hA hK hZ hP hD hS hl
  obtain ⟨hx, hb, hml, hr, hown, hts, hlocks, hin⟩ := id C0
  have hown : s.vm.findClass RX7 = some m.cls := hown
  have hl : lv_has ls 6 [(0, .ref (q0 0)), (1, .int p1), (2, .int p2), (3, .int p3)] := hl
  refine lv_aload_n hx hb dX7_excess_0 rfl (lv_at hl 0 rfl) ?_
  refine lv_iload_n hx hb dX7_excess_1 rfl (lv_at hl 1 rfl) ?_
  refine lv_iload_n hx hb dX7_excess_2 rfl (lv_at hl 2 rfl) ?_
  refine z_ki (z_rV (rest := []) hZ0 C0 hK hZ hA hP hD hS hl.1 (c_X7_smallest l E Z hZ0 q0 s.heap.size u0 p1 p2 _ hw) yv_X7_76 [0, 1, 2, 3, 4] rfl (by decide) (ci := 7) rfl rfl 0 rfl ⟨Nat.le_of_ble_eq_true rfl, Nat.le_of_ble_eq_true rfl⟩ ⟨rfl, rfl⟩ rfl rfl (Nat.le_of_ble_eq_true rfl) ⟨Nat.le_of_ble_eq_true rfl, Nat.le_of_ble_eq_true rfl⟩ dX7_excess_3) hP hD hS hA [0, 1, 2, 3, 4] [] [0, 1, 2, 3, 4] rfl (wr := []) rfl (by decide) (by decide) (fun u => k_X7 E q0 u) (fun u => rfl) (by decide) (fun r_2 u_1 H locs hw hP hD hS => ?_)
  refine lv_iload_n hx hb dX7_excess_6 rfl (lv_at hl 3 rfl) ?_
  refine lv_isub hx hb dX7_excess_7 ?_
  refine lv_topi (fun x_3 ex_3 => ?_)
  have hw := hw x_3 ex_3
  refine lv_istore (lv' := [(4, .int x_3), (0, .ref (q0 0)), (1, .int p1), (2, .int p2), (3, .int p3)]) hx hb dX7_excess_8 hl (by decide) rfl (fun ls hl => ?_)
  refine lv_iload_n hx hb dX7_excess_10 rfl (lv_at hl 4 rfl) ?_
  refine lv_aload_n hx hb dX7_excess_11 rfl (lv_at hl 1 rfl) ?_
  refine lv_iload_n hx hb dX7_excess_12 rfl (lv_at hl 2 rfl) ?_
  refine lv_iload_n hx hb dX7_excess_13 rfl (lv_at hl 3 rfl) ?_
  refine z_ki (z_rV (rest := [.int p3]) hZ0 C0 hK hZ hA hP hD hS hl.1 (c_X7_greatest l E Z hZ0 q0 H.size u_1 p1 p2 _ hw) yv_X7_80 [0, 1, 2, 3, 4] rfl (by decide) (ci := 7) rfl rfl 0 rfl ⟨Nat.le_of_ble_eq_true rfl, Nat.le_of_ble_eq_true rfl⟩ ⟨rfl, rfl⟩ rfl rfl (Nat.le_of_ble_eq_true rfl) ⟨Nat.le_of_ble_eq_true rfl, Nat.le_of_ble_eq_true rfl⟩ dX7_excess_14) hP hD hS hA [0, 1, 2, 3, 4] [] [0, 1, 2, 3, 4] rfl (wr := []) rfl (by decide) (by decide) (fun u => k_X7 E q0 u) (fun u => rfl) (by decide) (fun r_5 u_4 H locs hw hP hD hS => ?_)
  refine lv_isub hx hb dX7_excess_17 ?_
  refine lv_topi (fun x_6 ex_6 => ?_)
  have hw := hw x_6 ex_6
  refine lv_istore (lv' := [(5, .int x_6), (4, .int x_3), (0, .ref (q0 0)), (1, .int p1), (2, .int p2), (3, .int p3)]) hx hb dX7_excess_18 hl (by decide) rfl (fun ls hl => ?_)
  refine lv_iconst (v := 0) hx hb dX7_excess_20 rfl ?_
  refine lv_iload hx hb dX7_excess_21 (lv_at hl 1 rfl) ?_
  refine lv_iload hx hb dX7_excess_23 (lv_at hl 0 rfl) ?_
  refine va_mmax hx hb (hml.trans hl.1.symm) hown (hts _ wm_5_60) (hts _ wm_2_239) (hts _ wm_1_16) (hts _ wm_3_0) (Nat.le_of_ble_eq_true rfl) (Nat.le_of_ble_eq_true rfl) (Nat.le_of_ble_eq_true rfl) (Nat.le_of_ble_eq_true rfl) dX7_excess_25 ?_
  refine va_mmax hx hb (hml.trans hl.1.symm) hown (hts _ wm_5_60) (hts _ wm_2_239) (hts _ wm_1_16) (hts _ wm_3_0) (Nat.le_of_ble_eq_true rfl) (Nat.le_of_ble_eq_true rfl) (Nat.le_of_ble_eq_true rfl) (Nat.le_of_ble_eq_true rfl) dX7_excess_28 ?_
  exact z_iret (k := (fun u => k_X7 E q0 u)) u_4 C0 hP hD hS hw dX7_excess_31
abbrev r_X7_penalty : Room := { frames := 0, cells := 0, slots := 0, locals := 0 }
def j_X7_penalty_53 (K24 : (Int32 × Int32 × Int32 × Int32 × S_X7) → Prop) (x1 : Int32) (x3 : Int32) (x4 : Int32) (x5 : Int32) (u0 : S_X7) (post : Int32 → S_X7 → Prop) : Prop := ∀ x_8 : Int32, x_8 = x5 + 1 → (K24 (x1, x3, x4, x_8, u0))
def j_X7_penalty_24 (K24 : (Int32 × Int32 × Int32 × Int32 × S_X7) → Prop) (x1 : Int32) (x3 : Int32) (x4 : Int32) (x5 : Int32) (u0 : S_X7) (post : Int32 → S_X7 → Prop) : Prop := (u0.2.2.2.2.2.2.2.2.2.2.1 ≤ x5 → (post (x1 * x4) u0)) ∧ (¬ (u0.2.2.2.2.2.2.2.2.2.2.1 ≤ x5) → (vp_in x5 6 ∧ ((x3 < (u0.2.2.2.2.2.2.2.2.2.2.2.1 x5.toNatClampNeg) → (j_X7_penalty_53 K24 x1 x3 x4 x5 u0 post)) ∧ (¬ (x3 < (u0.2.2.2.2.2.2.2.2.2.2.2.1 x5.toNatClampNeg)) → (vp_in x5 6 ∧ (∀ x_7 : Int32, x_7 = (u0.2.2.2.2.2.2.2.2.2.2.2.2.1 x5.toNatClampNeg) → (j_X7_penalty_53 K24 x1 x3 x_7 x5 u0 post)))))))
def j_X7_penalty_17 (x1 : Int32) (y0 : Int32) (u0 : S_X7) (post : Int32 → S_X7 → Prop) : Prop := ∃ n, zl (fun K st => j_X7_penalty_24 K st.1 st.2.1 st.2.2.1 st.2.2.2.1 st.2.2.2.2 post) n (x1, y0, (0 : Int32), (0 : Int32), u0)
def wp_X7_penalty (u0 : S_X7) (p1 : Int32) (p2 : Int32) (post : Int32 → S_X7 → Prop) : Prop := (p2 ≤ 0 → (j_X7_penalty_17 p1 (p1 * (100 : Int32)) u0 post)) ∧ (¬ (p2 ≤ 0) → ((¬ p2 = 0) ∧ (j_X7_penalty_17 p1 ((p1 * (100 : Int32)) / p2) u0 post)))
set_option maxHeartbeats 4000000 in
set_option maxRecDepth 100000 in
theorem t_X7_penalty_53 {p : Program} {l : Launch} {e : Env} {s : State} {m : MethodId} {args : Array Value} {below : List Frame} {meth : Method} {c : Code} {Z : zZ} {E : zE} {A : Nat → Prop} {q0 : Nat → Nat} (hZ0 : zSt Z) (C0 : zC p s m args meth c yX7_penalty cX7_penalty 6 (some .int)) (hA : ∀ q : Nat, s.heap.size ≤ q → A q) (hK : va_K (zD E) vwCl (zT E) s) (hZ : Z A s s.heap) (post : Int32 → S_X7 → Prop) {K24 : (Int32 × Int32 × Int32 × Int32 × S_X7) → Prop} (hk_24 : ∀ (x1 : Int32) (x3 : Int32) (x4 : Int32) (x5 : Int32) (u0 : S_X7) (H : Heap) (locs : List Loc) (ls : Array Slot), K24 (x1, x3, x4, x5, u0) → va_P (zD E) vwCl (k_X7 E q0 u0) H → va_D A (k_X7 E q0 u0) → va_S A s.heap H locs → lv_has ls 6 [(0, .ref (q0 0)), (1, .int x1), (3, .int x3), (4, .int x4), (5, .int x5)] → W p l e r_X7_penalty s m args below meth c H locs 0 0 (MQ below (va_Qi post (zAt E A (fun u => k_X7 E q0 u)) A) args s 0 0 A) (F0 m 24 ls [])) : ∀ (x1 : Int32) (x3 : Int32) (x4 : Int32) (x5 : Int32) (u0 : S_X7) (H : Heap) (locs : List Loc) (ls : Array Slot), j_X7_penalty_53 K24 x1 x3 x4 x5 u0 post → va_P (zD E) vwCl (k_X7 E q0 u0) H → va_D A (k_X7 E q0 u0) → va_S A s.heap H locs → lv_has ls 6 [(0, .ref (q0 0)), (1, .int x1), (3, .int x3), (4, .int x4), (5, .int x5)] → W p l e r_X7_penalty s m args below meth c H locs 0 0 (MQ below (va_Qi post (zAt E A (fun u => k_X7 E q0 u)) A) args s 0 0 A) (F0 m 53 ls []) := by
  obtain ⟨hx, hb, hml, hr, hown, hts, hlocks, hin⟩ := id C0
  have hown : s.vm.findClass RX7 = some m.cls := hown
  intro x1 x3 x4 x5 u0 H locs ls hw hP hD hS hl
  obtain ⟨x_8, ex_8⟩ : ∃ y : Int32, y = x5 + 1 := ⟨_, rfl⟩
  have hw := hw x_8 ex_8
  refine lv_iinc (v := x_8) (lv' := [(5, .int x_8), (0, .ref (q0 0)), (1, .int x1), (3, .int x3), (4, .int x4)]) hx hb dX7_penalty_53 hl (k := 4) rfl (by rw [ex_8]; rfl) (by decide) rfl (fun ls hl => ?_)
  refine lv_goto (tgt := 24) hx hb dX7_penalty_56 (by decide) ?_
  exact hk_24 x1 x3 x4 x_8 u0 _ _ _ hw hP hD hS (lv_sub hl [1, 2, 3, 4, 0] rfl)
set_option maxHeartbeats 4000000 in
set_option maxRecDepth 100000 in
theorem t_X7_penalty_24 {p : Program} {l : Launch} {e : Env} {s : State} {m : MethodId} {args : Array Value} {below : List Frame} {meth : Method} {c : Code} {Z : zZ} {E : zE} {A : Nat → Prop} {q0 : Nat → Nat} (hZ0 : zSt Z) (C0 : zC p s m args meth c yX7_penalty cX7_penalty 6 (some .int)) (hA : ∀ q : Nat, s.heap.size ≤ q → A q) (hK : va_K (zD E) vwCl (zT E) s) (hZ : Z A s s.heap) (post : Int32 → S_X7 → Prop) : ∀ (n : Nat) (x1 : Int32) (x3 : Int32) (x4 : Int32) (x5 : Int32) (u0 : S_X7) (H : Heap) (locs : List Loc) (ls : Array Slot), zl (fun K st => j_X7_penalty_24 K st.1 st.2.1 st.2.2.1 st.2.2.2.1 st.2.2.2.2 post) n (x1, x3, x4, x5, u0) → va_P (zD E) vwCl (k_X7 E q0 u0) H → va_D A (k_X7 E q0 u0) → va_S A s.heap H locs → lv_has ls 6 [(0, .ref (q0 0)), (1, .int x1), (3, .int x3), (4, .int x4), (5, .int x5)] → W p l e r_X7_penalty s m args below meth c H locs 0 0 (MQ below (va_Qi post (zAt E A (fun u => k_X7 E q0 u)) A) args s 0 0 A) (F0 m 24 ls []) := by
  obtain ⟨hx, hb, hml, hr, hown, hts, hlocks, hin⟩ := id C0
  have hown : s.vm.findClass RX7 = some m.cls := hown
  intro n
  induction n with
  | zero => intro x1 x3 x4 x5 u0 H locs ls hw; exact hw.elim
  | succ n hk_24 =>
    intro x1 x3 x4 x5 u0 H locs ls hw hP hD hS hl
    have hw : j_X7_penalty_24 _ x1 x3 x4 x5 u0 post := hw
    refine lv_iload hx hb dX7_penalty_24 (lv_at hl 4 rfl) ?_
    refine lv_aload_n hx hb dX7_penalty_26 rfl (lv_at hl 0 rfl) ?_
    refine va_get (D := zD E) (ci := 7) (v := .int u0.2.2.2.2.2.2.2.2.2.2.1) (C := RX7) (T := TX7) (N := 16) hx hb hts uw_X7 hown hK hP 0 rfl rfl 10 (by decide) (hts _ wm_1_79) (fun _ h9 => h9) rfl dX7_penalty_27 ?_
    obtain ⟨hwt, hwf⟩ := hw
    refine lv_icmp_ge (tgt := 59) hx hb dX7_penalty_30 (by decide) (fun c_3 => ?_) (fun c_3 => ?_)
    · have hw := hwt c_3
      refine lv_iload_n hx hb dX7_penalty_59 rfl (lv_at hl 1 rfl) ?_
      refine lv_iload hx hb dX7_penalty_60 (lv_at hl 3 rfl) ?_
      refine lv_imul hx hb dX7_penalty_62 ?_
      exact z_iret (k := (fun u => k_X7 E q0 u)) u0 C0 hP hD hS hw dX7_penalty_63
    · have hw := hwf c_3
      refine lv_aload_n hx hb dX7_penalty_33 rfl (lv_at hl 0 rfl) ?_
      refine va_get (D := zD E) (ci := 7) (v := .ref (q0 1)) (C := RX7) (T := TX7) (N := 16) hx hb hts uw_X7 hown hK hP 0 rfl rfl 11 (by decide) (hts _ wm_1_81) (fun _ h9 => h9) rfl dX7_penalty_34 ?_
      refine lv_iload hx hb dX7_penalty_37 (lv_at hl 4 rfl) ?_
      obtain ⟨h_4, hw⟩ := hw
      refine va_iald hx hb hK hP 1 0 rfl rfl h_4 dX7_penalty_39 ?_
      refine lv_iload_n hx hb dX7_penalty_40 rfl (lv_at hl 2 rfl) ?_
      obtain ⟨hwt, hwf⟩ := hw
      refine lv_icmp_gt (tgt := 53) hx hb dX7_penalty_41 (by decide) (fun c_5 => ?_) (fun c_5 => ?_)
      · have hw := hwt c_5
        exact t_X7_penalty_53 (l := l) hZ0 C0 hA hK hZ post hk_24 x1 x3 x4 x5 u0 _ _ _ hw hP hD hS (lv_sub hl [0, 1, 2, 3, 4] rfl)
      · have hw := hwf c_5
        refine lv_aload_n hx hb dX7_penalty_44 rfl (lv_at hl 0 rfl) ?_
        refine va_get (D := zD E) (ci := 7) (v := .ref (q0 2)) (C := RX7) (T := TX7) (N := 16) hx hb hts uw_X7 hown hK hP 0 rfl rfl 12 (by decide) (hts _ wm_1_83) (fun _ h9 => h9) rfl dX7_penalty_45 ?_
        refine lv_iload hx hb dX7_penalty_48 (lv_at hl 4 rfl) ?_
        obtain ⟨h_6, hw⟩ := hw
        refine va_iald hx hb hK hP 2 0 rfl rfl h_6 dX7_penalty_50 ?_
        refine lv_topi (fun x_7 ex_7 => ?_)
        have hw := hw x_7 ex_7
        refine lv_istore (lv' := [(4, .int x_7), (0, .ref (q0 0)), (1, .int x1), (3, .int x3), (5, .int x5)]) hx hb dX7_penalty_51 hl (by decide) rfl (fun ls hl => ?_)
        exact t_X7_penalty_53 (l := l) hZ0 C0 hA hK hZ post hk_24 x1 x3 x_7 x5 u0 _ _ _ hw hP hD hS (lv_sub hl [1, 2, 3, 0, 4] rfl)
set_option maxHeartbeats 4000000 in
set_option maxRecDepth 100000 in
theorem t_X7_penalty_17 {p : Program} {l : Launch} {e : Env} {s : State} {m : MethodId} {args : Array Value} {below : List Frame} {meth : Method} {c : Code} {Z : zZ} {E : zE} {A : Nat → Prop} {q0 : Nat → Nat} (hZ0 : zSt Z) (C0 : zC p s m args meth c yX7_penalty cX7_penalty 6 (some .int)) (hA : ∀ q : Nat, s.heap.size ≤ q → A q) (hK : va_K (zD E) vwCl (zT E) s) (hZ : Z A s s.heap) (post : Int32 → S_X7 → Prop) : ∀ (x1 : Int32) (y0 : Int32) (u0 : S_X7) (H : Heap) (locs : List Loc) (ls : Array Slot), j_X7_penalty_17 x1 y0 u0 post → va_P (zD E) vwCl (k_X7 E q0 u0) H → va_D A (k_X7 E q0 u0) → va_S A s.heap H locs → lv_has ls 6 [(0, .ref (q0 0)), (1, .int x1)] → W p l e r_X7_penalty s m args below meth c H locs 0 0 (MQ below (va_Qi post (zAt E A (fun u => k_X7 E q0 u)) A) args s 0 0 A) (F0 m 17 ls [.int y0]) := by
  obtain ⟨hx, hb, hml, hr, hown, hts, hlocks, hin⟩ := id C0
  have hown : s.vm.findClass RX7 = some m.cls := hown
  intro x1 y0 u0 H locs ls hw hP hD hS hl
  refine lv_istore_n (lv' := [(3, .int y0), (0, .ref (q0 0)), (1, .int x1)]) hx hb dX7_penalty_17 rfl hl (by decide) rfl (fun ls hl => ?_)
  refine lv_iconst (v := 0) hx hb dX7_penalty_18 rfl ?_
  refine lv_istore (lv' := [(4, .int (0 : Int32)), (3, .int y0), (0, .ref (q0 0)), (1, .int x1)]) hx hb dX7_penalty_19 hl (by decide) rfl (fun ls hl => ?_)
  refine lv_iconst (v := 0) hx hb dX7_penalty_21 rfl ?_
  refine lv_istore (lv' := [(5, .int (0 : Int32)), (4, .int (0 : Int32)), (3, .int y0), (0, .ref (q0 0)), (1, .int x1)]) hx hb dX7_penalty_22 hl (by decide) rfl (fun ls hl => ?_)
  obtain ⟨n9, hw⟩ := hw
  exact t_X7_penalty_24 (l := l) hZ0 C0 hA hK hZ post n9 x1 y0 (0 : Int32) (0 : Int32) u0 _ _ _ hw hP hD hS (lv_sub hl [3, 4, 2, 1, 0] rfl)
set_option maxHeartbeats 4000000 in
set_option maxRecDepth 100000 in
theorem c_X7_penalty (l : Launch) (E : zE) (Z : zZ) (hZ0 : zSt Z) (q0 : Nat → Nat) (sz : Nat) (u0 : S_X7) (p1 : Int32) (p2 : Int32) (post : Int32 → S_X7 → Prop) (hw : wp_X7_penalty u0 p1 p2 post) : Met l yX7_penalty (zws yX7_penalty cX7_penalty 6 (some .int)) r_X7_penalty (va_Pc [.ref (q0 0), .int p1, .int p2] (zPre Z E (k_X7 E q0 u0) sz)) (va_Qi post (zAt E (va_A (k_X7 E q0 u0) sz) (fun u => k_X7 E q0 u)) (va_A (k_X7 E q0 u0) sz)) 0 0 (va_A (k_X7 E q0 u0) sz) := by
  refine z_ofW (Qf := fun A => va_Qi post (zAt E A (fun u => k_X7 E q0 u)) A) (by decide) (Nat.le_of_ble_eq_true rfl) ?_
  intro p e s m args below meth c A ls C0 hA hK hZ hP hD hS hl
  obtain ⟨hx, hb, hml, hr, hown, hts, hlocks, hin⟩ := id C0
  have hown : s.vm.findClass RX7 = some m.cls := hown
  have hl : lv_has ls 6 [(0, .ref (q0 0)), (1, .int p1), (2, .int p2)] := hl
  refine lv_iload_n hx hb dX7_penalty_0 rfl (lv_at hl 2 rfl) ?_
  obtain ⟨hwt, hwf⟩ := hw
  refine lv_if_le (tgt := 13) hx hb dX7_penalty_1 (by decide) (fun c_1 => ?_) (fun c_1 => ?_)
  · have hw := hwt c_1
    refine lv_iload_n hx hb dX7_penalty_13 rfl (lv_at hl 1 rfl) ?_
    refine lv_bipush (v := 100) hx hb dX7_penalty_14 rfl ?_
    refine lv_imul hx hb dX7_penalty_16 ?_
    exact t_X7_penalty_17 (l := l) hZ0 C0 hA hK hZ post p1 (p1 * (100 : Int32)) u0 _ _ _ hw hP hD hS (lv_sub hl [0, 1] rfl)
  · have hw := hwf c_1
    refine lv_iload_n hx hb dX7_penalty_4 rfl (lv_at hl 1 rfl) ?_
    refine lv_bipush (v := 100) hx hb dX7_penalty_5 rfl ?_
    refine lv_imul hx hb dX7_penalty_7 ?_
    refine lv_iload_n hx hb dX7_penalty_8 rfl (lv_at hl 2 rfl) ?_
    obtain ⟨h_2, hw⟩ := hw
    refine lv_idiv hx hb dX7_penalty_9 h_2 ?_
    refine lv_goto (tgt := 17) hx hb dX7_penalty_10 (by decide) ?_
    exact t_X7_penalty_17 (l := l) hZ0 C0 hA hK hZ post p1 ((p1 * (100 : Int32)) / p2) u0 _ _ _ hw hP hD hS (lv_sub hl [0, 1] rfl)
