abbrev r_X1_copyFrom : Room := { frames := 1, cells := 0, slots := 0, locals := 40 }
def wp_X1_copyFrom (u0 : S_X1) (u1 : S_X1) (post : (S_X1 × S_X1) → Prop) : Prop := (∀ i, i < 20 → fits .boolean (.int (u1.2.2.2.2.2.2 (0 + i))) = true) ∧ (post ((u1.1, u1.2.1, u1.2.2.1, (va_cpy u1.2.2.2.1 u0.2.2.2.1 0 0 20), (va_cpy u1.2.2.2.2.1 u0.2.2.2.2.1 0 0 20), (va_cpy u1.2.2.2.2.2.1 u0.2.2.2.2.2.1 0 0 20), (va_cpy u1.2.2.2.2.2.2 u0.2.2.2.2.2.2 0 0 20)), u1))
set_option maxHeartbeats 4000000 in
set_option maxRecDepth 100000 in
theorem c_X1_copyFrom (l : Launch) (E : zE) (Z : zZ) (hZ0 : zSt Z) (q0 : Nat → Nat) (q1 : Nat → Nat) (sz : Nat) (u0 : S_X1) (u1 : S_X1) (post : (S_X1 × S_X1) → Prop) (hw : wp_X1_copyFrom u0 u1 post) : Met l yX1_copyFrom (zws yX1_copyFrom cX1_copyFrom 2 none) r_X1_copyFrom (va_Pc [.ref (q0 0), .ref (q1 0)] (zPre Z E (k_X1 E q0 u0 ++ (k_X1 E q1 u1)) sz)) (va_Qv post (zAt E (va_A (k_X1 E q0 u0 ++ (k_X1 E q1 u1)) sz) (fun u => k_X1 E q0 u.1 ++ (k_X1 E q1 u.2))) (va_A (k_X1 E q0 u0 ++ (k_X1 E q1 u1)) sz)) 0 0 (va_A (k_X1 E q0 u0 ++ (k_X1 E q1 u1)) sz) := by
  refine z_ofW (Qf := fun A => va_Qv post (zAt E A (fun u => k_X1 E q0 u.1 ++ (k_X1 E q1 u.2))) A) (by decide) (Nat.le_of_ble_eq_true rfl) ?_
  intro p e s m args below meth c A ls C0 hA hK hZ hP hD hS hl
  obtain ⟨hx, hb, hml, hr, hown, hts, hlocks, hin⟩ := id C0
  have hown : s.vm.findClass RX1 = some m.cls := hown
  have hl : lv_has ls 2 [(0, .ref (q0 0)), (1, .ref (q1 0))] := hl
  refine lv_aload_n hx hb dX1_copyFrom_0 rfl (lv_at hl 0 rfl) ?_
  refine lv_aload_n hx hb dX1_copyFrom_1 rfl (lv_at hl 1 rfl) ?_
  refine va_get (D := zD E) (ci := 1) (v := .int u1.1) (C := RX1) (T := TX1) (N := 7) hx hb hts uw_X1 hown hK hP 5 rfl rfl 0 (by decide) (hts _ wm_1_166) (fun _ h9 => h9) rfl dX1_copyFrom_2 ?_
  refine va_put (D := zD E) (ci := 1) (v := .int u1.1) (ty := .int) (C := RX1) (T := TX1) (N := 7) hx hb hts uw_X1 tyX1 tyX1_ok nmX1 hown hK hP hD hS 0 rfl rfl 0 (by decide) (hts _ wm_1_166) (fun _ h9 => h9) rfl (by decide +kernel) rfl rfl (Nat.le_of_ble_eq_true rfl) dX1_copyFrom_5 (fun H locs hP hD hS => ?_)
  have hP : va_P (zD E) vwCl (k_X1 E q0 (u1.1, u0.2.1, u0.2.2.1, u0.2.2.2.1, u0.2.2.2.2.1, u0.2.2.2.2.2.1, u0.2.2.2.2.2.2) ++ (k_X1 E q1 u1)) H := hP
  have hD : va_D A (k_X1 E q0 (u1.1, u0.2.1, u0.2.2.1, u0.2.2.2.1, u0.2.2.2.2.1, u0.2.2.2.2.2.1, u0.2.2.2.2.2.2) ++ (k_X1 E q1 u1)) := hD
  refine lv_aload_n hx hb dX1_copyFrom_8 rfl (lv_at hl 0 rfl) ?_
  refine lv_aload_n hx hb dX1_copyFrom_9 rfl (lv_at hl 1 rfl) ?_
  refine va_get (D := zD E) (ci := 1) (v := .int u1.2.1) (C := RX1) (T := TX1) (N := 7) hx hb hts uw_X1 hown hK hP 5 rfl rfl 1 (by decide) (hts _ wm_1_169) (fun _ h9 => h9) rfl dX1_copyFrom_10 ?_
  refine va_put (D := zD E) (ci := 1) (v := .int u1.2.1) (ty := .int) (C := RX1) (T := TX1) (N := 7) hx hb hts uw_X1 tyX1 tyX1_ok nmX1 hown hK hP hD hS 0 rfl rfl 1 (by decide) (hts _ wm_1_169) (fun _ h9 => h9) rfl (by decide +kernel) rfl rfl (Nat.le_of_ble_eq_true rfl) dX1_copyFrom_13 (fun H locs hP hD hS => ?_)
  have hP : va_P (zD E) vwCl (k_X1 E q0 (u1.1, u1.2.1, u0.2.2.1, u0.2.2.2.1, u0.2.2.2.2.1, u0.2.2.2.2.2.1, u0.2.2.2.2.2.2) ++ (k_X1 E q1 u1)) H := hP
  have hD : va_D A (k_X1 E q0 (u1.1, u1.2.1, u0.2.2.1, u0.2.2.2.1, u0.2.2.2.2.1, u0.2.2.2.2.2.1, u0.2.2.2.2.2.2) ++ (k_X1 E q1 u1)) := hD
  refine lv_aload_n hx hb dX1_copyFrom_16 rfl (lv_at hl 0 rfl) ?_
  refine lv_aload_n hx hb dX1_copyFrom_17 rfl (lv_at hl 1 rfl) ?_
  refine va_get (D := zD E) (ci := 1) (v := .int u1.2.2.1) (C := RX1) (T := TX1) (N := 7) hx hb hts uw_X1 hown hK hP 5 rfl rfl 2 (by decide) (hts _ wm_1_171) (fun _ h9 => h9) rfl dX1_copyFrom_18 ?_
  refine va_put (D := zD E) (ci := 1) (v := .int u1.2.2.1) (ty := .int) (C := RX1) (T := TX1) (N := 7) hx hb hts uw_X1 tyX1 tyX1_ok nmX1 hown hK hP hD hS 0 rfl rfl 2 (by decide) (hts _ wm_1_171) (fun _ h9 => h9) rfl (by decide +kernel) rfl rfl (Nat.le_of_ble_eq_true rfl) dX1_copyFrom_21 (fun H locs hP hD hS => ?_)
  have hP : va_P (zD E) vwCl (k_X1 E q0 (u1.1, u1.2.1, u1.2.2.1, u0.2.2.2.1, u0.2.2.2.2.1, u0.2.2.2.2.2.1, u0.2.2.2.2.2.2) ++ (k_X1 E q1 u1)) H := hP
  have hD : va_D A (k_X1 E q0 (u1.1, u1.2.1, u1.2.2.1, u0.2.2.2.1, u0.2.2.2.2.1, u0.2.2.2.2.2.1, u0.2.2.2.2.2.2) ++ (k_X1 E q1 u1)) := hD
  refine lv_aload_n hx hb dX1_copyFrom_24 rfl (lv_at hl 1 rfl) ?_
  refine va_get (D := zD E) (ci := 1) (v := .ref (q1 1)) (C := RX1) (T := TX1) (N := 7) hx hb hts uw_X1 hown hK hP 5 rfl rfl 3 (by decide) (hts _ wm_1_174) (fun _ h9 => h9) rfl dX1_copyFrom_25 ?_
  refine lv_iconst (v := 0) hx hb dX1_copyFrom_28 rfl ?_
  refine lv_aload_n hx hb dX1_copyFrom_29 rfl (lv_at hl 0 rfl) ?_
  refine va_get (D := zD E) (ci := 1) (v := .ref (q0 1)) (C := RX1) (T := TX1) (N := 7) hx hb hts uw_X1 hown hK hP 0 rfl rfl 3 (by decide) (hts _ wm_1_174) (fun _ h9 => h9) rfl dX1_copyFrom_30 ?_
  refine lv_iconst (v := 0) hx hb dX1_copyFrom_33 rfl ?_
  refine lv_bipush (v := 20) hx hb dX1_copyFrom_34 rfl ?_
  refine va_copyi hx hb (hml.trans hl.1.symm) hown (hts _ wm_3_36) (hts _ wm_2_207) (hts _ wm_2_206) (hts _ wm_1_22) hK hP hD hS 6 1 0 0 rfl rfl rfl rfl rfl (by decide) (by decide) (by decide) (show (0 : Int32).toNatClampNeg + (20 : Int32).toNatClampNeg ≤ 20 by decide) (show (0 : Int32).toNatClampNeg + (20 : Int32).toNatClampNeg ≤ 20 by decide) (fun _ _ => rfl) (Nat.le_of_ble_eq_true rfl) (Nat.le_of_ble_eq_true rfl) dX1_copyFrom_36 (fun H locs hP hD hS => ?_)
  have hP : va_P (zD E) vwCl (k_X1 E q0 (u1.1, u1.2.1, u1.2.2.1, (va_cpy u1.2.2.2.1 u0.2.2.2.1 0 0 20), u0.2.2.2.2.1, u0.2.2.2.2.2.1, u0.2.2.2.2.2.2) ++ (k_X1 E q1 u1)) H := hP
  have hD : va_D A (k_X1 E q0 (u1.1, u1.2.1, u1.2.2.1, (va_cpy u1.2.2.2.1 u0.2.2.2.1 0 0 20), u0.2.2.2.2.1, u0.2.2.2.2.2.1, u0.2.2.2.2.2.2) ++ (k_X1 E q1 u1)) := hD
  refine lv_aload_n hx hb dX1_copyFrom_39 rfl (lv_at hl 1 rfl) ?_
  refine va_get (D := zD E) (ci := 1) (v := .ref (q1 2)) (C := RX1) (T := TX1) (N := 7) hx hb hts uw_X1 hown hK hP 5 rfl rfl 4 (by decide) (hts _ wm_1_176) (fun _ h9 => h9) rfl dX1_copyFrom_40 ?_
  refine lv_iconst (v := 0) hx hb dX1_copyFrom_43 rfl ?_
  refine lv_aload_n hx hb dX1_copyFrom_44 rfl (lv_at hl 0 rfl) ?_
  refine va_get (D := zD E) (ci := 1) (v := .ref (q0 2)) (C := RX1) (T := TX1) (N := 7) hx hb hts uw_X1 hown hK hP 0 rfl rfl 4 (by decide) (hts _ wm_1_176) (fun _ h9 => h9) rfl dX1_copyFrom_45 ?_
  refine lv_iconst (v := 0) hx hb dX1_copyFrom_48 rfl ?_
  refine lv_bipush (v := 20) hx hb dX1_copyFrom_49 rfl ?_
  refine va_copyi hx hb (hml.trans hl.1.symm) hown (hts _ wm_3_36) (hts _ wm_2_207) (hts _ wm_2_206) (hts _ wm_1_22) hK hP hD hS 7 2 0 0 rfl rfl rfl rfl rfl (by decide) (by decide) (by decide) (show (0 : Int32).toNatClampNeg + (20 : Int32).toNatClampNeg ≤ 20 by decide) (show (0 : Int32).toNatClampNeg + (20 : Int32).toNatClampNeg ≤ 20 by decide) (fun _ _ => rfl) (Nat.le_of_ble_eq_true rfl) (Nat.le_of_ble_eq_true rfl) dX1_copyFrom_51 (fun H locs hP hD hS => ?_)
  have hP : va_P (zD E) vwCl (k_X1 E q0 (u1.1, u1.2.1, u1.2.2.1, (va_cpy u1.2.2.2.1 u0.2.2.2.1 0 0 20), (va_cpy u1.2.2.2.2.1 u0.2.2.2.2.1 0 0 20), u0.2.2.2.2.2.1, u0.2.2.2.2.2.2) ++ (k_X1 E q1 u1)) H := hP
  have hD : va_D A (k_X1 E q0 (u1.1, u1.2.1, u1.2.2.1, (va_cpy u1.2.2.2.1 u0.2.2.2.1 0 0 20), (va_cpy u1.2.2.2.2.1 u0.2.2.2.2.1 0 0 20), u0.2.2.2.2.2.1, u0.2.2.2.2.2.2) ++ (k_X1 E q1 u1)) := hD
  refine lv_aload_n hx hb dX1_copyFrom_54 rfl (lv_at hl 1 rfl) ?_
  refine va_get (D := zD E) (ci := 1) (v := .ref (q1 3)) (C := RX1) (T := TX1) (N := 7) hx hb hts uw_X1 hown hK hP 5 rfl rfl 5 (by decide) (hts _ wm_1_178) (fun _ h9 => h9) rfl dX1_copyFrom_55 ?_
  refine lv_iconst (v := 0) hx hb dX1_copyFrom_58 rfl ?_
  refine lv_aload_n hx hb dX1_copyFrom_59 rfl (lv_at hl 0 rfl) ?_
  refine va_get (D := zD E) (ci := 1) (v := .ref (q0 3)) (C := RX1) (T := TX1) (N := 7) hx hb hts uw_X1 hown hK hP 0 rfl rfl 5 (by decide) (hts _ wm_1_178) (fun _ h9 => h9) rfl dX1_copyFrom_60 ?_
  refine lv_iconst (v := 0) hx hb dX1_copyFrom_63 rfl ?_
  refine lv_bipush (v := 20) hx hb dX1_copyFrom_64 rfl ?_
  refine va_copyi hx hb (hml.trans hl.1.symm) hown (hts _ wm_3_36) (hts _ wm_2_207) (hts _ wm_2_206) (hts _ wm_1_22) hK hP hD hS 8 3 0 0 rfl rfl rfl rfl rfl (by decide) (by decide) (by decide) (show (0 : Int32).toNatClampNeg + (20 : Int32).toNatClampNeg ≤ 20 by decide) (show (0 : Int32).toNatClampNeg + (20 : Int32).toNatClampNeg ≤ 20 by decide) (fun _ _ => rfl) (Nat.le_of_ble_eq_true rfl) (Nat.le_of_ble_eq_true rfl) dX1_copyFrom_66 (fun H locs hP hD hS => ?_)
  have hP : va_P (zD E) vwCl (k_X1 E q0 (u1.1, u1.2.1, u1.2.2.1, (va_cpy u1.2.2.2.1 u0.2.2.2.1 0 0 20), (va_cpy u1.2.2.2.2.1 u0.2.2.2.2.1 0 0 20), (va_cpy u1.2.2.2.2.2.1 u0.2.2.2.2.2.1 0 0 20), u0.2.2.2.2.2.2) ++ (k_X1 E q1 u1)) H := hP
  have hD : va_D A (k_X1 E q0 (u1.1, u1.2.1, u1.2.2.1, (va_cpy u1.2.2.2.1 u0.2.2.2.1 0 0 20), (va_cpy u1.2.2.2.2.1 u0.2.2.2.2.1 0 0 20), (va_cpy u1.2.2.2.2.2.1 u0.2.2.2.2.2.1 0 0 20), u0.2.2.2.2.2.2) ++ (k_X1 E q1 u1)) := hD
  refine lv_aload_n hx hb dX1_copyFrom_69 rfl (lv_at hl 1 rfl) ?_
  refine va_get (D := zD E) (ci := 1) (v := .ref (q1 4)) (C := RX1) (T := TX1) (N := 7) hx hb hts uw_X1 hown hK hP 5 rfl rfl 6 (by decide) (hts _ wm_1_181) (fun _ h9 => h9) rfl dX1_copyFrom_70 ?_
  refine lv_iconst (v := 0) hx hb dX1_copyFrom_73 rfl ?_
  refine lv_aload_n hx hb dX1_copyFrom_74 rfl (lv_at hl 0 rfl) ?_
  refine va_get (D := zD E) (ci := 1) (v := .ref (q0 4)) (C := RX1) (T := TX1) (N := 7) hx hb hts uw_X1 hown hK hP 0 rfl rfl 6 (by decide) (hts _ wm_1_181) (fun _ h9 => h9) rfl dX1_copyFrom_75 ?_
  refine lv_iconst (v := 0) hx hb dX1_copyFrom_78 rfl ?_
  refine lv_bipush (v := 20) hx hb dX1_copyFrom_79 rfl ?_
  obtain ⟨h_1, hw⟩ := hw
  refine va_copyi hx hb (hml.trans hl.1.symm) hown (hts _ wm_3_36) (hts _ wm_2_207) (hts _ wm_2_206) (hts _ wm_1_22) hK hP hD hS 9 4 2 2 rfl rfl rfl rfl rfl (by decide) (by decide) (by decide) (show (0 : Int32).toNatClampNeg + (20 : Int32).toNatClampNeg ≤ 20 by decide) (show (0 : Int32).toNatClampNeg + (20 : Int32).toNatClampNeg ≤ 20 by decide) h_1 (Nat.le_of_ble_eq_true rfl) (Nat.le_of_ble_eq_true rfl) dX1_copyFrom_81 (fun H locs hP hD hS => ?_)
  have hP : va_P (zD E) vwCl (k_X1 E q0 (u1.1, u1.2.1, u1.2.2.1, (va_cpy u1.2.2.2.1 u0.2.2.2.1 0 0 20), (va_cpy u1.2.2.2.2.1 u0.2.2.2.2.1 0 0 20), (va_cpy u1.2.2.2.2.2.1 u0.2.2.2.2.2.1 0 0 20), (va_cpy u1.2.2.2.2.2.2 u0.2.2.2.2.2.2 0 0 20)) ++ (k_X1 E q1 u1)) H := hP
  have hD : va_D A (k_X1 E q0 (u1.1, u1.2.1, u1.2.2.1, (va_cpy u1.2.2.2.1 u0.2.2.2.1 0 0 20), (va_cpy u1.2.2.2.2.1 u0.2.2.2.2.1 0 0 20), (va_cpy u1.2.2.2.2.2.1 u0.2.2.2.2.2.1 0 0 20), (va_cpy u1.2.2.2.2.2.2 u0.2.2.2.2.2.2 0 0 20)) ++ (k_X1 E q1 u1)) := hD
  exact z_vret (k := (fun u => k_X1 E q0 u.1 ++ (k_X1 E q1 u.2))) ((u1.1, u1.2.1, u1.2.2.1, (va_cpy u1.2.2.2.1 u0.2.2.2.1 0 0 20), (va_cpy u1.2.2.2.2.1 u0.2.2.2.2.1 0 0 20), (va_cpy u1.2.2.2.2.2.1 u0.2.2.2.2.2.1 0 0 20), (va_cpy u1.2.2.2.2.2.2 u0.2.2.2.2.2.2 0 0 20)), u1) C0 hP hD hS hw dX1_copyFrom_84
abbrev r_X1_addBreach : Room := { frames := 0, cells := 0, slots := 0, locals := 0 }
def wp_X1_addBreach (u0 : S_X1) (p1 : Int32) (p2 : Int32) (p3 : Int32) (post : Int32 → S_X1 → Prop) : Prop := ∀ x_1 : Int32, x_1 = (u0.2.1 + (1 : Int32)) → ((u0.1 < (20 : Int32) → (vp_in u0.1 20 ∧ (vp_in u0.1 20 ∧ (vp_in u0.1 20 ∧ (vp_in u0.1 20 ∧ (∀ x_7 : Int32, x_7 = (u0.1 + (1 : Int32)) → (post p3 (x_7, x_1, u0.2.2.1, (upd u0.2.2.2.1 u0.1.toNatClampNeg p1), (upd u0.2.2.2.2.1 u0.1.toNatClampNeg p2), (upd u0.2.2.2.2.2.1 u0.1.toNatClampNeg p3), (upd u0.2.2.2.2.2.2 u0.1.toNatClampNeg (vp_nar .boolean (0 : Int32))))))))))) ∧ (¬ (u0.1 < (20 : Int32)) → (post (0 : Int32) (u0.1, x_1, u0.2.2.1, u0.2.2.2.1, u0.2.2.2.2.1, u0.2.2.2.2.2.1, u0.2.2.2.2.2.2))))
set_option maxHeartbeats 4000000 in
set_option maxRecDepth 100000 in
theorem c_X1_addBreach (l : Launch) (E : zE) (Z : zZ) (hZ0 : zSt Z) (q0 : Nat → Nat) (sz : Nat) (u0 : S_X1) (p1 : Int32) (p2 : Int32) (p3 : Int32) (post : Int32 → S_X1 → Prop) (hw : wp_X1_addBreach u0 p1 p2 p3 post) : Met l yX1_addBreach (zws yX1_addBreach cX1_addBreach 4 (some .int)) r_X1_addBreach (va_Pc [.ref (q0 0), .int p1, .int p2, .int p3] (zPre Z E (k_X1 E q0 u0) sz)) (va_Qi post (zAt E (va_A (k_X1 E q0 u0) sz) (fun u => k_X1 E q0 u)) (va_A (k_X1 E q0 u0) sz)) 0 0 (va_A (k_X1 E q0 u0) sz) := by
  refine z_ofW (Qf := fun A => va_Qi post (zAt E A (fun u => k_X1 E q0 u)) A) (by decide) (Nat.le_of_ble_eq_true rfl) ?_
  intro p e s m args below meth c A ls C0 hA hK hZ hP hD hS hl
  obtain ⟨hx, hb, hml, hr, hown, hts, hlocks, hin⟩ := id C0
  have hown : s.vm.findClass RX1 = some m.cls := hown
  have hl : lv_has ls 4 [(0, .ref (q0 0)), (1, .int p1), (2, .int p2), (3, .int p3)] := hl
  refine lv_aload_n hx hb dX1_addBreach_0 rfl (lv_at hl 0 rfl) ?_
  refine lv_dup hx hb dX1_addBreach_1 rfl ?_
  refine va_get (D := zD E) (ci := 1) (v := .int u0.2.1) (C := RX1) (T := TX1) (N := 7) hx hb hts uw_X1 hown hK hP 0 rfl rfl 1 (by decide) (hts _ wm_1_169) (fun _ h9 => h9) rfl dX1_addBreach_2 ?_
  refine lv_iconst (v := 1) hx hb dX1_addBreach_5 rfl ?_
  refine lv_iadd hx hb dX1_addBreach_6 ?_
  refine lv_topi (fun x_1 ex_1 => ?_)
  have hw := hw x_1 ex_1
  refine va_put (D := zD E) (ci := 1) (v := .int x_1) (ty := .int) (C := RX1) (T := TX1) (N := 7) hx hb hts uw_X1 tyX1 tyX1_ok nmX1 hown hK hP hD hS 0 rfl rfl 1 (by decide) (hts _ wm_1_169) (fun _ h9 => h9) rfl (by decide +kernel) rfl rfl (Nat.le_of_ble_eq_true rfl) dX1_addBreach_7 (fun H locs hP hD hS => ?_)
  have hP : va_P (zD E) vwCl (k_X1 E q0 (u0.1, x_1, u0.2.2.1, u0.2.2.2.1, u0.2.2.2.2.1, u0.2.2.2.2.2.1, u0.2.2.2.2.2.2)) H := hP
  have hD : va_D A (k_X1 E q0 (u0.1, x_1, u0.2.2.1, u0.2.2.2.1, u0.2.2.2.2.1, u0.2.2.2.2.2.1, u0.2.2.2.2.2.2)) := hD
  refine lv_aload_n hx hb dX1_addBreach_10 rfl (lv_at hl 0 rfl) ?_
  refine va_get (D := zD E) (ci := 1) (v := .int u0.1) (C := RX1) (T := TX1) (N := 7) hx hb hts uw_X1 hown hK hP 0 rfl rfl 0 (by decide) (hts _ wm_1_166) (fun _ h9 => h9) rfl dX1_addBreach_11 ?_
  refine lv_bipush (v := 20) hx hb dX1_addBreach_14 rfl ?_
  obtain ⟨hwt, hwf⟩ := hw
  refine lv_icmp_lt (tgt := 21) hx hb dX1_addBreach_16 (by decide) (fun c_2 => ?_) (fun c_2 => ?_)
  · have hw := hwt c_2
    refine lv_aload_n hx hb dX1_addBreach_21 rfl (lv_at hl 0 rfl) ?_
    refine va_get (D := zD E) (ci := 1) (v := .ref (q0 1)) (C := RX1) (T := TX1) (N := 7) hx hb hts uw_X1 hown hK hP 0 rfl rfl 3 (by decide) (hts _ wm_1_174) (fun _ h9 => h9) rfl dX1_addBreach_22 ?_
    refine lv_aload_n hx hb dX1_addBreach_25 rfl (lv_at hl 0 rfl) ?_
    refine va_get (D := zD E) (ci := 1) (v := .int u0.1) (C := RX1) (T := TX1) (N := 7) hx hb hts uw_X1 hown hK hP 0 rfl rfl 0 (by decide) (hts _ wm_1_166) (fun _ h9 => h9) rfl dX1_addBreach_26 ?_
    refine lv_iload_n hx hb dX1_addBreach_29 rfl (lv_at hl 1 rfl) ?_
    obtain ⟨h_3, hw⟩ := hw
    refine va_iast hx hb hK hP hD hS 1 0 rfl rfl h_3 dX1_addBreach_30 (fun H locs hP hD hS => ?_)
    have hP : va_P (zD E) vwCl (k_X1 E q0 (u0.1, x_1, u0.2.2.1, (upd u0.2.2.2.1 u0.1.toNatClampNeg p1), u0.2.2.2.2.1, u0.2.2.2.2.2.1, u0.2.2.2.2.2.2)) H := hP
    have hD : va_D A (k_X1 E q0 (u0.1, x_1, u0.2.2.1, (upd u0.2.2.2.1 u0.1.toNatClampNeg p1), u0.2.2.2.2.1, u0.2.2.2.2.2.1, u0.2.2.2.2.2.2)) := hD
    refine lv_aload_n hx hb dX1_addBreach_31 rfl (lv_at hl 0 rfl) ?_
    refine va_get (D := zD E) (ci := 1) (v := .ref (q0 2)) (C := RX1) (T := TX1) (N := 7) hx hb hts uw_X1 hown hK hP 0 rfl rfl 4 (by decide) (hts _ wm_1_176) (fun _ h9 => h9) rfl dX1_addBreach_32 ?_
    refine lv_aload_n hx hb dX1_addBreach_35 rfl (lv_at hl 0 rfl) ?_
    refine va_get (D := zD E) (ci := 1) (v := .int u0.1) (C := RX1) (T := TX1) (N := 7) hx hb hts uw_X1 hown hK hP 0 rfl rfl 0 (by decide) (hts _ wm_1_166) (fun _ h9 => h9) rfl dX1_addBreach_36 ?_
    refine lv_iload_n hx hb dX1_addBreach_39 rfl (lv_at hl 2 rfl) ?_
    obtain ⟨h_4, hw⟩ := hw
    refine va_iast hx hb hK hP hD hS 2 0 rfl rfl h_4 dX1_addBreach_40 (fun H locs hP hD hS => ?_)
    have hP : va_P (zD E) vwCl (k_X1 E q0 (u0.1, x_1, u0.2.2.1, (upd u0.2.2.2.1 u0.1.toNatClampNeg p1), (upd u0.2.2.2.2.1 u0.1.toNatClampNeg p2), u0.2.2.2.2.2.1, u0.2.2.2.2.2.2)) H := hP
    have hD : va_D A (k_X1 E q0 (u0.1, x_1, u0.2.2.1, (upd u0.2.2.2.1 u0.1.toNatClampNeg p1), (upd u0.2.2.2.2.1 u0.1.toNatClampNeg p2), u0.2.2.2.2.2.1, u0.2.2.2.2.2.2)) := hD
    refine lv_aload_n hx hb dX1_addBreach_41 rfl (lv_at hl 0 rfl) ?_
    refine va_get (D := zD E) (ci := 1) (v := .ref (q0 3)) (C := RX1) (T := TX1) (N := 7) hx hb hts uw_X1 hown hK hP 0 rfl rfl 5 (by decide) (hts _ wm_1_178) (fun _ h9 => h9) rfl dX1_addBreach_42 ?_
    refine lv_aload_n hx hb dX1_addBreach_45 rfl (lv_at hl 0 rfl) ?_
    refine va_get (D := zD E) (ci := 1) (v := .int u0.1) (C := RX1) (T := TX1) (N := 7) hx hb hts uw_X1 hown hK hP 0 rfl rfl 0 (by decide) (hts _ wm_1_166) (fun _ h9 => h9) rfl dX1_addBreach_46 ?_
    refine lv_iload_n hx hb dX1_addBreach_49 rfl (lv_at hl 3 rfl) ?_
    obtain ⟨h_5, hw⟩ := hw
    refine va_iast hx hb hK hP hD hS 3 0 rfl rfl h_5 dX1_addBreach_50 (fun H locs hP hD hS => ?_)
    have hP : va_P (zD E) vwCl (k_X1 E q0 (u0.1, x_1, u0.2.2.1, (upd u0.2.2.2.1 u0.1.toNatClampNeg p1), (upd u0.2.2.2.2.1 u0.1.toNatClampNeg p2), (upd u0.2.2.2.2.2.1 u0.1.toNatClampNeg p3), u0.2.2.2.2.2.2)) H := hP
    have hD : va_D A (k_X1 E q0 (u0.1, x_1, u0.2.2.1, (upd u0.2.2.2.1 u0.1.toNatClampNeg p1), (upd u0.2.2.2.2.1 u0.1.toNatClampNeg p2), (upd u0.2.2.2.2.2.1 u0.1.toNatClampNeg p3), u0.2.2.2.2.2.2)) := hD
    refine lv_aload_n hx hb dX1_addBreach_51 rfl (lv_at hl 0 rfl) ?_
    refine va_get (D := zD E) (ci := 1) (v := .ref (q0 4)) (C := RX1) (T := TX1) (N := 7) hx hb hts uw_X1 hown hK hP 0 rfl rfl 6 (by decide) (hts _ wm_1_181) (fun _ h9 => h9) rfl dX1_addBreach_52 ?_
    refine lv_aload_n hx hb dX1_addBreach_55 rfl (lv_at hl 0 rfl) ?_
    refine va_get (D := zD E) (ci := 1) (v := .int u0.1) (C := RX1) (T := TX1) (N := 7) hx hb hts uw_X1 hown hK hP 0 rfl rfl 0 (by decide) (hts _ wm_1_166) (fun _ h9 => h9) rfl dX1_addBreach_56 ?_
    refine lv_iconst (v := 0) hx hb dX1_addBreach_59 rfl ?_
    obtain ⟨h_6, hw⟩ := hw
    refine va_zast hx hb hK hP hD hS 4 2 rfl rfl h_6 dX1_addBreach_60 (fun H locs hP hD hS => ?_)
    have hP : va_P (zD E) vwCl (k_X1 E q0 (u0.1, x_1, u0.2.2.1, (upd u0.2.2.2.1 u0.1.toNatClampNeg p1), (upd u0.2.2.2.2.1 u0.1.toNatClampNeg p2), (upd u0.2.2.2.2.2.1 u0.1.toNatClampNeg p3), (upd u0.2.2.2.2.2.2 u0.1.toNatClampNeg (vp_nar .boolean (0 : Int32))))) H := hP
    have hD : va_D A (k_X1 E q0 (u0.1, x_1, u0.2.2.1, (upd u0.2.2.2.1 u0.1.toNatClampNeg p1), (upd u0.2.2.2.2.1 u0.1.toNatClampNeg p2), (upd u0.2.2.2.2.2.1 u0.1.toNatClampNeg p3), (upd u0.2.2.2.2.2.2 u0.1.toNatClampNeg (vp_nar .boolean (0 : Int32))))) := hD
    refine lv_aload_n hx hb dX1_addBreach_61 rfl (lv_at hl 0 rfl) ?_
    refine lv_dup hx hb dX1_addBreach_62 rfl ?_
    refine va_get (D := zD E) (ci := 1) (v := .int u0.1) (C := RX1) (T := TX1) (N := 7) hx hb hts uw_X1 hown hK hP 0 rfl rfl 0 (by decide) (hts _ wm_1_166) (fun _ h9 => h9) rfl dX1_addBreach_63 ?_
    refine lv_iconst (v := 1) hx hb dX1_addBreach_66 rfl ?_
    refine lv_iadd hx hb dX1_addBreach_67 ?_
    refine lv_topi (fun x_7 ex_7 => ?_)
    have hw := hw x_7 ex_7
    refine va_put (D := zD E) (ci := 1) (v := .int x_7) (ty := .int) (C := RX1) (T := TX1) (N := 7) hx hb hts uw_X1 tyX1 tyX1_ok nmX1 hown hK hP hD hS 0 rfl rfl 0 (by decide) (hts _ wm_1_166) (fun _ h9 => h9) rfl (by decide +kernel) rfl rfl (Nat.le_of_ble_eq_true rfl) dX1_addBreach_68 (fun H locs hP hD hS => ?_)
    have hP : va_P (zD E) vwCl (k_X1 E q0 (x_7, x_1, u0.2.2.1, (upd u0.2.2.2.1 u0.1.toNatClampNeg p1), (upd u0.2.2.2.2.1 u0.1.toNatClampNeg p2), (upd u0.2.2.2.2.2.1 u0.1.toNatClampNeg p3), (upd u0.2.2.2.2.2.2 u0.1.toNatClampNeg (vp_nar .boolean (0 : Int32))))) H := hP
    have hD : va_D A (k_X1 E q0 (x_7, x_1, u0.2.2.1, (upd u0.2.2.2.1 u0.1.toNatClampNeg p1), (upd u0.2.2.2.2.1 u0.1.toNatClampNeg p2), (upd u0.2.2.2.2.2.1 u0.1.toNatClampNeg p3), (upd u0.2.2.2.2.2.2 u0.1.toNatClampNeg (vp_nar .boolean (0 : Int32))))) := hD
    refine lv_iload_n hx hb dX1_addBreach_71 rfl (lv_at hl 3 rfl) ?_
    exact z_iret (k := (fun u => k_X1 E q0 u)) (x_7, x_1, u0.2.2.1, (upd u0.2.2.2.1 u0.1.toNatClampNeg p1), (upd u0.2.2.2.2.1 u0.1.toNatClampNeg p2), (upd u0.2.2.2.2.2.1 u0.1.toNatClampNeg p3), (upd u0.2.2.2.2.2.2 u0.1.toNatClampNeg (vp_nar .boolean (0 : Int32)))) C0 hP hD hS hw dX1_addBreach_72
  · have hw := hwf c_2
    refine lv_iconst (v := 0) hx hb dX1_addBreach_19 rfl ?_
    exact z_iret (k := (fun u => k_X1 E q0 u)) (u0.1, x_1, u0.2.2.1, u0.2.2.2.1, u0.2.2.2.2.1, u0.2.2.2.2.2.1, u0.2.2.2.2.2.2) C0 hP hD hS hw dX1_addBreach_20
abbrev r_X1_distance : Room := { frames := 1, cells := 0, slots := 0, locals := 32 }
def wp_X1_distance (u0 : S_X1) (p1 : Int32) (p2 : Int32) (post : Int32 → S_X1 → Prop) : Prop := vp_in p1 20 ∧ (vp_in p2 20 ∧ (post (if 0 ≤ ((u0.2.2.2.1 p1.toNatClampNeg) - (u0.2.2.2.1 p2.toNatClampNeg)) then ((u0.2.2.2.1 p1.toNatClampNeg) - (u0.2.2.2.1 p2.toNatClampNeg)) else 0 - ((u0.2.2.2.1 p1.toNatClampNeg) - (u0.2.2.2.1 p2.toNatClampNeg))) u0))
set_option maxHeartbeats 4000000 in
set_option maxRecDepth 100000 in
theorem c_X1_distance (l : Launch) (E : zE) (Z : zZ) (hZ0 : zSt Z) (q0 : Nat → Nat) (sz : Nat) (u0 : S_X1) (p1 : Int32) (p2 : Int32) (post : Int32 → S_X1 → Prop) (hw : wp_X1_distance u0 p1 p2 post) : Met l yX1_distance (zws yX1_distance cX1_distance 3 (some .int)) r_X1_distance (va_Pc [.ref (q0 0), .int p1, .int p2] (zPre Z E (k_X1 E q0 u0) sz)) (va_Qi post (zAt E (va_A (k_X1 E q0 u0) sz) (fun u => k_X1 E q0 u)) (va_A (k_X1 E q0 u0) sz)) 0 0 (va_A (k_X1 E q0 u0) sz) := by
  refine z_ofW (Qf := fun A => va_Qi post (zAt E A (fun u => k_X1 E q0 u)) A) (by decide) (Nat.le_of_ble_eq_true rfl) ?_
  intro p e s m args below meth c A ls C0 hA hK hZ hP hD hS hl
  obtain ⟨hx, hb, hml, hr, hown, hts, hlocks, hin⟩ := id C0
  have hown : s.vm.findClass RX1 = some m.cls := hown
  have hl : lv_has ls 3 [(0, .ref (q0 0)), (1, .int p1), (2, .int p2)] := hl
  refine lv_aload_n hx hb dX1_distance_0 rfl (lv_at hl 0 rfl) ?_
  refine va_get (D := zD E) (ci := 1) (v := .ref (q0 1)) (C := RX1) (T := TX1) (N := 7) hx hb hts uw_X1 hown hK hP 0 rfl rfl 3 (by decide) (hts _ wm_1_174) (fun _ h9 => h9) rfl dX1_distance_1 ?_
  refine lv_iload_n hx hb dX1_distance_4 rfl (lv_at hl 1 rfl) ?_
  obtain ⟨h_1, hw⟩ := hw
  refine va_iald hx hb hK hP 1 0 rfl rfl h_1 dX1_distance_5 ?_
  refine lv_aload_n hx hb dX1_distance_6 rfl (lv_at hl 0 rfl) ?_
  refine va_get (D := zD E) (ci := 1) (v := .ref (q0 1)) (C := RX1) (T := TX1) (N := 7) hx hb hts uw_X1 hown hK hP 0 rfl rfl 3 (by decide) (hts _ wm_1_174) (fun _ h9 => h9) rfl dX1_distance_7 ?_
  refine lv_iload_n hx hb dX1_distance_10 rfl (lv_at hl 2 rfl) ?_
  obtain ⟨h_2, hw⟩ := hw
  refine va_iald hx hb hK hP 1 0 rfl rfl h_2 dX1_distance_11 ?_
  refine lv_isub hx hb dX1_distance_12 ?_
  refine va_mabs hx hb (hml.trans hl.1.symm) hown (hts _ wm_2_198) (hts _ wm_2_199) (hts _ wm_1_16) (hts _ wm_2_200) (Nat.le_of_ble_eq_true rfl) (Nat.le_of_ble_eq_true rfl) (Nat.le_of_ble_eq_true rfl) (Nat.le_of_ble_eq_true rfl) dX1_distance_13 ?_
  exact z_iret (k := (fun u => k_X1 E q0 u)) u0 C0 hP hD hS hw dX1_distance_16
abbrev r_X1_keepsGap : Room := { frames := 2, cells := 0, slots := 0, locals := 54 }
def j_X1_keepsGap_31 (K2 : (Int32 × Int32 × Int32 × S_X1) → Prop) (x1 : Int32) (x2 : Int32) (x3 : Int32) (u0 : S_X1) (post : Int32 → S_X1 → Prop) : Prop := ∀ x_7 : Int32, x_7 = x3 + 1 → (K2 (x1, x2, x_7, u0))
def j_X1_keepsGap_2 (K2 : (Int32 × Int32 × Int32 × S_X1) → Prop) (x1 : Int32) (x2 : Int32) (x3 : Int32) (u0 : S_X1) (post : Int32 → S_X1 → Prop) : Prop := (u0.1 ≤ x3 → (post (1 : Int32) u0)) ∧ (¬ (u0.1 ≤ x3) → (vp_in x3 20 ∧ (((u0.2.2.2.2.2.2 x3.toNatClampNeg) = 0 → (j_X1_keepsGap_31 K2 x1 x2 x3 u0 post)) ∧ (¬ ((u0.2.2.2.2.2.2 x3.toNatClampNeg) = 0) → (wp_X1_distance u0 x1 x3 (fun r_5 u_4 => (x2 ≤ r_5 → (j_X1_keepsGap_31 K2 x1 x2 x3 u_4 post)) ∧ (¬ (x2 ≤ r_5) → (post (0 : Int32) u_4))))))))
def wp_X1_keepsGap (u0 : S_X1) (p1 : Int32) (p2 : Int32) (post : Int32 → S_X1 → Prop) : Prop := ∃ n, zl (fun K st => j_X1_keepsGap_2 K st.1 st.2.1 st.2.2.1 st.2.2.2 post) n (p1, p2, (0 : Int32), u0)
set_option maxHeartbeats 4000000 in
set_option maxRecDepth 100000 in
theorem t_X1_keepsGap_31 {p : Program} {l : Launch} {e : Env} {s : State} {m : MethodId} {args : Array Value} {below : List Frame} {meth : Method} {c : Code} {Z : zZ} {E : zE} {A : Nat → Prop} {q0 : Nat → Nat} (hZ0 : zSt Z) (C0 : zC p s m args meth c yX1_keepsGap cX1_keepsGap 4 (some .boolean)) (hA : ∀ q : Nat, s.heap.size ≤ q → A q) (hK : va_K (zD E) vwCl (zT E) s) (hZ : Z A s s.heap) (post : Int32 → S_X1 → Prop) {K2 : (Int32 × Int32 × Int32 × S_X1) → Prop} (hk_2 : ∀ (x1 : Int32) (x2 : Int32) (x3 : Int32) (u0 : S_X1) (H : Heap) (locs : List Loc) (ls : Array Slot), K2 (x1, x2, x3, u0) → va_P (zD E) vwCl (k_X1 E q0 u0) H → va_D A (k_X1 E q0 u0) → va_S A s.heap H locs → lv_has ls 4 [(0, .ref (q0 0)), (1, .int x1), (2, .int x2), (3, .int x3)] → W p l e r_X1_keepsGap s m args below meth c H locs 0 0 (MQ below (va_Qi post (zAt E A (fun u => k_X1 E q0 u)) A) args s 0 0 A) (F0 m 2 ls [])) : ∀ (x1 : Int32) (x2 : Int32) (x3 : Int32) (u0 : S_X1) (H : Heap) (locs : List Loc) (ls : Array Slot), j_X1_keepsGap_31 K2 x1 x2 x3 u0 post → va_P (zD E) vwCl (k_X1 E q0 u0) H → va_D A (k_X1 E q0 u0) → va_S A s.heap H locs → lv_has ls 4 [(0, .ref (q0 0)), (1, .int x1), (2, .int x2), (3, .int x3)] → W p l e r_X1_keepsGap s m args below meth c H locs 0 0 (MQ below (va_Qi post (zAt E A (fun u => k_X1 E q0 u)) A) args s 0 0 A) (F0 m 31 ls []) := by
  obtain ⟨hx, hb, hml, hr, hown, hts, hlocks, hin⟩ := id C0
  have hown : s.vm.findClass RX1 = some m.cls := hown
  intro x1 x2 x3 u0 H locs ls hw hP hD hS hl
  obtain ⟨x_7, ex_7⟩ : ∃ y : Int32, y = x3 + 1 := ⟨_, rfl⟩
  have hw := hw x_7 ex_7
  refine lv_iinc (v := x_7) (lv' := [(3, .int x_7), (0, .ref (q0 0)), (1, .int x1), (2, .int x2)]) hx hb dX1_keepsGap_31 hl (k := 3) rfl (by rw [ex_7]; rfl) (by decide) rfl (fun ls hl => ?_)
  refine lv_goto (tgt := 2) hx hb dX1_keepsGap_34 (by decide) ?_
  exact hk_2 x1 x2 x_7 u0 _ _ _ hw hP hD hS (lv_sub hl [1, 2, 3, 0] rfl)
set_option maxHeartbeats 4000000 in
set_option maxRecDepth 100000 in
theorem t_X1_keepsGap_2 {p : Program} {l : Launch} {e : Env} {s : State} {m : MethodId} {args : Array Value} {below : List Frame} {meth : Method} {c : Code} {Z : zZ} {E : zE} {A : Nat → Prop} {q0 : Nat → Nat} (hZ0 : zSt Z) (C0 : zC p s m args meth c yX1_keepsGap cX1_keepsGap 4 (some .boolean)) (hA : ∀ q : Nat, s.heap.size ≤ q → A q) (hK : va_K (zD E) vwCl (zT E) s) (hZ : Z A s s.heap) (post : Int32 → S_X1 → Prop) : ∀ (n : Nat) (x1 : Int32) (x2 : Int32) (x3 : Int32) (u0 : S_X1) (H : Heap) (locs : List Loc) (ls : Array Slot), zl (fun K st => j_X1_keepsGap_2 K st.1 st.2.1 st.2.2.1 st.2.2.2 post) n (x1, x2, x3, u0) → va_P (zD E) vwCl (k_X1 E q0 u0) H → va_D A (k_X1 E q0 u0) → va_S A s.heap H locs → lv_has ls 4 [(0, .ref (q0 0)), (1, .int x1), (2, .int x2), (3, .int x3)] → W p l e r_X1_keepsGap s m args below meth c H locs 0 0 (MQ below (va_Qi post (zAt E A (fun u => k_X1 E q0 u)) A) args s 0 0 A) (F0 m 2 ls []) := by
  obtain ⟨hx, hb, hml, hr, hown, hts, hlocks, hin⟩ := id C0
  have hown : s.vm.findClass RX1 = some m.cls := hown
  intro n
  induction n with
  | zero => intro x1 x2 x3 u0 H locs ls hw; exact hw.elim
  | succ n hk_2 =>
    intro x1 x2 x3 u0 H locs ls hw hP hD hS hl
    have hw : j_X1_keepsGap_2 _ x1 x2 x3 u0 post := hw
    refine lv_iload_n hx hb dX1_keepsGap_2 rfl (lv_at hl 3 rfl) ?_
    refine lv_aload_n hx hb dX1_keepsGap_3 rfl (lv_at hl 0 rfl) ?_
    refine va_get (D := zD E) (ci := 1) (v := .int u0.1) (C := RX1) (T := TX1) (N := 7) hx hb hts uw_X1 hown hK hP 0 rfl rfl 0 (by decide) (hts _ wm_1_166) (fun _ h9 => h9) rfl dX1_keepsGap_4 ?_
    obtain ⟨hwt, hwf⟩ := hw
    refine lv_icmp_ge (tgt := 37) hx hb dX1_keepsGap_7 (by decide) (fun c_1 => ?_) (fun c_1 => ?_)
    · have hw := hwt c_1
      refine lv_iconst (v := 1) hx hb dX1_keepsGap_37 rfl ?_
      exact z_zret (k := (fun u => k_X1 E q0 u)) u0 C0 rfl hP hD hS hw dX1_keepsGap_38
    · have hw := hwf c_1
      refine lv_aload_n hx hb dX1_keepsGap_10 rfl (lv_at hl 0 rfl) ?_
      refine va_get (D := zD E) (ci := 1) (v := .ref (q0 4)) (C := RX1) (T := TX1) (N := 7) hx hb hts uw_X1 hown hK hP 0 rfl rfl 6 (by decide) (hts _ wm_1_181) (fun _ h9 => h9) rfl dX1_keepsGap_11 ?_
      refine lv_iload_n hx hb dX1_keepsGap_14 rfl (lv_at hl 3 rfl) ?_
      obtain ⟨h_2, hw⟩ := hw
      refine va_zald hx hb hK hP 4 2 rfl rfl h_2 dX1_keepsGap_15 ?_
      obtain ⟨hwt, hwf⟩ := hw
      refine lv_if_eq (tgt := 31) hx hb dX1_keepsGap_16 (by decide) (fun c_3 => ?_) (fun c_3 => ?_)
      · have hw := hwt c_3
        exact t_X1_keepsGap_31 (l := l) hZ0 C0 hA hK hZ post hk_2 x1 x2 x3 u0 _ _ _ hw hP hD hS (lv_sub hl [0, 1, 2, 3] rfl)
      · have hw := hwf c_3
        refine lv_aload_n hx hb dX1_keepsGap_19 rfl (lv_at hl 0 rfl) ?_
        refine lv_iload_n hx hb dX1_keepsGap_20 rfl (lv_at hl 1 rfl) ?_
        refine lv_iload_n hx hb dX1_keepsGap_21 rfl (lv_at hl 3 rfl) ?_
        refine z_ki (z_rV (rest := []) hZ0 C0 hK hZ hA hP hD hS hl.1 (c_X1_distance l E Z hZ0 q0 H.size u0 x1 x3 _ hw) yv_X1_53 [0, 1, 2, 3, 4] rfl (by decide) (ci := 1) rfl rfl 0 rfl ⟨Nat.le_of_ble_eq_true rfl, Nat.le_of_ble_eq_true rfl⟩ ⟨rfl, rfl⟩ rfl rfl (Nat.le_of_ble_eq_true rfl) ⟨Nat.le_of_ble_eq_true rfl, Nat.le_of_ble_eq_true rfl⟩ dX1_keepsGap_22) hP hD hS hA [0, 1, 2, 3, 4] [] [0, 1, 2, 3, 4] rfl (wr := []) rfl (by decide) (by decide) (fun u => k_X1 E q0 u) (fun u => rfl) (by decide) (fun r_5 u_4 H locs hw hP hD hS => ?_)
        refine lv_iload_n hx hb dX1_keepsGap_25 rfl (lv_at hl 2 rfl) ?_
        obtain ⟨hwt, hwf⟩ := hw
        refine lv_icmp_ge (tgt := 31) hx hb dX1_keepsGap_26 (by decide) (fun c_6 => ?_) (fun c_6 => ?_)
        · have hw := hwt c_6
          exact t_X1_keepsGap_31 (l := l) hZ0 C0 hA hK hZ post hk_2 x1 x2 x3 u_4 _ _ _ hw hP hD hS (lv_sub hl [0, 1, 2, 3] rfl)
        · have hw := hwf c_6
          refine lv_iconst (v := 0) hx hb dX1_keepsGap_29 rfl ?_
          exact z_zret (k := (fun u => k_X1 E q0 u)) u_4 C0 rfl hP hD hS hw dX1_keepsGap_30
set_option maxHeartbeats 4000000 in
set_option maxRecDepth 100000 in
theorem c_X1_keepsGap (l : Launch) (E : zE) (Z : zZ) (hZ0 : zSt Z) (q0 : Nat → Nat) (sz : Nat) (u0 : S_X1) (p1 : Int32) (p2 : Int32) (post : Int32 → S_X1 → Prop) (hw : wp_X1_keepsGap u0 p1 p2 post) : Met l yX1_keepsGap (zws yX1_keepsGap cX1_keepsGap 4 (some .boolean)) r_X1_keepsGap (va_Pc [.ref (q0 0), .int p1, .int p2] (zPre Z E (k_X1 E q0 u0) sz)) (va_Qi post (zAt E (va_A (k_X1 E q0 u0) sz) (fun u => k_X1 E q0 u)) (va_A (k_X1 E q0 u0) sz)) 0 0 (va_A (k_X1 E q0 u0) sz) := by
  refine z_ofW (Qf := fun A => va_Qi post (zAt E A (fun u => k_X1 E q0 u)) A) (by decide) (Nat.le_of_ble_eq_true rfl) ?_
  intro p e s m args below meth c A ls C0 hA hK hZ hP hD hS hl
  obtain ⟨hx, hb, hml, hr, hown, hts, hlocks, hin⟩ := id C0
  have hown : s.vm.findClass RX1 = some m.cls := hown
  have hl : lv_has ls 4 [(0, .ref (q0 0)), (1, .int p1), (2, .int p2)] := hl
  refine lv_iconst (v := 0) hx hb dX1_keepsGap_0 rfl ?_
  refine lv_istore_n (lv' := [(3, .int (0 : Int32)), (0, .ref (q0 0)), (1, .int p1), (2, .int p2)]) hx hb dX1_keepsGap_1 rfl hl (by decide) rfl (fun ls hl => ?_)
  obtain ⟨n9, hw⟩ := hw
  exact t_X1_keepsGap_2 (l := l) hZ0 C0 hA hK hZ post n9 p1 p2 (0 : Int32) u0 _ _ _ hw hP hD hS (lv_sub hl [1, 2, 3, 0] rfl)
abbrev r_X1_canBeWaived : Room := { frames := 3, cells := 0, slots := 0, locals := 77 }
def wp_X1_canBeWaived (u0 : S_X1) (u1 : S_X7) (p1 : Int32) (post : Int32 → (S_X1 × S_X7) → Prop) : Prop := vp_in p1 20 ∧ ((¬ ((u0.2.2.2.2.2.2 p1.toNatClampNeg) = 0) → (post (0 : Int32) (u0, u1))) ∧ ((u0.2.2.2.2.2.2 p1.toNatClampNeg) = 0 → ((u1.2.2.2.2.2.2.2.2.1 ≤ u0.2.2.1 → (post (0 : Int32) (u0, u1))) ∧ (¬ (u1.2.2.2.2.2.2.2.2.1 ≤ u0.2.2.1) → (wp_X1_keepsGap u0 p1 u1.2.2.2.2.2.2.2.2.2.1 (fun r_5 u_4 => (r_5 = 0 → (post (0 : Int32) (u_4, u1))) ∧ (¬ (r_5 = 0) → (post (1 : Int32) (u_4, u1)))))))))
set_option maxHeartbeats 4000000 in
set_option maxRecDepth 100000 in
theorem c_X1_canBeWaived (l : Launch) (E : zE) (Z : zZ) (hZ0 : zSt Z) (q0 : Nat → Nat) (q2 : Nat → Nat) (sz : Nat) (u0 : S_X1) (u1 : S_X7) (p1 : Int32) (post : Int32 → (S_X1 × S_X7) → Prop) (hw : wp_X1_canBeWaived u0 u1 p1 post) : Met l yX1_canBeWaived (zws yX1_canBeWaived cX1_canBeWaived 3 (some .boolean)) r_X1_canBeWaived (va_Pc [.ref (q0 0), .int p1, .ref (q2 0)] (zPre Z E (k_X1 E q0 u0 ++ (k_X7 E q2 u1)) sz)) (va_Qi post (zAt E (va_A (k_X1 E q0 u0 ++ (k_X7 E q2 u1)) sz) (fun u => k_X1 E q0 u.1 ++ (k_X7 E q2 u.2))) (va_A (k_X1 E q0 u0 ++ (k_X7 E q2 u1)) sz)) 0 0 (va_A (k_X1 E q0 u0 ++ (k_X7 E q2 u1)) sz) := by
  refine z_ofW (Qf := fun A => va_Qi post (zAt E A (fun u => k_X1 E q0 u.1 ++ (k_X7 E q2 u.2))) A) (by decide) (Nat.le_of_ble_eq_true rfl) ?_
  intro p e s m args below meth c A ls C0 hA hK hZ hP hD hS hl
  obtain ⟨hx, hb, hml, hr, hown, hts, hlocks, hin⟩ := id C0
  have hown : s.vm.findClass RX1 = some m.cls := hown
  have hl : lv_has ls 3 [(0, .ref (q0 0)), (1, .int p1), (2, .ref (q2 0))] := hl
  refine lv_aload_n hx hb dX1_canBeWaived_0 rfl (lv_at hl 0 rfl) ?_
  refine va_get (D := zD E) (ci := 1) (v := .ref (q0 4)) (C := RX1) (T := TX1) (N := 7) hx hb hts uw_X1 hown hK hP 0 rfl rfl 6 (by decide) (hts _ wm_1_181) (fun _ h9 => h9) rfl dX1_canBeWaived_1 ?_
  refine lv_iload_n hx hb dX1_canBeWaived_4 rfl (lv_at hl 1 rfl) ?_
  obtain ⟨h_1, hw⟩ := hw
  refine va_zald hx hb hK hP 4 2 rfl rfl h_1 dX1_canBeWaived_5 ?_
  obtain ⟨hwt, hwf⟩ := hw
  refine lv_if_ne (tgt := 36) hx hb dX1_canBeWaived_6 (by decide) (fun c_2 => ?_) (fun c_2 => ?_)
  · have hw := hwt c_2
    refine lv_iconst (v := 0) hx hb dX1_canBeWaived_36 rfl ?_
    exact z_zret (k := (fun u => k_X1 E q0 u.1 ++ (k_X7 E q2 u.2))) (u0, u1) C0 rfl hP hD hS hw dX1_canBeWaived_37
  · have hw := hwf c_2
    refine lv_aload_n hx hb dX1_canBeWaived_9 rfl (lv_at hl 0 rfl) ?_
    refine va_get (D := zD E) (ci := 1) (v := .int u0.2.2.1) (C := RX1) (T := TX1) (N := 7) hx hb hts uw_X1 hown hK hP 0 rfl rfl 2 (by decide) (hts _ wm_1_171) (fun _ h9 => h9) rfl dX1_canBeWaived_10 ?_
    refine lv_aload_n hx hb dX1_canBeWaived_13 rfl (lv_at hl 2 rfl) ?_
    refine va_getN (D := zD E) (ci := 7) (v := .int u1.2.2.2.2.2.2.2.2.1) (C := RX7) (T := TX7) (N := 16) hx hb hts uw_X7 hown hK hP 5 rfl rfl 8 (by decide) (hts _ wm_1_72) (fun _ h9 => h9) rfl dX1_canBeWaived_14 ?_
    obtain ⟨hwt, hwf⟩ := hw
    refine lv_icmp_ge (tgt := 36) hx hb dX1_canBeWaived_17 (by decide) (fun c_3 => ?_) (fun c_3 => ?_)
    · have hw := hwt c_3
      refine lv_iconst (v := 0) hx hb dX1_canBeWaived_36 rfl ?_
      exact z_zret (k := (fun u => k_X1 E q0 u.1 ++ (k_X7 E q2 u.2))) (u0, u1) C0 rfl hP hD hS hw dX1_canBeWaived_37
    · have hw := hwf c_3
      refine lv_aload_n hx hb dX1_canBeWaived_20 rfl (lv_at hl 0 rfl) ?_
      refine lv_iload_n hx hb dX1_canBeWaived_21 rfl (lv_at hl 1 rfl) ?_
      refine lv_aload_n hx hb dX1_canBeWaived_22 rfl (lv_at hl 2 rfl) ?_
      refine va_getN (D := zD E) (ci := 7) (v := .int u1.2.2.2.2.2.2.2.2.2.1) (C := RX7) (T := TX7) (N := 16) hx hb hts uw_X7 hown hK hP 5 rfl rfl 9 (by decide) (hts _ wm_1_77) (fun _ h9 => h9) rfl dX1_canBeWaived_23 ?_
      refine z_ki (z_rV (rest := []) hZ0 C0 hK hZ hA hP hD hS hl.1 (c_X1_keepsGap l E Z hZ0 q0 s.heap.size u0 p1 u1.2.2.2.2.2.2.2.2.2.1 _ hw) yv_X1_49 [0, 1, 2, 3, 4] rfl (by decide) (ci := 1) rfl rfl 0 rfl ⟨Nat.le_of_ble_eq_true rfl, Nat.le_of_ble_eq_true rfl⟩ ⟨rfl, rfl⟩ rfl rfl (Nat.le_of_ble_eq_true rfl) ⟨Nat.le_of_ble_eq_true rfl, Nat.le_of_ble_eq_true rfl⟩ dX1_canBeWaived_26) hP hD hS hA [0, 1, 2, 3, 4] [5, 6, 7, 8, 9] [5, 6, 7, 8, 9, 0, 1, 2, 3, 4] rfl (wr := [_, _, _, _, _]) rfl (by decide) (by decide) (fun u => k_X1 E q0 u ++ (k_X7 E q2 u1)) (fun u => rfl) (by decide) (fun r_5 u_4 H locs hw hP hD hS => ?_)
      obtain ⟨hwt, hwf⟩ := hw
      refine lv_if_eq (tgt := 36) hx hb dX1_canBeWaived_29 (by decide) (fun c_6 => ?_) (fun c_6 => ?_)
      · have hw := hwt c_6
        refine lv_iconst (v := 0) hx hb dX1_canBeWaived_36 rfl ?_
        exact z_zret (k := (fun u => k_X1 E q0 u.1 ++ (k_X7 E q2 u.2))) (u_4, u1) C0 rfl hP hD hS hw dX1_canBeWaived_37
      · have hw := hwf c_6
        refine lv_iconst (v := 1) hx hb dX1_canBeWaived_32 rfl ?_
        refine lv_goto (tgt := 37) hx hb dX1_canBeWaived_33 (by decide) ?_
        exact z_zret (k := (fun u => k_X1 E q0 u.1 ++ (k_X7 E q2 u.2))) (u_4, u1) C0 rfl hP hD hS hw dX1_canBeWaived_37
abbrev r_X1_markWaived : Room := { frames := 0, cells := 0, slots := 0, locals := 0 }
def wp_X1_markWaived (u0 : S_X1) (p1 : Int32) (post : Int32 → S_X1 → Prop) : Prop := vp_in p1 20 ∧ (∀ x_2 : Int32, x_2 = (u0.2.2.1 + (1 : Int32)) → (vp_in p1 20 ∧ (post (u0.2.2.2.2.2.1 p1.toNatClampNeg) (u0.1, u0.2.1, x_2, u0.2.2.2.1, u0.2.2.2.2.1, u0.2.2.2.2.2.1, (upd u0.2.2.2.2.2.2 p1.toNatClampNeg (vp_nar .boolean (1 : Int32)))))))
set_option maxHeartbeats 4000000 in
set_option maxRecDepth 100000 in
theorem c_X1_markWaived (l : Launch) (E : zE) (Z : zZ) (hZ0 : zSt Z) (q0 : Nat → Nat) (sz : Nat) (u0 : S_X1) (p1 : Int32) (post : Int32 → S_X1 → Prop) (hw : wp_X1_markWaived u0 p1 post) : Met l yX1_markWaived (zws yX1_markWaived cX1_markWaived 2 (some .int)) r_X1_markWaived (va_Pc [.ref (q0 0), .int p1] (zPre Z E (k_X1 E q0 u0) sz)) (va_Qi post (zAt E (va_A (k_X1 E q0 u0) sz) (fun u => k_X1 E q0 u)) (va_A (k_X1 E q0 u0) sz)) 0 0 (va_A (k_X1 E q0 u0) sz) := by
  refine z_ofW (Qf := fun A => va_Qi post (zAt E A (fun u => k_X1 E q0 u)) A) (by decide) (Nat.le_of_ble_eq_true rfl) ?_
  intro p e s m args below meth c A ls C0 hA hK hZ hP hD hS hl
  obtain ⟨hx, hb, hml, hr, hown, hts, hlocks, hin⟩ := id C0
  have hown : s.vm.findClass RX1 = some m.cls := hown
  have hl : lv_has ls 2 [(0, .ref (q0 0)), (1, .int p1)] := hl
  refine lv_aload_n hx hb dX1_markWaived_0 rfl (lv_at hl 0 rfl) ?_
  refine va_get (D := zD E) (ci := 1) (v := .ref (q0 4)) (C := RX1) (T := TX1) (N := 7) hx hb hts uw_X1 hown hK hP 0 rfl rfl 6 (by decide) (hts _ wm_1_181) (fun _ h9 => h9) rfl dX1_markWaived_1 ?_
  refine lv_iload_n hx hb dX1_markWaived_4 rfl (lv_at hl 1 rfl) ?_
  refine lv_iconst (v := 1) hx hb dX1_markWaived_5 rfl ?_
  obtain ⟨h_1, hw⟩ := hw
  refine va_zast hx hb hK hP hD hS 4 2 rfl rfl h_1 dX1_markWaived_6 (fun H locs hP hD hS => ?_)
  have hP : va_P (zD E) vwCl (k_X1 E q0 (u0.1, u0.2.1, u0.2.2.1, u0.2.2.2.1, u0.2.2.2.2.1, u0.2.2.2.2.2.1, (upd u0.2.2.2.2.2.2 p1.toNatClampNeg (vp_nar .boolean (1 : Int32))))) H := hP
  have hD : va_D A (k_X1 E q0 (u0.1, u0.2.1, u0.2.2.1, u0.2.2.2.1, u0.2.2.2.2.1, u0.2.2.2.2.2.1, (upd u0.2.2.2.2.2.2 p1.toNatClampNeg (vp_nar .boolean (1 : Int32))))) := hD
  refine lv_aload_n hx hb dX1_markWaived_7 rfl (lv_at hl 0 rfl) ?_
  refine lv_dup hx hb dX1_markWaived_8 rfl ?_
  refine va_get (D := zD E) (ci := 1) (v := .int u0.2.2.1) (C := RX1) (T := TX1) (N := 7) hx hb hts uw_X1 hown hK hP 0 rfl rfl 2 (by decide) (hts _ wm_1_171) (fun _ h9 => h9) rfl dX1_markWaived_9 ?_
  refine lv_iconst (v := 1) hx hb dX1_markWaived_12 rfl ?_
  refine lv_iadd hx hb dX1_markWaived_13 ?_
  refine lv_topi (fun x_2 ex_2 => ?_)
  have hw := hw x_2 ex_2
  refine va_put (D := zD E) (ci := 1) (v := .int x_2) (ty := .int) (C := RX1) (T := TX1) (N := 7) hx hb hts uw_X1 tyX1 tyX1_ok nmX1 hown hK hP hD hS 0 rfl rfl 2 (by decide) (hts _ wm_1_171) (fun _ h9 => h9) rfl (by decide +kernel) rfl rfl (Nat.le_of_ble_eq_true rfl) dX1_markWaived_14 (fun H locs hP hD hS => ?_)
  have hP : va_P (zD E) vwCl (k_X1 E q0 (u0.1, u0.2.1, x_2, u0.2.2.2.1, u0.2.2.2.2.1, u0.2.2.2.2.2.1, (upd u0.2.2.2.2.2.2 p1.toNatClampNeg (vp_nar .boolean (1 : Int32))))) H := hP
  have hD : va_D A (k_X1 E q0 (u0.1, u0.2.1, x_2, u0.2.2.2.1, u0.2.2.2.2.1, u0.2.2.2.2.2.1, (upd u0.2.2.2.2.2.2 p1.toNatClampNeg (vp_nar .boolean (1 : Int32))))) := hD
  refine lv_aload_n hx hb dX1_markWaived_17 rfl (lv_at hl 0 rfl) ?_
  refine va_get (D := zD E) (ci := 1) (v := .ref (q0 3)) (C := RX1) (T := TX1) (N := 7) hx hb hts uw_X1 hown hK hP 0 rfl rfl 5 (by decide) (hts _ wm_1_178) (fun _ h9 => h9) rfl dX1_markWaived_18 ?_
  refine lv_iload_n hx hb dX1_markWaived_21 rfl (lv_at hl 1 rfl) ?_
  obtain ⟨h_3, hw⟩ := hw
  refine va_iald hx hb hK hP 3 0 rfl rfl h_3 dX1_markWaived_22 ?_
  exact z_iret (k := (fun u => k_X1 E q0 u)) (u0.1, u0.2.1, x_2, u0.2.2.2.1, u0.2.2.2.2.1, u0.2.2.2.2.2.1, (upd u0.2.2.2.2.2.2 p1.toNatClampNeg (vp_nar .boolean (1 : Int32)))) C0 hP hD hS hw dX1_markWaived_23
abbrev r_X1_unwaivedSum : Room := { frames := 0, cells := 0, slots := 0, locals := 0 }
def j_X1_unwaivedSum_31 (K4 : (Int64 × Int32 × S_X1) → Prop) (x1 : Int64) (x3 : Int32) (u0 : S_X1) (post : Int64 → S_X1 → Prop) : Prop := ∀ x_6 : Int32, x_6 = x3 + 1 → (K4 (x1, x_6, u0))
def j_X1_unwaivedSum_4 (K4 : (Int64 × Int32 × S_X1) → Prop) (x1 : Int64) (x3 : Int32) (u0 : S_X1) (post : Int64 → S_X1 → Prop) : Prop := (u0.1 ≤ x3 → (post x1 u0)) ∧ (¬ (u0.1 ≤ x3) → (vp_in x3 20 ∧ ((¬ ((u0.2.2.2.2.2.2 x3.toNatClampNeg) = 0) → (j_X1_unwaivedSum_31 K4 x1 x3 u0 post)) ∧ ((u0.2.2.2.2.2.2 x3.toNatClampNeg) = 0 → (vp_in x3 20 ∧ (∀ x_5 : Int64, x_5 = (x1 + ((u0.2.2.2.2.2.1 x3.toNatClampNeg).toInt64)) → (j_X1_unwaivedSum_31 K4 x_5 x3 u0 post)))))))
def wp_X1_unwaivedSum (u0 : S_X1) (post : Int64 → S_X1 → Prop) : Prop := ∃ n, zl (fun K st => j_X1_unwaivedSum_4 K st.1 st.2.1 st.2.2 post) n ((0 : Int64), (0 : Int32), u0)
set_option maxHeartbeats 4000000 in
set_option maxRecDepth 100000 in
theorem t_X1_unwaivedSum_31 {p : Program} {l : Launch} {e : Env} {s : State} {m : MethodId} {args : Array Value} {below : List Frame} {meth : Method} {c : Code} {Z : zZ} {E : zE} {A : Nat → Prop} {q0 : Nat → Nat} (hZ0 : zSt Z) (C0 : zC p s m args meth c yX1_unwaivedSum cX1_unwaivedSum 4 (some .long)) (hA : ∀ q : Nat, s.heap.size ≤ q → A q) (hK : va_K (zD E) vwCl (zT E) s) (hZ : Z A s s.heap) (post : Int64 → S_X1 → Prop) {K4 : (Int64 × Int32 × S_X1) → Prop} (hk_4 : ∀ (x1 : Int64) (x3 : Int32) (u0 : S_X1) (H : Heap) (locs : List Loc) (ls : Array Slot), K4 (x1, x3, u0) → va_P (zD E) vwCl (k_X1 E q0 u0) H → va_D A (k_X1 E q0 u0) → va_S A s.heap H locs → lv_has ls 4 [(0, .ref (q0 0)), (1, .long x1), (3, .int x3)] → W p l e r_X1_unwaivedSum s m args below meth c H locs 0 0 (MQ below (va_Ql post (zAt E A (fun u => k_X1 E q0 u)) A) args s 0 0 A) (F0 m 4 ls [])) : ∀ (x1 : Int64) (x3 : Int32) (u0 : S_X1) (H : Heap) (locs : List Loc) (ls : Array Slot), j_X1_unwaivedSum_31 K4 x1 x3 u0 post → va_P (zD E) vwCl (k_X1 E q0 u0) H → va_D A (k_X1 E q0 u0) → va_S A s.heap H locs → lv_has ls 4 [(0, .ref (q0 0)), (1, .long x1), (3, .int x3)] → W p l e r_X1_unwaivedSum s m args below meth c H locs 0 0 (MQ below (va_Ql post (zAt E A (fun u => k_X1 E q0 u)) A) args s 0 0 A) (F0 m 31 ls []) := by
  obtain ⟨hx, hb, hml, hr, hown, hts, hlocks, hin⟩ := id C0
  have hown : s.vm.findClass RX1 = some m.cls := hown
  intro x1 x3 u0 H locs ls hw hP hD hS hl
  obtain ⟨x_6, ex_6⟩ : ∃ y : Int32, y = x3 + 1 := ⟨_, rfl⟩
  have hw := hw x_6 ex_6
  refine lv_iinc (v := x_6) (lv' := [(3, .int x_6), (0, .ref (q0 0)), (1, .long x1)]) hx hb dX1_unwaivedSum_31 hl (k := 2) rfl (by rw [ex_6]; rfl) (by decide) rfl (fun ls hl => ?_)
  refine lv_goto (tgt := 4) hx hb dX1_unwaivedSum_34 (by decide) ?_
  exact hk_4 x1 x_6 u0 _ _ _ hw hP hD hS (lv_sub hl [1, 2, 0] rfl)
set_option maxHeartbeats 4000000 in
set_option maxRecDepth 100000 in
theorem t_X1_unwaivedSum_4 {p : Program} {l : Launch} {e : Env} {s : State} {m : MethodId} {args : Array Value} {below : List Frame} {meth : Method} {c : Code} {Z : zZ} {E : zE} {A : Nat → Prop} {q0 : Nat → Nat} (hZ0 : zSt Z) (C0 : zC p s m args meth c yX1_unwaivedSum cX1_unwaivedSum 4 (some .long)) (hA : ∀ q : Nat, s.heap.size ≤ q → A q) (hK : va_K (zD E) vwCl (zT E) s) (hZ : Z A s s.heap) (post : Int64 → S_X1 → Prop) : ∀ (n : Nat) (x1 : Int64) (x3 : Int32) (u0 : S_X1) (H : Heap) (locs : List Loc) (ls : Array Slot), zl (fun K st => j_X1_unwaivedSum_4 K st.1 st.2.1 st.2.2 post) n (x1, x3, u0) → va_P (zD E) vwCl (k_X1 E q0 u0) H → va_D A (k_X1 E q0 u0) → va_S A s.heap H locs → lv_has ls 4 [(0, .ref (q0 0)), (1, .long x1), (3, .int x3)] → W p l e r_X1_unwaivedSum s m args below meth c H locs 0 0 (MQ below (va_Ql post (zAt E A (fun u => k_X1 E q0 u)) A) args s 0 0 A) (F0 m 4 ls []) := by
  obtain ⟨hx, hb, hml, hr, hown, hts, hlocks, hin⟩ := id C0
  have hown : s.vm.findClass RX1 = some m.cls := hown
  intro n
  induction n with
  | zero => intro x1 x3 u0 H locs ls hw; exact hw.elim
  | succ n hk_4 =>
    intro x1 x3 u0 H locs ls hw hP hD hS hl
    have hw : j_X1_unwaivedSum_4 _ x1 x3 u0 post := hw
    refine lv_iload_n hx hb dX1_unwaivedSum_4 rfl (lv_at hl 2 rfl) ?_
    refine lv_aload_n hx hb dX1_unwaivedSum_5 rfl (lv_at hl 0 rfl) ?_
    refine va_get (D := zD E) (ci := 1) (v := .int u0.1) (C := RX1) (T := TX1) (N := 7) hx hb hts uw_X1 hown hK hP 0 rfl rfl 0 (by decide) (hts _ wm_1_166) (fun _ h9 => h9) rfl dX1_unwaivedSum_6 ?_
    obtain ⟨hwt, hwf⟩ := hw
    refine lv_icmp_ge (tgt := 37) hx hb dX1_unwaivedSum_9 (by decide) (fun c_1 => ?_) (fun c_1 => ?_)
    · have hw := hwt c_1
      refine lv_lload_n hx hb dX1_unwaivedSum_37 rfl (lv_at hl 1 rfl) ?_
      exact z_lret (k := (fun u => k_X1 E q0 u)) u0 C0 hP hD hS hw dX1_unwaivedSum_38
    · have hw := hwf c_1
      refine lv_aload_n hx hb dX1_unwaivedSum_12 rfl (lv_at hl 0 rfl) ?_
      refine va_get (D := zD E) (ci := 1) (v := .ref (q0 4)) (C := RX1) (T := TX1) (N := 7) hx hb hts uw_X1 hown hK hP 0 rfl rfl 6 (by decide) (hts _ wm_1_181) (fun _ h9 => h9) rfl dX1_unwaivedSum_13 ?_
      refine lv_iload_n hx hb dX1_unwaivedSum_16 rfl (lv_at hl 2 rfl) ?_
      obtain ⟨h_2, hw⟩ := hw
      refine va_zald hx hb hK hP 4 2 rfl rfl h_2 dX1_unwaivedSum_17 ?_
      obtain ⟨hwt, hwf⟩ := hw
      refine lv_if_ne (tgt := 31) hx hb dX1_unwaivedSum_18 (by decide) (fun c_3 => ?_) (fun c_3 => ?_)
      · have hw := hwt c_3
        exact t_X1_unwaivedSum_31 (l := l) hZ0 C0 hA hK hZ post hk_4 x1 x3 u0 _ _ _ hw hP hD hS (lv_sub hl [0, 1, 2] rfl)
      · have hw := hwf c_3
        refine lv_lload_n hx hb dX1_unwaivedSum_21 rfl (lv_at hl 1 rfl) ?_
        refine lv_aload_n hx hb dX1_unwaivedSum_22 rfl (lv_at hl 0 rfl) ?_
        refine va_get (D := zD E) (ci := 1) (v := .ref (q0 3)) (C := RX1) (T := TX1) (N := 7) hx hb hts uw_X1 hown hK hP 0 rfl rfl 5 (by decide) (hts _ wm_1_178) (fun _ h9 => h9) rfl dX1_unwaivedSum_23 ?_
        refine lv_iload_n hx hb dX1_unwaivedSum_26 rfl (lv_at hl 2 rfl) ?_
        obtain ⟨h_4, hw⟩ := hw
        refine va_iald hx hb hK hP 3 0 rfl rfl h_4 dX1_unwaivedSum_27 ?_
        refine lv_i2l hx hb dX1_unwaivedSum_28 rfl ?_
        refine lv_ladd hx hb dX1_unwaivedSum_29 ?_
        refine lv_topl (fun x_5 ex_5 => ?_)
        have hw := hw x_5 ex_5
        refine lv_lstore_n (lv' := [(1, .long x_5), (0, .ref (q0 0)), (3, .int x3)]) hx hb dX1_unwaivedSum_30 rfl hl (by decide) rfl (fun ls hl => ?_)
        exact t_X1_unwaivedSum_31 (l := l) hZ0 C0 hA hK hZ post hk_4 x_5 x3 u0 _ _ _ hw hP hD hS (lv_sub hl [1, 0, 2] rfl)
set_option maxHeartbeats 4000000 in
set_option maxRecDepth 100000 in
theorem c_X1_unwaivedSum (l : Launch) (E : zE) (Z : zZ) (hZ0 : zSt Z) (q0 : Nat → Nat) (sz : Nat) (u0 : S_X1) (post : Int64 → S_X1 → Prop) (hw : wp_X1_unwaivedSum u0 post) : Met l yX1_unwaivedSum (zws yX1_unwaivedSum cX1_unwaivedSum 4 (some .long)) r_X1_unwaivedSum (va_Pc [.ref (q0 0)] (zPre Z E (k_X1 E q0 u0) sz)) (va_Ql post (zAt E (va_A (k_X1 E q0 u0) sz) (fun u => k_X1 E q0 u)) (va_A (k_X1 E q0 u0) sz)) 0 0 (va_A (k_X1 E q0 u0) sz) := by
  refine z_ofW (Qf := fun A => va_Ql post (zAt E A (fun u => k_X1 E q0 u)) A) (by decide) (Nat.le_of_ble_eq_true rfl) ?_
  intro p e s m args below meth c A ls C0 hA hK hZ hP hD hS hl
  obtain ⟨hx, hb, hml, hr, hown, hts, hlocks, hin⟩ := id C0
  have hown : s.vm.findClass RX1 = some m.cls := hown
  have hl : lv_has ls 4 [(0, .ref (q0 0))] := hl
  refine lv_lconst (v := 0) hx hb dX1_unwaivedSum_0 rfl ?_
  refine lv_lstore_n (lv' := [(1, .long (0 : Int64)), (0, .ref (q0 0))]) hx hb dX1_unwaivedSum_1 rfl hl (by decide) rfl (fun ls hl => ?_)
  refine lv_iconst (v := 0) hx hb dX1_unwaivedSum_2 rfl ?_
  refine lv_istore_n (lv' := [(3, .int (0 : Int32)), (1, .long (0 : Int64)), (0, .ref (q0 0))]) hx hb dX1_unwaivedSum_3 rfl hl (by decide) rfl (fun ls hl => ?_)
  obtain ⟨n9, hw⟩ := hw
  exact t_X1_unwaivedSum_4 (l := l) hZ0 C0 hA hK hZ post n9 (0 : Int64) (0 : Int32) u0 _ _ _ hw hP hD hS (lv_sub hl [2, 1, 0] rfl)
abbrev r_X1_mixInto : Room := { frames := 0, cells := 0, slots := 0, locals := 0 }
def j_X1_mixInto_40 (K5 : (Int64 × Int32 × S_X1) → Prop) (x5 : Int32) (y0 : Int32) (y1 : Int64) (u0 : S_X1) (post : Int64 → S_X1 → Prop) : Prop := ∀ x_5 : Int64, x_5 = (y1 + y0.toInt64) → (∀ x_6 : Int32, x_6 = x5 + 1 → (K5 (x_5, x_6, u0)))
def j_X1_mixInto_5 (K5 : (Int64 × Int32 × S_X1) → Prop) (x3 : Int64) (x5 : Int32) (u0 : S_X1) (post : Int64 → S_X1 → Prop) : Prop := (u0.1 ≤ x5 → (post x3 u0)) ∧ (¬ (u0.1 ≤ x5) → (vp_in x5 20 ∧ (((u0.2.2.2.2.2.2 x5.toNatClampNeg) = 0 → (vp_in x5 20 ∧ (j_X1_mixInto_40 K5 x5 (u0.2.2.2.2.2.1 x5.toNatClampNeg) ((31 : Int64) * x3) u0 post))) ∧ (¬ ((u0.2.2.2.2.2.2 x5.toNatClampNeg) = 0) → (j_X1_mixInto_40 K5 x5 (-1 : Int32) ((31 : Int64) * x3) u0 post)))))
def wp_X1_mixInto (u0 : S_X1) (p1 : Int64) (post : Int64 → S_X1 → Prop) : Prop := ∃ n, zl (fun K st => j_X1_mixInto_5 K st.1 st.2.1 st.2.2 post) n (p1, (0 : Int32), u0)
set_option maxHeartbeats 4000000 in
set_option maxRecDepth 100000 in
theorem t_X1_mixInto_40 {p : Program} {l : Launch} {e : Env} {s : State} {m : MethodId} {args : Array Value} {below : List Frame} {meth : Method} {c : Code} {Z : zZ} {E : zE} {A : Nat → Prop} {q0 : Nat → Nat} (hZ0 : zSt Z) (C0 : zC p s m args meth c yX1_mixInto cX1_mixInto 6 (some .long)) (hA : ∀ q : Nat, s.heap.size ≤ q → A q) (hK : va_K (zD E) vwCl (zT E) s) (hZ : Z A s s.heap) (post : Int64 → S_X1 → Prop) {K5 : (Int64 × Int32 × S_X1) → Prop} (hk_5 : ∀ (x3 : Int64) (x5 : Int32) (u0 : S_X1) (H : Heap) (locs : List Loc) (ls : Array Slot), K5 (x3, x5, u0) → va_P (zD E) vwCl (k_X1 E q0 u0) H → va_D A (k_X1 E q0 u0) → va_S A s.heap H locs → lv_has ls 6 [(0, .ref (q0 0)), (3, .long x3), (5, .int x5)] → W p l e r_X1_mixInto s m args below meth c H locs 0 0 (MQ below (va_Ql post (zAt E A (fun u => k_X1 E q0 u)) A) args s 0 0 A) (F0 m 5 ls [])) : ∀ (x5 : Int32) (y0 : Int32) (y1 : Int64) (u0 : S_X1) (H : Heap) (locs : List Loc) (ls : Array Slot), j_X1_mixInto_40 K5 x5 y0 y1 u0 post → va_P (zD E) vwCl (k_X1 E q0 u0) H → va_D A (k_X1 E q0 u0) → va_S A s.heap H locs → lv_has ls 6 [(0, .ref (q0 0)), (5, .int x5)] → W p l e r_X1_mixInto s m args below meth c H locs 0 0 (MQ below (va_Ql post (zAt E A (fun u => k_X1 E q0 u)) A) args s 0 0 A) (F0 m 40 ls [.int y0, .long y1]) := by
  obtain ⟨hx, hb, hml, hr, hown, hts, hlocks, hin⟩ := id C0
  have hown : s.vm.findClass RX1 = some m.cls := hown
  intro x5 y0 y1 u0 H locs ls hw hP hD hS hl
  refine lv_i2l hx hb dX1_mixInto_40 rfl ?_
  refine lv_ladd hx hb dX1_mixInto_41 ?_
  refine lv_topl (fun x_5 ex_5 => ?_)
  have hw := hw x_5 ex_5
  refine lv_lstore_n (lv' := [(3, .long x_5), (0, .ref (q0 0)), (5, .int x5)]) hx hb dX1_mixInto_42 rfl hl (by decide) rfl (fun ls hl => ?_)
  obtain ⟨x_6, ex_6⟩ : ∃ y : Int32, y = x5 + 1 := ⟨_, rfl⟩
  have hw := hw x_6 ex_6
  refine lv_iinc (v := x_6) (lv' := [(5, .int x_6), (3, .long x_5), (0, .ref (q0 0))]) hx hb dX1_mixInto_43 hl (k := 2) rfl (by rw [ex_6]; rfl) (by decide) rfl (fun ls hl => ?_)
  refine lv_goto (tgt := 5) hx hb dX1_mixInto_46 (by decide) ?_
  exact hk_5 x_5 x_6 u0 _ _ _ hw hP hD hS (lv_sub hl [2, 1, 0] rfl)
set_option maxHeartbeats 4000000 in
set_option maxRecDepth 100000 in
theorem t_X1_mixInto_5 {p : Program} {l : Launch} {e : Env} {s : State} {m : MethodId} {args : Array Value} {below : List Frame} {meth : Method} {c : Code} {Z : zZ} {E : zE} {A : Nat → Prop} {q0 : Nat → Nat} (hZ0 : zSt Z) (C0 : zC p s m args meth c yX1_mixInto cX1_mixInto 6 (some .long)) (hA : ∀ q : Nat, s.heap.size ≤ q → A q) (hK : va_K (zD E) vwCl (zT E) s) (hZ : Z A s s.heap) (post : Int64 → S_X1 → Prop) : ∀ (n : Nat) (x3 : Int64) (x5 : Int32) (u0 : S_X1) (H : Heap) (locs : List Loc) (ls : Array Slot), zl (fun K st => j_X1_mixInto_5 K st.1 st.2.1 st.2.2 post) n (x3, x5, u0) → va_P (zD E) vwCl (k_X1 E q0 u0) H → va_D A (k_X1 E q0 u0) → va_S A s.heap H locs → lv_has ls 6 [(0, .ref (q0 0)), (3, .long x3), (5, .int x5)] → W p l e r_X1_mixInto s m args below meth c H locs 0 0 (MQ below (va_Ql post (zAt E A (fun u => k_X1 E q0 u)) A) args s 0 0 A) (F0 m 5 ls []) := by
  obtain ⟨hx, hb, hml, hr, hown, hts, hlocks, hin⟩ := id C0
  have hown : s.vm.findClass RX1 = some m.cls := hown
  intro n
  induction n with
  | zero => intro x3 x5 u0 H locs ls hw; exact hw.elim
  | succ n hk_5 =>
    intro x3 x5 u0 H locs ls hw hP hD hS hl
    have hw : j_X1_mixInto_5 _ x3 x5 u0 post := hw
    refine lv_iload hx hb dX1_mixInto_5 (lv_at hl 2 rfl) ?_
    refine lv_aload_n hx hb dX1_mixInto_7 rfl (lv_at hl 0 rfl) ?_
    refine va_get (D := zD E) (ci := 1) (v := .int u0.1) (C := RX1) (T := TX1) (N := 7) hx hb hts uw_X1 hown hK hP 0 rfl rfl 0 (by decide) (hts _ wm_1_166) (fun _ h9 => h9) rfl dX1_mixInto_8 ?_
    obtain ⟨hwt, hwf⟩ := hw
    refine lv_icmp_ge (tgt := 49) hx hb dX1_mixInto_11 (by decide) (fun c_1 => ?_) (fun c_1 => ?_)
    · have hw := hwt c_1
      refine lv_lload_n hx hb dX1_mixInto_49 rfl (lv_at hl 1 rfl) ?_
      exact z_lret (k := (fun u => k_X1 E q0 u)) u0 C0 hP hD hS hw dX1_mixInto_50
    · have hw := hwf c_1
      refine lv_ldc2 hx hb hown (hts _ wm_3_52) dX1_mixInto_14 ?_
      refine lv_lload_n hx hb dX1_mixInto_17 rfl (lv_at hl 1 rfl) ?_
      refine lv_lmul hx hb dX1_mixInto_18 ?_
      refine lv_aload_n hx hb dX1_mixInto_19 rfl (lv_at hl 0 rfl) ?_
      refine va_get (D := zD E) (ci := 1) (v := .ref (q0 4)) (C := RX1) (T := TX1) (N := 7) hx hb hts uw_X1 hown hK hP 0 rfl rfl 6 (by decide) (hts _ wm_1_181) (fun _ h9 => h9) rfl dX1_mixInto_20 ?_
      refine lv_iload hx hb dX1_mixInto_23 (lv_at hl 2 rfl) ?_
      obtain ⟨h_2, hw⟩ := hw
      refine va_zald hx hb hK hP 4 2 rfl rfl h_2 dX1_mixInto_25 ?_
      obtain ⟨hwt, hwf⟩ := hw
      refine lv_if_eq (tgt := 33) hx hb dX1_mixInto_26 (by decide) (fun c_3 => ?_) (fun c_3 => ?_)
      · have hw := hwt c_3
        refine lv_aload_n hx hb dX1_mixInto_33 rfl (lv_at hl 0 rfl) ?_
        refine va_get (D := zD E) (ci := 1) (v := .ref (q0 3)) (C := RX1) (T := TX1) (N := 7) hx hb hts uw_X1 hown hK hP 0 rfl rfl 5 (by decide) (hts _ wm_1_178) (fun _ h9 => h9) rfl dX1_mixInto_34 ?_
        refine lv_iload hx hb dX1_mixInto_37 (lv_at hl 2 rfl) ?_
        obtain ⟨h_4, hw⟩ := hw
        refine va_iald hx hb hK hP 3 0 rfl rfl h_4 dX1_mixInto_39 ?_
        exact t_X1_mixInto_40 (l := l) hZ0 C0 hA hK hZ post hk_5 x5 (u0.2.2.2.2.2.1 x5.toNatClampNeg) ((31 : Int64) * x3) u0 _ _ _ hw hP hD hS (lv_sub hl [0, 2] rfl)
      · have hw := hwf c_3
        refine lv_iconst (v := (-1)) hx hb dX1_mixInto_29 rfl ?_
        refine lv_goto (tgt := 40) hx hb dX1_mixInto_30 (by decide) ?_
        exact t_X1_mixInto_40 (l := l) hZ0 C0 hA hK hZ post hk_5 x5 (-1 : Int32) ((31 : Int64) * x3) u0 _ _ _ hw hP hD hS (lv_sub hl [0, 2] rfl)
set_option maxHeartbeats 4000000 in
set_option maxRecDepth 100000 in
theorem c_X1_mixInto (l : Launch) (E : zE) (Z : zZ) (hZ0 : zSt Z) (q0 : Nat → Nat) (sz : Nat) (u0 : S_X1) (p1 : Int64) (post : Int64 → S_X1 → Prop) (hw : wp_X1_mixInto u0 p1 post) : Met l yX1_mixInto (zws yX1_mixInto cX1_mixInto 6 (some .long)) r_X1_mixInto (va_Pc [.ref (q0 0), .long p1] (zPre Z E (k_X1 E q0 u0) sz)) (va_Ql post (zAt E (va_A (k_X1 E q0 u0) sz) (fun u => k_X1 E q0 u)) (va_A (k_X1 E q0 u0) sz)) 0 0 (va_A (k_X1 E q0 u0) sz) := by
  refine z_ofW (Qf := fun A => va_Ql post (zAt E A (fun u => k_X1 E q0 u)) A) (by decide) (Nat.le_of_ble_eq_true rfl) ?_
  intro p e s m args below meth c A ls C0 hA hK hZ hP hD hS hl
  obtain ⟨hx, hb, hml, hr, hown, hts, hlocks, hin⟩ := id C0
  have hown : s.vm.findClass RX1 = some m.cls := hown
  have hl : lv_has ls 6 [(0, .ref (q0 0)), (1, .long p1)] := hl
  refine lv_lload_n hx hb dX1_mixInto_0 rfl (lv_at hl 1 rfl) ?_
  refine lv_lstore_n (lv' := [(3, .long p1), (0, .ref (q0 0)), (1, .long p1)]) hx hb dX1_mixInto_1 rfl hl (by decide) rfl (fun ls hl => ?_)
  refine lv_iconst (v := 0) hx hb dX1_mixInto_2 rfl ?_
  refine lv_istore (lv' := [(5, .int (0 : Int32)), (3, .long p1), (0, .ref (q0 0)), (1, .long p1)]) hx hb dX1_mixInto_3 hl (by decide) rfl (fun ls hl => ?_)
  obtain ⟨n9, hw⟩ := hw
  exact t_X1_mixInto_5 (l := l) hZ0 C0 hA hK hZ post n9 p1 (0 : Int32) u0 _ _ _ hw hP hD hS (lv_sub hl [2, 1, 0] rfl)
