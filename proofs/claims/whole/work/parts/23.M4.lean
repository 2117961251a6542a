abbrev r_X10_allBreaches : Room := { frames := 0, cells := 0, slots := 0, locals := 0 }
def wp_X10_allBreaches (u0 : S_X10) (post : Int32 → S_X10 → Prop) : Prop := post (u0.2.2.2.2.2.2.2.2.1 13) ((0 : Int32), u0.2.1, u0.2.2.1, u0.2.2.2.1, u0.2.2.2.2.1, u0.2.2.2.2.2.1, u0.2.2.2.2.2.2.1, u0.2.2.2.2.2.2.2.1, u0.2.2.2.2.2.2.2.2.1, u0.2.2.2.2.2.2.2.2.2.1, u0.2.2.2.2.2.2.2.2.2.2.1, u0.2.2.2.2.2.2.2.2.2.2.2.1, u0.2.2.2.2.2.2.2.2.2.2.2.2.1, u0.2.2.2.2.2.2.2.2.2.2.2.2.2.1, u0.2.2.2.2.2.2.2.2.2.2.2.2.2.2.1, u0.2.2.2.2.2.2.2.2.2.2.2.2.2.2.2.1, u0.2.2.2.2.2.2.2.2.2.2.2.2.2.2.2.2.1, u0.2.2.2.2.2.2.2.2.2.2.2.2.2.2.2.2.2.1, u0.2.2.2.2.2.2.2.2.2.2.2.2.2.2.2.2.2.2.1, u0.2.2.2.2.2.2.2.2.2.2.2.2.2.2.2.2.2.2.2.1, u0.2.2.2.2.2.2.2.2.2.2.2.2.2.2.2.2.2.2.2.2.1, u0.2.2.2.2.2.2.2.2.2.2.2.2.2.2.2.2.2.2.2.2.2)
set_option maxHeartbeats 4000000 in
set_option maxRecDepth 100000 in
theorem c_X10_allBreaches (l : Launch) (E : zE) (Z : zZ) (hZ0 : zSt Z) (q0 : Nat → Nat) (sz : Nat) (u0 : S_X10) (post : Int32 → S_X10 → Prop) (hw : wp_X10_allBreaches u0 post) : Met l yX10_allBreaches (zws yX10_allBreaches cX10_allBreaches 1 (some .int)) r_X10_allBreaches (va_Pc [.ref (q0 0)] (zPre Z E (k_X10 E q0 u0) sz)) (va_Qi post (zAt E (va_A (k_X10 E q0 u0) sz) (fun u => k_X10 E q0 u)) (va_A (k_X10 E q0 u0) sz)) 0 0 (va_A (k_X10 E q0 u0) sz) := by
  refine z_ofW (Qf := fun A => va_Qi post (zAt E A (fun u => k_X10 E q0 u)) A) (by decide) (Nat.le_of_ble_eq_true rfl) ?_
  intro p e s m args below meth c A ls C0 hA hK hZ hP hD hS hl
  obtain ⟨hx, hb, hml, hr, hown, hts, hlocks, hin⟩ := id C0
  have hown : s.vm.findClass RX10 = some m.cls := hown
  have hl : lv_has ls 1 [(0, .ref (q0 0))] := hl
  refine lv_aload_n hx hb dX10_allBreaches_0 rfl (lv_at hl 0 rfl) ?_
  refine lv_iconst (v := 0) hx hb dX10_allBreaches_1 rfl ?_
  refine va_put (D := zD E) (ci := 10) (v := .int (0 : Int32)) (ty := .int) (C := RX10) (T := TX10) (N := 24) hx hb hts uw_X10 tyX10 tyX10_ok nmX10 hown hK hP hD hS 0 rfl rfl 0 (by decide) (hts _ wm_5_116) (fun _ h9 => h9) rfl (by decide +kernel) rfl rfl (Nat.le_of_ble_eq_true rfl) dX10_allBreaches_2 (fun H locs hP hD hS => ?_)
  have hP : va_P (zD E) vwCl (k_X10 E q0 ((0 : Int32), u0.2.1, u0.2.2.1, u0.2.2.2.1, u0.2.2.2.2.1, u0.2.2.2.2.2.1, u0.2.2.2.2.2.2.1, u0.2.2.2.2.2.2.2.1, u0.2.2.2.2.2.2.2.2.1, u0.2.2.2.2.2.2.2.2.2.1, u0.2.2.2.2.2.2.2.2.2.2.1, u0.2.2.2.2.2.2.2.2.2.2.2.1, u0.2.2.2.2.2.2.2.2.2.2.2.2.1, u0.2.2.2.2.2.2.2.2.2.2.2.2.2.1, u0.2.2.2.2.2.2.2.2.2.2.2.2.2.2.1, u0.2.2.2.2.2.2.2.2.2.2.2.2.2.2.2.1, u0.2.2.2.2.2.2.2.2.2.2.2.2.2.2.2.2.1, u0.2.2.2.2.2.2.2.2.2.2.2.2.2.2.2.2.2.1, u0.2.2.2.2.2.2.2.2.2.2.2.2.2.2.2.2.2.2.1, u0.2.2.2.2.2.2.2.2.2.2.2.2.2.2.2.2.2.2.2.1, u0.2.2.2.2.2.2.2.2.2.2.2.2.2.2.2.2.2.2.2.2.1, u0.2.2.2.2.2.2.2.2.2.2.2.2.2.2.2.2.2.2.2.2.2)) H := hP
  have hD : va_D A (k_X10 E q0 ((0 : Int32), u0.2.1, u0.2.2.1, u0.2.2.2.1, u0.2.2.2.2.1, u0.2.2.2.2.2.1, u0.2.2.2.2.2.2.1, u0.2.2.2.2.2.2.2.1, u0.2.2.2.2.2.2.2.2.1, u0.2.2.2.2.2.2.2.2.2.1, u0.2.2.2.2.2.2.2.2.2.2.1, u0.2.2.2.2.2.2.2.2.2.2.2.1, u0.2.2.2.2.2.2.2.2.2.2.2.2.1, u0.2.2.2.2.2.2.2.2.2.2.2.2.2.1, u0.2.2.2.2.2.2.2.2.2.2.2.2.2.2.1, u0.2.2.2.2.2.2.2.2.2.2.2.2.2.2.2.1, u0.2.2.2.2.2.2.2.2.2.2.2.2.2.2.2.2.1, u0.2.2.2.2.2.2.2.2.2.2.2.2.2.2.2.2.2.1, u0.2.2.2.2.2.2.2.2.2.2.2.2.2.2.2.2.2.2.1, u0.2.2.2.2.2.2.2.2.2.2.2.2.2.2.2.2.2.2.2.1, u0.2.2.2.2.2.2.2.2.2.2.2.2.2.2.2.2.2.2.2.2.1, u0.2.2.2.2.2.2.2.2.2.2.2.2.2.2.2.2.2.2.2.2.2)) := hD
  refine lv_aload_n hx hb dX10_allBreaches_5 rfl (lv_at hl 0 rfl) ?_
  refine va_get (D := zD E) (ci := 10) (v := .ref (q0 2)) (C := RX10) (T := TX10) (N := 24) hx hb hts uw_X10 hown hK hP 0 rfl rfl 8 (by decide) (hts _ wm_5_124) (fun _ h9 => h9) rfl dX10_allBreaches_6 ?_
  refine lv_bipush (v := 13) hx hb dX10_allBreaches_9 rfl ?_
  refine va_iald hx hb hK hP 2 0 rfl rfl (show ¬ ((13 : Int32) < 0 ∨ 1728 ≤ (13 : Int32).toNatClampNeg) by decide) dX10_allBreaches_11 ?_
  refine W.eq (g2 := F0 m 12 ls ([.int (u0.2.2.2.2.2.2.2.2.1 13)])) rfl ?_
  exact z_iret (k := (fun u => k_X10 E q0 u)) ((0 : Int32), u0.2.1, u0.2.2.1, u0.2.2.2.1, u0.2.2.2.2.1, u0.2.2.2.2.2.1, u0.2.2.2.2.2.2.1, u0.2.2.2.2.2.2.2.1, u0.2.2.2.2.2.2.2.2.1, u0.2.2.2.2.2.2.2.2.2.1, u0.2.2.2.2.2.2.2.2.2.2.1, u0.2.2.2.2.2.2.2.2.2.2.2.1, u0.2.2.2.2.2.2.2.2.2.2.2.2.1, u0.2.2.2.2.2.2.2.2.2.2.2.2.2.1, u0.2.2.2.2.2.2.2.2.2.2.2.2.2.2.1, u0.2.2.2.2.2.2.2.2.2.2.2.2.2.2.2.1, u0.2.2.2.2.2.2.2.2.2.2.2.2.2.2.2.2.1, u0.2.2.2.2.2.2.2.2.2.2.2.2.2.2.2.2.2.1, u0.2.2.2.2.2.2.2.2.2.2.2.2.2.2.2.2.2.2.1, u0.2.2.2.2.2.2.2.2.2.2.2.2.2.2.2.2.2.2.2.1, u0.2.2.2.2.2.2.2.2.2.2.2.2.2.2.2.2.2.2.2.2.1, u0.2.2.2.2.2.2.2.2.2.2.2.2.2.2.2.2.2.2.2.2.2) C0 hP hD hS hw dX10_allBreaches_12
abbrev r_X10_breachPeriod : Room := { frames := 2, cells := 0, slots := 0, locals := 43 }
def wp_X10_breachPeriod (u0 : S_X10) (p1 : Int32) (post : Int32 → S_X10 → Prop) : Prop := wp_X10_noBreach ((0 : Int32), u0.2.1, u0.2.2.1, u0.2.2.2.1, u0.2.2.2.2.1, u0.2.2.2.2.2.1, u0.2.2.2.2.2.2.1, u0.2.2.2.2.2.2.2.1, u0.2.2.2.2.2.2.2.2.1, u0.2.2.2.2.2.2.2.2.2.1, u0.2.2.2.2.2.2.2.2.2.2.1, u0.2.2.2.2.2.2.2.2.2.2.2.1, u0.2.2.2.2.2.2.2.2.2.2.2.2.1, u0.2.2.2.2.2.2.2.2.2.2.2.2.2.1, u0.2.2.2.2.2.2.2.2.2.2.2.2.2.2.1, u0.2.2.2.2.2.2.2.2.2.2.2.2.2.2.2.1, u0.2.2.2.2.2.2.2.2.2.2.2.2.2.2.2.2.1, u0.2.2.2.2.2.2.2.2.2.2.2.2.2.2.2.2.2.1, u0.2.2.2.2.2.2.2.2.2.2.2.2.2.2.2.2.2.2.1, u0.2.2.2.2.2.2.2.2.2.2.2.2.2.2.2.2.2.2.2.1, u0.2.2.2.2.2.2.2.2.2.2.2.2.2.2.2.2.2.2.2.2.1, u0.2.2.2.2.2.2.2.2.2.2.2.2.2.2.2.2.2.2.2.2.2) p1 (fun r_2 u_1 => (r_2 = 0 → (wp_X10_breach p1 (fun r_5 u_4 => vp_in r_5 1728 ∧ (post (u_1.2.2.2.2.2.2.2.2.1 r_5.toNatClampNeg) u_1)))) ∧ (¬ (r_2 = 0) → (post (0 : Int32) u_1)))
set_option maxHeartbeats 4000000 in
set_option maxRecDepth 100000 in
theorem c_X10_breachPeriod (l : Launch) (E : zE) (Z : zZ) (hZ0 : zSt Z) (q0 : Nat → Nat) (sz : Nat) (u0 : S_X10) (p1 : Int32) (post : Int32 → S_X10 → Prop) (hw : wp_X10_breachPeriod u0 p1 post) : Met l yX10_breachPeriod (zws yX10_breachPeriod cX10_breachPeriod 2 (some .int)) r_X10_breachPeriod (va_Pc [.ref (q0 0), .int p1] (zPre Z E (k_X10 E q0 u0) sz)) (va_Qi post (zAt E (va_A (k_X10 E q0 u0) sz) (fun u => k_X10 E q0 u)) (va_A (k_X10 E q0 u0) sz)) 0 0 (va_A (k_X10 E q0 u0) sz) := by
  refine z_ofW (Qf := fun A => va_Qi post (zAt E A (fun u => k_X10 E q0 u)) A) (by decide) (Nat.le_of_ble_eq_true rfl) ?_
  intro p e s m args below meth c A ls C0 hA hK hZ hP hD hS hl
  obtain ⟨hx, hb, hml, hr, hown, hts, hlocks, hin⟩ := id C0
  have hown : s.vm.findClass RX10 = some m.cls := hown
  have hl : lv_has ls 2 [(0, .ref (q0 0)), (1, .int p1)] := hl
  refine lv_aload_n hx hb dX10_breachPeriod_0 rfl (lv_at hl 0 rfl) ?_
  refine lv_iconst (v := 0) hx hb dX10_breachPeriod_1 rfl ?_
  refine va_put (D := zD E) (ci := 10) (v := .int (0 : Int32)) (ty := .int) (C := RX10) (T := TX10) (N := 24) hx hb hts uw_X10 tyX10 tyX10_ok nmX10 hown hK hP hD hS 0 rfl rfl 0 (by decide) (hts _ wm_5_116) (fun _ h9 => h9) rfl (by decide +kernel) rfl rfl (Nat.le_of_ble_eq_true rfl) dX10_breachPeriod_2 (fun H locs hP hD hS => ?_)
  have hP : va_P (zD E) vwCl (k_X10 E q0 ((0 : Int32), u0.2.1, u0.2.2.1, u0.2.2.2.1, u0.2.2.2.2.1, u0.2.2.2.2.2.1, u0.2.2.2.2.2.2.1, u0.2.2.2.2.2.2.2.1, u0.2.2.2.2.2.2.2.2.1, u0.2.2.2.2.2.2.2.2.2.1, u0.2.2.2.2.2.2.2.2.2.2.1, u0.2.2.2.2.2.2.2.2.2.2.2.1, u0.2.2.2.2.2.2.2.2.2.2.2.2.1, u0.2.2.2.2.2.2.2.2.2.2.2.2.2.1, u0.2.2.2.2.2.2.2.2.2.2.2.2.2.2.1, u0.2.2.2.2.2.2.2.2.2.2.2.2.2.2.2.1, u0.2.2.2.2.2.2.2.2.2.2.2.2.2.2.2.2.1, u0.2.2.2.2.2.2.2.2.2.2.2.2.2.2.2.2.2.1, u0.2.2.2.2.2.2.2.2.2.2.2.2.2.2.2.2.2.2.1, u0.2.2.2.2.2.2.2.2.2.2.2.2.2.2.2.2.2.2.2.1, u0.2.2.2.2.2.2.2.2.2.2.2.2.2.2.2.2.2.2.2.2.1, u0.2.2.2.2.2.2.2.2.2.2.2.2.2.2.2.2.2.2.2.2.2)) H := hP
  have hD : va_D A (k_X10 E q0 ((0 : Int32), u0.2.1, u0.2.2.1, u0.2.2.2.1, u0.2.2.2.2.1, u0.2.2.2.2.2.1, u0.2.2.2.2.2.2.1, u0.2.2.2.2.2.2.2.1, u0.2.2.2.2.2.2.2.2.1, u0.2.2.2.2.2.2.2.2.2.1, u0.2.2.2.2.2.2.2.2.2.2.1, u0.2.2.2.2.2.2.2.2.2.2.2.1, u0.2.2.2.2.2.2.2.2.2.2.2.2.1, u0.2.2.2.2.2.2.2.2.2.2.2.2.2.1, u0.2.2.2.2.2.2.2.2.2.2.2.2.2.2.1, u0.2.2.2.2.2.2.2.2.2.2.2.2.2.2.2.1, u0.2.2.2.2.2.2.2.2.2.2.2.2.2.2.2.2.1, u0.2.2.2.2.2.2.2.2.2.2.2.2.2.2.2.2.2.1, u0.2.2.2.2.2.2.2.2.2.2.2.2.2.2.2.2.2.2.1, u0.2.2.2.2.2.2.2.2.2.2.2.2.2.2.2.2.2.2.2.1, u0.2.2.2.2.2.2.2.2.2.2.2.2.2.2.2.2.2.2.2.2.1, u0.2.2.2.2.2.2.2.2.2.2.2.2.2.2.2.2.2.2.2.2.2)) := hD
  refine lv_aload_n hx hb dX10_breachPeriod_5 rfl (lv_at hl 0 rfl) ?_
  refine lv_iload_n hx hb dX10_breachPeriod_6 rfl (lv_at hl 1 rfl) ?_
  refine z_ki (z_rV (rest := []) hZ0 C0 hK hZ hA hP hD hS hl.1 (c_X10_noBreach l E Z hZ0 q0 H.size ((0 : Int32), u0.2.1, u0.2.2.1, u0.2.2.2.1, u0.2.2.2.2.1, u0.2.2.2.2.2.1, u0.2.2.2.2.2.2.1, u0.2.2.2.2.2.2.2.1, u0.2.2.2.2.2.2.2.2.1, u0.2.2.2.2.2.2.2.2.2.1, u0.2.2.2.2.2.2.2.2.2.2.1, u0.2.2.2.2.2.2.2.2.2.2.2.1, u0.2.2.2.2.2.2.2.2.2.2.2.2.1, u0.2.2.2.2.2.2.2.2.2.2.2.2.2.1, u0.2.2.2.2.2.2.2.2.2.2.2.2.2.2.1, u0.2.2.2.2.2.2.2.2.2.2.2.2.2.2.2.1, u0.2.2.2.2.2.2.2.2.2.2.2.2.2.2.2.2.1, u0.2.2.2.2.2.2.2.2.2.2.2.2.2.2.2.2.2.1, u0.2.2.2.2.2.2.2.2.2.2.2.2.2.2.2.2.2.2.1, u0.2.2.2.2.2.2.2.2.2.2.2.2.2.2.2.2.2.2.2.1, u0.2.2.2.2.2.2.2.2.2.2.2.2.2.2.2.2.2.2.2.2.1, u0.2.2.2.2.2.2.2.2.2.2.2.2.2.2.2.2.2.2.2.2.2) p1 _ hw) yv_X10_244 [0, 1, 2, 3, 4, 5, 6, 7, 8, 9] rfl (by decide) (ci := 10) rfl rfl 0 rfl ⟨Nat.le_of_ble_eq_true rfl, Nat.le_of_ble_eq_true rfl⟩ ⟨rfl, rfl⟩ rfl rfl (Nat.le_of_ble_eq_true rfl) ⟨Nat.le_of_ble_eq_true rfl, Nat.le_of_ble_eq_true rfl⟩ dX10_breachPeriod_7) hP hD hS hA [0, 1, 2, 3, 4, 5, 6, 7, 8, 9] [] [0, 1, 2, 3, 4, 5, 6, 7, 8, 9] rfl (wr := []) rfl (by decide) (by decide) (fun u => k_X10 E q0 u) (fun u => rfl) (by decide) (fun r_2 u_1 H locs hw hP hD hS => ?_)
  obtain ⟨hwt, hwf⟩ := hw
  refine lv_if_eq (tgt := 17) hx hb dX10_breachPeriod_10 (by decide) (fun c_3 => ?_) (fun c_3 => ?_)
  · have hw := hwt c_3
    refine lv_aload_n hx hb dX10_breachPeriod_17 rfl (lv_at hl 0 rfl) ?_
    refine va_get (D := zD E) (ci := 10) (v := .ref (q0 2)) (C := RX10) (T := TX10) (N := 24) hx hb hts uw_X10 hown hK hP 0 rfl rfl 8 (by decide) (hts _ wm_5_124) (fun _ h9 => h9) rfl dX10_breachPeriod_18 ?_
    refine lv_iload_n hx hb dX10_breachPeriod_21 rfl (lv_at hl 1 rfl) ?_
    refine z_ki (z_rS (rest := [.ref (q0 2)]) hZ0 C0 hK hZ hA hP hD hS hl.1 (c_X10_breach l E Z hZ0 H.size p1 _ hw) yv_X10_220 [] rfl (by decide) ⟨Nat.le_of_ble_eq_true rfl, Nat.le_of_ble_eq_true rfl⟩ ⟨rfl, rfl⟩ rfl rfl (Nat.le_of_ble_eq_true rfl) ⟨Nat.le_of_ble_eq_true rfl, Nat.le_of_ble_eq_true rfl⟩ dX10_breachPeriod_22) hP hD hS hA [] [0, 1, 2, 3, 4, 5, 6, 7, 8, 9] [0, 1, 2, 3, 4, 5, 6, 7, 8, 9] rfl (wr := [_, _, _, _, _, _, _, _, _, _]) rfl (by decide) (by decide) (fun u => k_X10 E q0 u_1) (fun u => rfl) (by decide) (fun r_5 u_4 H locs hw hP hD hS => ?_)
    obtain ⟨h_6, hw⟩ := hw
    refine va_iald hx hb hK hP 2 0 rfl rfl h_6 dX10_breachPeriod_25 ?_
    exact z_iret (k := (fun u => k_X10 E q0 u)) u_1 C0 hP hD hS hw dX10_breachPeriod_26
  · have hw := hwf c_3
    refine lv_iconst (v := 0) hx hb dX10_breachPeriod_13 rfl ?_
    refine lv_goto (tgt := 26) hx hb dX10_breachPeriod_14 (by decide) ?_
    exact z_iret (k := (fun u => k_X10 E q0 u)) u_1 C0 hP hD hS hw dX10_breachPeriod_26
abbrev r_X10_breachKind : Room := { frames := 2, cells := 0, slots := 0, locals := 43 }
def wp_X10_breachKind (u0 : S_X10) (p1 : Int32) (post : Int32 → S_X10 → Prop) : Prop := wp_X10_noBreach ((0 : Int32), u0.2.1, u0.2.2.1, u0.2.2.2.1, u0.2.2.2.2.1, u0.2.2.2.2.2.1, u0.2.2.2.2.2.2.1, u0.2.2.2.2.2.2.2.1, u0.2.2.2.2.2.2.2.2.1, u0.2.2.2.2.2.2.2.2.2.1, u0.2.2.2.2.2.2.2.2.2.2.1, u0.2.2.2.2.2.2.2.2.2.2.2.1, u0.2.2.2.2.2.2.2.2.2.2.2.2.1, u0.2.2.2.2.2.2.2.2.2.2.2.2.2.1, u0.2.2.2.2.2.2.2.2.2.2.2.2.2.2.1, u0.2.2.2.2.2.2.2.2.2.2.2.2.2.2.2.1, u0.2.2.2.2.2.2.2.2.2.2.2.2.2.2.2.2.1, u0.2.2.2.2.2.2.2.2.2.2.2.2.2.2.2.2.2.1, u0.2.2.2.2.2.2.2.2.2.2.2.2.2.2.2.2.2.2.1, u0.2.2.2.2.2.2.2.2.2.2.2.2.2.2.2.2.2.2.2.1, u0.2.2.2.2.2.2.2.2.2.2.2.2.2.2.2.2.2.2.2.2.1, u0.2.2.2.2.2.2.2.2.2.2.2.2.2.2.2.2.2.2.2.2.2) p1 (fun r_2 u_1 => (r_2 = 0 → (wp_X10_breach p1 (fun r_5 u_4 => vp_in (r_5 + (1 : Int32)) 1728 ∧ (post (u_1.2.2.2.2.2.2.2.2.1 (r_5 + (1 : Int32)).toNatClampNeg) u_1)))) ∧ (¬ (r_2 = 0) → (post (0 : Int32) u_1)))
set_option maxHeartbeats 4000000 in
set_option maxRecDepth 100000 in
theorem c_X10_breachKind (l : Launch) (E : zE) (Z : zZ) (hZ0 : zSt Z) (q0 : Nat → Nat) (sz : Nat) (u0 : S_X10) (p1 : Int32) (post : Int32 → S_X10 → Prop) (hw : wp_X10_breachKind u0 p1 post) : Met l yX10_breachKind (zws yX10_breachKind cX10_breachKind 2 (some .int)) r_X10_breachKind (va_Pc [.ref (q0 0), .int p1] (zPre Z E (k_X10 E q0 u0) sz)) (va_Qi post (zAt E (va_A (k_X10 E q0 u0) sz) (fun u => k_X10 E q0 u)) (va_A (k_X10 E q0 u0) sz)) 0 0 (va_A (k_X10 E q0 u0) sz) := by
  refine z_ofW (Qf := fun A => va_Qi post (zAt E A (fun u => k_X10 E q0 u)) A) (by decide) (Nat.le_of_ble_eq_true rfl) ?_
  intro p e s m args below meth c A ls C0 hA hK hZ hP hD hS hl
  obtain ⟨hx, hb, hml, hr, hown, hts, hlocks, hin⟩ := id C0
  have hown : s.vm.findClass RX10 = some m.cls := hown
  have hl : lv_has ls 2 [(0, .ref (q0 0)), (1, .int p1)] := hl
  refine lv_aload_n hx hb dX10_breachKind_0 rfl (lv_at hl 0 rfl) ?_
  refine lv_iconst (v := 0) hx hb dX10_breachKind_1 rfl ?_
  refine va_put (D := zD E) (ci := 10) (v := .int (0 : Int32)) (ty := .int) (C := RX10) (T := TX10) (N := 24) hx hb hts uw_X10 tyX10 tyX10_ok nmX10 hown hK hP hD hS 0 rfl rfl 0 (by decide) (hts _ wm_5_116) (fun _ h9 => h9) rfl (by decide +kernel) rfl rfl (Nat.le_of_ble_eq_true rfl) dX10_breachKind_2 (fun H locs hP hD hS => ?_)
  have hP : va_P (zD E) vwCl (k_X10 E q0 ((0 : Int32), u0.2.1, u0.2.2.1, u0.2.2.2.1, u0.2.2.2.2.1, u0.2.2.2.2.2.1, u0.2.2.2.2.2.2.1, u0.2.2.2.2.2.2.2.1, u0.2.2.2.2.2.2.2.2.1, u0.2.2.2.2.2.2.2.2.2.1, u0.2.2.2.2.2.2.2.2.2.2.1, u0.2.2.2.2.2.2.2.2.2.2.2.1, u0.2.2.2.2.2.2.2.2.2.2.2.2.1, u0.2.2.2.2.2.2.2.2.2.2.2.2.2.1, u0.2.2.2.2.2.2.2.2.2.2.2.2.2.2.1, u0.2.2.2.2.2.2.2.2.2.2.2.2.2.2.2.1, u0.2.2.2.2.2.2.2.2.2.2.2.2.2.2.2.2.1, u0.2.2.2.2.2.2.2.2.2.2.2.2.2.2.2.2.2.1, u0.2.2.2.2.2.2.2.2.2.2.2.2.2.2.2.2.2.2.1, u0.2.2.2.2.2.2.2.2.2.2.2.2.2.2.2.2.2.2.2.1, u0.2.2.2.2.2.2.2.2.2.2.2.2.2.2.2.2.2.2.2.2.1, u0.2.2.2.2.2.2.2.2.2.2.2.2.2.2.2.2.2.2.2.2.2)) H := hP
  have hD : va_D A (k_X10 E q0 ((0 : Int32), u0.2.1, u0.2.2.1, u0.2.2.2.1, u0.2.2.2.2.1, u0.2.2.2.2.2.1, u0.2.2.2.2.2.2.1, u0.2.2.2.2.2.2.2.1, u0.2.2.2.2.2.2.2.2.1, u0.2.2.2.2.2.2.2.2.2.1, u0.2.2.2.2.2.2.2.2.2.2.1, u0.2.2.2.2.2.2.2.2.2.2.2.1, u0.2.2.2.2.2.2.2.2.2.2.2.2.1, u0.2.2.2.2.2.2.2.2.2.2.2.2.2.1, u0.2.2.2.2.2.2.2.2.2.2.2.2.2.2.1, u0.2.2.2.2.2.2.2.2.2.2.2.2.2.2.2.1, u0.2.2.2.2.2.2.2.2.2.2.2.2.2.2.2.2.1, u0.2.2.2.2.2.2.2.2.2.2.2.2.2.2.2.2.2.1, u0.2.2.2.2.2.2.2.2.2.2.2.2.2.2.2.2.2.2.1, u0.2.2.2.2.2.2.2.2.2.2.2.2.2.2.2.2.2.2.2.1, u0.2.2.2.2.2.2.2.2.2.2.2.2.2.2.2.2.2.2.2.2.1, u0.2.2.2.2.2.2.2.2.2.2.2.2.2.2.2.2.2.2.2.2.2)) := hD
  refine lv_aload_n hx hb dX10_breachKind_5 rfl (lv_at hl 0 rfl) ?_
  refine lv_iload_n hx hb dX10_breachKind_6 rfl (lv_at hl 1 rfl) ?_
  refine z_ki (z_rV (rest := []) hZ0 C0 hK hZ hA hP hD hS hl.1 (c_X10_noBreach l E Z hZ0 q0 H.size ((0 : Int32), u0.2.1, u0.2.2.1, u0.2.2.2.1, u0.2.2.2.2.1, u0.2.2.2.2.2.1, u0.2.2.2.2.2.2.1, u0.2.2.2.2.2.2.2.1, u0.2.2.2.2.2.2.2.2.1, u0.2.2.2.2.2.2.2.2.2.1, u0.2.2.2.2.2.2.2.2.2.2.1, u0.2.2.2.2.2.2.2.2.2.2.2.1, u0.2.2.2.2.2.2.2.2.2.2.2.2.1, u0.2.2.2.2.2.2.2.2.2.2.2.2.2.1, u0.2.2.2.2.2.2.2.2.2.2.2.2.2.2.1, u0.2.2.2.2.2.2.2.2.2.2.2.2.2.2.2.1, u0.2.2.2.2.2.2.2.2.2.2.2.2.2.2.2.2.1, u0.2.2.2.2.2.2.2.2.2.2.2.2.2.2.2.2.2.1, u0.2.2.2.2.2.2.2.2.2.2.2.2.2.2.2.2.2.2.1, u0.2.2.2.2.2.2.2.2.2.2.2.2.2.2.2.2.2.2.2.1, u0.2.2.2.2.2.2.2.2.2.2.2.2.2.2.2.2.2.2.2.2.1, u0.2.2.2.2.2.2.2.2.2.2.2.2.2.2.2.2.2.2.2.2.2) p1 _ hw) yv_X10_244 [0, 1, 2, 3, 4, 5, 6, 7, 8, 9] rfl (by decide) (ci := 10) rfl rfl 0 rfl ⟨Nat.le_of_ble_eq_true rfl, Nat.le_of_ble_eq_true rfl⟩ ⟨rfl, rfl⟩ rfl rfl (Nat.le_of_ble_eq_true rfl) ⟨Nat.le_of_ble_eq_true rfl, Nat.le_of_ble_eq_true rfl⟩ dX10_breachKind_7) hP hD hS hA [0, 1, 2, 3, 4, 5, 6, 7, 8, 9] [] [0, 1, 2, 3, 4, 5, 6, 7, 8, 9] rfl (wr := []) rfl (by decide) (by decide) (fun u => k_X10 E q0 u) (fun u => rfl) (by decide) (fun r_2 u_1 H locs hw hP hD hS => ?_)
  obtain ⟨hwt, hwf⟩ := hw
  refine lv_if_eq (tgt := 17) hx hb dX10_breachKind_10 (by decide) (fun c_3 => ?_) (fun c_3 => ?_)
  · have hw := hwt c_3
    refine lv_aload_n hx hb dX10_breachKind_17 rfl (lv_at hl 0 rfl) ?_
    refine va_get (D := zD E) (ci := 10) (v := .ref (q0 2)) (C := RX10) (T := TX10) (N := 24) hx hb hts uw_X10 hown hK hP 0 rfl rfl 8 (by decide) (hts _ wm_5_124) (fun _ h9 => h9) rfl dX10_breachKind_18 ?_
    refine lv_iload_n hx hb dX10_breachKind_21 rfl (lv_at hl 1 rfl) ?_
    refine z_ki (z_rS (rest := [.ref (q0 2)]) hZ0 C0 hK hZ hA hP hD hS hl.1 (c_X10_breach l E Z hZ0 H.size p1 _ hw) yv_X10_220 [] rfl (by decide) ⟨Nat.le_of_ble_eq_true rfl, Nat.le_of_ble_eq_true rfl⟩ ⟨rfl, rfl⟩ rfl rfl (Nat.le_of_ble_eq_true rfl) ⟨Nat.le_of_ble_eq_true rfl, Nat.le_of_ble_eq_true rfl⟩ dX10_breachKind_22) hP hD hS hA [] [0, 1, 2, 3, 4, 5, 6, 7, 8, 9] [0, 1, 2, 3, 4, 5, 6, 7, 8, 9] rfl (wr := [_, _, _, _, _, _, _, _, _, _]) rfl (by decide) (by decide) (fun u => k_X10 E q0 u_1) (fun u => rfl) (by decide) (fun r_5 u_4 H locs hw hP hD hS => ?_)
    refine lv_iconst (v := 1) hx hb dX10_breachKind_25 rfl ?_
    refine lv_iadd hx hb dX10_breachKind_26 ?_
    obtain ⟨h_6, hw⟩ := hw
    refine va_iald hx hb hK hP 2 0 rfl rfl h_6 dX10_breachKind_27 ?_
    exact z_iret (k := (fun u => k_X10 E q0 u)) u_1 C0 hP hD hS hw dX10_breachKind_28
  · have hw := hwf c_3
    refine lv_iconst (v := 0) hx hb dX10_breachKind_13 rfl ?_
    refine lv_goto (tgt := 28) hx hb dX10_breachKind_14 (by decide) ?_
    exact z_iret (k := (fun u => k_X10 E q0 u)) u_1 C0 hP hD hS hw dX10_breachKind_28
abbrev r_X10_breachPenalty : Room := { frames := 2, cells := 0, slots := 0, locals := 43 }
def wp_X10_breachPenalty (u0 : S_X10) (p1 : Int32) (post : Int32 → S_X10 → Prop) : Prop := wp_X10_noBreach ((0 : Int32), u0.2.1, u0.2.2.1, u0.2.2.2.1, u0.2.2.2.2.1, u0.2.2.2.2.2.1, u0.2.2.2.2.2.2.1, u0.2.2.2.2.2.2.2.1, u0.2.2.2.2.2.2.2.2.1, u0.2.2.2.2.2.2.2.2.2.1, u0.2.2.2.2.2.2.2.2.2.2.1, u0.2.2.2.2.2.2.2.2.2.2.2.1, u0.2.2.2.2.2.2.2.2.2.2.2.2.1, u0.2.2.2.2.2.2.2.2.2.2.2.2.2.1, u0.2.2.2.2.2.2.2.2.2.2.2.2.2.2.1, u0.2.2.2.2.2.2.2.2.2.2.2.2.2.2.2.1, u0.2.2.2.2.2.2.2.2.2.2.2.2.2.2.2.2.1, u0.2.2.2.2.2.2.2.2.2.2.2.2.2.2.2.2.2.1, u0.2.2.2.2.2.2.2.2.2.2.2.2.2.2.2.2.2.2.1, u0.2.2.2.2.2.2.2.2.2.2.2.2.2.2.2.2.2.2.2.1, u0.2.2.2.2.2.2.2.2.2.2.2.2.2.2.2.2.2.2.2.2.1, u0.2.2.2.2.2.2.2.2.2.2.2.2.2.2.2.2.2.2.2.2.2) p1 (fun r_2 u_1 => (r_2 = 0 → (wp_X10_breach p1 (fun r_5 u_4 => vp_in (r_5 + (2 : Int32)) 1728 ∧ (post (u_1.2.2.2.2.2.2.2.2.1 (r_5 + (2 : Int32)).toNatClampNeg) u_1)))) ∧ (¬ (r_2 = 0) → (post (0 : Int32) u_1)))
set_option maxHeartbeats 4000000 in
set_option maxRecDepth 100000 in
theorem c_X10_breachPenalty (l : Launch) (E : zE) (Z : zZ) (hZ0 : zSt Z) (q0 : Nat → Nat) (sz : Nat) (u0 : S_X10) (p1 : Int32) (post : Int32 → S_X10 → Prop) (hw : wp_X10_breachPenalty u0 p1 post) : Met l yX10_breachPenalty (zws yX10_breachPenalty cX10_breachPenalty 2 (some .int)) r_X10_breachPenalty (va_Pc [.ref (q0 0), .int p1] (zPre Z E (k_X10 E q0 u0) sz)) (va_Qi post (zAt E (va_A (k_X10 E q0 u0) sz) (fun u => k_X10 E q0 u)) (va_A (k_X10 E q0 u0) sz)) 0 0 (va_A (k_X10 E q0 u0) sz) := by
  refine z_ofW (Qf := fun A => va_Qi post (zAt E A (fun u => k_X10 E q0 u)) A) (by decide) (Nat.le_of_ble_eq_true rfl) ?_
  intro p e s m args below meth c A ls C0 hA hK hZ hP hD hS hl
  obtain ⟨hx, hb, hml, hr, hown, hts, hlocks, hin⟩ := id C0
  have hown : s.vm.findClass RX10 = some m.cls := hown
  have hl : lv_has ls 2 [(0, .ref (q0 0)), (1, .int p1)] := hl
  refine lv_aload_n hx hb dX10_breachPenalty_0 rfl (lv_at hl 0 rfl) ?_
  refine lv_iconst (v := 0) hx hb dX10_breachPenalty_1 rfl ?_
  refine va_put (D := zD E) (ci := 10) (v := .int (0 : Int32)) (ty := .int) (C := RX10) (T := TX10) (N := 24) hx hb hts uw_X10 tyX10 tyX10_ok nmX10 hown hK hP hD hS 0 rfl rfl 0 (by decide) (hts _ wm_5_116) (fun _ h9 => h9) rfl (by decide +kernel) rfl rfl (Nat.le_of_ble_eq_true rfl) dX10_breachPenalty_2 (fun H locs hP hD hS => ?_)
  have hP : va_P (zD E) vwCl (k_X10 E q0 ((0 : Int32), u0.2.1, u0.2.2.1, u0.2.2.2.1, u0.2.2.2.2.1, u0.2.2.2.2.2.1, u0.2.2.2.2.2.2.1, u0.2.2.2.2.2.2.2.1, u0.2.2.2.2.2.2.2.2.1, u0.2.2.2.2.2.2.2.2.2.1, u0.2.2.2.2.2.2.2.2.2.2.1, u0.2.2.2.2.2.2.2.2.2.2.2.1, u0.2.2.2.2.2.2.2.2.2.2.2.2.1, u0.2.2.2.2.2.2.2.2.2.2.2.2.2.1, u0.2.2.2.2.2.2.2.2.2.2.2.2.2.2.1, u0.2.2.2.2.2.2.2.2.2.2.2.2.2.2.2.1, u0.2.2.2.2.2.2.2.2.2.2.2.2.2.2.2.2.1, u0.2.2.2.2.2.2.2.2.2.2.2.2.2.2.2.2.2.1, u0.2.2.2.2.2.2.2.2.2.2.2.2.2.2.2.2.2.2.1, u0.2.2.2.2.2.2.2.2.2.2.2.2.2.2.2.2.2.2.2.1, u0.2.2.2.2.2.2.2.2.2.2.2.2.2.2.2.2.2.2.2.2.1, u0.2.2.2.2.2.2.2.2.2.2.2.2.2.2.2.2.2.2.2.2.2)) H := hP
  have hD : va_D A (k_X10 E q0 ((0 : Int32), u0.2.1, u0.2.2.1, u0.2.2.2.1, u0.2.2.2.2.1, u0.2.2.2.2.2.1, u0.2.2.2.2.2.2.1, u0.2.2.2.2.2.2.2.1, u0.2.2.2.2.2.2.2.2.1, u0.2.2.2.2.2.2.2.2.2.1, u0.2.2.2.2.2.2.2.2.2.2.1, u0.2.2.2.2.2.2.2.2.2.2.2.1, u0.2.2.2.2.2.2.2.2.2.2.2.2.1, u0.2.2.2.2.2.2.2.2.2.2.2.2.2.1, u0.2.2.2.2.2.2.2.2.2.2.2.2.2.2.1, u0.2.2.2.2.2.2.2.2.2.2.2.2.2.2.2.1, u0.2.2.2.2.2.2.2.2.2.2.2.2.2.2.2.2.1, u0.2.2.2.2.2.2.2.2.2.2.2.2.2.2.2.2.2.1, u0.2.2.2.2.2.2.2.2.2.2.2.2.2.2.2.2.2.2.1, u0.2.2.2.2.2.2.2.2.2.2.2.2.2.2.2.2.2.2.2.1, u0.2.2.2.2.2.2.2.2.2.2.2.2.2.2.2.2.2.2.2.2.1, u0.2.2.2.2.2.2.2.2.2.2.2.2.2.2.2.2.2.2.2.2.2)) := hD
  refine lv_aload_n hx hb dX10_breachPenalty_5 rfl (lv_at hl 0 rfl) ?_
  refine lv_iload_n hx hb dX10_breachPenalty_6 rfl (lv_at hl 1 rfl) ?_
  refine z_ki (z_rV (rest := []) hZ0 C0 hK hZ hA hP hD hS hl.1 (c_X10_noBreach l E Z hZ0 q0 H.size ((0 : Int32), u0.2.1, u0.2.2.1, u0.2.2.2.1, u0.2.2.2.2.1, u0.2.2.2.2.2.1, u0.2.2.2.2.2.2.1, u0.2.2.2.2.2.2.2.1, u0.2.2.2.2.2.2.2.2.1, u0.2.2.2.2.2.2.2.2.2.1, u0.2.2.2.2.2.2.2.2.2.2.1, u0.2.2.2.2.2.2.2.2.2.2.2.1, u0.2.2.2.2.2.2.2.2.2.2.2.2.1, u0.2.2.2.2.2.2.2.2.2.2.2.2.2.1, u0.2.2.2.2.2.2.2.2.2.2.2.2.2.2.1, u0.2.2.2.2.2.2.2.2.2.2.2.2.2.2.2.1, u0.2.2.2.2.2.2.2.2.2.2.2.2.2.2.2.2.1, u0.2.2.2.2.2.2.2.2.2.2.2.2.2.2.2.2.2.1, u0.2.2.2.2.2.2.2.2.2.2.2.2.2.2.2.2.2.2.1, u0.2.2.2.2.2.2.2.2.2.2.2.2.2.2.2.2.2.2.2.1, u0.2.2.2.2.2.2.2.2.2.2.2.2.2.2.2.2.2.2.2.2.1, u0.2.2.2.2.2.2.2.2.2.2.2.2.2.2.2.2.2.2.2.2.2) p1 _ hw) yv_X10_244 [0, 1, 2, 3, 4, 5, 6, 7, 8, 9] rfl (by decide) (ci := 10) rfl rfl 0 rfl ⟨Nat.le_of_ble_eq_true rfl, Nat.le_of_ble_eq_true rfl⟩ ⟨rfl, rfl⟩ rfl rfl (Nat.le_of_ble_eq_true rfl) ⟨Nat.le_of_ble_eq_true rfl, Nat.le_of_ble_eq_true rfl⟩ dX10_breachPenalty_7) hP hD hS hA [0, 1, 2, 3, 4, 5, 6, 7, 8, 9] [] [0, 1, 2, 3, 4, 5, 6, 7, 8, 9] rfl (wr := []) rfl (by decide) (by decide) (fun u => k_X10 E q0 u) (fun u => rfl) (by decide) (fun r_2 u_1 H locs hw hP hD hS => ?_)
  obtain ⟨hwt, hwf⟩ := hw
  refine lv_if_eq (tgt := 17) hx hb dX10_breachPenalty_10 (by decide) (fun c_3 => ?_) (fun c_3 => ?_)
  · have hw := hwt c_3
    refine lv_aload_n hx hb dX10_breachPenalty_17 rfl (lv_at hl 0 rfl) ?_
    refine va_get (D := zD E) (ci := 10) (v := .ref (q0 2)) (C := RX10) (T := TX10) (N := 24) hx hb hts uw_X10 hown hK hP 0 rfl rfl 8 (by decide) (hts _ wm_5_124) (fun _ h9 => h9) rfl dX10_breachPenalty_18 ?_
    refine lv_iload_n hx hb dX10_breachPenalty_21 rfl (lv_at hl 1 rfl) ?_
    refine z_ki (z_rS (rest := [.ref (q0 2)]) hZ0 C0 hK hZ hA hP hD hS hl.1 (c_X10_breach l E Z hZ0 H.size p1 _ hw) yv_X10_220 [] rfl (by decide) ⟨Nat.le_of_ble_eq_true rfl, Nat.le_of_ble_eq_true rfl⟩ ⟨rfl, rfl⟩ rfl rfl (Nat.le_of_ble_eq_true rfl) ⟨Nat.le_of_ble_eq_true rfl, Nat.le_of_ble_eq_true rfl⟩ dX10_breachPenalty_22) hP hD hS hA [] [0, 1, 2, 3, 4, 5, 6, 7, 8, 9] [0, 1, 2, 3, 4, 5, 6, 7, 8, 9] rfl (wr := [_, _, _, _, _, _, _, _, _, _]) rfl (by decide) (by decide) (fun u => k_X10 E q0 u_1) (fun u => rfl) (by decide) (fun r_5 u_4 H locs hw hP hD hS => ?_)
    refine lv_iconst (v := 2) hx hb dX10_breachPenalty_25 rfl ?_
    refine lv_iadd hx hb dX10_breachPenalty_26 ?_
    obtain ⟨h_6, hw⟩ := hw
    refine va_iald hx hb hK hP 2 0 rfl rfl h_6 dX10_breachPenalty_27 ?_
    exact z_iret (k := (fun u => k_X10 E q0 u)) u_1 C0 hP hD hS hw dX10_breachPenalty_28
  · have hw := hwf c_3
    refine lv_iconst (v := 0) hx hb dX10_breachPenalty_13 rfl ?_
    refine lv_goto (tgt := 28) hx hb dX10_breachPenalty_14 (by decide) ?_
    exact z_iret (k := (fun u => k_X10 E q0 u)) u_1 C0 hP hD hS hw dX10_breachPenalty_28
abbrev r_X10_isWaived : Room := { frames := 2, cells := 0, slots := 0, locals := 43 }
def wp_X10_isWaived (u0 : S_X10) (p1 : Int32) (post : Int32 → S_X10 → Prop) : Prop := wp_X10_noBreach ((0 : Int32), u0.2.1, u0.2.2.1, u0.2.2.2.1, u0.2.2.2.2.1, u0.2.2.2.2.2.1, u0.2.2.2.2.2.2.1, u0.2.2.2.2.2.2.2.1, u0.2.2.2.2.2.2.2.2.1, u0.2.2.2.2.2.2.2.2.2.1, u0.2.2.2.2.2.2.2.2.2.2.1, u0.2.2.2.2.2.2.2.2.2.2.2.1, u0.2.2.2.2.2.2.2.2.2.2.2.2.1, u0.2.2.2.2.2.2.2.2.2.2.2.2.2.1, u0.2.2.2.2.2.2.2.2.2.2.2.2.2.2.1, u0.2.2.2.2.2.2.2.2.2.2.2.2.2.2.2.1, u0.2.2.2.2.2.2.2.2.2.2.2.2.2.2.2.2.1, u0.2.2.2.2.2.2.2.2.2.2.2.2.2.2.2.2.2.1, u0.2.2.2.2.2.2.2.2.2.2.2.2.2.2.2.2.2.2.1, u0.2.2.2.2.2.2.2.2.2.2.2.2.2.2.2.2.2.2.2.1, u0.2.2.2.2.2.2.2.2.2.2.2.2.2.2.2.2.2.2.2.2.1, u0.2.2.2.2.2.2.2.2.2.2.2.2.2.2.2.2.2.2.2.2.2) p1 (fun r_2 u_1 => (¬ (r_2 = 0) → (post (0 : Int32) u_1)) ∧ (r_2 = 0 → (wp_X10_breach p1 (fun r_5 u_4 => vp_in (r_5 + (3 : Int32)) 1728 ∧ ((¬ ((u_1.2.2.2.2.2.2.2.2.1 (r_5 + (3 : Int32)).toNatClampNeg) = (1 : Int32)) → (post (0 : Int32) u_1)) ∧ ((u_1.2.2.2.2.2.2.2.2.1 (r_5 + (3 : Int32)).toNatClampNeg) = (1 : Int32) → (post (1 : Int32) u_1)))))))
set_option maxHeartbeats 4000000 in
set_option maxRecDepth 100000 in
theorem c_X10_isWaived (l : Launch) (E : zE) (Z : zZ) (hZ0 : zSt Z) (q0 : Nat → Nat) (sz : Nat) (u0 : S_X10) (p1 : Int32) (post : Int32 → S_X10 → Prop) (hw : wp_X10_isWaived u0 p1 post) : Met l yX10_isWaived (zws yX10_isWaived cX10_isWaived 2 (some .boolean)) r_X10_isWaived (va_Pc [.ref (q0 0), .int p1] (zPre Z E (k_X10 E q0 u0) sz)) (va_Qi post (zAt E (va_A (k_X10 E q0 u0) sz) (fun u => k_X10 E q0 u)) (va_A (k_X10 E q0 u0) sz)) 0 0 (va_A (k_X10 E q0 u0) sz) := by
  refine z_ofW (Qf := fun A => va_Qi post (zAt E A (fun u => k_X10 E q0 u)) A) (by decide) (Nat.le_of_ble_eq_true rfl) ?_
  intro p e s m args below meth c A ls C0 hA hK hZ hP hD hS hl
  obtain ⟨hx, hb, hml, hr, hown, hts, hlocks, hin⟩ := id C0
  have hown : s.vm.findClass RX10 = some m.cls := hown
  have hl : lv_has ls 2 [(0, .ref (q0 0)), (1, .int p1)] := hl
  refine lv_aload_n hx hb dX10_isWaived_0 rfl (lv_at hl 0 rfl) ?_
  refine lv_iconst (v := 0) hx hb dX10_isWaived_1 rfl ?_
  refine va_put (D := zD E) (ci := 10) (v := .int (0 : Int32)) (ty := .int) (C := RX10) (T := TX10) (N := 24) hx hb hts uw_X10 tyX10 tyX10_ok nmX10 hown hK hP hD hS 0 rfl rfl 0 (by decide) (hts _ wm_5_116) (fun _ h9 => h9) rfl (by decide +kernel) rfl rfl (Nat.le_of_ble_eq_true rfl) dX10_isWaived_2 (fun H locs hP hD hS => ?_)
  have hP : va_P (zD E) vwCl (k_X10 E q0 ((0 : Int32), u0.2.1, u0.2.2.1, u0.2.2.2.1, u0.2.2.2.2.1, u0.2.2.2.2.2.1, u0.2.2.2.2.2.2.1, u0.2.2.2.2.2.2.2.1, u0.2.2.2.2.2.2.2.2.1, u0.2.2.2.2.2.2.2.2.2.1, u0.2.2.2.2.2.2.2.2.2.2.1, u0.2.2.2.2.2.2.2.2.2.2.2.1, u0.2.2.2.2.2.2.2.2.2.2.2.2.1, u0.2.2.2.2.2.2.2.2.2.2.2.2.2.1, u0.2.2.2.2.2.2.2.2.2.2.2.2.2.2.1, u0.2.2.2.2.2.2.2.2.2.2.2.2.2.2.2.1, u0.2.2.2.2.2.2.2.2.2.2.2.2.2.2.2.2.1, u0.2.2.2.2.2.2.2.2.2.2.2.2.2.2.2.2.2.1, u0.2.2.2.2.2.2.2.2.2.2.2.2.2.2.2.2.2.2.1, u0.2.2.2.2.2.2.2.2.2.2.2.2.2.2.2.2.2.2.2.1, u0.2.2.2.2.2.2.2.2.2.2.2.2.2.2.2.2.2.2.2.2.1, u0.2.2.2.2.2.2.2.2.2.2.2.2.2.2.2.2.2.2.2.2.2)) H := hP
  have hD : va_D A (k_X10 E q0 ((0 : Int32), u0.2.1, u0.2.2.1, u0.2.2.2.1, u0.2.2.2.2.1, u0.2.2.2.2.2.1, u0.2.2.2.2.2.2.1, u0.2.2.2.2.2.2.2.1, u0.2.2.2.2.2.2.2.2.1, u0.2.2.2.2.2.2.2.2.2.1, u0.2.2.2.2.2.2.2.2.2.2.1, u0.2.2.2.2.2.2.2.2.2.2.2.1, u0.2.2.2.2.2.2.2.2.2.2.2.2.1, u0.2.2.2.2.2.2.2.2.2.2.2.2.2.1, u0.2.2.2.2.2.2.2.2.2.2.2.2.2.2.1, u0.2.2.2.2.2.2.2.2.2.2.2.2.2.2.2.1, u0.2.2.2.2.2.2.2.2.2.2.2.2.2.2.2.2.1, u0.2.2.2.2.2.2.2.2.2.2.2.2.2.2.2.2.2.1, u0.2.2.2.2.2.2.2.2.2.2.2.2.2.2.2.2.2.2.1, u0.2.2.2.2.2.2.2.2.2.2.2.2.2.2.2.2.2.2.2.1, u0.2.2.2.2.2.2.2.2.2.2.2.2.2.2.2.2.2.2.2.2.1, u0.2.2.2.2.2.2.2.2.2.2.2.2.2.2.2.2.2.2.2.2.2)) := hD
  refine lv_aload_n hx hb dX10_isWaived_5 rfl (lv_at hl 0 rfl) ?_
  refine lv_iload_n hx hb dX10_isWaived_6 rfl (lv_at hl 1 rfl) ?_
  refine z_ki (z_rV (rest := []) hZ0 C0 hK hZ hA hP hD hS hl.1 (c_X10_noBreach l E Z hZ0 q0 H.size ((0 : Int32), u0.2.1, u0.2.2.1, u0.2.2.2.1, u0.2.2.2.2.1, u0.2.2.2.2.2.1, u0.2.2.2.2.2.2.1, u0.2.2.2.2.2.2.2.1, u0.2.2.2.2.2.2.2.2.1, u0.2.2.2.2.2.2.2.2.2.1, u0.2.2.2.2.2.2.2.2.2.2.1, u0.2.2.2.2.2.2.2.2.2.2.2.1, u0.2.2.2.2.2.2.2.2.2.2.2.2.1, u0.2.2.2.2.2.2.2.2.2.2.2.2.2.1, u0.2.2.2.2.2.2.2.2.2.2.2.2.2.2.1, u0.2.2.2.2.2.2.2.2.2.2.2.2.2.2.2.1, u0.2.2.2.2.2.2.2.2.2.2.2.2.2.2.2.2.1, u0.2.2.2.2.2.2.2.2.2.2.2.2.2.2.2.2.2.1, u0.2.2.2.2.2.2.2.2.2.2.2.2.2.2.2.2.2.2.1, u0.2.2.2.2.2.2.2.2.2.2.2.2.2.2.2.2.2.2.2.1, u0.2.2.2.2.2.2.2.2.2.2.2.2.2.2.2.2.2.2.2.2.1, u0.2.2.2.2.2.2.2.2.2.2.2.2.2.2.2.2.2.2.2.2.2) p1 _ hw) yv_X10_244 [0, 1, 2, 3, 4, 5, 6, 7, 8, 9] rfl (by decide) (ci := 10) rfl rfl 0 rfl ⟨Nat.le_of_ble_eq_true rfl, Nat.le_of_ble_eq_true rfl⟩ ⟨rfl, rfl⟩ rfl rfl (Nat.le_of_ble_eq_true rfl) ⟨Nat.le_of_ble_eq_true rfl, Nat.le_of_ble_eq_true rfl⟩ dX10_isWaived_7) hP hD hS hA [0, 1, 2, 3, 4, 5, 6, 7, 8, 9] [] [0, 1, 2, 3, 4, 5, 6, 7, 8, 9] rfl (wr := []) rfl (by decide) (by decide) (fun u => k_X10 E q0 u) (fun u => rfl) (by decide) (fun r_2 u_1 H locs hw hP hD hS => ?_)
  obtain ⟨hwt, hwf⟩ := hw
  refine lv_if_ne (tgt := 32) hx hb dX10_isWaived_10 (by decide) (fun c_3 => ?_) (fun c_3 => ?_)
  · have hw := hwt c_3
    refine lv_iconst (v := 0) hx hb dX10_isWaived_32 rfl ?_
    exact z_zret (k := (fun u => k_X10 E q0 u)) u_1 C0 rfl hP hD hS hw dX10_isWaived_33
  · have hw := hwf c_3
    refine lv_aload_n hx hb dX10_isWaived_13 rfl (lv_at hl 0 rfl) ?_
    refine va_get (D := zD E) (ci := 10) (v := .ref (q0 2)) (C := RX10) (T := TX10) (N := 24) hx hb hts uw_X10 hown hK hP 0 rfl rfl 8 (by decide) (hts _ wm_5_124) (fun _ h9 => h9) rfl dX10_isWaived_14 ?_
    refine lv_iload_n hx hb dX10_isWaived_17 rfl (lv_at hl 1 rfl) ?_
    refine z_ki (z_rS (rest := [.ref (q0 2)]) hZ0 C0 hK hZ hA hP hD hS hl.1 (c_X10_breach l E Z hZ0 H.size p1 _ hw) yv_X10_220 [] rfl (by decide) ⟨Nat.le_of_ble_eq_true rfl, Nat.le_of_ble_eq_true rfl⟩ ⟨rfl, rfl⟩ rfl rfl (Nat.le_of_ble_eq_true rfl) ⟨Nat.le_of_ble_eq_true rfl, Nat.le_of_ble_eq_true rfl⟩ dX10_isWaived_18) hP hD hS hA [] [0, 1, 2, 3, 4, 5, 6, 7, 8, 9] [0, 1, 2, 3, 4, 5, 6, 7, 8, 9] rfl (wr := [_, _, _, _, _, _, _, _, _, _]) rfl (by decide) (by decide) (fun u => k_X10 E q0 u_1) (fun u => rfl) (by decide) (fun r_5 u_4 H locs hw hP hD hS => ?_)
    refine lv_iconst (v := 3) hx hb dX10_isWaived_21 rfl ?_
    refine lv_iadd hx hb dX10_isWaived_22 ?_
    obtain ⟨h_6, hw⟩ := hw
    refine va_iald hx hb hK hP 2 0 rfl rfl h_6 dX10_isWaived_23 ?_
    refine lv_iconst (v := 1) hx hb dX10_isWaived_24 rfl ?_
    obtain ⟨hwt, hwf⟩ := hw
    refine lv_icmp_ne (tgt := 32) hx hb dX10_isWaived_25 (by decide) (fun c_7 => ?_) (fun c_7 => ?_)
    · have hw := hwt c_7
      refine lv_iconst (v := 0) hx hb dX10_isWaived_32 rfl ?_
      exact z_zret (k := (fun u => k_X10 E q0 u)) u_1 C0 rfl hP hD hS hw dX10_isWaived_33
    · have hw := hwf c_7
      refine lv_iconst (v := 1) hx hb dX10_isWaived_28 rfl ?_
      refine lv_goto (tgt := 33) hx hb dX10_isWaived_29 (by decide) ?_
      exact z_zret (k := (fun u => k_X10 E q0 u)) u_1 C0 rfl hP hD hS hw dX10_isWaived_33
abbrev r_X10_leftOver : Room := { frames := 1, cells := 0, slots := 0, locals := 20 }
def j_X10_leftOver_10 (K10 : (Int32 × Int32 × S_X10) → Prop) (x1 : Int32) (x2 : Int32) (u0 : S_X10) (post : Int32 → S_X10 → Prop) : Prop := ((u0.2.2.2.2.2.2.2.2.1 12) ≤ x2 → (post x1 u0)) ∧ (¬ ((u0.2.2.2.2.2.2.2.2.1 12) ≤ x2) → (wp_X10_breach x2 (fun r_4 u_3 => vp_in (r_4 + (3 : Int32)) 1728 ∧ (∀ x_6 : Int32, x_6 = (x1 - (u0.2.2.2.2.2.2.2.2.1 (r_4 + (3 : Int32)).toNatClampNeg)) → (∀ x_7 : Int32, x_7 = x2 + 1 → (K10 (x_6, x_7, u0)))))))
def wp_X10_leftOver (u0 : S_X10) (post : Int32 → S_X10 → Prop) : Prop := ∀ x_1 : Int32, x_1 = (u0.2.2.2.2.2.2.2.2.1 9) → (∃ n, zl (fun K st => j_X10_leftOver_10 K st.1 st.2.1 st.2.2 post) n (x_1, (0 : Int32), u0))
set_option maxHeartbeats 4000000 in
set_option maxRecDepth 100000 in
theorem t_X10_leftOver_10 {p : Program} {l : Launch} {e : Env} {s : State} {m : MethodId} {args : Array Value} {below : List Frame} {meth : Method} {c : Code} {Z : zZ} {E : zE} {A : Nat → Prop} {q0 : Nat → Nat} (hZ0 : zSt Z) (C0 : zC p s m args meth c yX10_leftOver cX10_leftOver 3 (some .int)) (hA : ∀ q : Nat, s.heap.size ≤ q → A q) (hK : va_K (zD E) vwCl (zT E) s) (hZ : Z A s s.heap) (post : Int32 → S_X10 → Prop) : ∀ (n : Nat) (x1 : Int32) (x2 : Int32) (u0 : S_X10) (H : Heap) (locs : List Loc) (ls : Array Slot), zl (fun K st => j_X10_leftOver_10 K st.1 st.2.1 st.2.2 post) n (x1, x2, u0) → va_P (zD E) vwCl (k_X10 E q0 u0) H → va_D A (k_X10 E q0 u0) → va_S A s.heap H locs → lv_has ls 3 [(0, .ref (q0 0)), (1, .int x1), (2, .int x2)] → W p l e r_X10_leftOver s m args below meth c H locs 0 0 (MQ below (va_Qi post (zAt E A (fun u => k_X10 E q0 u)) A) args s 0 0 A) (F0 m 10 ls []) := by
  obtain ⟨hx, hb, hml, hr, hown, hts, hlocks, hin⟩ := id C0
  have hown : s.vm.findClass RX10 = some m.cls := hown
  intro n
  induction n with
  | zero => intro x1 x2 u0 H locs ls hw; exact hw.elim
  | succ n hk_10 =>
    intro x1 x2 u0 H locs ls hw hP hD hS hl
    have hw : j_X10_leftOver_10 _ x1 x2 u0 post := hw
    refine lv_iload_n hx hb dX10_leftOver_10 rfl (lv_at hl 2 rfl) ?_
    refine lv_aload_n hx hb dX10_leftOver_11 rfl (lv_at hl 0 rfl) ?_
    refine va_get (D := zD E) (ci := 10) (v := .ref (q0 2)) (C := RX10) (T := TX10) (N := 24) hx hb hts uw_X10 hown hK hP 0 rfl rfl 8 (by decide) (hts _ wm_5_124) (fun _ h9 => h9) rfl dX10_leftOver_12 ?_
    refine lv_bipush (v := 12) hx hb dX10_leftOver_15 rfl ?_
    refine va_iald hx hb hK hP 2 0 rfl rfl (show ¬ ((12 : Int32) < 0 ∨ 1728 ≤ (12 : Int32).toNatClampNeg) by decide) dX10_leftOver_17 ?_
    refine W.eq (g2 := F0 m 18 ls ([.int (u0.2.2.2.2.2.2.2.2.1 12), .int x2])) rfl ?_
    obtain ⟨hwt, hwf⟩ := hw
    refine lv_icmp_ge (tgt := 41) hx hb dX10_leftOver_18 (by decide) (fun c_2 => ?_) (fun c_2 => ?_)
    · have hw := hwt c_2
      refine lv_iload_n hx hb dX10_leftOver_41 rfl (lv_at hl 1 rfl) ?_
      exact z_iret (k := (fun u => k_X10 E q0 u)) u0 C0 hP hD hS hw dX10_leftOver_42
    · have hw := hwf c_2
      refine lv_iload_n hx hb dX10_leftOver_21 rfl (lv_at hl 1 rfl) ?_
      refine lv_aload_n hx hb dX10_leftOver_22 rfl (lv_at hl 0 rfl) ?_
      refine va_get (D := zD E) (ci := 10) (v := .ref (q0 2)) (C := RX10) (T := TX10) (N := 24) hx hb hts uw_X10 hown hK hP 0 rfl rfl 8 (by decide) (hts _ wm_5_124) (fun _ h9 => h9) rfl dX10_leftOver_23 ?_
      refine lv_iload_n hx hb dX10_leftOver_26 rfl (lv_at hl 2 rfl) ?_
      refine z_ki (z_rS (rest := [.ref (q0 2), .int x1]) hZ0 C0 hK hZ hA hP hD hS hl.1 (c_X10_breach l E Z hZ0 H.size x2 _ hw) yv_X10_220 [] rfl (by decide) ⟨Nat.le_of_ble_eq_true rfl, Nat.le_of_ble_eq_true rfl⟩ ⟨rfl, rfl⟩ rfl rfl (Nat.le_of_ble_eq_true rfl) ⟨Nat.le_of_ble_eq_true rfl, Nat.le_of_ble_eq_true rfl⟩ dX10_leftOver_27) hP hD hS hA [] [0, 1, 2, 3, 4, 5, 6, 7, 8, 9] [0, 1, 2, 3, 4, 5, 6, 7, 8, 9] rfl (wr := [_, _, _, _, _, _, _, _, _, _]) rfl (by decide) (by decide) (fun u => k_X10 E q0 u0) (fun u => rfl) (by decide) (fun r_4 u_3 H locs hw hP hD hS => ?_)
      refine lv_iconst (v := 3) hx hb dX10_leftOver_30 rfl ?_
      refine lv_iadd hx hb dX10_leftOver_31 ?_
      obtain ⟨h_5, hw⟩ := hw
      refine va_iald hx hb hK hP 2 0 rfl rfl h_5 dX10_leftOver_32 ?_
      refine lv_isub hx hb dX10_leftOver_33 ?_
      refine lv_topi (fun x_6 ex_6 => ?_)
      have hw := hw x_6 ex_6
      refine lv_istore_n (lv' := [(1, .int x_6), (0, .ref (q0 0)), (2, .int x2)]) hx hb dX10_leftOver_34 rfl hl (by decide) rfl (fun ls hl => ?_)
      obtain ⟨x_7, ex_7⟩ : ∃ y : Int32, y = x2 + 1 := ⟨_, rfl⟩
      have hw := hw x_7 ex_7
      refine lv_iinc (v := x_7) (lv' := [(2, .int x_7), (1, .int x_6), (0, .ref (q0 0))]) hx hb dX10_leftOver_35 hl (k := 2) rfl (by rw [ex_7]; rfl) (by decide) rfl (fun ls hl => ?_)
      refine lv_goto (tgt := 10) hx hb dX10_leftOver_38 (by decide) ?_
      exact hk_10 x_6 x_7 u0 _ _ _ hw hP hD hS (lv_sub hl [2, 1, 0] rfl)
set_option maxHeartbeats 4000000 in
set_option maxRecDepth 100000 in
theorem c_X10_leftOver (l : Launch) (E : zE) (Z : zZ) (hZ0 : zSt Z) (q0 : Nat → Nat) (sz : Nat) (u0 : S_X10) (post : Int32 → S_X10 → Prop) (hw : wp_X10_leftOver u0 post) : Met l yX10_leftOver (zws yX10_leftOver cX10_leftOver 3 (some .int)) r_X10_leftOver (va_Pc [.ref (q0 0)] (zPre Z E (k_X10 E q0 u0) sz)) (va_Qi post (zAt E (va_A (k_X10 E q0 u0) sz) (fun u => k_X10 E q0 u)) (va_A (k_X10 E q0 u0) sz)) 0 0 (va_A (k_X10 E q0 u0) sz) := by
  refine z_ofW (Qf := fun A => va_Qi post (zAt E A (fun u => k_X10 E q0 u)) A) (by decide) (Nat.le_of_ble_eq_true rfl) ?_
  intro p e s m args below meth c A ls C0 hA hK hZ hP hD hS hl
  obtain ⟨hx, hb, hml, hr, hown, hts, hlocks, hin⟩ := id C0
  have hown : s.vm.findClass RX10 = some m.cls := hown
  have hl : lv_has ls 3 [(0, .ref (q0 0))] := hl
  refine lv_aload_n hx hb dX10_leftOver_0 rfl (lv_at hl 0 rfl) ?_
  refine va_get (D := zD E) (ci := 10) (v := .ref (q0 2)) (C := RX10) (T := TX10) (N := 24) hx hb hts uw_X10 hown hK hP 0 rfl rfl 8 (by decide) (hts _ wm_5_124) (fun _ h9 => h9) rfl dX10_leftOver_1 ?_
  refine lv_bipush (v := 9) hx hb dX10_leftOver_4 rfl ?_
  refine va_iald hx hb hK hP 2 0 rfl rfl (show ¬ ((9 : Int32) < 0 ∨ 1728 ≤ (9 : Int32).toNatClampNeg) by decide) dX10_leftOver_6 ?_
  refine W.eq (g2 := F0 m 7 ls ([.int (u0.2.2.2.2.2.2.2.2.1 9)])) rfl ?_
  refine lv_topi (fun x_1 ex_1 => ?_)
  have hw := hw x_1 ex_1
  refine lv_istore_n (lv' := [(1, .int x_1), (0, .ref (q0 0))]) hx hb dX10_leftOver_7 rfl hl (by decide) rfl (fun ls hl => ?_)
  refine lv_iconst (v := 0) hx hb dX10_leftOver_8 rfl ?_
  refine lv_istore_n (lv' := [(2, .int (0 : Int32)), (1, .int x_1), (0, .ref (q0 0))]) hx hb dX10_leftOver_9 rfl hl (by decide) rfl (fun ls hl => ?_)
  obtain ⟨n9, hw⟩ := hw
  exact t_X10_leftOver_10 (l := l) hZ0 C0 hA hK hZ post n9 x_1 (0 : Int32) u0 _ _ _ hw hP hD hS (lv_sub hl [2, 1, 0] rfl)
abbrev r_X10_areApart : Room := { frames := 1, cells := 0, slots := 0, locals := 20 }
def wp_X10_areApart (u0 : S_X10) (p1 : Int32) (p2 : Int32) (post : Int32 → S_X10 → Prop) : Prop := wp_X10_breach p1 (fun r_2 u_1 => vp_in r_2 1728 ∧ (wp_X10_breach p2 (fun r_5 u_4 => vp_in r_5 1728 ∧ (wp_X10_size ((u0.2.2.2.2.2.2.2.2.1 r_2.toNatClampNeg) - (u0.2.2.2.2.2.2.2.2.1 r_5.toNatClampNeg)) (fun r_8 u_7 => (r_8 < (u0.2.2.2.2.2.2.2.2.1 10) → (post (0 : Int32) u0)) ∧ (¬ (r_8 < (u0.2.2.2.2.2.2.2.2.1 10)) → (post (1 : Int32) u0)))))))
set_option maxHeartbeats 4000000 in
set_option maxRecDepth 100000 in
theorem c_X10_areApart (l : Launch) (E : zE) (Z : zZ) (hZ0 : zSt Z) (q0 : Nat → Nat) (sz : Nat) (u0 : S_X10) (p1 : Int32) (p2 : Int32) (post : Int32 → S_X10 → Prop) (hw : wp_X10_areApart u0 p1 p2 post) : Met l yX10_areApart (zws yX10_areApart cX10_areApart 3 (some .boolean)) r_X10_areApart (va_Pc [.ref (q0 0), .int p1, .int p2] (zPre Z E (k_X10 E q0 u0) sz)) (va_Qi post (zAt E (va_A (k_X10 E q0 u0) sz) (fun u => k_X10 E q0 u)) (va_A (k_X10 E q0 u0) sz)) 0 0 (va_A (k_X10 E q0 u0) sz) := by
  refine z_ofW (Qf := fun A => va_Qi post (zAt E A (fun u => k_X10 E q0 u)) A) (by decide) (Nat.le_of_ble_eq_true rfl) ?_
  intro p e s m args below meth c A ls C0 hA hK hZ hP hD hS hl
  obtain ⟨hx, hb, hml, hr, hown, hts, hlocks, hin⟩ := id C0
  have hown : s.vm.findClass RX10 = some m.cls := hown
  have hl : lv_has ls 3 [(0, .ref (q0 0)), (1, .int p1), (2, .int p2)] := hl
  refine lv_aload_n hx hb dX10_areApart_0 rfl (lv_at hl 0 rfl) ?_
  refine va_get (D := zD E) (ci := 10) (v := .ref (q0 2)) (C := RX10) (T := TX10) (N := 24) hx hb hts uw_X10 hown hK hP 0 rfl rfl 8 (by decide) (hts _ wm_5_124) (fun _ h9 => h9) rfl dX10_areApart_1 ?_
  refine lv_iload_n hx hb dX10_areApart_4 rfl (lv_at hl 1 rfl) ?_
  refine z_ki (z_rS (rest := [.ref (q0 2)]) hZ0 C0 hK hZ hA hP hD hS hl.1 (c_X10_breach l E Z hZ0 s.heap.size p1 _ hw) yv_X10_220 [] rfl (by decide) ⟨Nat.le_of_ble_eq_true rfl, Nat.le_of_ble_eq_true rfl⟩ ⟨rfl, rfl⟩ rfl rfl (Nat.le_of_ble_eq_true rfl) ⟨Nat.le_of_ble_eq_true rfl, Nat.le_of_ble_eq_true rfl⟩ dX10_areApart_5) hP hD hS hA [] [0, 1, 2, 3, 4, 5, 6, 7, 8, 9] [0, 1, 2, 3, 4, 5, 6, 7, 8, 9] rfl (wr := [_, _, _, _, _, _, _, _, _, _]) rfl (by decide) (by decide) (fun u => k_X10 E q0 u0) (fun u => rfl) (by decide) (fun r_2 u_1 H locs hw hP hD hS => ?_)
  obtain ⟨h_3, hw⟩ := hw
  refine va_iald hx hb hK hP 2 0 rfl rfl h_3 dX10_areApart_8 ?_
  refine lv_aload_n hx hb dX10_areApart_9 rfl (lv_at hl 0 rfl) ?_
  refine va_get (D := zD E) (ci := 10) (v := .ref (q0 2)) (C := RX10) (T := TX10) (N := 24) hx hb hts uw_X10 hown hK hP 0 rfl rfl 8 (by decide) (hts _ wm_5_124) (fun _ h9 => h9) rfl dX10_areApart_10 ?_
  refine lv_iload_n hx hb dX10_areApart_13 rfl (lv_at hl 2 rfl) ?_
  refine z_ki (z_rS (rest := [.ref (q0 2), .int (u0.2.2.2.2.2.2.2.2.1 r_2.toNatClampNeg)]) hZ0 C0 hK hZ hA hP hD hS hl.1 (c_X10_breach l E Z hZ0 H.size p2 _ hw) yv_X10_220 [] rfl (by decide) ⟨Nat.le_of_ble_eq_true rfl, Nat.le_of_ble_eq_true rfl⟩ ⟨rfl, rfl⟩ rfl rfl (Nat.le_of_ble_eq_true rfl) ⟨Nat.le_of_ble_eq_true rfl, Nat.le_of_ble_eq_true rfl⟩ dX10_areApart_14) hP hD hS hA [] [0, 1, 2, 3, 4, 5, 6, 7, 8, 9] [0, 1, 2, 3, 4, 5, 6, 7, 8, 9] rfl (wr := [_, _, _, _, _, _, _, _, _, _]) rfl (by decide) (by decide) (fun u => k_X10 E q0 u0) (fun u => rfl) (by decide) (fun r_5 u_4 H locs hw hP hD hS => ?_)
  obtain ⟨h_6, hw⟩ := hw
  refine va_iald hx hb hK hP 2 0 rfl rfl h_6 dX10_areApart_17 ?_
  refine lv_isub hx hb dX10_areApart_18 ?_
  refine z_ki (z_rS (rest := []) hZ0 C0 hK hZ hA hP hD hS hl.1 (c_X10_size l E Z hZ0 H.size ((u0.2.2.2.2.2.2.2.2.1 r_2.toNatClampNeg) - (u0.2.2.2.2.2.2.2.2.1 r_5.toNatClampNeg)) _ hw) yv_X10_247 [] rfl (by decide) ⟨Nat.le_of_ble_eq_true rfl, Nat.le_of_ble_eq_true rfl⟩ ⟨rfl, rfl⟩ rfl rfl (Nat.le_of_ble_eq_true rfl) ⟨Nat.le_of_ble_eq_true rfl, Nat.le_of_ble_eq_true rfl⟩ dX10_areApart_19) hP hD hS hA [] [0, 1, 2, 3, 4, 5, 6, 7, 8, 9] [0, 1, 2, 3, 4, 5, 6, 7, 8, 9] rfl (wr := [_, _, _, _, _, _, _, _, _, _]) rfl (by decide) (by decide) (fun u => k_X10 E q0 u0) (fun u => rfl) (by decide) (fun r_8 u_7 H locs hw hP hD hS => ?_)
  refine lv_aload_n hx hb dX10_areApart_22 rfl (lv_at hl 0 rfl) ?_
  refine va_get (D := zD E) (ci := 10) (v := .ref (q0 2)) (C := RX10) (T := TX10) (N := 24) hx hb hts uw_X10 hown hK hP 0 rfl rfl 8 (by decide) (hts _ wm_5_124) (fun _ h9 => h9) rfl dX10_areApart_23 ?_
  refine lv_bipush (v := 10) hx hb dX10_areApart_26 rfl ?_
  refine va_iald hx hb hK hP 2 0 rfl rfl (show ¬ ((10 : Int32) < 0 ∨ 1728 ≤ (10 : Int32).toNatClampNeg) by decide) dX10_areApart_28 ?_
  refine W.eq (g2 := F0 m 29 ls ([.int (u0.2.2.2.2.2.2.2.2.1 10), .int r_8])) rfl ?_
  obtain ⟨hwt, hwf⟩ := hw
  refine lv_icmp_lt (tgt := 36) hx hb dX10_areApart_29 (by decide) (fun c_9 => ?_) (fun c_9 => ?_)
  · have hw := hwt c_9
    refine lv_iconst (v := 0) hx hb dX10_areApart_36 rfl ?_
    exact z_zret (k := (fun u => k_X10 E q0 u)) u0 C0 rfl hP hD hS hw dX10_areApart_37
  · have hw := hwf c_9
    refine lv_iconst (v := 1) hx hb dX10_areApart_32 rfl ?_
    refine lv_goto (tgt := 37) hx hb dX10_areApart_33 (by decide) ?_
    exact z_zret (k := (fun u => k_X10 E q0 u)) u0 C0 rfl hP hD hS hw dX10_areApart_37
abbrev r_X10_canWaive : Room := { frames := 2, cells := 0, slots := 0, locals := 42 }
def j_X10_canWaive_63 (K26 : (Int32 × Int32 × S_X10) → Prop) (x1 : Int32) (x2 : Int32) (u0 : S_X10) (post : Int32 → S_X10 → Prop) : Prop := ∀ x_16 : Int32, x_16 = x2 + 1 → (K26 (x1, x_16, u0))
def j_X10_canWaive_26 (K26 : (Int32 × Int32 × S_X10) → Prop) (x1 : Int32) (x2 : Int32) (u0 : S_X10) (post : Int32 → S_X10 → Prop) : Prop := ((u0.2.2.2.2.2.2.2.2.1 12) ≤ x2 → (post (1 : Int32) u0)) ∧ (¬ ((u0.2.2.2.2.2.2.2.2.1 12) ≤ x2) → (wp_X10_breach x2 (fun r_10 u_9 => vp_in (r_10 + (3 : Int32)) 1728 ∧ ((¬ ((u0.2.2.2.2.2.2.2.2.1 (r_10 + (3 : Int32)).toNatClampNeg) = (1 : Int32)) → (j_X10_canWaive_63 K26 x1 x2 u0 post)) ∧ ((u0.2.2.2.2.2.2.2.2.1 (r_10 + (3 : Int32)).toNatClampNeg) = (1 : Int32) → (wp_X10_areApart u0 x2 x1 (fun r_14 u_13 => (¬ (r_14 = 0) → (j_X10_canWaive_63 K26 x1 x2 u_13 post)) ∧ (r_14 = 0 → (post (0 : Int32) u_13)))))))))
def wp_X10_canWaive (u0 : S_X10) (p1 : Int32) (post : Int32 → S_X10 → Prop) : Prop := wp_X10_breach p1 (fun r_2 u_1 => vp_in (r_2 + (3 : Int32)) 1728 ∧ (((u0.2.2.2.2.2.2.2.2.1 (r_2 + (3 : Int32)).toNatClampNeg) = (1 : Int32) → (post (0 : Int32) u0)) ∧ (¬ ((u0.2.2.2.2.2.2.2.2.1 (r_2 + (3 : Int32)).toNatClampNeg) = (1 : Int32)) → (wp_X10_leftOver u0 (fun r_6 u_5 => (¬ (r_6 = 0) → (∃ n, zl (fun K st => j_X10_canWaive_26 K st.1 st.2.1 st.2.2 post) n (p1, (0 : Int32), u_5))) ∧ (r_6 = 0 → (post (0 : Int32) u_5)))))))
set_option maxHeartbeats 4000000 in
set_option maxRecDepth 100000 in
theorem t_X10_canWaive_63 {p : Program} {l : Launch} {e : Env} {s : State} {m : MethodId} {args : Array Value} {below : List Frame} {meth : Method} {c : Code} {Z : zZ} {E : zE} {A : Nat → Prop} {q0 : Nat → Nat} (hZ0 : zSt Z) (C0 : zC p s m args meth c yX10_canWaive cX10_canWaive 3 (some .boolean)) (hA : ∀ q : Nat, s.heap.size ≤ q → A q) (hK : va_K (zD E) vwCl (zT E) s) (hZ : Z A s s.heap) (post : Int32 → S_X10 → Prop) {K26 : (Int32 × Int32 × S_X10) → Prop} (hk_26 : ∀ (x1 : Int32) (x2 : Int32) (u0 : S_X10) (H : Heap) (locs : List Loc) (ls : Array Slot), K26 (x1, x2, u0) → va_P (zD E) vwCl (k_X10 E q0 u0) H → va_D A (k_X10 E q0 u0) → va_S A s.heap H locs → lv_has ls 3 [(0, .ref (q0 0)), (1, .int x1), (2, .int x2)] → W p l e r_X10_canWaive s m args below meth c H locs 0 0 (MQ below (va_Qi post (zAt E A (fun u => k_X10 E q0 u)) A) args s 0 0 A) (F0 m 26 ls [])) : ∀ (x1 : Int32) (x2 : Int32) (u0 : S_X10) (H : Heap) (locs : List Loc) (ls : Array Slot), j_X10_canWaive_63 K26 x1 x2 u0 post → va_P (zD E) vwCl (k_X10 E q0 u0) H → va_D A (k_X10 E q0 u0) → va_S A s.heap H locs → lv_has ls 3 [(0, .ref (q0 0)), (1, .int x1), (2, .int x2)] → W p l e r_X10_canWaive s m args below meth c H locs 0 0 (MQ below (va_Qi post (zAt E A (fun u => k_X10 E q0 u)) A) args s 0 0 A) (F0 m 63 ls []) := by
  obtain ⟨hx, hb, hml, hr, hown, hts, hlocks, hin⟩ := id C0
  have hown : s.vm.findClass RX10 = some m.cls := hown
  intro x1 x2 u0 H locs ls hw hP hD hS hl
  obtain ⟨x_16, ex_16⟩ : ∃ y : Int32, y = x2 + 1 := ⟨_, rfl⟩
  have hw := hw x_16 ex_16
  refine lv_iinc (v := x_16) (lv' := [(2, .int x_16), (0, .ref (q0 0)), (1, .int x1)]) hx hb dX10_canWaive_63 hl (k := 2) rfl (by rw [ex_16]; rfl) (by decide) rfl (fun ls hl => ?_)
  refine lv_goto (tgt := 26) hx hb dX10_canWaive_66 (by decide) ?_
  exact hk_26 x1 x_16 u0 _ _ _ hw hP hD hS (lv_sub hl [1, 2, 0] rfl)
set_option maxHeartbeats 4000000 in
set_option maxRecDepth 100000 in
theorem t_X10_canWaive_26 {p : Program} {l : Launch} {e : Env} {s : State} {m : MethodId} {args : Array Value} {below : List Frame} {meth : Method} {c : Code} {Z : zZ} {E : zE} {A : Nat → Prop} {q0 : Nat → Nat} (hZ0 : zSt Z) (C0 : zC p s m args meth c yX10_canWaive cX10_canWaive 3 (some .boolean)) (hA : ∀ q : Nat, s.heap.size ≤ q → A q) (hK : va_K (zD E) vwCl (zT E) s) (hZ : Z A s s.heap) (post : Int32 → S_X10 → Prop) : ∀ (n : Nat) (x1 : Int32) (x2 : Int32) (u0 : S_X10) (H : Heap) (locs : List Loc) (ls : Array Slot), zl (fun K st => j_X10_canWaive_26 K st.1 st.2.1 st.2.2 post) n (x1, x2, u0) → va_P (zD E) vwCl (k_X10 E q0 u0) H → va_D A (k_X10 E q0 u0) → va_S A s.heap H locs → lv_has ls 3 [(0, .ref (q0 0)), (1, .int x1), (2, .int x2)] → W p l e r_X10_canWaive s m args below meth c H locs 0 0 (MQ below (va_Qi post (zAt E A (fun u => k_X10 E q0 u)) A) args s 0 0 A) (F0 m 26 ls []) := by
  obtain ⟨hx, hb, hml, hr, hown, hts, hlocks, hin⟩ := id C0
  have hown : s.vm.findClass RX10 = some m.cls := hown
  intro n
  induction n with
  | zero => intro x1 x2 u0 H locs ls hw; exact hw.elim
  | succ n hk_26 =>
    intro x1 x2 u0 H locs ls hw hP hD hS hl
    have hw : j_X10_canWaive_26 _ x1 x2 u0 post := hw
    refine lv_iload_n hx hb dX10_canWaive_26 rfl (lv_at hl 2 rfl) ?_
    refine lv_aload_n hx hb dX10_canWaive_27 rfl (lv_at hl 0 rfl) ?_
    refine va_get (D := zD E) (ci := 10) (v := .ref (q0 2)) (C := RX10) (T := TX10) (N := 24) hx hb hts uw_X10 hown hK hP 0 rfl rfl 8 (by decide) (hts _ wm_5_124) (fun _ h9 => h9) rfl dX10_canWaive_28 ?_
    refine lv_bipush (v := 12) hx hb dX10_canWaive_31 rfl ?_
    refine va_iald hx hb hK hP 2 0 rfl rfl (show ¬ ((12 : Int32) < 0 ∨ 1728 ≤ (12 : Int32).toNatClampNeg) by decide) dX10_canWaive_33 ?_
    refine W.eq (g2 := F0 m 34 ls ([.int (u0.2.2.2.2.2.2.2.2.1 12), .int x2])) rfl ?_
    obtain ⟨hwt, hwf⟩ := hw
    refine lv_icmp_ge (tgt := 69) hx hb dX10_canWaive_34 (by decide) (fun c_8 => ?_) (fun c_8 => ?_)
    · have hw := hwt c_8
      refine lv_iconst (v := 1) hx hb dX10_canWaive_69 rfl ?_
      exact z_zret (k := (fun u => k_X10 E q0 u)) u0 C0 rfl hP hD hS hw dX10_canWaive_70
    · have hw := hwf c_8
      refine lv_aload_n hx hb dX10_canWaive_37 rfl (lv_at hl 0 rfl) ?_
      refine va_get (D := zD E) (ci := 10) (v := .ref (q0 2)) (C := RX10) (T := TX10) (N := 24) hx hb hts uw_X10 hown hK hP 0 rfl rfl 8 (by decide) (hts _ wm_5_124) (fun _ h9 => h9) rfl dX10_canWaive_38 ?_
      refine lv_iload_n hx hb dX10_canWaive_41 rfl (lv_at hl 2 rfl) ?_
      refine z_ki (z_rS (rest := [.ref (q0 2)]) hZ0 C0 hK hZ hA hP hD hS hl.1 (c_X10_breach l E Z hZ0 H.size x2 _ hw) yv_X10_220 [] rfl (by decide) ⟨Nat.le_of_ble_eq_true rfl, Nat.le_of_ble_eq_true rfl⟩ ⟨rfl, rfl⟩ rfl rfl (Nat.le_of_ble_eq_true rfl) ⟨Nat.le_of_ble_eq_true rfl, Nat.le_of_ble_eq_true rfl⟩ dX10_canWaive_42) hP hD hS hA [] [0, 1, 2, 3, 4, 5, 6, 7, 8, 9] [0, 1, 2, 3, 4, 5, 6, 7, 8, 9] rfl (wr := [_, _, _, _, _, _, _, _, _, _]) rfl (by decide) (by decide) (fun u => k_X10 E q0 u0) (fun u => rfl) (by decide) (fun r_10 u_9 H locs hw hP hD hS => ?_)
      refine lv_iconst (v := 3) hx hb dX10_canWaive_45 rfl ?_
      refine lv_iadd hx hb dX10_canWaive_46 ?_
      obtain ⟨h_11, hw⟩ := hw
      refine va_iald hx hb hK hP 2 0 rfl rfl h_11 dX10_canWaive_47 ?_
      refine lv_iconst (v := 1) hx hb dX10_canWaive_48 rfl ?_
      obtain ⟨hwt, hwf⟩ := hw
      refine lv_icmp_ne (tgt := 63) hx hb dX10_canWaive_49 (by decide) (fun c_12 => ?_) (fun c_12 => ?_)
      · have hw := hwt c_12
        exact t_X10_canWaive_63 (l := l) hZ0 C0 hA hK hZ post hk_26 x1 x2 u0 _ _ _ hw hP hD hS (lv_sub hl [0, 1, 2] rfl)
      · have hw := hwf c_12
        refine lv_aload_n hx hb dX10_canWaive_52 rfl (lv_at hl 0 rfl) ?_
        refine lv_iload_n hx hb dX10_canWaive_53 rfl (lv_at hl 2 rfl) ?_
        refine lv_iload_n hx hb dX10_canWaive_54 rfl (lv_at hl 1 rfl) ?_
        refine z_ki (z_rV (rest := []) hZ0 C0 hK hZ hA hP hD hS hl.1 (c_X10_areApart l E Z hZ0 q0 H.size u0 x2 x1 _ hw) yv_X10_253 [0, 1, 2, 3, 4, 5, 6, 7, 8, 9] rfl (by decide) (ci := 10) rfl rfl 0 rfl ⟨Nat.le_of_ble_eq_true rfl, Nat.le_of_ble_eq_true rfl⟩ ⟨rfl, rfl⟩ rfl rfl (Nat.le_of_ble_eq_true rfl) ⟨Nat.le_of_ble_eq_true rfl, Nat.le_of_ble_eq_true rfl⟩ dX10_canWaive_55) hP hD hS hA [0, 1, 2, 3, 4, 5, 6, 7, 8, 9] [] [0, 1, 2, 3, 4, 5, 6, 7, 8, 9] rfl (wr := []) rfl (by decide) (by decide) (fun u => k_X10 E q0 u) (fun u => rfl) (by decide) (fun r_14 u_13 H locs hw hP hD hS => ?_)
        obtain ⟨hwt, hwf⟩ := hw
        refine lv_if_ne (tgt := 63) hx hb dX10_canWaive_58 (by decide) (fun c_15 => ?_) (fun c_15 => ?_)
        · have hw := hwt c_15
          exact t_X10_canWaive_63 (l := l) hZ0 C0 hA hK hZ post hk_26 x1 x2 u_13 _ _ _ hw hP hD hS (lv_sub hl [0, 1, 2] rfl)
        · have hw := hwf c_15
          refine lv_iconst (v := 0) hx hb dX10_canWaive_61 rfl ?_
          exact z_zret (k := (fun u => k_X10 E q0 u)) u_13 C0 rfl hP hD hS hw dX10_canWaive_62
set_option maxHeartbeats 4000000 in
set_option maxRecDepth 100000 in
theorem c_X10_canWaive (l : Launch) (E : zE) (Z : zZ) (hZ0 : zSt Z) (q0 : Nat → Nat) (sz : Nat) (u0 : S_X10) (p1 : Int32) (post : Int32 → S_X10 → Prop) (hw : wp_X10_canWaive u0 p1 post) : Met l yX10_canWaive (zws yX10_canWaive cX10_canWaive 3 (some .boolean)) r_X10_canWaive (va_Pc [.ref (q0 0), .int p1] (zPre Z E (k_X10 E q0 u0) sz)) (va_Qi post (zAt E (va_A (k_X10 E q0 u0) sz) (fun u => k_X10 E q0 u)) (va_A (k_X10 E q0 u0) sz)) 0 0 (va_A (k_X10 E q0 u0) sz) := by
  refine z_ofW (Qf := fun A => va_Qi post (zAt E A (fun u => k_X10 E q0 u)) A) (by decide) (Nat.le_of_ble_eq_true rfl) ?_
  intro p e s m args below meth c A ls C0 hA hK hZ hP hD hS hl
  obtain ⟨hx, hb, hml, hr, hown, hts, hlocks, hin⟩ := id C0
  have hown : s.vm.findClass RX10 = some m.cls := hown
  have hl : lv_has ls 3 [(0, .ref (q0 0)), (1, .int p1)] := hl
  refine lv_aload_n hx hb dX10_canWaive_0 rfl (lv_at hl 0 rfl) ?_
  refine va_get (D := zD E) (ci := 10) (v := .ref (q0 2)) (C := RX10) (T := TX10) (N := 24) hx hb hts uw_X10 hown hK hP 0 rfl rfl 8 (by decide) (hts _ wm_5_124) (fun _ h9 => h9) rfl dX10_canWaive_1 ?_
  refine lv_iload_n hx hb dX10_canWaive_4 rfl (lv_at hl 1 rfl) ?_
  refine z_ki (z_rS (rest := [.ref (q0 2)]) hZ0 C0 hK hZ hA hP hD hS hl.1 (c_X10_breach l E Z hZ0 s.heap.size p1 _ hw) yv_X10_220 [] rfl (by decide) ⟨Nat.le_of_ble_eq_true rfl, Nat.le_of_ble_eq_true rfl⟩ ⟨rfl, rfl⟩ rfl rfl (Nat.le_of_ble_eq_true rfl) ⟨Nat.le_of_ble_eq_true rfl, Nat.le_of_ble_eq_true rfl⟩ dX10_canWaive_5) hP hD hS hA [] [0, 1, 2, 3, 4, 5, 6, 7, 8, 9] [0, 1, 2, 3, 4, 5, 6, 7, 8, 9] rfl (wr := [_, _, _, _, _, _, _, _, _, _]) rfl (by decide) (by decide) (fun u => k_X10 E q0 u0) (fun u => rfl) (by decide) (fun r_2 u_1 H locs hw hP hD hS => ?_)
  refine lv_iconst (v := 3) hx hb dX10_canWaive_8 rfl ?_
  refine lv_iadd hx hb dX10_canWaive_9 ?_
  obtain ⟨h_3, hw⟩ := hw
  refine va_iald hx hb hK hP 2 0 rfl rfl h_3 dX10_canWaive_10 ?_
  refine lv_iconst (v := 1) hx hb dX10_canWaive_11 rfl ?_
  obtain ⟨hwt, hwf⟩ := hw
  refine lv_icmp_eq (tgt := 22) hx hb dX10_canWaive_12 (by decide) (fun c_4 => ?_) (fun c_4 => ?_)
  · have hw := hwt c_4
    refine lv_iconst (v := 0) hx hb dX10_canWaive_22 rfl ?_
    exact z_zret (k := (fun u => k_X10 E q0 u)) u0 C0 rfl hP hD hS hw dX10_canWaive_23
  · have hw := hwf c_4
    refine lv_aload_n hx hb dX10_canWaive_15 rfl (lv_at hl 0 rfl) ?_
    refine z_ki (z_rV (rest := []) hZ0 C0 hK hZ hA hP hD hS hl.1 (c_X10_leftOver l E Z hZ0 q0 H.size u0 _ hw) yv_X10_250 [0, 1, 2, 3, 4, 5, 6, 7, 8, 9] rfl (by decide) (ci := 10) rfl rfl 0 rfl ⟨Nat.le_of_ble_eq_true rfl, Nat.le_of_ble_eq_true rfl⟩ ⟨rfl, rfl⟩ rfl rfl (Nat.le_of_ble_eq_true rfl) ⟨Nat.le_of_ble_eq_true rfl, Nat.le_of_ble_eq_true rfl⟩ dX10_canWaive_16) hP hD hS hA [0, 1, 2, 3, 4, 5, 6, 7, 8, 9] [] [0, 1, 2, 3, 4, 5, 6, 7, 8, 9] rfl (wr := []) rfl (by decide) (by decide) (fun u => k_X10 E q0 u) (fun u => rfl) (by decide) (fun r_6 u_5 H locs hw hP hD hS => ?_)
    obtain ⟨hwt, hwf⟩ := hw
    refine lv_if_ne (tgt := 24) hx hb dX10_canWaive_19 (by decide) (fun c_7 => ?_) (fun c_7 => ?_)
    · have hw := hwt c_7
      refine lv_iconst (v := 0) hx hb dX10_canWaive_24 rfl ?_
      refine lv_istore_n (lv' := [(2, .int (0 : Int32)), (0, .ref (q0 0)), (1, .int p1)]) hx hb dX10_canWaive_25 rfl hl (by decide) rfl (fun ls hl => ?_)
      obtain ⟨n9, hw⟩ := hw
      exact t_X10_canWaive_26 (l := l) hZ0 C0 hA hK hZ post n9 p1 (0 : Int32) u_5 _ _ _ hw hP hD hS (lv_sub hl [1, 2, 0] rfl)
    · have hw := hwf c_7
      refine lv_iconst (v := 0) hx hb dX10_canWaive_22 rfl ?_
      exact z_zret (k := (fun u => k_X10 E q0 u)) u_5 C0 rfl hP hD hS hw dX10_canWaive_23
abbrev r_X10_waiversLeft : Room := { frames := 2, cells := 0, slots := 0, locals := 42 }
def wp_X10_waiversLeft (u0 : S_X10) (post : Int32 → S_X10 → Prop) : Prop := wp_X10_leftOver ((0 : Int32), u0.2.1, u0.2.2.1, u0.2.2.2.1, u0.2.2.2.2.1, u0.2.2.2.2.2.1, u0.2.2.2.2.2.2.1, u0.2.2.2.2.2.2.2.1, u0.2.2.2.2.2.2.2.2.1, u0.2.2.2.2.2.2.2.2.2.1, u0.2.2.2.2.2.2.2.2.2.2.1, u0.2.2.2.2.2.2.2.2.2.2.2.1, u0.2.2.2.2.2.2.2.2.2.2.2.2.1, u0.2.2.2.2.2.2.2.2.2.2.2.2.2.1, u0.2.2.2.2.2.2.2.2.2.2.2.2.2.2.1, u0.2.2.2.2.2.2.2.2.2.2.2.2.2.2.2.1, u0.2.2.2.2.2.2.2.2.2.2.2.2.2.2.2.2.1, u0.2.2.2.2.2.2.2.2.2.2.2.2.2.2.2.2.2.1, u0.2.2.2.2.2.2.2.2.2.2.2.2.2.2.2.2.2.2.1, u0.2.2.2.2.2.2.2.2.2.2.2.2.2.2.2.2.2.2.2.1, u0.2.2.2.2.2.2.2.2.2.2.2.2.2.2.2.2.2.2.2.2.1, u0.2.2.2.2.2.2.2.2.2.2.2.2.2.2.2.2.2.2.2.2.2) (fun r_2 u_1 => post r_2 u_1)
set_option maxHeartbeats 4000000 in
set_option maxRecDepth 100000 in
theorem c_X10_waiversLeft (l : Launch) (E : zE) (Z : zZ) (hZ0 : zSt Z) (q0 : Nat → Nat) (sz : Nat) (u0 : S_X10) (post : Int32 → S_X10 → Prop) (hw : wp_X10_waiversLeft u0 post) : Met l yX10_waiversLeft (zws yX10_waiversLeft cX10_waiversLeft 1 (some .int)) r_X10_waiversLeft (va_Pc [.ref (q0 0)] (zPre Z E (k_X10 E q0 u0) sz)) (va_Qi post (zAt E (va_A (k_X10 E q0 u0) sz) (fun u => k_X10 E q0 u)) (va_A (k_X10 E q0 u0) sz)) 0 0 (va_A (k_X10 E q0 u0) sz) := by
  refine z_ofW (Qf := fun A => va_Qi post (zAt E A (fun u => k_X10 E q0 u)) A) (by decide) (Nat.le_of_ble_eq_true rfl) ?_
  intro p e s m args below meth c A ls C0 hA hK hZ hP hD hS hl
  obtain ⟨hx, hb, hml, hr, hown, hts, hlocks, hin⟩ := id C0
  have hown : s.vm.findClass RX10 = some m.cls := hown
  have hl : lv_has ls 1 [(0, .ref (q0 0))] := hl
  refine lv_aload_n hx hb dX10_waiversLeft_0 rfl (lv_at hl 0 rfl) ?_
  refine lv_iconst (v := 0) hx hb dX10_waiversLeft_1 rfl ?_
  refine va_put (D := zD E) (ci := 10) (v := .int (0 : Int32)) (ty := .int) (C := RX10) (T := TX10) (N := 24) hx hb hts uw_X10 tyX10 tyX10_ok nmX10 hown hK hP hD hS 0 rfl rfl 0 (by decide) (hts _ wm_5_116) (fun _ h9 => h9) rfl (by decide +kernel) rfl rfl (Nat.le_of_ble_eq_true rfl) dX10_waiversLeft_2 (fun H locs hP hD hS => ?_)
  have hP : va_P (zD E) vwCl (k_X10 E q0 ((0 : Int32), u0.2.1, u0.2.2.1, u0.2.2.2.1, u0.2.2.2.2.1, u0.2.2.2.2.2.1, u0.2.2.2.2.2.2.1, u0.2.2.2.2.2.2.2.1, u0.2.2.2.2.2.2.2.2.1, u0.2.2.2.2.2.2.2.2.2.1, u0.2.2.2.2.2.2.2.2.2.2.1, u0.2.2.2.2.2.2.2.2.2.2.2.1, u0.2.2.2.2.2.2.2.2.2.2.2.2.1, u0.2.2.2.2.2.2.2.2.2.2.2.2.2.1, u0.2.2.2.2.2.2.2.2.2.2.2.2.2.2.1, u0.2.2.2.2.2.2.2.2.2.2.2.2.2.2.2.1, u0.2.2.2.2.2.2.2.2.2.2.2.2.2.2.2.2.1, u0.2.2.2.2.2.2.2.2.2.2.2.2.2.2.2.2.2.1, u0.2.2.2.2.2.2.2.2.2.2.2.2.2.2.2.2.2.2.1, u0.2.2.2.2.2.2.2.2.2.2.2.2.2.2.2.2.2.2.2.1, u0.2.2.2.2.2.2.2.2.2.2.2.2.2.2.2.2.2.2.2.2.1, u0.2.2.2.2.2.2.2.2.2.2.2.2.2.2.2.2.2.2.2.2.2)) H := hP
  have hD : va_D A (k_X10 E q0 ((0 : Int32), u0.2.1, u0.2.2.1, u0.2.2.2.1, u0.2.2.2.2.1, u0.2.2.2.2.2.1, u0.2.2.2.2.2.2.1, u0.2.2.2.2.2.2.2.1, u0.2.2.2.2.2.2.2.2.1, u0.2.2.2.2.2.2.2.2.2.1, u0.2.2.2.2.2.2.2.2.2.2.1, u0.2.2.2.2.2.2.2.2.2.2.2.1, u0.2.2.2.2.2.2.2.2.2.2.2.2.1, u0.2.2.2.2.2.2.2.2.2.2.2.2.2.1, u0.2.2.2.2.2.2.2.2.2.2.2.2.2.2.1, u0.2.2.2.2.2.2.2.2.2.2.2.2.2.2.2.1, u0.2.2.2.2.2.2.2.2.2.2.2.2.2.2.2.2.1, u0.2.2.2.2.2.2.2.2.2.2.2.2.2.2.2.2.2.1, u0.2.2.2.2.2.2.2.2.2.2.2.2.2.2.2.2.2.2.1, u0.2.2.2.2.2.2.2.2.2.2.2.2.2.2.2.2.2.2.2.1, u0.2.2.2.2.2.2.2.2.2.2.2.2.2.2.2.2.2.2.2.2.1, u0.2.2.2.2.2.2.2.2.2.2.2.2.2.2.2.2.2.2.2.2.2)) := hD
  refine lv_aload_n hx hb dX10_waiversLeft_5 rfl (lv_at hl 0 rfl) ?_
  refine z_ki (z_rV (rest := []) hZ0 C0 hK hZ hA hP hD hS hl.1 (c_X10_leftOver l E Z hZ0 q0 H.size ((0 : Int32), u0.2.1, u0.2.2.1, u0.2.2.2.1, u0.2.2.2.2.1, u0.2.2.2.2.2.1, u0.2.2.2.2.2.2.1, u0.2.2.2.2.2.2.2.1, u0.2.2.2.2.2.2.2.2.1, u0.2.2.2.2.2.2.2.2.2.1, u0.2.2.2.2.2.2.2.2.2.2.1, u0.2.2.2.2.2.2.2.2.2.2.2.1, u0.2.2.2.2.2.2.2.2.2.2.2.2.1, u0.2.2.2.2.2.2.2.2.2.2.2.2.2.1, u0.2.2.2.2.2.2.2.2.2.2.2.2.2.2.1, u0.2.2.2.2.2.2.2.2.2.2.2.2.2.2.2.1, u0.2.2.2.2.2.2.2.2.2.2.2.2.2.2.2.2.1, u0.2.2.2.2.2.2.2.2.2.2.2.2.2.2.2.2.2.1, u0.2.2.2.2.2.2.2.2.2.2.2.2.2.2.2.2.2.2.1, u0.2.2.2.2.2.2.2.2.2.2.2.2.2.2.2.2.2.2.2.1, u0.2.2.2.2.2.2.2.2.2.2.2.2.2.2.2.2.2.2.2.2.1, u0.2.2.2.2.2.2.2.2.2.2.2.2.2.2.2.2.2.2.2.2.2) _ hw) yv_X10_250 [0, 1, 2, 3, 4, 5, 6, 7, 8, 9] rfl (by decide) (ci := 10) rfl rfl 0 rfl ⟨Nat.le_of_ble_eq_true rfl, Nat.le_of_ble_eq_true rfl⟩ ⟨rfl, rfl⟩ rfl rfl (Nat.le_of_ble_eq_true rfl) ⟨Nat.le_of_ble_eq_true rfl, Nat.le_of_ble_eq_true rfl⟩ dX10_waiversLeft_6) hP hD hS hA [0, 1, 2, 3, 4, 5, 6, 7, 8, 9] [] [0, 1, 2, 3, 4, 5, 6, 7, 8, 9] rfl (wr := []) rfl (by decide) (by decide) (fun u => k_X10 E q0 u) (fun u => rfl) (by decide) (fun r_2 u_1 H locs hw hP hD hS => ?_)
  exact z_iret (k := (fun u => k_X10 E q0 u)) u_1 C0 hP hD hS hw dX10_waiversLeft_9
abbrev r_X10_project : Room := { frames := 3, cells := 0, slots := 0, locals := 74 }
def j_X10_project_2 (K2 : (Int64 × S_X10) → Prop) (x1 : Int64) (u0 : S_X10) (post : Int64 → S_X10 → Prop) : Prop := wp_X10_isOpen u0.2.2.2.2.2.2.2.2.2.2.1 (fun r_2 u_1 => (r_2 = 0 → (post x1 (u0.1, u0.2.1, u0.2.2.1, u0.2.2.2.1, u0.2.2.2.2.1, u0.2.2.2.2.2.1, u0.2.2.2.2.2.2.1, u0.2.2.2.2.2.2.2.1, u0.2.2.2.2.2.2.2.2.1, u0.2.2.2.2.2.2.2.2.2.1, u_1, u0.2.2.2.2.2.2.2.2.2.2.2.1, u0.2.2.2.2.2.2.2.2.2.2.2.2.1, u0.2.2.2.2.2.2.2.2.2.2.2.2.2.1, u0.2.2.2.2.2.2.2.2.2.2.2.2.2.2.1, u0.2.2.2.2.2.2.2.2.2.2.2.2.2.2.2.1, u0.2.2.2.2.2.2.2.2.2.2.2.2.2.2.2.2.1, u0.2.2.2.2.2.2.2.2.2.2.2.2.2.2.2.2.2.1, u0.2.2.2.2.2.2.2.2.2.2.2.2.2.2.2.2.2.2.1, u0.2.2.2.2.2.2.2.2.2.2.2.2.2.2.2.2.2.2.2.1, u0.2.2.2.2.2.2.2.2.2.2.2.2.2.2.2.2.2.2.2.2.1, u0.2.2.2.2.2.2.2.2.2.2.2.2.2.2.2.2.2.2.2.2.2))) ∧ (¬ (r_2 = 0) → (wp_X10_closeOne u_1 u0.2.2.2.2.2.2.2.2.2.2.2.2.1 (fun u_4 => vp_in ((u_4.1 1) - (1 : Int32)) 40 ∧ (∀ x_7 : Int64, x_7 = (x1 + (u_4.2 ((u_4.1 1) - (1 : Int32)).toNatClampNeg)) → (K2 (x_7, (u0.1, u0.2.1, u0.2.2.1, u0.2.2.2.1, u0.2.2.2.2.1, u0.2.2.2.2.2.1, u0.2.2.2.2.2.2.1, u0.2.2.2.2.2.2.2.1, u0.2.2.2.2.2.2.2.2.1, u0.2.2.2.2.2.2.2.2.2.1, u_4.1, u0.2.2.2.2.2.2.2.2.2.2.2.1, u_4.2, u0.2.2.2.2.2.2.2.2.2.2.2.2.2.1, u0.2.2.2.2.2.2.2.2.2.2.2.2.2.2.1, u0.2.2.2.2.2.2.2.2.2.2.2.2.2.2.2.1, u0.2.2.2.2.2.2.2.2.2.2.2.2.2.2.2.2.1, u0.2.2.2.2.2.2.2.2.2.2.2.2.2.2.2.2.2.1, u0.2.2.2.2.2.2.2.2.2.2.2.2.2.2.2.2.2.2.1, u0.2.2.2.2.2.2.2.2.2.2.2.2.2.2.2.2.2.2.2.1, u0.2.2.2.2.2.2.2.2.2.2.2.2.2.2.2.2.2.2.2.2.1, u0.2.2.2.2.2.2.2.2.2.2.2.2.2.2.2.2.2.2.2.2.2))))))))
def wp_X10_project (u0 : S_X10) (post : Int64 → S_X10 → Prop) : Prop := ∃ n, zl (fun K st => j_X10_project_2 K st.1 st.2 post) n ((0 : Int64), u0)
set_option maxHeartbeats 4000000 in
set_option maxRecDepth 100000 in
theorem t_X10_project_2 {p : Program} {l : Launch} {e : Env} {s : State} {m : MethodId} {args : Array Value} {below : List Frame} {meth : Method} {c : Code} {Z : zZ} {E : zE} {A : Nat → Prop} {q0 : Nat → Nat} (hZ0 : zSt Z) (C0 : zC p s m args meth c yX10_project cX10_project 3 (some .long)) (hA : ∀ q : Nat, s.heap.size ≤ q → A q) (hK : va_K (zD E) vwCl (zT E) s) (hZ : Z A s s.heap) (post : Int64 → S_X10 → Prop) : ∀ (n : Nat) (x1 : Int64) (u0 : S_X10) (H : Heap) (locs : List Loc) (ls : Array Slot), zl (fun K st => j_X10_project_2 K st.1 st.2 post) n (x1, u0) → va_P (zD E) vwCl (k_X10 E q0 u0) H → va_D A (k_X10 E q0 u0) → va_S A s.heap H locs → lv_has ls 3 [(0, .ref (q0 0)), (1, .long x1)] → W p l e r_X10_project s m args below meth c H locs 0 0 (MQ below (va_Ql post (zAt E A (fun u => k_X10 E q0 u)) A) args s 0 0 A) (F0 m 2 ls []) := by
  obtain ⟨hx, hb, hml, hr, hown, hts, hlocks, hin⟩ := id C0
  have hown : s.vm.findClass RX10 = some m.cls := hown
  intro n
  induction n with
  | zero => intro x1 u0 H locs ls hw; exact hw.elim
  | succ n hk_2 =>
    intro x1 u0 H locs ls hw hP hD hS hl
    have hw : j_X10_project_2 _ x1 u0 post := hw
    refine lv_aload_n hx hb dX10_project_2 rfl (lv_at hl 0 rfl) ?_
    refine va_get (D := zD E) (ci := 10) (v := .ref (q0 4)) (C := RX10) (T := TX10) (N := 24) hx hb hts uw_X10 hown hK hP 0 rfl rfl 10 (by decide) (hts _ wm_5_126) (fun _ h9 => h9) rfl dX10_project_3 ?_
    refine z_ki (z_rS (rest := []) hZ0 C0 hK hZ hA hP hD hS hl.1 (c_X10_isOpen l E Z hZ0 (fun k => q0 (k + 4)) H.size u0.2.2.2.2.2.2.2.2.2.2.1 _ hw) yv_X10_273 [4] rfl (by decide) ⟨Nat.le_of_ble_eq_true rfl, Nat.le_of_ble_eq_true rfl⟩ ⟨rfl, rfl⟩ rfl rfl (Nat.le_of_ble_eq_true rfl) ⟨Nat.le_of_ble_eq_true rfl, Nat.le_of_ble_eq_true rfl⟩ dX10_project_6) hP hD hS hA [4] [0, 1, 2, 3, 5, 6, 7, 8, 9] [0, 1, 2, 3, 9, 4, 5, 6, 7, 8] rfl (wr := [_, _, _, _, _, _, _, _, _]) rfl (by decide) (by decide) (fun u => k_X10 E q0 (u0.1, u0.2.1, u0.2.2.1, u0.2.2.2.1, u0.2.2.2.2.1, u0.2.2.2.2.2.1, u0.2.2.2.2.2.2.1, u0.2.2.2.2.2.2.2.1, u0.2.2.2.2.2.2.2.2.1, u0.2.2.2.2.2.2.2.2.2.1, u, u0.2.2.2.2.2.2.2.2.2.2.2.1, u0.2.2.2.2.2.2.2.2.2.2.2.2.1, u0.2.2.2.2.2.2.2.2.2.2.2.2.2.1, u0.2.2.2.2.2.2.2.2.2.2.2.2.2.2.1, u0.2.2.2.2.2.2.2.2.2.2.2.2.2.2.2.1, u0.2.2.2.2.2.2.2.2.2.2.2.2.2.2.2.2.1, u0.2.2.2.2.2.2.2.2.2.2.2.2.2.2.2.2.2.1, u0.2.2.2.2.2.2.2.2.2.2.2.2.2.2.2.2.2.2.1, u0.2.2.2.2.2.2.2.2.2.2.2.2.2.2.2.2.2.2.2.1, u0.2.2.2.2.2.2.2.2.2.2.2.2.2.2.2.2.2.2.2.2.1, u0.2.2.2.2.2.2.2.2.2.2.2.2.2.2.2.2.2.2.2.2.2)) (fun u => rfl) (by decide) (fun r_2 u_1 H locs hw hP hD hS => ?_)
    obtain ⟨hwt, hwf⟩ := hw
    refine lv_if_eq (tgt := 42) hx hb dX10_project_9 (by decide) (fun c_3 => ?_) (fun c_3 => ?_)
    · have hw := hwt c_3
      refine lv_lload_n hx hb dX10_project_42 rfl (lv_at hl 1 rfl) ?_
      exact z_lret (k := (fun u => k_X10 E q0 u)) (u0.1, u0.2.1, u0.2.2.1, u0.2.2.2.1, u0.2.2.2.2.1, u0.2.2.2.2.2.1, u0.2.2.2.2.2.2.1, u0.2.2.2.2.2.2.2.1, u0.2.2.2.2.2.2.2.2.1, u0.2.2.2.2.2.2.2.2.2.1, u_1, u0.2.2.2.2.2.2.2.2.2.2.2.1, u0.2.2.2.2.2.2.2.2.2.2.2.2.1, u0.2.2.2.2.2.2.2.2.2.2.2.2.2.1, u0.2.2.2.2.2.2.2.2.2.2.2.2.2.2.1, u0.2.2.2.2.2.2.2.2.2.2.2.2.2.2.2.1, u0.2.2.2.2.2.2.2.2.2.2.2.2.2.2.2.2.1, u0.2.2.2.2.2.2.2.2.2.2.2.2.2.2.2.2.2.1, u0.2.2.2.2.2.2.2.2.2.2.2.2.2.2.2.2.2.2.1, u0.2.2.2.2.2.2.2.2.2.2.2.2.2.2.2.2.2.2.2.1, u0.2.2.2.2.2.2.2.2.2.2.2.2.2.2.2.2.2.2.2.2.1, u0.2.2.2.2.2.2.2.2.2.2.2.2.2.2.2.2.2.2.2.2.2) C0 hP hD hS hw dX10_project_43
    · have hw := hwf c_3
      refine lv_aload_n hx hb dX10_project_12 rfl (lv_at hl 0 rfl) ?_
      refine va_get (D := zD E) (ci := 10) (v := .ref (q0 4)) (C := RX10) (T := TX10) (N := 24) hx hb hts uw_X10 hown hK hP 0 rfl rfl 10 (by decide) (hts _ wm_5_126) (fun _ h9 => h9) rfl dX10_project_13 ?_
      refine lv_aload_n hx hb dX10_project_16 rfl (lv_at hl 0 rfl) ?_
      refine va_get (D := zD E) (ci := 10) (v := .ref (q0 7)) (C := RX10) (T := TX10) (N := 24) hx hb hts uw_X10 hown hK hP 0 rfl rfl 13 (by decide) (hts _ wm_5_129) (fun _ h9 => h9) rfl dX10_project_17 ?_
      refine z_kv (z_rS (rest := []) hZ0 C0 hK hZ hA hP hD hS hl.1 (c_X10_closeOne l E Z hZ0 (fun k => q0 (k + 4)) (fun k => q0 (k + 7)) H.size u_1 u0.2.2.2.2.2.2.2.2.2.2.2.2.1 _ hw) yv_X10_277 [4, 6] rfl (by decide) ⟨Nat.le_of_ble_eq_true rfl, Nat.le_of_ble_eq_true rfl⟩ ⟨rfl, rfl⟩ rfl rfl (Nat.le_of_ble_eq_true rfl) ⟨Nat.le_of_ble_eq_true rfl, Nat.le_of_ble_eq_true rfl⟩ dX10_project_20) hP hD hS hA [4, 6] [0, 1, 2, 3, 5, 7, 8, 9] [0, 1, 2, 3, 8, 4, 9, 5, 6, 7] rfl (wr := [_, _, _, _, _, _, _, _]) rfl (by decide) (by decide) (fun u => k_X10 E q0 (u0.1, u0.2.1, u0.2.2.1, u0.2.2.2.1, u0.2.2.2.2.1, u0.2.2.2.2.2.1, u0.2.2.2.2.2.2.1, u0.2.2.2.2.2.2.2.1, u0.2.2.2.2.2.2.2.2.1, u0.2.2.2.2.2.2.2.2.2.1, u.1, u0.2.2.2.2.2.2.2.2.2.2.2.1, u.2, u0.2.2.2.2.2.2.2.2.2.2.2.2.2.1, u0.2.2.2.2.2.2.2.2.2.2.2.2.2.2.1, u0.2.2.2.2.2.2.2.2.2.2.2.2.2.2.2.1, u0.2.2.2.2.2.2.2.2.2.2.2.2.2.2.2.2.1, u0.2.2.2.2.2.2.2.2.2.2.2.2.2.2.2.2.2.1, u0.2.2.2.2.2.2.2.2.2.2.2.2.2.2.2.2.2.2.1, u0.2.2.2.2.2.2.2.2.2.2.2.2.2.2.2.2.2.2.2.1, u0.2.2.2.2.2.2.2.2.2.2.2.2.2.2.2.2.2.2.2.2.1, u0.2.2.2.2.2.2.2.2.2.2.2.2.2.2.2.2.2.2.2.2.2)) (fun u => rfl) (by decide) (fun u_4 H locs hw hP hD hS => ?_)
      refine lv_lload_n hx hb dX10_project_23 rfl (lv_at hl 1 rfl) ?_
      refine lv_aload_n hx hb dX10_project_24 rfl (lv_at hl 0 rfl) ?_
      refine va_get (D := zD E) (ci := 10) (v := .ref (q0 7)) (C := RX10) (T := TX10) (N := 24) hx hb hts uw_X10 hown hK hP 0 rfl rfl 13 (by decide) (hts _ wm_5_129) (fun _ h9 => h9) rfl dX10_project_25 ?_
      refine lv_aload_n hx hb dX10_project_28 rfl (lv_at hl 0 rfl) ?_
      refine va_get (D := zD E) (ci := 10) (v := .ref (q0 4)) (C := RX10) (T := TX10) (N := 24) hx hb hts uw_X10 hown hK hP 0 rfl rfl 10 (by decide) (hts _ wm_5_126) (fun _ h9 => h9) rfl dX10_project_29 ?_
      refine lv_iconst (v := 1) hx hb dX10_project_32 rfl ?_
      refine va_iald hx hb hK hP 4 0 rfl rfl (show ¬ ((1 : Int32) < 0 ∨ 1728 ≤ (1 : Int32).toNatClampNeg) by decide) dX10_project_33 ?_
      refine W.eq (g2 := F0 m 34 ls ([.int (u_4.1 1), .ref (q0 7), .long x1])) rfl ?_
      refine lv_iconst (v := 1) hx hb dX10_project_34 rfl ?_
      refine lv_isub hx hb dX10_project_35 ?_
      obtain ⟨h_6, hw⟩ := hw
      refine va_lald hx hb hK hP 6 1 rfl rfl h_6 dX10_project_36 ?_
      refine lv_ladd hx hb dX10_project_37 ?_
      refine lv_topl (fun x_7 ex_7 => ?_)
      have hw := hw x_7 ex_7
      refine lv_lstore_n (lv' := [(1, .long x_7), (0, .ref (q0 0))]) hx hb dX10_project_38 rfl hl (by decide) rfl (fun ls hl => ?_)
      refine lv_goto (tgt := 2) hx hb dX10_project_39 (by decide) ?_
      exact hk_2 x_7 (u0.1, u0.2.1, u0.2.2.1, u0.2.2.2.1, u0.2.2.2.2.1, u0.2.2.2.2.2.1, u0.2.2.2.2.2.2.1, u0.2.2.2.2.2.2.2.1, u0.2.2.2.2.2.2.2.2.1, u0.2.2.2.2.2.2.2.2.2.1, u_4.1, u0.2.2.2.2.2.2.2.2.2.2.2.1, u_4.2, u0.2.2.2.2.2.2.2.2.2.2.2.2.2.1, u0.2.2.2.2.2.2.2.2.2.2.2.2.2.2.1, u0.2.2.2.2.2.2.2.2.2.2.2.2.2.2.2.1, u0.2.2.2.2.2.2.2.2.2.2.2.2.2.2.2.2.1, u0.2.2.2.2.2.2.2.2.2.2.2.2.2.2.2.2.2.1, u0.2.2.2.2.2.2.2.2.2.2.2.2.2.2.2.2.2.2.1, u0.2.2.2.2.2.2.2.2.2.2.2.2.2.2.2.2.2.2.2.1, u0.2.2.2.2.2.2.2.2.2.2.2.2.2.2.2.2.2.2.2.2.1, u0.2.2.2.2.2.2.2.2.2.2.2.2.2.2.2.2.2.2.2.2.2) _ _ _ hw hP hD hS (lv_sub hl [1, 0] rfl)
set_option maxHeartbeats 4000000 in
set_option maxRecDepth 100000 in
theorem c_X10_project (l : Launch) (E : zE) (Z : zZ) (hZ0 : zSt Z) (q0 : Nat → Nat) (sz : Nat) (u0 : S_X10) (post : Int64 → S_X10 → Prop) (hw : wp_X10_project u0 post) : Met l yX10_project (zws yX10_project cX10_project 3 (some .long)) r_X10_project (va_Pc [.ref (q0 0)] (zPre Z E (k_X10 E q0 u0) sz)) (va_Ql post (zAt E (va_A (k_X10 E q0 u0) sz) (fun u => k_X10 E q0 u)) (va_A (k_X10 E q0 u0) sz)) 0 0 (va_A (k_X10 E q0 u0) sz) := by
  refine z_ofW (Qf := fun A => va_Ql post (zAt E A (fun u => k_X10 E q0 u)) A) (by decide) (Nat.le_of_ble_eq_true rfl) ?_
  intro p e s m args below meth c A ls C0 hA hK hZ hP hD hS hl
  obtain ⟨hx, hb, hml, hr, hown, hts, hlocks, hin⟩ := id C0
  have hown : s.vm.findClass RX10 = some m.cls := hown
  have hl : lv_has ls 3 [(0, .ref (q0 0))] := hl
  refine lv_lconst (v := 0) hx hb dX10_project_0 rfl ?_
  refine lv_lstore_n (lv' := [(1, .long (0 : Int64)), (0, .ref (q0 0))]) hx hb dX10_project_1 rfl hl (by decide) rfl (fun ls hl => ?_)
  obtain ⟨n9, hw⟩ := hw
  exact t_X10_project_2 (l := l) hZ0 C0 hA hK hZ post n9 (0 : Int64) u0 _ _ _ hw hP hD hS (lv_sub hl [1, 0] rfl)
abbrev r_X10_projected : Room := { frames := 4, cells := 0, slots := 0, locals := 96 }
def wp_X10_projected (u0 : S_X10) (post : Int64 → S_X10 → Prop) : Prop := wp_X10_copy u0.2.2.2.2.2.2.2.2.1 u0.2.2.2.2.2.2.2.2.2.2.1 (fun u_1 => wp_X10_project ((0 : Int32), u0.2.1, u0.2.2.1, u0.2.2.2.1, u0.2.2.2.2.1, u0.2.2.2.2.2.1, u0.2.2.2.2.2.2.1, u0.2.2.2.2.2.2.2.1, u_1.1, u0.2.2.2.2.2.2.2.2.2.1, u_1.2, u0.2.2.2.2.2.2.2.2.2.2.2.1, u0.2.2.2.2.2.2.2.2.2.2.2.2.1, u0.2.2.2.2.2.2.2.2.2.2.2.2.2.1, u0.2.2.2.2.2.2.2.2.2.2.2.2.2.2.1, u0.2.2.2.2.2.2.2.2.2.2.2.2.2.2.2.1, u0.2.2.2.2.2.2.2.2.2.2.2.2.2.2.2.2.1, u0.2.2.2.2.2.2.2.2.2.2.2.2.2.2.2.2.2.1, u0.2.2.2.2.2.2.2.2.2.2.2.2.2.2.2.2.2.2.1, u0.2.2.2.2.2.2.2.2.2.2.2.2.2.2.2.2.2.2.2.1, u0.2.2.2.2.2.2.2.2.2.2.2.2.2.2.2.2.2.2.2.2.1, u0.2.2.2.2.2.2.2.2.2.2.2.2.2.2.2.2.2.2.2.2.2) (fun r_4 u_3 => post r_4 u_3))
set_option maxHeartbeats 4000000 in
set_option maxRecDepth 100000 in
theorem c_X10_projected (l : Launch) (E : zE) (Z : zZ) (hZ0 : zSt Z) (q0 : Nat → Nat) (sz : Nat) (u0 : S_X10) (post : Int64 → S_X10 → Prop) (hw : wp_X10_projected u0 post) : Met l yX10_projected (zws yX10_projected cX10_projected 1 (some .long)) r_X10_projected (va_Pc [.ref (q0 0)] (zPre Z E (k_X10 E q0 u0) sz)) (va_Ql post (zAt E (va_A (k_X10 E q0 u0) sz) (fun u => k_X10 E q0 u)) (va_A (k_X10 E q0 u0) sz)) 0 0 (va_A (k_X10 E q0 u0) sz) := by
  refine z_ofW (Qf := fun A => va_Ql post (zAt E A (fun u => k_X10 E q0 u)) A) (by decide) (Nat.le_of_ble_eq_true rfl) ?_
  intro p e s m args below meth c A ls C0 hA hK hZ hP hD hS hl
  obtain ⟨hx, hb, hml, hr, hown, hts, hlocks, hin⟩ := id C0
  have hown : s.vm.findClass RX10 = some m.cls := hown
  have hl : lv_has ls 1 [(0, .ref (q0 0))] := hl
  refine lv_aload_n hx hb dX10_projected_0 rfl (lv_at hl 0 rfl) ?_
  refine lv_iconst (v := 0) hx hb dX10_projected_1 rfl ?_
  refine va_put (D := zD E) (ci := 10) (v := .int (0 : Int32)) (ty := .int) (C := RX10) (T := TX10) (N := 24) hx hb hts uw_X10 tyX10 tyX10_ok nmX10 hown hK hP hD hS 0 rfl rfl 0 (by decide) (hts _ wm_5_116) (fun _ h9 => h9) rfl (by decide +kernel) rfl rfl (Nat.le_of_ble_eq_true rfl) dX10_projected_2 (fun H locs hP hD hS => ?_)
  have hP : va_P (zD E) vwCl (k_X10 E q0 ((0 : Int32), u0.2.1, u0.2.2.1, u0.2.2.2.1, u0.2.2.2.2.1, u0.2.2.2.2.2.1, u0.2.2.2.2.2.2.1, u0.2.2.2.2.2.2.2.1, u0.2.2.2.2.2.2.2.2.1, u0.2.2.2.2.2.2.2.2.2.1, u0.2.2.2.2.2.2.2.2.2.2.1, u0.2.2.2.2.2.2.2.2.2.2.2.1, u0.2.2.2.2.2.2.2.2.2.2.2.2.1, u0.2.2.2.2.2.2.2.2.2.2.2.2.2.1, u0.2.2.2.2.2.2.2.2.2.2.2.2.2.2.1, u0.2.2.2.2.2.2.2.2.2.2.2.2.2.2.2.1, u0.2.2.2.2.2.2.2.2.2.2.2.2.2.2.2.2.1, u0.2.2.2.2.2.2.2.2.2.2.2.2.2.2.2.2.2.1, u0.2.2.2.2.2.2.2.2.2.2.2.2.2.2.2.2.2.2.1, u0.2.2.2.2.2.2.2.2.2.2.2.2.2.2.2.2.2.2.2.1, u0.2.2.2.2.2.2.2.2.2.2.2.2.2.2.2.2.2.2.2.2.1, u0.2.2.2.2.2.2.2.2.2.2.2.2.2.2.2.2.2.2.2.2.2)) H := hP
  have hD : va_D A (k_X10 E q0 ((0 : Int32), u0.2.1, u0.2.2.1, u0.2.2.2.1, u0.2.2.2.2.1, u0.2.2.2.2.2.1, u0.2.2.2.2.2.2.1, u0.2.2.2.2.2.2.2.1, u0.2.2.2.2.2.2.2.2.1, u0.2.2.2.2.2.2.2.2.2.1, u0.2.2.2.2.2.2.2.2.2.2.1, u0.2.2.2.2.2.2.2.2.2.2.2.1, u0.2.2.2.2.2.2.2.2.2.2.2.2.1, u0.2.2.2.2.2.2.2.2.2.2.2.2.2.1, u0.2.2.2.2.2.2.2.2.2.2.2.2.2.2.1, u0.2.2.2.2.2.2.2.2.2.2.2.2.2.2.2.1, u0.2.2.2.2.2.2.2.2.2.2.2.2.2.2.2.2.1, u0.2.2.2.2.2.2.2.2.2.2.2.2.2.2.2.2.2.1, u0.2.2.2.2.2.2.2.2.2.2.2.2.2.2.2.2.2.2.1, u0.2.2.2.2.2.2.2.2.2.2.2.2.2.2.2.2.2.2.2.1, u0.2.2.2.2.2.2.2.2.2.2.2.2.2.2.2.2.2.2.2.2.1, u0.2.2.2.2.2.2.2.2.2.2.2.2.2.2.2.2.2.2.2.2.2)) := hD
  refine lv_aload_n hx hb dX10_projected_5 rfl (lv_at hl 0 rfl) ?_
  refine va_get (D := zD E) (ci := 10) (v := .ref (q0 2)) (C := RX10) (T := TX10) (N := 24) hx hb hts uw_X10 hown hK hP 0 rfl rfl 8 (by decide) (hts _ wm_5_124) (fun _ h9 => h9) rfl dX10_projected_6 ?_
  refine lv_aload_n hx hb dX10_projected_9 rfl (lv_at hl 0 rfl) ?_
  refine va_get (D := zD E) (ci := 10) (v := .ref (q0 4)) (C := RX10) (T := TX10) (N := 24) hx hb hts uw_X10 hown hK hP 0 rfl rfl 10 (by decide) (hts _ wm_5_126) (fun _ h9 => h9) rfl dX10_projected_10 ?_
  refine z_kv (z_rS (rest := []) hZ0 C0 hK hZ hA hP hD hS hl.1 (c_X10_copy l E Z hZ0 (fun k => q0 (k + 2)) (fun k => q0 (k + 4)) H.size u0.2.2.2.2.2.2.2.2.1 u0.2.2.2.2.2.2.2.2.2.2.1 _ hw) yv_X10_192 [2, 4] rfl (by decide) ⟨Nat.le_of_ble_eq_true rfl, Nat.le_of_ble_eq_true rfl⟩ ⟨rfl, rfl⟩ rfl rfl (Nat.le_of_ble_eq_true rfl) ⟨Nat.le_of_ble_eq_true rfl, Nat.le_of_ble_eq_true rfl⟩ dX10_projected_13) hP hD hS hA [2, 4] [0, 1, 3, 5, 6, 7, 8, 9] [0, 1, 8, 2, 9, 3, 4, 5, 6, 7] rfl (wr := [_, _, _, _, _, _, _, _]) rfl (by decide) (by decide) (fun u => k_X10 E q0 ((0 : Int32), u0.2.1, u0.2.2.1, u0.2.2.2.1, u0.2.2.2.2.1, u0.2.2.2.2.2.1, u0.2.2.2.2.2.2.1, u0.2.2.2.2.2.2.2.1, u.1, u0.2.2.2.2.2.2.2.2.2.1, u.2, u0.2.2.2.2.2.2.2.2.2.2.2.1, u0.2.2.2.2.2.2.2.2.2.2.2.2.1, u0.2.2.2.2.2.2.2.2.2.2.2.2.2.1, u0.2.2.2.2.2.2.2.2.2.2.2.2.2.2.1, u0.2.2.2.2.2.2.2.2.2.2.2.2.2.2.2.1, u0.2.2.2.2.2.2.2.2.2.2.2.2.2.2.2.2.1, u0.2.2.2.2.2.2.2.2.2.2.2.2.2.2.2.2.2.1, u0.2.2.2.2.2.2.2.2.2.2.2.2.2.2.2.2.2.2.1, u0.2.2.2.2.2.2.2.2.2.2.2.2.2.2.2.2.2.2.2.1, u0.2.2.2.2.2.2.2.2.2.2.2.2.2.2.2.2.2.2.2.2.1, u0.2.2.2.2.2.2.2.2.2.2.2.2.2.2.2.2.2.2.2.2.2)) (fun u => rfl) (by decide) (fun u_1 H locs hw hP hD hS => ?_)
  refine lv_aload_n hx hb dX10_projected_16 rfl (lv_at hl 0 rfl) ?_
  refine z_kl (z_rV (rest := []) hZ0 C0 hK hZ hA hP hD hS hl.1 (c_X10_project l E Z hZ0 q0 H.size ((0 : Int32), u0.2.1, u0.2.2.1, u0.2.2.2.1, u0.2.2.2.2.1, u0.2.2.2.2.2.1, u0.2.2.2.2.2.2.1, u0.2.2.2.2.2.2.2.1, u_1.1, u0.2.2.2.2.2.2.2.2.2.1, u_1.2, u0.2.2.2.2.2.2.2.2.2.2.2.1, u0.2.2.2.2.2.2.2.2.2.2.2.2.1, u0.2.2.2.2.2.2.2.2.2.2.2.2.2.1, u0.2.2.2.2.2.2.2.2.2.2.2.2.2.2.1, u0.2.2.2.2.2.2.2.2.2.2.2.2.2.2.2.1, u0.2.2.2.2.2.2.2.2.2.2.2.2.2.2.2.2.1, u0.2.2.2.2.2.2.2.2.2.2.2.2.2.2.2.2.2.1, u0.2.2.2.2.2.2.2.2.2.2.2.2.2.2.2.2.2.2.1, u0.2.2.2.2.2.2.2.2.2.2.2.2.2.2.2.2.2.2.2.1, u0.2.2.2.2.2.2.2.2.2.2.2.2.2.2.2.2.2.2.2.2.1, u0.2.2.2.2.2.2.2.2.2.2.2.2.2.2.2.2.2.2.2.2.2) _ hw) yv_X10_281 [0, 1, 2, 3, 4, 5, 6, 7, 8, 9] rfl (by decide) (ci := 10) rfl rfl 0 rfl ⟨Nat.le_of_ble_eq_true rfl, Nat.le_of_ble_eq_true rfl⟩ ⟨rfl, rfl⟩ rfl rfl (Nat.le_of_ble_eq_true rfl) ⟨Nat.le_of_ble_eq_true rfl, Nat.le_of_ble_eq_true rfl⟩ dX10_projected_17) hP hD hS hA [0, 1, 2, 3, 4, 5, 6, 7, 8, 9] [] [0, 1, 2, 3, 4, 5, 6, 7, 8, 9] rfl (wr := []) rfl (by decide) (by decide) (fun u => k_X10 E q0 u) (fun u => rfl) (by decide) (fun r_4 u_3 H locs hw hP hD hS => ?_)
  exact z_lret (k := (fun u => k_X10 E q0 u)) u_3 C0 hP hD hS hw dX10_projected_20
abbrev r_X10_bestReserved : Room := { frames := 4, cells := 0, slots := 0, locals := 96 }
def j_X10_bestReserved_150 (K68 : (Int32 × Int32 × Int64 × Int32 × S_X10) → Prop) (x1 : Int32) (x2 : Int32) (x3 : Int64) (x5 : Int32) (u0 : S_X10) (post : Int32 → S_X10 → Prop) : Prop := ∀ x_24 : Int32, x_24 = x5 + 1 → (K68 (x1, x2, x3, x_24, u0))
def j_X10_bestReserved_144 (K68 : (Int32 × Int32 × Int64 × Int32 × S_X10) → Prop) (x1 : Int32) (x5 : Int32) (x6 : Int64) (u0 : S_X10) (post : Int32 → S_X10 → Prop) : Prop := j_X10_bestReserved_150 K68 x1 x5 x6 x5 u0 post
def j_X10_bestReserved_95 (K95 : (Int32 × Int32 × Int64 × Int32 × Int32 × S_X10) → Prop) (K68 : (Int32 × Int32 × Int64 × Int32 × S_X10) → Prop) (x1 : Int32) (x2 : Int32) (x3 : Int64) (x5 : Int32) (x6 : Int32) (u0 : S_X10) (post : Int32 → S_X10 → Prop) : Prop := ((u0.2.2.2.2.2.2.2.2.1 0) ≤ x6 → (wp_X10_project u0 (fun r_17 u_16 => (x2 < 0 → (j_X10_bestReserved_144 K68 x1 x5 r_17 u_16 post)) ∧ (¬ (x2 < 0) → (((lg_cmp r_17 x3) < 0 → (j_X10_bestReserved_144 K68 x1 x5 r_17 u_16 post)) ∧ (¬ ((lg_cmp r_17 x3) < 0) → (j_X10_bestReserved_150 K68 x1 x2 x3 x5 u_16 post))))))) ∧ (¬ ((u0.2.2.2.2.2.2.2.2.1 0) ≤ x6) → (wp_X10_period x6 (fun r_21 u_20 => vp_in r_21 1728 ∧ (∀ x_23 : Int32, x_23 = x6 + 1 → (K95 (x1, x2, x3, x5, x_23, (u0.1, u0.2.1, u0.2.2.1, u0.2.2.2.1, u0.2.2.2.2.1, u0.2.2.2.2.2.1, u0.2.2.2.2.2.2.1, u0.2.2.2.2.2.2.2.1, u0.2.2.2.2.2.2.2.2.1, u0.2.2.2.2.2.2.2.2.2.1, (upd u0.2.2.2.2.2.2.2.2.2.2.1 r_21.toNatClampNeg x5), u0.2.2.2.2.2.2.2.2.2.2.2.1, u0.2.2.2.2.2.2.2.2.2.2.2.2.1, u0.2.2.2.2.2.2.2.2.2.2.2.2.2.1, u0.2.2.2.2.2.2.2.2.2.2.2.2.2.2.1, u0.2.2.2.2.2.2.2.2.2.2.2.2.2.2.2.1, u0.2.2.2.2.2.2.2.2.2.2.2.2.2.2.2.2.1, u0.2.2.2.2.2.2.2.2.2.2.2.2.2.2.2.2.2.1, u0.2.2.2.2.2.2.2.2.2.2.2.2.2.2.2.2.2.2.1, u0.2.2.2.2.2.2.2.2.2.2.2.2.2.2.2.2.2.2.2.1, u0.2.2.2.2.2.2.2.2.2.2.2.2.2.2.2.2.2.2.2.2.1, u0.2.2.2.2.2.2.2.2.2.2.2.2.2.2.2.2.2.2.2.2.2)))))))
def j_X10_bestReserved_68 (K68 : (Int32 × Int32 × Int64 × Int32 × S_X10) → Prop) (x1 : Int32) (x2 : Int32) (x3 : Int64) (x5 : Int32) (u0 : S_X10) (post : Int32 → S_X10 → Prop) : Prop := (x1 < x5 → (post x2 u0)) ∧ (¬ (x1 < x5) → (wp_X10_copy u0.2.2.2.2.2.2.2.2.1 u0.2.2.2.2.2.2.2.2.2.2.1 (fun u_12 => ∀ x_14 : Int32, x_14 = ((u_12.1 1) + (1 : Int32)) → (∃ n, zl (fun K st => j_X10_bestReserved_95 K K68 st.1 st.2.1 st.2.2.1 st.2.2.2.1 st.2.2.2.2.1 st.2.2.2.2.2 post) n (x1, x2, x3, x5, x_14, (u0.1, u0.2.1, u0.2.2.1, u0.2.2.2.1, u0.2.2.2.2.1, u0.2.2.2.2.2.1, u0.2.2.2.2.2.2.1, u0.2.2.2.2.2.2.2.1, u_12.1, u0.2.2.2.2.2.2.2.2.2.1, u_12.2, u0.2.2.2.2.2.2.2.2.2.2.2.1, u0.2.2.2.2.2.2.2.2.2.2.2.2.1, u0.2.2.2.2.2.2.2.2.2.2.2.2.2.1, u0.2.2.2.2.2.2.2.2.2.2.2.2.2.2.1, u0.2.2.2.2.2.2.2.2.2.2.2.2.2.2.2.1, u0.2.2.2.2.2.2.2.2.2.2.2.2.2.2.2.2.1, u0.2.2.2.2.2.2.2.2.2.2.2.2.2.2.2.2.2.1, u0.2.2.2.2.2.2.2.2.2.2.2.2.2.2.2.2.2.2.1, u0.2.2.2.2.2.2.2.2.2.2.2.2.2.2.2.2.2.2.2.1, u0.2.2.2.2.2.2.2.2.2.2.2.2.2.2.2.2.2.2.2.2.1, u0.2.2.2.2.2.2.2.2.2.2.2.2.2.2.2.2.2.2.2.2.2))))))
def j_X10_bestReserved_52 (x1 : Int32) (y0 : Int32) (u0 : S_X10) (post : Int32 → S_X10 → Prop) : Prop := wp_X10_fails u0 y0 (2 : Int32) (fun r_9 u_8 => (r_9 = 0 → (∃ n, zl (fun K st => j_X10_bestReserved_68 K st.1 st.2.1 st.2.2.1 st.2.2.2.1 st.2.2.2.2 post) n (x1, (-1 : Int32), (0 : Int64), (0 : Int32), u_8))) ∧ (¬ (r_9 = 0) → (post (0 : Int32) u_8)))
def j_X10_bestReserved_22 (x1 : Int32) (y0 : Int32) (u0 : S_X10) (post : Int32 → S_X10 → Prop) : Prop := wp_X10_fails u0 y0 (1 : Int32) (fun r_5 u_4 => (¬ (r_5 = 0) → (post (0 : Int32) u_4)) ∧ (r_5 = 0 → ((((u_4.2.2.2.2.2.2.2.2.1 1) + (1 : Int32)) < (u_4.2.2.2.2.2.2.2.2.1 0) → (j_X10_bestReserved_52 x1 (0 : Int32) u_4 post)) ∧ (¬ (((u_4.2.2.2.2.2.2.2.2.1 1) + (1 : Int32)) < (u_4.2.2.2.2.2.2.2.2.1 0)) → (j_X10_bestReserved_52 x1 (1 : Int32) u_4 post)))))
def wp_X10_bestReserved (u0 : S_X10) (p1 : Int32) (post : Int32 → S_X10 → Prop) : Prop := wp_X10_in p1 (0 : Int32) (500 : Int32) (fun r_2 u_1 => (¬ (r_2 = 0) → (j_X10_bestReserved_22 p1 (0 : Int32) ((0 : Int32), u0.2.1, u0.2.2.1, u0.2.2.2.1, u0.2.2.2.2.1, u0.2.2.2.2.2.1, u0.2.2.2.2.2.2.1, u0.2.2.2.2.2.2.2.1, u0.2.2.2.2.2.2.2.2.1, u0.2.2.2.2.2.2.2.2.2.1, u0.2.2.2.2.2.2.2.2.2.2.1, u0.2.2.2.2.2.2.2.2.2.2.2.1, u0.2.2.2.2.2.2.2.2.2.2.2.2.1, u0.2.2.2.2.2.2.2.2.2.2.2.2.2.1, u0.2.2.2.2.2.2.2.2.2.2.2.2.2.2.1, u0.2.2.2.2.2.2.2.2.2.2.2.2.2.2.2.1, u0.2.2.2.2.2.2.2.2.2.2.2.2.2.2.2.2.1, u0.2.2.2.2.2.2.2.2.2.2.2.2.2.2.2.2.2.1, u0.2.2.2.2.2.2.2.2.2.2.2.2.2.2.2.2.2.2.1, u0.2.2.2.2.2.2.2.2.2.2.2.2.2.2.2.2.2.2.2.1, u0.2.2.2.2.2.2.2.2.2.2.2.2.2.2.2.2.2.2.2.2.1, u0.2.2.2.2.2.2.2.2.2.2.2.2.2.2.2.2.2.2.2.2.2) post)) ∧ (r_2 = 0 → (j_X10_bestReserved_22 p1 (1 : Int32) ((0 : Int32), u0.2.1, u0.2.2.1, u0.2.2.2.1, u0.2.2.2.2.1, u0.2.2.2.2.2.1, u0.2.2.2.2.2.2.1, u0.2.2.2.2.2.2.2.1, u0.2.2.2.2.2.2.2.2.1, u0.2.2.2.2.2.2.2.2.2.1, u0.2.2.2.2.2.2.2.2.2.2.1, u0.2.2.2.2.2.2.2.2.2.2.2.1, u0.2.2.2.2.2.2.2.2.2.2.2.2.1, u0.2.2.2.2.2.2.2.2.2.2.2.2.2.1, u0.2.2.2.2.2.2.2.2.2.2.2.2.2.2.1, u0.2.2.2.2.2.2.2.2.2.2.2.2.2.2.2.1, u0.2.2.2.2.2.2.2.2.2.2.2.2.2.2.2.2.1, u0.2.2.2.2.2.2.2.2.2.2.2.2.2.2.2.2.2.1, u0.2.2.2.2.2.2.2.2.2.2.2.2.2.2.2.2.2.2.1, u0.2.2.2.2.2.2.2.2.2.2.2.2.2.2.2.2.2.2.2.1, u0.2.2.2.2.2.2.2.2.2.2.2.2.2.2.2.2.2.2.2.2.1, u0.2.2.2.2.2.2.2.2.2.2.2.2.2.2.2.2.2.2.2.2.2) post)))
set_option maxHeartbeats 4000000 in
set_option maxRecDepth 100000 in
theorem t_X10_bestReserved_150 {p : Program} {l : Launch} {e : Env} {s : State} {m : MethodId} {args : Array Value} {below : List Frame} {meth : Method} {c : Code} {Z : zZ} {E : zE} {A : Nat → Prop} {q0 : Nat → Nat} (hZ0 : zSt Z) (C0 : zC p s m args meth c yX10_bestReserved cX10_bestReserved 8 (some .int)) (hA : ∀ q : Nat, s.heap.size ≤ q → A q) (hK : va_K (zD E) vwCl (zT E) s) (hZ : Z A s s.heap) (post : Int32 → S_X10 → Prop) {K68 : (Int32 × Int32 × Int64 × Int32 × S_X10) → Prop} (hk_68 : ∀ (x1 : Int32) (x2 : Int32) (x3 : Int64) (x5 : Int32) (u0 : S_X10) (H : Heap) (locs : List Loc) (ls : Array Slot), K68 (x1, x2, x3, x5, u0) → va_P (zD E) vwCl (k_X10 E q0 u0) H → va_D A (k_X10 E q0 u0) → va_S A s.heap H locs → lv_has ls 8 [(0, .ref (q0 0)), (1, .int x1), (2, .int x2), (3, .long x3), (5, .int x5)] → W p l e r_X10_bestReserved s m args below meth c H locs 0 0 (MQ below (va_Qi post (zAt E A (fun u => k_X10 E q0 u)) A) args s 0 0 A) (F0 m 68 ls [])) : ∀ (x1 : Int32) (x2 : Int32) (x3 : Int64) (x5 : Int32) (u0 : S_X10) (H : Heap) (locs : List Loc) (ls : Array Slot), j_X10_bestReserved_150 K68 x1 x2 x3 x5 u0 post → va_P (zD E) vwCl (k_X10 E q0 u0) H → va_D A (k_X10 E q0 u0) → va_S A s.heap H locs → lv_has ls 8 [(0, .ref (q0 0)), (1, .int x1), (2, .int x2), (3, .long x3), (5, .int x5)] → W p l e r_X10_bestReserved s m args below meth c H locs 0 0 (MQ below (va_Qi post (zAt E A (fun u => k_X10 E q0 u)) A) args s 0 0 A) (F0 m 150 ls []) := by
  obtain ⟨hx, hb, hml, hr, hown, hts, hlocks, hin⟩ := id C0
  have hown : s.vm.findClass RX10 = some m.cls := hown
  intro x1 x2 x3 x5 u0 H locs ls hw hP hD hS hl
  obtain ⟨x_24, ex_24⟩ : ∃ y : Int32, y = x5 + 1 := ⟨_, rfl⟩
  have hw := hw x_24 ex_24
  refine lv_iinc (v := x_24) (lv' := [(5, .int x_24), (0, .ref (q0 0)), (1, .int x1), (2, .int x2), (3, .long x3)]) hx hb dX10_bestReserved_150 hl (k := 4) rfl (by rw [ex_24]; rfl) (by decide) rfl (fun ls hl => ?_)
  refine lv_goto (tgt := 68) hx hb dX10_bestReserved_153 (by decide) ?_
  exact hk_68 x1 x2 x3 x_24 u0 _ _ _ hw hP hD hS (lv_sub hl [1, 2, 3, 4, 0] rfl)
set_option maxHeartbeats 4000000 in
set_option maxRecDepth 100000 in
theorem t_X10_bestReserved_144 {p : Program} {l : Launch} {e : Env} {s : State} {m : MethodId} {args : Array Value} {below : List Frame} {meth : Method} {c : Code} {Z : zZ} {E : zE} {A : Nat → Prop} {q0 : Nat → Nat} (hZ0 : zSt Z) (C0 : zC p s m args meth c yX10_bestReserved cX10_bestReserved 8 (some .int)) (hA : ∀ q : Nat, s.heap.size ≤ q → A q) (hK : va_K (zD E) vwCl (zT E) s) (hZ : Z A s s.heap) (post : Int32 → S_X10 → Prop) {K68 : (Int32 × Int32 × Int64 × Int32 × S_X10) → Prop} (hk_68 : ∀ (x1 : Int32) (x2 : Int32) (x3 : Int64) (x5 : Int32) (u0 : S_X10) (H : Heap) (locs : List Loc) (ls : Array Slot), K68 (x1, x2, x3, x5, u0) → va_P (zD E) vwCl (k_X10 E q0 u0) H → va_D A (k_X10 E q0 u0) → va_S A s.heap H locs → lv_has ls 8 [(0, .ref (q0 0)), (1, .int x1), (2, .int x2), (3, .long x3), (5, .int x5)] → W p l e r_X10_bestReserved s m args below meth c H locs 0 0 (MQ below (va_Qi post (zAt E A (fun u => k_X10 E q0 u)) A) args s 0 0 A) (F0 m 68 ls [])) : ∀ (x1 : Int32) (x5 : Int32) (x6 : Int64) (u0 : S_X10) (H : Heap) (locs : List Loc) (ls : Array Slot), j_X10_bestReserved_144 K68 x1 x5 x6 u0 post → va_P (zD E) vwCl (k_X10 E q0 u0) H → va_D A (k_X10 E q0 u0) → va_S A s.heap H locs → lv_has ls 8 [(0, .ref (q0 0)), (1, .int x1), (5, .int x5), (6, .long x6)] → W p l e r_X10_bestReserved s m args below meth c H locs 0 0 (MQ below (va_Qi post (zAt E A (fun u => k_X10 E q0 u)) A) args s 0 0 A) (F0 m 144 ls []) := by
  obtain ⟨hx, hb, hml, hr, hown, hts, hlocks, hin⟩ := id C0
  have hown : s.vm.findClass RX10 = some m.cls := hown
  intro x1 x5 x6 u0 H locs ls hw hP hD hS hl
  refine lv_iload hx hb dX10_bestReserved_144 (lv_at hl 2 rfl) ?_
  refine lv_istore_n (lv' := [(2, .int x5), (0, .ref (q0 0)), (1, .int x1), (5, .int x5), (6, .long x6)]) hx hb dX10_bestReserved_146 rfl hl (by decide) rfl (fun ls hl => ?_)
  refine lv_lload hx hb dX10_bestReserved_147 (lv_at hl 4 rfl) ?_
  refine lv_lstore_n (lv' := [(3, .long x6), (2, .int x5), (0, .ref (q0 0)), (1, .int x1), (5, .int x5), (6, .long x6)]) hx hb dX10_bestReserved_149 rfl hl (by decide) rfl (fun ls hl => ?_)
  exact t_X10_bestReserved_150 (l := l) hZ0 C0 hA hK hZ post hk_68 x1 x5 x6 x5 u0 _ _ _ hw hP hD hS (lv_sub hl [2, 3, 1, 0, 4] rfl)
set_option maxHeartbeats 4000000 in
set_option maxRecDepth 100000 in
theorem t_X10_bestReserved_95 {p : Program} {l : Launch} {e : Env} {s : State} {m : MethodId} {args : Array Value} {below : List Frame} {meth : Method} {c : Code} {Z : zZ} {E : zE} {A : Nat → Prop} {q0 : Nat → Nat} (hZ0 : zSt Z) (C0 : zC p s m args meth c yX10_bestReserved cX10_bestReserved 8 (some .int)) (hA : ∀ q : Nat, s.heap.size ≤ q → A q) (hK : va_K (zD E) vwCl (zT E) s) (hZ : Z A s s.heap) (post : Int32 → S_X10 → Prop) {K68 : (Int32 × Int32 × Int64 × Int32 × S_X10) → Prop} (hk_68 : ∀ (x1 : Int32) (x2 : Int32) (x3 : Int64) (x5 : Int32) (u0 : S_X10) (H : Heap) (locs : List Loc) (ls : Array Slot), K68 (x1, x2, x3, x5, u0) → va_P (zD E) vwCl (k_X10 E q0 u0) H → va_D A (k_X10 E q0 u0) → va_S A s.heap H locs → lv_has ls 8 [(0, .ref (q0 0)), (1, .int x1), (2, .int x2), (3, .long x3), (5, .int x5)] → W p l e r_X10_bestReserved s m args below meth c H locs 0 0 (MQ below (va_Qi post (zAt E A (fun u => k_X10 E q0 u)) A) args s 0 0 A) (F0 m 68 ls [])) : ∀ (n : Nat) (x1 : Int32) (x2 : Int32) (x3 : Int64) (x5 : Int32) (x6 : Int32) (u0 : S_X10) (H : Heap) (locs : List Loc) (ls : Array Slot), zl (fun K st => j_X10_bestReserved_95 K K68 st.1 st.2.1 st.2.2.1 st.2.2.2.1 st.2.2.2.2.1 st.2.2.2.2.2 post) n (x1, x2, x3, x5, x6, u0) → va_P (zD E) vwCl (k_X10 E q0 u0) H → va_D A (k_X10 E q0 u0) → va_S A s.heap H locs → lv_has ls 8 [(0, .ref (q0 0)), (1, .int x1), (2, .int x2), (3, .long x3), (5, .int x5), (6, .int x6)] → W p l e r_X10_bestReserved s m args below meth c H locs 0 0 (MQ below (va_Qi post (zAt E A (fun u => k_X10 E q0 u)) A) args s 0 0 A) (F0 m 95 ls []) := by
  obtain ⟨hx, hb, hml, hr, hown, hts, hlocks, hin⟩ := id C0
  have hown : s.vm.findClass RX10 = some m.cls := hown
  intro n
  induction n with
  | zero => intro x1 x2 x3 x5 x6 u0 H locs ls hw; exact hw.elim
  | succ n hk_95 =>
    intro x1 x2 x3 x5 x6 u0 H locs ls hw hP hD hS hl
    have hw : j_X10_bestReserved_95 _ K68 x1 x2 x3 x5 x6 u0 post := hw
    refine lv_iload hx hb dX10_bestReserved_95 (lv_at hl 5 rfl) ?_
    refine lv_aload_n hx hb dX10_bestReserved_97 rfl (lv_at hl 0 rfl) ?_
    refine va_get (D := zD E) (ci := 10) (v := .ref (q0 2)) (C := RX10) (T := TX10) (N := 24) hx hb hts uw_X10 hown hK hP 0 rfl rfl 8 (by decide) (hts _ wm_5_124) (fun _ h9 => h9) rfl dX10_bestReserved_98 ?_
    refine lv_iconst (v := 0) hx hb dX10_bestReserved_101 rfl ?_
    refine va_iald hx hb hK hP 2 0 rfl rfl (show ¬ ((0 : Int32) < 0 ∨ 1728 ≤ (0 : Int32).toNatClampNeg) by decide) dX10_bestReserved_102 ?_
    refine W.eq (g2 := F0 m 103 ls ([.int (u0.2.2.2.2.2.2.2.2.1 0), .int x6])) rfl ?_
    obtain ⟨hwt, hwf⟩ := hw
    refine lv_icmp_ge (tgt := 124) hx hb dX10_bestReserved_103 (by decide) (fun c_15 => ?_) (fun c_15 => ?_)
    · have hw := hwt c_15
      refine lv_aload_n hx hb dX10_bestReserved_124 rfl (lv_at hl 0 rfl) ?_
      refine z_kl (z_rV (rest := []) hZ0 C0 hK hZ hA hP hD hS hl.1 (c_X10_project l E Z hZ0 q0 H.size u0 _ hw) yv_X10_281 [0, 1, 2, 3, 4, 5, 6, 7, 8, 9] rfl (by decide) (ci := 10) rfl rfl 0 rfl ⟨Nat.le_of_ble_eq_true rfl, Nat.le_of_ble_eq_true rfl⟩ ⟨rfl, rfl⟩ rfl rfl (Nat.le_of_ble_eq_true rfl) ⟨Nat.le_of_ble_eq_true rfl, Nat.le_of_ble_eq_true rfl⟩ dX10_bestReserved_125) hP hD hS hA [0, 1, 2, 3, 4, 5, 6, 7, 8, 9] [] [0, 1, 2, 3, 4, 5, 6, 7, 8, 9] rfl (wr := []) rfl (by decide) (by decide) (fun u => k_X10 E q0 u) (fun u => rfl) (by decide) (fun r_17 u_16 H locs hw hP hD hS => ?_)
      refine lv_lstore (lv' := [(6, .long r_17), (0, .ref (q0 0)), (1, .int x1), (2, .int x2), (3, .long x3), (5, .int x5)]) hx hb dX10_bestReserved_128 hl (by decide) rfl (fun ls hl => ?_)
      refine lv_iload_n hx hb dX10_bestReserved_130 rfl (lv_at hl 3 rfl) ?_
      obtain ⟨hwt, hwf⟩ := hw
      refine lv_if_lt (tgt := 144) hx hb dX10_bestReserved_131 (by decide) (fun c_18 => ?_) (fun c_18 => ?_)
      · have hw := hwt c_18
        exact t_X10_bestReserved_144 (l := l) hZ0 C0 hA hK hZ post hk_68 x1 x5 r_17 u_16 _ _ _ hw hP hD hS (lv_sub hl [1, 2, 5, 0] rfl)
      · have hw := hwf c_18
        refine lv_lload hx hb dX10_bestReserved_134 (lv_at hl 0 rfl) ?_
        refine lv_lload_n hx hb dX10_bestReserved_136 rfl (lv_at hl 4 rfl) ?_
        refine W.lcmp hx hb dX10_bestReserved_137 ?_
        obtain ⟨hwt, hwf⟩ := hw
        refine lv_if_lt (tgt := 144) hx hb dX10_bestReserved_138 (by decide) (fun c_19 => ?_) (fun c_19 => ?_)
        · have hw := hwt c_19
          exact t_X10_bestReserved_144 (l := l) hZ0 C0 hA hK hZ post hk_68 x1 x5 r_17 u_16 _ _ _ hw hP hD hS (lv_sub hl [1, 2, 5, 0] rfl)
        · have hw := hwf c_19
          refine lv_goto (tgt := 150) hx hb dX10_bestReserved_141 (by decide) ?_
          exact t_X10_bestReserved_150 (l := l) hZ0 C0 hA hK hZ post hk_68 x1 x2 x3 x5 u_16 _ _ _ hw hP hD hS (lv_sub hl [1, 2, 3, 4, 5] rfl)
    · have hw := hwf c_15
      refine lv_aload_n hx hb dX10_bestReserved_106 rfl (lv_at hl 0 rfl) ?_
      refine va_get (D := zD E) (ci := 10) (v := .ref (q0 4)) (C := RX10) (T := TX10) (N := 24) hx hb hts uw_X10 hown hK hP 0 rfl rfl 10 (by decide) (hts _ wm_5_126) (fun _ h9 => h9) rfl dX10_bestReserved_107 ?_
      refine lv_iload hx hb dX10_bestReserved_110 (lv_at hl 5 rfl) ?_
      refine z_ki (z_rS (rest := [.ref (q0 4)]) hZ0 C0 hK hZ hA hP hD hS hl.1 (c_X10_period l E Z hZ0 H.size x6 _ hw) yv_X10_148 [] rfl (by decide) ⟨Nat.le_of_ble_eq_true rfl, Nat.le_of_ble_eq_true rfl⟩ ⟨rfl, rfl⟩ rfl rfl (Nat.le_of_ble_eq_true rfl) ⟨Nat.le_of_ble_eq_true rfl, Nat.le_of_ble_eq_true rfl⟩ dX10_bestReserved_112) hP hD hS hA [] [0, 1, 2, 3, 4, 5, 6, 7, 8, 9] [0, 1, 2, 3, 4, 5, 6, 7, 8, 9] rfl (wr := [_, _, _, _, _, _, _, _, _, _]) rfl (by decide) (by decide) (fun u => k_X10 E q0 u0) (fun u => rfl) (by decide) (fun r_21 u_20 H locs hw hP hD hS => ?_)
      refine lv_iload hx hb dX10_bestReserved_115 (lv_at hl 4 rfl) ?_
      obtain ⟨h_22, hw⟩ := hw
      refine va_iast hx hb hK hP hD hS 4 0 rfl rfl h_22 dX10_bestReserved_117 (fun H locs hP hD hS => ?_)
      have hP : va_P (zD E) vwCl (k_X10 E q0 (u0.1, u0.2.1, u0.2.2.1, u0.2.2.2.1, u0.2.2.2.2.1, u0.2.2.2.2.2.1, u0.2.2.2.2.2.2.1, u0.2.2.2.2.2.2.2.1, u0.2.2.2.2.2.2.2.2.1, u0.2.2.2.2.2.2.2.2.2.1, (upd u0.2.2.2.2.2.2.2.2.2.2.1 r_21.toNatClampNeg x5), u0.2.2.2.2.2.2.2.2.2.2.2.1, u0.2.2.2.2.2.2.2.2.2.2.2.2.1, u0.2.2.2.2.2.2.2.2.2.2.2.2.2.1, u0.2.2.2.2.2.2.2.2.2.2.2.2.2.2.1, u0.2.2.2.2.2.2.2.2.2.2.2.2.2.2.2.1, u0.2.2.2.2.2.2.2.2.2.2.2.2.2.2.2.2.1, u0.2.2.2.2.2.2.2.2.2.2.2.2.2.2.2.2.2.1, u0.2.2.2.2.2.2.2.2.2.2.2.2.2.2.2.2.2.2.1, u0.2.2.2.2.2.2.2.2.2.2.2.2.2.2.2.2.2.2.2.1, u0.2.2.2.2.2.2.2.2.2.2.2.2.2.2.2.2.2.2.2.2.1, u0.2.2.2.2.2.2.2.2.2.2.2.2.2.2.2.2.2.2.2.2.2)) H := hP
      have hD : va_D A (k_X10 E q0 (u0.1, u0.2.1, u0.2.2.1, u0.2.2.2.1, u0.2.2.2.2.1, u0.2.2.2.2.2.1, u0.2.2.2.2.2.2.1, u0.2.2.2.2.2.2.2.1, u0.2.2.2.2.2.2.2.2.1, u0.2.2.2.2.2.2.2.2.2.1, (upd u0.2.2.2.2.2.2.2.2.2.2.1 r_21.toNatClampNeg x5), u0.2.2.2.2.2.2.2.2.2.2.2.1, u0.2.2.2.2.2.2.2.2.2.2.2.2.1, u0.2.2.2.2.2.2.2.2.2.2.2.2.2.1, u0.2.2.2.2.2.2.2.2.2.2.2.2.2.2.1, u0.2.2.2.2.2.2.2.2.2.2.2.2.2.2.2.1, u0.2.2.2.2.2.2.2.2.2.2.2.2.2.2.2.2.1, u0.2.2.2.2.2.2.2.2.2.2.2.2.2.2.2.2.2.1, u0.2.2.2.2.2.2.2.2.2.2.2.2.2.2.2.2.2.2.1, u0.2.2.2.2.2.2.2.2.2.2.2.2.2.2.2.2.2.2.2.1, u0.2.2.2.2.2.2.2.2.2.2.2.2.2.2.2.2.2.2.2.2.1, u0.2.2.2.2.2.2.2.2.2.2.2.2.2.2.2.2.2.2.2.2.2)) := hD
      obtain ⟨x_23, ex_23⟩ : ∃ y : Int32, y = x6 + 1 := ⟨_, rfl⟩
      have hw := hw x_23 ex_23
      refine lv_iinc (v := x_23) (lv' := [(6, .int x_23), (0, .ref (q0 0)), (1, .int x1), (2, .int x2), (3, .long x3), (5, .int x5)]) hx hb dX10_bestReserved_118 hl (k := 5) rfl (by rw [ex_23]; rfl) (by decide) rfl (fun ls hl => ?_)
      refine lv_goto (tgt := 95) hx hb dX10_bestReserved_121 (by decide) ?_
      exact hk_95 x1 x2 x3 x5 x_23 (u0.1, u0.2.1, u0.2.2.1, u0.2.2.2.1, u0.2.2.2.2.1, u0.2.2.2.2.2.1, u0.2.2.2.2.2.2.1, u0.2.2.2.2.2.2.2.1, u0.2.2.2.2.2.2.2.2.1, u0.2.2.2.2.2.2.2.2.2.1, (upd u0.2.2.2.2.2.2.2.2.2.2.1 r_21.toNatClampNeg x5), u0.2.2.2.2.2.2.2.2.2.2.2.1, u0.2.2.2.2.2.2.2.2.2.2.2.2.1, u0.2.2.2.2.2.2.2.2.2.2.2.2.2.1, u0.2.2.2.2.2.2.2.2.2.2.2.2.2.2.1, u0.2.2.2.2.2.2.2.2.2.2.2.2.2.2.2.1, u0.2.2.2.2.2.2.2.2.2.2.2.2.2.2.2.2.1, u0.2.2.2.2.2.2.2.2.2.2.2.2.2.2.2.2.2.1, u0.2.2.2.2.2.2.2.2.2.2.2.2.2.2.2.2.2.2.1, u0.2.2.2.2.2.2.2.2.2.2.2.2.2.2.2.2.2.2.2.1, u0.2.2.2.2.2.2.2.2.2.2.2.2.2.2.2.2.2.2.2.2.1, u0.2.2.2.2.2.2.2.2.2.2.2.2.2.2.2.2.2.2.2.2.2) _ _ _ hw hP hD hS (lv_sub hl [1, 2, 3, 4, 5, 0] rfl)
set_option maxHeartbeats 4000000 in
set_option maxRecDepth 100000 in
theorem t_X10_bestReserved_68 {p : Program} {l : Launch} {e : Env} {s : State} {m : MethodId} {args : Array Value} {below : List Frame} {meth : Method} {c : Code} {Z : zZ} {E : zE} {A : Nat → Prop} {q0 : Nat → Nat} (hZ0 : zSt Z) (C0 : zC p s m args meth c yX10_bestReserved cX10_bestReserved 8 (some .int)) (hA : ∀ q : Nat, s.heap.size ≤ q → A q) (hK : va_K (zD E) vwCl (zT E) s) (hZ : Z A s s.heap) (post : Int32 → S_X10 → Prop) : ∀ (n : Nat) (x1 : Int32) (x2 : Int32) (x3 : Int64) (x5 : Int32) (u0 : S_X10) (H : Heap) (locs : List Loc) (ls : Array Slot), zl (fun K st => j_X10_bestReserved_68 K st.1 st.2.1 st.2.2.1 st.2.2.2.1 st.2.2.2.2 post) n (x1, x2, x3, x5, u0) → va_P (zD E) vwCl (k_X10 E q0 u0) H → va_D A (k_X10 E q0 u0) → va_S A s.heap H locs → lv_has ls 8 [(0, .ref (q0 0)), (1, .int x1), (2, .int x2), (3, .long x3), (5, .int x5)] → W p l e r_X10_bestReserved s m args below meth c H locs 0 0 (MQ below (va_Qi post (zAt E A (fun u => k_X10 E q0 u)) A) args s 0 0 A) (F0 m 68 ls []) := by
  obtain ⟨hx, hb, hml, hr, hown, hts, hlocks, hin⟩ := id C0
  have hown : s.vm.findClass RX10 = some m.cls := hown
  intro n
  induction n with
  | zero => intro x1 x2 x3 x5 u0 H locs ls hw; exact hw.elim
  | succ n hk_68 =>
    intro x1 x2 x3 x5 u0 H locs ls hw hP hD hS hl
    have hw : j_X10_bestReserved_68 _ x1 x2 x3 x5 u0 post := hw
    refine lv_iload hx hb dX10_bestReserved_68 (lv_at hl 4 rfl) ?_
    refine lv_iload_n hx hb dX10_bestReserved_70 rfl (lv_at hl 1 rfl) ?_
    obtain ⟨hwt, hwf⟩ := hw
    refine lv_icmp_gt (tgt := 156) hx hb dX10_bestReserved_71 (by decide) (fun c_11 => ?_) (fun c_11 => ?_)
    · have hw := hwt c_11
      refine lv_iload_n hx hb dX10_bestReserved_156 rfl (lv_at hl 2 rfl) ?_
      exact z_iret (k := (fun u => k_X10 E q0 u)) u0 C0 hP hD hS hw dX10_bestReserved_157
    · have hw := hwf c_11
      refine lv_aload_n hx hb dX10_bestReserved_74 rfl (lv_at hl 0 rfl) ?_
      refine va_get (D := zD E) (ci := 10) (v := .ref (q0 2)) (C := RX10) (T := TX10) (N := 24) hx hb hts uw_X10 hown hK hP 0 rfl rfl 8 (by decide) (hts _ wm_5_124) (fun _ h9 => h9) rfl dX10_bestReserved_75 ?_
      refine lv_aload_n hx hb dX10_bestReserved_78 rfl (lv_at hl 0 rfl) ?_
      refine va_get (D := zD E) (ci := 10) (v := .ref (q0 4)) (C := RX10) (T := TX10) (N := 24) hx hb hts uw_X10 hown hK hP 0 rfl rfl 10 (by decide) (hts _ wm_5_126) (fun _ h9 => h9) rfl dX10_bestReserved_79 ?_
      refine z_kv (z_rS (rest := []) hZ0 C0 hK hZ hA hP hD hS hl.1 (c_X10_copy l E Z hZ0 (fun k => q0 (k + 2)) (fun k => q0 (k + 4)) H.size u0.2.2.2.2.2.2.2.2.1 u0.2.2.2.2.2.2.2.2.2.2.1 _ hw) yv_X10_192 [2, 4] rfl (by decide) ⟨Nat.le_of_ble_eq_true rfl, Nat.le_of_ble_eq_true rfl⟩ ⟨rfl, rfl⟩ rfl rfl (Nat.le_of_ble_eq_true rfl) ⟨Nat.le_of_ble_eq_true rfl, Nat.le_of_ble_eq_true rfl⟩ dX10_bestReserved_82) hP hD hS hA [2, 4] [0, 1, 3, 5, 6, 7, 8, 9] [0, 1, 8, 2, 9, 3, 4, 5, 6, 7] rfl (wr := [_, _, _, _, _, _, _, _]) rfl (by decide) (by decide) (fun u => k_X10 E q0 (u0.1, u0.2.1, u0.2.2.1, u0.2.2.2.1, u0.2.2.2.2.1, u0.2.2.2.2.2.1, u0.2.2.2.2.2.2.1, u0.2.2.2.2.2.2.2.1, u.1, u0.2.2.2.2.2.2.2.2.2.1, u.2, u0.2.2.2.2.2.2.2.2.2.2.2.1, u0.2.2.2.2.2.2.2.2.2.2.2.2.1, u0.2.2.2.2.2.2.2.2.2.2.2.2.2.1, u0.2.2.2.2.2.2.2.2.2.2.2.2.2.2.1, u0.2.2.2.2.2.2.2.2.2.2.2.2.2.2.2.1, u0.2.2.2.2.2.2.2.2.2.2.2.2.2.2.2.2.1, u0.2.2.2.2.2.2.2.2.2.2.2.2.2.2.2.2.2.1, u0.2.2.2.2.2.2.2.2.2.2.2.2.2.2.2.2.2.2.1, u0.2.2.2.2.2.2.2.2.2.2.2.2.2.2.2.2.2.2.2.1, u0.2.2.2.2.2.2.2.2.2.2.2.2.2.2.2.2.2.2.2.2.1, u0.2.2.2.2.2.2.2.2.2.2.2.2.2.2.2.2.2.2.2.2.2)) (fun u => rfl) (by decide) (fun u_12 H locs hw hP hD hS => ?_)
      refine lv_aload_n hx hb dX10_bestReserved_85 rfl (lv_at hl 0 rfl) ?_
      refine va_get (D := zD E) (ci := 10) (v := .ref (q0 2)) (C := RX10) (T := TX10) (N := 24) hx hb hts uw_X10 hown hK hP 0 rfl rfl 8 (by decide) (hts _ wm_5_124) (fun _ h9 => h9) rfl dX10_bestReserved_86 ?_
      refine lv_iconst (v := 1) hx hb dX10_bestReserved_89 rfl ?_
      refine va_iald hx hb hK hP 2 0 rfl rfl (show ¬ ((1 : Int32) < 0 ∨ 1728 ≤ (1 : Int32).toNatClampNeg) by decide) dX10_bestReserved_90 ?_
      refine W.eq (g2 := F0 m 91 ls ([.int (u_12.1 1)])) rfl ?_
      refine lv_iconst (v := 1) hx hb dX10_bestReserved_91 rfl ?_
      refine lv_iadd hx hb dX10_bestReserved_92 ?_
      refine lv_topi (fun x_14 ex_14 => ?_)
      have hw := hw x_14 ex_14
      refine lv_istore (lv' := [(6, .int x_14), (0, .ref (q0 0)), (1, .int x1), (2, .int x2), (3, .long x3), (5, .int x5)]) hx hb dX10_bestReserved_93 hl (by decide) rfl (fun ls hl => ?_)
      obtain ⟨n9, hw⟩ := hw
      exact t_X10_bestReserved_95 (l := l) hZ0 C0 hA hK hZ post hk_68 n9 x1 x2 x3 x5 x_14 (u0.1, u0.2.1, u0.2.2.1, u0.2.2.2.1, u0.2.2.2.2.1, u0.2.2.2.2.2.1, u0.2.2.2.2.2.2.1, u0.2.2.2.2.2.2.2.1, u_12.1, u0.2.2.2.2.2.2.2.2.2.1, u_12.2, u0.2.2.2.2.2.2.2.2.2.2.2.1, u0.2.2.2.2.2.2.2.2.2.2.2.2.1, u0.2.2.2.2.2.2.2.2.2.2.2.2.2.1, u0.2.2.2.2.2.2.2.2.2.2.2.2.2.2.1, u0.2.2.2.2.2.2.2.2.2.2.2.2.2.2.2.1, u0.2.2.2.2.2.2.2.2.2.2.2.2.2.2.2.2.1, u0.2.2.2.2.2.2.2.2.2.2.2.2.2.2.2.2.2.1, u0.2.2.2.2.2.2.2.2.2.2.2.2.2.2.2.2.2.2.1, u0.2.2.2.2.2.2.2.2.2.2.2.2.2.2.2.2.2.2.2.1, u0.2.2.2.2.2.2.2.2.2.2.2.2.2.2.2.2.2.2.2.2.1, u0.2.2.2.2.2.2.2.2.2.2.2.2.2.2.2.2.2.2.2.2.2) _ _ _ hw hP hD hS (lv_sub hl [1, 2, 3, 4, 5, 0] rfl)
set_option maxHeartbeats 4000000 in
set_option maxRecDepth 100000 in
theorem t_X10_bestReserved_52 {p : Program} {l : Launch} {e : Env} {s : State} {m : MethodId} {args : Array Value} {below : List Frame} {meth : Method} {c : Code} {Z : zZ} {E : zE} {A : Nat → Prop} {q0 : Nat → Nat} (hZ0 : zSt Z) (C0 : zC p s m args meth c yX10_bestReserved cX10_bestReserved 8 (some .int)) (hA : ∀ q : Nat, s.heap.size ≤ q → A q) (hK : va_K (zD E) vwCl (zT E) s) (hZ : Z A s s.heap) (post : Int32 → S_X10 → Prop) : ∀ (x1 : Int32) (y0 : Int32) (u0 : S_X10) (H : Heap) (locs : List Loc) (ls : Array Slot), j_X10_bestReserved_52 x1 y0 u0 post → va_P (zD E) vwCl (k_X10 E q0 u0) H → va_D A (k_X10 E q0 u0) → va_S A s.heap H locs → lv_has ls 8 [(0, .ref (q0 0)), (1, .int x1)] → W p l e r_X10_bestReserved s m args below meth c H locs 0 0 (MQ below (va_Qi post (zAt E A (fun u => k_X10 E q0 u)) A) args s 0 0 A) (F0 m 52 ls [.int y0, .ref (q0 0)]) := by
  obtain ⟨hx, hb, hml, hr, hown, hts, hlocks, hin⟩ := id C0
  have hown : s.vm.findClass RX10 = some m.cls := hown
  intro x1 y0 u0 H locs ls hw hP hD hS hl
  refine lv_iconst (v := 2) hx hb dX10_bestReserved_52 rfl ?_
  refine z_ki (z_rV (rest := []) hZ0 C0 hK hZ hA hP hD hS hl.1 (c_X10_fails l E Z hZ0 q0 H.size u0 y0 (2 : Int32) _ hw) yv_X10_177 [0, 1, 2, 3, 4, 5, 6, 7, 8, 9] rfl (by decide) (ci := 10) rfl rfl 0 rfl ⟨Nat.le_of_ble_eq_true rfl, Nat.le_of_ble_eq_true rfl⟩ ⟨rfl, rfl⟩ rfl rfl (Nat.le_of_ble_eq_true rfl) ⟨Nat.le_of_ble_eq_true rfl, Nat.le_of_ble_eq_true rfl⟩ dX10_bestReserved_53) hP hD hS hA [0, 1, 2, 3, 4, 5, 6, 7, 8, 9] [] [0, 1, 2, 3, 4, 5, 6, 7, 8, 9] rfl (wr := []) rfl (by decide) (by decide) (fun u => k_X10 E q0 u) (fun u => rfl) (by decide) (fun r_9 u_8 H locs hw hP hD hS => ?_)
  obtain ⟨hwt, hwf⟩ := hw
  refine lv_if_eq (tgt := 61) hx hb dX10_bestReserved_56 (by decide) (fun c_10 => ?_) (fun c_10 => ?_)
  · have hw := hwt c_10
    refine lv_iconst (v := (-1)) hx hb dX10_bestReserved_61 rfl ?_
    refine lv_istore_n (lv' := [(2, .int (-1 : Int32)), (0, .ref (q0 0)), (1, .int x1)]) hx hb dX10_bestReserved_62 rfl hl (by decide) rfl (fun ls hl => ?_)
    refine lv_lconst (v := 0) hx hb dX10_bestReserved_63 rfl ?_
    refine lv_lstore_n (lv' := [(3, .long (0 : Int64)), (2, .int (-1 : Int32)), (0, .ref (q0 0)), (1, .int x1)]) hx hb dX10_bestReserved_64 rfl hl (by decide) rfl (fun ls hl => ?_)
    refine lv_iconst (v := 0) hx hb dX10_bestReserved_65 rfl ?_
    refine lv_istore (lv' := [(5, .int (0 : Int32)), (3, .long (0 : Int64)), (2, .int (-1 : Int32)), (0, .ref (q0 0)), (1, .int x1)]) hx hb dX10_bestReserved_66 hl (by decide) rfl (fun ls hl => ?_)
    obtain ⟨n9, hw⟩ := hw
    exact t_X10_bestReserved_68 (l := l) hZ0 C0 hA hK hZ post n9 x1 (-1 : Int32) (0 : Int64) (0 : Int32) u_8 _ _ _ hw hP hD hS (lv_sub hl [3, 4, 2, 1, 0] rfl)
  · have hw := hwf c_10
    refine lv_iconst (v := 0) hx hb dX10_bestReserved_59 rfl ?_
    exact z_iret (k := (fun u => k_X10 E q0 u)) u_8 C0 hP hD hS hw dX10_bestReserved_60
set_option maxHeartbeats 4000000 in
set_option maxRecDepth 100000 in
theorem t_X10_bestReserved_22 {p : Program} {l : Launch} {e : Env} {s : State} {m : MethodId} {args : Array Value} {below : List Frame} {meth : Method} {c : Code} {Z : zZ} {E : zE} {A : Nat → Prop} {q0 : Nat → Nat} (hZ0 : zSt Z) (C0 : zC p s m args meth c yX10_bestReserved cX10_bestReserved 8 (some .int)) (hA : ∀ q : Nat, s.heap.size ≤ q → A q) (hK : va_K (zD E) vwCl (zT E) s) (hZ : Z A s s.heap) (post : Int32 → S_X10 → Prop) : ∀ (x1 : Int32) (y0 : Int32) (u0 : S_X10) (H : Heap) (locs : List Loc) (ls : Array Slot), j_X10_bestReserved_22 x1 y0 u0 post → va_P (zD E) vwCl (k_X10 E q0 u0) H → va_D A (k_X10 E q0 u0) → va_S A s.heap H locs → lv_has ls 8 [(0, .ref (q0 0)), (1, .int x1)] → W p l e r_X10_bestReserved s m args below meth c H locs 0 0 (MQ below (va_Qi post (zAt E A (fun u => k_X10 E q0 u)) A) args s 0 0 A) (F0 m 22 ls [.int y0, .ref (q0 0)]) := by
  obtain ⟨hx, hb, hml, hr, hown, hts, hlocks, hin⟩ := id C0
  have hown : s.vm.findClass RX10 = some m.cls := hown
  intro x1 y0 u0 H locs ls hw hP hD hS hl
  refine lv_iconst (v := 1) hx hb dX10_bestReserved_22 rfl ?_
  refine z_ki (z_rV (rest := []) hZ0 C0 hK hZ hA hP hD hS hl.1 (c_X10_fails l E Z hZ0 q0 H.size u0 y0 (1 : Int32) _ hw) yv_X10_177 [0, 1, 2, 3, 4, 5, 6, 7, 8, 9] rfl (by decide) (ci := 10) rfl rfl 0 rfl ⟨Nat.le_of_ble_eq_true rfl, Nat.le_of_ble_eq_true rfl⟩ ⟨rfl, rfl⟩ rfl rfl (Nat.le_of_ble_eq_true rfl) ⟨Nat.le_of_ble_eq_true rfl, Nat.le_of_ble_eq_true rfl⟩ dX10_bestReserved_23) hP hD hS hA [0, 1, 2, 3, 4, 5, 6, 7, 8, 9] [] [0, 1, 2, 3, 4, 5, 6, 7, 8, 9] rfl (wr := []) rfl (by decide) (by decide) (fun u => k_X10 E q0 u) (fun u => rfl) (by decide) (fun r_5 u_4 H locs hw hP hD hS => ?_)
  obtain ⟨hwt, hwf⟩ := hw
  refine lv_if_ne (tgt := 59) hx hb dX10_bestReserved_26 (by decide) (fun c_6 => ?_) (fun c_6 => ?_)
  · have hw := hwt c_6
    refine lv_iconst (v := 0) hx hb dX10_bestReserved_59 rfl ?_
    exact z_iret (k := (fun u => k_X10 E q0 u)) u_4 C0 hP hD hS hw dX10_bestReserved_60
  · have hw := hwf c_6
    refine lv_aload_n hx hb dX10_bestReserved_29 rfl (lv_at hl 0 rfl) ?_
    refine lv_aload_n hx hb dX10_bestReserved_30 rfl (lv_at hl 0 rfl) ?_
    refine va_get (D := zD E) (ci := 10) (v := .ref (q0 2)) (C := RX10) (T := TX10) (N := 24) hx hb hts uw_X10 hown hK hP 0 rfl rfl 8 (by decide) (hts _ wm_5_124) (fun _ h9 => h9) rfl dX10_bestReserved_31 ?_
    refine lv_iconst (v := 1) hx hb dX10_bestReserved_34 rfl ?_
    refine va_iald hx hb hK hP 2 0 rfl rfl (show ¬ ((1 : Int32) < 0 ∨ 1728 ≤ (1 : Int32).toNatClampNeg) by decide) dX10_bestReserved_35 ?_
    refine W.eq (g2 := F0 m 36 ls ([.int (u_4.2.2.2.2.2.2.2.2.1 1), .ref (q0 0)])) rfl ?_
    refine lv_iconst (v := 1) hx hb dX10_bestReserved_36 rfl ?_
    refine lv_iadd hx hb dX10_bestReserved_37 ?_
    refine lv_aload_n hx hb dX10_bestReserved_38 rfl (lv_at hl 0 rfl) ?_
    refine va_get (D := zD E) (ci := 10) (v := .ref (q0 2)) (C := RX10) (T := TX10) (N := 24) hx hb hts uw_X10 hown hK hP 0 rfl rfl 8 (by decide) (hts _ wm_5_124) (fun _ h9 => h9) rfl dX10_bestReserved_39 ?_
    refine lv_iconst (v := 0) hx hb dX10_bestReserved_42 rfl ?_
    refine va_iald hx hb hK hP 2 0 rfl rfl (show ¬ ((0 : Int32) < 0 ∨ 1728 ≤ (0 : Int32).toNatClampNeg) by decide) dX10_bestReserved_43 ?_
    refine W.eq (g2 := F0 m 44 ls ([.int (u_4.2.2.2.2.2.2.2.2.1 0), .int ((u_4.2.2.2.2.2.2.2.2.1 1) + (1 : Int32)), .ref (q0 0)])) rfl ?_
    obtain ⟨hwt, hwf⟩ := hw
    refine lv_icmp_lt (tgt := 51) hx hb dX10_bestReserved_44 (by decide) (fun c_7 => ?_) (fun c_7 => ?_)
    · have hw := hwt c_7
      refine lv_iconst (v := 0) hx hb dX10_bestReserved_51 rfl ?_
      exact t_X10_bestReserved_52 (l := l) hZ0 C0 hA hK hZ post x1 (0 : Int32) u_4 _ _ _ hw hP hD hS (lv_sub hl [0, 1] rfl)
    · have hw := hwf c_7
      refine lv_iconst (v := 1) hx hb dX10_bestReserved_47 rfl ?_
      refine lv_goto (tgt := 52) hx hb dX10_bestReserved_48 (by decide) ?_
      exact t_X10_bestReserved_52 (l := l) hZ0 C0 hA hK hZ post x1 (1 : Int32) u_4 _ _ _ hw hP hD hS (lv_sub hl [0, 1] rfl)
set_option maxHeartbeats 4000000 in
set_option maxRecDepth 100000 in
theorem c_X10_bestReserved (l : Launch) (E : zE) (Z : zZ) (hZ0 : zSt Z) (q0 : Nat → Nat) (sz : Nat) (u0 : S_X10) (p1 : Int32) (post : Int32 → S_X10 → Prop) (hw : wp_X10_bestReserved u0 p1 post) : Met l yX10_bestReserved (zws yX10_bestReserved cX10_bestReserved 8 (some .int)) r_X10_bestReserved (va_Pc [.ref (q0 0), .int p1] (zPre Z E (k_X10 E q0 u0) sz)) (va_Qi post (zAt E (va_A (k_X10 E q0 u0) sz) (fun u => k_X10 E q0 u)) (va_A (k_X10 E q0 u0) sz)) 0 0 (va_A (k_X10 E q0 u0) sz) := by
  refine z_ofW (Qf := fun A => va_Qi post (zAt E A (fun u => k_X10 E q0 u)) A) (by decide) (Nat.le_of_ble_eq_true rfl) ?_
  intro p e s m args below meth c A ls C0 hA hK hZ hP hD hS hl
  obtain ⟨hx, hb, hml, hr, hown, hts, hlocks, hin⟩ := id C0
  have hown : s.vm.findClass RX10 = some m.cls := hown
  have hl : lv_has ls 8 [(0, .ref (q0 0)), (1, .int p1)] := hl
  refine lv_aload_n hx hb dX10_bestReserved_0 rfl (lv_at hl 0 rfl) ?_
  refine lv_iconst (v := 0) hx hb dX10_bestReserved_1 rfl ?_
  refine va_put (D := zD E) (ci := 10) (v := .int (0 : Int32)) (ty := .int) (C := RX10) (T := TX10) (N := 24) hx hb hts uw_X10 tyX10 tyX10_ok nmX10 hown hK hP hD hS 0 rfl rfl 0 (by decide) (hts _ wm_5_116) (fun _ h9 => h9) rfl (by decide +kernel) rfl rfl (Nat.le_of_ble_eq_true rfl) dX10_bestReserved_2 (fun H locs hP hD hS => ?_)
  have hP : va_P (zD E) vwCl (k_X10 E q0 ((0 : Int32), u0.2.1, u0.2.2.1, u0.2.2.2.1, u0.2.2.2.2.1, u0.2.2.2.2.2.1, u0.2.2.2.2.2.2.1, u0.2.2.2.2.2.2.2.1, u0.2.2.2.2.2.2.2.2.1, u0.2.2.2.2.2.2.2.2.2.1, u0.2.2.2.2.2.2.2.2.2.2.1, u0.2.2.2.2.2.2.2.2.2.2.2.1, u0.2.2.2.2.2.2.2.2.2.2.2.2.1, u0.2.2.2.2.2.2.2.2.2.2.2.2.2.1, u0.2.2.2.2.2.2.2.2.2.2.2.2.2.2.1, u0.2.2.2.2.2.2.2.2.2.2.2.2.2.2.2.1, u0.2.2.2.2.2.2.2.2.2.2.2.2.2.2.2.2.1, u0.2.2.2.2.2.2.2.2.2.2.2.2.2.2.2.2.2.1, u0.2.2.2.2.2.2.2.2.2.2.2.2.2.2.2.2.2.2.1, u0.2.2.2.2.2.2.2.2.2.2.2.2.2.2.2.2.2.2.2.1, u0.2.2.2.2.2.2.2.2.2.2.2.2.2.2.2.2.2.2.2.2.1, u0.2.2.2.2.2.2.2.2.2.2.2.2.2.2.2.2.2.2.2.2.2)) H := hP
  have hD : va_D A (k_X10 E q0 ((0 : Int32), u0.2.1, u0.2.2.1, u0.2.2.2.1, u0.2.2.2.2.1, u0.2.2.2.2.2.1, u0.2.2.2.2.2.2.1, u0.2.2.2.2.2.2.2.1, u0.2.2.2.2.2.2.2.2.1, u0.2.2.2.2.2.2.2.2.2.1, u0.2.2.2.2.2.2.2.2.2.2.1, u0.2.2.2.2.2.2.2.2.2.2.2.1, u0.2.2.2.2.2.2.2.2.2.2.2.2.1, u0.2.2.2.2.2.2.2.2.2.2.2.2.2.1, u0.2.2.2.2.2.2.2.2.2.2.2.2.2.2.1, u0.2.2.2.2.2.2.2.2.2.2.2.2.2.2.2.1, u0.2.2.2.2.2.2.2.2.2.2.2.2.2.2.2.2.1, u0.2.2.2.2.2.2.2.2.2.2.2.2.2.2.2.2.2.1, u0.2.2.2.2.2.2.2.2.2.2.2.2.2.2.2.2.2.2.1, u0.2.2.2.2.2.2.2.2.2.2.2.2.2.2.2.2.2.2.2.1, u0.2.2.2.2.2.2.2.2.2.2.2.2.2.2.2.2.2.2.2.2.1, u0.2.2.2.2.2.2.2.2.2.2.2.2.2.2.2.2.2.2.2.2.2)) := hD
  refine lv_aload_n hx hb dX10_bestReserved_5 rfl (lv_at hl 0 rfl) ?_
  refine lv_iload_n hx hb dX10_bestReserved_6 rfl (lv_at hl 1 rfl) ?_
  refine lv_iconst (v := 0) hx hb dX10_bestReserved_7 rfl ?_
  refine lv_sipush (v := 500) hx hb dX10_bestReserved_8 rfl ?_
  refine z_ki (z_rS (rest := [.ref (q0 0)]) hZ0 C0 hK hZ hA hP hD hS hl.1 (c_X10_in l E Z hZ0 H.size p1 (0 : Int32) (500 : Int32) _ hw) yv_X10_74 [] rfl (by decide) ⟨Nat.le_of_ble_eq_true rfl, Nat.le_of_ble_eq_true rfl⟩ ⟨rfl, rfl⟩ rfl rfl (Nat.le_of_ble_eq_true rfl) ⟨Nat.le_of_ble_eq_true rfl, Nat.le_of_ble_eq_true rfl⟩ dX10_bestReserved_11) hP hD hS hA [] [0, 1, 2, 3, 4, 5, 6, 7, 8, 9] [0, 1, 2, 3, 4, 5, 6, 7, 8, 9] rfl (wr := [_, _, _, _, _, _, _, _, _, _]) rfl (by decide) (by decide) (fun u => k_X10 E q0 ((0 : Int32), u0.2.1, u0.2.2.1, u0.2.2.2.1, u0.2.2.2.2.1, u0.2.2.2.2.2.1, u0.2.2.2.2.2.2.1, u0.2.2.2.2.2.2.2.1, u0.2.2.2.2.2.2.2.2.1, u0.2.2.2.2.2.2.2.2.2.1, u0.2.2.2.2.2.2.2.2.2.2.1, u0.2.2.2.2.2.2.2.2.2.2.2.1, u0.2.2.2.2.2.2.2.2.2.2.2.2.1, u0.2.2.2.2.2.2.2.2.2.2.2.2.2.1, u0.2.2.2.2.2.2.2.2.2.2.2.2.2.2.1, u0.2.2.2.2.2.2.2.2.2.2.2.2.2.2.2.1, u0.2.2.2.2.2.2.2.2.2.2.2.2.2.2.2.2.1, u0.2.2.2.2.2.2.2.2.2.2.2.2.2.2.2.2.2.1, u0.2.2.2.2.2.2.2.2.2.2.2.2.2.2.2.2.2.2.1, u0.2.2.2.2.2.2.2.2.2.2.2.2.2.2.2.2.2.2.2.1, u0.2.2.2.2.2.2.2.2.2.2.2.2.2.2.2.2.2.2.2.2.1, u0.2.2.2.2.2.2.2.2.2.2.2.2.2.2.2.2.2.2.2.2.2)) (fun u => rfl) (by decide) (fun r_2 u_1 H locs hw hP hD hS => ?_)
  obtain ⟨hwt, hwf⟩ := hw
  refine lv_if_ne (tgt := 21) hx hb dX10_bestReserved_14 (by decide) (fun c_3 => ?_) (fun c_3 => ?_)
  · have hw := hwt c_3
    refine lv_iconst (v := 0) hx hb dX10_bestReserved_21 rfl ?_
    exact t_X10_bestReserved_22 (l := l) hZ0 C0 hA hK hZ post p1 (0 : Int32) ((0 : Int32), u0.2.1, u0.2.2.1, u0.2.2.2.1, u0.2.2.2.2.1, u0.2.2.2.2.2.1, u0.2.2.2.2.2.2.1, u0.2.2.2.2.2.2.2.1, u0.2.2.2.2.2.2.2.2.1, u0.2.2.2.2.2.2.2.2.2.1, u0.2.2.2.2.2.2.2.2.2.2.1, u0.2.2.2.2.2.2.2.2.2.2.2.1, u0.2.2.2.2.2.2.2.2.2.2.2.2.1, u0.2.2.2.2.2.2.2.2.2.2.2.2.2.1, u0.2.2.2.2.2.2.2.2.2.2.2.2.2.2.1, u0.2.2.2.2.2.2.2.2.2.2.2.2.2.2.2.1, u0.2.2.2.2.2.2.2.2.2.2.2.2.2.2.2.2.1, u0.2.2.2.2.2.2.2.2.2.2.2.2.2.2.2.2.2.1, u0.2.2.2.2.2.2.2.2.2.2.2.2.2.2.2.2.2.2.1, u0.2.2.2.2.2.2.2.2.2.2.2.2.2.2.2.2.2.2.2.1, u0.2.2.2.2.2.2.2.2.2.2.2.2.2.2.2.2.2.2.2.2.1, u0.2.2.2.2.2.2.2.2.2.2.2.2.2.2.2.2.2.2.2.2.2) _ _ _ hw hP hD hS (lv_sub hl [0, 1] rfl)
  · have hw := hwf c_3
    refine lv_iconst (v := 1) hx hb dX10_bestReserved_17 rfl ?_
    refine lv_goto (tgt := 22) hx hb dX10_bestReserved_18 (by decide) ?_
    exact t_X10_bestReserved_22 (l := l) hZ0 C0 hA hK hZ post p1 (1 : Int32) ((0 : Int32), u0.2.1, u0.2.2.1, u0.2.2.2.1, u0.2.2.2.2.1, u0.2.2.2.2.2.1, u0.2.2.2.2.2.2.1, u0.2.2.2.2.2.2.2.1, u0.2.2.2.2.2.2.2.2.1, u0.2.2.2.2.2.2.2.2.2.1, u0.2.2.2.2.2.2.2.2.2.2.1, u0.2.2.2.2.2.2.2.2.2.2.2.1, u0.2.2.2.2.2.2.2.2.2.2.2.2.1, u0.2.2.2.2.2.2.2.2.2.2.2.2.2.1, u0.2.2.2.2.2.2.2.2.2.2.2.2.2.2.1, u0.2.2.2.2.2.2.2.2.2.2.2.2.2.2.2.1, u0.2.2.2.2.2.2.2.2.2.2.2.2.2.2.2.2.1, u0.2.2.2.2.2.2.2.2.2.2.2.2.2.2.2.2.2.1, u0.2.2.2.2.2.2.2.2.2.2.2.2.2.2.2.2.2.2.1, u0.2.2.2.2.2.2.2.2.2.2.2.2.2.2.2.2.2.2.2.1, u0.2.2.2.2.2.2.2.2.2.2.2.2.2.2.2.2.2.2.2.2.1, u0.2.2.2.2.2.2.2.2.2.2.2.2.2.2.2.2.2.2.2.2.2) _ _ _ hw hP hD hS (lv_sub hl [0, 1] rfl)
abbrev r_X10_checksum : Room := { frames := 2, cells := 0, slots := 0, locals := 43 }
def j_X10_checksum_136 (K90 : (Int64 × Int32 × S_X10) → Prop) (x3 : Int32) (y0 : Int32) (y1 : Int64) (u0 : S_X10) (post : Int64 → S_X10 → Prop) : Prop := ∀ x_20 : Int64, x_20 = (y1 + y0.toInt64) → (∀ x_21 : Int32, x_21 = x3 + 1 → (K90 (x_20, x_21, u0)))
def j_X10_checksum_90 (K90 : (Int64 × Int32 × S_X10) → Prop) (x1 : Int64) (x3 : Int32) (u0 : S_X10) (post : Int64 → S_X10 → Prop) : Prop := ((u0.2.2.2.2.2.2.2.2.1 12) ≤ x3 → (post x1 u0)) ∧ (¬ ((u0.2.2.2.2.2.2.2.2.1 12) ≤ x3) → (wp_X10_breach x3 (fun r_7 u_6 => vp_in (r_7 + (3 : Int32)) 1728 ∧ ((¬ ((u0.2.2.2.2.2.2.2.2.1 (r_7 + (3 : Int32)).toNatClampNeg) = (1 : Int32)) → (wp_X10_breach x3 (fun r_11 u_10 => vp_in (r_11 + (2 : Int32)) 1728 ∧ (j_X10_checksum_136 K90 x3 (u0.2.2.2.2.2.2.2.2.1 (r_11 + (2 : Int32)).toNatClampNeg) ((31 : Int64) * x1) u0 post)))) ∧ ((u0.2.2.2.2.2.2.2.2.1 (r_7 + (3 : Int32)).toNatClampNeg) = (1 : Int32) → (j_X10_checksum_136 K90 x3 (-1 : Int32) ((31 : Int64) * x1) u0 post))))))
def j_X10_checksum_50 (K50 : (Int64 × Int32 × Int32 × S_X10) → Prop) (K37 : (Int64 × Int32 × S_X10) → Prop) (x1 : Int64) (x3 : Int32) (x4 : Int32) (u0 : S_X10) (post : Int64 → S_X10 → Prop) : Prop := ((5 : Int32) ≤ x4 → (∀ x_14 : Int32, x_14 = x3 + 1 → (K37 (x1, x_14, u0)))) ∧ (¬ ((5 : Int32) ≤ x4) → (wp_X10_period x3 (fun r_16 u_15 => vp_in (r_16 + x4) 1728 ∧ (∀ x_18 : Int64, x_18 = (((31 : Int64) * x1) + ((u0.2.2.2.2.2.2.2.2.1 (r_16 + x4).toNatClampNeg).toInt64)) → (∀ x_19 : Int32, x_19 = x4 + 1 → (K50 (x_18, x3, x_19, u0)))))))
def j_X10_checksum_37 (K37 : (Int64 × Int32 × S_X10) → Prop) (x1 : Int64) (x3 : Int32) (u0 : S_X10) (post : Int64 → S_X10 → Prop) : Prop := ((u0.2.2.2.2.2.2.2.2.1 0) ≤ x3 → (∃ n, zl (fun K st => j_X10_checksum_90 K st.1 st.2.1 st.2.2 post) n (x1, (0 : Int32), u0))) ∧ (¬ ((u0.2.2.2.2.2.2.2.2.1 0) ≤ x3) → (∃ n, zl (fun K st => j_X10_checksum_50 K K37 st.1 st.2.1 st.2.2.1 st.2.2.2 post) n (x1, x3, (0 : Int32), u0)))
def wp_X10_checksum (u0 : S_X10) (post : Int64 → S_X10 → Prop) : Prop := wp_X10_balanceNow ((0 : Int32), u0.2.1, u0.2.2.1, u0.2.2.2.1, u0.2.2.2.2.1, u0.2.2.2.2.2.1, u0.2.2.2.2.2.2.1, u0.2.2.2.2.2.2.2.1, u0.2.2.2.2.2.2.2.2.1, u0.2.2.2.2.2.2.2.2.2.1, u0.2.2.2.2.2.2.2.2.2.2.1, u0.2.2.2.2.2.2.2.2.2.2.2.1, u0.2.2.2.2.2.2.2.2.2.2.2.2.1, u0.2.2.2.2.2.2.2.2.2.2.2.2.2.1, u0.2.2.2.2.2.2.2.2.2.2.2.2.2.2.1, u0.2.2.2.2.2.2.2.2.2.2.2.2.2.2.2.1, u0.2.2.2.2.2.2.2.2.2.2.2.2.2.2.2.2.1, u0.2.2.2.2.2.2.2.2.2.2.2.2.2.2.2.2.2.1, u0.2.2.2.2.2.2.2.2.2.2.2.2.2.2.2.2.2.2.1, u0.2.2.2.2.2.2.2.2.2.2.2.2.2.2.2.2.2.2.2.1, u0.2.2.2.2.2.2.2.2.2.2.2.2.2.2.2.2.2.2.2.2.1, u0.2.2.2.2.2.2.2.2.2.2.2.2.2.2.2.2.2.2.2.2.2) (fun r_2 u_1 => ∀ x_3 : Int64, x_3 = (((31 : Int64) * (((31 : Int64) * ((u0.2.2.2.2.2.2.2.2.1 1).toInt64)) + r_2)) + ((u_1.2.2.2.2.2.2.2.2.1 13).toInt64)) → (∃ n, zl (fun K st => j_X10_checksum_37 K st.1 st.2.1 st.2.2 post) n (x_3, (0 : Int32), u_1)))
set_option maxHeartbeats 4000000 in
set_option maxRecDepth 100000 in
theorem t_X10_checksum_136 {p : Program} {l : Launch} {e : Env} {s : State} {m : MethodId} {args : Array Value} {below : List Frame} {meth : Method} {c : Code} {Z : zZ} {E : zE} {A : Nat → Prop} {q0 : Nat → Nat} (hZ0 : zSt Z) (C0 : zC p s m args meth c yX10_checksum cX10_checksum 5 (some .long)) (hA : ∀ q : Nat, s.heap.size ≤ q → A q) (hK : va_K (zD E) vwCl (zT E) s) (hZ : Z A s s.heap) (post : Int64 → S_X10 → Prop) {K90 : (Int64 × Int32 × S_X10) → Prop} (hk_90 : ∀ (x1 : Int64) (x3 : Int32) (u0 : S_X10) (H : Heap) (locs : List Loc) (ls : Array Slot), K90 (x1, x3, u0) → va_P (zD E) vwCl (k_X10 E q0 u0) H → va_D A (k_X10 E q0 u0) → va_S A s.heap H locs → lv_has ls 5 [(0, .ref (q0 0)), (1, .long x1), (3, .int x3)] → W p l e r_X10_checksum s m args below meth c H locs 0 0 (MQ below (va_Ql post (zAt E A (fun u => k_X10 E q0 u)) A) args s 0 0 A) (F0 m 90 ls [])) : ∀ (x3 : Int32) (y0 : Int32) (y1 : Int64) (u0 : S_X10) (H : Heap) (locs : List Loc) (ls : Array Slot), j_X10_checksum_136 K90 x3 y0 y1 u0 post → va_P (zD E) vwCl (k_X10 E q0 u0) H → va_D A (k_X10 E q0 u0) → va_S A s.heap H locs → lv_has ls 5 [(0, .ref (q0 0)), (3, .int x3)] → W p l e r_X10_checksum s m args below meth c H locs 0 0 (MQ below (va_Ql post (zAt E A (fun u => k_X10 E q0 u)) A) args s 0 0 A) (F0 m 136 ls [.int y0, .long y1]) := by
  obtain ⟨hx, hb, hml, hr, hown, hts, hlocks, hin⟩ := id C0
  have hown : s.vm.findClass RX10 = some m.cls := hown
  intro x3 y0 y1 u0 H locs ls hw hP hD hS hl
  refine lv_i2l hx hb dX10_checksum_136 rfl ?_
  refine lv_ladd hx hb dX10_checksum_137 ?_
  refine lv_topl (fun x_20 ex_20 => ?_)
  have hw := hw x_20 ex_20
  refine lv_lstore_n (lv' := [(1, .long x_20), (0, .ref (q0 0)), (3, .int x3)]) hx hb dX10_checksum_138 rfl hl (by decide) rfl (fun ls hl => ?_)
  obtain ⟨x_21, ex_21⟩ : ∃ y : Int32, y = x3 + 1 := ⟨_, rfl⟩
  have hw := hw x_21 ex_21
  refine lv_iinc (v := x_21) (lv' := [(3, .int x_21), (1, .long x_20), (0, .ref (q0 0))]) hx hb dX10_checksum_139 hl (k := 2) rfl (by rw [ex_21]; rfl) (by decide) rfl (fun ls hl => ?_)
  refine lv_goto (tgt := 90) hx hb dX10_checksum_142 (by decide) ?_
  exact hk_90 x_20 x_21 u0 _ _ _ hw hP hD hS (lv_sub hl [2, 1, 0] rfl)
set_option maxHeartbeats 4000000 in
set_option maxRecDepth 100000 in
theorem t_X10_checksum_90 {p : Program} {l : Launch} {e : Env} {s : State} {m : MethodId} {args : Array Value} {below : List Frame} {meth : Method} {c : Code} {Z : zZ} {E : zE} {A : Nat → Prop} {q0 : Nat → Nat} (hZ0 : zSt Z) (C0 : zC p s m args meth c yX10_checksum cX10_checksum 5 (some .long)) (hA : ∀ q : Nat, s.heap.size ≤ q → A q) (hK : va_K (zD E) vwCl (zT E) s) (hZ : Z A s s.heap) (post : Int64 → S_X10 → Prop) : ∀ (n : Nat) (x1 : Int64) (x3 : Int32) (u0 : S_X10) (H : Heap) (locs : List Loc) (ls : Array Slot), zl (fun K st => j_X10_checksum_90 K st.1 st.2.1 st.2.2 post) n (x1, x3, u0) → va_P (zD E) vwCl (k_X10 E q0 u0) H → va_D A (k_X10 E q0 u0) → va_S A s.heap H locs → lv_has ls 5 [(0, .ref (q0 0)), (1, .long x1), (3, .int x3)] → W p l e r_X10_checksum s m args below meth c H locs 0 0 (MQ below (va_Ql post (zAt E A (fun u => k_X10 E q0 u)) A) args s 0 0 A) (F0 m 90 ls []) := by
  obtain ⟨hx, hb, hml, hr, hown, hts, hlocks, hin⟩ := id C0
  have hown : s.vm.findClass RX10 = some m.cls := hown
  intro n
  induction n with
  | zero => intro x1 x3 u0 H locs ls hw; exact hw.elim
  | succ n hk_90 =>
    intro x1 x3 u0 H locs ls hw hP hD hS hl
    have hw : j_X10_checksum_90 _ x1 x3 u0 post := hw
    refine lv_iload_n hx hb dX10_checksum_90 rfl (lv_at hl 2 rfl) ?_
    refine lv_aload_n hx hb dX10_checksum_91 rfl (lv_at hl 0 rfl) ?_
    refine va_get (D := zD E) (ci := 10) (v := .ref (q0 2)) (C := RX10) (T := TX10) (N := 24) hx hb hts uw_X10 hown hK hP 0 rfl rfl 8 (by decide) (hts _ wm_5_124) (fun _ h9 => h9) rfl dX10_checksum_92 ?_
    refine lv_bipush (v := 12) hx hb dX10_checksum_95 rfl ?_
    refine va_iald hx hb hK hP 2 0 rfl rfl (show ¬ ((12 : Int32) < 0 ∨ 1728 ≤ (12 : Int32).toNatClampNeg) by decide) dX10_checksum_97 ?_
    refine W.eq (g2 := F0 m 98 ls ([.int (u0.2.2.2.2.2.2.2.2.1 12), .int x3])) rfl ?_
    obtain ⟨hwt, hwf⟩ := hw
    refine lv_icmp_ge (tgt := 145) hx hb dX10_checksum_98 (by decide) (fun c_5 => ?_) (fun c_5 => ?_)
    · have hw := hwt c_5
      refine lv_lload_n hx hb dX10_checksum_145 rfl (lv_at hl 1 rfl) ?_
      exact z_lret (k := (fun u => k_X10 E q0 u)) u0 C0 hP hD hS hw dX10_checksum_146
    · have hw := hwf c_5
      refine lv_ldc2 hx hb hown (hts _ wm_7_46) dX10_checksum_101 ?_
      refine lv_lload_n hx hb dX10_checksum_104 rfl (lv_at hl 1 rfl) ?_
      refine lv_lmul hx hb dX10_checksum_105 ?_
      refine lv_aload_n hx hb dX10_checksum_106 rfl (lv_at hl 0 rfl) ?_
      refine va_get (D := zD E) (ci := 10) (v := .ref (q0 2)) (C := RX10) (T := TX10) (N := 24) hx hb hts uw_X10 hown hK hP 0 rfl rfl 8 (by decide) (hts _ wm_5_124) (fun _ h9 => h9) rfl dX10_checksum_107 ?_
      refine lv_iload_n hx hb dX10_checksum_110 rfl (lv_at hl 2 rfl) ?_
      refine z_ki (z_rS (rest := [.ref (q0 2), .long ((31 : Int64) * x1)]) hZ0 C0 hK hZ hA hP hD hS hl.1 (c_X10_breach l E Z hZ0 H.size x3 _ hw) yv_X10_220 [] rfl (by decide) ⟨Nat.le_of_ble_eq_true rfl, Nat.le_of_ble_eq_true rfl⟩ ⟨rfl, rfl⟩ rfl rfl (Nat.le_of_ble_eq_true rfl) ⟨Nat.le_of_ble_eq_true rfl, Nat.le_of_ble_eq_true rfl⟩ dX10_checksum_111) hP hD hS hA [] [0, 1, 2, 3, 4, 5, 6, 7, 8, 9] [0, 1, 2, 3, 4, 5, 6, 7, 8, 9] rfl (wr := [_, _, _, _, _, _, _, _, _, _]) rfl (by decide) (by decide) (fun u => k_X10 E q0 u0) (fun u => rfl) (by decide) (fun r_7 u_6 H locs hw hP hD hS => ?_)
      refine lv_iconst (v := 3) hx hb dX10_checksum_114 rfl ?_
      refine lv_iadd hx hb dX10_checksum_115 ?_
      obtain ⟨h_8, hw⟩ := hw
      refine va_iald hx hb hK hP 2 0 rfl rfl h_8 dX10_checksum_116 ?_
      refine lv_iconst (v := 1) hx hb dX10_checksum_117 rfl ?_
      obtain ⟨hwt, hwf⟩ := hw
      refine lv_icmp_ne (tgt := 125) hx hb dX10_checksum_118 (by decide) (fun c_9 => ?_) (fun c_9 => ?_)
      · have hw := hwt c_9
        refine lv_aload_n hx hb dX10_checksum_125 rfl (lv_at hl 0 rfl) ?_
        refine va_get (D := zD E) (ci := 10) (v := .ref (q0 2)) (C := RX10) (T := TX10) (N := 24) hx hb hts uw_X10 hown hK hP 0 rfl rfl 8 (by decide) (hts _ wm_5_124) (fun _ h9 => h9) rfl dX10_checksum_126 ?_
        refine lv_iload_n hx hb dX10_checksum_129 rfl (lv_at hl 2 rfl) ?_
        refine z_ki (z_rS (rest := [.ref (q0 2), .long ((31 : Int64) * x1)]) hZ0 C0 hK hZ hA hP hD hS hl.1 (c_X10_breach l E Z hZ0 H.size x3 _ hw) yv_X10_220 [] rfl (by decide) ⟨Nat.le_of_ble_eq_true rfl, Nat.le_of_ble_eq_true rfl⟩ ⟨rfl, rfl⟩ rfl rfl (Nat.le_of_ble_eq_true rfl) ⟨Nat.le_of_ble_eq_true rfl, Nat.le_of_ble_eq_true rfl⟩ dX10_checksum_130) hP hD hS hA [] [0, 1, 2, 3, 4, 5, 6, 7, 8, 9] [0, 1, 2, 3, 4, 5, 6, 7, 8, 9] rfl (wr := [_, _, _, _, _, _, _, _, _, _]) rfl (by decide) (by decide) (fun u => k_X10 E q0 u0) (fun u => rfl) (by decide) (fun r_11 u_10 H locs hw hP hD hS => ?_)
        refine lv_iconst (v := 2) hx hb dX10_checksum_133 rfl ?_
        refine lv_iadd hx hb dX10_checksum_134 ?_
        obtain ⟨h_12, hw⟩ := hw
        refine va_iald hx hb hK hP 2 0 rfl rfl h_12 dX10_checksum_135 ?_
        exact t_X10_checksum_136 (l := l) hZ0 C0 hA hK hZ post hk_90 x3 (u0.2.2.2.2.2.2.2.2.1 (r_11 + (2 : Int32)).toNatClampNeg) ((31 : Int64) * x1) u0 _ _ _ hw hP hD hS (lv_sub hl [0, 2] rfl)
      · have hw := hwf c_9
        refine lv_iconst (v := (-1)) hx hb dX10_checksum_121 rfl ?_
        refine lv_goto (tgt := 136) hx hb dX10_checksum_122 (by decide) ?_
        exact t_X10_checksum_136 (l := l) hZ0 C0 hA hK hZ post hk_90 x3 (-1 : Int32) ((31 : Int64) * x1) u0 _ _ _ hw hP hD hS (lv_sub hl [0, 2] rfl)
set_option maxHeartbeats 4000000 in
set_option maxRecDepth 100000 in
theorem t_X10_checksum_50 {p : Program} {l : Launch} {e : Env} {s : State} {m : MethodId} {args : Array Value} {below : List Frame} {meth : Method} {c : Code} {Z : zZ} {E : zE} {A : Nat → Prop} {q0 : Nat → Nat} (hZ0 : zSt Z) (C0 : zC p s m args meth c yX10_checksum cX10_checksum 5 (some .long)) (hA : ∀ q : Nat, s.heap.size ≤ q → A q) (hK : va_K (zD E) vwCl (zT E) s) (hZ : Z A s s.heap) (post : Int64 → S_X10 → Prop) {K37 : (Int64 × Int32 × S_X10) → Prop} (hk_37 : ∀ (x1 : Int64) (x3 : Int32) (u0 : S_X10) (H : Heap) (locs : List Loc) (ls : Array Slot), K37 (x1, x3, u0) → va_P (zD E) vwCl (k_X10 E q0 u0) H → va_D A (k_X10 E q0 u0) → va_S A s.heap H locs → lv_has ls 5 [(0, .ref (q0 0)), (1, .long x1), (3, .int x3)] → W p l e r_X10_checksum s m args below meth c H locs 0 0 (MQ below (va_Ql post (zAt E A (fun u => k_X10 E q0 u)) A) args s 0 0 A) (F0 m 37 ls [])) : ∀ (n : Nat) (x1 : Int64) (x3 : Int32) (x4 : Int32) (u0 : S_X10) (H : Heap) (locs : List Loc) (ls : Array Slot), zl (fun K st => j_X10_checksum_50 K K37 st.1 st.2.1 st.2.2.1 st.2.2.2 post) n (x1, x3, x4, u0) → va_P (zD E) vwCl (k_X10 E q0 u0) H → va_D A (k_X10 E q0 u0) → va_S A s.heap H locs → lv_has ls 5 [(0, .ref (q0 0)), (1, .long x1), (3, .int x3), (4, .int x4)] → W p l e r_X10_checksum s m args below meth c H locs 0 0 (MQ below (va_Ql post (zAt E A (fun u => k_X10 E q0 u)) A) args s 0 0 A) (F0 m 50 ls []) := by
  obtain ⟨hx, hb, hml, hr, hown, hts, hlocks, hin⟩ := id C0
  have hown : s.vm.findClass RX10 = some m.cls := hown
  intro n
  induction n with
  | zero => intro x1 x3 x4 u0 H locs ls hw; exact hw.elim
  | succ n hk_50 =>
    intro x1 x3 x4 u0 H locs ls hw hP hD hS hl
    have hw : j_X10_checksum_50 _ K37 x1 x3 x4 u0 post := hw
    refine lv_iload hx hb dX10_checksum_50 (lv_at hl 3 rfl) ?_
    refine lv_iconst (v := 5) hx hb dX10_checksum_52 rfl ?_
    obtain ⟨hwt, hwf⟩ := hw
    refine lv_icmp_ge (tgt := 82) hx hb dX10_checksum_53 (by decide) (fun c_13 => ?_) (fun c_13 => ?_)
    · have hw := hwt c_13
      obtain ⟨x_14, ex_14⟩ : ∃ y : Int32, y = x3 + 1 := ⟨_, rfl⟩
      have hw := hw x_14 ex_14
      refine lv_iinc (v := x_14) (lv' := [(3, .int x_14), (0, .ref (q0 0)), (1, .long x1), (4, .int x4)]) hx hb dX10_checksum_82 hl (k := 2) rfl (by rw [ex_14]; rfl) (by decide) rfl (fun ls hl => ?_)
      refine lv_goto (tgt := 37) hx hb dX10_checksum_85 (by decide) ?_
      exact hk_37 x1 x_14 u0 _ _ _ hw hP hD hS (lv_sub hl [1, 2, 0] rfl)
    · have hw := hwf c_13
      refine lv_ldc2 hx hb hown (hts _ wm_7_46) dX10_checksum_56 ?_
      refine lv_lload_n hx hb dX10_checksum_59 rfl (lv_at hl 1 rfl) ?_
      refine lv_lmul hx hb dX10_checksum_60 ?_
      refine lv_aload_n hx hb dX10_checksum_61 rfl (lv_at hl 0 rfl) ?_
      refine va_get (D := zD E) (ci := 10) (v := .ref (q0 2)) (C := RX10) (T := TX10) (N := 24) hx hb hts uw_X10 hown hK hP 0 rfl rfl 8 (by decide) (hts _ wm_5_124) (fun _ h9 => h9) rfl dX10_checksum_62 ?_
      refine lv_iload_n hx hb dX10_checksum_65 rfl (lv_at hl 2 rfl) ?_
      refine z_ki (z_rS (rest := [.ref (q0 2), .long ((31 : Int64) * x1)]) hZ0 C0 hK hZ hA hP hD hS hl.1 (c_X10_period l E Z hZ0 H.size x3 _ hw) yv_X10_148 [] rfl (by decide) ⟨Nat.le_of_ble_eq_true rfl, Nat.le_of_ble_eq_true rfl⟩ ⟨rfl, rfl⟩ rfl rfl (Nat.le_of_ble_eq_true rfl) ⟨Nat.le_of_ble_eq_true rfl, Nat.le_of_ble_eq_true rfl⟩ dX10_checksum_66) hP hD hS hA [] [0, 1, 2, 3, 4, 5, 6, 7, 8, 9] [0, 1, 2, 3, 4, 5, 6, 7, 8, 9] rfl (wr := [_, _, _, _, _, _, _, _, _, _]) rfl (by decide) (by decide) (fun u => k_X10 E q0 u0) (fun u => rfl) (by decide) (fun r_16 u_15 H locs hw hP hD hS => ?_)
      refine lv_iload hx hb dX10_checksum_69 (lv_at hl 3 rfl) ?_
      refine lv_iadd hx hb dX10_checksum_71 ?_
      obtain ⟨h_17, hw⟩ := hw
      refine va_iald hx hb hK hP 2 0 rfl rfl h_17 dX10_checksum_72 ?_
      refine lv_i2l hx hb dX10_checksum_73 rfl ?_
      refine lv_ladd hx hb dX10_checksum_74 ?_
      refine lv_topl (fun x_18 ex_18 => ?_)
      have hw := hw x_18 ex_18
      refine lv_lstore_n (lv' := [(1, .long x_18), (0, .ref (q0 0)), (3, .int x3), (4, .int x4)]) hx hb dX10_checksum_75 rfl hl (by decide) rfl (fun ls hl => ?_)
      obtain ⟨x_19, ex_19⟩ : ∃ y : Int32, y = x4 + 1 := ⟨_, rfl⟩
      have hw := hw x_19 ex_19
      refine lv_iinc (v := x_19) (lv' := [(4, .int x_19), (1, .long x_18), (0, .ref (q0 0)), (3, .int x3)]) hx hb dX10_checksum_76 hl (k := 3) rfl (by rw [ex_19]; rfl) (by decide) rfl (fun ls hl => ?_)
      refine lv_goto (tgt := 50) hx hb dX10_checksum_79 (by decide) ?_
      exact hk_50 x_18 x3 x_19 u0 _ _ _ hw hP hD hS (lv_sub hl [2, 1, 3, 0] rfl)
set_option maxHeartbeats 4000000 in
set_option maxRecDepth 100000 in
theorem t_X10_checksum_37 {p : Program} {l : Launch} {e : Env} {s : State} {m : MethodId} {args : Array Value} {below : List Frame} {meth : Method} {c : Code} {Z : zZ} {E : zE} {A : Nat → Prop} {q0 : Nat → Nat} (hZ0 : zSt Z) (C0 : zC p s m args meth c yX10_checksum cX10_checksum 5 (some .long)) (hA : ∀ q : Nat, s.heap.size ≤ q → A q) (hK : va_K (zD E) vwCl (zT E) s) (hZ : Z A s s.heap) (post : Int64 → S_X10 → Prop) : ∀ (n : Nat) (x1 : Int64) (x3 : Int32) (u0 : S_X10) (H : Heap) (locs : List Loc) (ls : Array Slot), zl (fun K st => j_X10_checksum_37 K st.1 st.2.1 st.2.2 post) n (x1, x3, u0) → va_P (zD E) vwCl (k_X10 E q0 u0) H → va_D A (k_X10 E q0 u0) → va_S A s.heap H locs → lv_has ls 5 [(0, .ref (q0 0)), (1, .long x1), (3, .int x3)] → W p l e r_X10_checksum s m args below meth c H locs 0 0 (MQ below (va_Ql post (zAt E A (fun u => k_X10 E q0 u)) A) args s 0 0 A) (F0 m 37 ls []) := by
  obtain ⟨hx, hb, hml, hr, hown, hts, hlocks, hin⟩ := id C0
  have hown : s.vm.findClass RX10 = some m.cls := hown
  intro n
  induction n with
  | zero => intro x1 x3 u0 H locs ls hw; exact hw.elim
  | succ n hk_37 =>
    intro x1 x3 u0 H locs ls hw hP hD hS hl
    have hw : j_X10_checksum_37 _ x1 x3 u0 post := hw
    refine lv_iload_n hx hb dX10_checksum_37 rfl (lv_at hl 2 rfl) ?_
    refine lv_aload_n hx hb dX10_checksum_38 rfl (lv_at hl 0 rfl) ?_
    refine va_get (D := zD E) (ci := 10) (v := .ref (q0 2)) (C := RX10) (T := TX10) (N := 24) hx hb hts uw_X10 hown hK hP 0 rfl rfl 8 (by decide) (hts _ wm_5_124) (fun _ h9 => h9) rfl dX10_checksum_39 ?_
    refine lv_iconst (v := 0) hx hb dX10_checksum_42 rfl ?_
    refine va_iald hx hb hK hP 2 0 rfl rfl (show ¬ ((0 : Int32) < 0 ∨ 1728 ≤ (0 : Int32).toNatClampNeg) by decide) dX10_checksum_43 ?_
    refine W.eq (g2 := F0 m 44 ls ([.int (u0.2.2.2.2.2.2.2.2.1 0), .int x3])) rfl ?_
    obtain ⟨hwt, hwf⟩ := hw
    refine lv_icmp_ge (tgt := 88) hx hb dX10_checksum_44 (by decide) (fun c_4 => ?_) (fun c_4 => ?_)
    · have hw := hwt c_4
      refine lv_iconst (v := 0) hx hb dX10_checksum_88 rfl ?_
      refine lv_istore_n (lv' := [(3, .int (0 : Int32)), (0, .ref (q0 0)), (1, .long x1)]) hx hb dX10_checksum_89 rfl hl (by decide) rfl (fun ls hl => ?_)
      obtain ⟨n9, hw⟩ := hw
      exact t_X10_checksum_90 (l := l) hZ0 C0 hA hK hZ post n9 x1 (0 : Int32) u0 _ _ _ hw hP hD hS (lv_sub hl [1, 2, 0] rfl)
    · have hw := hwf c_4
      refine lv_iconst (v := 0) hx hb dX10_checksum_47 rfl ?_
      refine lv_istore (lv' := [(4, .int (0 : Int32)), (0, .ref (q0 0)), (1, .long x1), (3, .int x3)]) hx hb dX10_checksum_48 hl (by decide) rfl (fun ls hl => ?_)
      obtain ⟨n9, hw⟩ := hw
      exact t_X10_checksum_50 (l := l) hZ0 C0 hA hK hZ post hk_37 n9 x1 x3 (0 : Int32) u0 _ _ _ hw hP hD hS (lv_sub hl [1, 2, 3, 0] rfl)
set_option maxHeartbeats 4000000 in
set_option maxRecDepth 100000 in
theorem c_X10_checksum (l : Launch) (E : zE) (Z : zZ) (hZ0 : zSt Z) (q0 : Nat → Nat) (sz : Nat) (u0 : S_X10) (post : Int64 → S_X10 → Prop) (hw : wp_X10_checksum u0 post) : Met l yX10_checksum (zws yX10_checksum cX10_checksum 5 (some .long)) r_X10_checksum (va_Pc [.ref (q0 0)] (zPre Z E (k_X10 E q0 u0) sz)) (va_Ql post (zAt E (va_A (k_X10 E q0 u0) sz) (fun u => k_X10 E q0 u)) (va_A (k_X10 E q0 u0) sz)) 0 0 (va_A (k_X10 E q0 u0) sz) := by
  refine z_ofW (Qf := fun A => va_Ql post (zAt E A (fun u => k_X10 E q0 u)) A) (by decide) (Nat.le_of_ble_eq_true rfl) ?_
  intro p e s m args below meth c A ls C0 hA hK hZ hP hD hS hl
  obtain ⟨hx, hb, hml, hr, hown, hts, hlocks, hin⟩ := id C0
  have hown : s.vm.findClass RX10 = some m.cls := hown
  have hl : lv_has ls 5 [(0, .ref (q0 0))] := hl
  refine lv_aload_n hx hb dX10_checksum_0 rfl (lv_at hl 0 rfl) ?_
  refine lv_iconst (v := 0) hx hb dX10_checksum_1 rfl ?_
  refine va_put (D := zD E) (ci := 10) (v := .int (0 : Int32)) (ty := .int) (C := RX10) (T := TX10) (N := 24) hx hb hts uw_X10 tyX10 tyX10_ok nmX10 hown hK hP hD hS 0 rfl rfl 0 (by decide) (hts _ wm_5_116) (fun _ h9 => h9) rfl (by decide +kernel) rfl rfl (Nat.le_of_ble_eq_true rfl) dX10_checksum_2 (fun H locs hP hD hS => ?_)
  have hP : va_P (zD E) vwCl (k_X10 E q0 ((0 : Int32), u0.2.1, u0.2.2.1, u0.2.2.2.1, u0.2.2.2.2.1, u0.2.2.2.2.2.1, u0.2.2.2.2.2.2.1, u0.2.2.2.2.2.2.2.1, u0.2.2.2.2.2.2.2.2.1, u0.2.2.2.2.2.2.2.2.2.1, u0.2.2.2.2.2.2.2.2.2.2.1, u0.2.2.2.2.2.2.2.2.2.2.2.1, u0.2.2.2.2.2.2.2.2.2.2.2.2.1, u0.2.2.2.2.2.2.2.2.2.2.2.2.2.1, u0.2.2.2.2.2.2.2.2.2.2.2.2.2.2.1, u0.2.2.2.2.2.2.2.2.2.2.2.2.2.2.2.1, u0.2.2.2.2.2.2.2.2.2.2.2.2.2.2.2.2.1, u0.2.2.2.2.2.2.2.2.2.2.2.2.2.2.2.2.2.1, u0.2.2.2.2.2.2.2.2.2.2.2.2.2.2.2.2.2.2.1, u0.2.2.2.2.2.2.2.2.2.2.2.2.2.2.2.2.2.2.2.1, u0.2.2.2.2.2.2.2.2.2.2.2.2.2.2.2.2.2.2.2.2.1, u0.2.2.2.2.2.2.2.2.2.2.2.2.2.2.2.2.2.2.2.2.2)) H := hP
  have hD : va_D A (k_X10 E q0 ((0 : Int32), u0.2.1, u0.2.2.1, u0.2.2.2.1, u0.2.2.2.2.1, u0.2.2.2.2.2.1, u0.2.2.2.2.2.2.1, u0.2.2.2.2.2.2.2.1, u0.2.2.2.2.2.2.2.2.1, u0.2.2.2.2.2.2.2.2.2.1, u0.2.2.2.2.2.2.2.2.2.2.1, u0.2.2.2.2.2.2.2.2.2.2.2.1, u0.2.2.2.2.2.2.2.2.2.2.2.2.1, u0.2.2.2.2.2.2.2.2.2.2.2.2.2.1, u0.2.2.2.2.2.2.2.2.2.2.2.2.2.2.1, u0.2.2.2.2.2.2.2.2.2.2.2.2.2.2.2.1, u0.2.2.2.2.2.2.2.2.2.2.2.2.2.2.2.2.1, u0.2.2.2.2.2.2.2.2.2.2.2.2.2.2.2.2.2.1, u0.2.2.2.2.2.2.2.2.2.2.2.2.2.2.2.2.2.2.1, u0.2.2.2.2.2.2.2.2.2.2.2.2.2.2.2.2.2.2.2.1, u0.2.2.2.2.2.2.2.2.2.2.2.2.2.2.2.2.2.2.2.2.1, u0.2.2.2.2.2.2.2.2.2.2.2.2.2.2.2.2.2.2.2.2.2)) := hD
  refine lv_ldc2 hx hb hown (hts _ wm_7_46) dX10_checksum_5 ?_
  refine lv_ldc2 hx hb hown (hts _ wm_7_46) dX10_checksum_8 ?_
  refine lv_aload_n hx hb dX10_checksum_11 rfl (lv_at hl 0 rfl) ?_
  refine va_get (D := zD E) (ci := 10) (v := .ref (q0 2)) (C := RX10) (T := TX10) (N := 24) hx hb hts uw_X10 hown hK hP 0 rfl rfl 8 (by decide) (hts _ wm_5_124) (fun _ h9 => h9) rfl dX10_checksum_12 ?_
  refine lv_iconst (v := 1) hx hb dX10_checksum_15 rfl ?_
  refine va_iald hx hb hK hP 2 0 rfl rfl (show ¬ ((1 : Int32) < 0 ∨ 1728 ≤ (1 : Int32).toNatClampNeg) by decide) dX10_checksum_16 ?_
  refine W.eq (g2 := F0 m 17 ls ([.int (u0.2.2.2.2.2.2.2.2.1 1), .long (31 : Int64), .long (31 : Int64)])) rfl ?_
  refine lv_i2l hx hb dX10_checksum_17 rfl ?_
  refine lv_lmul hx hb dX10_checksum_18 ?_
  refine lv_aload_n hx hb dX10_checksum_19 rfl (lv_at hl 0 rfl) ?_
  refine z_kl (z_rV (rest := [.long ((31 : Int64) * ((u0.2.2.2.2.2.2.2.2.1 1).toInt64)), .long (31 : Int64)]) hZ0 C0 hK hZ hA hP hD hS hl.1 (c_X10_balanceNow l E Z hZ0 q0 H.size ((0 : Int32), u0.2.1, u0.2.2.1, u0.2.2.2.1, u0.2.2.2.2.1, u0.2.2.2.2.2.1, u0.2.2.2.2.2.2.1, u0.2.2.2.2.2.2.2.1, u0.2.2.2.2.2.2.2.2.1, u0.2.2.2.2.2.2.2.2.2.1, u0.2.2.2.2.2.2.2.2.2.2.1, u0.2.2.2.2.2.2.2.2.2.2.2.1, u0.2.2.2.2.2.2.2.2.2.2.2.2.1, u0.2.2.2.2.2.2.2.2.2.2.2.2.2.1, u0.2.2.2.2.2.2.2.2.2.2.2.2.2.2.1, u0.2.2.2.2.2.2.2.2.2.2.2.2.2.2.2.1, u0.2.2.2.2.2.2.2.2.2.2.2.2.2.2.2.2.1, u0.2.2.2.2.2.2.2.2.2.2.2.2.2.2.2.2.2.1, u0.2.2.2.2.2.2.2.2.2.2.2.2.2.2.2.2.2.2.1, u0.2.2.2.2.2.2.2.2.2.2.2.2.2.2.2.2.2.2.2.1, u0.2.2.2.2.2.2.2.2.2.2.2.2.2.2.2.2.2.2.2.2.1, u0.2.2.2.2.2.2.2.2.2.2.2.2.2.2.2.2.2.2.2.2.2) _ hw) yv_X10_240 [0, 1, 2, 3, 4, 5, 6, 7, 8, 9] rfl (by decide) (ci := 10) rfl rfl 0 rfl ⟨Nat.le_of_ble_eq_true rfl, Nat.le_of_ble_eq_true rfl⟩ ⟨rfl, rfl⟩ rfl rfl (Nat.le_of_ble_eq_true rfl) ⟨Nat.le_of_ble_eq_true rfl, Nat.le_of_ble_eq_true rfl⟩ dX10_checksum_20) hP hD hS hA [0, 1, 2, 3, 4, 5, 6, 7, 8, 9] [] [0, 1, 2, 3, 4, 5, 6, 7, 8, 9] rfl (wr := []) rfl (by decide) (by decide) (fun u => k_X10 E q0 u) (fun u => rfl) (by decide) (fun r_2 u_1 H locs hw hP hD hS => ?_)
  refine lv_ladd hx hb dX10_checksum_23 ?_
  refine lv_lmul hx hb dX10_checksum_24 ?_
  refine lv_aload_n hx hb dX10_checksum_25 rfl (lv_at hl 0 rfl) ?_
  refine va_get (D := zD E) (ci := 10) (v := .ref (q0 2)) (C := RX10) (T := TX10) (N := 24) hx hb hts uw_X10 hown hK hP 0 rfl rfl 8 (by decide) (hts _ wm_5_124) (fun _ h9 => h9) rfl dX10_checksum_26 ?_
  refine lv_bipush (v := 13) hx hb dX10_checksum_29 rfl ?_
  refine va_iald hx hb hK hP 2 0 rfl rfl (show ¬ ((13 : Int32) < 0 ∨ 1728 ≤ (13 : Int32).toNatClampNeg) by decide) dX10_checksum_31 ?_
  refine W.eq (g2 := F0 m 32 ls ([.int (u_1.2.2.2.2.2.2.2.2.1 13), .long ((31 : Int64) * (((31 : Int64) * ((u0.2.2.2.2.2.2.2.2.1 1).toInt64)) + r_2))])) rfl ?_
  refine lv_i2l hx hb dX10_checksum_32 rfl ?_
  refine lv_ladd hx hb dX10_checksum_33 ?_
  refine lv_topl (fun x_3 ex_3 => ?_)
  have hw := hw x_3 ex_3
  refine lv_lstore_n (lv' := [(1, .long x_3), (0, .ref (q0 0))]) hx hb dX10_checksum_34 rfl hl (by decide) rfl (fun ls hl => ?_)
  refine lv_iconst (v := 0) hx hb dX10_checksum_35 rfl ?_
  refine lv_istore_n (lv' := [(3, .int (0 : Int32)), (1, .long x_3), (0, .ref (q0 0))]) hx hb dX10_checksum_36 rfl hl (by decide) rfl (fun ls hl => ?_)
  obtain ⟨n9, hw⟩ := hw
  exact t_X10_checksum_37 (l := l) hZ0 C0 hA hK hZ post n9 x_3 (0 : Int32) u_1 _ _ _ hw hP hD hS (lv_sub hl [2, 1, 0] rfl)
