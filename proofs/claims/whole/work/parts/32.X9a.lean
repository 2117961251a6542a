abbrev r_X9_append : Room := { frames := 1, cells := 0, slots := 0, locals := 22 }
def wp_X9_append (u0 : S_X9) (u1 : S_X6) (u2 : S_X5) (p1 : Int32) (p2 : Int32) (p3 : Int32) (p4 : Int32) (p5 : Int32) (post : Int32 → (S_X9 × S_X6 × S_X5) → Prop) : Prop := ((u2.2.1 + (20 : Int32)) ≤ (800 : Int32) → (wp_X5_addWord u2 p1 (fun u_2 => wp_X5_addWord u_2 p2 (fun u_4 => wp_X5_addWord u_4 p3 (fun u_6 => wp_X5_addWord u_6 p4 (fun u_8 => wp_X5_addWord u_8 p5 (fun u_10 => post u_10.2.1 (u0, u1, u_10)))))))) ∧ (¬ ((u2.2.1 + (20 : Int32)) ≤ (800 : Int32)) → (post (-1 : Int32) (u0, u1, u2)))
set_option maxHeartbeats 4000000 in
set_option maxRecDepth 100000 in
theorem c_X9_append (l : Launch) (E : zE) (Z : zZ) (hZ0 : zSt Z) (q0 : Nat → Nat) (sz : Nat) (u0 : S_X9) (u1 : S_X6) (u2 : S_X5) (p1 : Int32) (p2 : Int32) (p3 : Int32) (p4 : Int32) (p5 : Int32) (post : Int32 → (S_X9 × S_X6 × S_X5) → Prop) (hw : wp_X9_append u0 u1 u2 p1 p2 p3 p4 p5 post) : Met l yX9_append (zws yX9_append cX9_append 7 (some .int)) r_X9_append (va_Pc [.ref (q0 0), .int p1, .int p2, .int p3, .int p4, .int p5] (zPre Z E (k_X9 E q0 u0 ++ (k_X6 E (fun k => q0 (k + 21)) u1 ++ (k_X5 E (fun k => q0 (k + 22)) u2))) sz)) (va_Qi post (zAt E (va_A (k_X9 E q0 u0 ++ (k_X6 E (fun k => q0 (k + 21)) u1 ++ (k_X5 E (fun k => q0 (k + 22)) u2))) sz) (fun u => k_X9 E q0 u.1 ++ (k_X6 E (fun k => q0 (k + 21)) u.2.1 ++ (k_X5 E (fun k => q0 (k + 22)) u.2.2)))) (va_A (k_X9 E q0 u0 ++ (k_X6 E (fun k => q0 (k + 21)) u1 ++ (k_X5 E (fun k => q0 (k + 22)) u2))) sz)) 0 0 (va_A (k_X9 E q0 u0 ++ (k_X6 E (fun k => q0 (k + 21)) u1 ++ (k_X5 E (fun k => q0 (k + 22)) u2))) sz) := by
  refine z_ofW (Qf := fun A => va_Qi post (zAt E A (fun u => k_X9 E q0 u.1 ++ (k_X6 E (fun k => q0 (k + 21)) u.2.1 ++ (k_X5 E (fun k => q0 (k + 22)) u.2.2)))) A) (by decide) (Nat.le_of_ble_eq_true rfl) ?_
  intro p e s m args below meth c A ls C0 hA hK hZ hP hD hS hl
  obtain ⟨hx, hb, hml, hr, hown, hts, hlocks, hin⟩ := id C0
  have hown : s.vm.findClass RX9 = some m.cls := hown
  have hl : lv_has ls 7 [(0, .ref (q0 0)), (1, .int p1), (2, .int p2), (3, .int p3), (4, .int p4), (5, .int p5)] := hl
  refine lv_aload_n hx hb dX9_append_0 rfl (lv_at hl 0 rfl) ?_
  refine va_get (D := zD E) (ci := 9) (v := .ref (q0 21)) (C := RX9) (T := TX9) (N := 7) hx hb hts uw_X9 hown hK hP 0 rfl rfl 2 (by decide) (hts _ wm_2_111) (fun _ h9 => h9) rfl dX9_append_1 ?_
  refine va_getN (D := zD E) (ci := 6) (v := .ref (q0 22)) (C := RX6) (T := TX6) (N := 5) hx hb hts uw_X6 hown hK hP 1 rfl rfl 0 (by decide) (hts _ wm_2_58) (fun _ h9 => h9) rfl dX9_append_4 ?_
  refine lv_astore (lv' := [(6, .ref (q0 22)), (0, .ref (q0 0)), (1, .int p1), (2, .int p2), (3, .int p3), (4, .int p4), (5, .int p5)]) hx hb dX9_append_7 hl (by decide) rfl (fun ls hl => ?_)
  refine lv_aload hx hb dX9_append_9 (lv_at hl 0 rfl) ?_
  refine va_getN (D := zD E) (ci := 5) (v := .int u2.2.1) (C := RX5) (T := TX5) (N := 9) hx hb hts uw_X5 hown hK hP 2 rfl rfl 1 (by decide) (hts _ wm_2_6) (fun _ h9 => h9) rfl dX9_append_11 ?_
  refine lv_bipush (v := 20) hx hb dX9_append_14 rfl ?_
  refine lv_iadd hx hb dX9_append_16 ?_
  refine lv_sipush (v := 800) hx hb dX9_append_17 rfl ?_
  obtain ⟨hwt, hwf⟩ := hw
  refine lv_icmp_le (tgt := 25) hx hb dX9_append_20 (by decide) (fun c_1 => ?_) (fun c_1 => ?_)
  · have hw := hwt c_1
    refine lv_aload hx hb dX9_append_25 (lv_at hl 0 rfl) ?_
    refine lv_iload_n hx hb dX9_append_27 rfl (lv_at hl 2 rfl) ?_
    refine z_kv (z_rN (rest := []) hZ0 C0 hK hZ hA hP hD hS hl.1 (c_X5_addWord l E Z hZ0 (fun k => q0 (k + 22)) s.heap.size u2 p1 _ hw) yv_X9_60 [2, 3] rfl (by decide) (ci := 5) rfl rfl 2 rfl ⟨Nat.le_of_ble_eq_true rfl, Nat.le_of_ble_eq_true rfl⟩ ⟨rfl, rfl⟩ rfl rfl (Nat.le_of_ble_eq_true rfl) ⟨Nat.le_of_ble_eq_true rfl, Nat.le_of_ble_eq_true rfl⟩ dX9_append_28) hP hD hS hA [2, 3] [0, 1] [0, 1, 2, 3] rfl (wr := [_, _]) rfl (by decide) (by decide) (fun u => k_X9 E q0 u0 ++ (k_X6 E (fun k => q0 (k + 21)) u1 ++ (k_X5 E (fun k => q0 (k + 22)) u))) (fun u => rfl) (by decide) (fun u_2 H locs hw hP hD hS => ?_)
    refine lv_aload hx hb dX9_append_31 (lv_at hl 0 rfl) ?_
    refine lv_iload_n hx hb dX9_append_33 rfl (lv_at hl 3 rfl) ?_
    refine z_kv (z_rN (rest := []) hZ0 C0 hK hZ hA hP hD hS hl.1 (c_X5_addWord l E Z hZ0 (fun k => q0 (k + 22)) H.size u_2 p2 _ hw) yv_X9_60 [2, 3] rfl (by decide) (ci := 5) rfl rfl 2 rfl ⟨Nat.le_of_ble_eq_true rfl, Nat.le_of_ble_eq_true rfl⟩ ⟨rfl, rfl⟩ rfl rfl (Nat.le_of_ble_eq_true rfl) ⟨Nat.le_of_ble_eq_true rfl, Nat.le_of_ble_eq_true rfl⟩ dX9_append_34) hP hD hS hA [2, 3] [0, 1] [0, 1, 2, 3] rfl (wr := [_, _]) rfl (by decide) (by decide) (fun u => k_X9 E q0 u0 ++ (k_X6 E (fun k => q0 (k + 21)) u1 ++ (k_X5 E (fun k => q0 (k + 22)) u))) (fun u => rfl) (by decide) (fun u_4 H locs hw hP hD hS => ?_)
    refine lv_aload hx hb dX9_append_37 (lv_at hl 0 rfl) ?_
    refine lv_iload_n hx hb dX9_append_39 rfl (lv_at hl 4 rfl) ?_
    refine z_kv (z_rN (rest := []) hZ0 C0 hK hZ hA hP hD hS hl.1 (c_X5_addWord l E Z hZ0 (fun k => q0 (k + 22)) H.size u_4 p3 _ hw) yv_X9_60 [2, 3] rfl (by decide) (ci := 5) rfl rfl 2 rfl ⟨Nat.le_of_ble_eq_true rfl, Nat.le_of_ble_eq_true rfl⟩ ⟨rfl, rfl⟩ rfl rfl (Nat.le_of_ble_eq_true rfl) ⟨Nat.le_of_ble_eq_true rfl, Nat.le_of_ble_eq_true rfl⟩ dX9_append_40) hP hD hS hA [2, 3] [0, 1] [0, 1, 2, 3] rfl (wr := [_, _]) rfl (by decide) (by decide) (fun u => k_X9 E q0 u0 ++ (k_X6 E (fun k => q0 (k + 21)) u1 ++ (k_X5 E (fun k => q0 (k + 22)) u))) (fun u => rfl) (by decide) (fun u_6 H locs hw hP hD hS => ?_)
    refine lv_aload hx hb dX9_append_43 (lv_at hl 0 rfl) ?_
    refine lv_iload hx hb dX9_append_45 (lv_at hl 5 rfl) ?_
    refine z_kv (z_rN (rest := []) hZ0 C0 hK hZ hA hP hD hS hl.1 (c_X5_addWord l E Z hZ0 (fun k => q0 (k + 22)) H.size u_6 p4 _ hw) yv_X9_60 [2, 3] rfl (by decide) (ci := 5) rfl rfl 2 rfl ⟨Nat.le_of_ble_eq_true rfl, Nat.le_of_ble_eq_true rfl⟩ ⟨rfl, rfl⟩ rfl rfl (Nat.le_of_ble_eq_true rfl) ⟨Nat.le_of_ble_eq_true rfl, Nat.le_of_ble_eq_true rfl⟩ dX9_append_47) hP hD hS hA [2, 3] [0, 1] [0, 1, 2, 3] rfl (wr := [_, _]) rfl (by decide) (by decide) (fun u => k_X9 E q0 u0 ++ (k_X6 E (fun k => q0 (k + 21)) u1 ++ (k_X5 E (fun k => q0 (k + 22)) u))) (fun u => rfl) (by decide) (fun u_8 H locs hw hP hD hS => ?_)
    refine lv_aload hx hb dX9_append_50 (lv_at hl 0 rfl) ?_
    refine lv_iload hx hb dX9_append_52 (lv_at hl 6 rfl) ?_
    refine z_kv (z_rN (rest := []) hZ0 C0 hK hZ hA hP hD hS hl.1 (c_X5_addWord l E Z hZ0 (fun k => q0 (k + 22)) H.size u_8 p5 _ hw) yv_X9_60 [2, 3] rfl (by decide) (ci := 5) rfl rfl 2 rfl ⟨Nat.le_of_ble_eq_true rfl, Nat.le_of_ble_eq_true rfl⟩ ⟨rfl, rfl⟩ rfl rfl (Nat.le_of_ble_eq_true rfl) ⟨Nat.le_of_ble_eq_true rfl, Nat.le_of_ble_eq_true rfl⟩ dX9_append_54) hP hD hS hA [2, 3] [0, 1] [0, 1, 2, 3] rfl (wr := [_, _]) rfl (by decide) (by decide) (fun u => k_X9 E q0 u0 ++ (k_X6 E (fun k => q0 (k + 21)) u1 ++ (k_X5 E (fun k => q0 (k + 22)) u))) (fun u => rfl) (by decide) (fun u_10 H locs hw hP hD hS => ?_)
    refine lv_aload hx hb dX9_append_57 (lv_at hl 0 rfl) ?_
    refine va_getN (D := zD E) (ci := 5) (v := .int u_10.2.1) (C := RX5) (T := TX5) (N := 9) hx hb hts uw_X5 hown hK hP 2 rfl rfl 1 (by decide) (hts _ wm_2_6) (fun _ h9 => h9) rfl dX9_append_59 ?_
    exact z_iret (k := (fun u => k_X9 E q0 u.1 ++ (k_X6 E (fun k => q0 (k + 21)) u.2.1 ++ (k_X5 E (fun k => q0 (k + 22)) u.2.2)))) (u0, u1, u_10) C0 hP hD hS hw dX9_append_62
  · have hw := hwf c_1
    refine lv_iconst (v := (-1)) hx hb dX9_append_23 rfl ?_
    exact z_iret (k := (fun u => k_X9 E q0 u.1 ++ (k_X6 E (fun k => q0 (k + 21)) u.2.1 ++ (k_X5 E (fun k => q0 (k + 22)) u.2.2)))) (u0, u1, u2) C0 hP hD hS hw dX9_append_24
abbrev r_X9_errorOffset : Room := { frames := 0, cells := 0, slots := 0, locals := 0 }
def wp_X9_errorOffset (u0 : S_X9) (post : Int32 → S_X9 → Prop) : Prop := post u0 u0
set_option maxHeartbeats 4000000 in
set_option maxRecDepth 100000 in
theorem c_X9_errorOffset (l : Launch) (E : zE) (Z : zZ) (hZ0 : zSt Z) (q0 : Nat → Nat) (sz : Nat) (u0 : S_X9) (post : Int32 → S_X9 → Prop) (hw : wp_X9_errorOffset u0 post) : Met l yX9_errorOffset (zws yX9_errorOffset cX9_errorOffset 1 (some .int)) r_X9_errorOffset (va_Pc [.ref (q0 0)] (zPre Z E (k_X9 E q0 u0) sz)) (va_Qi post (zAt E (va_A (k_X9 E q0 u0) sz) (fun u => k_X9 E q0 u)) (va_A (k_X9 E q0 u0) sz)) 0 0 (va_A (k_X9 E q0 u0) sz) := by
  refine z_ofW (Qf := fun A => va_Qi post (zAt E A (fun u => k_X9 E q0 u)) A) (by decide) (Nat.le_of_ble_eq_true rfl) ?_
  intro p e s m args below meth c A ls C0 hA hK hZ hP hD hS hl
  obtain ⟨hx, hb, hml, hr, hown, hts, hlocks, hin⟩ := id C0
  have hown : s.vm.findClass RX9 = some m.cls := hown
  have hl : lv_has ls 1 [(0, .ref (q0 0))] := hl
  refine lv_aload_n hx hb dX9_errorOffset_0 rfl (lv_at hl 0 rfl) ?_
  refine va_get (D := zD E) (ci := 9) (v := .int u0) (C := RX9) (T := TX9) (N := 7) hx hb hts uw_X9 hown hK hP 0 rfl rfl 3 (by decide) (hts _ wm_2_112) (fun _ h9 => h9) rfl dX9_errorOffset_1 ?_
  exact z_iret (k := (fun u => k_X9 E q0 u)) u0 C0 hP hD hS hw dX9_errorOffset_4
abbrev r_X9_periodCount : Room := { frames := 0, cells := 0, slots := 0, locals := 0 }
def wp_X9_periodCount (u0 : S_X9) (u1 : S_X2) (post : Int32 → (S_X9 × S_X2) → Prop) : Prop := post u1.1.1 (u0, u1)
set_option maxHeartbeats 4000000 in
set_option maxRecDepth 100000 in
theorem c_X9_periodCount (l : Launch) (E : zE) (Z : zZ) (hZ0 : zSt Z) (q0 : Nat → Nat) (sz : Nat) (u0 : S_X9) (u1 : S_X2) (post : Int32 → (S_X9 × S_X2) → Prop) (hw : wp_X9_periodCount u0 u1 post) : Met l yX9_periodCount (zws yX9_periodCount cX9_periodCount 1 (some .int)) r_X9_periodCount (va_Pc [.ref (q0 0)] (zPre Z E (k_X9 E q0 u0 ++ (k_X2 E (fun k => q0 (k + 1)) u1)) sz)) (va_Qi post (zAt E (va_A (k_X9 E q0 u0 ++ (k_X2 E (fun k => q0 (k + 1)) u1)) sz) (fun u => k_X9 E q0 u.1 ++ (k_X2 E (fun k => q0 (k + 1)) u.2))) (va_A (k_X9 E q0 u0 ++ (k_X2 E (fun k => q0 (k + 1)) u1)) sz)) 0 0 (va_A (k_X9 E q0 u0 ++ (k_X2 E (fun k => q0 (k + 1)) u1)) sz) := by
  refine z_ofW (Qf := fun A => va_Qi post (zAt E A (fun u => k_X9 E q0 u.1 ++ (k_X2 E (fun k => q0 (k + 1)) u.2))) A) (by decide) (Nat.le_of_ble_eq_true rfl) ?_
  intro p e s m args below meth c A ls C0 hA hK hZ hP hD hS hl
  obtain ⟨hx, hb, hml, hr, hown, hts, hlocks, hin⟩ := id C0
  have hown : s.vm.findClass RX9 = some m.cls := hown
  have hl : lv_has ls 1 [(0, .ref (q0 0))] := hl
  refine lv_aload_n hx hb dX9_periodCount_0 rfl (lv_at hl 0 rfl) ?_
  refine va_get (D := zD E) (ci := 9) (v := .ref (q0 1)) (C := RX9) (T := TX9) (N := 7) hx hb hts uw_X9 hown hK hP 0 rfl rfl 0 (by decide) (hts _ wm_2_109) (fun _ h9 => h9) rfl dX9_periodCount_1 ?_
  refine va_getN (D := zD E) (ci := 2) (v := .ref (q0 2)) (C := RX2) (T := TX2) (N := 3) hx hb hts uw_X2 hown hK hP 1 rfl rfl 0 (by decide) (hts _ wm_1_201) (fun _ h9 => h9) rfl dX9_periodCount_4 ?_
  refine va_getN (D := zD E) (ci := 7) (v := .int u1.1.1) (C := RX7) (T := TX7) (N := 16) hx hb hts uw_X7 hown hK hP 2 rfl rfl 0 (by decide) (hts _ wm_1_47) (fun _ h9 => h9) rfl dX9_periodCount_7 ?_
  exact z_iret (k := (fun u => k_X9 E q0 u.1 ++ (k_X2 E (fun k => q0 (k + 1)) u.2))) (u0, u1) C0 hP hD hS hw dX9_periodCount_10
abbrev r_X9_clock : Room := { frames := 0, cells := 0, slots := 0, locals := 0 }
def wp_X9_clock (u0 : S_X9) (u1 : S_X2) (post : Int32 → (S_X9 × S_X2) → Prop) : Prop := post u1.2.1.1 (u0, u1)
set_option maxHeartbeats 4000000 in
set_option maxRecDepth 100000 in
theorem c_X9_clock (l : Launch) (E : zE) (Z : zZ) (hZ0 : zSt Z) (q0 : Nat → Nat) (sz : Nat) (u0 : S_X9) (u1 : S_X2) (post : Int32 → (S_X9 × S_X2) → Prop) (hw : wp_X9_clock u0 u1 post) : Met l yX9_clock (zws yX9_clock cX9_clock 1 (some .int)) r_X9_clock (va_Pc [.ref (q0 0)] (zPre Z E (k_X9 E q0 u0 ++ (k_X2 E (fun k => q0 (k + 1)) u1)) sz)) (va_Qi post (zAt E (va_A (k_X9 E q0 u0 ++ (k_X2 E (fun k => q0 (k + 1)) u1)) sz) (fun u => k_X9 E q0 u.1 ++ (k_X2 E (fun k => q0 (k + 1)) u.2))) (va_A (k_X9 E q0 u0 ++ (k_X2 E (fun k => q0 (k + 1)) u1)) sz)) 0 0 (va_A (k_X9 E q0 u0 ++ (k_X2 E (fun k => q0 (k + 1)) u1)) sz) := by
  refine z_ofW (Qf := fun A => va_Qi post (zAt E A (fun u => k_X9 E q0 u.1 ++ (k_X2 E (fun k => q0 (k + 1)) u.2))) A) (by decide) (Nat.le_of_ble_eq_true rfl) ?_
  intro p e s m args below meth c A ls C0 hA hK hZ hP hD hS hl
  obtain ⟨hx, hb, hml, hr, hown, hts, hlocks, hin⟩ := id C0
  have hown : s.vm.findClass RX9 = some m.cls := hown
  have hl : lv_has ls 1 [(0, .ref (q0 0))] := hl
  refine lv_aload_n hx hb dX9_clock_0 rfl (lv_at hl 0 rfl) ?_
  refine va_get (D := zD E) (ci := 9) (v := .ref (q0 1)) (C := RX9) (T := TX9) (N := 7) hx hb hts uw_X9 hown hK hP 0 rfl rfl 0 (by decide) (hts _ wm_2_109) (fun _ h9 => h9) rfl dX9_clock_1 ?_
  refine va_getN (D := zD E) (ci := 2) (v := .ref (q0 7)) (C := RX2) (T := TX2) (N := 3) hx hb hts uw_X2 hown hK hP 1 rfl rfl 1 (by decide) (hts _ wm_1_204) (fun _ h9 => h9) rfl dX9_clock_4 ?_
  refine va_getN (D := zD E) (ci := 0) (v := .int u1.2.1.1) (C := RX0) (T := TX0) (N := 7) hx hb hts uw_X0 hown hK hP 7 rfl rfl 0 (by decide) (hts _ wm_1_129) (fun _ h9 => h9) rfl dX9_clock_7 ?_
  exact z_iret (k := (fun u => k_X9 E q0 u.1 ++ (k_X2 E (fun k => q0 (k + 1)) u.2))) (u0, u1) C0 hP hD hS hw dX9_clock_10
abbrev r_X9_balance : Room := { frames := 1, cells := 0, slots := 0, locals := 24 }
def wp_X9_balance (u0 : S_X9) (u1 : S_X2) (post : Int64 → (S_X9 × S_X2) → Prop) : Prop := wp_X0_invoiceSum u1.2.1 u1.1.1 (fun r_2 u_1 => wp_X1_unwaivedSum u1.2.2 (fun r_4 u_3 => post (r_2 + r_4) (u0, (u1.1, u_1, u_3))))
set_option maxHeartbeats 4000000 in
set_option maxRecDepth 100000 in
theorem c_X9_balance (l : Launch) (E : zE) (Z : zZ) (hZ0 : zSt Z) (q0 : Nat → Nat) (sz : Nat) (u0 : S_X9) (u1 : S_X2) (post : Int64 → (S_X9 × S_X2) → Prop) (hw : wp_X9_balance u0 u1 post) : Met l yX9_balance (zws yX9_balance cX9_balance 1 (some .long)) r_X9_balance (va_Pc [.ref (q0 0)] (zPre Z E (k_X9 E q0 u0 ++ (k_X2 E (fun k => q0 (k + 1)) u1)) sz)) (va_Ql post (zAt E (va_A (k_X9 E q0 u0 ++ (k_X2 E (fun k => q0 (k + 1)) u1)) sz) (fun u => k_X9 E q0 u.1 ++ (k_X2 E (fun k => q0 (k + 1)) u.2))) (va_A (k_X9 E q0 u0 ++ (k_X2 E (fun k => q0 (k + 1)) u1)) sz)) 0 0 (va_A (k_X9 E q0 u0 ++ (k_X2 E (fun k => q0 (k + 1)) u1)) sz) := by
  refine z_ofW (Qf := fun A => va_Ql post (zAt E A (fun u => k_X9 E q0 u.1 ++ (k_X2 E (fun k => q0 (k + 1)) u.2))) A) (by decide) (Nat.le_of_ble_eq_true rfl) ?_
  intro p e s m args below meth c A ls C0 hA hK hZ hP hD hS hl
  obtain ⟨hx, hb, hml, hr, hown, hts, hlocks, hin⟩ := id C0
  have hown : s.vm.findClass RX9 = some m.cls := hown
  have hl : lv_has ls 1 [(0, .ref (q0 0))] := hl
  refine lv_aload_n hx hb dX9_balance_0 rfl (lv_at hl 0 rfl) ?_
  refine va_get (D := zD E) (ci := 9) (v := .ref (q0 1)) (C := RX9) (T := TX9) (N := 7) hx hb hts uw_X9 hown hK hP 0 rfl rfl 0 (by decide) (hts _ wm_2_109) (fun _ h9 => h9) rfl dX9_balance_1 ?_
  refine va_getN (D := zD E) (ci := 2) (v := .ref (q0 7)) (C := RX2) (T := TX2) (N := 3) hx hb hts uw_X2 hown hK hP 1 rfl rfl 1 (by decide) (hts _ wm_1_204) (fun _ h9 => h9) rfl dX9_balance_4 ?_
  refine lv_aload_n hx hb dX9_balance_7 rfl (lv_at hl 0 rfl) ?_
  refine va_get (D := zD E) (ci := 9) (v := .ref (q0 1)) (C := RX9) (T := TX9) (N := 7) hx hb hts uw_X9 hown hK hP 0 rfl rfl 0 (by decide) (hts _ wm_2_109) (fun _ h9 => h9) rfl dX9_balance_8 ?_
  refine va_getN (D := zD E) (ci := 2) (v := .ref (q0 2)) (C := RX2) (T := TX2) (N := 3) hx hb hts uw_X2 hown hK hP 1 rfl rfl 0 (by decide) (hts _ wm_1_201) (fun _ h9 => h9) rfl dX9_balance_11 ?_
  refine va_getN (D := zD E) (ci := 7) (v := .int u1.1.1) (C := RX7) (T := TX7) (N := 16) hx hb hts uw_X7 hown hK hP 2 rfl rfl 0 (by decide) (hts _ wm_1_47) (fun _ h9 => h9) rfl dX9_balance_14 ?_
  refine z_kl (z_rN (rest := []) hZ0 C0 hK hZ hA hP hD hS hl.1 (c_X0_invoiceSum l E Z hZ0 (fun k => q0 (k + 7)) s.heap.size u1.2.1 u1.1.1 _ hw) yv_X9_126 [7, 8, 9, 10, 11, 12, 13] rfl (by decide) (ci := 0) rfl rfl 7 rfl ⟨Nat.le_of_ble_eq_true rfl, Nat.le_of_ble_eq_true rfl⟩ ⟨rfl, rfl⟩ rfl rfl (Nat.le_of_ble_eq_true rfl) ⟨Nat.le_of_ble_eq_true rfl, Nat.le_of_ble_eq_true rfl⟩ dX9_balance_17) hP hD hS hA [7, 8, 9, 10, 11, 12, 13] [0, 1, 2, 3, 4, 5, 6, 14, 15, 16, 17, 18] [0, 1, 2, 3, 4, 5, 6, 12, 13, 14, 15, 16, 17, 18, 7, 8, 9, 10, 11] rfl (wr := [_, _, _, _, _, _, _, _, _, _, _, _]) rfl (by decide) (by decide) (fun u => k_X9 E q0 u0 ++ (k_X2 E (fun k => q0 (k + 1)) (u1.1, u, u1.2.2))) (fun u => rfl) (by decide) (fun r_2 u_1 H locs hw hP hD hS => ?_)
  refine lv_aload_n hx hb dX9_balance_20 rfl (lv_at hl 0 rfl) ?_
  refine va_get (D := zD E) (ci := 9) (v := .ref (q0 1)) (C := RX9) (T := TX9) (N := 7) hx hb hts uw_X9 hown hK hP 0 rfl rfl 0 (by decide) (hts _ wm_2_109) (fun _ h9 => h9) rfl dX9_balance_21 ?_
  refine va_getN (D := zD E) (ci := 2) (v := .ref (q0 14)) (C := RX2) (T := TX2) (N := 3) hx hb hts uw_X2 hown hK hP 1 rfl rfl 2 (by decide) (hts _ wm_1_206) (fun _ h9 => h9) rfl dX9_balance_24 ?_
  refine z_kl (z_rN (rest := [.long r_2]) hZ0 C0 hK hZ hA hP hD hS hl.1 (c_X1_unwaivedSum l E Z hZ0 (fun k => q0 (k + 14)) H.size u1.2.2 _ hw) yv_X9_134 [14, 15, 16, 17, 18] rfl (by decide) (ci := 1) rfl rfl 14 rfl ⟨Nat.le_of_ble_eq_true rfl, Nat.le_of_ble_eq_true rfl⟩ ⟨rfl, rfl⟩ rfl rfl (Nat.le_of_ble_eq_true rfl) ⟨Nat.le_of_ble_eq_true rfl, Nat.le_of_ble_eq_true rfl⟩ dX9_balance_27) hP hD hS hA [14, 15, 16, 17, 18] [0, 1, 2, 3, 4, 5, 6, 7, 8, 9, 10, 11, 12, 13] [0, 1, 2, 3, 4, 5, 6, 7, 8, 9, 10, 11, 12, 13, 14, 15, 16, 17, 18] rfl (wr := [_, _, _, _, _, _, _, _, _, _, _, _, _, _]) rfl (by decide) (by decide) (fun u => k_X9 E q0 u0 ++ (k_X2 E (fun k => q0 (k + 1)) (u1.1, u_1, u))) (fun u => rfl) (by decide) (fun r_4 u_3 H locs hw hP hD hS => ?_)
  refine lv_ladd hx hb dX9_balance_30 ?_
  exact z_lret (k := (fun u => k_X9 E q0 u.1 ++ (k_X2 E (fun k => q0 (k + 1)) u.2))) (u0, (u1.1, u_1, u_3)) C0 hP hD hS hw dX9_balance_31
abbrev r_X9_breachCount : Room := { frames := 0, cells := 0, slots := 0, locals := 0 }
def wp_X9_breachCount (u0 : S_X9) (u1 : S_X2) (post : Int32 → (S_X9 × S_X2) → Prop) : Prop := post u1.2.2.1 (u0, u1)
set_option maxHeartbeats 4000000 in
set_option maxRecDepth 100000 in
theorem c_X9_breachCount (l : Launch) (E : zE) (Z : zZ) (hZ0 : zSt Z) (q0 : Nat → Nat) (sz : Nat) (u0 : S_X9) (u1 : S_X2) (post : Int32 → (S_X9 × S_X2) → Prop) (hw : wp_X9_breachCount u0 u1 post) : Met l yX9_breachCount (zws yX9_breachCount cX9_breachCount 1 (some .int)) r_X9_breachCount (va_Pc [.ref (q0 0)] (zPre Z E (k_X9 E q0 u0 ++ (k_X2 E (fun k => q0 (k + 1)) u1)) sz)) (va_Qi post (zAt E (va_A (k_X9 E q0 u0 ++ (k_X2 E (fun k => q0 (k + 1)) u1)) sz) (fun u => k_X9 E q0 u.1 ++ (k_X2 E (fun k => q0 (k + 1)) u.2))) (va_A (k_X9 E q0 u0 ++ (k_X2 E (fun k => q0 (k + 1)) u1)) sz)) 0 0 (va_A (k_X9 E q0 u0 ++ (k_X2 E (fun k => q0 (k + 1)) u1)) sz) := by
  refine z_ofW (Qf := fun A => va_Qi post (zAt E A (fun u => k_X9 E q0 u.1 ++ (k_X2 E (fun k => q0 (k + 1)) u.2))) A) (by decide) (Nat.le_of_ble_eq_true rfl) ?_
  intro p e s m args below meth c A ls C0 hA hK hZ hP hD hS hl
  obtain ⟨hx, hb, hml, hr, hown, hts, hlocks, hin⟩ := id C0
  have hown : s.vm.findClass RX9 = some m.cls := hown
  have hl : lv_has ls 1 [(0, .ref (q0 0))] := hl
  refine lv_aload_n hx hb dX9_breachCount_0 rfl (lv_at hl 0 rfl) ?_
  refine va_get (D := zD E) (ci := 9) (v := .ref (q0 1)) (C := RX9) (T := TX9) (N := 7) hx hb hts uw_X9 hown hK hP 0 rfl rfl 0 (by decide) (hts _ wm_2_109) (fun _ h9 => h9) rfl dX9_breachCount_1 ?_
  refine va_getN (D := zD E) (ci := 2) (v := .ref (q0 14)) (C := RX2) (T := TX2) (N := 3) hx hb hts uw_X2 hown hK hP 1 rfl rfl 2 (by decide) (hts _ wm_1_206) (fun _ h9 => h9) rfl dX9_breachCount_4 ?_
  refine va_getN (D := zD E) (ci := 1) (v := .int u1.2.2.1) (C := RX1) (T := TX1) (N := 7) hx hb hts uw_X1 hown hK hP 14 rfl rfl 0 (by decide) (hts _ wm_1_168) (fun _ h9 => h9) rfl dX9_breachCount_7 ?_
  exact z_iret (k := (fun u => k_X9 E q0 u.1 ++ (k_X2 E (fun k => q0 (k + 1)) u.2))) (u0, u1) C0 hP hD hS hw dX9_breachCount_10
abbrev r_X9_allBreaches : Room := { frames := 0, cells := 0, slots := 0, locals := 0 }
def wp_X9_allBreaches (u0 : S_X9) (u1 : S_X2) (post : Int32 → (S_X9 × S_X2) → Prop) : Prop := post u1.2.2.2.1 (u0, u1)
set_option maxHeartbeats 4000000 in
set_option maxRecDepth 100000 in
theorem c_X9_allBreaches (l : Launch) (E : zE) (Z : zZ) (hZ0 : zSt Z) (q0 : Nat → Nat) (sz : Nat) (u0 : S_X9) (u1 : S_X2) (post : Int32 → (S_X9 × S_X2) → Prop) (hw : wp_X9_allBreaches u0 u1 post) : Met l yX9_allBreaches (zws yX9_allBreaches cX9_allBreaches 1 (some .int)) r_X9_allBreaches (va_Pc [.ref (q0 0)] (zPre Z E (k_X9 E q0 u0 ++ (k_X2 E (fun k => q0 (k + 1)) u1)) sz)) (va_Qi post (zAt E (va_A (k_X9 E q0 u0 ++ (k_X2 E (fun k => q0 (k + 1)) u1)) sz) (fun u => k_X9 E q0 u.1 ++ (k_X2 E (fun k => q0 (k + 1)) u.2))) (va_A (k_X9 E q0 u0 ++ (k_X2 E (fun k => q0 (k + 1)) u1)) sz)) 0 0 (va_A (k_X9 E q0 u0 ++ (k_X2 E (fun k => q0 (k + 1)) u1)) sz) := by
  refine z_ofW (Qf := fun A => va_Qi post (zAt E A (fun u => k_X9 E q0 u.1 ++ (k_X2 E (fun k => q0 (k + 1)) u.2))) A) (by decide) (Nat.le_of_ble_eq_true rfl) ?_
  intro p e s m args below meth c A ls C0 hA hK hZ hP hD hS hl
  obtain ⟨hx, hb, hml, hr, hown, hts, hlocks, hin⟩ := id C0
  have hown : s.vm.findClass RX9 = some m.cls := hown
  have hl : lv_has ls 1 [(0, .ref (q0 0))] := hl
  refine lv_aload_n hx hb dX9_allBreaches_0 rfl (lv_at hl 0 rfl) ?_
  refine va_get (D := zD E) (ci := 9) (v := .ref (q0 1)) (C := RX9) (T := TX9) (N := 7) hx hb hts uw_X9 hown hK hP 0 rfl rfl 0 (by decide) (hts _ wm_2_109) (fun _ h9 => h9) rfl dX9_allBreaches_1 ?_
  refine va_getN (D := zD E) (ci := 2) (v := .ref (q0 14)) (C := RX2) (T := TX2) (N := 3) hx hb hts uw_X2 hown hK hP 1 rfl rfl 2 (by decide) (hts _ wm_1_206) (fun _ h9 => h9) rfl dX9_allBreaches_4 ?_
  refine va_getN (D := zD E) (ci := 1) (v := .int u1.2.2.2.1) (C := RX1) (T := TX1) (N := 7) hx hb hts uw_X1 hown hK hP 14 rfl rfl 1 (by decide) (hts _ wm_1_170) (fun _ h9 => h9) rfl dX9_allBreaches_7 ?_
  exact z_iret (k := (fun u => k_X9 E q0 u.1 ++ (k_X2 E (fun k => q0 (k + 1)) u.2))) (u0, u1) C0 hP hD hS hw dX9_allBreaches_10
abbrev r_X9_waiversLeft : Room := { frames := 0, cells := 0, slots := 0, locals := 0 }
def wp_X9_waiversLeft (u0 : S_X9) (u1 : S_X2) (post : Int32 → (S_X9 × S_X2) → Prop) : Prop := post (u1.1.2.2.2.2.2.2.2.2.1 - u1.2.2.2.2.1) (u0, u1)
set_option maxHeartbeats 4000000 in
set_option maxRecDepth 100000 in
theorem c_X9_waiversLeft (l : Launch) (E : zE) (Z : zZ) (hZ0 : zSt Z) (q0 : Nat → Nat) (sz : Nat) (u0 : S_X9) (u1 : S_X2) (post : Int32 → (S_X9 × S_X2) → Prop) (hw : wp_X9_waiversLeft u0 u1 post) : Met l yX9_waiversLeft (zws yX9_waiversLeft cX9_waiversLeft 1 (some .int)) r_X9_waiversLeft (va_Pc [.ref (q0 0)] (zPre Z E (k_X9 E q0 u0 ++ (k_X2 E (fun k => q0 (k + 1)) u1)) sz)) (va_Qi post (zAt E (va_A (k_X9 E q0 u0 ++ (k_X2 E (fun k => q0 (k + 1)) u1)) sz) (fun u => k_X9 E q0 u.1 ++ (k_X2 E (fun k => q0 (k + 1)) u.2))) (va_A (k_X9 E q0 u0 ++ (k_X2 E (fun k => q0 (k + 1)) u1)) sz)) 0 0 (va_A (k_X9 E q0 u0 ++ (k_X2 E (fun k => q0 (k + 1)) u1)) sz) := by
  refine z_ofW (Qf := fun A => va_Qi post (zAt E A (fun u => k_X9 E q0 u.1 ++ (k_X2 E (fun k => q0 (k + 1)) u.2))) A) (by decide) (Nat.le_of_ble_eq_true rfl) ?_
  intro p e s m args below meth c A ls C0 hA hK hZ hP hD hS hl
  obtain ⟨hx, hb, hml, hr, hown, hts, hlocks, hin⟩ := id C0
  have hown : s.vm.findClass RX9 = some m.cls := hown
  have hl : lv_has ls 1 [(0, .ref (q0 0))] := hl
  refine lv_aload_n hx hb dX9_waiversLeft_0 rfl (lv_at hl 0 rfl) ?_
  refine va_get (D := zD E) (ci := 9) (v := .ref (q0 1)) (C := RX9) (T := TX9) (N := 7) hx hb hts uw_X9 hown hK hP 0 rfl rfl 0 (by decide) (hts _ wm_2_109) (fun _ h9 => h9) rfl dX9_waiversLeft_1 ?_
  refine va_getN (D := zD E) (ci := 2) (v := .ref (q0 2)) (C := RX2) (T := TX2) (N := 3) hx hb hts uw_X2 hown hK hP 1 rfl rfl 0 (by decide) (hts _ wm_1_201) (fun _ h9 => h9) rfl dX9_waiversLeft_4 ?_
  refine va_getN (D := zD E) (ci := 7) (v := .int u1.1.2.2.2.2.2.2.2.2.1) (C := RX7) (T := TX7) (N := 16) hx hb hts uw_X7 hown hK hP 2 rfl rfl 8 (by decide) (hts _ wm_1_74) (fun _ h9 => h9) rfl dX9_waiversLeft_7 ?_
  refine lv_aload_n hx hb dX9_waiversLeft_10 rfl (lv_at hl 0 rfl) ?_
  refine va_get (D := zD E) (ci := 9) (v := .ref (q0 1)) (C := RX9) (T := TX9) (N := 7) hx hb hts uw_X9 hown hK hP 0 rfl rfl 0 (by decide) (hts _ wm_2_109) (fun _ h9 => h9) rfl dX9_waiversLeft_11 ?_
  refine va_getN (D := zD E) (ci := 2) (v := .ref (q0 14)) (C := RX2) (T := TX2) (N := 3) hx hb hts uw_X2 hown hK hP 1 rfl rfl 2 (by decide) (hts _ wm_1_206) (fun _ h9 => h9) rfl dX9_waiversLeft_14 ?_
  refine va_getN (D := zD E) (ci := 1) (v := .int u1.2.2.2.2.1) (C := RX1) (T := TX1) (N := 7) hx hb hts uw_X1 hown hK hP 14 rfl rfl 2 (by decide) (hts _ wm_1_173) (fun _ h9 => h9) rfl dX9_waiversLeft_17 ?_
  refine lv_isub hx hb dX9_waiversLeft_20 ?_
  exact z_iret (k := (fun u => k_X9 E q0 u.1 ++ (k_X2 E (fun k => q0 (k + 1)) u.2))) (u0, u1) C0 hP hD hS hw dX9_waiversLeft_21
abbrev r_X9_checksum : Room := { frames := 2, cells := 0, slots := 0, locals := 44 }
def wp_X9_checksum (u0 : S_X9) (u1 : S_X2) (post : Int64 → (S_X9 × S_X2) → Prop) : Prop := wp_X9_balance u0 u1 (fun r_2 u_1 => ∀ x_3 : Int64, x_3 = (((31 : Int64) * u1.2.1.1.toInt64) + r_2) → (∀ x_4 : Int64, x_4 = (((31 : Int64) * x_3) + u_1.2.2.2.2.1.toInt64) → (wp_X0_mixInto u_1.2.2.1 x_4 u_1.2.1.1 (fun r_6 u_5 => wp_X1_mixInto u_1.2.2.2 r_6 (fun r_8 u_7 => post r_8 (u_1.1, (u_1.2.1, u_5, u_7)))))))
set_option maxHeartbeats 4000000 in
set_option maxRecDepth 100000 in
theorem c_X9_checksum (l : Launch) (E : zE) (Z : zZ) (hZ0 : zSt Z) (q0 : Nat → Nat) (sz : Nat) (u0 : S_X9) (u1 : S_X2) (post : Int64 → (S_X9 × S_X2) → Prop) (hw : wp_X9_checksum u0 u1 post) : Met l yX9_checksum (zws yX9_checksum cX9_checksum 3 (some .long)) r_X9_checksum (va_Pc [.ref (q0 0)] (zPre Z E (k_X9 E q0 u0 ++ (k_X2 E (fun k => q0 (k + 1)) u1)) sz)) (va_Ql post (zAt E (va_A (k_X9 E q0 u0 ++ (k_X2 E (fun k => q0 (k + 1)) u1)) sz) (fun u => k_X9 E q0 u.1 ++ (k_X2 E (fun k => q0 (k + 1)) u.2))) (va_A (k_X9 E q0 u0 ++ (k_X2 E (fun k => q0 (k + 1)) u1)) sz)) 0 0 (va_A (k_X9 E q0 u0 ++ (k_X2 E (fun k => q0 (k + 1)) u1)) sz) := by
  refine z_ofW (Qf := fun A => va_Ql post (zAt E A (fun u => k_X9 E q0 u.1 ++ (k_X2 E (fun k => q0 (k + 1)) u.2))) A) (by decide) (Nat.le_of_ble_eq_true rfl) ?_
  intro p e s m args below meth c A ls C0 hA hK hZ hP hD hS hl
  obtain ⟨hx, hb, hml, hr, hown, hts, hlocks, hin⟩ := id C0
  have hown : s.vm.findClass RX9 = some m.cls := hown
  have hl : lv_has ls 3 [(0, .ref (q0 0))] := hl
  refine lv_aload_n hx hb dX9_checksum_0 rfl (lv_at hl 0 rfl) ?_
  refine va_get (D := zD E) (ci := 9) (v := .ref (q0 1)) (C := RX9) (T := TX9) (N := 7) hx hb hts uw_X9 hown hK hP 0 rfl rfl 0 (by decide) (hts _ wm_2_109) (fun _ h9 => h9) rfl dX9_checksum_1 ?_
  refine va_getN (D := zD E) (ci := 2) (v := .ref (q0 7)) (C := RX2) (T := TX2) (N := 3) hx hb hts uw_X2 hown hK hP 1 rfl rfl 1 (by decide) (hts _ wm_1_204) (fun _ h9 => h9) rfl dX9_checksum_4 ?_
  refine va_getN (D := zD E) (ci := 0) (v := .int u1.2.1.1) (C := RX0) (T := TX0) (N := 7) hx hb hts uw_X0 hown hK hP 7 rfl rfl 0 (by decide) (hts _ wm_1_129) (fun _ h9 => h9) rfl dX9_checksum_7 ?_
  refine lv_i2l hx hb dX9_checksum_10 rfl ?_
  refine lv_lstore_n (lv' := [(1, .long u1.2.1.1.toInt64), (0, .ref (q0 0))]) hx hb dX9_checksum_11 rfl hl (by decide) rfl (fun ls hl => ?_)
  refine lv_ldc2 hx hb hown (hts _ wm_3_41) dX9_checksum_12 ?_
  refine lv_lload_n hx hb dX9_checksum_15 rfl (lv_at hl 0 rfl) ?_
  refine lv_lmul hx hb dX9_checksum_16 ?_
  refine lv_aload_n hx hb dX9_checksum_17 rfl (lv_at hl 1 rfl) ?_
  refine z_kl (z_rV (rest := [.long ((31 : Int64) * u1.2.1.1.toInt64)]) hZ0 C0 hK hZ hA hP hD hS hl.1 (c_X9_balance l E Z hZ0 q0 s.heap.size u0 u1 _ hw) yv_X9_253 [0, 1, 2, 3, 4, 5, 6, 7, 8, 9, 10, 11, 12, 13, 14, 15, 16, 17, 18] rfl (by decide) (ci := 9) rfl rfl 0 rfl ⟨Nat.le_of_ble_eq_true rfl, Nat.le_of_ble_eq_true rfl⟩ ⟨rfl, rfl⟩ rfl rfl (Nat.le_of_ble_eq_true rfl) ⟨Nat.le_of_ble_eq_true rfl, Nat.le_of_ble_eq_true rfl⟩ dX9_checksum_18) hP hD hS hA [0, 1, 2, 3, 4, 5, 6, 7, 8, 9, 10, 11, 12, 13, 14, 15, 16, 17, 18] [] [0, 1, 2, 3, 4, 5, 6, 7, 8, 9, 10, 11, 12, 13, 14, 15, 16, 17, 18] rfl (wr := []) rfl (by decide) (by decide) (fun u => k_X9 E q0 u.1 ++ (k_X2 E (fun k => q0 (k + 1)) u.2)) (fun u => rfl) (by decide) (fun r_2 u_1 H locs hw hP hD hS => ?_)
  refine lv_ladd hx hb dX9_checksum_21 ?_
  refine lv_topl (fun x_3 ex_3 => ?_)
  have hw := hw x_3 ex_3
  refine lv_lstore_n (lv' := [(1, .long x_3), (0, .ref (q0 0))]) hx hb dX9_checksum_22 rfl hl (by decide) rfl (fun ls hl => ?_)
  refine lv_ldc2 hx hb hown (hts _ wm_3_41) dX9_checksum_23 ?_
  refine lv_lload_n hx hb dX9_checksum_26 rfl (lv_at hl 0 rfl) ?_
  refine lv_lmul hx hb dX9_checksum_27 ?_
  refine lv_aload_n hx hb dX9_checksum_28 rfl (lv_at hl 1 rfl) ?_
  refine va_get (D := zD E) (ci := 9) (v := .ref (q0 1)) (C := RX9) (T := TX9) (N := 7) hx hb hts uw_X9 hown hK hP 0 rfl rfl 0 (by decide) (hts _ wm_2_109) (fun _ h9 => h9) rfl dX9_checksum_29 ?_
  refine va_getN (D := zD E) (ci := 2) (v := .ref (q0 14)) (C := RX2) (T := TX2) (N := 3) hx hb hts uw_X2 hown hK hP 1 rfl rfl 2 (by decide) (hts _ wm_1_206) (fun _ h9 => h9) rfl dX9_checksum_32 ?_
  refine va_getN (D := zD E) (ci := 1) (v := .int u_1.2.2.2.2.1) (C := RX1) (T := TX1) (N := 7) hx hb hts uw_X1 hown hK hP 14 rfl rfl 1 (by decide) (hts _ wm_1_170) (fun _ h9 => h9) rfl dX9_checksum_35 ?_
  refine lv_i2l hx hb dX9_checksum_38 rfl ?_
  refine lv_ladd hx hb dX9_checksum_39 ?_
  refine lv_topl (fun x_4 ex_4 => ?_)
  have hw := hw x_4 ex_4
  refine lv_lstore_n (lv' := [(1, .long x_4), (0, .ref (q0 0))]) hx hb dX9_checksum_40 rfl hl (by decide) rfl (fun ls hl => ?_)
  refine lv_aload_n hx hb dX9_checksum_41 rfl (lv_at hl 1 rfl) ?_
  refine va_get (D := zD E) (ci := 9) (v := .ref (q0 1)) (C := RX9) (T := TX9) (N := 7) hx hb hts uw_X9 hown hK hP 0 rfl rfl 0 (by decide) (hts _ wm_2_109) (fun _ h9 => h9) rfl dX9_checksum_42 ?_
  refine va_getN (D := zD E) (ci := 2) (v := .ref (q0 7)) (C := RX2) (T := TX2) (N := 3) hx hb hts uw_X2 hown hK hP 1 rfl rfl 1 (by decide) (hts _ wm_1_204) (fun _ h9 => h9) rfl dX9_checksum_45 ?_
  refine lv_lload_n hx hb dX9_checksum_48 rfl (lv_at hl 0 rfl) ?_
  refine lv_aload_n hx hb dX9_checksum_49 rfl (lv_at hl 1 rfl) ?_
  refine va_get (D := zD E) (ci := 9) (v := .ref (q0 1)) (C := RX9) (T := TX9) (N := 7) hx hb hts uw_X9 hown hK hP 0 rfl rfl 0 (by decide) (hts _ wm_2_109) (fun _ h9 => h9) rfl dX9_checksum_50 ?_
  refine va_getN (D := zD E) (ci := 2) (v := .ref (q0 2)) (C := RX2) (T := TX2) (N := 3) hx hb hts uw_X2 hown hK hP 1 rfl rfl 0 (by decide) (hts _ wm_1_201) (fun _ h9 => h9) rfl dX9_checksum_53 ?_
  refine va_getN (D := zD E) (ci := 7) (v := .int u_1.2.1.1) (C := RX7) (T := TX7) (N := 16) hx hb hts uw_X7 hown hK hP 2 rfl rfl 0 (by decide) (hts _ wm_1_47) (fun _ h9 => h9) rfl dX9_checksum_56 ?_
  refine z_kl (z_rN (rest := []) hZ0 C0 hK hZ hA hP hD hS hl.1 (c_X0_mixInto l E Z hZ0 (fun k => q0 (k + 7)) H.size u_1.2.2.1 x_4 u_1.2.1.1 _ hw) yv_X9_256 [7, 8, 9, 10, 11, 12, 13] rfl (by decide) (ci := 0) rfl rfl 7 rfl ⟨Nat.le_of_ble_eq_true rfl, Nat.le_of_ble_eq_true rfl⟩ ⟨rfl, rfl⟩ rfl rfl (Nat.le_of_ble_eq_true rfl) ⟨Nat.le_of_ble_eq_true rfl, Nat.le_of_ble_eq_true rfl⟩ dX9_checksum_59) hP hD hS hA [7, 8, 9, 10, 11, 12, 13] [0, 1, 2, 3, 4, 5, 6, 14, 15, 16, 17, 18] [0, 1, 2, 3, 4, 5, 6, 12, 13, 14, 15, 16, 17, 18, 7, 8, 9, 10, 11] rfl (wr := [_, _, _, _, _, _, _, _, _, _, _, _]) rfl (by decide) (by decide) (fun u => k_X9 E q0 u_1.1 ++ (k_X2 E (fun k => q0 (k + 1)) (u_1.2.1, u, u_1.2.2.2))) (fun u => rfl) (by decide) (fun r_6 u_5 H locs hw hP hD hS => ?_)
  refine lv_lstore_n (lv' := [(1, .long r_6), (0, .ref (q0 0))]) hx hb dX9_checksum_62 rfl hl (by decide) rfl (fun ls hl => ?_)
  refine lv_aload_n hx hb dX9_checksum_63 rfl (lv_at hl 1 rfl) ?_
  refine va_get (D := zD E) (ci := 9) (v := .ref (q0 1)) (C := RX9) (T := TX9) (N := 7) hx hb hts uw_X9 hown hK hP 0 rfl rfl 0 (by decide) (hts _ wm_2_109) (fun _ h9 => h9) rfl dX9_checksum_64 ?_
  refine va_getN (D := zD E) (ci := 2) (v := .ref (q0 14)) (C := RX2) (T := TX2) (N := 3) hx hb hts uw_X2 hown hK hP 1 rfl rfl 2 (by decide) (hts _ wm_1_206) (fun _ h9 => h9) rfl dX9_checksum_67 ?_
  refine lv_lload_n hx hb dX9_checksum_70 rfl (lv_at hl 0 rfl) ?_
  refine z_kl (z_rN (rest := []) hZ0 C0 hK hZ hA hP hD hS hl.1 (c_X1_mixInto l E Z hZ0 (fun k => q0 (k + 14)) H.size u_1.2.2.2 r_6 _ hw) yv_X9_260 [14, 15, 16, 17, 18] rfl (by decide) (ci := 1) rfl rfl 14 rfl ⟨Nat.le_of_ble_eq_true rfl, Nat.le_of_ble_eq_true rfl⟩ ⟨rfl, rfl⟩ rfl rfl (Nat.le_of_ble_eq_true rfl) ⟨Nat.le_of_ble_eq_true rfl, Nat.le_of_ble_eq_true rfl⟩ dX9_checksum_71) hP hD hS hA [14, 15, 16, 17, 18] [0, 1, 2, 3, 4, 5, 6, 7, 8, 9, 10, 11, 12, 13] [0, 1, 2, 3, 4, 5, 6, 7, 8, 9, 10, 11, 12, 13, 14, 15, 16, 17, 18] rfl (wr := [_, _, _, _, _, _, _, _, _, _, _, _, _, _]) rfl (by decide) (by decide) (fun u => k_X9 E q0 u_1.1 ++ (k_X2 E (fun k => q0 (k + 1)) (u_1.2.1, u_5, u))) (fun u => rfl) (by decide) (fun r_8 u_7 H locs hw hP hD hS => ?_)
  exact z_lret (k := (fun u => k_X9 E q0 u.1 ++ (k_X2 E (fun k => q0 (k + 1)) u.2))) (u_1.1, (u_1.2.1, u_5, u_7)) C0 hP hD hS hw dX9_checksum_74
abbrev r_X9_recordIfBreach : Room := { frames := 4, cells := 0, slots := 0, locals := 91 }
def wp_X9_recordIfBreach (u0 : S_X9) (u1 : S_X2) (p1 : Int32) (p2 : Int32) (p3 : Int32) (p4 : Int32) (post : Int32 → (S_X9 × S_X2) → Prop) : Prop := vp_in p1 40 ∧ (∀ x_2 : Int32, x_2 = (u1.2.1.2.2.1 p1.toNatClampNeg) → (wp_X7_excess u1.1 p3 x_2 p4 (fun r_4 u_3 => (¬ (r_4 = 0) → (wp_X7_penalty u_3 r_4 x_2 (fun r_7 u_6 => wp_X1_addBreach u1.2.2 p1 p2 r_7 (fun r_9 u_8 => post r_9 (u0, (u_6, u1.2.1, u_8)))))) ∧ (r_4 = 0 → (post (0 : Int32) (u0, (u_3, u1.2.1, u1.2.2)))))))
set_option maxHeartbeats 4000000 in
set_option maxRecDepth 100000 in
theorem c_X9_recordIfBreach (l : Launch) (E : zE) (Z : zZ) (hZ0 : zSt Z) (q0 : Nat → Nat) (sz : Nat) (u0 : S_X9) (u1 : S_X2) (p1 : Int32) (p2 : Int32) (p3 : Int32) (p4 : Int32) (post : Int32 → (S_X9 × S_X2) → Prop) (hw : wp_X9_recordIfBreach u0 u1 p1 p2 p3 p4 post) : Met l yX9_recordIfBreach (zws yX9_recordIfBreach cX9_recordIfBreach 7 (some .int)) r_X9_recordIfBreach (va_Pc [.ref (q0 0), .int p1, .int p2, .int p3, .int p4] (zPre Z E (k_X9 E q0 u0 ++ (k_X2 E (fun k => q0 (k + 1)) u1)) sz)) (va_Qi post (zAt E (va_A (k_X9 E q0 u0 ++ (k_X2 E (fun k => q0 (k + 1)) u1)) sz) (fun u => k_X9 E q0 u.1 ++ (k_X2 E (fun k => q0 (k + 1)) u.2))) (va_A (k_X9 E q0 u0 ++ (k_X2 E (fun k => q0 (k + 1)) u1)) sz)) 0 0 (va_A (k_X9 E q0 u0 ++ (k_X2 E (fun k => q0 (k + 1)) u1)) sz) := by
  refine z_ofW (Qf := fun A => va_Qi post (zAt E A (fun u => k_X9 E q0 u.1 ++ (k_X2 E (fun k => q0 (k + 1)) u.2))) A) (by decide) (Nat.le_of_ble_eq_true rfl) ?_
  intro p e s m args below meth c A ls C0 hA hK hZ hP hD hS hl
  obtain ⟨hx, hb, hml, hr, hown, hts, hlocks, hin⟩ := id C0
  have hown : s.vm.findClass RX9 = some m.cls := hown
  have hl : lv_has ls 7 [(0, .ref (q0 0)), (1, .int p1), (2, .int p2), (3, .int p3), (4, .int p4)] := hl
  refine lv_aload_n hx hb dX9_recordIfBreach_0 rfl (lv_at hl 0 rfl) ?_
  refine va_get (D := zD E) (ci := 9) (v := .ref (q0 1)) (C := RX9) (T := TX9) (N := 7) hx hb hts uw_X9 hown hK hP 0 rfl rfl 0 (by decide) (hts _ wm_2_109) (fun _ h9 => h9) rfl dX9_recordIfBreach_1 ?_
  refine va_getN (D := zD E) (ci := 2) (v := .ref (q0 7)) (C := RX2) (T := TX2) (N := 3) hx hb hts uw_X2 hown hK hP 1 rfl rfl 1 (by decide) (hts _ wm_1_204) (fun _ h9 => h9) rfl dX9_recordIfBreach_4 ?_
  refine va_getN (D := zD E) (ci := 0) (v := .ref (q0 9)) (C := RX0) (T := TX0) (N := 7) hx hb hts uw_X0 hown hK hP 7 rfl rfl 2 (by decide) (hts _ wm_1_134) (fun _ h9 => h9) rfl dX9_recordIfBreach_7 ?_
  refine lv_iload_n hx hb dX9_recordIfBreach_10 rfl (lv_at hl 1 rfl) ?_
  obtain ⟨h_1, hw⟩ := hw
  refine va_iald hx hb hK hP 9 0 rfl rfl h_1 dX9_recordIfBreach_11 ?_
  refine lv_topi (fun x_2 ex_2 => ?_)
  have hw := hw x_2 ex_2
  refine lv_istore (lv' := [(5, .int x_2), (0, .ref (q0 0)), (1, .int p1), (2, .int p2), (3, .int p3), (4, .int p4)]) hx hb dX9_recordIfBreach_12 hl (by decide) rfl (fun ls hl => ?_)
  refine lv_aload_n hx hb dX9_recordIfBreach_14 rfl (lv_at hl 1 rfl) ?_
  refine va_get (D := zD E) (ci := 9) (v := .ref (q0 1)) (C := RX9) (T := TX9) (N := 7) hx hb hts uw_X9 hown hK hP 0 rfl rfl 0 (by decide) (hts _ wm_2_109) (fun _ h9 => h9) rfl dX9_recordIfBreach_15 ?_
  refine va_getN (D := zD E) (ci := 2) (v := .ref (q0 2)) (C := RX2) (T := TX2) (N := 3) hx hb hts uw_X2 hown hK hP 1 rfl rfl 0 (by decide) (hts _ wm_1_201) (fun _ h9 => h9) rfl dX9_recordIfBreach_18 ?_
  refine lv_iload_n hx hb dX9_recordIfBreach_21 rfl (lv_at hl 4 rfl) ?_
  refine lv_iload hx hb dX9_recordIfBreach_22 (lv_at hl 0 rfl) ?_
  refine lv_iload hx hb dX9_recordIfBreach_24 (lv_at hl 5 rfl) ?_
  refine z_ki (z_rN (rest := []) hZ0 C0 hK hZ hA hP hD hS hl.1 (c_X7_excess l E Z hZ0 (fun k => q0 (k + 2)) s.heap.size u1.1 p3 x_2 p4 _ hw) yv_X9_278 [2, 3, 4, 5, 6] rfl (by decide) (ci := 7) rfl rfl 2 rfl ⟨Nat.le_of_ble_eq_true rfl, Nat.le_of_ble_eq_true rfl⟩ ⟨rfl, rfl⟩ rfl rfl (Nat.le_of_ble_eq_true rfl) ⟨Nat.le_of_ble_eq_true rfl, Nat.le_of_ble_eq_true rfl⟩ dX9_recordIfBreach_26) hP hD hS hA [2, 3, 4, 5, 6] [0, 1, 7, 8, 9, 10, 11, 12, 13, 14, 15, 16, 17, 18] [0, 1, 14, 15, 16, 17, 18, 2, 3, 4, 5, 6, 7, 8, 9, 10, 11, 12, 13] rfl (wr := [_, _, _, _, _, _, _, _, _, _, _, _, _, _]) rfl (by decide) (by decide) (fun u => k_X9 E q0 u0 ++ (k_X2 E (fun k => q0 (k + 1)) (u, u1.2.1, u1.2.2))) (fun u => rfl) (by decide) (fun r_4 u_3 H locs hw hP hD hS => ?_)
  refine lv_istore (lv' := [(6, .int r_4), (5, .int x_2), (0, .ref (q0 0)), (1, .int p1), (2, .int p2), (3, .int p3), (4, .int p4)]) hx hb dX9_recordIfBreach_29 hl (by decide) rfl (fun ls hl => ?_)
  refine lv_iload hx hb dX9_recordIfBreach_31 (lv_at hl 0 rfl) ?_
  obtain ⟨hwt, hwf⟩ := hw
  refine lv_if_ne (tgt := 38) hx hb dX9_recordIfBreach_33 (by decide) (fun c_5 => ?_) (fun c_5 => ?_)
  · have hw := hwt c_5
    refine lv_aload_n hx hb dX9_recordIfBreach_38 rfl (lv_at hl 2 rfl) ?_
    refine va_get (D := zD E) (ci := 9) (v := .ref (q0 1)) (C := RX9) (T := TX9) (N := 7) hx hb hts uw_X9 hown hK hP 0 rfl rfl 0 (by decide) (hts _ wm_2_109) (fun _ h9 => h9) rfl dX9_recordIfBreach_39 ?_
    refine va_getN (D := zD E) (ci := 2) (v := .ref (q0 14)) (C := RX2) (T := TX2) (N := 3) hx hb hts uw_X2 hown hK hP 1 rfl rfl 2 (by decide) (hts _ wm_1_206) (fun _ h9 => h9) rfl dX9_recordIfBreach_42 ?_
    refine lv_iload_n hx hb dX9_recordIfBreach_45 rfl (lv_at hl 3 rfl) ?_
    refine lv_iload_n hx hb dX9_recordIfBreach_46 rfl (lv_at hl 4 rfl) ?_
    refine lv_aload_n hx hb dX9_recordIfBreach_47 rfl (lv_at hl 2 rfl) ?_
    refine va_get (D := zD E) (ci := 9) (v := .ref (q0 1)) (C := RX9) (T := TX9) (N := 7) hx hb hts uw_X9 hown hK hP 0 rfl rfl 0 (by decide) (hts _ wm_2_109) (fun _ h9 => h9) rfl dX9_recordIfBreach_48 ?_
    refine va_getN (D := zD E) (ci := 2) (v := .ref (q0 2)) (C := RX2) (T := TX2) (N := 3) hx hb hts uw_X2 hown hK hP 1 rfl rfl 0 (by decide) (hts _ wm_1_201) (fun _ h9 => h9) rfl dX9_recordIfBreach_51 ?_
    refine lv_iload hx hb dX9_recordIfBreach_54 (lv_at hl 0 rfl) ?_
    refine lv_iload hx hb dX9_recordIfBreach_56 (lv_at hl 1 rfl) ?_
    refine z_ki (z_rN (rest := [.int p2, .int p1, .ref (q0 14)]) hZ0 C0 hK hZ hA hP hD hS hl.1 (c_X7_penalty l E Z hZ0 (fun k => q0 (k + 2)) H.size u_3 r_4 x_2 _ hw) yv_X9_156 [2, 3, 4, 5, 6] rfl (by decide) (ci := 7) rfl rfl 2 rfl ⟨Nat.le_of_ble_eq_true rfl, Nat.le_of_ble_eq_true rfl⟩ ⟨rfl, rfl⟩ rfl rfl (Nat.le_of_ble_eq_true rfl) ⟨Nat.le_of_ble_eq_true rfl, Nat.le_of_ble_eq_true rfl⟩ dX9_recordIfBreach_58) hP hD hS hA [2, 3, 4, 5, 6] [0, 1, 7, 8, 9, 10, 11, 12, 13, 14, 15, 16, 17, 18] [0, 1, 14, 15, 16, 17, 18, 2, 3, 4, 5, 6, 7, 8, 9, 10, 11, 12, 13] rfl (wr := [_, _, _, _, _, _, _, _, _, _, _, _, _, _]) rfl (by decide) (by decide) (fun u => k_X9 E q0 u0 ++ (k_X2 E (fun k => q0 (k + 1)) (u, u1.2.1, u1.2.2))) (fun u => rfl) (by decide) (fun r_7 u_6 H locs hw hP hD hS => ?_)
    refine z_ki (z_rN (rest := []) hZ0 C0 hK hZ hA hP hD hS hl.1 (c_X1_addBreach l E Z hZ0 (fun k => q0 (k + 14)) H.size u1.2.2 p1 p2 r_7 _ hw) yv_X9_281 [14, 15, 16, 17, 18] rfl (by decide) (ci := 1) rfl rfl 14 rfl ⟨Nat.le_of_ble_eq_true rfl, Nat.le_of_ble_eq_true rfl⟩ ⟨rfl, rfl⟩ rfl rfl (Nat.le_of_ble_eq_true rfl) ⟨Nat.le_of_ble_eq_true rfl, Nat.le_of_ble_eq_true rfl⟩ dX9_recordIfBreach_61) hP hD hS hA [14, 15, 16, 17, 18] [0, 1, 2, 3, 4, 5, 6, 7, 8, 9, 10, 11, 12, 13] [0, 1, 2, 3, 4, 5, 6, 7, 8, 9, 10, 11, 12, 13, 14, 15, 16, 17, 18] rfl (wr := [_, _, _, _, _, _, _, _, _, _, _, _, _, _]) rfl (by decide) (by decide) (fun u => k_X9 E q0 u0 ++ (k_X2 E (fun k => q0 (k + 1)) (u_6, u1.2.1, u))) (fun u => rfl) (by decide) (fun r_9 u_8 H locs hw hP hD hS => ?_)
    exact z_iret (k := (fun u => k_X9 E q0 u.1 ++ (k_X2 E (fun k => q0 (k + 1)) u.2))) (u0, (u_6, u1.2.1, u_8)) C0 hP hD hS hw dX9_recordIfBreach_64
  · have hw := hwf c_5
    refine lv_iconst (v := 0) hx hb dX9_recordIfBreach_36 rfl ?_
    exact z_iret (k := (fun u => k_X9 E q0 u.1 ++ (k_X2 E (fun k => q0 (k + 1)) u.2))) (u0, (u_3, u1.2.1, u1.2.2)) C0 hP hD hS hw dX9_recordIfBreach_37
abbrev r_X9_bestWaiving : Room := { frames := 18, cells := 0, slots := 0, locals := 828 }
def wp_X9_bestWaiving (u0 : S_X9) (u1 : S_X2) (u2 : S_X8) (post : Int32 → (S_X9 × S_X2 × S_X8) → Prop) : Prop := wp_X8_run u2 u1.1 u1.2.2 (fun u_1 => post u_1.1.2.2.2.2.2.2.2 (u0, (u_1.2.1, u1.2.1, u_1.2.2), u_1.1))
set_option maxHeartbeats 4000000 in
set_option maxRecDepth 100000 in
theorem c_X9_bestWaiving (l : Launch) (E : zE) (Z : zZ) (hZ0 : zSt Z) (q0 : Nat → Nat) (sz : Nat) (u0 : S_X9) (u1 : S_X2) (u2 : S_X8) (post : Int32 → (S_X9 × S_X2 × S_X8) → Prop) (hw : wp_X9_bestWaiving u0 u1 u2 post) : Met l yX9_bestWaiving (zws yX9_bestWaiving cX9_bestWaiving 1 (some .int)) r_X9_bestWaiving (va_Pc [.ref (q0 0)] (zPre Z E (k_X9 E q0 u0 ++ (k_X2 E (fun k => q0 (k + 1)) u1 ++ (k_X8 E (fun k => q0 (k + 43)) u2))) sz)) (va_Qi post (zAt E (va_A (k_X9 E q0 u0 ++ (k_X2 E (fun k => q0 (k + 1)) u1 ++ (k_X8 E (fun k => q0 (k + 43)) u2))) sz) (fun u => k_X9 E q0 u.1 ++ (k_X2 E (fun k => q0 (k + 1)) u.2.1 ++ (k_X8 E (fun k => q0 (k + 43)) u.2.2)))) (va_A (k_X9 E q0 u0 ++ (k_X2 E (fun k => q0 (k + 1)) u1 ++ (k_X8 E (fun k => q0 (k + 43)) u2))) sz)) 0 0 (va_A (k_X9 E q0 u0 ++ (k_X2 E (fun k => q0 (k + 1)) u1 ++ (k_X8 E (fun k => q0 (k + 43)) u2))) sz) := by
  refine z_ofW (Qf := fun A => va_Qi post (zAt E A (fun u => k_X9 E q0 u.1 ++ (k_X2 E (fun k => q0 (k + 1)) u.2.1 ++ (k_X8 E (fun k => q0 (k + 43)) u.2.2)))) A) (by decide) (Nat.le_of_ble_eq_true rfl) ?_
  intro p e s m args below meth c A ls C0 hA hK hZ hP hD hS hl
  obtain ⟨hx, hb, hml, hr, hown, hts, hlocks, hin⟩ := id C0
  have hown : s.vm.findClass RX9 = some m.cls := hown
  have hl : lv_has ls 1 [(0, .ref (q0 0))] := hl
  refine lv_aload_n hx hb dX9_bestWaiving_0 rfl (lv_at hl 0 rfl) ?_
  refine va_get (D := zD E) (ci := 9) (v := .ref (q0 43)) (C := RX9) (T := TX9) (N := 7) hx hb hts uw_X9 hown hK hP 0 rfl rfl 4 (by decide) (hts _ wm_2_113) (fun _ h9 => h9) rfl dX9_bestWaiving_1 ?_
  refine lv_aload_n hx hb dX9_bestWaiving_4 rfl (lv_at hl 0 rfl) ?_
  refine va_get (D := zD E) (ci := 9) (v := .ref (q0 1)) (C := RX9) (T := TX9) (N := 7) hx hb hts uw_X9 hown hK hP 0 rfl rfl 0 (by decide) (hts _ wm_2_109) (fun _ h9 => h9) rfl dX9_bestWaiving_5 ?_
  refine va_getN (D := zD E) (ci := 2) (v := .ref (q0 2)) (C := RX2) (T := TX2) (N := 3) hx hb hts uw_X2 hown hK hP 1 rfl rfl 0 (by decide) (hts _ wm_1_201) (fun _ h9 => h9) rfl dX9_bestWaiving_8 ?_
  refine lv_aload_n hx hb dX9_bestWaiving_11 rfl (lv_at hl 0 rfl) ?_
  refine va_get (D := zD E) (ci := 9) (v := .ref (q0 1)) (C := RX9) (T := TX9) (N := 7) hx hb hts uw_X9 hown hK hP 0 rfl rfl 0 (by decide) (hts _ wm_2_109) (fun _ h9 => h9) rfl dX9_bestWaiving_12 ?_
  refine va_getN (D := zD E) (ci := 2) (v := .ref (q0 14)) (C := RX2) (T := TX2) (N := 3) hx hb hts uw_X2 hown hK hP 1 rfl rfl 2 (by decide) (hts _ wm_1_206) (fun _ h9 => h9) rfl dX9_bestWaiving_15 ?_
  refine z_kv (z_rN (rest := []) hZ0 C0 hK hZ hA hP hD hS hl.1 (c_X8_run l E Z hZ0 (fun k => q0 (k + 43)) (fun k => q0 (k + 2)) (fun k => q0 (k + 14)) s.heap.size u2 u1.1 u1.2.2 _ hw) yv_X9_186 [19, 20, 21, 22, 2, 3, 4, 5, 6, 14, 15, 16, 17, 18] rfl (by decide) (ci := 8) rfl rfl 19 rfl ⟨Nat.le_of_ble_eq_true rfl, Nat.le_of_ble_eq_true rfl⟩ ⟨rfl, rfl⟩ rfl rfl (Nat.le_of_ble_eq_true rfl) ⟨Nat.le_of_ble_eq_true rfl, Nat.le_of_ble_eq_true rfl⟩ dX9_bestWaiving_18) hP hD hS hA [19, 20, 21, 22, 2, 3, 4, 5, 6, 14, 15, 16, 17, 18] [0, 1, 7, 8, 9, 10, 11, 12, 13] [0, 1, 13, 14, 15, 16, 17, 2, 3, 4, 5, 6, 7, 8, 18, 19, 20, 21, 22, 9, 10, 11, 12] rfl (wr := [_, _, _, _, _, _, _, _, _]) rfl (by decide) (by decide) (fun u => k_X9 E q0 u0 ++ (k_X2 E (fun k => q0 (k + 1)) (u.2.1, u1.2.1, u.2.2) ++ (k_X8 E (fun k => q0 (k + 43)) u.1))) (fun u => rfl) (by decide) (fun u_1 H locs hw hP hD hS => ?_)
  refine lv_aload_n hx hb dX9_bestWaiving_21 rfl (lv_at hl 0 rfl) ?_
  refine va_get (D := zD E) (ci := 9) (v := .ref (q0 43)) (C := RX9) (T := TX9) (N := 7) hx hb hts uw_X9 hown hK hP 0 rfl rfl 4 (by decide) (hts _ wm_2_113) (fun _ h9 => h9) rfl dX9_bestWaiving_22 ?_
  refine va_getN (D := zD E) (ci := 8) (v := .int u_1.1.2.2.2.2.2.2.2) (C := RX8) (T := TX8) (N := 8) hx hb hts uw_X8 hown hK hP 19 rfl rfl 7 (by decide) (hts _ wm_2_89) (fun _ h9 => h9) rfl dX9_bestWaiving_25 ?_
  exact z_iret (k := (fun u => k_X9 E q0 u.1 ++ (k_X2 E (fun k => q0 (k + 1)) u.2.1 ++ (k_X8 E (fun k => q0 (k + 43)) u.2.2)))) (u0, (u_1.2.1, u1.2.1, u_1.2.2), u_1.1) C0 hP hD hS hw dX9_bestWaiving_28
abbrev r_X9_projected : Room := { frames := 4, cells := 0, slots := 0, locals := 107 }
def wp_X9_projected (u0 : S_X9) (u1 : S_X2) (u2 : S_X0) (post : Int64 → (S_X9 × S_X2 × S_X0) → Prop) : Prop := wp_X0_copyFrom u2 u1.2.1 (fun u_1 => wp_X0_closeRest u_1.1 u1.1 (fun r_4 u_3 => post r_4 (u0, (u_3.2, u_1.2, u1.2.2), u_3.1)))
set_option maxHeartbeats 4000000 in
set_option maxRecDepth 100000 in
theorem c_X9_projected (l : Launch) (E : zE) (Z : zZ) (hZ0 : zSt Z) (q0 : Nat → Nat) (sz : Nat) (u0 : S_X9) (u1 : S_X2) (u2 : S_X0) (post : Int64 → (S_X9 × S_X2 × S_X0) → Prop) (hw : wp_X9_projected u0 u1 u2 post) : Met l yX9_projected (zws yX9_projected cX9_projected 1 (some .long)) r_X9_projected (va_Pc [.ref (q0 0)] (zPre Z E (k_X9 E q0 u0 ++ (k_X2 E (fun k => q0 (k + 1)) u1 ++ (k_X0 E (fun k => q0 (k + 54)) u2))) sz)) (va_Ql post (zAt E (va_A (k_X9 E q0 u0 ++ (k_X2 E (fun k => q0 (k + 1)) u1 ++ (k_X0 E (fun k => q0 (k + 54)) u2))) sz) (fun u => k_X9 E q0 u.1 ++ (k_X2 E (fun k => q0 (k + 1)) u.2.1 ++ (k_X0 E (fun k => q0 (k + 54)) u.2.2)))) (va_A (k_X9 E q0 u0 ++ (k_X2 E (fun k => q0 (k + 1)) u1 ++ (k_X0 E (fun k => q0 (k + 54)) u2))) sz)) 0 0 (va_A (k_X9 E q0 u0 ++ (k_X2 E (fun k => q0 (k + 1)) u1 ++ (k_X0 E (fun k => q0 (k + 54)) u2))) sz) := by
  refine z_ofW (Qf := fun A => va_Ql post (zAt E A (fun u => k_X9 E q0 u.1 ++ (k_X2 E (fun k => q0 (k + 1)) u.2.1 ++ (k_X0 E (fun k => q0 (k + 54)) u.2.2)))) A) (by decide) (Nat.le_of_ble_eq_true rfl) ?_
  intro p e s m args below meth c A ls C0 hA hK hZ hP hD hS hl
  obtain ⟨hx, hb, hml, hr, hown, hts, hlocks, hin⟩ := id C0
  have hown : s.vm.findClass RX9 = some m.cls := hown
  have hl : lv_has ls 1 [(0, .ref (q0 0))] := hl
  refine lv_aload_n hx hb dX9_projected_0 rfl (lv_at hl 0 rfl) ?_
  refine va_get (D := zD E) (ci := 9) (v := .ref (q0 54)) (C := RX9) (T := TX9) (N := 7) hx hb hts uw_X9 hown hK hP 0 rfl rfl 6 (by decide) (hts _ wm_2_115) (fun _ h9 => h9) rfl dX9_projected_1 ?_
  refine lv_aload_n hx hb dX9_projected_4 rfl (lv_at hl 0 rfl) ?_
  refine va_get (D := zD E) (ci := 9) (v := .ref (q0 1)) (C := RX9) (T := TX9) (N := 7) hx hb hts uw_X9 hown hK hP 0 rfl rfl 0 (by decide) (hts _ wm_2_109) (fun _ h9 => h9) rfl dX9_projected_5 ?_
  refine va_getN (D := zD E) (ci := 2) (v := .ref (q0 7)) (C := RX2) (T := TX2) (N := 3) hx hb hts uw_X2 hown hK hP 1 rfl rfl 1 (by decide) (hts _ wm_1_204) (fun _ h9 => h9) rfl dX9_projected_8 ?_
  refine z_kv (z_rN (rest := []) hZ0 C0 hK hZ hA hP hD hS hl.1 (c_X0_copyFrom l E Z hZ0 (fun k => q0 (k + 54)) (fun k => q0 (k + 7)) s.heap.size u2 u1.2.1 _ hw) yv_X9_198 [19, 20, 21, 22, 23, 24, 25, 7, 8, 9, 10, 11, 12, 13] rfl (by decide) (ci := 0) rfl rfl 19 rfl ⟨Nat.le_of_ble_eq_true rfl, Nat.le_of_ble_eq_true rfl⟩ ⟨rfl, rfl⟩ rfl rfl (Nat.le_of_ble_eq_true rfl) ⟨Nat.le_of_ble_eq_true rfl, Nat.le_of_ble_eq_true rfl⟩ dX9_projected_11) hP hD hS hA [19, 20, 21, 22, 23, 24, 25, 7, 8, 9, 10, 11, 12, 13] [0, 1, 2, 3, 4, 5, 6, 14, 15, 16, 17, 18] [0, 1, 2, 3, 4, 5, 6, 19, 20, 21, 22, 23, 24, 25, 7, 8, 9, 10, 11, 12, 13, 14, 15, 16, 17, 18] rfl (wr := [_, _, _, _, _, _, _, _, _, _, _, _]) rfl (by decide) (by decide) (fun u => k_X9 E q0 u0 ++ (k_X2 E (fun k => q0 (k + 1)) (u1.1, u.2, u1.2.2) ++ (k_X0 E (fun k => q0 (k + 54)) u.1))) (fun u => rfl) (by decide) (fun u_1 H locs hw hP hD hS => ?_)
  refine lv_aload_n hx hb dX9_projected_14 rfl (lv_at hl 0 rfl) ?_
  refine va_get (D := zD E) (ci := 9) (v := .ref (q0 54)) (C := RX9) (T := TX9) (N := 7) hx hb hts uw_X9 hown hK hP 0 rfl rfl 6 (by decide) (hts _ wm_2_115) (fun _ h9 => h9) rfl dX9_projected_15 ?_
  refine lv_aload_n hx hb dX9_projected_18 rfl (lv_at hl 0 rfl) ?_
  refine va_get (D := zD E) (ci := 9) (v := .ref (q0 1)) (C := RX9) (T := TX9) (N := 7) hx hb hts uw_X9 hown hK hP 0 rfl rfl 0 (by decide) (hts _ wm_2_109) (fun _ h9 => h9) rfl dX9_projected_19 ?_
  refine va_getN (D := zD E) (ci := 2) (v := .ref (q0 2)) (C := RX2) (T := TX2) (N := 3) hx hb hts uw_X2 hown hK hP 1 rfl rfl 0 (by decide) (hts _ wm_1_201) (fun _ h9 => h9) rfl dX9_projected_22 ?_
  refine z_kl (z_rN (rest := []) hZ0 C0 hK hZ hA hP hD hS hl.1 (c_X0_closeRest l E Z hZ0 (fun k => q0 (k + 54)) (fun k => q0 (k + 2)) H.size u_1.1 u1.1 _ hw) yv_X9_201 [19, 20, 21, 22, 23, 24, 25, 2, 3, 4, 5, 6] rfl (by decide) (ci := 0) rfl rfl 19 rfl ⟨Nat.le_of_ble_eq_true rfl, Nat.le_of_ble_eq_true rfl⟩ ⟨rfl, rfl⟩ rfl rfl (Nat.le_of_ble_eq_true rfl) ⟨Nat.le_of_ble_eq_true rfl, Nat.le_of_ble_eq_true rfl⟩ dX9_projected_25) hP hD hS hA [19, 20, 21, 22, 23, 24, 25, 2, 3, 4, 5, 6] [0, 1, 7, 8, 9, 10, 11, 12, 13, 14, 15, 16, 17, 18] [0, 1, 21, 22, 23, 24, 25, 2, 3, 4, 5, 6, 7, 8, 9, 10, 11, 12, 13, 14, 15, 16, 17, 18, 19, 20] rfl (wr := [_, _, _, _, _, _, _, _, _, _, _, _, _, _]) rfl (by decide) (by decide) (fun u => k_X9 E q0 u0 ++ (k_X2 E (fun k => q0 (k + 1)) (u.2, u_1.2, u1.2.2) ++ (k_X0 E (fun k => q0 (k + 54)) u.1))) (fun u => rfl) (by decide) (fun r_4 u_3 H locs hw hP hD hS => ?_)
  exact z_lret (k := (fun u => k_X9 E q0 u.1 ++ (k_X2 E (fun k => q0 (k + 1)) u.2.1 ++ (k_X0 E (fun k => q0 (k + 54)) u.2.2)))) (u0, (u_3.2, u_1.2, u1.2.2), u_3.1) C0 hP hD hS hw dX9_projected_28
abbrev r_X9_costsAtLevel : Room := { frames := 4, cells := 0, slots := 0, locals := 107 }
def wp_X9_costsAtLevel (u0 : S_X9) (u1 : S_X2) (u2 : S_X0) (u3 : S_X0) (p1 : Int32) (post : Int64 → (S_X9 × S_X2 × S_X0 × S_X0) → Prop) : Prop := wp_X0_copyFrom u3 u2 (fun u_1 => wp_X0_reserveFrom u_1.1 u_1.1.1 u1.1.1 p1 (fun r_4 u_3 => wp_X0_closeRest u_3 u1.1 (fun r_6 u_5 => post r_6 (u0, (u_5.2, u1.2.1, u1.2.2), u_1.2, u_5.1))))
set_option maxHeartbeats 4000000 in
set_option maxRecDepth 100000 in
theorem c_X9_costsAtLevel (l : Launch) (E : zE) (Z : zZ) (hZ0 : zSt Z) (q0 : Nat → Nat) (sz : Nat) (u0 : S_X9) (u1 : S_X2) (u2 : S_X0) (u3 : S_X0) (p1 : Int32) (post : Int64 → (S_X9 × S_X2 × S_X0 × S_X0) → Prop) (hw : wp_X9_costsAtLevel u0 u1 u2 u3 p1 post) : Met l yX9_costsAtLevel (zws yX9_costsAtLevel cX9_costsAtLevel 2 (some .long)) r_X9_costsAtLevel (va_Pc [.ref (q0 0), .int p1] (zPre Z E (k_X9 E q0 u0 ++ (k_X2 E (fun k => q0 (k + 1)) u1 ++ (k_X0 E (fun k => q0 (k + 47)) u2 ++ (k_X0 E (fun k => q0 (k + 54)) u3)))) sz)) (va_Ql post (zAt E (va_A (k_X9 E q0 u0 ++ (k_X2 E (fun k => q0 (k + 1)) u1 ++ (k_X0 E (fun k => q0 (k + 47)) u2 ++ (k_X0 E (fun k => q0 (k + 54)) u3)))) sz) (fun u => k_X9 E q0 u.1 ++ (k_X2 E (fun k => q0 (k + 1)) u.2.1 ++ (k_X0 E (fun k => q0 (k + 47)) u.2.2.1 ++ (k_X0 E (fun k => q0 (k + 54)) u.2.2.2))))) (va_A (k_X9 E q0 u0 ++ (k_X2 E (fun k => q0 (k + 1)) u1 ++ (k_X0 E (fun k => q0 (k + 47)) u2 ++ (k_X0 E (fun k => q0 (k + 54)) u3)))) sz)) 0 0 (va_A (k_X9 E q0 u0 ++ (k_X2 E (fun k => q0 (k + 1)) u1 ++ (k_X0 E (fun k => q0 (k + 47)) u2 ++ (k_X0 E (fun k => q0 (k + 54)) u3)))) sz) := by
  refine z_ofW (Qf := fun A => va_Ql post (zAt E A (fun u => k_X9 E q0 u.1 ++ (k_X2 E (fun k => q0 (k + 1)) u.2.1 ++ (k_X0 E (fun k => q0 (k + 47)) u.2.2.1 ++ (k_X0 E (fun k => q0 (k + 54)) u.2.2.2))))) A) (by decide) (Nat.le_of_ble_eq_true rfl) ?_
  intro p e s m args below meth c A ls C0 hA hK hZ hP hD hS hl
  obtain ⟨hx, hb, hml, hr, hown, hts, hlocks, hin⟩ := id C0
  have hown : s.vm.findClass RX9 = some m.cls := hown
  have hl : lv_has ls 2 [(0, .ref (q0 0)), (1, .int p1)] := hl
  refine lv_aload_n hx hb dX9_costsAtLevel_0 rfl (lv_at hl 0 rfl) ?_
  refine va_get (D := zD E) (ci := 9) (v := .ref (q0 54)) (C := RX9) (T := TX9) (N := 7) hx hb hts uw_X9 hown hK hP 0 rfl rfl 6 (by decide) (hts _ wm_2_115) (fun _ h9 => h9) rfl dX9_costsAtLevel_1 ?_
  refine lv_aload_n hx hb dX9_costsAtLevel_4 rfl (lv_at hl 0 rfl) ?_
  refine va_get (D := zD E) (ci := 9) (v := .ref (q0 47)) (C := RX9) (T := TX9) (N := 7) hx hb hts uw_X9 hown hK hP 0 rfl rfl 5 (by decide) (hts _ wm_2_114) (fun _ h9 => h9) rfl dX9_costsAtLevel_5 ?_
  refine z_kv (z_rN (rest := []) hZ0 C0 hK hZ hA hP hD hS hl.1 (c_X0_copyFrom l E Z hZ0 (fun k => q0 (k + 54)) (fun k => q0 (k + 47)) s.heap.size u3 u2 _ hw) yv_X9_198 [26, 27, 28, 29, 30, 31, 32, 19, 20, 21, 22, 23, 24, 25] rfl (by decide) (ci := 0) rfl rfl 26 rfl ⟨Nat.le_of_ble_eq_true rfl, Nat.le_of_ble_eq_true rfl⟩ ⟨rfl, rfl⟩ rfl rfl (Nat.le_of_ble_eq_true rfl) ⟨Nat.le_of_ble_eq_true rfl, Nat.le_of_ble_eq_true rfl⟩ dX9_costsAtLevel_8) hP hD hS hA [26, 27, 28, 29, 30, 31, 32, 19, 20, 21, 22, 23, 24, 25] [0, 1, 2, 3, 4, 5, 6, 7, 8, 9, 10, 11, 12, 13, 14, 15, 16, 17, 18] [0, 1, 2, 3, 4, 5, 6, 7, 8, 9, 10, 11, 12, 13, 14, 15, 16, 17, 18, 26, 27, 28, 29, 30, 31, 32, 19, 20, 21, 22, 23, 24, 25] rfl (wr := [_, _, _, _, _, _, _, _, _, _, _, _, _, _, _, _, _, _, _]) rfl (by decide) (by decide) (fun u => k_X9 E q0 u0 ++ (k_X2 E (fun k => q0 (k + 1)) u1 ++ (k_X0 E (fun k => q0 (k + 47)) u.2 ++ (k_X0 E (fun k => q0 (k + 54)) u.1)))) (fun u => rfl) (by decide) (fun u_1 H locs hw hP hD hS => ?_)
  refine lv_aload_n hx hb dX9_costsAtLevel_11 rfl (lv_at hl 0 rfl) ?_
  refine va_get (D := zD E) (ci := 9) (v := .ref (q0 54)) (C := RX9) (T := TX9) (N := 7) hx hb hts uw_X9 hown hK hP 0 rfl rfl 6 (by decide) (hts _ wm_2_115) (fun _ h9 => h9) rfl dX9_costsAtLevel_12 ?_
  refine lv_aload_n hx hb dX9_costsAtLevel_15 rfl (lv_at hl 0 rfl) ?_
  refine va_get (D := zD E) (ci := 9) (v := .ref (q0 54)) (C := RX9) (T := TX9) (N := 7) hx hb hts uw_X9 hown hK hP 0 rfl rfl 6 (by decide) (hts _ wm_2_115) (fun _ h9 => h9) rfl dX9_costsAtLevel_16 ?_
  refine va_getN (D := zD E) (ci := 0) (v := .int u_1.1.1) (C := RX0) (T := TX0) (N := 7) hx hb hts uw_X0 hown hK hP 26 rfl rfl 0 (by decide) (hts _ wm_1_129) (fun _ h9 => h9) rfl dX9_costsAtLevel_19 ?_
  refine lv_aload_n hx hb dX9_costsAtLevel_22 rfl (lv_at hl 0 rfl) ?_
  refine va_get (D := zD E) (ci := 9) (v := .ref (q0 1)) (C := RX9) (T := TX9) (N := 7) hx hb hts uw_X9 hown hK hP 0 rfl rfl 0 (by decide) (hts _ wm_2_109) (fun _ h9 => h9) rfl dX9_costsAtLevel_23 ?_
  refine va_getN (D := zD E) (ci := 2) (v := .ref (q0 2)) (C := RX2) (T := TX2) (N := 3) hx hb hts uw_X2 hown hK hP 1 rfl rfl 0 (by decide) (hts _ wm_1_201) (fun _ h9 => h9) rfl dX9_costsAtLevel_26 ?_
  refine va_getN (D := zD E) (ci := 7) (v := .int u1.1.1) (C := RX7) (T := TX7) (N := 16) hx hb hts uw_X7 hown hK hP 2 rfl rfl 0 (by decide) (hts _ wm_1_47) (fun _ h9 => h9) rfl dX9_costsAtLevel_29 ?_
  refine lv_iload_n hx hb dX9_costsAtLevel_32 rfl (lv_at hl 1 rfl) ?_
  refine z_ki (z_rN (rest := []) hZ0 C0 hK hZ hA hP hD hS hl.1 (c_X0_reserveFrom l E Z hZ0 (fun k => q0 (k + 54)) H.size u_1.1 u_1.1.1 u1.1.1 p1 _ hw) yv_X9_234 [26, 27, 28, 29, 30, 31, 32] rfl (by decide) (ci := 0) rfl rfl 26 rfl ⟨Nat.le_of_ble_eq_true rfl, Nat.le_of_ble_eq_true rfl⟩ ⟨rfl, rfl⟩ rfl rfl (Nat.le_of_ble_eq_true rfl) ⟨Nat.le_of_ble_eq_true rfl, Nat.le_of_ble_eq_true rfl⟩ dX9_costsAtLevel_33) hP hD hS hA [26, 27, 28, 29, 30, 31, 32] [0, 1, 2, 3, 4, 5, 6, 7, 8, 9, 10, 11, 12, 13, 14, 15, 16, 17, 18, 19, 20, 21, 22, 23, 24, 25] [0, 1, 2, 3, 4, 5, 6, 7, 8, 9, 10, 11, 12, 13, 14, 15, 16, 17, 18, 19, 20, 21, 22, 23, 24, 25, 26, 27, 28, 29, 30, 31, 32] rfl (wr := [_, _, _, _, _, _, _, _, _, _, _, _, _, _, _, _, _, _, _, _, _, _, _, _, _, _]) rfl (by decide) (by decide) (fun u => k_X9 E q0 u0 ++ (k_X2 E (fun k => q0 (k + 1)) u1 ++ (k_X0 E (fun k => q0 (k + 47)) u_1.2 ++ (k_X0 E (fun k => q0 (k + 54)) u)))) (fun u => rfl) (by decide) (fun r_4 u_3 H locs hw hP hD hS => ?_)
  refine lv_pop hx hb dX9_costsAtLevel_36 rfl ?_
  refine lv_aload_n hx hb dX9_costsAtLevel_37 rfl (lv_at hl 0 rfl) ?_
  refine va_get (D := zD E) (ci := 9) (v := .ref (q0 54)) (C := RX9) (T := TX9) (N := 7) hx hb hts uw_X9 hown hK hP 0 rfl rfl 6 (by decide) (hts _ wm_2_115) (fun _ h9 => h9) rfl dX9_costsAtLevel_38 ?_
  refine lv_aload_n hx hb dX9_costsAtLevel_41 rfl (lv_at hl 0 rfl) ?_
  refine va_get (D := zD E) (ci := 9) (v := .ref (q0 1)) (C := RX9) (T := TX9) (N := 7) hx hb hts uw_X9 hown hK hP 0 rfl rfl 0 (by decide) (hts _ wm_2_109) (fun _ h9 => h9) rfl dX9_costsAtLevel_42 ?_
  refine va_getN (D := zD E) (ci := 2) (v := .ref (q0 2)) (C := RX2) (T := TX2) (N := 3) hx hb hts uw_X2 hown hK hP 1 rfl rfl 0 (by decide) (hts _ wm_1_201) (fun _ h9 => h9) rfl dX9_costsAtLevel_45 ?_
  refine z_kl (z_rN (rest := []) hZ0 C0 hK hZ hA hP hD hS hl.1 (c_X0_closeRest l E Z hZ0 (fun k => q0 (k + 54)) (fun k => q0 (k + 2)) H.size u_3 u1.1 _ hw) yv_X9_201 [26, 27, 28, 29, 30, 31, 32, 2, 3, 4, 5, 6] rfl (by decide) (ci := 0) rfl rfl 26 rfl ⟨Nat.le_of_ble_eq_true rfl, Nat.le_of_ble_eq_true rfl⟩ ⟨rfl, rfl⟩ rfl rfl (Nat.le_of_ble_eq_true rfl) ⟨Nat.le_of_ble_eq_true rfl, Nat.le_of_ble_eq_true rfl⟩ dX9_costsAtLevel_48) hP hD hS hA [26, 27, 28, 29, 30, 31, 32, 2, 3, 4, 5, 6] [0, 1, 7, 8, 9, 10, 11, 12, 13, 14, 15, 16, 17, 18, 19, 20, 21, 22, 23, 24, 25] [0, 1, 28, 29, 30, 31, 32, 2, 3, 4, 5, 6, 7, 8, 9, 10, 11, 12, 13, 14, 15, 16, 17, 18, 19, 20, 21, 22, 23, 24, 25, 26, 27] rfl (wr := [_, _, _, _, _, _, _, _, _, _, _, _, _, _, _, _, _, _, _, _, _]) rfl (by decide) (by decide) (fun u => k_X9 E q0 u0 ++ (k_X2 E (fun k => q0 (k + 1)) (u.2, u1.2.1, u1.2.2) ++ (k_X0 E (fun k => q0 (k + 47)) u_1.2 ++ (k_X0 E (fun k => q0 (k + 54)) u.1)))) (fun u => rfl) (by decide) (fun r_6 u_5 H locs hw hP hD hS => ?_)
  exact z_lret (k := (fun u => k_X9 E q0 u.1 ++ (k_X2 E (fun k => q0 (k + 1)) u.2.1 ++ (k_X0 E (fun k => q0 (k + 47)) u.2.2.1 ++ (k_X0 E (fun k => q0 (k + 54)) u.2.2.2))))) (u0, (u_5.2, u1.2.1, u1.2.2), u_1.2, u_5.1) C0 hP hD hS hw dX9_costsAtLevel_51
abbrev r_X9_cheapestLevel : Room := { frames := 5, cells := 0, slots := 0, locals := 128 }
def j_X9_cheapestLevel_67 (K40 : (Int32 × Int32 × Int64 × Int32 × S_X9 × S_X2 × S_X0 × S_X0) → Prop) (x1 : Int32) (x2 : Int32) (x3 : Int64) (x5 : Int32) (u0 : S_X9) (u1 : S_X2) (u2 : S_X0) (u3 : S_X0) (post : Int32 → (S_X9 × S_X2 × S_X0 × S_X0) → Prop) : Prop := ∀ x_11 : Int32, x_11 = x5 + 1 → (K40 (x1, x2, x3, x_11, u0, u1, u2, u3))
def j_X9_cheapestLevel_40 (K40 : (Int32 × Int32 × Int64 × Int32 × S_X9 × S_X2 × S_X0 × S_X0) → Prop) (x1 : Int32) (x2 : Int32) (x3 : Int64) (x5 : Int32) (u0 : S_X9) (u1 : S_X2) (u2 : S_X0) (u3 : S_X0) (post : Int32 → (S_X9 × S_X2 × S_X0 × S_X0) → Prop) : Prop := (x1 < x5 → (post x2 (u0, u1, u2, u3))) ∧ (¬ (x1 < x5) → (wp_X9_costsAtLevel u0 u1 u2 u3 x5 (fun r_9 u_8 => (0 ≤ (lg_cmp r_9 x3) → (j_X9_cheapestLevel_67 K40 x1 x2 x3 x5 u_8.1 u_8.2.1 u_8.2.2.1 u_8.2.2.2 post)) ∧ (¬ (0 ≤ (lg_cmp r_9 x3)) → (j_X9_cheapestLevel_67 K40 x1 x5 r_9 x5 u_8.1 u_8.2.1 u_8.2.2.1 u_8.2.2.2 post)))))
def wp_X9_cheapestLevel (u0 : S_X9) (u1 : S_X2) (u2 : S_X0) (u3 : S_X0) (p1 : Int32) (post : Int32 → (S_X9 × S_X2 × S_X0 × S_X0) → Prop) : Prop := wp_X0_copyFrom u2 u1.2.1 (fun u_1 => wp_X0_closePeriod u_1.1 u1.1 (fun r_4 u_3 => wp_X9_costsAtLevel u0 (u_3.2, u_1.2, u1.2.2) u_3.1 u3 (0 : Int32) (fun r_6 u_5 => ∃ n, zl (fun K st => j_X9_cheapestLevel_40 K st.1 st.2.1 st.2.2.1 st.2.2.2.1 st.2.2.2.2.1 st.2.2.2.2.2.1 st.2.2.2.2.2.2.1 st.2.2.2.2.2.2.2 post) n (p1, (0 : Int32), r_6, (1 : Int32), u_5.1, u_5.2.1, u_5.2.2.1, u_5.2.2.2))))
set_option maxHeartbeats 4000000 in
set_option maxRecDepth 100000 in
theorem t_X9_cheapestLevel_67 {p : Program} {l : Launch} {e : Env} {s : State} {m : MethodId} {args : Array Value} {below : List Frame} {meth : Method} {c : Code} {Z : zZ} {E : zE} {A : Nat → Prop} {q0 : Nat → Nat} (hZ0 : zSt Z) (C0 : zC p s m args meth c yX9_cheapestLevel cX9_cheapestLevel 8 (some .int)) (hA : ∀ q : Nat, s.heap.size ≤ q → A q) (hK : va_K (zD E) vwCl (zT E) s) (hZ : Z A s s.heap) (post : Int32 → (S_X9 × S_X2 × S_X0 × S_X0) → Prop) {K40 : (Int32 × Int32 × Int64 × Int32 × S_X9 × S_X2 × S_X0 × S_X0) → Prop} (hk_40 : ∀ (x1 : Int32) (x2 : Int32) (x3 : Int64) (x5 : Int32) (u0 : S_X9) (u1 : S_X2) (u2 : S_X0) (u3 : S_X0) (H : Heap) (locs : List Loc) (ls : Array Slot), K40 (x1, x2, x3, x5, u0, u1, u2, u3) → va_P (zD E) vwCl (k_X9 E q0 u0 ++ (k_X2 E (fun k => q0 (k + 1)) u1 ++ (k_X0 E (fun k => q0 (k + 47)) u2 ++ (k_X0 E (fun k => q0 (k + 54)) u3)))) H → va_D A (k_X9 E q0 u0 ++ (k_X2 E (fun k => q0 (k + 1)) u1 ++ (k_X0 E (fun k => q0 (k + 47)) u2 ++ (k_X0 E (fun k => q0 (k + 54)) u3)))) → va_S A s.heap H locs → lv_has ls 8 [(0, .ref (q0 0)), (1, .int x1), (2, .int x2), (3, .long x3), (5, .int x5)] → W p l e r_X9_cheapestLevel s m args below meth c H locs 0 0 (MQ below (va_Qi post (zAt E A (fun u => k_X9 E q0 u.1 ++ (k_X2 E (fun k => q0 (k + 1)) u.2.1 ++ (k_X0 E (fun k => q0 (k + 47)) u.2.2.1 ++ (k_X0 E (fun k => q0 (k + 54)) u.2.2.2))))) A) args s 0 0 A) (F0 m 40 ls [])) : ∀ (x1 : Int32) (x2 : Int32) (x3 : Int64) (x5 : Int32) (u0 : S_X9) (u1 : S_X2) (u2 : S_X0) (u3 : S_X0) (H : Heap) (locs : List Loc) (ls : Array Slot), j_X9_cheapestLevel_67 K40 x1 x2 x3 x5 u0 u1 u2 u3 post → va_P (zD E) vwCl (k_X9 E q0 u0 ++ (k_X2 E (fun k => q0 (k + 1)) u1 ++ (k_X0 E (fun k => q0 (k + 47)) u2 ++ (k_X0 E (fun k => q0 (k + 54)) u3)))) H → va_D A (k_X9 E q0 u0 ++ (k_X2 E (fun k => q0 (k + 1)) u1 ++ (k_X0 E (fun k => q0 (k + 47)) u2 ++ (k_X0 E (fun k => q0 (k + 54)) u3)))) → va_S A s.heap H locs → lv_has ls 8 [(0, .ref (q0 0)), (1, .int x1), (2, .int x2), (3, .long x3), (5, .int x5)] → W p l e r_X9_cheapestLevel s m args below meth c H locs 0 0 (MQ below (va_Qi post (zAt E A (fun u => k_X9 E q0 u.1 ++ (k_X2 E (fun k => q0 (k + 1)) u.2.1 ++ (k_X0 E (fun k => q0 (k + 47)) u.2.2.1 ++ (k_X0 E (fun k => q0 (k + 54)) u.2.2.2))))) A) args s 0 0 A) (F0 m 67 ls []) := by
  obtain ⟨hx, hb, hml, hr, hown, hts, hlocks, hin⟩ := id C0
  have hown : s.vm.findClass RX9 = some m.cls := hown
  intro x1 x2 x3 x5 u0 u1 u2 u3 H locs ls hw hP hD hS hl
  obtain ⟨x_11, ex_11⟩ : ∃ y : Int32, y = x5 + 1 := ⟨_, rfl⟩
  have hw := hw x_11 ex_11
  refine lv_iinc (v := x_11) (lv' := [(5, .int x_11), (0, .ref (q0 0)), (1, .int x1), (2, .int x2), (3, .long x3)]) hx hb dX9_cheapestLevel_67 hl (k := 4) rfl (by rw [ex_11]; rfl) (by decide) rfl (fun ls hl => ?_)
  refine lv_goto (tgt := 40) hx hb dX9_cheapestLevel_70 (by decide) ?_
  exact hk_40 x1 x2 x3 x_11 u0 u1 u2 u3 _ _ _ hw hP hD hS (lv_sub hl [1, 2, 3, 4, 0] rfl)
set_option maxHeartbeats 4000000 in
set_option maxRecDepth 100000 in
theorem t_X9_cheapestLevel_40 {p : Program} {l : Launch} {e : Env} {s : State} {m : MethodId} {args : Array Value} {below : List Frame} {meth : Method} {c : Code} {Z : zZ} {E : zE} {A : Nat → Prop} {q0 : Nat → Nat} (hZ0 : zSt Z) (C0 : zC p s m args meth c yX9_cheapestLevel cX9_cheapestLevel 8 (some .int)) (hA : ∀ q : Nat, s.heap.size ≤ q → A q) (hK : va_K (zD E) vwCl (zT E) s) (hZ : Z A s s.heap) (post : Int32 → (S_X9 × S_X2 × S_X0 × S_X0) → Prop) : ∀ (n : Nat) (x1 : Int32) (x2 : Int32) (x3 : Int64) (x5 : Int32) (u0 : S_X9) (u1 : S_X2) (u2 : S_X0) (u3 : S_X0) (H : Heap) (locs : List Loc) (ls : Array Slot), zl (fun K st => j_X9_cheapestLevel_40 K st.1 st.2.1 st.2.2.1 st.2.2.2.1 st.2.2.2.2.1 st.2.2.2.2.2.1 st.2.2.2.2.2.2.1 st.2.2.2.2.2.2.2 post) n (x1, x2, x3, x5, u0, u1, u2, u3) → va_P (zD E) vwCl (k_X9 E q0 u0 ++ (k_X2 E (fun k => q0 (k + 1)) u1 ++ (k_X0 E (fun k => q0 (k + 47)) u2 ++ (k_X0 E (fun k => q0 (k + 54)) u3)))) H → va_D A (k_X9 E q0 u0 ++ (k_X2 E (fun k => q0 (k + 1)) u1 ++ (k_X0 E (fun k => q0 (k + 47)) u2 ++ (k_X0 E (fun k => q0 (k + 54)) u3)))) → va_S A s.heap H locs → lv_has ls 8 [(0, .ref (q0 0)), (1, .int x1), (2, .int x2), (3, .long x3), (5, .int x5)] → W p l e r_X9_cheapestLevel s m args below meth c H locs 0 0 (MQ below (va_Qi post (zAt E A (fun u => k_X9 E q0 u.1 ++ (k_X2 E (fun k => q0 (k + 1)) u.2.1 ++ (k_X0 E (fun k => q0 (k + 47)) u.2.2.1 ++ (k_X0 E (fun k => q0 (k + 54)) u.2.2.2))))) A) args s 0 0 A) (F0 m 40 ls []) := by
  obtain ⟨hx, hb, hml, hr, hown, hts, hlocks, hin⟩ := id C0
  have hown : s.vm.findClass RX9 = some m.cls := hown
  intro n
  induction n with
  | zero => intro x1 x2 x3 x5 u0 u1 u2 u3 H locs ls hw; exact hw.elim
  | succ n hk_40 =>
    intro x1 x2 x3 x5 u0 u1 u2 u3 H locs ls hw hP hD hS hl
    have hw : j_X9_cheapestLevel_40 _ x1 x2 x3 x5 u0 u1 u2 u3 post := hw
    refine lv_iload hx hb dX9_cheapestLevel_40 (lv_at hl 4 rfl) ?_
    refine lv_iload_n hx hb dX9_cheapestLevel_42 rfl (lv_at hl 1 rfl) ?_
    obtain ⟨hwt, hwf⟩ := hw
    refine lv_icmp_gt (tgt := 73) hx hb dX9_cheapestLevel_43 (by decide) (fun c_7 => ?_) (fun c_7 => ?_)
    · have hw := hwt c_7
      refine lv_iload_n hx hb dX9_cheapestLevel_73 rfl (lv_at hl 2 rfl) ?_
      exact z_iret (k := (fun u => k_X9 E q0 u.1 ++ (k_X2 E (fun k => q0 (k + 1)) u.2.1 ++ (k_X0 E (fun k => q0 (k + 47)) u.2.2.1 ++ (k_X0 E (fun k => q0 (k + 54)) u.2.2.2))))) (u0, u1, u2, u3) C0 hP hD hS hw dX9_cheapestLevel_74
    · have hw := hwf c_7
      refine lv_aload_n hx hb dX9_cheapestLevel_46 rfl (lv_at hl 0 rfl) ?_
      refine lv_iload hx hb dX9_cheapestLevel_47 (lv_at hl 4 rfl) ?_
      refine z_kl (z_rV (rest := []) hZ0 C0 hK hZ hA hP hD hS hl.1 (c_X9_costsAtLevel l E Z hZ0 q0 H.size u0 u1 u2 u3 x5 _ hw) yv_X9_284 [0, 1, 2, 3, 4, 5, 6, 7, 8, 9, 10, 11, 12, 13, 14, 15, 16, 17, 18, 19, 20, 21, 22, 23, 24, 25, 26, 27, 28, 29, 30, 31, 32] rfl (by decide) (ci := 9) rfl rfl 0 rfl ⟨Nat.le_of_ble_eq_true rfl, Nat.le_of_ble_eq_true rfl⟩ ⟨rfl, rfl⟩ rfl rfl (Nat.le_of_ble_eq_true rfl) ⟨Nat.le_of_ble_eq_true rfl, Nat.le_of_ble_eq_true rfl⟩ dX9_cheapestLevel_49) hP hD hS hA [0, 1, 2, 3, 4, 5, 6, 7, 8, 9, 10, 11, 12, 13, 14, 15, 16, 17, 18, 19, 20, 21, 22, 23, 24, 25, 26, 27, 28, 29, 30, 31, 32] [] [0, 1, 2, 3, 4, 5, 6, 7, 8, 9, 10, 11, 12, 13, 14, 15, 16, 17, 18, 19, 20, 21, 22, 23, 24, 25, 26, 27, 28, 29, 30, 31, 32] rfl (wr := []) rfl (by decide) (by decide) (fun u => k_X9 E q0 u.1 ++ (k_X2 E (fun k => q0 (k + 1)) u.2.1 ++ (k_X0 E (fun k => q0 (k + 47)) u.2.2.1 ++ (k_X0 E (fun k => q0 (k + 54)) u.2.2.2)))) (fun u => rfl) (by decide) (fun r_9 u_8 H locs hw hP hD hS => ?_)
      refine lv_lstore (lv' := [(6, .long r_9), (0, .ref (q0 0)), (1, .int x1), (2, .int x2), (3, .long x3), (5, .int x5)]) hx hb dX9_cheapestLevel_52 hl (by decide) rfl (fun ls hl => ?_)
      refine lv_lload hx hb dX9_cheapestLevel_54 (lv_at hl 0 rfl) ?_
      refine lv_lload_n hx hb dX9_cheapestLevel_56 rfl (lv_at hl 4 rfl) ?_
      refine W.lcmp hx hb dX9_cheapestLevel_57 ?_
      obtain ⟨hwt, hwf⟩ := hw
      refine lv_if_ge (tgt := 67) hx hb dX9_cheapestLevel_58 (by decide) (fun c_10 => ?_) (fun c_10 => ?_)
      · have hw := hwt c_10
        exact t_X9_cheapestLevel_67 (l := l) hZ0 C0 hA hK hZ post hk_40 x1 x2 x3 x5 u_8.1 u_8.2.1 u_8.2.2.1 u_8.2.2.2 _ _ _ hw hP hD hS (lv_sub hl [1, 2, 3, 4, 5] rfl)
      · have hw := hwf c_10
        refine lv_lload hx hb dX9_cheapestLevel_61 (lv_at hl 0 rfl) ?_
        refine lv_lstore_n (lv' := [(3, .long r_9), (6, .long r_9), (0, .ref (q0 0)), (1, .int x1), (2, .int x2), (5, .int x5)]) hx hb dX9_cheapestLevel_63 rfl hl (by decide) rfl (fun ls hl => ?_)
        refine lv_iload hx hb dX9_cheapestLevel_64 (lv_at hl 5 rfl) ?_
        refine lv_istore_n (lv' := [(2, .int x5), (3, .long r_9), (6, .long r_9), (0, .ref (q0 0)), (1, .int x1), (5, .int x5)]) hx hb dX9_cheapestLevel_66 rfl hl (by decide) rfl (fun ls hl => ?_)
        exact t_X9_cheapestLevel_67 (l := l) hZ0 C0 hA hK hZ post hk_40 x1 x5 r_9 x5 u_8.1 u_8.2.1 u_8.2.2.1 u_8.2.2.2 _ _ _ hw hP hD hS (lv_sub hl [3, 4, 0, 1, 5] rfl)
set_option maxHeartbeats 4000000 in
set_option maxRecDepth 100000 in
theorem c_X9_cheapestLevel (l : Launch) (E : zE) (Z : zZ) (hZ0 : zSt Z) (q0 : Nat → Nat) (sz : Nat) (u0 : S_X9) (u1 : S_X2) (u2 : S_X0) (u3 : S_X0) (p1 : Int32) (post : Int32 → (S_X9 × S_X2 × S_X0 × S_X0) → Prop) (hw : wp_X9_cheapestLevel u0 u1 u2 u3 p1 post) : Met l yX9_cheapestLevel (zws yX9_cheapestLevel cX9_cheapestLevel 8 (some .int)) r_X9_cheapestLevel (va_Pc [.ref (q0 0), .int p1] (zPre Z E (k_X9 E q0 u0 ++ (k_X2 E (fun k => q0 (k + 1)) u1 ++ (k_X0 E (fun k => q0 (k + 47)) u2 ++ (k_X0 E (fun k => q0 (k + 54)) u3)))) sz)) (va_Qi post (zAt E (va_A (k_X9 E q0 u0 ++ (k_X2 E (fun k => q0 (k + 1)) u1 ++ (k_X0 E (fun k => q0 (k + 47)) u2 ++ (k_X0 E (fun k => q0 (k + 54)) u3)))) sz) (fun u => k_X9 E q0 u.1 ++ (k_X2 E (fun k => q0 (k + 1)) u.2.1 ++ (k_X0 E (fun k => q0 (k + 47)) u.2.2.1 ++ (k_X0 E (fun k => q0 (k + 54)) u.2.2.2))))) (va_A (k_X9 E q0 u0 ++ (k_X2 E (fun k => q0 (k + 1)) u1 ++ (k_X0 E (fun k => q0 (k + 47)) u2 ++ (k_X0 E (fun k => q0 (k + 54)) u3)))) sz)) 0 0 (va_A (k_X9 E q0 u0 ++ (k_X2 E (fun k => q0 (k + 1)) u1 ++ (k_X0 E (fun k => q0 (k + 47)) u2 ++ (k_X0 E (fun k => q0 (k + 54)) u3)))) sz) := by
  refine z_ofW (Qf := fun A => va_Qi post (zAt E A (fun u => k_X9 E q0 u.1 ++ (k_X2 E (fun k => q0 (k + 1)) u.2.1 ++ (k_X0 E (fun k => q0 (k + 47)) u.2.2.1 ++ (k_X0 E (fun k => q0 (k + 54)) u.2.2.2))))) A) (by decide) (Nat.le_of_ble_eq_true rfl) ?_
  intro p e s m args below meth c A ls C0 hA hK hZ hP hD hS hl
  obtain ⟨hx, hb, hml, hr, hown, hts, hlocks, hin⟩ := id C0
  have hown : s.vm.findClass RX9 = some m.cls := hown
  have hl : lv_has ls 8 [(0, .ref (q0 0)), (1, .int p1)] := hl
  refine lv_aload_n hx hb dX9_cheapestLevel_0 rfl (lv_at hl 0 rfl) ?_
  refine va_get (D := zD E) (ci := 9) (v := .ref (q0 47)) (C := RX9) (T := TX9) (N := 7) hx hb hts uw_X9 hown hK hP 0 rfl rfl 5 (by decide) (hts _ wm_2_114) (fun _ h9 => h9) rfl dX9_cheapestLevel_1 ?_
  refine lv_aload_n hx hb dX9_cheapestLevel_4 rfl (lv_at hl 0 rfl) ?_
  refine va_get (D := zD E) (ci := 9) (v := .ref (q0 1)) (C := RX9) (T := TX9) (N := 7) hx hb hts uw_X9 hown hK hP 0 rfl rfl 0 (by decide) (hts _ wm_2_109) (fun _ h9 => h9) rfl dX9_cheapestLevel_5 ?_
  refine va_getN (D := zD E) (ci := 2) (v := .ref (q0 7)) (C := RX2) (T := TX2) (N := 3) hx hb hts uw_X2 hown hK hP 1 rfl rfl 1 (by decide) (hts _ wm_1_204) (fun _ h9 => h9) rfl dX9_cheapestLevel_8 ?_
  refine z_kv (z_rN (rest := []) hZ0 C0 hK hZ hA hP hD hS hl.1 (c_X0_copyFrom l E Z hZ0 (fun k => q0 (k + 47)) (fun k => q0 (k + 7)) s.heap.size u2 u1.2.1 _ hw) yv_X9_198 [19, 20, 21, 22, 23, 24, 25, 7, 8, 9, 10, 11, 12, 13] rfl (by decide) (ci := 0) rfl rfl 19 rfl ⟨Nat.le_of_ble_eq_true rfl, Nat.le_of_ble_eq_true rfl⟩ ⟨rfl, rfl⟩ rfl rfl (Nat.le_of_ble_eq_true rfl) ⟨Nat.le_of_ble_eq_true rfl, Nat.le_of_ble_eq_true rfl⟩ dX9_cheapestLevel_11) hP hD hS hA [19, 20, 21, 22, 23, 24, 25, 7, 8, 9, 10, 11, 12, 13] [0, 1, 2, 3, 4, 5, 6, 14, 15, 16, 17, 18, 26, 27, 28, 29, 30, 31, 32] [0, 1, 2, 3, 4, 5, 6, 26, 27, 28, 29, 30, 31, 32, 7, 8, 9, 10, 11, 19, 20, 21, 22, 23, 24, 25, 12, 13, 14, 15, 16, 17, 18] rfl (wr := [_, _, _, _, _, _, _, _, _, _, _, _, _, _, _, _, _, _, _]) rfl (by decide) (by decide) (fun u => k_X9 E q0 u0 ++ (k_X2 E (fun k => q0 (k + 1)) (u1.1, u.2, u1.2.2) ++ (k_X0 E (fun k => q0 (k + 47)) u.1 ++ (k_X0 E (fun k => q0 (k + 54)) u3)))) (fun u => rfl) (by decide) (fun u_1 H locs hw hP hD hS => ?_)
  refine lv_aload_n hx hb dX9_cheapestLevel_14 rfl (lv_at hl 0 rfl) ?_
  refine va_get (D := zD E) (ci := 9) (v := .ref (q0 47)) (C := RX9) (T := TX9) (N := 7) hx hb hts uw_X9 hown hK hP 0 rfl rfl 5 (by decide) (hts _ wm_2_114) (fun _ h9 => h9) rfl dX9_cheapestLevel_15 ?_
  refine lv_aload_n hx hb dX9_cheapestLevel_18 rfl (lv_at hl 0 rfl) ?_
  refine va_get (D := zD E) (ci := 9) (v := .ref (q0 1)) (C := RX9) (T := TX9) (N := 7) hx hb hts uw_X9 hown hK hP 0 rfl rfl 0 (by decide) (hts _ wm_2_109) (fun _ h9 => h9) rfl dX9_cheapestLevel_19 ?_
  refine va_getN (D := zD E) (ci := 2) (v := .ref (q0 2)) (C := RX2) (T := TX2) (N := 3) hx hb hts uw_X2 hown hK hP 1 rfl rfl 0 (by decide) (hts _ wm_1_201) (fun _ h9 => h9) rfl dX9_cheapestLevel_22 ?_
  refine z_kl (z_rN (rest := []) hZ0 C0 hK hZ hA hP hD hS hl.1 (c_X0_closePeriod l E Z hZ0 (fun k => q0 (k + 47)) (fun k => q0 (k + 2)) H.size u_1.1 u1.1 _ hw) yv_X9_231 [19, 20, 21, 22, 23, 24, 25, 2, 3, 4, 5, 6] rfl (by decide) (ci := 0) rfl rfl 19 rfl ⟨Nat.le_of_ble_eq_true rfl, Nat.le_of_ble_eq_true rfl⟩ ⟨rfl, rfl⟩ rfl rfl (Nat.le_of_ble_eq_true rfl) ⟨Nat.le_of_ble_eq_true rfl, Nat.le_of_ble_eq_true rfl⟩ dX9_cheapestLevel_25) hP hD hS hA [19, 20, 21, 22, 23, 24, 25, 2, 3, 4, 5, 6] [0, 1, 7, 8, 9, 10, 11, 12, 13, 14, 15, 16, 17, 18, 26, 27, 28, 29, 30, 31, 32] [0, 1, 28, 29, 30, 31, 32, 2, 3, 4, 5, 6, 7, 8, 9, 10, 11, 12, 13, 21, 22, 23, 24, 25, 26, 27, 14, 15, 16, 17, 18, 19, 20] rfl (wr := [_, _, _, _, _, _, _, _, _, _, _, _, _, _, _, _, _, _, _, _, _]) rfl (by decide) (by decide) (fun u => k_X9 E q0 u0 ++ (k_X2 E (fun k => q0 (k + 1)) (u.2, u_1.2, u1.2.2) ++ (k_X0 E (fun k => q0 (k + 47)) u.1 ++ (k_X0 E (fun k => q0 (k + 54)) u3)))) (fun u => rfl) (by decide) (fun r_4 u_3 H locs hw hP hD hS => ?_)
  refine lv_pop2_2 hx hb dX9_cheapestLevel_28 rfl ?_
  refine lv_iconst (v := 0) hx hb dX9_cheapestLevel_29 rfl ?_
  refine lv_istore_n (lv' := [(2, .int (0 : Int32)), (0, .ref (q0 0)), (1, .int p1)]) hx hb dX9_cheapestLevel_30 rfl hl (by decide) rfl (fun ls hl => ?_)
  refine lv_aload_n hx hb dX9_cheapestLevel_31 rfl (lv_at hl 1 rfl) ?_
  refine lv_iconst (v := 0) hx hb dX9_cheapestLevel_32 rfl ?_
  refine z_kl (z_rV (rest := []) hZ0 C0 hK hZ hA hP hD hS hl.1 (c_X9_costsAtLevel l E Z hZ0 q0 H.size u0 (u_3.2, u_1.2, u1.2.2) u_3.1 u3 (0 : Int32) _ hw) yv_X9_284 [0, 1, 2, 3, 4, 5, 6, 7, 8, 9, 10, 11, 12, 13, 14, 15, 16, 17, 18, 19, 20, 21, 22, 23, 24, 25, 26, 27, 28, 29, 30, 31, 32] rfl (by decide) (ci := 9) rfl rfl 0 rfl ⟨Nat.le_of_ble_eq_true rfl, Nat.le_of_ble_eq_true rfl⟩ ⟨rfl, rfl⟩ rfl rfl (Nat.le_of_ble_eq_true rfl) ⟨Nat.le_of_ble_eq_true rfl, Nat.le_of_ble_eq_true rfl⟩ dX9_cheapestLevel_33) hP hD hS hA [0, 1, 2, 3, 4, 5, 6, 7, 8, 9, 10, 11, 12, 13, 14, 15, 16, 17, 18, 19, 20, 21, 22, 23, 24, 25, 26, 27, 28, 29, 30, 31, 32] [] [0, 1, 2, 3, 4, 5, 6, 7, 8, 9, 10, 11, 12, 13, 14, 15, 16, 17, 18, 19, 20, 21, 22, 23, 24, 25, 26, 27, 28, 29, 30, 31, 32] rfl (wr := []) rfl (by decide) (by decide) (fun u => k_X9 E q0 u.1 ++ (k_X2 E (fun k => q0 (k + 1)) u.2.1 ++ (k_X0 E (fun k => q0 (k + 47)) u.2.2.1 ++ (k_X0 E (fun k => q0 (k + 54)) u.2.2.2)))) (fun u => rfl) (by decide) (fun r_6 u_5 H locs hw hP hD hS => ?_)
  refine lv_lstore_n (lv' := [(3, .long r_6), (2, .int (0 : Int32)), (0, .ref (q0 0)), (1, .int p1)]) hx hb dX9_cheapestLevel_36 rfl hl (by decide) rfl (fun ls hl => ?_)
  refine lv_iconst (v := 1) hx hb dX9_cheapestLevel_37 rfl ?_
  refine lv_istore (lv' := [(5, .int (1 : Int32)), (3, .long r_6), (2, .int (0 : Int32)), (0, .ref (q0 0)), (1, .int p1)]) hx hb dX9_cheapestLevel_38 hl (by decide) rfl (fun ls hl => ?_)
  obtain ⟨n9, hw⟩ := hw
  exact t_X9_cheapestLevel_40 (l := l) hZ0 C0 hA hK hZ post n9 p1 (0 : Int32) r_6 (1 : Int32) u_5.1 u_5.2.1 u_5.2.2.1 u_5.2.2.2 _ _ _ hw hP hD hS (lv_sub hl [3, 4, 2, 1, 0] rfl)
