abbrev r_X9_checkPeriod : Room := { frames := 6, cells := 1, slots := 6, locals := 90 }
def wp_X9_checkPeriod (u0 : S_X9) (u1 : S_X2) (p1 : Int32) (post : (S_X9 × S_X2) → Prop) (postX : String → (S_X9 × S_X2) → Prop) : Prop := (p1 < 0 → (postX "java/lang/IndexOutOfBoundsException" (u0, u1))) ∧ (¬ (p1 < 0) → ((p1 < u1.1.1 → (post (u0, u1))) ∧ (¬ (p1 < u1.1.1) → (postX "java/lang/IndexOutOfBoundsException" (u0, u1)))))
set_option maxHeartbeats 4000000 in
set_option maxRecDepth 100000 in
theorem c_X9_checkPeriod (l : Launch) (E : zE) (Z : zZ) (hZ0 : zSt Z) {sa : Nat → Nat} (hZs : zSS Z sa) (hlt : l.stackTraces = false) (hZe : ∀ A U H, Z A U H → zExc A U H) (q0 : Nat → Nat) (sz : Nat) (u0 : S_X9) (u1 : S_X2) (p1 : Int32) (post : (S_X9 × S_X2) → Prop) (postX : String → (S_X9 × S_X2) → Prop) (hw : wp_X9_checkPeriod u0 u1 p1 post postX) : vx_Met l yX9_checkPeriod (zws yX9_checkPeriod cX9_checkPeriod 2 none) r_X9_checkPeriod (va_Pc [.ref (q0 0), .int p1] (zPre Z E (k_X9 E q0 u0 ++ (k_X2 E (fun k => q0 (k + 1)) u1)) sz)) (va_Qv post (zAt E (va_A (k_X9 E q0 u0 ++ (k_X2 E (fun k => q0 (k + 1)) u1)) sz) (fun u => k_X9 E q0 u.1 ++ (k_X2 E (fun k => q0 (k + 1)) u.2))) (va_A (k_X9 E q0 u0 ++ (k_X2 E (fun k => q0 (k + 1)) u1)) sz)) (zXC E (va_A (k_X9 E q0 u0 ++ (k_X2 E (fun k => q0 (k + 1)) u1)) sz) (fun u => k_X9 E q0 u.1 ++ (k_X2 E (fun k => q0 (k + 1)) u.2)) postX) 1 6 (va_A (k_X9 E q0 u0 ++ (k_X2 E (fun k => q0 (k + 1)) u1)) sz) := by
  refine z_ofX (y := yX9_checkPeriod) (cc := cX9_checkPeriod) (maxL := 2) (ret := none) (av := [.ref (q0 0), .int p1]) (w := k_X9 E q0 u0 ++ (k_X2 E (fun k => q0 (k + 1)) u1)) (Qf := fun A => va_Qv post (zAt E A (fun u => k_X9 E q0 u.1 ++ (k_X2 E (fun k => q0 (k + 1)) u.2))) A) (Xf := fun A => zXC E A (fun u => k_X9 E q0 u.1 ++ (k_X2 E (fun k => q0 (k + 1)) u.2)) postX) (by decide) (Nat.le_of_ble_eq_true rfl) ?_
  intro p e s m args below meth c A ls C0 hT hA hK hZ hP hD hS hl
  obtain ⟨hx, hb, hml, hr, hown, hts, hlocks, hin⟩ := id C0
  have hown : s.vm.findClass RX9 = some m.cls := hown
  have hl : lv_has ls 2 [(0, .ref (q0 0)), (1, .int p1)] := hl
  refine lv_iload_n hx hb dX9_checkPeriod_0 rfl (lv_at hl 1 rfl) ?_
  obtain ⟨hwt, hwf⟩ := hw
  refine lv_if_lt (tgt := 18) hx hb dX9_checkPeriod_1 (by decide) (fun c_1 => ?_) (fun c_1 => ?_)
  · have hw := hwt c_1
    refine z_thrW_IOB (Z := Z) (k := (fun u => k_X9 E q0 u.1 ++ (k_X2 E (fun k => q0 (k + 1)) u.2))) (u0, u1) C0 rfl hT hlt (hZe _ _ _ hZ) (zsk_6 hZs hZ) hP hD hS hl.1 hw dX9_checkPeriod_18 dX9_checkPeriod_21 dX9_checkPeriod_22 dX9_checkPeriod_25 dX9_checkPeriod_28 ?_ ?_ ?_ ?_ ?_ ?_ <;> decide
  · have hw := hwf c_1
    refine lv_iload_n hx hb dX9_checkPeriod_4 rfl (lv_at hl 1 rfl) ?_
    refine lv_aload_n hx hb dX9_checkPeriod_5 rfl (lv_at hl 0 rfl) ?_
    refine va_get (D := zD E) (ci := 9) (v := .ref (q0 1)) (C := RX9) (T := TX9) (N := 7) hx hb hts uw_X9 hown hK hP 0 rfl rfl 0 (by decide) (hts _ wm_2_109) (fun _ h9 => h9) rfl dX9_checkPeriod_6 ?_
    refine va_getN (D := zD E) (ci := 2) (v := .ref (q0 2)) (C := RX2) (T := TX2) (N := 3) hx hb hts uw_X2 hown hK hP 1 rfl rfl 0 (by decide) (hts _ wm_1_201) (fun _ h9 => h9) rfl dX9_checkPeriod_9 ?_
    refine va_getN (D := zD E) (ci := 7) (v := .int u1.1.1) (C := RX7) (T := TX7) (N := 16) hx hb hts uw_X7 hown hK hP 2 rfl rfl 0 (by decide) (hts _ wm_1_47) (fun _ h9 => h9) rfl dX9_checkPeriod_12 ?_
    obtain ⟨hwt, hwf⟩ := hw
    refine lv_icmp_lt (tgt := 29) hx hb dX9_checkPeriod_15 (by decide) (fun c_2 => ?_) (fun c_2 => ?_)
    · have hw := hwt c_2
      refine W.widen (k := 1) (n := 6) (by decide) (by decide) ?_
      refine vx_ret ?_
      exact z_vret (k := (fun u => k_X9 E q0 u.1 ++ (k_X2 E (fun k => q0 (k + 1)) u.2))) (u0, u1) C0 hP hD hS hw dX9_checkPeriod_29
    · have hw := hwf c_2
      refine z_thrW_IOB (Z := Z) (k := (fun u => k_X9 E q0 u.1 ++ (k_X2 E (fun k => q0 (k + 1)) u.2))) (u0, u1) C0 rfl hT hlt (hZe _ _ _ hZ) (zsk_6 hZs hZ) hP hD hS hl.1 hw dX9_checkPeriod_18 dX9_checkPeriod_21 dX9_checkPeriod_22 dX9_checkPeriod_25 dX9_checkPeriod_28 ?_ ?_ ?_ ?_ ?_ ?_ <;> decide
abbrev r_X9_checkBreach : Room := { frames := 6, cells := 1, slots := 6, locals := 90 }
def wp_X9_checkBreach (u0 : S_X9) (u1 : S_X2) (p1 : Int32) (post : (S_X9 × S_X2) → Prop) (postX : String → (S_X9 × S_X2) → Prop) : Prop := (p1 < 0 → (postX "java/lang/IndexOutOfBoundsException" (u0, u1))) ∧ (¬ (p1 < 0) → ((p1 < u1.2.2.1 → (post (u0, u1))) ∧ (¬ (p1 < u1.2.2.1) → (postX "java/lang/IndexOutOfBoundsException" (u0, u1)))))
set_option maxHeartbeats 4000000 in
set_option maxRecDepth 100000 in
theorem c_X9_checkBreach (l : Launch) (E : zE) (Z : zZ) (hZ0 : zSt Z) {sa : Nat → Nat} (hZs : zSS Z sa) (hlt : l.stackTraces = false) (hZe : ∀ A U H, Z A U H → zExc A U H) (q0 : Nat → Nat) (sz : Nat) (u0 : S_X9) (u1 : S_X2) (p1 : Int32) (post : (S_X9 × S_X2) → Prop) (postX : String → (S_X9 × S_X2) → Prop) (hw : wp_X9_checkBreach u0 u1 p1 post postX) : vx_Met l yX9_checkBreach (zws yX9_checkBreach cX9_checkBreach 2 none) r_X9_checkBreach (va_Pc [.ref (q0 0), .int p1] (zPre Z E (k_X9 E q0 u0 ++ (k_X2 E (fun k => q0 (k + 1)) u1)) sz)) (va_Qv post (zAt E (va_A (k_X9 E q0 u0 ++ (k_X2 E (fun k => q0 (k + 1)) u1)) sz) (fun u => k_X9 E q0 u.1 ++ (k_X2 E (fun k => q0 (k + 1)) u.2))) (va_A (k_X9 E q0 u0 ++ (k_X2 E (fun k => q0 (k + 1)) u1)) sz)) (zXC E (va_A (k_X9 E q0 u0 ++ (k_X2 E (fun k => q0 (k + 1)) u1)) sz) (fun u => k_X9 E q0 u.1 ++ (k_X2 E (fun k => q0 (k + 1)) u.2)) postX) 1 6 (va_A (k_X9 E q0 u0 ++ (k_X2 E (fun k => q0 (k + 1)) u1)) sz) := by
  refine z_ofX (y := yX9_checkBreach) (cc := cX9_checkBreach) (maxL := 2) (ret := none) (av := [.ref (q0 0), .int p1]) (w := k_X9 E q0 u0 ++ (k_X2 E (fun k => q0 (k + 1)) u1)) (Qf := fun A => va_Qv post (zAt E A (fun u => k_X9 E q0 u.1 ++ (k_X2 E (fun k => q0 (k + 1)) u.2))) A) (Xf := fun A => zXC E A (fun u => k_X9 E q0 u.1 ++ (k_X2 E (fun k => q0 (k + 1)) u.2)) postX) (by decide) (Nat.le_of_ble_eq_true rfl) ?_
  intro p e s m args below meth c A ls C0 hT hA hK hZ hP hD hS hl
  obtain ⟨hx, hb, hml, hr, hown, hts, hlocks, hin⟩ := id C0
  have hown : s.vm.findClass RX9 = some m.cls := hown
  have hl : lv_has ls 2 [(0, .ref (q0 0)), (1, .int p1)] := hl
  refine lv_iload_n hx hb dX9_checkBreach_0 rfl (lv_at hl 1 rfl) ?_
  obtain ⟨hwt, hwf⟩ := hw
  refine lv_if_lt (tgt := 18) hx hb dX9_checkBreach_1 (by decide) (fun c_1 => ?_) (fun c_1 => ?_)
  · have hw := hwt c_1
    refine z_thrW_IOB (Z := Z) (k := (fun u => k_X9 E q0 u.1 ++ (k_X2 E (fun k => q0 (k + 1)) u.2))) (u0, u1) C0 rfl hT hlt (hZe _ _ _ hZ) (zsk_7 hZs hZ) hP hD hS hl.1 hw dX9_checkBreach_18 dX9_checkBreach_21 dX9_checkBreach_22 dX9_checkBreach_25 dX9_checkBreach_28 ?_ ?_ ?_ ?_ ?_ ?_ <;> decide
  · have hw := hwf c_1
    refine lv_iload_n hx hb dX9_checkBreach_4 rfl (lv_at hl 1 rfl) ?_
    refine lv_aload_n hx hb dX9_checkBreach_5 rfl (lv_at hl 0 rfl) ?_
    refine va_get (D := zD E) (ci := 9) (v := .ref (q0 1)) (C := RX9) (T := TX9) (N := 7) hx hb hts uw_X9 hown hK hP 0 rfl rfl 0 (by decide) (hts _ wm_2_109) (fun _ h9 => h9) rfl dX9_checkBreach_6 ?_
    refine va_getN (D := zD E) (ci := 2) (v := .ref (q0 14)) (C := RX2) (T := TX2) (N := 3) hx hb hts uw_X2 hown hK hP 1 rfl rfl 2 (by decide) (hts _ wm_1_206) (fun _ h9 => h9) rfl dX9_checkBreach_9 ?_
    refine va_getN (D := zD E) (ci := 1) (v := .int u1.2.2.1) (C := RX1) (T := TX1) (N := 7) hx hb hts uw_X1 hown hK hP 14 rfl rfl 0 (by decide) (hts _ wm_1_168) (fun _ h9 => h9) rfl dX9_checkBreach_12 ?_
    obtain ⟨hwt, hwf⟩ := hw
    refine lv_icmp_lt (tgt := 29) hx hb dX9_checkBreach_15 (by decide) (fun c_2 => ?_) (fun c_2 => ?_)
    · have hw := hwt c_2
      refine W.widen (k := 1) (n := 6) (by decide) (by decide) ?_
      refine vx_ret ?_
      exact z_vret (k := (fun u => k_X9 E q0 u.1 ++ (k_X2 E (fun k => q0 (k + 1)) u.2))) (u0, u1) C0 hP hD hS hw dX9_checkBreach_29
    · have hw := hwf c_2
      refine z_thrW_IOB (Z := Z) (k := (fun u => k_X9 E q0 u.1 ++ (k_X2 E (fun k => q0 (k + 1)) u.2))) (u0, u1) C0 rfl hT hlt (hZe _ _ _ hZ) (zsk_7 hZs hZ) hP hD hS hl.1 hw dX9_checkBreach_18 dX9_checkBreach_21 dX9_checkBreach_22 dX9_checkBreach_25 dX9_checkBreach_28 ?_ ?_ ?_ ?_ ?_ ?_ <;> decide
abbrev r_X9_checkRunning : Room := { frames := 6, cells := 1, slots := 6, locals := 90 }
def wp_X9_checkRunning (u0 : S_X9) (u1 : S_X2) (post : (S_X9 × S_X2) → Prop) (postX : String → (S_X9 × S_X2) → Prop) : Prop := (u1.2.1.1 < u1.1.1 → (post (u0, u1))) ∧ (¬ (u1.2.1.1 < u1.1.1) → (postX "java/lang/IllegalStateException" (u0, u1)))
set_option maxHeartbeats 4000000 in
set_option maxRecDepth 100000 in
theorem c_X9_checkRunning (l : Launch) (E : zE) (Z : zZ) (hZ0 : zSt Z) {sa : Nat → Nat} (hZs : zSS Z sa) (hlt : l.stackTraces = false) (hZe : ∀ A U H, Z A U H → zExc A U H) (q0 : Nat → Nat) (sz : Nat) (u0 : S_X9) (u1 : S_X2) (post : (S_X9 × S_X2) → Prop) (postX : String → (S_X9 × S_X2) → Prop) (hw : wp_X9_checkRunning u0 u1 post postX) : vx_Met l yX9_checkRunning (zws yX9_checkRunning cX9_checkRunning 1 none) r_X9_checkRunning (va_Pc [.ref (q0 0)] (zPre Z E (k_X9 E q0 u0 ++ (k_X2 E (fun k => q0 (k + 1)) u1)) sz)) (va_Qv post (zAt E (va_A (k_X9 E q0 u0 ++ (k_X2 E (fun k => q0 (k + 1)) u1)) sz) (fun u => k_X9 E q0 u.1 ++ (k_X2 E (fun k => q0 (k + 1)) u.2))) (va_A (k_X9 E q0 u0 ++ (k_X2 E (fun k => q0 (k + 1)) u1)) sz)) (zXC E (va_A (k_X9 E q0 u0 ++ (k_X2 E (fun k => q0 (k + 1)) u1)) sz) (fun u => k_X9 E q0 u.1 ++ (k_X2 E (fun k => q0 (k + 1)) u.2)) postX) 1 6 (va_A (k_X9 E q0 u0 ++ (k_X2 E (fun k => q0 (k + 1)) u1)) sz) := by
  refine z_ofX (y := yX9_checkRunning) (cc := cX9_checkRunning) (maxL := 1) (ret := none) (av := [.ref (q0 0)]) (w := k_X9 E q0 u0 ++ (k_X2 E (fun k => q0 (k + 1)) u1)) (Qf := fun A => va_Qv post (zAt E A (fun u => k_X9 E q0 u.1 ++ (k_X2 E (fun k => q0 (k + 1)) u.2))) A) (Xf := fun A => zXC E A (fun u => k_X9 E q0 u.1 ++ (k_X2 E (fun k => q0 (k + 1)) u.2)) postX) (by decide) (Nat.le_of_ble_eq_true rfl) ?_
  intro p e s m args below meth c A ls C0 hT hA hK hZ hP hD hS hl
  obtain ⟨hx, hb, hml, hr, hown, hts, hlocks, hin⟩ := id C0
  have hown : s.vm.findClass RX9 = some m.cls := hown
  have hl : lv_has ls 1 [(0, .ref (q0 0))] := hl
  refine lv_aload_n hx hb dX9_checkRunning_0 rfl (lv_at hl 0 rfl) ?_
  refine va_get (D := zD E) (ci := 9) (v := .ref (q0 1)) (C := RX9) (T := TX9) (N := 7) hx hb hts uw_X9 hown hK hP 0 rfl rfl 0 (by decide) (hts _ wm_2_109) (fun _ h9 => h9) rfl dX9_checkRunning_1 ?_
  refine va_getN (D := zD E) (ci := 2) (v := .ref (q0 7)) (C := RX2) (T := TX2) (N := 3) hx hb hts uw_X2 hown hK hP 1 rfl rfl 1 (by decide) (hts _ wm_1_204) (fun _ h9 => h9) rfl dX9_checkRunning_4 ?_
  refine va_getN (D := zD E) (ci := 0) (v := .int u1.2.1.1) (C := RX0) (T := TX0) (N := 7) hx hb hts uw_X0 hown hK hP 7 rfl rfl 0 (by decide) (hts _ wm_1_129) (fun _ h9 => h9) rfl dX9_checkRunning_7 ?_
  refine lv_aload_n hx hb dX9_checkRunning_10 rfl (lv_at hl 0 rfl) ?_
  refine va_get (D := zD E) (ci := 9) (v := .ref (q0 1)) (C := RX9) (T := TX9) (N := 7) hx hb hts uw_X9 hown hK hP 0 rfl rfl 0 (by decide) (hts _ wm_2_109) (fun _ h9 => h9) rfl dX9_checkRunning_11 ?_
  refine va_getN (D := zD E) (ci := 2) (v := .ref (q0 2)) (C := RX2) (T := TX2) (N := 3) hx hb hts uw_X2 hown hK hP 1 rfl rfl 0 (by decide) (hts _ wm_1_201) (fun _ h9 => h9) rfl dX9_checkRunning_14 ?_
  refine va_getN (D := zD E) (ci := 7) (v := .int u1.1.1) (C := RX7) (T := TX7) (N := 16) hx hb hts uw_X7 hown hK hP 2 rfl rfl 0 (by decide) (hts _ wm_1_47) (fun _ h9 => h9) rfl dX9_checkRunning_17 ?_
  obtain ⟨hwt, hwf⟩ := hw
  refine lv_icmp_lt (tgt := 34) hx hb dX9_checkRunning_20 (by decide) (fun c_1 => ?_) (fun c_1 => ?_)
  · have hw := hwt c_1
    refine W.widen (k := 1) (n := 6) (by decide) (by decide) ?_
    refine vx_ret ?_
    exact z_vret (k := (fun u => k_X9 E q0 u.1 ++ (k_X2 E (fun k => q0 (k + 1)) u.2))) (u0, u1) C0 hP hD hS hw dX9_checkRunning_34
  · have hw := hwf c_1
    refine z_thrW_ISE (Z := Z) (k := (fun u => k_X9 E q0 u.1 ++ (k_X2 E (fun k => q0 (k + 1)) u.2))) (u0, u1) C0 rfl hT hlt (hZe _ _ _ hZ) (zsk_10 hZs hZ) hP hD hS hl.1 hw dX9_checkRunning_23 dX9_checkRunning_26 dX9_checkRunning_27 dX9_checkRunning_30 dX9_checkRunning_33 ?_ ?_ ?_ ?_ ?_ ?_ <;> decide
abbrev r_X9_checkLead : Room := { frames := 6, cells := 1, slots := 6, locals := 90 }
def wp_X9_checkLead (u0 : S_X9) (p1 : Int32) (post : S_X9 → Prop) (postX : String → S_X9 → Prop) : Prop := (p1 < 0 → (postX "java/lang/IllegalArgumentException" u0)) ∧ (¬ (p1 < 0) → ((p1 < (40 : Int32) → (post u0)) ∧ (¬ (p1 < (40 : Int32)) → (postX "java/lang/IllegalArgumentException" u0))))
set_option maxHeartbeats 4000000 in
set_option maxRecDepth 100000 in
theorem c_X9_checkLead (l : Launch) (E : zE) (Z : zZ) (hZ0 : zSt Z) {sa : Nat → Nat} (hZs : zSS Z sa) (hlt : l.stackTraces = false) (hZe : ∀ A U H, Z A U H → zExc A U H) (q0 : Nat → Nat) (sz : Nat) (u0 : S_X9) (p1 : Int32) (post : S_X9 → Prop) (postX : String → S_X9 → Prop) (hw : wp_X9_checkLead u0 p1 post postX) : vx_Met l yX9_checkLead (zws yX9_checkLead cX9_checkLead 2 none) r_X9_checkLead (va_Pc [.ref (q0 0), .int p1] (zPre Z E (k_X9 E q0 u0) sz)) (va_Qv post (zAt E (va_A (k_X9 E q0 u0) sz) (fun u => k_X9 E q0 u)) (va_A (k_X9 E q0 u0) sz)) (zXC E (va_A (k_X9 E q0 u0) sz) (fun u => k_X9 E q0 u) postX) 1 6 (va_A (k_X9 E q0 u0) sz) := by
  refine z_ofX (y := yX9_checkLead) (cc := cX9_checkLead) (maxL := 2) (ret := none) (av := [.ref (q0 0), .int p1]) (w := k_X9 E q0 u0) (Qf := fun A => va_Qv post (zAt E A (fun u => k_X9 E q0 u)) A) (Xf := fun A => zXC E A (fun u => k_X9 E q0 u) postX) (by decide) (Nat.le_of_ble_eq_true rfl) ?_
  intro p e s m args below meth c A ls C0 hT hA hK hZ hP hD hS hl
  obtain ⟨hx, hb, hml, hr, hown, hts, hlocks, hin⟩ := id C0
  have hown : s.vm.findClass RX9 = some m.cls := hown
  have hl : lv_has ls 2 [(0, .ref (q0 0)), (1, .int p1)] := hl
  refine lv_iload_n hx hb dX9_checkLead_0 rfl (lv_at hl 1 rfl) ?_
  obtain ⟨hwt, hwf⟩ := hw
  refine lv_if_lt (tgt := 10) hx hb dX9_checkLead_1 (by decide) (fun c_1 => ?_) (fun c_1 => ?_)
  · have hw := hwt c_1
    refine z_thrW_IAE (Z := Z) (k := (fun u => k_X9 E q0 u)) u0 C0 rfl hT hlt (hZe _ _ _ hZ) (zsk_8 hZs hZ) hP hD hS hl.1 hw dX9_checkLead_10 dX9_checkLead_13 dX9_checkLead_14 dX9_checkLead_17 dX9_checkLead_20 ?_ ?_ ?_ ?_ ?_ ?_ <;> decide
  · have hw := hwf c_1
    refine lv_iload_n hx hb dX9_checkLead_4 rfl (lv_at hl 1 rfl) ?_
    refine lv_bipush (v := 40) hx hb dX9_checkLead_5 rfl ?_
    obtain ⟨hwt, hwf⟩ := hw
    refine lv_icmp_lt (tgt := 21) hx hb dX9_checkLead_7 (by decide) (fun c_2 => ?_) (fun c_2 => ?_)
    · have hw := hwt c_2
      refine W.widen (k := 1) (n := 6) (by decide) (by decide) ?_
      refine vx_ret ?_
      exact z_vret (k := (fun u => k_X9 E q0 u)) u0 C0 hP hD hS hw dX9_checkLead_21
    · have hw := hwf c_2
      refine z_thrW_IAE (Z := Z) (k := (fun u => k_X9 E q0 u)) u0 C0 rfl hT hlt (hZe _ _ _ hZ) (zsk_8 hZs hZ) hP hD hS hl.1 hw dX9_checkLead_10 dX9_checkLead_13 dX9_checkLead_14 dX9_checkLead_17 dX9_checkLead_20 ?_ ?_ ?_ ?_ ?_ ?_ <;> decide
abbrev r_X9_checkUnits : Room := { frames := 6, cells := 1, slots := 6, locals := 90 }
def wp_X9_checkUnits (u0 : S_X9) (p1 : Int32) (post : S_X9 → Prop) (postX : String → S_X9 → Prop) : Prop := (p1 < 0 → (postX "java/lang/IllegalArgumentException" u0)) ∧ (¬ (p1 < 0) → ((p1 ≤ (9999 : Int32) → (post u0)) ∧ (¬ (p1 ≤ (9999 : Int32)) → (postX "java/lang/IllegalArgumentException" u0))))
set_option maxHeartbeats 4000000 in
set_option maxRecDepth 100000 in
theorem c_X9_checkUnits (l : Launch) (E : zE) (Z : zZ) (hZ0 : zSt Z) {sa : Nat → Nat} (hZs : zSS Z sa) (hlt : l.stackTraces = false) (hZe : ∀ A U H, Z A U H → zExc A U H) (q0 : Nat → Nat) (sz : Nat) (u0 : S_X9) (p1 : Int32) (post : S_X9 → Prop) (postX : String → S_X9 → Prop) (hw : wp_X9_checkUnits u0 p1 post postX) : vx_Met l yX9_checkUnits (zws yX9_checkUnits cX9_checkUnits 2 none) r_X9_checkUnits (va_Pc [.ref (q0 0), .int p1] (zPre Z E (k_X9 E q0 u0) sz)) (va_Qv post (zAt E (va_A (k_X9 E q0 u0) sz) (fun u => k_X9 E q0 u)) (va_A (k_X9 E q0 u0) sz)) (zXC E (va_A (k_X9 E q0 u0) sz) (fun u => k_X9 E q0 u) postX) 1 6 (va_A (k_X9 E q0 u0) sz) := by
  refine z_ofX (y := yX9_checkUnits) (cc := cX9_checkUnits) (maxL := 2) (ret := none) (av := [.ref (q0 0), .int p1]) (w := k_X9 E q0 u0) (Qf := fun A => va_Qv post (zAt E A (fun u => k_X9 E q0 u)) A) (Xf := fun A => zXC E A (fun u => k_X9 E q0 u) postX) (by decide) (Nat.le_of_ble_eq_true rfl) ?_
  intro p e s m args below meth c A ls C0 hT hA hK hZ hP hD hS hl
  obtain ⟨hx, hb, hml, hr, hown, hts, hlocks, hin⟩ := id C0
  have hown : s.vm.findClass RX9 = some m.cls := hown
  have hl : lv_has ls 2 [(0, .ref (q0 0)), (1, .int p1)] := hl
  refine lv_iload_n hx hb dX9_checkUnits_0 rfl (lv_at hl 1 rfl) ?_
  obtain ⟨hwt, hwf⟩ := hw
  refine lv_if_lt (tgt := 11) hx hb dX9_checkUnits_1 (by decide) (fun c_1 => ?_) (fun c_1 => ?_)
  · have hw := hwt c_1
    refine z_thrW_IAE (Z := Z) (k := (fun u => k_X9 E q0 u)) u0 C0 rfl hT hlt (hZe _ _ _ hZ) (zsk_9 hZs hZ) hP hD hS hl.1 hw dX9_checkUnits_11 dX9_checkUnits_14 dX9_checkUnits_15 dX9_checkUnits_18 dX9_checkUnits_21 ?_ ?_ ?_ ?_ ?_ ?_ <;> decide
  · have hw := hwf c_1
    refine lv_iload_n hx hb dX9_checkUnits_4 rfl (lv_at hl 1 rfl) ?_
    refine lv_sipush (v := 9999) hx hb dX9_checkUnits_5 rfl ?_
    obtain ⟨hwt, hwf⟩ := hw
    refine lv_icmp_le (tgt := 22) hx hb dX9_checkUnits_8 (by decide) (fun c_2 => ?_) (fun c_2 => ?_)
    · have hw := hwt c_2
      refine W.widen (k := 1) (n := 6) (by decide) (by decide) ?_
      refine vx_ret ?_
      exact z_vret (k := (fun u => k_X9 E q0 u)) u0 C0 hP hD hS hw dX9_checkUnits_22
    · have hw := hwf c_2
      refine z_thrW_IAE (Z := Z) (k := (fun u => k_X9 E q0 u)) u0 C0 rfl hT hlt (hZe _ _ _ hZ) (zsk_9 hZs hZ) hP hD hS hl.1 hw dX9_checkUnits_11 dX9_checkUnits_14 dX9_checkUnits_15 dX9_checkUnits_18 dX9_checkUnits_21 ?_ ?_ ?_ ?_ ?_ ?_ <;> decide
abbrev r_X9_checkLaterPeriod : Room := { frames := 7, cells := 3, slots := 18, locals := 111 }
def wp_X9_checkLaterPeriod (u0 : S_X9) (u1 : S_X2) (p1 : Int32) (p2 : Int32) (post : (S_X9 × S_X2) → Prop) (postX : String → (S_X9 × S_X2) → Prop) : Prop := wp_X9_checkPeriod u0 u1 p1 (fun u_1 => wp_X9_checkUnits u_1.1 p2 (fun u_3 => (u_1.2.2.1.1 < p1 → (post (u_3, u_1.2))) ∧ (¬ (u_1.2.2.1.1 < p1) → (postX "java/lang/IllegalStateException" (u_3, u_1.2)))) (fun X u => postX X (u, u_1.2))) (fun X u => postX X (u.1, u.2))
set_option maxHeartbeats 4000000 in
set_option maxRecDepth 100000 in
theorem c_X9_checkLaterPeriod (l : Launch) (E : zE) (Z : zZ) (hZ0 : zSt Z) {sa : Nat → Nat} (hZs : zSS Z sa) (hlt : l.stackTraces = false) (hZe : ∀ A U H, Z A U H → zExc A U H) (q0 : Nat → Nat) (sz : Nat) (u0 : S_X9) (u1 : S_X2) (p1 : Int32) (p2 : Int32) (post : (S_X9 × S_X2) → Prop) (postX : String → (S_X9 × S_X2) → Prop) (hw : wp_X9_checkLaterPeriod u0 u1 p1 p2 post postX) : vx_Met l yX9_checkLaterPeriod (zws yX9_checkLaterPeriod cX9_checkLaterPeriod 3 none) r_X9_checkLaterPeriod (va_Pc [.ref (q0 0), .int p1, .int p2] (zPre Z E (k_X9 E q0 u0 ++ (k_X2 E (fun k => q0 (k + 1)) u1)) sz)) (va_Qv post (zAt E (va_A (k_X9 E q0 u0 ++ (k_X2 E (fun k => q0 (k + 1)) u1)) sz) (fun u => k_X9 E q0 u.1 ++ (k_X2 E (fun k => q0 (k + 1)) u.2))) (va_A (k_X9 E q0 u0 ++ (k_X2 E (fun k => q0 (k + 1)) u1)) sz)) (zXC E (va_A (k_X9 E q0 u0 ++ (k_X2 E (fun k => q0 (k + 1)) u1)) sz) (fun u => k_X9 E q0 u.1 ++ (k_X2 E (fun k => q0 (k + 1)) u.2)) postX) 3 18 (va_A (k_X9 E q0 u0 ++ (k_X2 E (fun k => q0 (k + 1)) u1)) sz) := by
  refine z_ofX (y := yX9_checkLaterPeriod) (cc := cX9_checkLaterPeriod) (maxL := 3) (ret := none) (av := [.ref (q0 0), .int p1, .int p2]) (w := k_X9 E q0 u0 ++ (k_X2 E (fun k => q0 (k + 1)) u1)) (Qf := fun A => va_Qv post (zAt E A (fun u => k_X9 E q0 u.1 ++ (k_X2 E (fun k => q0 (k + 1)) u.2))) A) (Xf := fun A => zXC E A (fun u => k_X9 E q0 u.1 ++ (k_X2 E (fun k => q0 (k + 1)) u.2)) postX) (by decide) (Nat.le_of_ble_eq_true rfl) ?_
  intro p e s m args below meth c A ls C0 hT hA hK hZ hP hD hS hl
  obtain ⟨hx, hb, hml, hr, hown, hts, hlocks, hin⟩ := id C0
  have hown : s.vm.findClass RX9 = some m.cls := hown
  have hl : lv_has ls 3 [(0, .ref (q0 0)), (1, .int p1), (2, .int p2)] := hl
  refine lv_aload_n hx hb dX9_checkLaterPeriod_0 rfl (lv_at hl 0 rfl) ?_
  refine lv_iload_n hx hb dX9_checkLaterPeriod_1 rfl (lv_at hl 1 rfl) ?_
  refine z_xkv (R := r_X9_checkLaterPeriod) (cells := 0) (slots := 0) (mc9 := 3) (ms9 := 18) (kT := (fun u => k_X9 E q0 u.1 ++ (k_X2 E (fun k => q0 (k + 1)) u.2))) (fun u => (u.1, u.2)) (z_xV (rest := []) hZ0 C0 hK hZ hA hP hD hS hl.1 (c_X9_checkPeriod l E Z hZ0 hZs hlt hZe q0 s.heap.size u0 u1 p1 _ _ hw) yv_X9_103 [0, 1, 2, 3, 4, 5, 6, 7, 8, 9, 10, 11, 12, 13, 14, 15, 16, 17, 18] rfl (by decide) (ci := 9) rfl rfl 0 rfl ⟨Nat.le_of_ble_eq_true rfl, Nat.le_of_ble_eq_true rfl⟩ ⟨rfl, rfl⟩ rfl rfl (Nat.le_of_ble_eq_true rfl) ⟨Nat.le_of_ble_eq_true rfl, Nat.le_of_ble_eq_true rfl⟩ dX9_checkLaterPeriod_2) hP hD hS hA hT hlocks (fun X u h => h) [0, 1, 2, 3, 4, 5, 6, 7, 8, 9, 10, 11, 12, 13, 14, 15, 16, 17, 18] [] [0, 1, 2, 3, 4, 5, 6, 7, 8, 9, 10, 11, 12, 13, 14, 15, 16, 17, 18] rfl (wr := []) rfl (by decide) (by decide) (fun u => rfl) (by decide) (by decide) (by decide) (fun u_1 H locs hw hP hD hS => ?_)
  have hP : va_P (zD E) vwCl (k_X9 E q0 u_1.1 ++ (k_X2 E (fun k => q0 (k + 1)) u_1.2)) H := hP
  have hD : va_D A (k_X9 E q0 u_1.1 ++ (k_X2 E (fun k => q0 (k + 1)) u_1.2)) := hD
  refine lv_aload_n hx hb dX9_checkLaterPeriod_5 rfl (lv_at hl 0 rfl) ?_
  refine lv_iload_n hx hb dX9_checkLaterPeriod_6 rfl (lv_at hl 2 rfl) ?_
  refine z_xkv (R := r_X9_checkLaterPeriod) (cells := 1) (slots := 6) (mc9 := 3) (ms9 := 18) (kT := (fun u => k_X9 E q0 u.1 ++ (k_X2 E (fun k => q0 (k + 1)) u.2))) (fun u => (u, u_1.2)) (z_xV (rest := []) hZ0 C0 hK hZ hA hP hD hS hl.1 (c_X9_checkUnits l E Z hZ0 hZs hlt hZe q0 H.size u_1.1 p2 _ _ hw) yv_X9_146 [0] rfl (by decide) (ci := 9) rfl rfl 0 rfl ⟨Nat.le_of_ble_eq_true rfl, Nat.le_of_ble_eq_true rfl⟩ ⟨rfl, rfl⟩ rfl rfl (Nat.le_of_ble_eq_true rfl) ⟨Nat.le_of_ble_eq_true rfl, Nat.le_of_ble_eq_true rfl⟩ dX9_checkLaterPeriod_7) hP hD hS hA hT hlocks (fun X u h => h) [0] [1, 2, 3, 4, 5, 6, 7, 8, 9, 10, 11, 12, 13, 14, 15, 16, 17, 18] [18, 0, 1, 2, 3, 4, 5, 6, 7, 8, 9, 10, 11, 12, 13, 14, 15, 16, 17] rfl (wr := [_, _, _, _, _, _, _, _, _, _, _, _, _, _, _, _, _, _]) rfl (by decide) (by decide) (fun u => rfl) (by decide) (by decide) (by decide) (fun u_3 H locs hw hP hD hS => ?_)
  have hP : va_P (zD E) vwCl (k_X9 E q0 u_3 ++ (k_X2 E (fun k => q0 (k + 1)) u_1.2)) H := hP
  have hD : va_D A (k_X9 E q0 u_3 ++ (k_X2 E (fun k => q0 (k + 1)) u_1.2)) := hD
  refine lv_iload_n hx hb dX9_checkLaterPeriod_10 rfl (lv_at hl 1 rfl) ?_
  refine lv_aload_n hx hb dX9_checkLaterPeriod_11 rfl (lv_at hl 0 rfl) ?_
  refine va_get (D := zD E) (ci := 9) (v := .ref (q0 1)) (C := RX9) (T := TX9) (N := 7) hx hb hts uw_X9 hown hK hP 0 rfl rfl 0 (by decide) (hts _ wm_2_109) (fun _ h9 => h9) rfl dX9_checkLaterPeriod_12 ?_
  refine va_getN (D := zD E) (ci := 2) (v := .ref (q0 7)) (C := RX2) (T := TX2) (N := 3) hx hb hts uw_X2 hown hK hP 1 rfl rfl 1 (by decide) (hts _ wm_1_204) (fun _ h9 => h9) rfl dX9_checkLaterPeriod_15 ?_
  refine va_getN (D := zD E) (ci := 0) (v := .int u_1.2.2.1.1) (C := RX0) (T := TX0) (N := 7) hx hb hts uw_X0 hown hK hP 7 rfl rfl 0 (by decide) (hts _ wm_1_129) (fun _ h9 => h9) rfl dX9_checkLaterPeriod_18 ?_
  obtain ⟨hwt, hwf⟩ := hw
  refine lv_icmp_gt (tgt := 35) hx hb dX9_checkLaterPeriod_21 (by decide) (fun c_5 => ?_) (fun c_5 => ?_)
  · have hw := hwt c_5
    refine W.widen (k := 3) (n := 18) (by decide) (by decide) ?_
    refine vx_ret ?_
    exact z_vret (k := (fun u => k_X9 E q0 u.1 ++ (k_X2 E (fun k => q0 (k + 1)) u.2))) (u_3, u_1.2) C0 hP hD hS hw dX9_checkLaterPeriod_35
  · have hw := hwf c_5
    refine z_thrW_ISE (Z := Z) (k := (fun u => k_X9 E q0 u.1 ++ (k_X2 E (fun k => q0 (k + 1)) u.2))) (u_3, u_1.2) C0 rfl hT hlt (hZe _ _ _ hZ) (zsk_11 hZs hZ) hP hD hS hl.1 hw dX9_checkLaterPeriod_24 dX9_checkLaterPeriod_27 dX9_checkLaterPeriod_28 dX9_checkLaterPeriod_31 dX9_checkLaterPeriod_34 ?_ ?_ ?_ ?_ ?_ ?_ <;> decide
abbrev r_X9_reservedIn : Room := { frames := 7, cells := 1, slots := 6, locals := 111 }
def wp_X9_reservedIn (u0 : S_X9) (u1 : S_X2) (p1 : Int32) (post : Int32 → (S_X9 × S_X2) → Prop) (postX : String → (S_X9 × S_X2) → Prop) : Prop := wp_X9_checkPeriod u0 u1 p1 (fun u_1 => vp_in p1 40 ∧ (post (u_1.2.2.1.2.1 p1.toNatClampNeg) (u_1.1, u_1.2))) (fun X u => postX X (u.1, u.2))
set_option maxHeartbeats 4000000 in
set_option maxRecDepth 100000 in
theorem c_X9_reservedIn (l : Launch) (E : zE) (Z : zZ) (hZ0 : zSt Z) {sa : Nat → Nat} (hZs : zSS Z sa) (hlt : l.stackTraces = false) (hZe : ∀ A U H, Z A U H → zExc A U H) (q0 : Nat → Nat) (sz : Nat) (u0 : S_X9) (u1 : S_X2) (p1 : Int32) (post : Int32 → (S_X9 × S_X2) → Prop) (postX : String → (S_X9 × S_X2) → Prop) (hw : wp_X9_reservedIn u0 u1 p1 post postX) : vx_Met l yX9_reservedIn (zws yX9_reservedIn cX9_reservedIn 2 (some .int)) r_X9_reservedIn (va_Pc [.ref (q0 0), .int p1] (zPre Z E (k_X9 E q0 u0 ++ (k_X2 E (fun k => q0 (k + 1)) u1)) sz)) (va_Qi post (zAt E (va_A (k_X9 E q0 u0 ++ (k_X2 E (fun k => q0 (k + 1)) u1)) sz) (fun u => k_X9 E q0 u.1 ++ (k_X2 E (fun k => q0 (k + 1)) u.2))) (va_A (k_X9 E q0 u0 ++ (k_X2 E (fun k => q0 (k + 1)) u1)) sz)) (zXC E (va_A (k_X9 E q0 u0 ++ (k_X2 E (fun k => q0 (k + 1)) u1)) sz) (fun u => k_X9 E q0 u.1 ++ (k_X2 E (fun k => q0 (k + 1)) u.2)) postX) 1 6 (va_A (k_X9 E q0 u0 ++ (k_X2 E (fun k => q0 (k + 1)) u1)) sz) := by
  refine z_ofX (y := yX9_reservedIn) (cc := cX9_reservedIn) (maxL := 2) (ret := (some .int)) (av := [.ref (q0 0), .int p1]) (w := k_X9 E q0 u0 ++ (k_X2 E (fun k => q0 (k + 1)) u1)) (Qf := fun A => va_Qi post (zAt E A (fun u => k_X9 E q0 u.1 ++ (k_X2 E (fun k => q0 (k + 1)) u.2))) A) (Xf := fun A => zXC E A (fun u => k_X9 E q0 u.1 ++ (k_X2 E (fun k => q0 (k + 1)) u.2)) postX) (by decide) (Nat.le_of_ble_eq_true rfl) ?_
  intro p e s m args below meth c A ls C0 hT hA hK hZ hP hD hS hl
  obtain ⟨hx, hb, hml, hr, hown, hts, hlocks, hin⟩ := id C0
  have hown : s.vm.findClass RX9 = some m.cls := hown
  have hl : lv_has ls 2 [(0, .ref (q0 0)), (1, .int p1)] := hl
  refine lv_aload_n hx hb dX9_reservedIn_0 rfl (lv_at hl 0 rfl) ?_
  refine lv_iload_n hx hb dX9_reservedIn_1 rfl (lv_at hl 1 rfl) ?_
  refine z_xkv (R := r_X9_reservedIn) (cells := 0) (slots := 0) (mc9 := 1) (ms9 := 6) (kT := (fun u => k_X9 E q0 u.1 ++ (k_X2 E (fun k => q0 (k + 1)) u.2))) (fun u => (u.1, u.2)) (z_xV (rest := []) hZ0 C0 hK hZ hA hP hD hS hl.1 (c_X9_checkPeriod l E Z hZ0 hZs hlt hZe q0 s.heap.size u0 u1 p1 _ _ hw) yv_X9_103 [0, 1, 2, 3, 4, 5, 6, 7, 8, 9, 10, 11, 12, 13, 14, 15, 16, 17, 18] rfl (by decide) (ci := 9) rfl rfl 0 rfl ⟨Nat.le_of_ble_eq_true rfl, Nat.le_of_ble_eq_true rfl⟩ ⟨rfl, rfl⟩ rfl rfl (Nat.le_of_ble_eq_true rfl) ⟨Nat.le_of_ble_eq_true rfl, Nat.le_of_ble_eq_true rfl⟩ dX9_reservedIn_2) hP hD hS hA hT hlocks (fun X u h => h) [0, 1, 2, 3, 4, 5, 6, 7, 8, 9, 10, 11, 12, 13, 14, 15, 16, 17, 18] [] [0, 1, 2, 3, 4, 5, 6, 7, 8, 9, 10, 11, 12, 13, 14, 15, 16, 17, 18] rfl (wr := []) rfl (by decide) (by decide) (fun u => rfl) (by decide) (by decide) (by decide) (fun u_1 H locs hw hP hD hS => ?_)
  have hP : va_P (zD E) vwCl (k_X9 E q0 u_1.1 ++ (k_X2 E (fun k => q0 (k + 1)) u_1.2)) H := hP
  have hD : va_D A (k_X9 E q0 u_1.1 ++ (k_X2 E (fun k => q0 (k + 1)) u_1.2)) := hD
  refine lv_aload_n hx hb dX9_reservedIn_5 rfl (lv_at hl 0 rfl) ?_
  refine va_get (D := zD E) (ci := 9) (v := .ref (q0 1)) (C := RX9) (T := TX9) (N := 7) hx hb hts uw_X9 hown hK hP 0 rfl rfl 0 (by decide) (hts _ wm_2_109) (fun _ h9 => h9) rfl dX9_reservedIn_6 ?_
  refine va_getN (D := zD E) (ci := 2) (v := .ref (q0 7)) (C := RX2) (T := TX2) (N := 3) hx hb hts uw_X2 hown hK hP 1 rfl rfl 1 (by decide) (hts _ wm_1_204) (fun _ h9 => h9) rfl dX9_reservedIn_9 ?_
  refine va_getN (D := zD E) (ci := 0) (v := .ref (q0 8)) (C := RX0) (T := TX0) (N := 7) hx hb hts uw_X0 hown hK hP 7 rfl rfl 1 (by decide) (hts _ wm_1_131) (fun _ h9 => h9) rfl dX9_reservedIn_12 ?_
  refine lv_iload_n hx hb dX9_reservedIn_15 rfl (lv_at hl 1 rfl) ?_
  obtain ⟨h_3, hw⟩ := hw
  refine va_iald hx hb hK hP 8 0 rfl rfl h_3 dX9_reservedIn_16 ?_
  refine W.widen (k := 1) (n := 6) (by decide) (by decide) ?_
  refine vx_ret ?_
  exact z_iret (k := (fun u => k_X9 E q0 u.1 ++ (k_X2 E (fun k => q0 (k + 1)) u.2))) (u_1.1, u_1.2) C0 hP hD hS hw dX9_reservedIn_17
abbrev r_X9_forecastOf : Room := { frames := 7, cells := 1, slots := 6, locals := 111 }
def wp_X9_forecastOf (u0 : S_X9) (u1 : S_X2) (p1 : Int32) (post : Int32 → (S_X9 × S_X2) → Prop) (postX : String → (S_X9 × S_X2) → Prop) : Prop := wp_X9_checkPeriod u0 u1 p1 (fun u_1 => vp_in p1 40 ∧ (post (u_1.2.2.1.2.2.1 p1.toNatClampNeg) (u_1.1, u_1.2))) (fun X u => postX X (u.1, u.2))
set_option maxHeartbeats 4000000 in
set_option maxRecDepth 100000 in
theorem c_X9_forecastOf (l : Launch) (E : zE) (Z : zZ) (hZ0 : zSt Z) {sa : Nat → Nat} (hZs : zSS Z sa) (hlt : l.stackTraces = false) (hZe : ∀ A U H, Z A U H → zExc A U H) (q0 : Nat → Nat) (sz : Nat) (u0 : S_X9) (u1 : S_X2) (p1 : Int32) (post : Int32 → (S_X9 × S_X2) → Prop) (postX : String → (S_X9 × S_X2) → Prop) (hw : wp_X9_forecastOf u0 u1 p1 post postX) : vx_Met l yX9_forecastOf (zws yX9_forecastOf cX9_forecastOf 2 (some .int)) r_X9_forecastOf (va_Pc [.ref (q0 0), .int p1] (zPre Z E (k_X9 E q0 u0 ++ (k_X2 E (fun k => q0 (k + 1)) u1)) sz)) (va_Qi post (zAt E (va_A (k_X9 E q0 u0 ++ (k_X2 E (fun k => q0 (k + 1)) u1)) sz) (fun u => k_X9 E q0 u.1 ++ (k_X2 E (fun k => q0 (k + 1)) u.2))) (va_A (k_X9 E q0 u0 ++ (k_X2 E (fun k => q0 (k + 1)) u1)) sz)) (zXC E (va_A (k_X9 E q0 u0 ++ (k_X2 E (fun k => q0 (k + 1)) u1)) sz) (fun u => k_X9 E q0 u.1 ++ (k_X2 E (fun k => q0 (k + 1)) u.2)) postX) 1 6 (va_A (k_X9 E q0 u0 ++ (k_X2 E (fun k => q0 (k + 1)) u1)) sz) := by
  refine z_ofX (y := yX9_forecastOf) (cc := cX9_forecastOf) (maxL := 2) (ret := (some .int)) (av := [.ref (q0 0), .int p1]) (w := k_X9 E q0 u0 ++ (k_X2 E (fun k => q0 (k + 1)) u1)) (Qf := fun A => va_Qi post (zAt E A (fun u => k_X9 E q0 u.1 ++ (k_X2 E (fun k => q0 (k + 1)) u.2))) A) (Xf := fun A => zXC E A (fun u => k_X9 E q0 u.1 ++ (k_X2 E (fun k => q0 (k + 1)) u.2)) postX) (by decide) (Nat.le_of_ble_eq_true rfl) ?_
  intro p e s m args below meth c A ls C0 hT hA hK hZ hP hD hS hl
  obtain ⟨hx, hb, hml, hr, hown, hts, hlocks, hin⟩ := id C0
  have hown : s.vm.findClass RX9 = some m.cls := hown
  have hl : lv_has ls 2 [(0, .ref (q0 0)), (1, .int p1)] := hl
  refine lv_aload_n hx hb dX9_forecastOf_0 rfl (lv_at hl 0 rfl) ?_
  refine lv_iload_n hx hb dX9_forecastOf_1 rfl (lv_at hl 1 rfl) ?_
  refine z_xkv (R := r_X9_forecastOf) (cells := 0) (slots := 0) (mc9 := 1) (ms9 := 6) (kT := (fun u => k_X9 E q0 u.1 ++ (k_X2 E (fun k => q0 (k + 1)) u.2))) (fun u => (u.1, u.2)) (z_xV (rest := []) hZ0 C0 hK hZ hA hP hD hS hl.1 (c_X9_checkPeriod l E Z hZ0 hZs hlt hZe q0 s.heap.size u0 u1 p1 _ _ hw) yv_X9_103 [0, 1, 2, 3, 4, 5, 6, 7, 8, 9, 10, 11, 12, 13, 14, 15, 16, 17, 18] rfl (by decide) (ci := 9) rfl rfl 0 rfl ⟨Nat.le_of_ble_eq_true rfl, Nat.le_of_ble_eq_true rfl⟩ ⟨rfl, rfl⟩ rfl rfl (Nat.le_of_ble_eq_true rfl) ⟨Nat.le_of_ble_eq_true rfl, Nat.le_of_ble_eq_true rfl⟩ dX9_forecastOf_2) hP hD hS hA hT hlocks (fun X u h => h) [0, 1, 2, 3, 4, 5, 6, 7, 8, 9, 10, 11, 12, 13, 14, 15, 16, 17, 18] [] [0, 1, 2, 3, 4, 5, 6, 7, 8, 9, 10, 11, 12, 13, 14, 15, 16, 17, 18] rfl (wr := []) rfl (by decide) (by decide) (fun u => rfl) (by decide) (by decide) (by decide) (fun u_1 H locs hw hP hD hS => ?_)
  have hP : va_P (zD E) vwCl (k_X9 E q0 u_1.1 ++ (k_X2 E (fun k => q0 (k + 1)) u_1.2)) H := hP
  have hD : va_D A (k_X9 E q0 u_1.1 ++ (k_X2 E (fun k => q0 (k + 1)) u_1.2)) := hD
  refine lv_aload_n hx hb dX9_forecastOf_5 rfl (lv_at hl 0 rfl) ?_
  refine va_get (D := zD E) (ci := 9) (v := .ref (q0 1)) (C := RX9) (T := TX9) (N := 7) hx hb hts uw_X9 hown hK hP 0 rfl rfl 0 (by decide) (hts _ wm_2_109) (fun _ h9 => h9) rfl dX9_forecastOf_6 ?_
  refine va_getN (D := zD E) (ci := 2) (v := .ref (q0 7)) (C := RX2) (T := TX2) (N := 3) hx hb hts uw_X2 hown hK hP 1 rfl rfl 1 (by decide) (hts _ wm_1_204) (fun _ h9 => h9) rfl dX9_forecastOf_9 ?_
  refine va_getN (D := zD E) (ci := 0) (v := .ref (q0 9)) (C := RX0) (T := TX0) (N := 7) hx hb hts uw_X0 hown hK hP 7 rfl rfl 2 (by decide) (hts _ wm_1_134) (fun _ h9 => h9) rfl dX9_forecastOf_12 ?_
  refine lv_iload_n hx hb dX9_forecastOf_15 rfl (lv_at hl 1 rfl) ?_
  obtain ⟨h_3, hw⟩ := hw
  refine va_iald hx hb hK hP 9 0 rfl rfl h_3 dX9_forecastOf_16 ?_
  refine W.widen (k := 1) (n := 6) (by decide) (by decide) ?_
  refine vx_ret ?_
  exact z_iret (k := (fun u => k_X9 E q0 u.1 ++ (k_X2 E (fun k => q0 (k + 1)) u.2))) (u_1.1, u_1.2) C0 hP hD hS hw dX9_forecastOf_17
abbrev r_X9_orderOf : Room := { frames := 7, cells := 1, slots := 6, locals := 111 }
def wp_X9_orderOf (u0 : S_X9) (u1 : S_X2) (p1 : Int32) (post : Int32 → (S_X9 × S_X2) → Prop) (postX : String → (S_X9 × S_X2) → Prop) : Prop := wp_X9_checkPeriod u0 u1 p1 (fun u_1 => vp_in p1 40 ∧ (post (u_1.2.2.1.2.2.2.1 p1.toNatClampNeg) (u_1.1, u_1.2))) (fun X u => postX X (u.1, u.2))
set_option maxHeartbeats 4000000 in
set_option maxRecDepth 100000 in
theorem c_X9_orderOf (l : Launch) (E : zE) (Z : zZ) (hZ0 : zSt Z) {sa : Nat → Nat} (hZs : zSS Z sa) (hlt : l.stackTraces = false) (hZe : ∀ A U H, Z A U H → zExc A U H) (q0 : Nat → Nat) (sz : Nat) (u0 : S_X9) (u1 : S_X2) (p1 : Int32) (post : Int32 → (S_X9 × S_X2) → Prop) (postX : String → (S_X9 × S_X2) → Prop) (hw : wp_X9_orderOf u0 u1 p1 post postX) : vx_Met l yX9_orderOf (zws yX9_orderOf cX9_orderOf 2 (some .int)) r_X9_orderOf (va_Pc [.ref (q0 0), .int p1] (zPre Z E (k_X9 E q0 u0 ++ (k_X2 E (fun k => q0 (k + 1)) u1)) sz)) (va_Qi post (zAt E (va_A (k_X9 E q0 u0 ++ (k_X2 E (fun k => q0 (k + 1)) u1)) sz) (fun u => k_X9 E q0 u.1 ++ (k_X2 E (fun k => q0 (k + 1)) u.2))) (va_A (k_X9 E q0 u0 ++ (k_X2 E (fun k => q0 (k + 1)) u1)) sz)) (zXC E (va_A (k_X9 E q0 u0 ++ (k_X2 E (fun k => q0 (k + 1)) u1)) sz) (fun u => k_X9 E q0 u.1 ++ (k_X2 E (fun k => q0 (k + 1)) u.2)) postX) 1 6 (va_A (k_X9 E q0 u0 ++ (k_X2 E (fun k => q0 (k + 1)) u1)) sz) := by
  refine z_ofX (y := yX9_orderOf) (cc := cX9_orderOf) (maxL := 2) (ret := (some .int)) (av := [.ref (q0 0), .int p1]) (w := k_X9 E q0 u0 ++ (k_X2 E (fun k => q0 (k + 1)) u1)) (Qf := fun A => va_Qi post (zAt E A (fun u => k_X9 E q0 u.1 ++ (k_X2 E (fun k => q0 (k + 1)) u.2))) A) (Xf := fun A => zXC E A (fun u => k_X9 E q0 u.1 ++ (k_X2 E (fun k => q0 (k + 1)) u.2)) postX) (by decide) (Nat.le_of_ble_eq_true rfl) ?_
  intro p e s m args below meth c A ls C0 hT hA hK hZ hP hD hS hl
  obtain ⟨hx, hb, hml, hr, hown, hts, hlocks, hin⟩ := id C0
  have hown : s.vm.findClass RX9 = some m.cls := hown
  have hl : lv_has ls 2 [(0, .ref (q0 0)), (1, .int p1)] := hl
  refine lv_aload_n hx hb dX9_orderOf_0 rfl (lv_at hl 0 rfl) ?_
  refine lv_iload_n hx hb dX9_orderOf_1 rfl (lv_at hl 1 rfl) ?_
  refine z_xkv (R := r_X9_orderOf) (cells := 0) (slots := 0) (mc9 := 1) (ms9 := 6) (kT := (fun u => k_X9 E q0 u.1 ++ (k_X2 E (fun k => q0 (k + 1)) u.2))) (fun u => (u.1, u.2)) (z_xV (rest := []) hZ0 C0 hK hZ hA hP hD hS hl.1 (c_X9_checkPeriod l E Z hZ0 hZs hlt hZe q0 s.heap.size u0 u1 p1 _ _ hw) yv_X9_103 [0, 1, 2, 3, 4, 5, 6, 7, 8, 9, 10, 11, 12, 13, 14, 15, 16, 17, 18] rfl (by decide) (ci := 9) rfl rfl 0 rfl ⟨Nat.le_of_ble_eq_true rfl, Nat.le_of_ble_eq_true rfl⟩ ⟨rfl, rfl⟩ rfl rfl (Nat.le_of_ble_eq_true rfl) ⟨Nat.le_of_ble_eq_true rfl, Nat.le_of_ble_eq_true rfl⟩ dX9_orderOf_2) hP hD hS hA hT hlocks (fun X u h => h) [0, 1, 2, 3, 4, 5, 6, 7, 8, 9, 10, 11, 12, 13, 14, 15, 16, 17, 18] [] [0, 1, 2, 3, 4, 5, 6, 7, 8, 9, 10, 11, 12, 13, 14, 15, 16, 17, 18] rfl (wr := []) rfl (by decide) (by decide) (fun u => rfl) (by decide) (by decide) (by decide) (fun u_1 H locs hw hP hD hS => ?_)
  have hP : va_P (zD E) vwCl (k_X9 E q0 u_1.1 ++ (k_X2 E (fun k => q0 (k + 1)) u_1.2)) H := hP
  have hD : va_D A (k_X9 E q0 u_1.1 ++ (k_X2 E (fun k => q0 (k + 1)) u_1.2)) := hD
  refine lv_aload_n hx hb dX9_orderOf_5 rfl (lv_at hl 0 rfl) ?_
  refine va_get (D := zD E) (ci := 9) (v := .ref (q0 1)) (C := RX9) (T := TX9) (N := 7) hx hb hts uw_X9 hown hK hP 0 rfl rfl 0 (by decide) (hts _ wm_2_109) (fun _ h9 => h9) rfl dX9_orderOf_6 ?_
  refine va_getN (D := zD E) (ci := 2) (v := .ref (q0 7)) (C := RX2) (T := TX2) (N := 3) hx hb hts uw_X2 hown hK hP 1 rfl rfl 1 (by decide) (hts _ wm_1_204) (fun _ h9 => h9) rfl dX9_orderOf_9 ?_
  refine va_getN (D := zD E) (ci := 0) (v := .ref (q0 10)) (C := RX0) (T := TX0) (N := 7) hx hb hts uw_X0 hown hK hP 7 rfl rfl 3 (by decide) (hts _ wm_1_137) (fun _ h9 => h9) rfl dX9_orderOf_12 ?_
  refine lv_iload_n hx hb dX9_orderOf_15 rfl (lv_at hl 1 rfl) ?_
  obtain ⟨h_3, hw⟩ := hw
  refine va_iald hx hb hK hP 10 0 rfl rfl h_3 dX9_orderOf_16 ?_
  refine W.widen (k := 1) (n := 6) (by decide) (by decide) ?_
  refine vx_ret ?_
  exact z_iret (k := (fun u => k_X9 E q0 u.1 ++ (k_X2 E (fun k => q0 (k + 1)) u.2))) (u_1.1, u_1.2) C0 hP hD hS hw dX9_orderOf_17
abbrev r_X9_openUnits : Room := { frames := 7, cells := 1, slots := 6, locals := 111 }
def wp_X9_openUnits (u0 : S_X9) (u1 : S_X2) (p1 : Int32) (post : Int32 → (S_X9 × S_X2) → Prop) (postX : String → (S_X9 × S_X2) → Prop) : Prop := wp_X9_checkPeriod u0 u1 p1 (fun u_1 => vp_in p1 40 ∧ (post (u_1.2.2.1.2.2.2.2.1 p1.toNatClampNeg) (u_1.1, u_1.2))) (fun X u => postX X (u.1, u.2))
set_option maxHeartbeats 4000000 in
set_option maxRecDepth 100000 in
theorem c_X9_openUnits (l : Launch) (E : zE) (Z : zZ) (hZ0 : zSt Z) {sa : Nat → Nat} (hZs : zSS Z sa) (hlt : l.stackTraces = false) (hZe : ∀ A U H, Z A U H → zExc A U H) (q0 : Nat → Nat) (sz : Nat) (u0 : S_X9) (u1 : S_X2) (p1 : Int32) (post : Int32 → (S_X9 × S_X2) → Prop) (postX : String → (S_X9 × S_X2) → Prop) (hw : wp_X9_openUnits u0 u1 p1 post postX) : vx_Met l yX9_openUnits (zws yX9_openUnits cX9_openUnits 2 (some .int)) r_X9_openUnits (va_Pc [.ref (q0 0), .int p1] (zPre Z E (k_X9 E q0 u0 ++ (k_X2 E (fun k => q0 (k + 1)) u1)) sz)) (va_Qi post (zAt E (va_A (k_X9 E q0 u0 ++ (k_X2 E (fun k => q0 (k + 1)) u1)) sz) (fun u => k_X9 E q0 u.1 ++ (k_X2 E (fun k => q0 (k + 1)) u.2))) (va_A (k_X9 E q0 u0 ++ (k_X2 E (fun k => q0 (k + 1)) u1)) sz)) (zXC E (va_A (k_X9 E q0 u0 ++ (k_X2 E (fun k => q0 (k + 1)) u1)) sz) (fun u => k_X9 E q0 u.1 ++ (k_X2 E (fun k => q0 (k + 1)) u.2)) postX) 1 6 (va_A (k_X9 E q0 u0 ++ (k_X2 E (fun k => q0 (k + 1)) u1)) sz) := by
  refine z_ofX (y := yX9_openUnits) (cc := cX9_openUnits) (maxL := 2) (ret := (some .int)) (av := [.ref (q0 0), .int p1]) (w := k_X9 E q0 u0 ++ (k_X2 E (fun k => q0 (k + 1)) u1)) (Qf := fun A => va_Qi post (zAt E A (fun u => k_X9 E q0 u.1 ++ (k_X2 E (fun k => q0 (k + 1)) u.2))) A) (Xf := fun A => zXC E A (fun u => k_X9 E q0 u.1 ++ (k_X2 E (fun k => q0 (k + 1)) u.2)) postX) (by decide) (Nat.le_of_ble_eq_true rfl) ?_
  intro p e s m args below meth c A ls C0 hT hA hK hZ hP hD hS hl
  obtain ⟨hx, hb, hml, hr, hown, hts, hlocks, hin⟩ := id C0
  have hown : s.vm.findClass RX9 = some m.cls := hown
  have hl : lv_has ls 2 [(0, .ref (q0 0)), (1, .int p1)] := hl
  refine lv_aload_n hx hb dX9_openUnits_0 rfl (lv_at hl 0 rfl) ?_
  refine lv_iload_n hx hb dX9_openUnits_1 rfl (lv_at hl 1 rfl) ?_
  refine z_xkv (R := r_X9_openUnits) (cells := 0) (slots := 0) (mc9 := 1) (ms9 := 6) (kT := (fun u => k_X9 E q0 u.1 ++ (k_X2 E (fun k => q0 (k + 1)) u.2))) (fun u => (u.1, u.2)) (z_xV (rest := []) hZ0 C0 hK hZ hA hP hD hS hl.1 (c_X9_checkPeriod l E Z hZ0 hZs hlt hZe q0 s.heap.size u0 u1 p1 _ _ hw) yv_X9_103 [0, 1, 2, 3, 4, 5, 6, 7, 8, 9, 10, 11, 12, 13, 14, 15, 16, 17, 18] rfl (by decide) (ci := 9) rfl rfl 0 rfl ⟨Nat.le_of_ble_eq_true rfl, Nat.le_of_ble_eq_true rfl⟩ ⟨rfl, rfl⟩ rfl rfl (Nat.le_of_ble_eq_true rfl) ⟨Nat.le_of_ble_eq_true rfl, Nat.le_of_ble_eq_true rfl⟩ dX9_openUnits_2) hP hD hS hA hT hlocks (fun X u h => h) [0, 1, 2, 3, 4, 5, 6, 7, 8, 9, 10, 11, 12, 13, 14, 15, 16, 17, 18] [] [0, 1, 2, 3, 4, 5, 6, 7, 8, 9, 10, 11, 12, 13, 14, 15, 16, 17, 18] rfl (wr := []) rfl (by decide) (by decide) (fun u => rfl) (by decide) (by decide) (by decide) (fun u_1 H locs hw hP hD hS => ?_)
  have hP : va_P (zD E) vwCl (k_X9 E q0 u_1.1 ++ (k_X2 E (fun k => q0 (k + 1)) u_1.2)) H := hP
  have hD : va_D A (k_X9 E q0 u_1.1 ++ (k_X2 E (fun k => q0 (k + 1)) u_1.2)) := hD
  refine lv_aload_n hx hb dX9_openUnits_5 rfl (lv_at hl 0 rfl) ?_
  refine va_get (D := zD E) (ci := 9) (v := .ref (q0 1)) (C := RX9) (T := TX9) (N := 7) hx hb hts uw_X9 hown hK hP 0 rfl rfl 0 (by decide) (hts _ wm_2_109) (fun _ h9 => h9) rfl dX9_openUnits_6 ?_
  refine va_getN (D := zD E) (ci := 2) (v := .ref (q0 7)) (C := RX2) (T := TX2) (N := 3) hx hb hts uw_X2 hown hK hP 1 rfl rfl 1 (by decide) (hts _ wm_1_204) (fun _ h9 => h9) rfl dX9_openUnits_9 ?_
  refine va_getN (D := zD E) (ci := 0) (v := .ref (q0 11)) (C := RX0) (T := TX0) (N := 7) hx hb hts uw_X0 hown hK hP 7 rfl rfl 4 (by decide) (hts _ wm_1_139) (fun _ h9 => h9) rfl dX9_openUnits_12 ?_
  refine lv_iload_n hx hb dX9_openUnits_15 rfl (lv_at hl 1 rfl) ?_
  obtain ⟨h_3, hw⟩ := hw
  refine va_iald hx hb hK hP 11 0 rfl rfl h_3 dX9_openUnits_16 ?_
  refine W.widen (k := 1) (n := 6) (by decide) (by decide) ?_
  refine vx_ret ?_
  exact z_iret (k := (fun u => k_X9 E q0 u.1 ++ (k_X2 E (fun k => q0 (k + 1)) u.2))) (u_1.1, u_1.2) C0 hP hD hS hw dX9_openUnits_17
abbrev r_X9_missedUnits : Room := { frames := 7, cells := 1, slots := 6, locals := 111 }
def wp_X9_missedUnits (u0 : S_X9) (u1 : S_X2) (p1 : Int32) (post : Int32 → (S_X9 × S_X2) → Prop) (postX : String → (S_X9 × S_X2) → Prop) : Prop := wp_X9_checkPeriod u0 u1 p1 (fun u_1 => vp_in p1 40 ∧ (post (u_1.2.2.1.2.2.2.2.2.1 p1.toNatClampNeg) (u_1.1, u_1.2))) (fun X u => postX X (u.1, u.2))
set_option maxHeartbeats 4000000 in
set_option maxRecDepth 100000 in
theorem c_X9_missedUnits (l : Launch) (E : zE) (Z : zZ) (hZ0 : zSt Z) {sa : Nat → Nat} (hZs : zSS Z sa) (hlt : l.stackTraces = false) (hZe : ∀ A U H, Z A U H → zExc A U H) (q0 : Nat → Nat) (sz : Nat) (u0 : S_X9) (u1 : S_X2) (p1 : Int32) (post : Int32 → (S_X9 × S_X2) → Prop) (postX : String → (S_X9 × S_X2) → Prop) (hw : wp_X9_missedUnits u0 u1 p1 post postX) : vx_Met l yX9_missedUnits (zws yX9_missedUnits cX9_missedUnits 2 (some .int)) r_X9_missedUnits (va_Pc [.ref (q0 0), .int p1] (zPre Z E (k_X9 E q0 u0 ++ (k_X2 E (fun k => q0 (k + 1)) u1)) sz)) (va_Qi post (zAt E (va_A (k_X9 E q0 u0 ++ (k_X2 E (fun k => q0 (k + 1)) u1)) sz) (fun u => k_X9 E q0 u.1 ++ (k_X2 E (fun k => q0 (k + 1)) u.2))) (va_A (k_X9 E q0 u0 ++ (k_X2 E (fun k => q0 (k + 1)) u1)) sz)) (zXC E (va_A (k_X9 E q0 u0 ++ (k_X2 E (fun k => q0 (k + 1)) u1)) sz) (fun u => k_X9 E q0 u.1 ++ (k_X2 E (fun k => q0 (k + 1)) u.2)) postX) 1 6 (va_A (k_X9 E q0 u0 ++ (k_X2 E (fun k => q0 (k + 1)) u1)) sz) := by
  refine z_ofX (y := yX9_missedUnits) (cc := cX9_missedUnits) (maxL := 2) (ret := (some .int)) (av := [.ref (q0 0), .int p1]) (w := k_X9 E q0 u0 ++ (k_X2 E (fun k => q0 (k + 1)) u1)) (Qf := fun A => va_Qi post (zAt E A (fun u => k_X9 E q0 u.1 ++ (k_X2 E (fun k => q0 (k + 1)) u.2))) A) (Xf := fun A => zXC E A (fun u => k_X9 E q0 u.1 ++ (k_X2 E (fun k => q0 (k + 1)) u.2)) postX) (by decide) (Nat.le_of_ble_eq_true rfl) ?_
  intro p e s m args below meth c A ls C0 hT hA hK hZ hP hD hS hl
  obtain ⟨hx, hb, hml, hr, hown, hts, hlocks, hin⟩ := id C0
  have hown : s.vm.findClass RX9 = some m.cls := hown
  have hl : lv_has ls 2 [(0, .ref (q0 0)), (1, .int p1)] := hl
  refine lv_aload_n hx hb dX9_missedUnits_0 rfl (lv_at hl 0 rfl) ?_
  refine lv_iload_n hx hb dX9_missedUnits_1 rfl (lv_at hl 1 rfl) ?_
  refine z_xkv (R := r_X9_missedUnits) (cells := 0) (slots := 0) (mc9 := 1) (ms9 := 6) (kT := (fun u => k_X9 E q0 u.1 ++ (k_X2 E (fun k => q0 (k + 1)) u.2))) (fun u => (u.1, u.2)) (z_xV (rest := []) hZ0 C0 hK hZ hA hP hD hS hl.1 (c_X9_checkPeriod l E Z hZ0 hZs hlt hZe q0 s.heap.size u0 u1 p1 _ _ hw) yv_X9_103 [0, 1, 2, 3, 4, 5, 6, 7, 8, 9, 10, 11, 12, 13, 14, 15, 16, 17, 18] rfl (by decide) (ci := 9) rfl rfl 0 rfl ⟨Nat.le_of_ble_eq_true rfl, Nat.le_of_ble_eq_true rfl⟩ ⟨rfl, rfl⟩ rfl rfl (Nat.le_of_ble_eq_true rfl) ⟨Nat.le_of_ble_eq_true rfl, Nat.le_of_ble_eq_true rfl⟩ dX9_missedUnits_2) hP hD hS hA hT hlocks (fun X u h => h) [0, 1, 2, 3, 4, 5, 6, 7, 8, 9, 10, 11, 12, 13, 14, 15, 16, 17, 18] [] [0, 1, 2, 3, 4, 5, 6, 7, 8, 9, 10, 11, 12, 13, 14, 15, 16, 17, 18] rfl (wr := []) rfl (by decide) (by decide) (fun u => rfl) (by decide) (by decide) (by decide) (fun u_1 H locs hw hP hD hS => ?_)
  have hP : va_P (zD E) vwCl (k_X9 E q0 u_1.1 ++ (k_X2 E (fun k => q0 (k + 1)) u_1.2)) H := hP
  have hD : va_D A (k_X9 E q0 u_1.1 ++ (k_X2 E (fun k => q0 (k + 1)) u_1.2)) := hD
  refine lv_aload_n hx hb dX9_missedUnits_5 rfl (lv_at hl 0 rfl) ?_
  refine va_get (D := zD E) (ci := 9) (v := .ref (q0 1)) (C := RX9) (T := TX9) (N := 7) hx hb hts uw_X9 hown hK hP 0 rfl rfl 0 (by decide) (hts _ wm_2_109) (fun _ h9 => h9) rfl dX9_missedUnits_6 ?_
  refine va_getN (D := zD E) (ci := 2) (v := .ref (q0 7)) (C := RX2) (T := TX2) (N := 3) hx hb hts uw_X2 hown hK hP 1 rfl rfl 1 (by decide) (hts _ wm_1_204) (fun _ h9 => h9) rfl dX9_missedUnits_9 ?_
  refine va_getN (D := zD E) (ci := 0) (v := .ref (q0 12)) (C := RX0) (T := TX0) (N := 7) hx hb hts uw_X0 hown hK hP 7 rfl rfl 5 (by decide) (hts _ wm_1_141) (fun _ h9 => h9) rfl dX9_missedUnits_12 ?_
  refine lv_iload_n hx hb dX9_missedUnits_15 rfl (lv_at hl 1 rfl) ?_
  obtain ⟨h_3, hw⟩ := hw
  refine va_iald hx hb hK hP 12 0 rfl rfl h_3 dX9_missedUnits_16 ?_
  refine W.widen (k := 1) (n := 6) (by decide) (by decide) ?_
  refine vx_ret ?_
  exact z_iret (k := (fun u => k_X9 E q0 u.1 ++ (k_X2 E (fun k => q0 (k + 1)) u.2))) (u_1.1, u_1.2) C0 hP hD hS hw dX9_missedUnits_17
abbrev r_X9_invoice : Room := { frames := 7, cells := 1, slots := 6, locals := 111 }
def wp_X9_invoice (u0 : S_X9) (u1 : S_X2) (p1 : Int32) (post : Int64 → (S_X9 × S_X2) → Prop) (postX : String → (S_X9 × S_X2) → Prop) : Prop := wp_X9_checkPeriod u0 u1 p1 (fun u_1 => vp_in p1 40 ∧ (post (u_1.2.2.1.2.2.2.2.2.2 p1.toNatClampNeg) (u_1.1, u_1.2))) (fun X u => postX X (u.1, u.2))
set_option maxHeartbeats 4000000 in
set_option maxRecDepth 100000 in
theorem c_X9_invoice (l : Launch) (E : zE) (Z : zZ) (hZ0 : zSt Z) {sa : Nat → Nat} (hZs : zSS Z sa) (hlt : l.stackTraces = false) (hZe : ∀ A U H, Z A U H → zExc A U H) (q0 : Nat → Nat) (sz : Nat) (u0 : S_X9) (u1 : S_X2) (p1 : Int32) (post : Int64 → (S_X9 × S_X2) → Prop) (postX : String → (S_X9 × S_X2) → Prop) (hw : wp_X9_invoice u0 u1 p1 post postX) : vx_Met l yX9_invoice (zws yX9_invoice cX9_invoice 2 (some .long)) r_X9_invoice (va_Pc [.ref (q0 0), .int p1] (zPre Z E (k_X9 E q0 u0 ++ (k_X2 E (fun k => q0 (k + 1)) u1)) sz)) (va_Ql post (zAt E (va_A (k_X9 E q0 u0 ++ (k_X2 E (fun k => q0 (k + 1)) u1)) sz) (fun u => k_X9 E q0 u.1 ++ (k_X2 E (fun k => q0 (k + 1)) u.2))) (va_A (k_X9 E q0 u0 ++ (k_X2 E (fun k => q0 (k + 1)) u1)) sz)) (zXC E (va_A (k_X9 E q0 u0 ++ (k_X2 E (fun k => q0 (k + 1)) u1)) sz) (fun u => k_X9 E q0 u.1 ++ (k_X2 E (fun k => q0 (k + 1)) u.2)) postX) 1 6 (va_A (k_X9 E q0 u0 ++ (k_X2 E (fun k => q0 (k + 1)) u1)) sz) := by
  refine z_ofX (y := yX9_invoice) (cc := cX9_invoice) (maxL := 2) (ret := (some .long)) (av := [.ref (q0 0), .int p1]) (w := k_X9 E q0 u0 ++ (k_X2 E (fun k => q0 (k + 1)) u1)) (Qf := fun A => va_Ql post (zAt E A (fun u => k_X9 E q0 u.1 ++ (k_X2 E (fun k => q0 (k + 1)) u.2))) A) (Xf := fun A => zXC E A (fun u => k_X9 E q0 u.1 ++ (k_X2 E (fun k => q0 (k + 1)) u.2)) postX) (by decide) (Nat.le_of_ble_eq_true rfl) ?_
  intro p e s m args below meth c A ls C0 hT hA hK hZ hP hD hS hl
  obtain ⟨hx, hb, hml, hr, hown, hts, hlocks, hin⟩ := id C0
  have hown : s.vm.findClass RX9 = some m.cls := hown
  have hl : lv_has ls 2 [(0, .ref (q0 0)), (1, .int p1)] := hl
  refine lv_aload_n hx hb dX9_invoice_0 rfl (lv_at hl 0 rfl) ?_
  refine lv_iload_n hx hb dX9_invoice_1 rfl (lv_at hl 1 rfl) ?_
  refine z_xkv (R := r_X9_invoice) (cells := 0) (slots := 0) (mc9 := 1) (ms9 := 6) (kT := (fun u => k_X9 E q0 u.1 ++ (k_X2 E (fun k => q0 (k + 1)) u.2))) (fun u => (u.1, u.2)) (z_xV (rest := []) hZ0 C0 hK hZ hA hP hD hS hl.1 (c_X9_checkPeriod l E Z hZ0 hZs hlt hZe q0 s.heap.size u0 u1 p1 _ _ hw) yv_X9_103 [0, 1, 2, 3, 4, 5, 6, 7, 8, 9, 10, 11, 12, 13, 14, 15, 16, 17, 18] rfl (by decide) (ci := 9) rfl rfl 0 rfl ⟨Nat.le_of_ble_eq_true rfl, Nat.le_of_ble_eq_true rfl⟩ ⟨rfl, rfl⟩ rfl rfl (Nat.le_of_ble_eq_true rfl) ⟨Nat.le_of_ble_eq_true rfl, Nat.le_of_ble_eq_true rfl⟩ dX9_invoice_2) hP hD hS hA hT hlocks (fun X u h => h) [0, 1, 2, 3, 4, 5, 6, 7, 8, 9, 10, 11, 12, 13, 14, 15, 16, 17, 18] [] [0, 1, 2, 3, 4, 5, 6, 7, 8, 9, 10, 11, 12, 13, 14, 15, 16, 17, 18] rfl (wr := []) rfl (by decide) (by decide) (fun u => rfl) (by decide) (by decide) (by decide) (fun u_1 H locs hw hP hD hS => ?_)
  have hP : va_P (zD E) vwCl (k_X9 E q0 u_1.1 ++ (k_X2 E (fun k => q0 (k + 1)) u_1.2)) H := hP
  have hD : va_D A (k_X9 E q0 u_1.1 ++ (k_X2 E (fun k => q0 (k + 1)) u_1.2)) := hD
  refine lv_aload_n hx hb dX9_invoice_5 rfl (lv_at hl 0 rfl) ?_
  refine va_get (D := zD E) (ci := 9) (v := .ref (q0 1)) (C := RX9) (T := TX9) (N := 7) hx hb hts uw_X9 hown hK hP 0 rfl rfl 0 (by decide) (hts _ wm_2_109) (fun _ h9 => h9) rfl dX9_invoice_6 ?_
  refine va_getN (D := zD E) (ci := 2) (v := .ref (q0 7)) (C := RX2) (T := TX2) (N := 3) hx hb hts uw_X2 hown hK hP 1 rfl rfl 1 (by decide) (hts _ wm_1_204) (fun _ h9 => h9) rfl dX9_invoice_9 ?_
  refine va_getN (D := zD E) (ci := 0) (v := .ref (q0 13)) (C := RX0) (T := TX0) (N := 7) hx hb hts uw_X0 hown hK hP 7 rfl rfl 6 (by decide) (hts _ wm_1_143) (fun _ h9 => h9) rfl dX9_invoice_12 ?_
  refine lv_iload_n hx hb dX9_invoice_15 rfl (lv_at hl 1 rfl) ?_
  obtain ⟨h_3, hw⟩ := hw
  refine va_lald hx hb hK hP 13 1 rfl rfl h_3 dX9_invoice_16 ?_
  refine W.widen (k := 1) (n := 6) (by decide) (by decide) ?_
  refine vx_ret ?_
  exact z_lret (k := (fun u => k_X9 E q0 u.1 ++ (k_X2 E (fun k => q0 (k + 1)) u.2))) (u_1.1, u_1.2) C0 hP hD hS hw dX9_invoice_17
abbrev r_X9_bandFor : Room := { frames := 7, cells := 1, slots := 6, locals := 111 }
def wp_X9_bandFor (u0 : S_X9) (u1 : S_X2) (p1 : Int32) (post : Int32 → (S_X9 × S_X2) → Prop) (postX : String → (S_X9 × S_X2) → Prop) : Prop := wp_X9_checkLead u0 p1 (fun u_1 => wp_X7_bandLead u1.1 p1 (fun r_4 u_3 => post r_4 (u_1, (u_3, u1.2.1, u1.2.2)))) (fun X u => postX X (u, u1))
set_option maxHeartbeats 4000000 in
set_option maxRecDepth 100000 in
theorem c_X9_bandFor (l : Launch) (E : zE) (Z : zZ) (hZ0 : zSt Z) {sa : Nat → Nat} (hZs : zSS Z sa) (hlt : l.stackTraces = false) (hZe : ∀ A U H, Z A U H → zExc A U H) (q0 : Nat → Nat) (sz : Nat) (u0 : S_X9) (u1 : S_X2) (p1 : Int32) (post : Int32 → (S_X9 × S_X2) → Prop) (postX : String → (S_X9 × S_X2) → Prop) (hw : wp_X9_bandFor u0 u1 p1 post postX) : vx_Met l yX9_bandFor (zws yX9_bandFor cX9_bandFor 2 (some .int)) r_X9_bandFor (va_Pc [.ref (q0 0), .int p1] (zPre Z E (k_X9 E q0 u0 ++ (k_X2 E (fun k => q0 (k + 1)) u1)) sz)) (va_Qi post (zAt E (va_A (k_X9 E q0 u0 ++ (k_X2 E (fun k => q0 (k + 1)) u1)) sz) (fun u => k_X9 E q0 u.1 ++ (k_X2 E (fun k => q0 (k + 1)) u.2))) (va_A (k_X9 E q0 u0 ++ (k_X2 E (fun k => q0 (k + 1)) u1)) sz)) (zXC E (va_A (k_X9 E q0 u0 ++ (k_X2 E (fun k => q0 (k + 1)) u1)) sz) (fun u => k_X9 E q0 u.1 ++ (k_X2 E (fun k => q0 (k + 1)) u.2)) postX) 1 6 (va_A (k_X9 E q0 u0 ++ (k_X2 E (fun k => q0 (k + 1)) u1)) sz) := by
  refine z_ofX (y := yX9_bandFor) (cc := cX9_bandFor) (maxL := 2) (ret := (some .int)) (av := [.ref (q0 0), .int p1]) (w := k_X9 E q0 u0 ++ (k_X2 E (fun k => q0 (k + 1)) u1)) (Qf := fun A => va_Qi post (zAt E A (fun u => k_X9 E q0 u.1 ++ (k_X2 E (fun k => q0 (k + 1)) u.2))) A) (Xf := fun A => zXC E A (fun u => k_X9 E q0 u.1 ++ (k_X2 E (fun k => q0 (k + 1)) u.2)) postX) (by decide) (Nat.le_of_ble_eq_true rfl) ?_
  intro p e s m args below meth c A ls C0 hT hA hK hZ hP hD hS hl
  obtain ⟨hx, hb, hml, hr, hown, hts, hlocks, hin⟩ := id C0
  have hown : s.vm.findClass RX9 = some m.cls := hown
  have hl : lv_has ls 2 [(0, .ref (q0 0)), (1, .int p1)] := hl
  refine lv_aload_n hx hb dX9_bandFor_0 rfl (lv_at hl 0 rfl) ?_
  refine lv_iload_n hx hb dX9_bandFor_1 rfl (lv_at hl 1 rfl) ?_
  refine z_xkv (R := r_X9_bandFor) (cells := 0) (slots := 0) (mc9 := 1) (ms9 := 6) (kT := (fun u => k_X9 E q0 u.1 ++ (k_X2 E (fun k => q0 (k + 1)) u.2))) (fun u => (u, u1)) (z_xV (rest := []) hZ0 C0 hK hZ hA hP hD hS hl.1 (c_X9_checkLead l E Z hZ0 hZs hlt hZe q0 s.heap.size u0 p1 _ _ hw) yv_X9_140 [0] rfl (by decide) (ci := 9) rfl rfl 0 rfl ⟨Nat.le_of_ble_eq_true rfl, Nat.le_of_ble_eq_true rfl⟩ ⟨rfl, rfl⟩ rfl rfl (Nat.le_of_ble_eq_true rfl) ⟨Nat.le_of_ble_eq_true rfl, Nat.le_of_ble_eq_true rfl⟩ dX9_bandFor_2) hP hD hS hA hT hlocks (fun X u h => h) [0] [1, 2, 3, 4, 5, 6, 7, 8, 9, 10, 11, 12, 13, 14, 15, 16, 17, 18] [18, 0, 1, 2, 3, 4, 5, 6, 7, 8, 9, 10, 11, 12, 13, 14, 15, 16, 17] rfl (wr := [_, _, _, _, _, _, _, _, _, _, _, _, _, _, _, _, _, _]) rfl (by decide) (by decide) (fun u => rfl) (by decide) (by decide) (by decide) (fun u_1 H locs hw hP hD hS => ?_)
  have hP : va_P (zD E) vwCl (k_X9 E q0 u_1 ++ (k_X2 E (fun k => q0 (k + 1)) u1)) H := hP
  have hD : va_D A (k_X9 E q0 u_1 ++ (k_X2 E (fun k => q0 (k + 1)) u1)) := hD
  refine lv_aload_n hx hb dX9_bandFor_5 rfl (lv_at hl 0 rfl) ?_
  refine va_get (D := zD E) (ci := 9) (v := .ref (q0 1)) (C := RX9) (T := TX9) (N := 7) hx hb hts uw_X9 hown hK hP 0 rfl rfl 0 (by decide) (hts _ wm_2_109) (fun _ h9 => h9) rfl dX9_bandFor_6 ?_
  refine va_getN (D := zD E) (ci := 2) (v := .ref (q0 2)) (C := RX2) (T := TX2) (N := 3) hx hb hts uw_X2 hown hK hP 1 rfl rfl 0 (by decide) (hts _ wm_1_201) (fun _ h9 => h9) rfl dX9_bandFor_9 ?_
  refine lv_iload_n hx hb dX9_bandFor_12 rfl (lv_at hl 1 rfl) ?_
  refine z_ki (z_rN (rest := []) hZ0 C0 hK hZ hA hP hD hS hl.1 (c_X7_bandLead l E Z hZ0 (fun k => q0 (k + 2)) H.size u1.1 p1 _ hw) yv_X9_143 [2, 3, 4, 5, 6] rfl (by decide) (ci := 7) rfl rfl 2 rfl ⟨Nat.le_of_ble_eq_true rfl, Nat.le_of_ble_eq_true rfl⟩ ⟨rfl, rfl⟩ rfl rfl (Nat.le_of_ble_eq_true rfl) ⟨Nat.le_of_ble_eq_true rfl, Nat.le_of_ble_eq_true rfl⟩ dX9_bandFor_13) hP hD hS hA [2, 3, 4, 5, 6] [0, 1, 7, 8, 9, 10, 11, 12, 13, 14, 15, 16, 17, 18] [0, 1, 14, 15, 16, 17, 18, 2, 3, 4, 5, 6, 7, 8, 9, 10, 11, 12, 13] rfl (wr := [_, _, _, _, _, _, _, _, _, _, _, _, _, _]) rfl (by decide) (by decide) (fun u => k_X9 E q0 u_1 ++ (k_X2 E (fun k => q0 (k + 1)) (u, u1.2.1, u1.2.2))) (fun u => rfl) (by decide) (fun r_4 u_3 H locs hw hP hD hS => ?_)
  refine W.widen (k := 1) (n := 6) (by decide) (by decide) ?_
  refine vx_ret ?_
  exact z_iret (k := (fun u => k_X9 E q0 u.1 ++ (k_X2 E (fun k => q0 (k + 1)) u.2))) (u_1, (u_3, u1.2.1, u1.2.2)) C0 hP hD hS hw dX9_bandFor_16
abbrev r_X9_allowed : Room := { frames := 7, cells := 2, slots := 12, locals := 111 }
def wp_X9_allowed (u0 : S_X9) (u1 : S_X2) (p1 : Int32) (p2 : Int32) (p3 : Int32) (post : Int32 → (S_X9 × S_X2) → Prop) (postX : String → (S_X9 × S_X2) → Prop) : Prop := wp_X9_checkLead u0 p1 (fun u_1 => wp_X9_checkUnits u_1 p2 (fun u_3 => (p3 = 0 → (wp_X7_smallest u1.1 p1 p2 (fun r_7 u_6 => post r_7 (u_3, (u_6, u1.2.1, u1.2.2))))) ∧ (¬ (p3 = 0) → (wp_X7_greatest u1.1 p1 p2 (fun r_9 u_8 => post r_9 (u_3, (u_8, u1.2.1, u1.2.2)))))) (fun X u => postX X (u, u1))) (fun X u => postX X (u, u1))
set_option maxHeartbeats 4000000 in
set_option maxRecDepth 100000 in
theorem c_X9_allowed (l : Launch) (E : zE) (Z : zZ) (hZ0 : zSt Z) {sa : Nat → Nat} (hZs : zSS Z sa) (hlt : l.stackTraces = false) (hZe : ∀ A U H, Z A U H → zExc A U H) (q0 : Nat → Nat) (sz : Nat) (u0 : S_X9) (u1 : S_X2) (p1 : Int32) (p2 : Int32) (p3 : Int32) (post : Int32 → (S_X9 × S_X2) → Prop) (postX : String → (S_X9 × S_X2) → Prop) (hw : wp_X9_allowed u0 u1 p1 p2 p3 post postX) : vx_Met l yX9_allowed (zws yX9_allowed cX9_allowed 4 (some .int)) r_X9_allowed (va_Pc [.ref (q0 0), .int p1, .int p2, .int p3] (zPre Z E (k_X9 E q0 u0 ++ (k_X2 E (fun k => q0 (k + 1)) u1)) sz)) (va_Qi post (zAt E (va_A (k_X9 E q0 u0 ++ (k_X2 E (fun k => q0 (k + 1)) u1)) sz) (fun u => k_X9 E q0 u.1 ++ (k_X2 E (fun k => q0 (k + 1)) u.2))) (va_A (k_X9 E q0 u0 ++ (k_X2 E (fun k => q0 (k + 1)) u1)) sz)) (zXC E (va_A (k_X9 E q0 u0 ++ (k_X2 E (fun k => q0 (k + 1)) u1)) sz) (fun u => k_X9 E q0 u.1 ++ (k_X2 E (fun k => q0 (k + 1)) u.2)) postX) 2 12 (va_A (k_X9 E q0 u0 ++ (k_X2 E (fun k => q0 (k + 1)) u1)) sz) := by
  refine z_ofX (y := yX9_allowed) (cc := cX9_allowed) (maxL := 4) (ret := (some .int)) (av := [.ref (q0 0), .int p1, .int p2, .int p3]) (w := k_X9 E q0 u0 ++ (k_X2 E (fun k => q0 (k + 1)) u1)) (Qf := fun A => va_Qi post (zAt E A (fun u => k_X9 E q0 u.1 ++ (k_X2 E (fun k => q0 (k + 1)) u.2))) A) (Xf := fun A => zXC E A (fun u => k_X9 E q0 u.1 ++ (k_X2 E (fun k => q0 (k + 1)) u.2)) postX) (by decide) (Nat.le_of_ble_eq_true rfl) ?_
  intro p e s m args below meth c A ls C0 hT hA hK hZ hP hD hS hl
  obtain ⟨hx, hb, hml, hr, hown, hts, hlocks, hin⟩ := id C0
  have hown : s.vm.findClass RX9 = some m.cls := hown
  have hl : lv_has ls 4 [(0, .ref (q0 0)), (1, .int p1), (2, .int p2), (3, .int p3)] := hl
  refine lv_aload_n hx hb dX9_allowed_0 rfl (lv_at hl 0 rfl) ?_
  refine lv_iload_n hx hb dX9_allowed_1 rfl (lv_at hl 1 rfl) ?_
  refine z_xkv (R := r_X9_allowed) (cells := 0) (slots := 0) (mc9 := 2) (ms9 := 12) (kT := (fun u => k_X9 E q0 u.1 ++ (k_X2 E (fun k => q0 (k + 1)) u.2))) (fun u => (u, u1)) (z_xV (rest := []) hZ0 C0 hK hZ hA hP hD hS hl.1 (c_X9_checkLead l E Z hZ0 hZs hlt hZe q0 s.heap.size u0 p1 _ _ hw) yv_X9_140 [0] rfl (by decide) (ci := 9) rfl rfl 0 rfl ⟨Nat.le_of_ble_eq_true rfl, Nat.le_of_ble_eq_true rfl⟩ ⟨rfl, rfl⟩ rfl rfl (Nat.le_of_ble_eq_true rfl) ⟨Nat.le_of_ble_eq_true rfl, Nat.le_of_ble_eq_true rfl⟩ dX9_allowed_2) hP hD hS hA hT hlocks (fun X u h => h) [0] [1, 2, 3, 4, 5, 6, 7, 8, 9, 10, 11, 12, 13, 14, 15, 16, 17, 18] [18, 0, 1, 2, 3, 4, 5, 6, 7, 8, 9, 10, 11, 12, 13, 14, 15, 16, 17] rfl (wr := [_, _, _, _, _, _, _, _, _, _, _, _, _, _, _, _, _, _]) rfl (by decide) (by decide) (fun u => rfl) (by decide) (by decide) (by decide) (fun u_1 H locs hw hP hD hS => ?_)
  have hP : va_P (zD E) vwCl (k_X9 E q0 u_1 ++ (k_X2 E (fun k => q0 (k + 1)) u1)) H := hP
  have hD : va_D A (k_X9 E q0 u_1 ++ (k_X2 E (fun k => q0 (k + 1)) u1)) := hD
  refine lv_aload_n hx hb dX9_allowed_5 rfl (lv_at hl 0 rfl) ?_
  refine lv_iload_n hx hb dX9_allowed_6 rfl (lv_at hl 2 rfl) ?_
  refine z_xkv (R := r_X9_allowed) (cells := 1) (slots := 6) (mc9 := 2) (ms9 := 12) (kT := (fun u => k_X9 E q0 u.1 ++ (k_X2 E (fun k => q0 (k + 1)) u.2))) (fun u => (u, u1)) (z_xV (rest := []) hZ0 C0 hK hZ hA hP hD hS hl.1 (c_X9_checkUnits l E Z hZ0 hZs hlt hZe q0 H.size u_1 p2 _ _ hw) yv_X9_146 [0] rfl (by decide) (ci := 9) rfl rfl 0 rfl ⟨Nat.le_of_ble_eq_true rfl, Nat.le_of_ble_eq_true rfl⟩ ⟨rfl, rfl⟩ rfl rfl (Nat.le_of_ble_eq_true rfl) ⟨Nat.le_of_ble_eq_true rfl, Nat.le_of_ble_eq_true rfl⟩ dX9_allowed_7) hP hD hS hA hT hlocks (fun X u h => h) [0] [1, 2, 3, 4, 5, 6, 7, 8, 9, 10, 11, 12, 13, 14, 15, 16, 17, 18] [18, 0, 1, 2, 3, 4, 5, 6, 7, 8, 9, 10, 11, 12, 13, 14, 15, 16, 17] rfl (wr := [_, _, _, _, _, _, _, _, _, _, _, _, _, _, _, _, _, _]) rfl (by decide) (by decide) (fun u => rfl) (by decide) (by decide) (by decide) (fun u_3 H locs hw hP hD hS => ?_)
  have hP : va_P (zD E) vwCl (k_X9 E q0 u_3 ++ (k_X2 E (fun k => q0 (k + 1)) u1)) H := hP
  have hD : va_D A (k_X9 E q0 u_3 ++ (k_X2 E (fun k => q0 (k + 1)) u1)) := hD
  refine lv_iload_n hx hb dX9_allowed_10 rfl (lv_at hl 3 rfl) ?_
  obtain ⟨hwt, hwf⟩ := hw
  refine lv_if_eq (tgt := 29) hx hb dX9_allowed_11 (by decide) (fun c_5 => ?_) (fun c_5 => ?_)
  · have hw := hwt c_5
    refine lv_aload_n hx hb dX9_allowed_29 rfl (lv_at hl 0 rfl) ?_
    refine va_get (D := zD E) (ci := 9) (v := .ref (q0 1)) (C := RX9) (T := TX9) (N := 7) hx hb hts uw_X9 hown hK hP 0 rfl rfl 0 (by decide) (hts _ wm_2_109) (fun _ h9 => h9) rfl dX9_allowed_30 ?_
    refine va_getN (D := zD E) (ci := 2) (v := .ref (q0 2)) (C := RX2) (T := TX2) (N := 3) hx hb hts uw_X2 hown hK hP 1 rfl rfl 0 (by decide) (hts _ wm_1_201) (fun _ h9 => h9) rfl dX9_allowed_33 ?_
    refine lv_iload_n hx hb dX9_allowed_36 rfl (lv_at hl 1 rfl) ?_
    refine lv_iload_n hx hb dX9_allowed_37 rfl (lv_at hl 2 rfl) ?_
    refine z_ki (z_rN (rest := []) hZ0 C0 hK hZ hA hP hD hS hl.1 (c_X7_smallest l E Z hZ0 (fun k => q0 (k + 2)) H.size u1.1 p1 p2 _ hw) yv_X9_153 [2, 3, 4, 5, 6] rfl (by decide) (ci := 7) rfl rfl 2 rfl ⟨Nat.le_of_ble_eq_true rfl, Nat.le_of_ble_eq_true rfl⟩ ⟨rfl, rfl⟩ rfl rfl (Nat.le_of_ble_eq_true rfl) ⟨Nat.le_of_ble_eq_true rfl, Nat.le_of_ble_eq_true rfl⟩ dX9_allowed_38) hP hD hS hA [2, 3, 4, 5, 6] [0, 1, 7, 8, 9, 10, 11, 12, 13, 14, 15, 16, 17, 18] [0, 1, 14, 15, 16, 17, 18, 2, 3, 4, 5, 6, 7, 8, 9, 10, 11, 12, 13] rfl (wr := [_, _, _, _, _, _, _, _, _, _, _, _, _, _]) rfl (by decide) (by decide) (fun u => k_X9 E q0 u_3 ++ (k_X2 E (fun k => q0 (k + 1)) (u, u1.2.1, u1.2.2))) (fun u => rfl) (by decide) (fun r_7 u_6 H locs hw hP hD hS => ?_)
    refine W.widen (k := 2) (n := 12) (by decide) (by decide) ?_
    refine vx_ret ?_
    exact z_iret (k := (fun u => k_X9 E q0 u.1 ++ (k_X2 E (fun k => q0 (k + 1)) u.2))) (u_3, (u_6, u1.2.1, u1.2.2)) C0 hP hD hS hw dX9_allowed_41
  · have hw := hwf c_5
    refine lv_aload_n hx hb dX9_allowed_14 rfl (lv_at hl 0 rfl) ?_
    refine va_get (D := zD E) (ci := 9) (v := .ref (q0 1)) (C := RX9) (T := TX9) (N := 7) hx hb hts uw_X9 hown hK hP 0 rfl rfl 0 (by decide) (hts _ wm_2_109) (fun _ h9 => h9) rfl dX9_allowed_15 ?_
    refine va_getN (D := zD E) (ci := 2) (v := .ref (q0 2)) (C := RX2) (T := TX2) (N := 3) hx hb hts uw_X2 hown hK hP 1 rfl rfl 0 (by decide) (hts _ wm_1_201) (fun _ h9 => h9) rfl dX9_allowed_18 ?_
    refine lv_iload_n hx hb dX9_allowed_21 rfl (lv_at hl 1 rfl) ?_
    refine lv_iload_n hx hb dX9_allowed_22 rfl (lv_at hl 2 rfl) ?_
    refine z_ki (z_rN (rest := []) hZ0 C0 hK hZ hA hP hD hS hl.1 (c_X7_greatest l E Z hZ0 (fun k => q0 (k + 2)) H.size u1.1 p1 p2 _ hw) yv_X9_149 [2, 3, 4, 5, 6] rfl (by decide) (ci := 7) rfl rfl 2 rfl ⟨Nat.le_of_ble_eq_true rfl, Nat.le_of_ble_eq_true rfl⟩ ⟨rfl, rfl⟩ rfl rfl (Nat.le_of_ble_eq_true rfl) ⟨Nat.le_of_ble_eq_true rfl, Nat.le_of_ble_eq_true rfl⟩ dX9_allowed_23) hP hD hS hA [2, 3, 4, 5, 6] [0, 1, 7, 8, 9, 10, 11, 12, 13, 14, 15, 16, 17, 18] [0, 1, 14, 15, 16, 17, 18, 2, 3, 4, 5, 6, 7, 8, 9, 10, 11, 12, 13] rfl (wr := [_, _, _, _, _, _, _, _, _, _, _, _, _, _]) rfl (by decide) (by decide) (fun u => k_X9 E q0 u_3 ++ (k_X2 E (fun k => q0 (k + 1)) (u, u1.2.1, u1.2.2))) (fun u => rfl) (by decide) (fun r_9 u_8 H locs hw hP hD hS => ?_)
    refine lv_goto (tgt := 41) hx hb dX9_allowed_26 (by decide) ?_
    refine W.widen (k := 2) (n := 12) (by decide) (by decide) ?_
    refine vx_ret ?_
    exact z_iret (k := (fun u => k_X9 E q0 u.1 ++ (k_X2 E (fun k => q0 (k + 1)) u.2))) (u_3, (u_8, u1.2.1, u1.2.2)) C0 hP hD hS hw dX9_allowed_41
abbrev r_X9_penaltyFor : Room := { frames := 7, cells := 2, slots := 12, locals := 111 }
def wp_X9_penaltyFor (u0 : S_X9) (u1 : S_X2) (p1 : Int32) (p2 : Int32) (post : Int32 → (S_X9 × S_X2) → Prop) (postX : String → (S_X9 × S_X2) → Prop) : Prop := wp_X9_checkUnits u0 p1 (fun u_1 => wp_X9_checkUnits u_1 p2 (fun u_3 => wp_X7_penalty u1.1 p1 p2 (fun r_6 u_5 => post r_6 (u_3, (u_5, u1.2.1, u1.2.2)))) (fun X u => postX X (u, u1))) (fun X u => postX X (u, u1))
set_option maxHeartbeats 4000000 in
set_option maxRecDepth 100000 in
theorem c_X9_penaltyFor (l : Launch) (E : zE) (Z : zZ) (hZ0 : zSt Z) {sa : Nat → Nat} (hZs : zSS Z sa) (hlt : l.stackTraces = false) (hZe : ∀ A U H, Z A U H → zExc A U H) (q0 : Nat → Nat) (sz : Nat) (u0 : S_X9) (u1 : S_X2) (p1 : Int32) (p2 : Int32) (post : Int32 → (S_X9 × S_X2) → Prop) (postX : String → (S_X9 × S_X2) → Prop) (hw : wp_X9_penaltyFor u0 u1 p1 p2 post postX) : vx_Met l yX9_penaltyFor (zws yX9_penaltyFor cX9_penaltyFor 3 (some .int)) r_X9_penaltyFor (va_Pc [.ref (q0 0), .int p1, .int p2] (zPre Z E (k_X9 E q0 u0 ++ (k_X2 E (fun k => q0 (k + 1)) u1)) sz)) (va_Qi post (zAt E (va_A (k_X9 E q0 u0 ++ (k_X2 E (fun k => q0 (k + 1)) u1)) sz) (fun u => k_X9 E q0 u.1 ++ (k_X2 E (fun k => q0 (k + 1)) u.2))) (va_A (k_X9 E q0 u0 ++ (k_X2 E (fun k => q0 (k + 1)) u1)) sz)) (zXC E (va_A (k_X9 E q0 u0 ++ (k_X2 E (fun k => q0 (k + 1)) u1)) sz) (fun u => k_X9 E q0 u.1 ++ (k_X2 E (fun k => q0 (k + 1)) u.2)) postX) 2 12 (va_A (k_X9 E q0 u0 ++ (k_X2 E (fun k => q0 (k + 1)) u1)) sz) := by
  refine z_ofX (y := yX9_penaltyFor) (cc := cX9_penaltyFor) (maxL := 3) (ret := (some .int)) (av := [.ref (q0 0), .int p1, .int p2]) (w := k_X9 E q0 u0 ++ (k_X2 E (fun k => q0 (k + 1)) u1)) (Qf := fun A => va_Qi post (zAt E A (fun u => k_X9 E q0 u.1 ++ (k_X2 E (fun k => q0 (k + 1)) u.2))) A) (Xf := fun A => zXC E A (fun u => k_X9 E q0 u.1 ++ (k_X2 E (fun k => q0 (k + 1)) u.2)) postX) (by decide) (Nat.le_of_ble_eq_true rfl) ?_
  intro p e s m args below meth c A ls C0 hT hA hK hZ hP hD hS hl
  obtain ⟨hx, hb, hml, hr, hown, hts, hlocks, hin⟩ := id C0
  have hown : s.vm.findClass RX9 = some m.cls := hown
  have hl : lv_has ls 3 [(0, .ref (q0 0)), (1, .int p1), (2, .int p2)] := hl
  refine lv_aload_n hx hb dX9_penaltyFor_0 rfl (lv_at hl 0 rfl) ?_
  refine lv_iload_n hx hb dX9_penaltyFor_1 rfl (lv_at hl 1 rfl) ?_
  refine z_xkv (R := r_X9_penaltyFor) (cells := 0) (slots := 0) (mc9 := 2) (ms9 := 12) (kT := (fun u => k_X9 E q0 u.1 ++ (k_X2 E (fun k => q0 (k + 1)) u.2))) (fun u => (u, u1)) (z_xV (rest := []) hZ0 C0 hK hZ hA hP hD hS hl.1 (c_X9_checkUnits l E Z hZ0 hZs hlt hZe q0 s.heap.size u0 p1 _ _ hw) yv_X9_146 [0] rfl (by decide) (ci := 9) rfl rfl 0 rfl ⟨Nat.le_of_ble_eq_true rfl, Nat.le_of_ble_eq_true rfl⟩ ⟨rfl, rfl⟩ rfl rfl (Nat.le_of_ble_eq_true rfl) ⟨Nat.le_of_ble_eq_true rfl, Nat.le_of_ble_eq_true rfl⟩ dX9_penaltyFor_2) hP hD hS hA hT hlocks (fun X u h => h) [0] [1, 2, 3, 4, 5, 6, 7, 8, 9, 10, 11, 12, 13, 14, 15, 16, 17, 18] [18, 0, 1, 2, 3, 4, 5, 6, 7, 8, 9, 10, 11, 12, 13, 14, 15, 16, 17] rfl (wr := [_, _, _, _, _, _, _, _, _, _, _, _, _, _, _, _, _, _]) rfl (by decide) (by decide) (fun u => rfl) (by decide) (by decide) (by decide) (fun u_1 H locs hw hP hD hS => ?_)
  have hP : va_P (zD E) vwCl (k_X9 E q0 u_1 ++ (k_X2 E (fun k => q0 (k + 1)) u1)) H := hP
  have hD : va_D A (k_X9 E q0 u_1 ++ (k_X2 E (fun k => q0 (k + 1)) u1)) := hD
  refine lv_aload_n hx hb dX9_penaltyFor_5 rfl (lv_at hl 0 rfl) ?_
  refine lv_iload_n hx hb dX9_penaltyFor_6 rfl (lv_at hl 2 rfl) ?_
  refine z_xkv (R := r_X9_penaltyFor) (cells := 1) (slots := 6) (mc9 := 2) (ms9 := 12) (kT := (fun u => k_X9 E q0 u.1 ++ (k_X2 E (fun k => q0 (k + 1)) u.2))) (fun u => (u, u1)) (z_xV (rest := []) hZ0 C0 hK hZ hA hP hD hS hl.1 (c_X9_checkUnits l E Z hZ0 hZs hlt hZe q0 H.size u_1 p2 _ _ hw) yv_X9_146 [0] rfl (by decide) (ci := 9) rfl rfl 0 rfl ⟨Nat.le_of_ble_eq_true rfl, Nat.le_of_ble_eq_true rfl⟩ ⟨rfl, rfl⟩ rfl rfl (Nat.le_of_ble_eq_true rfl) ⟨Nat.le_of_ble_eq_true rfl, Nat.le_of_ble_eq_true rfl⟩ dX9_penaltyFor_7) hP hD hS hA hT hlocks (fun X u h => h) [0] [1, 2, 3, 4, 5, 6, 7, 8, 9, 10, 11, 12, 13, 14, 15, 16, 17, 18] [18, 0, 1, 2, 3, 4, 5, 6, 7, 8, 9, 10, 11, 12, 13, 14, 15, 16, 17] rfl (wr := [_, _, _, _, _, _, _, _, _, _, _, _, _, _, _, _, _, _]) rfl (by decide) (by decide) (fun u => rfl) (by decide) (by decide) (by decide) (fun u_3 H locs hw hP hD hS => ?_)
  have hP : va_P (zD E) vwCl (k_X9 E q0 u_3 ++ (k_X2 E (fun k => q0 (k + 1)) u1)) H := hP
  have hD : va_D A (k_X9 E q0 u_3 ++ (k_X2 E (fun k => q0 (k + 1)) u1)) := hD
  refine lv_aload_n hx hb dX9_penaltyFor_10 rfl (lv_at hl 0 rfl) ?_
  refine va_get (D := zD E) (ci := 9) (v := .ref (q0 1)) (C := RX9) (T := TX9) (N := 7) hx hb hts uw_X9 hown hK hP 0 rfl rfl 0 (by decide) (hts _ wm_2_109) (fun _ h9 => h9) rfl dX9_penaltyFor_11 ?_
  refine va_getN (D := zD E) (ci := 2) (v := .ref (q0 2)) (C := RX2) (T := TX2) (N := 3) hx hb hts uw_X2 hown hK hP 1 rfl rfl 0 (by decide) (hts _ wm_1_201) (fun _ h9 => h9) rfl dX9_penaltyFor_14 ?_
  refine lv_iload_n hx hb dX9_penaltyFor_17 rfl (lv_at hl 1 rfl) ?_
  refine lv_iload_n hx hb dX9_penaltyFor_18 rfl (lv_at hl 2 rfl) ?_
  refine z_ki (z_rN (rest := []) hZ0 C0 hK hZ hA hP hD hS hl.1 (c_X7_penalty l E Z hZ0 (fun k => q0 (k + 2)) H.size u1.1 p1 p2 _ hw) yv_X9_156 [2, 3, 4, 5, 6] rfl (by decide) (ci := 7) rfl rfl 2 rfl ⟨Nat.le_of_ble_eq_true rfl, Nat.le_of_ble_eq_true rfl⟩ ⟨rfl, rfl⟩ rfl rfl (Nat.le_of_ble_eq_true rfl) ⟨Nat.le_of_ble_eq_true rfl, Nat.le_of_ble_eq_true rfl⟩ dX9_penaltyFor_19) hP hD hS hA [2, 3, 4, 5, 6] [0, 1, 7, 8, 9, 10, 11, 12, 13, 14, 15, 16, 17, 18] [0, 1, 14, 15, 16, 17, 18, 2, 3, 4, 5, 6, 7, 8, 9, 10, 11, 12, 13] rfl (wr := [_, _, _, _, _, _, _, _, _, _, _, _, _, _]) rfl (by decide) (by decide) (fun u => k_X9 E q0 u_3 ++ (k_X2 E (fun k => q0 (k + 1)) (u, u1.2.1, u1.2.2))) (fun u => rfl) (by decide) (fun r_6 u_5 H locs hw hP hD hS => ?_)
  refine W.widen (k := 2) (n := 12) (by decide) (by decide) ?_
  refine vx_ret ?_
  exact z_iret (k := (fun u => k_X9 E q0 u.1 ++ (k_X2 E (fun k => q0 (k + 1)) u.2))) (u_3, (u_5, u1.2.1, u1.2.2)) C0 hP hD hS hw dX9_penaltyFor_22
abbrev r_X9_breachPeriod : Room := { frames := 7, cells := 1, slots := 6, locals := 111 }
def wp_X9_breachPeriod (u0 : S_X9) (u1 : S_X2) (p1 : Int32) (post : Int32 → (S_X9 × S_X2) → Prop) (postX : String → (S_X9 × S_X2) → Prop) : Prop := wp_X9_checkBreach u0 u1 p1 (fun u_1 => vp_in p1 20 ∧ (post (u_1.2.2.2.2.2.2.1 p1.toNatClampNeg) (u_1.1, u_1.2))) (fun X u => postX X (u.1, u.2))
set_option maxHeartbeats 4000000 in
set_option maxRecDepth 100000 in
theorem c_X9_breachPeriod (l : Launch) (E : zE) (Z : zZ) (hZ0 : zSt Z) {sa : Nat → Nat} (hZs : zSS Z sa) (hlt : l.stackTraces = false) (hZe : ∀ A U H, Z A U H → zExc A U H) (q0 : Nat → Nat) (sz : Nat) (u0 : S_X9) (u1 : S_X2) (p1 : Int32) (post : Int32 → (S_X9 × S_X2) → Prop) (postX : String → (S_X9 × S_X2) → Prop) (hw : wp_X9_breachPeriod u0 u1 p1 post postX) : vx_Met l yX9_breachPeriod (zws yX9_breachPeriod cX9_breachPeriod 2 (some .int)) r_X9_breachPeriod (va_Pc [.ref (q0 0), .int p1] (zPre Z E (k_X9 E q0 u0 ++ (k_X2 E (fun k => q0 (k + 1)) u1)) sz)) (va_Qi post (zAt E (va_A (k_X9 E q0 u0 ++ (k_X2 E (fun k => q0 (k + 1)) u1)) sz) (fun u => k_X9 E q0 u.1 ++ (k_X2 E (fun k => q0 (k + 1)) u.2))) (va_A (k_X9 E q0 u0 ++ (k_X2 E (fun k => q0 (k + 1)) u1)) sz)) (zXC E (va_A (k_X9 E q0 u0 ++ (k_X2 E (fun k => q0 (k + 1)) u1)) sz) (fun u => k_X9 E q0 u.1 ++ (k_X2 E (fun k => q0 (k + 1)) u.2)) postX) 1 6 (va_A (k_X9 E q0 u0 ++ (k_X2 E (fun k => q0 (k + 1)) u1)) sz) := by
  refine z_ofX (y := yX9_breachPeriod) (cc := cX9_breachPeriod) (maxL := 2) (ret := (some .int)) (av := [.ref (q0 0), .int p1]) (w := k_X9 E q0 u0 ++ (k_X2 E (fun k => q0 (k + 1)) u1)) (Qf := fun A => va_Qi post (zAt E A (fun u => k_X9 E q0 u.1 ++ (k_X2 E (fun k => q0 (k + 1)) u.2))) A) (Xf := fun A => zXC E A (fun u => k_X9 E q0 u.1 ++ (k_X2 E (fun k => q0 (k + 1)) u.2)) postX) (by decide) (Nat.le_of_ble_eq_true rfl) ?_
  intro p e s m args below meth c A ls C0 hT hA hK hZ hP hD hS hl
  obtain ⟨hx, hb, hml, hr, hown, hts, hlocks, hin⟩ := id C0
  have hown : s.vm.findClass RX9 = some m.cls := hown
  have hl : lv_has ls 2 [(0, .ref (q0 0)), (1, .int p1)] := hl
  refine lv_aload_n hx hb dX9_breachPeriod_0 rfl (lv_at hl 0 rfl) ?_
  refine lv_iload_n hx hb dX9_breachPeriod_1 rfl (lv_at hl 1 rfl) ?_
  refine z_xkv (R := r_X9_breachPeriod) (cells := 0) (slots := 0) (mc9 := 1) (ms9 := 6) (kT := (fun u => k_X9 E q0 u.1 ++ (k_X2 E (fun k => q0 (k + 1)) u.2))) (fun u => (u.1, u.2)) (z_xV (rest := []) hZ0 C0 hK hZ hA hP hD hS hl.1 (c_X9_checkBreach l E Z hZ0 hZs hlt hZe q0 s.heap.size u0 u1 p1 _ _ hw) yv_X9_165 [0, 1, 2, 3, 4, 5, 6, 7, 8, 9, 10, 11, 12, 13, 14, 15, 16, 17, 18] rfl (by decide) (ci := 9) rfl rfl 0 rfl ⟨Nat.le_of_ble_eq_true rfl, Nat.le_of_ble_eq_true rfl⟩ ⟨rfl, rfl⟩ rfl rfl (Nat.le_of_ble_eq_true rfl) ⟨Nat.le_of_ble_eq_true rfl, Nat.le_of_ble_eq_true rfl⟩ dX9_breachPeriod_2) hP hD hS hA hT hlocks (fun X u h => h) [0, 1, 2, 3, 4, 5, 6, 7, 8, 9, 10, 11, 12, 13, 14, 15, 16, 17, 18] [] [0, 1, 2, 3, 4, 5, 6, 7, 8, 9, 10, 11, 12, 13, 14, 15, 16, 17, 18] rfl (wr := []) rfl (by decide) (by decide) (fun u => rfl) (by decide) (by decide) (by decide) (fun u_1 H locs hw hP hD hS => ?_)
  have hP : va_P (zD E) vwCl (k_X9 E q0 u_1.1 ++ (k_X2 E (fun k => q0 (k + 1)) u_1.2)) H := hP
  have hD : va_D A (k_X9 E q0 u_1.1 ++ (k_X2 E (fun k => q0 (k + 1)) u_1.2)) := hD
  refine lv_aload_n hx hb dX9_breachPeriod_5 rfl (lv_at hl 0 rfl) ?_
  refine va_get (D := zD E) (ci := 9) (v := .ref (q0 1)) (C := RX9) (T := TX9) (N := 7) hx hb hts uw_X9 hown hK hP 0 rfl rfl 0 (by decide) (hts _ wm_2_109) (fun _ h9 => h9) rfl dX9_breachPeriod_6 ?_
  refine va_getN (D := zD E) (ci := 2) (v := .ref (q0 14)) (C := RX2) (T := TX2) (N := 3) hx hb hts uw_X2 hown hK hP 1 rfl rfl 2 (by decide) (hts _ wm_1_206) (fun _ h9 => h9) rfl dX9_breachPeriod_9 ?_
  refine va_getN (D := zD E) (ci := 1) (v := .ref (q0 15)) (C := RX1) (T := TX1) (N := 7) hx hb hts uw_X1 hown hK hP 14 rfl rfl 3 (by decide) (hts _ wm_1_175) (fun _ h9 => h9) rfl dX9_breachPeriod_12 ?_
  refine lv_iload_n hx hb dX9_breachPeriod_15 rfl (lv_at hl 1 rfl) ?_
  obtain ⟨h_3, hw⟩ := hw
  refine va_iald hx hb hK hP 15 0 rfl rfl h_3 dX9_breachPeriod_16 ?_
  refine W.widen (k := 1) (n := 6) (by decide) (by decide) ?_
  refine vx_ret ?_
  exact z_iret (k := (fun u => k_X9 E q0 u.1 ++ (k_X2 E (fun k => q0 (k + 1)) u.2))) (u_1.1, u_1.2) C0 hP hD hS hw dX9_breachPeriod_17
abbrev r_X9_breachKind : Room := { frames := 7, cells := 1, slots := 6, locals := 111 }
def wp_X9_breachKind (u0 : S_X9) (u1 : S_X2) (p1 : Int32) (post : Int32 → (S_X9 × S_X2) → Prop) (postX : String → (S_X9 × S_X2) → Prop) : Prop := wp_X9_checkBreach u0 u1 p1 (fun u_1 => vp_in p1 20 ∧ (post (u_1.2.2.2.2.2.2.2.1 p1.toNatClampNeg) (u_1.1, u_1.2))) (fun X u => postX X (u.1, u.2))
set_option maxHeartbeats 4000000 in
set_option maxRecDepth 100000 in
theorem c_X9_breachKind (l : Launch) (E : zE) (Z : zZ) (hZ0 : zSt Z) {sa : Nat → Nat} (hZs : zSS Z sa) (hlt : l.stackTraces = false) (hZe : ∀ A U H, Z A U H → zExc A U H) (q0 : Nat → Nat) (sz : Nat) (u0 : S_X9) (u1 : S_X2) (p1 : Int32) (post : Int32 → (S_X9 × S_X2) → Prop) (postX : String → (S_X9 × S_X2) → Prop) (hw : wp_X9_breachKind u0 u1 p1 post postX) : vx_Met l yX9_breachKind (zws yX9_breachKind cX9_breachKind 2 (some .int)) r_X9_breachKind (va_Pc [.ref (q0 0), .int p1] (zPre Z E (k_X9 E q0 u0 ++ (k_X2 E (fun k => q0 (k + 1)) u1)) sz)) (va_Qi post (zAt E (va_A (k_X9 E q0 u0 ++ (k_X2 E (fun k => q0 (k + 1)) u1)) sz) (fun u => k_X9 E q0 u.1 ++ (k_X2 E (fun k => q0 (k + 1)) u.2))) (va_A (k_X9 E q0 u0 ++ (k_X2 E (fun k => q0 (k + 1)) u1)) sz)) (zXC E (va_A (k_X9 E q0 u0 ++ (k_X2 E (fun k => q0 (k + 1)) u1)) sz) (fun u => k_X9 E q0 u.1 ++ (k_X2 E (fun k => q0 (k + 1)) u.2)) postX) 1 6 (va_A (k_X9 E q0 u0 ++ (k_X2 E (fun k => q0 (k + 1)) u1)) sz) := by
  refine z_ofX (y := yX9_breachKind) (cc := cX9_breachKind) (maxL := 2) (ret := (some .int)) (av := [.ref (q0 0), .int p1]) (w := k_X9 E q0 u0 ++ (k_X2 E (fun k => q0 (k + 1)) u1)) (Qf := fun A => va_Qi post (zAt E A (fun u => k_X9 E q0 u.1 ++ (k_X2 E (fun k => q0 (k + 1)) u.2))) A) (Xf := fun A => zXC E A (fun u => k_X9 E q0 u.1 ++ (k_X2 E (fun k => q0 (k + 1)) u.2)) postX) (by decide) (Nat.le_of_ble_eq_true rfl) ?_
  intro p e s m args below meth c A ls C0 hT hA hK hZ hP hD hS hl
  obtain ⟨hx, hb, hml, hr, hown, hts, hlocks, hin⟩ := id C0
  have hown : s.vm.findClass RX9 = some m.cls := hown
  have hl : lv_has ls 2 [(0, .ref (q0 0)), (1, .int p1)] := hl
  refine lv_aload_n hx hb dX9_breachKind_0 rfl (lv_at hl 0 rfl) ?_
  refine lv_iload_n hx hb dX9_breachKind_1 rfl (lv_at hl 1 rfl) ?_
  refine z_xkv (R := r_X9_breachKind) (cells := 0) (slots := 0) (mc9 := 1) (ms9 := 6) (kT := (fun u => k_X9 E q0 u.1 ++ (k_X2 E (fun k => q0 (k + 1)) u.2))) (fun u => (u.1, u.2)) (z_xV (rest := []) hZ0 C0 hK hZ hA hP hD hS hl.1 (c_X9_checkBreach l E Z hZ0 hZs hlt hZe q0 s.heap.size u0 u1 p1 _ _ hw) yv_X9_165 [0, 1, 2, 3, 4, 5, 6, 7, 8, 9, 10, 11, 12, 13, 14, 15, 16, 17, 18] rfl (by decide) (ci := 9) rfl rfl 0 rfl ⟨Nat.le_of_ble_eq_true rfl, Nat.le_of_ble_eq_true rfl⟩ ⟨rfl, rfl⟩ rfl rfl (Nat.le_of_ble_eq_true rfl) ⟨Nat.le_of_ble_eq_true rfl, Nat.le_of_ble_eq_true rfl⟩ dX9_breachKind_2) hP hD hS hA hT hlocks (fun X u h => h) [0, 1, 2, 3, 4, 5, 6, 7, 8, 9, 10, 11, 12, 13, 14, 15, 16, 17, 18] [] [0, 1, 2, 3, 4, 5, 6, 7, 8, 9, 10, 11, 12, 13, 14, 15, 16, 17, 18] rfl (wr := []) rfl (by decide) (by decide) (fun u => rfl) (by decide) (by decide) (by decide) (fun u_1 H locs hw hP hD hS => ?_)
  have hP : va_P (zD E) vwCl (k_X9 E q0 u_1.1 ++ (k_X2 E (fun k => q0 (k + 1)) u_1.2)) H := hP
  have hD : va_D A (k_X9 E q0 u_1.1 ++ (k_X2 E (fun k => q0 (k + 1)) u_1.2)) := hD
  refine lv_aload_n hx hb dX9_breachKind_5 rfl (lv_at hl 0 rfl) ?_
  refine va_get (D := zD E) (ci := 9) (v := .ref (q0 1)) (C := RX9) (T := TX9) (N := 7) hx hb hts uw_X9 hown hK hP 0 rfl rfl 0 (by decide) (hts _ wm_2_109) (fun _ h9 => h9) rfl dX9_breachKind_6 ?_
  refine va_getN (D := zD E) (ci := 2) (v := .ref (q0 14)) (C := RX2) (T := TX2) (N := 3) hx hb hts uw_X2 hown hK hP 1 rfl rfl 2 (by decide) (hts _ wm_1_206) (fun _ h9 => h9) rfl dX9_breachKind_9 ?_
  refine va_getN (D := zD E) (ci := 1) (v := .ref (q0 16)) (C := RX1) (T := TX1) (N := 7) hx hb hts uw_X1 hown hK hP 14 rfl rfl 4 (by decide) (hts _ wm_1_177) (fun _ h9 => h9) rfl dX9_breachKind_12 ?_
  refine lv_iload_n hx hb dX9_breachKind_15 rfl (lv_at hl 1 rfl) ?_
  obtain ⟨h_3, hw⟩ := hw
  refine va_iald hx hb hK hP 16 0 rfl rfl h_3 dX9_breachKind_16 ?_
  refine W.widen (k := 1) (n := 6) (by decide) (by decide) ?_
  refine vx_ret ?_
  exact z_iret (k := (fun u => k_X9 E q0 u.1 ++ (k_X2 E (fun k => q0 (k + 1)) u.2))) (u_1.1, u_1.2) C0 hP hD hS hw dX9_breachKind_17
abbrev r_X9_breachPenalty : Room := { frames := 7, cells := 1, slots := 6, locals := 111 }
def wp_X9_breachPenalty (u0 : S_X9) (u1 : S_X2) (p1 : Int32) (post : Int32 → (S_X9 × S_X2) → Prop) (postX : String → (S_X9 × S_X2) → Prop) : Prop := wp_X9_checkBreach u0 u1 p1 (fun u_1 => vp_in p1 20 ∧ (post (u_1.2.2.2.2.2.2.2.2.1 p1.toNatClampNeg) (u_1.1, u_1.2))) (fun X u => postX X (u.1, u.2))
set_option maxHeartbeats 4000000 in
set_option maxRecDepth 100000 in
theorem c_X9_breachPenalty (l : Launch) (E : zE) (Z : zZ) (hZ0 : zSt Z) {sa : Nat → Nat} (hZs : zSS Z sa) (hlt : l.stackTraces = false) (hZe : ∀ A U H, Z A U H → zExc A U H) (q0 : Nat → Nat) (sz : Nat) (u0 : S_X9) (u1 : S_X2) (p1 : Int32) (post : Int32 → (S_X9 × S_X2) → Prop) (postX : String → (S_X9 × S_X2) → Prop) (hw : wp_X9_breachPenalty u0 u1 p1 post postX) : vx_Met l yX9_breachPenalty (zws yX9_breachPenalty cX9_breachPenalty 2 (some .int)) r_X9_breachPenalty (va_Pc [.ref (q0 0), .int p1] (zPre Z E (k_X9 E q0 u0 ++ (k_X2 E (fun k => q0 (k + 1)) u1)) sz)) (va_Qi post (zAt E (va_A (k_X9 E q0 u0 ++ (k_X2 E (fun k => q0 (k + 1)) u1)) sz) (fun u => k_X9 E q0 u.1 ++ (k_X2 E (fun k => q0 (k + 1)) u.2))) (va_A (k_X9 E q0 u0 ++ (k_X2 E (fun k => q0 (k + 1)) u1)) sz)) (zXC E (va_A (k_X9 E q0 u0 ++ (k_X2 E (fun k => q0 (k + 1)) u1)) sz) (fun u => k_X9 E q0 u.1 ++ (k_X2 E (fun k => q0 (k + 1)) u.2)) postX) 1 6 (va_A (k_X9 E q0 u0 ++ (k_X2 E (fun k => q0 (k + 1)) u1)) sz) := by
  refine z_ofX (y := yX9_breachPenalty) (cc := cX9_breachPenalty) (maxL := 2) (ret := (some .int)) (av := [.ref (q0 0), .int p1]) (w := k_X9 E q0 u0 ++ (k_X2 E (fun k => q0 (k + 1)) u1)) (Qf := fun A => va_Qi post (zAt E A (fun u => k_X9 E q0 u.1 ++ (k_X2 E (fun k => q0 (k + 1)) u.2))) A) (Xf := fun A => zXC E A (fun u => k_X9 E q0 u.1 ++ (k_X2 E (fun k => q0 (k + 1)) u.2)) postX) (by decide) (Nat.le_of_ble_eq_true rfl) ?_
  intro p e s m args below meth c A ls C0 hT hA hK hZ hP hD hS hl
  obtain ⟨hx, hb, hml, hr, hown, hts, hlocks, hin⟩ := id C0
  have hown : s.vm.findClass RX9 = some m.cls := hown
  have hl : lv_has ls 2 [(0, .ref (q0 0)), (1, .int p1)] := hl
  refine lv_aload_n hx hb dX9_breachPenalty_0 rfl (lv_at hl 0 rfl) ?_
  refine lv_iload_n hx hb dX9_breachPenalty_1 rfl (lv_at hl 1 rfl) ?_
  refine z_xkv (R := r_X9_breachPenalty) (cells := 0) (slots := 0) (mc9 := 1) (ms9 := 6) (kT := (fun u => k_X9 E q0 u.1 ++ (k_X2 E (fun k => q0 (k + 1)) u.2))) (fun u => (u.1, u.2)) (z_xV (rest := []) hZ0 C0 hK hZ hA hP hD hS hl.1 (c_X9_checkBreach l E Z hZ0 hZs hlt hZe q0 s.heap.size u0 u1 p1 _ _ hw) yv_X9_165 [0, 1, 2, 3, 4, 5, 6, 7, 8, 9, 10, 11, 12, 13, 14, 15, 16, 17, 18] rfl (by decide) (ci := 9) rfl rfl 0 rfl ⟨Nat.le_of_ble_eq_true rfl, Nat.le_of_ble_eq_true rfl⟩ ⟨rfl, rfl⟩ rfl rfl (Nat.le_of_ble_eq_true rfl) ⟨Nat.le_of_ble_eq_true rfl, Nat.le_of_ble_eq_true rfl⟩ dX9_breachPenalty_2) hP hD hS hA hT hlocks (fun X u h => h) [0, 1, 2, 3, 4, 5, 6, 7, 8, 9, 10, 11, 12, 13, 14, 15, 16, 17, 18] [] [0, 1, 2, 3, 4, 5, 6, 7, 8, 9, 10, 11, 12, 13, 14, 15, 16, 17, 18] rfl (wr := []) rfl (by decide) (by decide) (fun u => rfl) (by decide) (by decide) (by decide) (fun u_1 H locs hw hP hD hS => ?_)
  have hP : va_P (zD E) vwCl (k_X9 E q0 u_1.1 ++ (k_X2 E (fun k => q0 (k + 1)) u_1.2)) H := hP
  have hD : va_D A (k_X9 E q0 u_1.1 ++ (k_X2 E (fun k => q0 (k + 1)) u_1.2)) := hD
  refine lv_aload_n hx hb dX9_breachPenalty_5 rfl (lv_at hl 0 rfl) ?_
  refine va_get (D := zD E) (ci := 9) (v := .ref (q0 1)) (C := RX9) (T := TX9) (N := 7) hx hb hts uw_X9 hown hK hP 0 rfl rfl 0 (by decide) (hts _ wm_2_109) (fun _ h9 => h9) rfl dX9_breachPenalty_6 ?_
  refine va_getN (D := zD E) (ci := 2) (v := .ref (q0 14)) (C := RX2) (T := TX2) (N := 3) hx hb hts uw_X2 hown hK hP 1 rfl rfl 2 (by decide) (hts _ wm_1_206) (fun _ h9 => h9) rfl dX9_breachPenalty_9 ?_
  refine va_getN (D := zD E) (ci := 1) (v := .ref (q0 17)) (C := RX1) (T := TX1) (N := 7) hx hb hts uw_X1 hown hK hP 14 rfl rfl 5 (by decide) (hts _ wm_1_180) (fun _ h9 => h9) rfl dX9_breachPenalty_12 ?_
  refine lv_iload_n hx hb dX9_breachPenalty_15 rfl (lv_at hl 1 rfl) ?_
  obtain ⟨h_3, hw⟩ := hw
  refine va_iald hx hb hK hP 17 0 rfl rfl h_3 dX9_breachPenalty_16 ?_
  refine W.widen (k := 1) (n := 6) (by decide) (by decide) ?_
  refine vx_ret ?_
  exact z_iret (k := (fun u => k_X9 E q0 u.1 ++ (k_X2 E (fun k => q0 (k + 1)) u.2))) (u_1.1, u_1.2) C0 hP hD hS hw dX9_breachPenalty_17
abbrev r_X9_isWaived : Room := { frames := 7, cells := 1, slots := 6, locals := 111 }
def wp_X9_isWaived (u0 : S_X9) (u1 : S_X2) (p1 : Int32) (post : Int32 → (S_X9 × S_X2) → Prop) (postX : String → (S_X9 × S_X2) → Prop) : Prop := wp_X9_checkBreach u0 u1 p1 (fun u_1 => vp_in p1 20 ∧ ((narrow .boolean (.int (u_1.2.2.2.2.2.2.2.2.2 p1.toNatClampNeg)) = .int (u_1.2.2.2.2.2.2.2.2.2 p1.toNatClampNeg)) ∧ (post (u_1.2.2.2.2.2.2.2.2.2 p1.toNatClampNeg) (u_1.1, u_1.2)))) (fun X u => postX X (u.1, u.2))
set_option maxHeartbeats 4000000 in
set_option maxRecDepth 100000 in
theorem c_X9_isWaived (l : Launch) (E : zE) (Z : zZ) (hZ0 : zSt Z) {sa : Nat → Nat} (hZs : zSS Z sa) (hlt : l.stackTraces = false) (hZe : ∀ A U H, Z A U H → zExc A U H) (q0 : Nat → Nat) (sz : Nat) (u0 : S_X9) (u1 : S_X2) (p1 : Int32) (post : Int32 → (S_X9 × S_X2) → Prop) (postX : String → (S_X9 × S_X2) → Prop) (hw : wp_X9_isWaived u0 u1 p1 post postX) : vx_Met l yX9_isWaived (zws yX9_isWaived cX9_isWaived 2 (some .boolean)) r_X9_isWaived (va_Pc [.ref (q0 0), .int p1] (zPre Z E (k_X9 E q0 u0 ++ (k_X2 E (fun k => q0 (k + 1)) u1)) sz)) (va_Qi post (zAt E (va_A (k_X9 E q0 u0 ++ (k_X2 E (fun k => q0 (k + 1)) u1)) sz) (fun u => k_X9 E q0 u.1 ++ (k_X2 E (fun k => q0 (k + 1)) u.2))) (va_A (k_X9 E q0 u0 ++ (k_X2 E (fun k => q0 (k + 1)) u1)) sz)) (zXC E (va_A (k_X9 E q0 u0 ++ (k_X2 E (fun k => q0 (k + 1)) u1)) sz) (fun u => k_X9 E q0 u.1 ++ (k_X2 E (fun k => q0 (k + 1)) u.2)) postX) 1 6 (va_A (k_X9 E q0 u0 ++ (k_X2 E (fun k => q0 (k + 1)) u1)) sz) := by
  refine z_ofX (y := yX9_isWaived) (cc := cX9_isWaived) (maxL := 2) (ret := (some .boolean)) (av := [.ref (q0 0), .int p1]) (w := k_X9 E q0 u0 ++ (k_X2 E (fun k => q0 (k + 1)) u1)) (Qf := fun A => va_Qi post (zAt E A (fun u => k_X9 E q0 u.1 ++ (k_X2 E (fun k => q0 (k + 1)) u.2))) A) (Xf := fun A => zXC E A (fun u => k_X9 E q0 u.1 ++ (k_X2 E (fun k => q0 (k + 1)) u.2)) postX) (by decide) (Nat.le_of_ble_eq_true rfl) ?_
  intro p e s m args below meth c A ls C0 hT hA hK hZ hP hD hS hl
  obtain ⟨hx, hb, hml, hr, hown, hts, hlocks, hin⟩ := id C0
  have hown : s.vm.findClass RX9 = some m.cls := hown
  have hl : lv_has ls 2 [(0, .ref (q0 0)), (1, .int p1)] := hl
  refine lv_aload_n hx hb dX9_isWaived_0 rfl (lv_at hl 0 rfl) ?_
  refine lv_iload_n hx hb dX9_isWaived_1 rfl (lv_at hl 1 rfl) ?_
  refine z_xkv (R := r_X9_isWaived) (cells := 0) (slots := 0) (mc9 := 1) (ms9 := 6) (kT := (fun u => k_X9 E q0 u.1 ++ (k_X2 E (fun k => q0 (k + 1)) u.2))) (fun u => (u.1, u.2)) (z_xV (rest := []) hZ0 C0 hK hZ hA hP hD hS hl.1 (c_X9_checkBreach l E Z hZ0 hZs hlt hZe q0 s.heap.size u0 u1 p1 _ _ hw) yv_X9_165 [0, 1, 2, 3, 4, 5, 6, 7, 8, 9, 10, 11, 12, 13, 14, 15, 16, 17, 18] rfl (by decide) (ci := 9) rfl rfl 0 rfl ⟨Nat.le_of_ble_eq_true rfl, Nat.le_of_ble_eq_true rfl⟩ ⟨rfl, rfl⟩ rfl rfl (Nat.le_of_ble_eq_true rfl) ⟨Nat.le_of_ble_eq_true rfl, Nat.le_of_ble_eq_true rfl⟩ dX9_isWaived_2) hP hD hS hA hT hlocks (fun X u h => h) [0, 1, 2, 3, 4, 5, 6, 7, 8, 9, 10, 11, 12, 13, 14, 15, 16, 17, 18] [] [0, 1, 2, 3, 4, 5, 6, 7, 8, 9, 10, 11, 12, 13, 14, 15, 16, 17, 18] rfl (wr := []) rfl (by decide) (by decide) (fun u => rfl) (by decide) (by decide) (by decide) (fun u_1 H locs hw hP hD hS => ?_)
  have hP : va_P (zD E) vwCl (k_X9 E q0 u_1.1 ++ (k_X2 E (fun k => q0 (k + 1)) u_1.2)) H := hP
  have hD : va_D A (k_X9 E q0 u_1.1 ++ (k_X2 E (fun k => q0 (k + 1)) u_1.2)) := hD
  refine lv_aload_n hx hb dX9_isWaived_5 rfl (lv_at hl 0 rfl) ?_
  refine va_get (D := zD E) (ci := 9) (v := .ref (q0 1)) (C := RX9) (T := TX9) (N := 7) hx hb hts uw_X9 hown hK hP 0 rfl rfl 0 (by decide) (hts _ wm_2_109) (fun _ h9 => h9) rfl dX9_isWaived_6 ?_
  refine va_getN (D := zD E) (ci := 2) (v := .ref (q0 14)) (C := RX2) (T := TX2) (N := 3) hx hb hts uw_X2 hown hK hP 1 rfl rfl 2 (by decide) (hts _ wm_1_206) (fun _ h9 => h9) rfl dX9_isWaived_9 ?_
  refine va_getN (D := zD E) (ci := 1) (v := .ref (q0 18)) (C := RX1) (T := TX1) (N := 7) hx hb hts uw_X1 hown hK hP 14 rfl rfl 6 (by decide) (hts _ wm_1_182) (fun _ h9 => h9) rfl dX9_isWaived_12 ?_
  refine lv_iload_n hx hb dX9_isWaived_15 rfl (lv_at hl 1 rfl) ?_
  obtain ⟨h_3, hw⟩ := hw
  refine va_zald hx hb hK hP 18 2 rfl rfl h_3 dX9_isWaived_16 ?_
  refine W.widen (k := 1) (n := 6) (by decide) (by decide) ?_
  refine vx_ret ?_
  obtain ⟨h_4, hw⟩ := hw
  exact z_zret (k := (fun u => k_X9 E q0 u.1 ++ (k_X2 E (fun k => q0 (k + 1)) u.2))) (u_1.1, u_1.2) C0 h_4 hP hD hS hw dX9_isWaived_17
abbrev r_X9_bestWaiver : Room := { frames := 18, cells := 1, slots := 6, locals := 828 }
def wp_X9_bestWaiver (u0 : S_X9) (u1 : S_X2) (u2 : S_X8) (p1 : Int32) (post : Int32 → (S_X9 × S_X2 × S_X8) → Prop) (postX : String → (S_X9 × S_X2 × S_X8) → Prop) : Prop := (0 ≤ p1 → (wp_X8_run u2 u1.1 u1.2.2 (fun u_2 => wp_X8_breachAt u_2.1 p1 (fun r_5 u_4 => post r_5 (u0, (u_2.2.1, u1.2.1, u_2.2.2), u_4))))) ∧ (¬ (0 ≤ p1) → (postX "java/lang/IllegalArgumentException" (u0, u1, u2)))
set_option maxHeartbeats 4000000 in
set_option maxRecDepth 100000 in
theorem c_X9_bestWaiver (l : Launch) (E : zE) (Z : zZ) (hZ0 : zSt Z) {sa : Nat → Nat} (hZs : zSS Z sa) (hlt : l.stackTraces = false) (hZe : ∀ A U H, Z A U H → zExc A U H) (q0 : Nat → Nat) (sz : Nat) (u0 : S_X9) (u1 : S_X2) (u2 : S_X8) (p1 : Int32) (post : Int32 → (S_X9 × S_X2 × S_X8) → Prop) (postX : String → (S_X9 × S_X2 × S_X8) → Prop) (hw : wp_X9_bestWaiver u0 u1 u2 p1 post postX) : vx_Met l yX9_bestWaiver (zws yX9_bestWaiver cX9_bestWaiver 2 (some .int)) r_X9_bestWaiver (va_Pc [.ref (q0 0), .int p1] (zPre Z E (k_X9 E q0 u0 ++ (k_X2 E (fun k => q0 (k + 1)) u1 ++ (k_X8 E (fun k => q0 (k + 43)) u2))) sz)) (va_Qi post (zAt E (va_A (k_X9 E q0 u0 ++ (k_X2 E (fun k => q0 (k + 1)) u1 ++ (k_X8 E (fun k => q0 (k + 43)) u2))) sz) (fun u => k_X9 E q0 u.1 ++ (k_X2 E (fun k => q0 (k + 1)) u.2.1 ++ (k_X8 E (fun k => q0 (k + 43)) u.2.2)))) (va_A (k_X9 E q0 u0 ++ (k_X2 E (fun k => q0 (k + 1)) u1 ++ (k_X8 E (fun k => q0 (k + 43)) u2))) sz)) (zXC E (va_A (k_X9 E q0 u0 ++ (k_X2 E (fun k => q0 (k + 1)) u1 ++ (k_X8 E (fun k => q0 (k + 43)) u2))) sz) (fun u => k_X9 E q0 u.1 ++ (k_X2 E (fun k => q0 (k + 1)) u.2.1 ++ (k_X8 E (fun k => q0 (k + 43)) u.2.2))) postX) 1 6 (va_A (k_X9 E q0 u0 ++ (k_X2 E (fun k => q0 (k + 1)) u1 ++ (k_X8 E (fun k => q0 (k + 43)) u2))) sz) := by
  refine z_ofX (y := yX9_bestWaiver) (cc := cX9_bestWaiver) (maxL := 2) (ret := (some .int)) (av := [.ref (q0 0), .int p1]) (w := k_X9 E q0 u0 ++ (k_X2 E (fun k => q0 (k + 1)) u1 ++ (k_X8 E (fun k => q0 (k + 43)) u2))) (Qf := fun A => va_Qi post (zAt E A (fun u => k_X9 E q0 u.1 ++ (k_X2 E (fun k => q0 (k + 1)) u.2.1 ++ (k_X8 E (fun k => q0 (k + 43)) u.2.2)))) A) (Xf := fun A => zXC E A (fun u => k_X9 E q0 u.1 ++ (k_X2 E (fun k => q0 (k + 1)) u.2.1 ++ (k_X8 E (fun k => q0 (k + 43)) u.2.2))) postX) (by decide) (Nat.le_of_ble_eq_true rfl) ?_
  intro p e s m args below meth c A ls C0 hT hA hK hZ hP hD hS hl
  obtain ⟨hx, hb, hml, hr, hown, hts, hlocks, hin⟩ := id C0
  have hown : s.vm.findClass RX9 = some m.cls := hown
  have hl : lv_has ls 2 [(0, .ref (q0 0)), (1, .int p1)] := hl
  refine lv_iload_n hx hb dX9_bestWaiver_0 rfl (lv_at hl 1 rfl) ?_
  obtain ⟨hwt, hwf⟩ := hw
  refine lv_if_ge (tgt := 14) hx hb dX9_bestWaiver_1 (by decide) (fun c_1 => ?_) (fun c_1 => ?_)
  · have hw := hwt c_1
    refine lv_aload_n hx hb dX9_bestWaiver_14 rfl (lv_at hl 0 rfl) ?_
    refine va_get (D := zD E) (ci := 9) (v := .ref (q0 43)) (C := RX9) (T := TX9) (N := 7) hx hb hts uw_X9 hown hK hP 0 rfl rfl 4 (by decide) (hts _ wm_2_113) (fun _ h9 => h9) rfl dX9_bestWaiver_15 ?_
    refine lv_aload_n hx hb dX9_bestWaiver_18 rfl (lv_at hl 0 rfl) ?_
    refine va_get (D := zD E) (ci := 9) (v := .ref (q0 1)) (C := RX9) (T := TX9) (N := 7) hx hb hts uw_X9 hown hK hP 0 rfl rfl 0 (by decide) (hts _ wm_2_109) (fun _ h9 => h9) rfl dX9_bestWaiver_19 ?_
    refine va_getN (D := zD E) (ci := 2) (v := .ref (q0 2)) (C := RX2) (T := TX2) (N := 3) hx hb hts uw_X2 hown hK hP 1 rfl rfl 0 (by decide) (hts _ wm_1_201) (fun _ h9 => h9) rfl dX9_bestWaiver_22 ?_
    refine lv_aload_n hx hb dX9_bestWaiver_25 rfl (lv_at hl 0 rfl) ?_
    refine va_get (D := zD E) (ci := 9) (v := .ref (q0 1)) (C := RX9) (T := TX9) (N := 7) hx hb hts uw_X9 hown hK hP 0 rfl rfl 0 (by decide) (hts _ wm_2_109) (fun _ h9 => h9) rfl dX9_bestWaiver_26 ?_
    refine va_getN (D := zD E) (ci := 2) (v := .ref (q0 14)) (C := RX2) (T := TX2) (N := 3) hx hb hts uw_X2 hown hK hP 1 rfl rfl 2 (by decide) (hts _ wm_1_206) (fun _ h9 => h9) rfl dX9_bestWaiver_29 ?_
    refine z_kv (z_rN (rest := []) hZ0 C0 hK hZ hA hP hD hS hl.1 (c_X8_run l E Z hZ0 (fun k => q0 (k + 43)) (fun k => q0 (k + 2)) (fun k => q0 (k + 14)) s.heap.size u2 u1.1 u1.2.2 _ hw) yv_X9_186 [19, 20, 21, 22, 2, 3, 4, 5, 6, 14, 15, 16, 17, 18] rfl (by decide) (ci := 8) rfl rfl 19 rfl ⟨Nat.le_of_ble_eq_true rfl, Nat.le_of_ble_eq_true rfl⟩ ⟨rfl, rfl⟩ rfl rfl (Nat.le_of_ble_eq_true rfl) ⟨Nat.le_of_ble_eq_true rfl, Nat.le_of_ble_eq_true rfl⟩ dX9_bestWaiver_32) hP hD hS hA [19, 20, 21, 22, 2, 3, 4, 5, 6, 14, 15, 16, 17, 18] [0, 1, 7, 8, 9, 10, 11, 12, 13] [0, 1, 13, 14, 15, 16, 17, 2, 3, 4, 5, 6, 7, 8, 18, 19, 20, 21, 22, 9, 10, 11, 12] rfl (wr := [_, _, _, _, _, _, _, _, _]) rfl (by decide) (by decide) (fun u => k_X9 E q0 u0 ++ (k_X2 E (fun k => q0 (k + 1)) (u.2.1, u1.2.1, u.2.2) ++ (k_X8 E (fun k => q0 (k + 43)) u.1))) (fun u => rfl) (by decide) (fun u_2 H locs hw hP hD hS => ?_)
    refine lv_aload_n hx hb dX9_bestWaiver_35 rfl (lv_at hl 0 rfl) ?_
    refine va_get (D := zD E) (ci := 9) (v := .ref (q0 43)) (C := RX9) (T := TX9) (N := 7) hx hb hts uw_X9 hown hK hP 0 rfl rfl 4 (by decide) (hts _ wm_2_113) (fun _ h9 => h9) rfl dX9_bestWaiver_36 ?_
    refine lv_iload_n hx hb dX9_bestWaiver_39 rfl (lv_at hl 1 rfl) ?_
    refine z_ki (z_rN (rest := []) hZ0 C0 hK hZ hA hP hD hS hl.1 (c_X8_breachAt l E Z hZ0 (fun k => q0 (k + 43)) H.size u_2.1 p1 _ hw) yv_X9_195 [19, 20, 21, 22] rfl (by decide) (ci := 8) rfl rfl 19 rfl ⟨Nat.le_of_ble_eq_true rfl, Nat.le_of_ble_eq_true rfl⟩ ⟨rfl, rfl⟩ rfl rfl (Nat.le_of_ble_eq_true rfl) ⟨Nat.le_of_ble_eq_true rfl, Nat.le_of_ble_eq_true rfl⟩ dX9_bestWaiver_40) hP hD hS hA [19, 20, 21, 22] [0, 1, 2, 3, 4, 5, 6, 7, 8, 9, 10, 11, 12, 13, 14, 15, 16, 17, 18] [0, 1, 2, 3, 4, 5, 6, 7, 8, 9, 10, 11, 12, 13, 14, 15, 16, 17, 18, 19, 20, 21, 22] rfl (wr := [_, _, _, _, _, _, _, _, _, _, _, _, _, _, _, _, _, _, _]) rfl (by decide) (by decide) (fun u => k_X9 E q0 u0 ++ (k_X2 E (fun k => q0 (k + 1)) (u_2.2.1, u1.2.1, u_2.2.2) ++ (k_X8 E (fun k => q0 (k + 43)) u))) (fun u => rfl) (by decide) (fun r_5 u_4 H locs hw hP hD hS => ?_)
    refine W.widen (k := 1) (n := 6) (by decide) (by decide) ?_
    refine vx_ret ?_
    exact z_iret (k := (fun u => k_X9 E q0 u.1 ++ (k_X2 E (fun k => q0 (k + 1)) u.2.1 ++ (k_X8 E (fun k => q0 (k + 43)) u.2.2)))) (u0, (u_2.2.1, u1.2.1, u_2.2.2), u_4) C0 hP hD hS hw dX9_bestWaiver_43
  · have hw := hwf c_1
    refine z_thr_IAE (Z := Z) (k := (fun u => k_X9 E q0 u.1 ++ (k_X2 E (fun k => q0 (k + 1)) u.2.1 ++ (k_X8 E (fun k => q0 (k + 43)) u.2.2)))) (u0, u1, u2) C0 rfl hT hlt (hZe _ _ _ hZ) (zsk_1 hZs hZ) hP hD hS hl.1 hw dX9_bestWaiver_4 dX9_bestWaiver_7 dX9_bestWaiver_8 dX9_bestWaiver_10 dX9_bestWaiver_13 ?_ ?_ ?_ ?_ ?_ ?_ <;> decide
abbrev r_X9_bestReserved : Room := { frames := 6, cells := 1, slots := 6, locals := 155 }
def wp_X9_bestReserved (u0 : S_X9) (u1 : S_X2) (u2 : S_X0) (u3 : S_X0) (p1 : Int32) (post : Int32 → (S_X9 × S_X2 × S_X0 × S_X0) → Prop) (postX : String → (S_X9 × S_X2 × S_X0 × S_X0) → Prop) : Prop := (p1 < 0 → (postX "java/lang/IllegalArgumentException" (u0, u1, u2, u3))) ∧ (¬ (p1 < 0) → ((p1 ≤ (500 : Int32) → (((u1.2.1.1 + (1 : Int32)) < u1.1.1 → (wp_X9_cheapestLevel u0 u1 u2 u3 p1 (fun r_5 u_4 => post r_5 (u_4.1, u_4.2.1, u_4.2.2.1, u_4.2.2.2)))) ∧ (¬ ((u1.2.1.1 + (1 : Int32)) < u1.1.1) → (postX "java/lang/IllegalStateException" (u0, u1, u2, u3))))) ∧ (¬ (p1 ≤ (500 : Int32)) → (postX "java/lang/IllegalArgumentException" (u0, u1, u2, u3)))))
set_option maxHeartbeats 4000000 in
set_option maxRecDepth 100000 in
theorem c_X9_bestReserved (l : Launch) (E : zE) (Z : zZ) (hZ0 : zSt Z) {sa : Nat → Nat} (hZs : zSS Z sa) (hlt : l.stackTraces = false) (hZe : ∀ A U H, Z A U H → zExc A U H) (q0 : Nat → Nat) (sz : Nat) (u0 : S_X9) (u1 : S_X2) (u2 : S_X0) (u3 : S_X0) (p1 : Int32) (post : Int32 → (S_X9 × S_X2 × S_X0 × S_X0) → Prop) (postX : String → (S_X9 × S_X2 × S_X0 × S_X0) → Prop) (hw : wp_X9_bestReserved u0 u1 u2 u3 p1 post postX) : vx_Met l yX9_bestReserved (zws yX9_bestReserved cX9_bestReserved 2 (some .int)) r_X9_bestReserved (va_Pc [.ref (q0 0), .int p1] (zPre Z E (k_X9 E q0 u0 ++ (k_X2 E (fun k => q0 (k + 1)) u1 ++ (k_X0 E (fun k => q0 (k + 47)) u2 ++ (k_X0 E (fun k => q0 (k + 54)) u3)))) sz)) (va_Qi post (zAt E (va_A (k_X9 E q0 u0 ++ (k_X2 E (fun k => q0 (k + 1)) u1 ++ (k_X0 E (fun k => q0 (k + 47)) u2 ++ (k_X0 E (fun k => q0 (k + 54)) u3)))) sz) (fun u => k_X9 E q0 u.1 ++ (k_X2 E (fun k => q0 (k + 1)) u.2.1 ++ (k_X0 E (fun k => q0 (k + 47)) u.2.2.1 ++ (k_X0 E (fun k => q0 (k + 54)) u.2.2.2))))) (va_A (k_X9 E q0 u0 ++ (k_X2 E (fun k => q0 (k + 1)) u1 ++ (k_X0 E (fun k => q0 (k + 47)) u2 ++ (k_X0 E (fun k => q0 (k + 54)) u3)))) sz)) (zXC E (va_A (k_X9 E q0 u0 ++ (k_X2 E (fun k => q0 (k + 1)) u1 ++ (k_X0 E (fun k => q0 (k + 47)) u2 ++ (k_X0 E (fun k => q0 (k + 54)) u3)))) sz) (fun u => k_X9 E q0 u.1 ++ (k_X2 E (fun k => q0 (k + 1)) u.2.1 ++ (k_X0 E (fun k => q0 (k + 47)) u.2.2.1 ++ (k_X0 E (fun k => q0 (k + 54)) u.2.2.2)))) postX) 1 6 (va_A (k_X9 E q0 u0 ++ (k_X2 E (fun k => q0 (k + 1)) u1 ++ (k_X0 E (fun k => q0 (k + 47)) u2 ++ (k_X0 E (fun k => q0 (k + 54)) u3)))) sz) := by
  refine z_ofX (y := yX9_bestReserved) (cc := cX9_bestReserved) (maxL := 2) (ret := (some .int)) (av := [.ref (q0 0), .int p1]) (w := k_X9 E q0 u0 ++ (k_X2 E (fun k => q0 (k + 1)) u1 ++ (k_X0 E (fun k => q0 (k + 47)) u2 ++ (k_X0 E (fun k => q0 (k + 54)) u3)))) (Qf := fun A => va_Qi post (zAt E A (fun u => k_X9 E q0 u.1 ++ (k_X2 E (fun k => q0 (k + 1)) u.2.1 ++ (k_X0 E (fun k => q0 (k + 47)) u.2.2.1 ++ (k_X0 E (fun k => q0 (k + 54)) u.2.2.2))))) A) (Xf := fun A => zXC E A (fun u => k_X9 E q0 u.1 ++ (k_X2 E (fun k => q0 (k + 1)) u.2.1 ++ (k_X0 E (fun k => q0 (k + 47)) u.2.2.1 ++ (k_X0 E (fun k => q0 (k + 54)) u.2.2.2)))) postX) (by decide) (Nat.le_of_ble_eq_true rfl) ?_
  intro p e s m args below meth c A ls C0 hT hA hK hZ hP hD hS hl
  obtain ⟨hx, hb, hml, hr, hown, hts, hlocks, hin⟩ := id C0
  have hown : s.vm.findClass RX9 = some m.cls := hown
  have hl : lv_has ls 2 [(0, .ref (q0 0)), (1, .int p1)] := hl
  refine lv_iload_n hx hb dX9_bestReserved_0 rfl (lv_at hl 1 rfl) ?_
  obtain ⟨hwt, hwf⟩ := hw
  refine lv_if_lt (tgt := 11) hx hb dX9_bestReserved_1 (by decide) (fun c_1 => ?_) (fun c_1 => ?_)
  · have hw := hwt c_1
    refine z_thr_IAE (Z := Z) (k := (fun u => k_X9 E q0 u.1 ++ (k_X2 E (fun k => q0 (k + 1)) u.2.1 ++ (k_X0 E (fun k => q0 (k + 47)) u.2.2.1 ++ (k_X0 E (fun k => q0 (k + 54)) u.2.2.2))))) (u0, u1, u2, u3) C0 rfl hT hlt (hZe _ _ _ hZ) (zsk_2 hZs hZ) hP hD hS hl.1 hw dX9_bestReserved_11 dX9_bestReserved_14 dX9_bestReserved_15 dX9_bestReserved_17 dX9_bestReserved_20 ?_ ?_ ?_ ?_ ?_ ?_ <;> decide
  · have hw := hwf c_1
    refine lv_iload_n hx hb dX9_bestReserved_4 rfl (lv_at hl 1 rfl) ?_
    refine lv_sipush (v := 500) hx hb dX9_bestReserved_5 rfl ?_
    obtain ⟨hwt, hwf⟩ := hw
    refine lv_icmp_le (tgt := 21) hx hb dX9_bestReserved_8 (by decide) (fun c_2 => ?_) (fun c_2 => ?_)
    · have hw := hwt c_2
      refine lv_aload_n hx hb dX9_bestReserved_21 rfl (lv_at hl 0 rfl) ?_
      refine va_get (D := zD E) (ci := 9) (v := .ref (q0 1)) (C := RX9) (T := TX9) (N := 7) hx hb hts uw_X9 hown hK hP 0 rfl rfl 0 (by decide) (hts _ wm_2_109) (fun _ h9 => h9) rfl dX9_bestReserved_22 ?_
      refine va_getN (D := zD E) (ci := 2) (v := .ref (q0 7)) (C := RX2) (T := TX2) (N := 3) hx hb hts uw_X2 hown hK hP 1 rfl rfl 1 (by decide) (hts _ wm_1_204) (fun _ h9 => h9) rfl dX9_bestReserved_25 ?_
      refine va_getN (D := zD E) (ci := 0) (v := .int u1.2.1.1) (C := RX0) (T := TX0) (N := 7) hx hb hts uw_X0 hown hK hP 7 rfl rfl 0 (by decide) (hts _ wm_1_129) (fun _ h9 => h9) rfl dX9_bestReserved_28 ?_
      refine lv_iconst (v := 1) hx hb dX9_bestReserved_31 rfl ?_
      refine lv_iadd hx hb dX9_bestReserved_32 ?_
      refine lv_aload_n hx hb dX9_bestReserved_33 rfl (lv_at hl 0 rfl) ?_
      refine va_get (D := zD E) (ci := 9) (v := .ref (q0 1)) (C := RX9) (T := TX9) (N := 7) hx hb hts uw_X9 hown hK hP 0 rfl rfl 0 (by decide) (hts _ wm_2_109) (fun _ h9 => h9) rfl dX9_bestReserved_34 ?_
      refine va_getN (D := zD E) (ci := 2) (v := .ref (q0 2)) (C := RX2) (T := TX2) (N := 3) hx hb hts uw_X2 hown hK hP 1 rfl rfl 0 (by decide) (hts _ wm_1_201) (fun _ h9 => h9) rfl dX9_bestReserved_37 ?_
      refine va_getN (D := zD E) (ci := 7) (v := .int u1.1.1) (C := RX7) (T := TX7) (N := 16) hx hb hts uw_X7 hown hK hP 2 rfl rfl 0 (by decide) (hts _ wm_1_47) (fun _ h9 => h9) rfl dX9_bestReserved_40 ?_
      obtain ⟨hwt, hwf⟩ := hw
      refine lv_icmp_lt (tgt := 56) hx hb dX9_bestReserved_43 (by decide) (fun c_3 => ?_) (fun c_3 => ?_)
      · have hw := hwt c_3
        refine lv_aload_n hx hb dX9_bestReserved_56 rfl (lv_at hl 0 rfl) ?_
        refine lv_iload_n hx hb dX9_bestReserved_57 rfl (lv_at hl 1 rfl) ?_
        refine z_ki (z_rV (rest := []) hZ0 C0 hK hZ hA hP hD hS hl.1 (c_X9_cheapestLevel l E Z hZ0 q0 s.heap.size u0 u1 u2 u3 p1 _ hw) yv_X9_212 [0, 1, 2, 3, 4, 5, 6, 7, 8, 9, 10, 11, 12, 13, 14, 15, 16, 17, 18, 19, 20, 21, 22, 23, 24, 25, 26, 27, 28, 29, 30, 31, 32] rfl (by decide) (ci := 9) rfl rfl 0 rfl ⟨Nat.le_of_ble_eq_true rfl, Nat.le_of_ble_eq_true rfl⟩ ⟨rfl, rfl⟩ rfl rfl (Nat.le_of_ble_eq_true rfl) ⟨Nat.le_of_ble_eq_true rfl, Nat.le_of_ble_eq_true rfl⟩ dX9_bestReserved_58) hP hD hS hA [0, 1, 2, 3, 4, 5, 6, 7, 8, 9, 10, 11, 12, 13, 14, 15, 16, 17, 18, 19, 20, 21, 22, 23, 24, 25, 26, 27, 28, 29, 30, 31, 32] [] [0, 1, 2, 3, 4, 5, 6, 7, 8, 9, 10, 11, 12, 13, 14, 15, 16, 17, 18, 19, 20, 21, 22, 23, 24, 25, 26, 27, 28, 29, 30, 31, 32] rfl (wr := []) rfl (by decide) (by decide) (fun u => k_X9 E q0 u.1 ++ (k_X2 E (fun k => q0 (k + 1)) u.2.1 ++ (k_X0 E (fun k => q0 (k + 47)) u.2.2.1 ++ (k_X0 E (fun k => q0 (k + 54)) u.2.2.2)))) (fun u => rfl) (by decide) (fun r_5 u_4 H locs hw hP hD hS => ?_)
        refine W.widen (k := 1) (n := 6) (by decide) (by decide) ?_
        refine vx_ret ?_
        exact z_iret (k := (fun u => k_X9 E q0 u.1 ++ (k_X2 E (fun k => q0 (k + 1)) u.2.1 ++ (k_X0 E (fun k => q0 (k + 47)) u.2.2.1 ++ (k_X0 E (fun k => q0 (k + 54)) u.2.2.2))))) (u_4.1, u_4.2.1, u_4.2.2.1, u_4.2.2.2) C0 hP hD hS hw dX9_bestReserved_61
      · have hw := hwf c_3
        refine z_thr_ISE (Z := Z) (k := (fun u => k_X9 E q0 u.1 ++ (k_X2 E (fun k => q0 (k + 1)) u.2.1 ++ (k_X0 E (fun k => q0 (k + 47)) u.2.2.1 ++ (k_X0 E (fun k => q0 (k + 54)) u.2.2.2))))) (u0, u1, u2, u3) C0 rfl hT hlt (hZe _ _ _ hZ) (zsk_3 hZs hZ) hP hD hS hl.1 hw dX9_bestReserved_46 dX9_bestReserved_49 dX9_bestReserved_50 dX9_bestReserved_52 dX9_bestReserved_55 ?_ ?_ ?_ ?_ ?_ ?_ <;> decide
    · have hw := hwf c_2
      refine z_thr_IAE (Z := Z) (k := (fun u => k_X9 E q0 u.1 ++ (k_X2 E (fun k => q0 (k + 1)) u.2.1 ++ (k_X0 E (fun k => q0 (k + 47)) u.2.2.1 ++ (k_X0 E (fun k => q0 (k + 54)) u.2.2.2))))) (u0, u1, u2, u3) C0 rfl hT hlt (hZe _ _ _ hZ) (zsk_2 hZs hZ) hP hD hS hl.1 hw dX9_bestReserved_11 dX9_bestReserved_14 dX9_bestReserved_15 dX9_bestReserved_17 dX9_bestReserved_20 ?_ ?_ ?_ ?_ ?_ ?_ <;> decide
