abbrev r_X10_in : Room := { frames := 0, cells := 0, slots := 0, locals := 0 }
def wp_X10_in (p0 : Int32) (p1 : Int32) (p2 : Int32) (post : Int32 → Unit → Prop) : Prop := (p0 < p1 → (post (0 : Int32) ())) ∧ (¬ (p0 < p1) → ((p2 < p0 → (post (0 : Int32) ())) ∧ (¬ (p2 < p0) → (post (1 : Int32) ()))))
set_option maxHeartbeats 4000000 in
set_option maxRecDepth 100000 in
theorem c_X10_in (l : Launch) (E : zE) (Z : zZ) (hZ0 : zSt Z) (sz : Nat) (p0 : Int32) (p1 : Int32) (p2 : Int32) (post : Int32 → Unit → Prop) (hw : wp_X10_in p0 p1 p2 post) : Met l yX10_in (zws yX10_in cX10_in 3 (some .boolean)) r_X10_in (va_Pc [.int p0, .int p1, .int p2] (zPre Z E ([]) sz)) (va_Qi post (zAt E (va_A ([]) sz) (fun u => [])) (va_A ([]) sz)) 0 0 (va_A ([]) sz) := by
  refine z_ofW (Qf := fun A => va_Qi post (zAt E A (fun u => [])) A) (by decide) (Nat.le_of_ble_eq_true rfl) ?_
  intro p e s m args below meth c A ls C0 hA hK hZ hP hD hS hl
  obtain ⟨hx, hb, hml, hr, hown, hts, hlocks, hin⟩ := id C0
  have hown : s.vm.findClass RX10 = some m.cls := hown
  have hl : lv_has ls 3 [(0, .int p0), (1, .int p1), (2, .int p2)] := hl
  refine lv_iload_n hx hb dX10_in_0 rfl (lv_at hl 0 rfl) ?_
  refine lv_iload_n hx hb dX10_in_1 rfl (lv_at hl 1 rfl) ?_
  obtain ⟨hwt, hwf⟩ := hw
  refine lv_icmp_lt (tgt := 14) hx hb dX10_in_2 (by decide) (fun c_1 => ?_) (fun c_1 => ?_)
  · have hw := hwt c_1
    refine lv_iconst (v := 0) hx hb dX10_in_14 rfl ?_
    exact z_zret (k := (fun u => [])) () C0 rfl hP hD hS hw dX10_in_15
  · have hw := hwf c_1
    refine lv_iload_n hx hb dX10_in_5 rfl (lv_at hl 0 rfl) ?_
    refine lv_iload_n hx hb dX10_in_6 rfl (lv_at hl 2 rfl) ?_
    obtain ⟨hwt, hwf⟩ := hw
    refine lv_icmp_gt (tgt := 14) hx hb dX10_in_7 (by decide) (fun c_2 => ?_) (fun c_2 => ?_)
    · have hw := hwt c_2
      refine lv_iconst (v := 0) hx hb dX10_in_14 rfl ?_
      exact z_zret (k := (fun u => [])) () C0 rfl hP hD hS hw dX10_in_15
    · have hw := hwf c_2
      refine lv_iconst (v := 1) hx hb dX10_in_10 rfl ?_
      refine lv_goto (tgt := 15) hx hb dX10_in_11 (by decide) ?_
      exact z_zret (k := (fun u => [])) () C0 rfl hP hD hS hw dX10_in_15
abbrev r_X10_min : Room := { frames := 0, cells := 0, slots := 0, locals := 0 }
def wp_X10_min (p0 : Int32) (p1 : Int32) (post : Int32 → Unit → Prop) : Prop := (p1 ≤ p0 → (post p1 ())) ∧ (¬ (p1 ≤ p0) → (post p0 ()))
set_option maxHeartbeats 4000000 in
set_option maxRecDepth 100000 in
theorem c_X10_min (l : Launch) (E : zE) (Z : zZ) (hZ0 : zSt Z) (sz : Nat) (p0 : Int32) (p1 : Int32) (post : Int32 → Unit → Prop) (hw : wp_X10_min p0 p1 post) : Met l yX10_min (zws yX10_min cX10_min 2 (some .int)) r_X10_min (va_Pc [.int p0, .int p1] (zPre Z E ([]) sz)) (va_Qi post (zAt E (va_A ([]) sz) (fun u => [])) (va_A ([]) sz)) 0 0 (va_A ([]) sz) := by
  refine z_ofW (Qf := fun A => va_Qi post (zAt E A (fun u => [])) A) (by decide) (Nat.le_of_ble_eq_true rfl) ?_
  intro p e s m args below meth c A ls C0 hA hK hZ hP hD hS hl
  obtain ⟨hx, hb, hml, hr, hown, hts, hlocks, hin⟩ := id C0
  have hown : s.vm.findClass RX10 = some m.cls := hown
  have hl : lv_has ls 2 [(0, .int p0), (1, .int p1)] := hl
  refine lv_iload_n hx hb dX10_min_0 rfl (lv_at hl 0 rfl) ?_
  refine lv_iload_n hx hb dX10_min_1 rfl (lv_at hl 1 rfl) ?_
  obtain ⟨hwt, hwf⟩ := hw
  refine lv_icmp_ge (tgt := 9) hx hb dX10_min_2 (by decide) (fun c_1 => ?_) (fun c_1 => ?_)
  · have hw := hwt c_1
    refine lv_iload_n hx hb dX10_min_9 rfl (lv_at hl 1 rfl) ?_
    exact z_iret (k := (fun u => [])) () C0 hP hD hS hw dX10_min_10
  · have hw := hwf c_1
    refine lv_iload_n hx hb dX10_min_5 rfl (lv_at hl 0 rfl) ?_
    refine lv_goto (tgt := 10) hx hb dX10_min_6 (by decide) ?_
    exact z_iret (k := (fun u => [])) () C0 hP hD hS hw dX10_min_10
abbrev r_X10_max : Room := { frames := 0, cells := 0, slots := 0, locals := 0 }
def wp_X10_max (p0 : Int32) (p1 : Int32) (post : Int32 → Unit → Prop) : Prop := (p0 ≤ p1 → (post p1 ())) ∧ (¬ (p0 ≤ p1) → (post p0 ()))
set_option maxHeartbeats 4000000 in
set_option maxRecDepth 100000 in
theorem c_X10_max (l : Launch) (E : zE) (Z : zZ) (hZ0 : zSt Z) (sz : Nat) (p0 : Int32) (p1 : Int32) (post : Int32 → Unit → Prop) (hw : wp_X10_max p0 p1 post) : Met l yX10_max (zws yX10_max cX10_max 2 (some .int)) r_X10_max (va_Pc [.int p0, .int p1] (zPre Z E ([]) sz)) (va_Qi post (zAt E (va_A ([]) sz) (fun u => [])) (va_A ([]) sz)) 0 0 (va_A ([]) sz) := by
  refine z_ofW (Qf := fun A => va_Qi post (zAt E A (fun u => [])) A) (by decide) (Nat.le_of_ble_eq_true rfl) ?_
  intro p e s m args below meth c A ls C0 hA hK hZ hP hD hS hl
  obtain ⟨hx, hb, hml, hr, hown, hts, hlocks, hin⟩ := id C0
  have hown : s.vm.findClass RX10 = some m.cls := hown
  have hl : lv_has ls 2 [(0, .int p0), (1, .int p1)] := hl
  refine lv_iload_n hx hb dX10_max_0 rfl (lv_at hl 0 rfl) ?_
  refine lv_iload_n hx hb dX10_max_1 rfl (lv_at hl 1 rfl) ?_
  obtain ⟨hwt, hwf⟩ := hw
  refine lv_icmp_le (tgt := 9) hx hb dX10_max_2 (by decide) (fun c_1 => ?_) (fun c_1 => ?_)
  · have hw := hwt c_1
    refine lv_iload_n hx hb dX10_max_9 rfl (lv_at hl 1 rfl) ?_
    exact z_iret (k := (fun u => [])) () C0 hP hD hS hw dX10_max_10
  · have hw := hwf c_1
    refine lv_iload_n hx hb dX10_max_5 rfl (lv_at hl 0 rfl) ?_
    refine lv_goto (tgt := 10) hx hb dX10_max_6 (by decide) ?_
    exact z_iret (k := (fun u => [])) () C0 hP hD hS hw dX10_max_10
abbrev r_X10_size : Room := { frames := 0, cells := 0, slots := 0, locals := 0 }
def wp_X10_size (p0 : Int32) (post : Int32 → Unit → Prop) : Prop := (0 ≤ p0 → (post p0 ())) ∧ (¬ (0 ≤ p0) → (post (-p0) ()))
set_option maxHeartbeats 4000000 in
set_option maxRecDepth 100000 in
theorem c_X10_size (l : Launch) (E : zE) (Z : zZ) (hZ0 : zSt Z) (sz : Nat) (p0 : Int32) (post : Int32 → Unit → Prop) (hw : wp_X10_size p0 post) : Met l yX10_size (zws yX10_size cX10_size 1 (some .int)) r_X10_size (va_Pc [.int p0] (zPre Z E ([]) sz)) (va_Qi post (zAt E (va_A ([]) sz) (fun u => [])) (va_A ([]) sz)) 0 0 (va_A ([]) sz) := by
  refine z_ofW (Qf := fun A => va_Qi post (zAt E A (fun u => [])) A) (by decide) (Nat.le_of_ble_eq_true rfl) ?_
  intro p e s m args below meth c A ls C0 hA hK hZ hP hD hS hl
  obtain ⟨hx, hb, hml, hr, hown, hts, hlocks, hin⟩ := id C0
  have hown : s.vm.findClass RX10 = some m.cls := hown
  have hl : lv_has ls 1 [(0, .int p0)] := hl
  refine lv_iload_n hx hb dX10_size_0 rfl (lv_at hl 0 rfl) ?_
  obtain ⟨hwt, hwf⟩ := hw
  refine lv_if_ge (tgt := 9) hx hb dX10_size_1 (by decide) (fun c_1 => ?_) (fun c_1 => ?_)
  · have hw := hwt c_1
    refine lv_iload_n hx hb dX10_size_9 rfl (lv_at hl 0 rfl) ?_
    exact z_iret (k := (fun u => [])) () C0 hP hD hS hw dX10_size_10
  · have hw := hwf c_1
    refine lv_iload_n hx hb dX10_size_4 rfl (lv_at hl 0 rfl) ?_
    refine lv_ineg hx hb dX10_size_5 ?_
    refine lv_goto (tgt := 10) hx hb dX10_size_6 (by decide) ?_
    exact z_iret (k := (fun u => [])) () C0 hP hD hS hw dX10_size_10
abbrev r_X10_period : Room := { frames := 0, cells := 0, slots := 0, locals := 0 }
def wp_X10_period (p0 : Int32) (post : Int32 → Unit → Prop) : Prop := post ((148 : Int32) + ((5 : Int32) * p0)) ()
set_option maxHeartbeats 4000000 in
set_option maxRecDepth 100000 in
theorem c_X10_period (l : Launch) (E : zE) (Z : zZ) (hZ0 : zSt Z) (sz : Nat) (p0 : Int32) (post : Int32 → Unit → Prop) (hw : wp_X10_period p0 post) : Met l yX10_period (zws yX10_period cX10_period 1 (some .int)) r_X10_period (va_Pc [.int p0] (zPre Z E ([]) sz)) (va_Qi post (zAt E (va_A ([]) sz) (fun u => [])) (va_A ([]) sz)) 0 0 (va_A ([]) sz) := by
  refine z_ofW (Qf := fun A => va_Qi post (zAt E A (fun u => [])) A) (by decide) (Nat.le_of_ble_eq_true rfl) ?_
  intro p e s m args below meth c A ls C0 hA hK hZ hP hD hS hl
  obtain ⟨hx, hb, hml, hr, hown, hts, hlocks, hin⟩ := id C0
  have hown : s.vm.findClass RX10 = some m.cls := hown
  have hl : lv_has ls 1 [(0, .int p0)] := hl
  refine lv_sipush (v := 148) hx hb dX10_period_0 rfl ?_
  refine lv_iconst (v := 5) hx hb dX10_period_3 rfl ?_
  refine lv_iload_n hx hb dX10_period_4 rfl (lv_at hl 0 rfl) ?_
  refine lv_imul hx hb dX10_period_5 ?_
  refine lv_iadd hx hb dX10_period_6 ?_
  exact z_iret (k := (fun u => [])) () C0 hP hD hS hw dX10_period_7
abbrev r_X10_breach : Room := { frames := 0, cells := 0, slots := 0, locals := 0 }
def wp_X10_breach (p0 : Int32) (post : Int32 → Unit → Prop) : Prop := post ((348 : Int32) + ((4 : Int32) * p0)) ()
set_option maxHeartbeats 4000000 in
set_option maxRecDepth 100000 in
theorem c_X10_breach (l : Launch) (E : zE) (Z : zZ) (hZ0 : zSt Z) (sz : Nat) (p0 : Int32) (post : Int32 → Unit → Prop) (hw : wp_X10_breach p0 post) : Met l yX10_breach (zws yX10_breach cX10_breach 1 (some .int)) r_X10_breach (va_Pc [.int p0] (zPre Z E ([]) sz)) (va_Qi post (zAt E (va_A ([]) sz) (fun u => [])) (va_A ([]) sz)) 0 0 (va_A ([]) sz) := by
  refine z_ofW (Qf := fun A => va_Qi post (zAt E A (fun u => [])) A) (by decide) (Nat.le_of_ble_eq_true rfl) ?_
  intro p e s m args below meth c A ls C0 hA hK hZ hP hD hS hl
  obtain ⟨hx, hb, hml, hr, hown, hts, hlocks, hin⟩ := id C0
  have hown : s.vm.findClass RX10 = some m.cls := hown
  have hl : lv_has ls 1 [(0, .int p0)] := hl
  refine lv_sipush (v := 348) hx hb dX10_breach_0 rfl ?_
  refine lv_iconst (v := 4) hx hb dX10_breach_3 rfl ?_
  refine lv_iload_n hx hb dX10_breach_4 rfl (lv_at hl 0 rfl) ?_
  refine lv_imul hx hb dX10_breach_5 ?_
  refine lv_iadd hx hb dX10_breach_6 ?_
  exact z_iret (k := (fun u => [])) () C0 hP hD hS hw dX10_breach_7
abbrev r_X10_band : Room := { frames := 0, cells := 0, slots := 0, locals := 0 }
def wp_X10_band (p0 : Int32) (post : Int32 → Unit → Prop) : Prop := post ((16 : Int32) + ((3 : Int32) * p0)) ()
set_option maxHeartbeats 4000000 in
set_option maxRecDepth 100000 in
theorem c_X10_band (l : Launch) (E : zE) (Z : zZ) (hZ0 : zSt Z) (sz : Nat) (p0 : Int32) (post : Int32 → Unit → Prop) (hw : wp_X10_band p0 post) : Met l yX10_band (zws yX10_band cX10_band 1 (some .int)) r_X10_band (va_Pc [.int p0] (zPre Z E ([]) sz)) (va_Qi post (zAt E (va_A ([]) sz) (fun u => [])) (va_A ([]) sz)) 0 0 (va_A ([]) sz) := by
  refine z_ofW (Qf := fun A => va_Qi post (zAt E A (fun u => [])) A) (by decide) (Nat.le_of_ble_eq_true rfl) ?_
  intro p e s m args below meth c A ls C0 hA hK hZ hP hD hS hl
  obtain ⟨hx, hb, hml, hr, hown, hts, hlocks, hin⟩ := id C0
  have hown : s.vm.findClass RX10 = some m.cls := hown
  have hl : lv_has ls 1 [(0, .int p0)] := hl
  refine lv_bipush (v := 16) hx hb dX10_band_0 rfl ?_
  refine lv_iconst (v := 3) hx hb dX10_band_2 rfl ?_
  refine lv_iload_n hx hb dX10_band_3 rfl (lv_at hl 0 rfl) ?_
  refine lv_imul hx hb dX10_band_4 ?_
  refine lv_iadd hx hb dX10_band_5 ?_
  exact z_iret (k := (fun u => [])) () C0 hP hD hS hw dX10_band_6
abbrev r_X10_isDigit : Room := { frames := 1, cells := 0, slots := 0, locals := 22 }
def wp_X10_isDigit (p0 : Int32) (post : Int32 → Unit → Prop) : Prop := wp_X10_in p0 (48 : Int32) (57 : Int32) (fun r_2 u_1 => (narrow .boolean (.int r_2) = .int r_2) ∧ (post r_2 ()))
set_option maxHeartbeats 4000000 in
set_option maxRecDepth 100000 in
theorem c_X10_isDigit (l : Launch) (E : zE) (Z : zZ) (hZ0 : zSt Z) (sz : Nat) (p0 : Int32) (post : Int32 → Unit → Prop) (hw : wp_X10_isDigit p0 post) : Met l yX10_isDigit (zws yX10_isDigit cX10_isDigit 1 (some .boolean)) r_X10_isDigit (va_Pc [.int p0] (zPre Z E ([]) sz)) (va_Qi post (zAt E (va_A ([]) sz) (fun u => [])) (va_A ([]) sz)) 0 0 (va_A ([]) sz) := by
  refine z_ofW (Qf := fun A => va_Qi post (zAt E A (fun u => [])) A) (by decide) (Nat.le_of_ble_eq_true rfl) ?_
  intro p e s m args below meth c A ls C0 hA hK hZ hP hD hS hl
  obtain ⟨hx, hb, hml, hr, hown, hts, hlocks, hin⟩ := id C0
  have hown : s.vm.findClass RX10 = some m.cls := hown
  have hl : lv_has ls 1 [(0, .int p0)] := hl
  refine lv_iload_n hx hb dX10_isDigit_0 rfl (lv_at hl 0 rfl) ?_
  refine lv_bipush (v := 48) hx hb dX10_isDigit_1 rfl ?_
  refine lv_bipush (v := 57) hx hb dX10_isDigit_3 rfl ?_
  refine z_ki (z_rS (rest := []) hZ0 C0 hK hZ hA hP hD hS hl.1 (c_X10_in l E Z hZ0 s.heap.size p0 (48 : Int32) (57 : Int32) _ hw) yv_X10_74 [] rfl (by decide) ⟨Nat.le_of_ble_eq_true rfl, Nat.le_of_ble_eq_true rfl⟩ ⟨rfl, rfl⟩ rfl rfl (Nat.le_of_ble_eq_true rfl) ⟨Nat.le_of_ble_eq_true rfl, Nat.le_of_ble_eq_true rfl⟩ dX10_isDigit_5) hP hD hS hA [] [] [] rfl (wr := []) rfl (by decide) (by decide) (fun u => []) (fun u => rfl) (by decide) (fun r_2 u_1 H locs hw hP hD hS => ?_)
  obtain ⟨h_3, hw⟩ := hw
  exact z_zret (k := (fun u => [])) () C0 h_3 hP hD hS hw dX10_isDigit_8
abbrev r_X10_limited : Room := { frames := 0, cells := 0, slots := 0, locals := 0 }
def wp_X10_limited (p0 : Int64) (post : Int64 → Unit → Prop) : Prop := ((lg_cmp p0 (1000000 : Int64)) ≤ 0 → ((0 ≤ (lg_cmp p0 (-1000000 : Int64)) → (post p0 ())) ∧ (¬ (0 ≤ (lg_cmp p0 (-1000000 : Int64))) → (post (-1000000 : Int64) ())))) ∧ (¬ ((lg_cmp p0 (1000000 : Int64)) ≤ 0) → (post (1000000 : Int64) ()))
set_option maxHeartbeats 4000000 in
set_option maxRecDepth 100000 in
theorem c_X10_limited (l : Launch) (E : zE) (Z : zZ) (hZ0 : zSt Z) (sz : Nat) (p0 : Int64) (post : Int64 → Unit → Prop) (hw : wp_X10_limited p0 post) : Met l yX10_limited (zws yX10_limited cX10_limited 2 (some .long)) r_X10_limited (va_Pc [.long p0] (zPre Z E ([]) sz)) (va_Ql post (zAt E (va_A ([]) sz) (fun u => [])) (va_A ([]) sz)) 0 0 (va_A ([]) sz) := by
  refine z_ofW (Qf := fun A => va_Ql post (zAt E A (fun u => [])) A) (by decide) (Nat.le_of_ble_eq_true rfl) ?_
  intro p e s m args below meth c A ls C0 hA hK hZ hP hD hS hl
  obtain ⟨hx, hb, hml, hr, hown, hts, hlocks, hin⟩ := id C0
  have hown : s.vm.findClass RX10 = some m.cls := hown
  have hl : lv_has ls 2 [(0, .long p0)] := hl
  refine lv_lload_n hx hb dX10_limited_0 rfl (lv_at hl 0 rfl) ?_
  refine lv_ldc2 hx hb hown (hts _ wm_6_69) dX10_limited_1 ?_
  refine W.lcmp hx hb dX10_limited_4 ?_
  obtain ⟨hwt, hwf⟩ := hw
  refine lv_if_le (tgt := 14) hx hb dX10_limited_5 (by decide) (fun c_1 => ?_) (fun c_1 => ?_)
  · have hw := hwt c_1
    refine lv_lload_n hx hb dX10_limited_14 rfl (lv_at hl 0 rfl) ?_
    refine lv_ldc2 hx hb hown (hts _ wm_6_70) dX10_limited_15 ?_
    refine W.lcmp hx hb dX10_limited_18 ?_
    obtain ⟨hwt, hwf⟩ := hw
    refine lv_if_ge (tgt := 28) hx hb dX10_limited_19 (by decide) (fun c_2 => ?_) (fun c_2 => ?_)
    · have hw := hwt c_2
      refine lv_lload_n hx hb dX10_limited_28 rfl (lv_at hl 0 rfl) ?_
      exact z_lret (k := (fun u => [])) () C0 hP hD hS hw dX10_limited_29
    · have hw := hwf c_2
      refine lv_ldc2 hx hb hown (hts _ wm_6_70) dX10_limited_22 ?_
      refine lv_goto (tgt := 29) hx hb dX10_limited_25 (by decide) ?_
      exact z_lret (k := (fun u => [])) () C0 hP hD hS hw dX10_limited_29
  · have hw := hwf c_1
    refine lv_ldc2 hx hb hown (hts _ wm_6_69) dX10_limited_8 ?_
    refine lv_goto (tgt := 29) hx hb dX10_limited_11 (by decide) ?_
    exact z_lret (k := (fun u => [])) () C0 hP hD hS hw dX10_limited_29
abbrev r_X10_operate : Room := { frames := 1, cells := 0, slots := 0, locals := 21 }
def j_X10_operate_44 (y0 : Int64) (post : Int64 → Unit → Prop) : Prop := wp_X10_limited y0 (fun r_7 u_6 => post r_7 ())
def wp_X10_operate (p0 : Int32) (p1 : Int64) (p2 : Int64) (post : Int64 → Unit → Prop) : Prop := (¬ (p0 = (5 : Int32)) → ((¬ (p0 = (2 : Int32)) → ((¬ (p0 = (3 : Int32)) → (j_X10_operate_44 (p1 * p2) post)) ∧ (p0 = (3 : Int32) → (j_X10_operate_44 (p1 - p2) post)))) ∧ (p0 = (2 : Int32) → (j_X10_operate_44 (p1 + p2) post)))) ∧ (p0 = (5 : Int32) → ((¬ ((lg_cmp p2 (0 : Int64)) = 0) → ((¬ p2 = 0) ∧ (post (p1 / p2) ()))) ∧ ((lg_cmp p2 (0 : Int64)) = 0 → (post (0 : Int64) ()))))
set_option maxHeartbeats 4000000 in
set_option maxRecDepth 100000 in
theorem t_X10_operate_44 {p : Program} {l : Launch} {e : Env} {s : State} {m : MethodId} {args : Array Value} {below : List Frame} {meth : Method} {c : Code} {Z : zZ} {E : zE} {A : Nat → Prop} (hZ0 : zSt Z) (C0 : zC p s m args meth c yX10_operate cX10_operate 5 (some .long)) (hA : ∀ q : Nat, s.heap.size ≤ q → A q) (hK : va_K (zD E) vwCl (zT E) s) (hZ : Z A s s.heap) (post : Int64 → Unit → Prop) : ∀ (y0 : Int64) (H : Heap) (locs : List Loc) (ls : Array Slot), j_X10_operate_44 y0 post → va_P (zD E) vwCl ([]) H → va_D A ([]) → va_S A s.heap H locs → lv_has ls 5 [] → W p l e r_X10_operate s m args below meth c H locs 0 0 (MQ below (va_Ql post (zAt E A (fun u => [])) A) args s 0 0 A) (F0 m 44 ls [.long y0]) := by
  obtain ⟨hx, hb, hml, hr, hown, hts, hlocks, hin⟩ := id C0
  have hown : s.vm.findClass RX10 = some m.cls := hown
  intro y0 H locs ls hw hP hD hS hl
  refine z_kl (z_rS (rest := []) hZ0 C0 hK hZ hA hP hD hS hl.1 (c_X10_limited l E Z hZ0 H.size y0 _ hw) yv_X10_200 [] rfl (by decide) ⟨Nat.le_of_ble_eq_true rfl, Nat.le_of_ble_eq_true rfl⟩ ⟨rfl, rfl⟩ rfl rfl (Nat.le_of_ble_eq_true rfl) ⟨Nat.le_of_ble_eq_true rfl, Nat.le_of_ble_eq_true rfl⟩ dX10_operate_44) hP hD hS hA [] [] [] rfl (wr := []) rfl (by decide) (by decide) (fun u => []) (fun u => rfl) (by decide) (fun r_7 u_6 H locs hw hP hD hS => ?_)
  exact z_lret (k := (fun u => [])) () C0 hP hD hS hw dX10_operate_47
set_option maxHeartbeats 4000000 in
set_option maxRecDepth 100000 in
theorem c_X10_operate (l : Launch) (E : zE) (Z : zZ) (hZ0 : zSt Z) (sz : Nat) (p0 : Int32) (p1 : Int64) (p2 : Int64) (post : Int64 → Unit → Prop) (hw : wp_X10_operate p0 p1 p2 post) : Met l yX10_operate (zws yX10_operate cX10_operate 5 (some .long)) r_X10_operate (va_Pc [.int p0, .long p1, .long p2] (zPre Z E ([]) sz)) (va_Ql post (zAt E (va_A ([]) sz) (fun u => [])) (va_A ([]) sz)) 0 0 (va_A ([]) sz) := by
  refine z_ofW (Qf := fun A => va_Ql post (zAt E A (fun u => [])) A) (by decide) (Nat.le_of_ble_eq_true rfl) ?_
  intro p e s m args below meth c A ls C0 hA hK hZ hP hD hS hl
  obtain ⟨hx, hb, hml, hr, hown, hts, hlocks, hin⟩ := id C0
  have hown : s.vm.findClass RX10 = some m.cls := hown
  have hl : lv_has ls 5 [(0, .int p0), (1, .long p1), (3, .long p2)] := hl
  refine lv_iload_n hx hb dX10_operate_0 rfl (lv_at hl 0 rfl) ?_
  refine lv_iconst (v := 5) hx hb dX10_operate_1 rfl ?_
  obtain ⟨hwt, hwf⟩ := hw
  refine lv_icmp_ne (tgt := 19) hx hb dX10_operate_2 (by decide) (fun c_1 => ?_) (fun c_1 => ?_)
  · have hw := hwt c_1
    refine lv_iload_n hx hb dX10_operate_19 rfl (lv_at hl 0 rfl) ?_
    refine lv_iconst (v := 2) hx hb dX10_operate_20 rfl ?_
    obtain ⟨hwt, hwf⟩ := hw
    refine lv_icmp_ne (tgt := 30) hx hb dX10_operate_21 (by decide) (fun c_2 => ?_) (fun c_2 => ?_)
    · have hw := hwt c_2
      refine lv_iload_n hx hb dX10_operate_30 rfl (lv_at hl 0 rfl) ?_
      refine lv_iconst (v := 3) hx hb dX10_operate_31 rfl ?_
      obtain ⟨hwt, hwf⟩ := hw
      refine lv_icmp_ne (tgt := 41) hx hb dX10_operate_32 (by decide) (fun c_3 => ?_) (fun c_3 => ?_)
      · have hw := hwt c_3
        refine lv_lload_n hx hb dX10_operate_41 rfl (lv_at hl 1 rfl) ?_
        refine lv_lload_n hx hb dX10_operate_42 rfl (lv_at hl 2 rfl) ?_
        refine lv_lmul hx hb dX10_operate_43 ?_
        exact t_X10_operate_44 (l := l) hZ0 C0 hA hK hZ post (p1 * p2) _ _ _ hw hP hD hS (lv_sub hl [] rfl)
      · have hw := hwf c_3
        refine lv_lload_n hx hb dX10_operate_35 rfl (lv_at hl 1 rfl) ?_
        refine lv_lload_n hx hb dX10_operate_36 rfl (lv_at hl 2 rfl) ?_
        refine lv_lsub hx hb dX10_operate_37 ?_
        refine lv_goto (tgt := 44) hx hb dX10_operate_38 (by decide) ?_
        exact t_X10_operate_44 (l := l) hZ0 C0 hA hK hZ post (p1 - p2) _ _ _ hw hP hD hS (lv_sub hl [] rfl)
    · have hw := hwf c_2
      refine lv_lload_n hx hb dX10_operate_24 rfl (lv_at hl 1 rfl) ?_
      refine lv_lload_n hx hb dX10_operate_25 rfl (lv_at hl 2 rfl) ?_
      refine lv_ladd hx hb dX10_operate_26 ?_
      refine lv_goto (tgt := 44) hx hb dX10_operate_27 (by decide) ?_
      exact t_X10_operate_44 (l := l) hZ0 C0 hA hK hZ post (p1 + p2) _ _ _ hw hP hD hS (lv_sub hl [] rfl)
  · have hw := hwf c_1
    refine lv_lload_n hx hb dX10_operate_5 rfl (lv_at hl 2 rfl) ?_
    refine lv_lconst (v := 0) hx hb dX10_operate_6 rfl ?_
    refine W.lcmp hx hb dX10_operate_7 ?_
    obtain ⟨hwt, hwf⟩ := hw
    refine lv_if_ne (tgt := 15) hx hb dX10_operate_8 (by decide) (fun c_4 => ?_) (fun c_4 => ?_)
    · have hw := hwt c_4
      refine lv_lload_n hx hb dX10_operate_15 rfl (lv_at hl 1 rfl) ?_
      refine lv_lload_n hx hb dX10_operate_16 rfl (lv_at hl 2 rfl) ?_
      obtain ⟨h_5, hw⟩ := hw
      refine lv_ldiv hx hb dX10_operate_17 h_5 ?_
      exact z_lret (k := (fun u => [])) () C0 hP hD hS hw dX10_operate_18
    · have hw := hwf c_4
      refine lv_lconst (v := 0) hx hb dX10_operate_11 rfl ?_
      refine lv_goto (tgt := 18) hx hb dX10_operate_12 (by decide) ?_
      exact z_lret (k := (fun u => [])) () C0 hP hD hS hw dX10_operate_18
abbrev r_X10_copy : Room := { frames := 0, cells := 0, slots := 0, locals := 0 }
def j_X10_copy_2 (K2 : (Int32 × (Nat → Int32) × (Nat → Int32)) → Prop) (x2 : Int32) (u0 : (Nat → Int32)) (u1 : (Nat → Int32)) (post : ((Nat → Int32) × (Nat → Int32)) → Prop) : Prop := ((1728 : Int32) ≤ x2 → (post (u0, u1))) ∧ (¬ ((1728 : Int32) ≤ x2) → (vp_in x2 1728 ∧ (∀ x_3 : Int32, x_3 = (u0 x2.toNatClampNeg) → (vp_in x2 1728 ∧ (∀ x_5 : Int32, x_5 = x2 + 1 → (K2 (x_5, u0, (upd u1 x2.toNatClampNeg x_3))))))))
def wp_X10_copy (u0 : (Nat → Int32)) (u1 : (Nat → Int32)) (post : ((Nat → Int32) × (Nat → Int32)) → Prop) : Prop := ∃ n, zl (fun K st => j_X10_copy_2 K st.1 st.2.1 st.2.2 post) n ((0 : Int32), u0, u1)
set_option maxHeartbeats 4000000 in
set_option maxRecDepth 100000 in
theorem t_X10_copy_2 {p : Program} {l : Launch} {e : Env} {s : State} {m : MethodId} {args : Array Value} {below : List Frame} {meth : Method} {c : Code} {Z : zZ} {E : zE} {A : Nat → Prop} {q0 : Nat → Nat} {q1 : Nat → Nat} (hZ0 : zSt Z) (C0 : zC p s m args meth c yX10_copy cX10_copy 3 none) (hA : ∀ q : Nat, s.heap.size ≤ q → A q) (hK : va_K (zD E) vwCl (zT E) s) (hZ : Z A s s.heap) (post : ((Nat → Int32) × (Nat → Int32)) → Prop) : ∀ (n : Nat) (x2 : Int32) (u0 : (Nat → Int32)) (u1 : (Nat → Int32)) (H : Heap) (locs : List Loc) (ls : Array Slot), zl (fun K st => j_X10_copy_2 K st.1 st.2.1 st.2.2 post) n (x2, u0, u1) → va_P (zD E) vwCl (k_AI E 1728 q0 u0 ++ (k_AI E 1728 q1 u1)) H → va_D A (k_AI E 1728 q0 u0 ++ (k_AI E 1728 q1 u1)) → va_S A s.heap H locs → lv_has ls 3 [(0, .ref (q0 0)), (1, .ref (q1 0)), (2, .int x2)] → W p l e r_X10_copy s m args below meth c H locs 0 0 (MQ below (va_Qv post (zAt E A (fun u => k_AI E 1728 q0 u.1 ++ (k_AI E 1728 q1 u.2))) A) args s 0 0 A) (F0 m 2 ls []) := by
  obtain ⟨hx, hb, hml, hr, hown, hts, hlocks, hin⟩ := id C0
  have hown : s.vm.findClass RX10 = some m.cls := hown
  intro n
  induction n with
  | zero => intro x2 u0 u1 H locs ls hw; exact hw.elim
  | succ n hk_2 =>
    intro x2 u0 u1 H locs ls hw hP hD hS hl
    have hw : j_X10_copy_2 _ x2 u0 u1 post := hw
    refine lv_iload_n hx hb dX10_copy_2 rfl (lv_at hl 2 rfl) ?_
    refine lv_sipush (v := 1728) hx hb dX10_copy_3 rfl ?_
    obtain ⟨hwt, hwf⟩ := hw
    refine lv_icmp_ge (tgt := 21) hx hb dX10_copy_6 (by decide) (fun c_1 => ?_) (fun c_1 => ?_)
    · have hw := hwt c_1
      exact z_vret (k := (fun u => k_AI E 1728 q0 u.1 ++ (k_AI E 1728 q1 u.2))) (u0, u1) C0 hP hD hS hw dX10_copy_21
    · have hw := hwf c_1
      refine lv_aload_n hx hb dX10_copy_9 rfl (lv_at hl 1 rfl) ?_
      refine lv_iload_n hx hb dX10_copy_10 rfl (lv_at hl 2 rfl) ?_
      refine lv_aload_n hx hb dX10_copy_11 rfl (lv_at hl 0 rfl) ?_
      refine lv_iload_n hx hb dX10_copy_12 rfl (lv_at hl 2 rfl) ?_
      obtain ⟨h_2, hw⟩ := hw
      refine va_iald hx hb hK hP 0 0 rfl rfl h_2 dX10_copy_13 ?_
      refine lv_topi (fun x_3 ex_3 => ?_)
      have hw := hw x_3 ex_3
      obtain ⟨h_4, hw⟩ := hw
      refine va_iast hx hb hK hP hD hS 1 0 rfl rfl h_4 dX10_copy_14 (fun H locs hP hD hS => ?_)
      have hP : va_P (zD E) vwCl (k_AI E 1728 q0 u0 ++ (k_AI E 1728 q1 (upd u1 x2.toNatClampNeg x_3))) H := hP
      have hD : va_D A (k_AI E 1728 q0 u0 ++ (k_AI E 1728 q1 (upd u1 x2.toNatClampNeg x_3))) := hD
      obtain ⟨x_5, ex_5⟩ : ∃ y : Int32, y = x2 + 1 := ⟨_, rfl⟩
      have hw := hw x_5 ex_5
      refine lv_iinc (v := x_5) (lv' := [(2, .int x_5), (0, .ref (q0 0)), (1, .ref (q1 0))]) hx hb dX10_copy_15 hl (k := 2) rfl (by rw [ex_5]; rfl) (by decide) rfl (fun ls hl => ?_)
      refine lv_goto (tgt := 2) hx hb dX10_copy_18 (by decide) ?_
      exact hk_2 x_5 u0 (upd u1 x2.toNatClampNeg x_3) _ _ _ hw hP hD hS (lv_sub hl [1, 2, 0] rfl)
set_option maxHeartbeats 4000000 in
set_option maxRecDepth 100000 in
theorem c_X10_copy (l : Launch) (E : zE) (Z : zZ) (hZ0 : zSt Z) (q0 : Nat → Nat) (q1 : Nat → Nat) (sz : Nat) (u0 : (Nat → Int32)) (u1 : (Nat → Int32)) (post : ((Nat → Int32) × (Nat → Int32)) → Prop) (hw : wp_X10_copy u0 u1 post) : Met l yX10_copy (zws yX10_copy cX10_copy 3 none) r_X10_copy (va_Pc [.ref (q0 0), .ref (q1 0)] (zPre Z E (k_AI E 1728 q0 u0 ++ (k_AI E 1728 q1 u1)) sz)) (va_Qv post (zAt E (va_A (k_AI E 1728 q0 u0 ++ (k_AI E 1728 q1 u1)) sz) (fun u => k_AI E 1728 q0 u.1 ++ (k_AI E 1728 q1 u.2))) (va_A (k_AI E 1728 q0 u0 ++ (k_AI E 1728 q1 u1)) sz)) 0 0 (va_A (k_AI E 1728 q0 u0 ++ (k_AI E 1728 q1 u1)) sz) := by
  refine z_ofW (Qf := fun A => va_Qv post (zAt E A (fun u => k_AI E 1728 q0 u.1 ++ (k_AI E 1728 q1 u.2))) A) (by decide) (Nat.le_of_ble_eq_true rfl) ?_
  intro p e s m args below meth c A ls C0 hA hK hZ hP hD hS hl
  obtain ⟨hx, hb, hml, hr, hown, hts, hlocks, hin⟩ := id C0
  have hown : s.vm.findClass RX10 = some m.cls := hown
  have hl : lv_has ls 3 [(0, .ref (q0 0)), (1, .ref (q1 0))] := hl
  refine lv_iconst (v := 0) hx hb dX10_copy_0 rfl ?_
  refine lv_istore_n (lv' := [(2, .int (0 : Int32)), (0, .ref (q0 0)), (1, .ref (q1 0))]) hx hb dX10_copy_1 rfl hl (by decide) rfl (fun ls hl => ?_)
  obtain ⟨n9, hw⟩ := hw
  exact t_X10_copy_2 (l := l) hZ0 C0 hA hK hZ post n9 (0 : Int32) u0 u1 _ _ _ hw hP hD hS (lv_sub hl [1, 2, 0] rfl)
abbrev r_X10_copyLongs : Room := { frames := 0, cells := 0, slots := 0, locals := 0 }
def j_X10_copyLongs_2 (K2 : (Int32 × (Nat → Int64) × (Nat → Int64)) → Prop) (x2 : Int32) (u0 : (Nat → Int64)) (u1 : (Nat → Int64)) (post : ((Nat → Int64) × (Nat → Int64)) → Prop) : Prop := ((40 : Int32) ≤ x2 → (post (u0, u1))) ∧ (¬ ((40 : Int32) ≤ x2) → (vp_in x2 40 ∧ (∀ x_3 : Int64, x_3 = (u0 x2.toNatClampNeg) → (vp_in x2 40 ∧ (∀ x_5 : Int32, x_5 = x2 + 1 → (K2 (x_5, u0, (vp_updL u1 x2.toNatClampNeg x_3))))))))
def wp_X10_copyLongs (u0 : (Nat → Int64)) (u1 : (Nat → Int64)) (post : ((Nat → Int64) × (Nat → Int64)) → Prop) : Prop := ∃ n, zl (fun K st => j_X10_copyLongs_2 K st.1 st.2.1 st.2.2 post) n ((0 : Int32), u0, u1)
set_option maxHeartbeats 4000000 in
set_option maxRecDepth 100000 in
theorem t_X10_copyLongs_2 {p : Program} {l : Launch} {e : Env} {s : State} {m : MethodId} {args : Array Value} {below : List Frame} {meth : Method} {c : Code} {Z : zZ} {E : zE} {A : Nat → Prop} {q0 : Nat → Nat} {q1 : Nat → Nat} (hZ0 : zSt Z) (C0 : zC p s m args meth c yX10_copyLongs cX10_copyLongs 3 none) (hA : ∀ q : Nat, s.heap.size ≤ q → A q) (hK : va_K (zD E) vwCl (zT E) s) (hZ : Z A s s.heap) (post : ((Nat → Int64) × (Nat → Int64)) → Prop) : ∀ (n : Nat) (x2 : Int32) (u0 : (Nat → Int64)) (u1 : (Nat → Int64)) (H : Heap) (locs : List Loc) (ls : Array Slot), zl (fun K st => j_X10_copyLongs_2 K st.1 st.2.1 st.2.2 post) n (x2, u0, u1) → va_P (zD E) vwCl (k_AJ E 40 q0 u0 ++ (k_AJ E 40 q1 u1)) H → va_D A (k_AJ E 40 q0 u0 ++ (k_AJ E 40 q1 u1)) → va_S A s.heap H locs → lv_has ls 3 [(0, .ref (q0 0)), (1, .ref (q1 0)), (2, .int x2)] → W p l e r_X10_copyLongs s m args below meth c H locs 0 0 (MQ below (va_Qv post (zAt E A (fun u => k_AJ E 40 q0 u.1 ++ (k_AJ E 40 q1 u.2))) A) args s 0 0 A) (F0 m 2 ls []) := by
  obtain ⟨hx, hb, hml, hr, hown, hts, hlocks, hin⟩ := id C0
  have hown : s.vm.findClass RX10 = some m.cls := hown
  intro n
  induction n with
  | zero => intro x2 u0 u1 H locs ls hw; exact hw.elim
  | succ n hk_2 =>
    intro x2 u0 u1 H locs ls hw hP hD hS hl
    have hw : j_X10_copyLongs_2 _ x2 u0 u1 post := hw
    refine lv_iload_n hx hb dX10_copyLongs_2 rfl (lv_at hl 2 rfl) ?_
    refine lv_bipush (v := 40) hx hb dX10_copyLongs_3 rfl ?_
    obtain ⟨hwt, hwf⟩ := hw
    refine lv_icmp_ge (tgt := 20) hx hb dX10_copyLongs_5 (by decide) (fun c_1 => ?_) (fun c_1 => ?_)
    · have hw := hwt c_1
      exact z_vret (k := (fun u => k_AJ E 40 q0 u.1 ++ (k_AJ E 40 q1 u.2))) (u0, u1) C0 hP hD hS hw dX10_copyLongs_20
    · have hw := hwf c_1
      refine lv_aload_n hx hb dX10_copyLongs_8 rfl (lv_at hl 1 rfl) ?_
      refine lv_iload_n hx hb dX10_copyLongs_9 rfl (lv_at hl 2 rfl) ?_
      refine lv_aload_n hx hb dX10_copyLongs_10 rfl (lv_at hl 0 rfl) ?_
      refine lv_iload_n hx hb dX10_copyLongs_11 rfl (lv_at hl 2 rfl) ?_
      obtain ⟨h_2, hw⟩ := hw
      refine va_lald hx hb hK hP 0 1 rfl rfl h_2 dX10_copyLongs_12 ?_
      refine lv_topl (fun x_3 ex_3 => ?_)
      have hw := hw x_3 ex_3
      obtain ⟨h_4, hw⟩ := hw
      refine va_last hx hb hK hP hD hS 1 1 rfl rfl h_4 dX10_copyLongs_13 (fun H locs hP hD hS => ?_)
      have hP : va_P (zD E) vwCl (k_AJ E 40 q0 u0 ++ (k_AJ E 40 q1 (vp_updL u1 x2.toNatClampNeg x_3))) H := hP
      have hD : va_D A (k_AJ E 40 q0 u0 ++ (k_AJ E 40 q1 (vp_updL u1 x2.toNatClampNeg x_3))) := hD
      obtain ⟨x_5, ex_5⟩ : ∃ y : Int32, y = x2 + 1 := ⟨_, rfl⟩
      have hw := hw x_5 ex_5
      refine lv_iinc (v := x_5) (lv' := [(2, .int x_5), (0, .ref (q0 0)), (1, .ref (q1 0))]) hx hb dX10_copyLongs_14 hl (k := 2) rfl (by rw [ex_5]; rfl) (by decide) rfl (fun ls hl => ?_)
      refine lv_goto (tgt := 2) hx hb dX10_copyLongs_17 (by decide) ?_
      exact hk_2 x_5 u0 (vp_updL u1 x2.toNatClampNeg x_3) _ _ _ hw hP hD hS (lv_sub hl [1, 2, 0] rfl)
set_option maxHeartbeats 4000000 in
set_option maxRecDepth 100000 in
theorem c_X10_copyLongs (l : Launch) (E : zE) (Z : zZ) (hZ0 : zSt Z) (q0 : Nat → Nat) (q1 : Nat → Nat) (sz : Nat) (u0 : (Nat → Int64)) (u1 : (Nat → Int64)) (post : ((Nat → Int64) × (Nat → Int64)) → Prop) (hw : wp_X10_copyLongs u0 u1 post) : Met l yX10_copyLongs (zws yX10_copyLongs cX10_copyLongs 3 none) r_X10_copyLongs (va_Pc [.ref (q0 0), .ref (q1 0)] (zPre Z E (k_AJ E 40 q0 u0 ++ (k_AJ E 40 q1 u1)) sz)) (va_Qv post (zAt E (va_A (k_AJ E 40 q0 u0 ++ (k_AJ E 40 q1 u1)) sz) (fun u => k_AJ E 40 q0 u.1 ++ (k_AJ E 40 q1 u.2))) (va_A (k_AJ E 40 q0 u0 ++ (k_AJ E 40 q1 u1)) sz)) 0 0 (va_A (k_AJ E 40 q0 u0 ++ (k_AJ E 40 q1 u1)) sz) := by
  refine z_ofW (Qf := fun A => va_Qv post (zAt E A (fun u => k_AJ E 40 q0 u.1 ++ (k_AJ E 40 q1 u.2))) A) (by decide) (Nat.le_of_ble_eq_true rfl) ?_
  intro p e s m args below meth c A ls C0 hA hK hZ hP hD hS hl
  obtain ⟨hx, hb, hml, hr, hown, hts, hlocks, hin⟩ := id C0
  have hown : s.vm.findClass RX10 = some m.cls := hown
  have hl : lv_has ls 3 [(0, .ref (q0 0)), (1, .ref (q1 0))] := hl
  refine lv_iconst (v := 0) hx hb dX10_copyLongs_0 rfl ?_
  refine lv_istore_n (lv' := [(2, .int (0 : Int32)), (0, .ref (q0 0)), (1, .ref (q1 0))]) hx hb dX10_copyLongs_1 rfl hl (by decide) rfl (fun ls hl => ?_)
  obtain ⟨n9, hw⟩ := hw
  exact t_X10_copyLongs_2 (l := l) hZ0 C0 hA hK hZ post n9 (0 : Int32) u0 u1 _ _ _ hw hP hD hS (lv_sub hl [1, 2, 0] rfl)
abbrev r_X10_deliver : Room := { frames := 1, cells := 0, slots := 0, locals := 21 }
def wp_X10_deliver (u0 : (Nat → Int32)) (p1 : Int32) (p2 : Int32) (post : Int32 → (Nat → Int32) → Prop) : Prop := wp_X10_period p1 (fun r_2 u_1 => vp_in (r_2 + (3 : Int32)) 1728 ∧ (wp_X10_min (u0 (r_2 + (3 : Int32)).toNatClampNeg) p2 (fun r_5 u_4 => wp_X10_period p1 (fun r_7 u_6 => vp_in (r_7 + (3 : Int32)) 1728 ∧ (∀ x_9 : Int32, x_9 = ((u0 (r_7 + (3 : Int32)).toNatClampNeg) - r_5) → (vp_in (r_7 + (3 : Int32)) 1728 ∧ (post r_5 (upd u0 (r_7 + (3 : Int32)).toNatClampNeg x_9))))))))
set_option maxHeartbeats 4000000 in
set_option maxRecDepth 100000 in
theorem c_X10_deliver (l : Launch) (E : zE) (Z : zZ) (hZ0 : zSt Z) (q0 : Nat → Nat) (sz : Nat) (u0 : (Nat → Int32)) (p1 : Int32) (p2 : Int32) (post : Int32 → (Nat → Int32) → Prop) (hw : wp_X10_deliver u0 p1 p2 post) : Met l yX10_deliver (zws yX10_deliver cX10_deliver 4 (some .int)) r_X10_deliver (va_Pc [.ref (q0 0), .int p1, .int p2] (zPre Z E (k_AI E 1728 q0 u0) sz)) (va_Qi post (zAt E (va_A (k_AI E 1728 q0 u0) sz) (fun u => k_AI E 1728 q0 u)) (va_A (k_AI E 1728 q0 u0) sz)) 0 0 (va_A (k_AI E 1728 q0 u0) sz) := by
  refine z_ofW (Qf := fun A => va_Qi post (zAt E A (fun u => k_AI E 1728 q0 u)) A) (by decide) (Nat.le_of_ble_eq_true rfl) ?_
  intro p e s m args below meth c A ls C0 hA hK hZ hP hD hS hl
  obtain ⟨hx, hb, hml, hr, hown, hts, hlocks, hin⟩ := id C0
  have hown : s.vm.findClass RX10 = some m.cls := hown
  have hl : lv_has ls 4 [(0, .ref (q0 0)), (1, .int p1), (2, .int p2)] := hl
  refine lv_aload_n hx hb dX10_deliver_0 rfl (lv_at hl 0 rfl) ?_
  refine lv_iload_n hx hb dX10_deliver_1 rfl (lv_at hl 1 rfl) ?_
  refine z_ki (z_rS (rest := [.ref (q0 0)]) hZ0 C0 hK hZ hA hP hD hS hl.1 (c_X10_period l E Z hZ0 s.heap.size p1 _ hw) yv_X10_148 [] rfl (by decide) ⟨Nat.le_of_ble_eq_true rfl, Nat.le_of_ble_eq_true rfl⟩ ⟨rfl, rfl⟩ rfl rfl (Nat.le_of_ble_eq_true rfl) ⟨Nat.le_of_ble_eq_true rfl, Nat.le_of_ble_eq_true rfl⟩ dX10_deliver_2) hP hD hS hA [] [0] [0] rfl (wr := [_]) rfl (by decide) (by decide) (fun u => k_AI E 1728 q0 u0) (fun u => rfl) (by decide) (fun r_2 u_1 H locs hw hP hD hS => ?_)
  refine lv_iconst (v := 3) hx hb dX10_deliver_5 rfl ?_
  refine lv_iadd hx hb dX10_deliver_6 ?_
  obtain ⟨h_3, hw⟩ := hw
  refine va_iald hx hb hK hP 0 0 rfl rfl h_3 dX10_deliver_7 ?_
  refine lv_iload_n hx hb dX10_deliver_8 rfl (lv_at hl 2 rfl) ?_
  refine z_ki (z_rS (rest := []) hZ0 C0 hK hZ hA hP hD hS hl.1 (c_X10_min l E Z hZ0 H.size (u0 (r_2 + (3 : Int32)).toNatClampNeg) p2 _ hw) yv_X10_107 [] rfl (by decide) ⟨Nat.le_of_ble_eq_true rfl, Nat.le_of_ble_eq_true rfl⟩ ⟨rfl, rfl⟩ rfl rfl (Nat.le_of_ble_eq_true rfl) ⟨Nat.le_of_ble_eq_true rfl, Nat.le_of_ble_eq_true rfl⟩ dX10_deliver_9) hP hD hS hA [] [0] [0] rfl (wr := [_]) rfl (by decide) (by decide) (fun u => k_AI E 1728 q0 u0) (fun u => rfl) (by decide) (fun r_5 u_4 H locs hw hP hD hS => ?_)
  refine lv_istore_n (lv' := [(3, .int r_5), (0, .ref (q0 0)), (1, .int p1), (2, .int p2)]) hx hb dX10_deliver_12 rfl hl (by decide) rfl (fun ls hl => ?_)
  refine lv_aload_n hx hb dX10_deliver_13 rfl (lv_at hl 1 rfl) ?_
  refine lv_iload_n hx hb dX10_deliver_14 rfl (lv_at hl 2 rfl) ?_
  refine z_ki (z_rS (rest := [.ref (q0 0)]) hZ0 C0 hK hZ hA hP hD hS hl.1 (c_X10_period l E Z hZ0 H.size p1 _ hw) yv_X10_148 [] rfl (by decide) ⟨Nat.le_of_ble_eq_true rfl, Nat.le_of_ble_eq_true rfl⟩ ⟨rfl, rfl⟩ rfl rfl (Nat.le_of_ble_eq_true rfl) ⟨Nat.le_of_ble_eq_true rfl, Nat.le_of_ble_eq_true rfl⟩ dX10_deliver_15) hP hD hS hA [] [0] [0] rfl (wr := [_]) rfl (by decide) (by decide) (fun u => k_AI E 1728 q0 u0) (fun u => rfl) (by decide) (fun r_7 u_6 H locs hw hP hD hS => ?_)
  refine lv_iconst (v := 3) hx hb dX10_deliver_18 rfl ?_
  refine lv_iadd hx hb dX10_deliver_19 ?_
  refine lv_dup2_11 hx hb dX10_deliver_20 rfl rfl ?_
  obtain ⟨h_8, hw⟩ := hw
  refine va_iald hx hb hK hP 0 0 rfl rfl h_8 dX10_deliver_21 ?_
  refine lv_iload_n hx hb dX10_deliver_22 rfl (lv_at hl 0 rfl) ?_
  refine lv_isub hx hb dX10_deliver_23 ?_
  refine lv_topi (fun x_9 ex_9 => ?_)
  have hw := hw x_9 ex_9
  obtain ⟨h_10, hw⟩ := hw
  refine va_iast hx hb hK hP hD hS 0 0 rfl rfl h_10 dX10_deliver_24 (fun H locs hP hD hS => ?_)
  have hP : va_P (zD E) vwCl (k_AI E 1728 q0 (upd u0 (r_7 + (3 : Int32)).toNatClampNeg x_9)) H := hP
  have hD : va_D A (k_AI E 1728 q0 (upd u0 (r_7 + (3 : Int32)).toNatClampNeg x_9)) := hD
  refine lv_iload_n hx hb dX10_deliver_25 rfl (lv_at hl 0 rfl) ?_
  exact z_iret (k := (fun u => k_AI E 1728 q0 u)) (upd u0 (r_7 + (3 : Int32)).toNatClampNeg x_9) C0 hP hD hS hw dX10_deliver_26
abbrev r_X10_miss : Room := { frames := 1, cells := 0, slots := 0, locals := 20 }
def wp_X10_miss (u0 : (Nat → Int32)) (p1 : Int32) (post : Int32 → (Nat → Int32) → Prop) : Prop := wp_X10_period p1 (fun r_2 u_1 => vp_in (r_2 + (3 : Int32)) 1728 ∧ (∀ x_4 : Int32, x_4 = (u0 (r_2 + (3 : Int32)).toNatClampNeg) → (wp_X10_period p1 (fun r_6 u_5 => vp_in (r_6 + (4 : Int32)) 1728 ∧ (∀ x_8 : Int32, x_8 = ((u0 (r_6 + (4 : Int32)).toNatClampNeg) + x_4) → (vp_in (r_6 + (4 : Int32)) 1728 ∧ (wp_X10_period p1 (fun r_11 u_10 => vp_in (r_11 + (3 : Int32)) 1728 ∧ (post x_4 (upd (upd u0 (r_6 + (4 : Int32)).toNatClampNeg x_8) (r_11 + (3 : Int32)).toNatClampNeg (0 : Int32)))))))))))
set_option maxHeartbeats 4000000 in
set_option maxRecDepth 100000 in
theorem c_X10_miss (l : Launch) (E : zE) (Z : zZ) (hZ0 : zSt Z) (q0 : Nat → Nat) (sz : Nat) (u0 : (Nat → Int32)) (p1 : Int32) (post : Int32 → (Nat → Int32) → Prop) (hw : wp_X10_miss u0 p1 post) : Met l yX10_miss (zws yX10_miss cX10_miss 3 (some .int)) r_X10_miss (va_Pc [.ref (q0 0), .int p1] (zPre Z E (k_AI E 1728 q0 u0) sz)) (va_Qi post (zAt E (va_A (k_AI E 1728 q0 u0) sz) (fun u => k_AI E 1728 q0 u)) (va_A (k_AI E 1728 q0 u0) sz)) 0 0 (va_A (k_AI E 1728 q0 u0) sz) := by
  refine z_ofW (Qf := fun A => va_Qi post (zAt E A (fun u => k_AI E 1728 q0 u)) A) (by decide) (Nat.le_of_ble_eq_true rfl) ?_
  intro p e s m args below meth c A ls C0 hA hK hZ hP hD hS hl
  obtain ⟨hx, hb, hml, hr, hown, hts, hlocks, hin⟩ := id C0
  have hown : s.vm.findClass RX10 = some m.cls := hown
  have hl : lv_has ls 3 [(0, .ref (q0 0)), (1, .int p1)] := hl
  refine lv_aload_n hx hb dX10_miss_0 rfl (lv_at hl 0 rfl) ?_
  refine lv_iload_n hx hb dX10_miss_1 rfl (lv_at hl 1 rfl) ?_
  refine z_ki (z_rS (rest := [.ref (q0 0)]) hZ0 C0 hK hZ hA hP hD hS hl.1 (c_X10_period l E Z hZ0 s.heap.size p1 _ hw) yv_X10_148 [] rfl (by decide) ⟨Nat.le_of_ble_eq_true rfl, Nat.le_of_ble_eq_true rfl⟩ ⟨rfl, rfl⟩ rfl rfl (Nat.le_of_ble_eq_true rfl) ⟨Nat.le_of_ble_eq_true rfl, Nat.le_of_ble_eq_true rfl⟩ dX10_miss_2) hP hD hS hA [] [0] [0] rfl (wr := [_]) rfl (by decide) (by decide) (fun u => k_AI E 1728 q0 u0) (fun u => rfl) (by decide) (fun r_2 u_1 H locs hw hP hD hS => ?_)
  refine lv_iconst (v := 3) hx hb dX10_miss_5 rfl ?_
  refine lv_iadd hx hb dX10_miss_6 ?_
  obtain ⟨h_3, hw⟩ := hw
  refine va_iald hx hb hK hP 0 0 rfl rfl h_3 dX10_miss_7 ?_
  refine lv_topi (fun x_4 ex_4 => ?_)
  have hw := hw x_4 ex_4
  refine lv_istore_n (lv' := [(2, .int x_4), (0, .ref (q0 0)), (1, .int p1)]) hx hb dX10_miss_8 rfl hl (by decide) rfl (fun ls hl => ?_)
  refine lv_aload_n hx hb dX10_miss_9 rfl (lv_at hl 1 rfl) ?_
  refine lv_iload_n hx hb dX10_miss_10 rfl (lv_at hl 2 rfl) ?_
  refine z_ki (z_rS (rest := [.ref (q0 0)]) hZ0 C0 hK hZ hA hP hD hS hl.1 (c_X10_period l E Z hZ0 H.size p1 _ hw) yv_X10_148 [] rfl (by decide) ⟨Nat.le_of_ble_eq_true rfl, Nat.le_of_ble_eq_true rfl⟩ ⟨rfl, rfl⟩ rfl rfl (Nat.le_of_ble_eq_true rfl) ⟨Nat.le_of_ble_eq_true rfl, Nat.le_of_ble_eq_true rfl⟩ dX10_miss_11) hP hD hS hA [] [0] [0] rfl (wr := [_]) rfl (by decide) (by decide) (fun u => k_AI E 1728 q0 u0) (fun u => rfl) (by decide) (fun r_6 u_5 H locs hw hP hD hS => ?_)
  refine lv_iconst (v := 4) hx hb dX10_miss_14 rfl ?_
  refine lv_iadd hx hb dX10_miss_15 ?_
  refine lv_dup2_11 hx hb dX10_miss_16 rfl rfl ?_
  obtain ⟨h_7, hw⟩ := hw
  refine va_iald hx hb hK hP 0 0 rfl rfl h_7 dX10_miss_17 ?_
  refine lv_iload_n hx hb dX10_miss_18 rfl (lv_at hl 0 rfl) ?_
  refine lv_iadd hx hb dX10_miss_19 ?_
  refine lv_topi (fun x_8 ex_8 => ?_)
  have hw := hw x_8 ex_8
  obtain ⟨h_9, hw⟩ := hw
  refine va_iast hx hb hK hP hD hS 0 0 rfl rfl h_9 dX10_miss_20 (fun H locs hP hD hS => ?_)
  have hP : va_P (zD E) vwCl (k_AI E 1728 q0 (upd u0 (r_6 + (4 : Int32)).toNatClampNeg x_8)) H := hP
  have hD : va_D A (k_AI E 1728 q0 (upd u0 (r_6 + (4 : Int32)).toNatClampNeg x_8)) := hD
  refine lv_aload_n hx hb dX10_miss_21 rfl (lv_at hl 1 rfl) ?_
  refine lv_iload_n hx hb dX10_miss_22 rfl (lv_at hl 2 rfl) ?_
  refine z_ki (z_rS (rest := [.ref (q0 0)]) hZ0 C0 hK hZ hA hP hD hS hl.1 (c_X10_period l E Z hZ0 H.size p1 _ hw) yv_X10_148 [] rfl (by decide) ⟨Nat.le_of_ble_eq_true rfl, Nat.le_of_ble_eq_true rfl⟩ ⟨rfl, rfl⟩ rfl rfl (Nat.le_of_ble_eq_true rfl) ⟨Nat.le_of_ble_eq_true rfl, Nat.le_of_ble_eq_true rfl⟩ dX10_miss_23) hP hD hS hA [] [0] [0] rfl (wr := [_]) rfl (by decide) (by decide) (fun u => k_AI E 1728 q0 (upd u0 (r_6 + (4 : Int32)).toNatClampNeg x_8)) (fun u => rfl) (by decide) (fun r_11 u_10 H locs hw hP hD hS => ?_)
  refine lv_iconst (v := 3) hx hb dX10_miss_26 rfl ?_
  refine lv_iadd hx hb dX10_miss_27 ?_
  refine lv_iconst (v := 0) hx hb dX10_miss_28 rfl ?_
  obtain ⟨h_12, hw⟩ := hw
  refine va_iast hx hb hK hP hD hS 0 0 rfl rfl h_12 dX10_miss_29 (fun H locs hP hD hS => ?_)
  have hP : va_P (zD E) vwCl (k_AI E 1728 q0 (upd (upd u0 (r_6 + (4 : Int32)).toNatClampNeg x_8) (r_11 + (3 : Int32)).toNatClampNeg (0 : Int32))) H := hP
  have hD : va_D A (k_AI E 1728 q0 (upd (upd u0 (r_6 + (4 : Int32)).toNatClampNeg x_8) (r_11 + (3 : Int32)).toNatClampNeg (0 : Int32))) := hD
  refine lv_iload_n hx hb dX10_miss_30 rfl (lv_at hl 0 rfl) ?_
  exact z_iret (k := (fun u => k_AI E 1728 q0 u)) (upd (upd u0 (r_6 + (4 : Int32)).toNatClampNeg x_8) (r_11 + (3 : Int32)).toNatClampNeg (0 : Int32)) C0 hP hD hS hw dX10_miss_31
abbrev r_X10_place : Room := { frames := 1, cells := 0, slots := 0, locals := 20 }
def wp_X10_place (u0 : (Nat → Int32)) (p1 : Int32) (p2 : Int32) (post : (Nat → Int32) → Prop) : Prop := wp_X10_period p1 (fun r_2 u_1 => vp_in (r_2 + (2 : Int32)) 1728 ∧ (wp_X10_period p1 (fun r_5 u_4 => vp_in (r_5 + (3 : Int32)) 1728 ∧ (post (upd (upd u0 (r_2 + (2 : Int32)).toNatClampNeg p2) (r_5 + (3 : Int32)).toNatClampNeg p2)))))
set_option maxHeartbeats 4000000 in
set_option maxRecDepth 100000 in
theorem c_X10_place (l : Launch) (E : zE) (Z : zZ) (hZ0 : zSt Z) (q0 : Nat → Nat) (sz : Nat) (u0 : (Nat → Int32)) (p1 : Int32) (p2 : Int32) (post : (Nat → Int32) → Prop) (hw : wp_X10_place u0 p1 p2 post) : Met l yX10_place (zws yX10_place cX10_place 3 none) r_X10_place (va_Pc [.ref (q0 0), .int p1, .int p2] (zPre Z E (k_AI E 1728 q0 u0) sz)) (va_Qv post (zAt E (va_A (k_AI E 1728 q0 u0) sz) (fun u => k_AI E 1728 q0 u)) (va_A (k_AI E 1728 q0 u0) sz)) 0 0 (va_A (k_AI E 1728 q0 u0) sz) := by
  refine z_ofW (Qf := fun A => va_Qv post (zAt E A (fun u => k_AI E 1728 q0 u)) A) (by decide) (Nat.le_of_ble_eq_true rfl) ?_
  intro p e s m args below meth c A ls C0 hA hK hZ hP hD hS hl
  obtain ⟨hx, hb, hml, hr, hown, hts, hlocks, hin⟩ := id C0
  have hown : s.vm.findClass RX10 = some m.cls := hown
  have hl : lv_has ls 3 [(0, .ref (q0 0)), (1, .int p1), (2, .int p2)] := hl
  refine lv_aload_n hx hb dX10_place_0 rfl (lv_at hl 0 rfl) ?_
  refine lv_iload_n hx hb dX10_place_1 rfl (lv_at hl 1 rfl) ?_
  refine z_ki (z_rS (rest := [.ref (q0 0)]) hZ0 C0 hK hZ hA hP hD hS hl.1 (c_X10_period l E Z hZ0 s.heap.size p1 _ hw) yv_X10_148 [] rfl (by decide) ⟨Nat.le_of_ble_eq_true rfl, Nat.le_of_ble_eq_true rfl⟩ ⟨rfl, rfl⟩ rfl rfl (Nat.le_of_ble_eq_true rfl) ⟨Nat.le_of_ble_eq_true rfl, Nat.le_of_ble_eq_true rfl⟩ dX10_place_2) hP hD hS hA [] [0] [0] rfl (wr := [_]) rfl (by decide) (by decide) (fun u => k_AI E 1728 q0 u0) (fun u => rfl) (by decide) (fun r_2 u_1 H locs hw hP hD hS => ?_)
  refine lv_iconst (v := 2) hx hb dX10_place_5 rfl ?_
  refine lv_iadd hx hb dX10_place_6 ?_
  refine lv_iload_n hx hb dX10_place_7 rfl (lv_at hl 2 rfl) ?_
  obtain ⟨h_3, hw⟩ := hw
  refine va_iast hx hb hK hP hD hS 0 0 rfl rfl h_3 dX10_place_8 (fun H locs hP hD hS => ?_)
  have hP : va_P (zD E) vwCl (k_AI E 1728 q0 (upd u0 (r_2 + (2 : Int32)).toNatClampNeg p2)) H := hP
  have hD : va_D A (k_AI E 1728 q0 (upd u0 (r_2 + (2 : Int32)).toNatClampNeg p2)) := hD
  refine lv_aload_n hx hb dX10_place_9 rfl (lv_at hl 0 rfl) ?_
  refine lv_iload_n hx hb dX10_place_10 rfl (lv_at hl 1 rfl) ?_
  refine z_ki (z_rS (rest := [.ref (q0 0)]) hZ0 C0 hK hZ hA hP hD hS hl.1 (c_X10_period l E Z hZ0 H.size p1 _ hw) yv_X10_148 [] rfl (by decide) ⟨Nat.le_of_ble_eq_true rfl, Nat.le_of_ble_eq_true rfl⟩ ⟨rfl, rfl⟩ rfl rfl (Nat.le_of_ble_eq_true rfl) ⟨Nat.le_of_ble_eq_true rfl, Nat.le_of_ble_eq_true rfl⟩ dX10_place_11) hP hD hS hA [] [0] [0] rfl (wr := [_]) rfl (by decide) (by decide) (fun u => k_AI E 1728 q0 (upd u0 (r_2 + (2 : Int32)).toNatClampNeg p2)) (fun u => rfl) (by decide) (fun r_5 u_4 H locs hw hP hD hS => ?_)
  refine lv_iconst (v := 3) hx hb dX10_place_14 rfl ?_
  refine lv_iadd hx hb dX10_place_15 ?_
  refine lv_iload_n hx hb dX10_place_16 rfl (lv_at hl 2 rfl) ?_
  obtain ⟨h_6, hw⟩ := hw
  refine va_iast hx hb hK hP hD hS 0 0 rfl rfl h_6 dX10_place_17 (fun H locs hP hD hS => ?_)
  have hP : va_P (zD E) vwCl (k_AI E 1728 q0 (upd (upd u0 (r_2 + (2 : Int32)).toNatClampNeg p2) (r_5 + (3 : Int32)).toNatClampNeg p2)) H := hP
  have hD : va_D A (k_AI E 1728 q0 (upd (upd u0 (r_2 + (2 : Int32)).toNatClampNeg p2) (r_5 + (3 : Int32)).toNatClampNeg p2)) := hD
  exact z_vret (k := (fun u => k_AI E 1728 q0 u)) (upd (upd u0 (r_2 + (2 : Int32)).toNatClampNeg p2) (r_5 + (3 : Int32)).toNatClampNeg p2) C0 hP hD hS hw dX10_place_18
abbrev r_X10_isOpen : Room := { frames := 0, cells := 0, slots := 0, locals := 0 }
def wp_X10_isOpen (u0 : (Nat → Int32)) (post : Int32 → (Nat → Int32) → Prop) : Prop := ((u0 0) ≤ (u0 1) → (post (0 : Int32) u0)) ∧ (¬ ((u0 0) ≤ (u0 1)) → (post (1 : Int32) u0))
set_option maxHeartbeats 4000000 in
set_option maxRecDepth 100000 in
theorem c_X10_isOpen (l : Launch) (E : zE) (Z : zZ) (hZ0 : zSt Z) (q0 : Nat → Nat) (sz : Nat) (u0 : (Nat → Int32)) (post : Int32 → (Nat → Int32) → Prop) (hw : wp_X10_isOpen u0 post) : Met l yX10_isOpen (zws yX10_isOpen cX10_isOpen 1 (some .boolean)) r_X10_isOpen (va_Pc [.ref (q0 0)] (zPre Z E (k_AI E 1728 q0 u0) sz)) (va_Qi post (zAt E (va_A (k_AI E 1728 q0 u0) sz) (fun u => k_AI E 1728 q0 u)) (va_A (k_AI E 1728 q0 u0) sz)) 0 0 (va_A (k_AI E 1728 q0 u0) sz) := by
  refine z_ofW (Qf := fun A => va_Qi post (zAt E A (fun u => k_AI E 1728 q0 u)) A) (by decide) (Nat.le_of_ble_eq_true rfl) ?_
  intro p e s m args below meth c A ls C0 hA hK hZ hP hD hS hl
  obtain ⟨hx, hb, hml, hr, hown, hts, hlocks, hin⟩ := id C0
  have hown : s.vm.findClass RX10 = some m.cls := hown
  have hl : lv_has ls 1 [(0, .ref (q0 0))] := hl
  refine lv_aload_n hx hb dX10_isOpen_0 rfl (lv_at hl 0 rfl) ?_
  refine lv_iconst (v := 1) hx hb dX10_isOpen_1 rfl ?_
  refine va_iald hx hb hK hP 0 0 rfl rfl (show ¬ ((1 : Int32) < 0 ∨ 1728 ≤ (1 : Int32).toNatClampNeg) by decide) dX10_isOpen_2 ?_
  refine W.eq (g2 := F0 m 3 ls ([.int (u0 1)])) rfl ?_
  refine lv_aload_n hx hb dX10_isOpen_3 rfl (lv_at hl 0 rfl) ?_
  refine lv_iconst (v := 0) hx hb dX10_isOpen_4 rfl ?_
  refine va_iald hx hb hK hP 0 0 rfl rfl (show ¬ ((0 : Int32) < 0 ∨ 1728 ≤ (0 : Int32).toNatClampNeg) by decide) dX10_isOpen_5 ?_
  refine W.eq (g2 := F0 m 6 ls ([.int (u0 0), .int (u0 1)])) rfl ?_
  obtain ⟨hwt, hwf⟩ := hw
  refine lv_icmp_ge (tgt := 13) hx hb dX10_isOpen_6 (by decide) (fun c_1 => ?_) (fun c_1 => ?_)
  · have hw := hwt c_1
    refine lv_iconst (v := 0) hx hb dX10_isOpen_13 rfl ?_
    exact z_zret (k := (fun u => k_AI E 1728 q0 u)) u0 C0 rfl hP hD hS hw dX10_isOpen_14
  · have hw := hwf c_1
    refine lv_iconst (v := 1) hx hb dX10_isOpen_9 rfl ?_
    refine lv_goto (tgt := 14) hx hb dX10_isOpen_10 (by decide) ?_
    exact z_zret (k := (fun u => k_AI E 1728 q0 u)) u0 C0 rfl hP hD hS hw dX10_isOpen_14
abbrev r_X10_closeOne : Room := { frames := 2, cells := 0, slots := 0, locals := 44 }
def j_X10_closeOne_175 (x2 : Int32) (x4 : Int32) (x5 : Int32) (x6 : Int32) (x7 : Int32) (x9 : Int32) (u0 : (Nat → Int32)) (u1 : (Nat → Int64)) (post : ((Nat → Int32) × (Nat → Int64)) → Prop) : Prop := ∀ x_29 : Int64, x_29 = ((((((u0 3).toInt64) * x4.toInt64) + (((u0 2).toInt64) * ((x5 + x9).toInt64))) + (((u0 5).toInt64) * x6.toInt64)) - (((u0 8).toInt64) * x7.toInt64)) → (vp_in x2 40 ∧ (post (u0, (vp_updL u1 x2.toNatClampNeg x_29))))
def j_X10_closeOne_150 (K150 : (Int32 × Int32 × Int32 × Int32 × Int32 × Int32 × Int32 × (Nat → Int32) × (Nat → Int64)) → Prop) (x2 : Int32) (x4 : Int32) (x5 : Int32) (x6 : Int32) (x7 : Int32) (x9 : Int32) (x10 : Int32) (u0 : (Nat → Int32)) (u1 : (Nat → Int64)) (post : ((Nat → Int32) × (Nat → Int64)) → Prop) : Prop := ((u0 0) ≤ x10 → (j_X10_closeOne_175 x2 x4 x5 x6 x7 x9 u0 u1 post)) ∧ (¬ ((u0 0) ≤ x10) → (wp_X10_miss u0 x10 (fun r_33 u_32 => ∀ x_34 : Int32, x_34 = (x7 + r_33) → (∀ x_35 : Int32, x_35 = x10 + 1 → (K150 (x2, x4, x5, x6, x_34, x9, x_35, u_32, u1))))))
def j_X10_closeOne_109 (x2 : Int32) (x3 : Int32) (x4 : Int32) (x5 : Int32) (x6 : Int32) (x7 : Int32) (u0 : (Nat → Int32)) (u1 : (Nat → Int64)) (post : ((Nat → Int32) × (Nat → Int64)) → Prop) : Prop := vp_in (x3 + (2 : Int32)) 1728 ∧ (wp_X10_max (0 : Int32) (((x4 * (u0 7)) / (100 : Int32)) - (u0 (x3 + (2 : Int32)).toNatClampNeg)) (fun r_26 u_25 => ∀ x_27 : Int32, x_27 = ((u0 1) + (1 : Int32)) → ((¬ (((upd u0 1 x_27) 1) = ((upd u0 1 x_27) 0)) → (j_X10_closeOne_175 x2 x4 x5 x6 x7 r_26 (upd u0 1 x_27) u1 post)) ∧ (((upd u0 1 x_27) 1) = ((upd u0 1 x_27) 0) → (∃ n, zl (fun K st => j_X10_closeOne_150 K st.1 st.2.1 st.2.2.1 st.2.2.2.1 st.2.2.2.2.1 st.2.2.2.2.2.1 st.2.2.2.2.2.2.1 st.2.2.2.2.2.2.2.1 st.2.2.2.2.2.2.2.2 post) n (x2, x4, x5, x6, x7, r_26, (0 : Int32), (upd u0 1 x_27), u1))))))
def j_X10_closeOne_57 (K57 : (Int32 × Int32 × Int32 × Int32 × Int32 × Int32 × Int32 × Int32 × (Nat → Int32) × (Nat → Int64)) → Prop) (x2 : Int32) (x3 : Int32) (x4 : Int32) (x5 : Int32) (x6 : Int32) (x7 : Int32) (x8 : Int32) (x9 : Int32) (u0 : (Nat → Int32)) (u1 : (Nat → Int64)) (post : ((Nat → Int32) × (Nat → Int64)) → Prop) : Prop := (x2 < x9 → ((x8 < 0 → (j_X10_closeOne_109 x2 x3 x4 x5 x6 x7 u0 u1 post)) ∧ (¬ (x8 < 0) → (wp_X10_deliver u0 x8 (u0 4) (fun r_17 u_16 => wp_X10_miss u_16 x8 (fun r_19 u_18 => j_X10_closeOne_109 x2 x3 x4 x5 r_17 r_19 u_18 u1 post)))))) ∧ (¬ (x2 < x9) → (wp_X10_deliver u0 x9 (x4 - x5) (fun r_21 u_20 => ∀ x_22 : Int32, x_22 = (x5 + r_21) → (∀ x_23 : Int32, x_23 = x9 + 1 → (K57 (x2, x3, x4, x_22, x6, x7, x8, x_23, u_20, u1))))))
def j_X10_closeOne_49 (x2 : Int32) (x3 : Int32) (x4 : Int32) (x5 : Int32) (x6 : Int32) (x7 : Int32) (x8 : Int32) (u0 : (Nat → Int32)) (u1 : (Nat → Int64)) (post : ((Nat → Int32) × (Nat → Int64)) → Prop) : Prop := wp_X10_max (0 : Int32) x8 (fun r_13 u_12 => ∃ n, zl (fun K st => j_X10_closeOne_57 K st.1 st.2.1 st.2.2.1 st.2.2.2.1 st.2.2.2.2.1 st.2.2.2.2.2.1 st.2.2.2.2.2.2.1 st.2.2.2.2.2.2.2.1 st.2.2.2.2.2.2.2.2.1 st.2.2.2.2.2.2.2.2.2 post) n (x2, x3, x4, x5, x6, x7, x8, r_13, u0, u1))
def wp_X10_closeOne (u0 : (Nat → Int32)) (u1 : (Nat → Int64)) (post : ((Nat → Int32) × (Nat → Int64)) → Prop) : Prop := ∀ x_1 : Int32, x_1 = (u0 1) → (wp_X10_period x_1 (fun r_3 u_2 => vp_in r_3 1728 ∧ (∀ x_5 : Int32, x_5 = (u0 r_3.toNatClampNeg) → (∀ x_6 : Int32, x_6 = (x_1 - (u0 6)) → (vp_in (r_3 + (2 : Int32)) 1728 ∧ ((0 ≤ (u0 (r_3 + (2 : Int32)).toNatClampNeg) → (j_X10_closeOne_49 x_1 r_3 x_5 (0 : Int32) (0 : Int32) (0 : Int32) x_6 u0 u1 post)) ∧ (¬ (0 ≤ (u0 (r_3 + (2 : Int32)).toNatClampNeg)) → (vp_in (r_3 + (1 : Int32)) 1728 ∧ (wp_X10_place u0 x_1 (u0 (r_3 + (1 : Int32)).toNatClampNeg) (fun u_10 => j_X10_closeOne_49 x_1 r_3 x_5 (0 : Int32) (0 : Int32) (0 : Int32) x_6 u_10 u1 post))))))))))
set_option maxHeartbeats 4000000 in
set_option maxRecDepth 100000 in
theorem t_X10_closeOne_175 {p : Program} {l : Launch} {e : Env} {s : State} {m : MethodId} {args : Array Value} {below : List Frame} {meth : Method} {c : Code} {Z : zZ} {E : zE} {A : Nat → Prop} {q0 : Nat → Nat} {q1 : Nat → Nat} (hZ0 : zSt Z) (C0 : zC p s m args meth c yX10_closeOne cX10_closeOne 11 none) (hA : ∀ q : Nat, s.heap.size ≤ q → A q) (hK : va_K (zD E) vwCl (zT E) s) (hZ : Z A s s.heap) (post : ((Nat → Int32) × (Nat → Int64)) → Prop) : ∀ (x2 : Int32) (x4 : Int32) (x5 : Int32) (x6 : Int32) (x7 : Int32) (x9 : Int32) (u0 : (Nat → Int32)) (u1 : (Nat → Int64)) (H : Heap) (locs : List Loc) (ls : Array Slot), j_X10_closeOne_175 x2 x4 x5 x6 x7 x9 u0 u1 post → va_P (zD E) vwCl (k_AI E 1728 q0 u0 ++ (k_AJ E 40 q1 u1)) H → va_D A (k_AI E 1728 q0 u0 ++ (k_AJ E 40 q1 u1)) → va_S A s.heap H locs → lv_has ls 11 [(0, .ref (q0 0)), (1, .ref (q1 0)), (2, .int x2), (4, .int x4), (5, .int x5), (6, .int x6), (7, .int x7), (9, .int x9)] → W p l e r_X10_closeOne s m args below meth c H locs 0 0 (MQ below (va_Qv post (zAt E A (fun u => k_AI E 1728 q0 u.1 ++ (k_AJ E 40 q1 u.2))) A) args s 0 0 A) (F0 m 175 ls []) := by
  obtain ⟨hx, hb, hml, hr, hown, hts, hlocks, hin⟩ := id C0
  have hown : s.vm.findClass RX10 = some m.cls := hown
  intro x2 x4 x5 x6 x7 x9 u0 u1 H locs ls hw hP hD hS hl
  refine lv_aload_n hx hb dX10_closeOne_175 rfl (lv_at hl 1 rfl) ?_
  refine lv_iload_n hx hb dX10_closeOne_176 rfl (lv_at hl 2 rfl) ?_
  refine lv_aload_n hx hb dX10_closeOne_177 rfl (lv_at hl 0 rfl) ?_
  refine lv_iconst (v := 3) hx hb dX10_closeOne_178 rfl ?_
  refine va_iald hx hb hK hP 0 0 rfl rfl (show ¬ ((3 : Int32) < 0 ∨ 1728 ≤ (3 : Int32).toNatClampNeg) by decide) dX10_closeOne_179 ?_
  refine W.eq (g2 := F0 m 180 ls ([.int (u0 3), .int x2, .ref (q1 0)])) rfl ?_
  refine lv_i2l hx hb dX10_closeOne_180 rfl ?_
  refine lv_iload hx hb dX10_closeOne_181 (lv_at hl 3 rfl) ?_
  refine lv_i2l hx hb dX10_closeOne_183 rfl ?_
  refine lv_lmul hx hb dX10_closeOne_184 ?_
  refine lv_aload_n hx hb dX10_closeOne_185 rfl (lv_at hl 0 rfl) ?_
  refine lv_iconst (v := 2) hx hb dX10_closeOne_186 rfl ?_
  refine va_iald hx hb hK hP 0 0 rfl rfl (show ¬ ((2 : Int32) < 0 ∨ 1728 ≤ (2 : Int32).toNatClampNeg) by decide) dX10_closeOne_187 ?_
  refine W.eq (g2 := F0 m 188 ls ([.int (u0 2), .long (((u0 3).toInt64) * x4.toInt64), .int x2, .ref (q1 0)])) rfl ?_
  refine lv_i2l hx hb dX10_closeOne_188 rfl ?_
  refine lv_iload hx hb dX10_closeOne_189 (lv_at hl 4 rfl) ?_
  refine lv_iload hx hb dX10_closeOne_191 (lv_at hl 7 rfl) ?_
  refine lv_iadd hx hb dX10_closeOne_193 ?_
  refine lv_i2l hx hb dX10_closeOne_194 rfl ?_
  refine lv_lmul hx hb dX10_closeOne_195 ?_
  refine lv_ladd hx hb dX10_closeOne_196 ?_
  refine lv_aload_n hx hb dX10_closeOne_197 rfl (lv_at hl 0 rfl) ?_
  refine lv_iconst (v := 5) hx hb dX10_closeOne_198 rfl ?_
  refine va_iald hx hb hK hP 0 0 rfl rfl (show ¬ ((5 : Int32) < 0 ∨ 1728 ≤ (5 : Int32).toNatClampNeg) by decide) dX10_closeOne_199 ?_
  refine W.eq (g2 := F0 m 200 ls ([.int (u0 5), .long ((((u0 3).toInt64) * x4.toInt64) + (((u0 2).toInt64) * ((x5 + x9).toInt64))), .int x2, .ref (q1 0)])) rfl ?_
  refine lv_i2l hx hb dX10_closeOne_200 rfl ?_
  refine lv_iload hx hb dX10_closeOne_201 (lv_at hl 5 rfl) ?_
  refine lv_i2l hx hb dX10_closeOne_203 rfl ?_
  refine lv_lmul hx hb dX10_closeOne_204 ?_
  refine lv_ladd hx hb dX10_closeOne_205 ?_
  refine lv_aload_n hx hb dX10_closeOne_206 rfl (lv_at hl 0 rfl) ?_
  refine lv_bipush (v := 8) hx hb dX10_closeOne_207 rfl ?_
  refine va_iald hx hb hK hP 0 0 rfl rfl (show ¬ ((8 : Int32) < 0 ∨ 1728 ≤ (8 : Int32).toNatClampNeg) by decide) dX10_closeOne_209 ?_
  refine W.eq (g2 := F0 m 210 ls ([.int (u0 8), .long (((((u0 3).toInt64) * x4.toInt64) + (((u0 2).toInt64) * ((x5 + x9).toInt64))) + (((u0 5).toInt64) * x6.toInt64)), .int x2, .ref (q1 0)])) rfl ?_
  refine lv_i2l hx hb dX10_closeOne_210 rfl ?_
  refine lv_iload hx hb dX10_closeOne_211 (lv_at hl 6 rfl) ?_
  refine lv_i2l hx hb dX10_closeOne_213 rfl ?_
  refine lv_lmul hx hb dX10_closeOne_214 ?_
  refine lv_lsub hx hb dX10_closeOne_215 ?_
  refine lv_topl (fun x_29 ex_29 => ?_)
  have hw := hw x_29 ex_29
  obtain ⟨h_30, hw⟩ := hw
  refine va_last hx hb hK hP hD hS 1 1 rfl rfl h_30 dX10_closeOne_216 (fun H locs hP hD hS => ?_)
  have hP : va_P (zD E) vwCl (k_AI E 1728 q0 u0 ++ (k_AJ E 40 q1 (vp_updL u1 x2.toNatClampNeg x_29))) H := hP
  have hD : va_D A (k_AI E 1728 q0 u0 ++ (k_AJ E 40 q1 (vp_updL u1 x2.toNatClampNeg x_29))) := hD
  exact z_vret (k := (fun u => k_AI E 1728 q0 u.1 ++ (k_AJ E 40 q1 u.2))) (u0, (vp_updL u1 x2.toNatClampNeg x_29)) C0 hP hD hS hw dX10_closeOne_217
set_option maxHeartbeats 4000000 in
set_option maxRecDepth 100000 in
theorem t_X10_closeOne_150 {p : Program} {l : Launch} {e : Env} {s : State} {m : MethodId} {args : Array Value} {below : List Frame} {meth : Method} {c : Code} {Z : zZ} {E : zE} {A : Nat → Prop} {q0 : Nat → Nat} {q1 : Nat → Nat} (hZ0 : zSt Z) (C0 : zC p s m args meth c yX10_closeOne cX10_closeOne 11 none) (hA : ∀ q : Nat, s.heap.size ≤ q → A q) (hK : va_K (zD E) vwCl (zT E) s) (hZ : Z A s s.heap) (post : ((Nat → Int32) × (Nat → Int64)) → Prop) : ∀ (n : Nat) (x2 : Int32) (x4 : Int32) (x5 : Int32) (x6 : Int32) (x7 : Int32) (x9 : Int32) (x10 : Int32) (u0 : (Nat → Int32)) (u1 : (Nat → Int64)) (H : Heap) (locs : List Loc) (ls : Array Slot), zl (fun K st => j_X10_closeOne_150 K st.1 st.2.1 st.2.2.1 st.2.2.2.1 st.2.2.2.2.1 st.2.2.2.2.2.1 st.2.2.2.2.2.2.1 st.2.2.2.2.2.2.2.1 st.2.2.2.2.2.2.2.2 post) n (x2, x4, x5, x6, x7, x9, x10, u0, u1) → va_P (zD E) vwCl (k_AI E 1728 q0 u0 ++ (k_AJ E 40 q1 u1)) H → va_D A (k_AI E 1728 q0 u0 ++ (k_AJ E 40 q1 u1)) → va_S A s.heap H locs → lv_has ls 11 [(0, .ref (q0 0)), (1, .ref (q1 0)), (2, .int x2), (4, .int x4), (5, .int x5), (6, .int x6), (7, .int x7), (9, .int x9), (10, .int x10)] → W p l e r_X10_closeOne s m args below meth c H locs 0 0 (MQ below (va_Qv post (zAt E A (fun u => k_AI E 1728 q0 u.1 ++ (k_AJ E 40 q1 u.2))) A) args s 0 0 A) (F0 m 150 ls []) := by
  obtain ⟨hx, hb, hml, hr, hown, hts, hlocks, hin⟩ := id C0
  have hown : s.vm.findClass RX10 = some m.cls := hown
  intro n
  induction n with
  | zero => intro x2 x4 x5 x6 x7 x9 x10 u0 u1 H locs ls hw; exact hw.elim
  | succ n hk_150 =>
    intro x2 x4 x5 x6 x7 x9 x10 u0 u1 H locs ls hw hP hD hS hl
    have hw : j_X10_closeOne_150 _ x2 x4 x5 x6 x7 x9 x10 u0 u1 post := hw
    refine lv_iload hx hb dX10_closeOne_150 (lv_at hl 8 rfl) ?_
    refine lv_aload_n hx hb dX10_closeOne_152 rfl (lv_at hl 0 rfl) ?_
    refine lv_iconst (v := 0) hx hb dX10_closeOne_153 rfl ?_
    refine va_iald hx hb hK hP 0 0 rfl rfl (show ¬ ((0 : Int32) < 0 ∨ 1728 ≤ (0 : Int32).toNatClampNeg) by decide) dX10_closeOne_154 ?_
    refine W.eq (g2 := F0 m 155 ls ([.int (u0 0), .int x10])) rfl ?_
    obtain ⟨hwt, hwf⟩ := hw
    refine lv_icmp_ge (tgt := 175) hx hb dX10_closeOne_155 (by decide) (fun c_31 => ?_) (fun c_31 => ?_)
    · have hw := hwt c_31
      exact t_X10_closeOne_175 (l := l) hZ0 C0 hA hK hZ post x2 x4 x5 x6 x7 x9 u0 u1 _ _ _ hw hP hD hS (lv_sub hl [0, 1, 2, 3, 4, 5, 6, 7] rfl)
    · have hw := hwf c_31
      refine lv_iload hx hb dX10_closeOne_158 (lv_at hl 6 rfl) ?_
      refine lv_aload_n hx hb dX10_closeOne_160 rfl (lv_at hl 0 rfl) ?_
      refine lv_iload hx hb dX10_closeOne_161 (lv_at hl 8 rfl) ?_
      refine z_ki (z_rS (rest := [.int x7]) hZ0 C0 hK hZ hA hP hD hS hl.1 (c_X10_miss l E Z hZ0 q0 H.size u0 x10 _ hw) yv_X10_234 [0] rfl (by decide) ⟨Nat.le_of_ble_eq_true rfl, Nat.le_of_ble_eq_true rfl⟩ ⟨rfl, rfl⟩ rfl rfl (Nat.le_of_ble_eq_true rfl) ⟨Nat.le_of_ble_eq_true rfl, Nat.le_of_ble_eq_true rfl⟩ dX10_closeOne_163) hP hD hS hA [0] [1] [1, 0] rfl (wr := [_]) rfl (by decide) (by decide) (fun u => k_AI E 1728 q0 u ++ (k_AJ E 40 q1 u1)) (fun u => rfl) (by decide) (fun r_33 u_32 H locs hw hP hD hS => ?_)
      refine lv_iadd hx hb dX10_closeOne_166 ?_
      refine lv_topi (fun x_34 ex_34 => ?_)
      have hw := hw x_34 ex_34
      refine lv_istore (lv' := [(7, .int x_34), (0, .ref (q0 0)), (1, .ref (q1 0)), (2, .int x2), (4, .int x4), (5, .int x5), (6, .int x6), (9, .int x9), (10, .int x10)]) hx hb dX10_closeOne_167 hl (by decide) rfl (fun ls hl => ?_)
      obtain ⟨x_35, ex_35⟩ : ∃ y : Int32, y = x10 + 1 := ⟨_, rfl⟩
      have hw := hw x_35 ex_35
      refine lv_iinc (v := x_35) (lv' := [(10, .int x_35), (7, .int x_34), (0, .ref (q0 0)), (1, .ref (q1 0)), (2, .int x2), (4, .int x4), (5, .int x5), (6, .int x6), (9, .int x9)]) hx hb dX10_closeOne_169 hl (k := 8) rfl (by rw [ex_35]; rfl) (by decide) rfl (fun ls hl => ?_)
      refine lv_goto (tgt := 150) hx hb dX10_closeOne_172 (by decide) ?_
      exact hk_150 x2 x4 x5 x6 x_34 x9 x_35 u_32 u1 _ _ _ hw hP hD hS (lv_sub hl [2, 3, 4, 5, 6, 7, 1, 8, 0] rfl)
set_option maxHeartbeats 4000000 in
set_option maxRecDepth 100000 in
theorem t_X10_closeOne_109 {p : Program} {l : Launch} {e : Env} {s : State} {m : MethodId} {args : Array Value} {below : List Frame} {meth : Method} {c : Code} {Z : zZ} {E : zE} {A : Nat → Prop} {q0 : Nat → Nat} {q1 : Nat → Nat} (hZ0 : zSt Z) (C0 : zC p s m args meth c yX10_closeOne cX10_closeOne 11 none) (hA : ∀ q : Nat, s.heap.size ≤ q → A q) (hK : va_K (zD E) vwCl (zT E) s) (hZ : Z A s s.heap) (post : ((Nat → Int32) × (Nat → Int64)) → Prop) : ∀ (x2 : Int32) (x3 : Int32) (x4 : Int32) (x5 : Int32) (x6 : Int32) (x7 : Int32) (u0 : (Nat → Int32)) (u1 : (Nat → Int64)) (H : Heap) (locs : List Loc) (ls : Array Slot), j_X10_closeOne_109 x2 x3 x4 x5 x6 x7 u0 u1 post → va_P (zD E) vwCl (k_AI E 1728 q0 u0 ++ (k_AJ E 40 q1 u1)) H → va_D A (k_AI E 1728 q0 u0 ++ (k_AJ E 40 q1 u1)) → va_S A s.heap H locs → lv_has ls 11 [(0, .ref (q0 0)), (1, .ref (q1 0)), (2, .int x2), (3, .int x3), (4, .int x4), (5, .int x5), (6, .int x6), (7, .int x7)] → W p l e r_X10_closeOne s m args below meth c H locs 0 0 (MQ below (va_Qv post (zAt E A (fun u => k_AI E 1728 q0 u.1 ++ (k_AJ E 40 q1 u.2))) A) args s 0 0 A) (F0 m 109 ls []) := by
  obtain ⟨hx, hb, hml, hr, hown, hts, hlocks, hin⟩ := id C0
  have hown : s.vm.findClass RX10 = some m.cls := hown
  intro x2 x3 x4 x5 x6 x7 u0 u1 H locs ls hw hP hD hS hl
  refine lv_iconst (v := 0) hx hb dX10_closeOne_109 rfl ?_
  refine lv_iload hx hb dX10_closeOne_110 (lv_at hl 4 rfl) ?_
  refine lv_aload_n hx hb dX10_closeOne_112 rfl (lv_at hl 0 rfl) ?_
  refine lv_bipush (v := 7) hx hb dX10_closeOne_113 rfl ?_
  refine va_iald hx hb hK hP 0 0 rfl rfl (show ¬ ((7 : Int32) < 0 ∨ 1728 ≤ (7 : Int32).toNatClampNeg) by decide) dX10_closeOne_115 ?_
  refine W.eq (g2 := F0 m 116 ls ([.int (u0 7), .int x4, .int (0 : Int32)])) rfl ?_
  refine lv_imul hx hb dX10_closeOne_116 ?_
  refine lv_bipush (v := 100) hx hb dX10_closeOne_117 rfl ?_
  refine lv_idiv hx hb dX10_closeOne_119 (by decide) ?_
  refine lv_aload_n hx hb dX10_closeOne_120 rfl (lv_at hl 0 rfl) ?_
  refine lv_iload_n hx hb dX10_closeOne_121 rfl (lv_at hl 3 rfl) ?_
  refine lv_iconst (v := 2) hx hb dX10_closeOne_122 rfl ?_
  refine lv_iadd hx hb dX10_closeOne_123 ?_
  obtain ⟨h_24, hw⟩ := hw
  refine va_iald hx hb hK hP 0 0 rfl rfl h_24 dX10_closeOne_124 ?_
  refine lv_isub hx hb dX10_closeOne_125 ?_
  refine z_ki (z_rS (rest := []) hZ0 C0 hK hZ hA hP hD hS hl.1 (c_X10_max l E Z hZ0 H.size (0 : Int32) (((x4 * (u0 7)) / (100 : Int32)) - (u0 (x3 + (2 : Int32)).toNatClampNeg)) _ hw) yv_X10_217 [] rfl (by decide) ⟨Nat.le_of_ble_eq_true rfl, Nat.le_of_ble_eq_true rfl⟩ ⟨rfl, rfl⟩ rfl rfl (Nat.le_of_ble_eq_true rfl) ⟨Nat.le_of_ble_eq_true rfl, Nat.le_of_ble_eq_true rfl⟩ dX10_closeOne_126) hP hD hS hA [] [0, 1] [0, 1] rfl (wr := [_, _]) rfl (by decide) (by decide) (fun u => k_AI E 1728 q0 u0 ++ (k_AJ E 40 q1 u1)) (fun u => rfl) (by decide) (fun r_26 u_25 H locs hw hP hD hS => ?_)
  refine lv_istore (lv' := [(9, .int r_26), (0, .ref (q0 0)), (1, .ref (q1 0)), (2, .int x2), (3, .int x3), (4, .int x4), (5, .int x5), (6, .int x6), (7, .int x7)]) hx hb dX10_closeOne_129 hl (by decide) rfl (fun ls hl => ?_)
  refine lv_aload_n hx hb dX10_closeOne_131 rfl (lv_at hl 1 rfl) ?_
  refine lv_iconst (v := 1) hx hb dX10_closeOne_132 rfl ?_
  refine lv_dup2_11 hx hb dX10_closeOne_133 rfl rfl ?_
  refine va_iald hx hb hK hP 0 0 rfl rfl (show ¬ ((1 : Int32) < 0 ∨ 1728 ≤ (1 : Int32).toNatClampNeg) by decide) dX10_closeOne_134 ?_
  refine W.eq (g2 := F0 m 135 ls ([.int (u0 1), .int (1 : Int32), .ref (q0 0)])) rfl ?_
  refine lv_iconst (v := 1) hx hb dX10_closeOne_135 rfl ?_
  refine lv_iadd hx hb dX10_closeOne_136 ?_
  refine lv_topi (fun x_27 ex_27 => ?_)
  have hw := hw x_27 ex_27
  refine va_iast hx hb hK hP hD hS 0 0 rfl rfl (show ¬ ((1 : Int32) < 0 ∨ 1728 ≤ (1 : Int32).toNatClampNeg) by decide) dX10_closeOne_137 (fun H locs hP hD hS => ?_)
  have hP : va_P (zD E) vwCl (k_AI E 1728 q0 (upd u0 1 x_27) ++ (k_AJ E 40 q1 u1)) H := hP
  have hD : va_D A (k_AI E 1728 q0 (upd u0 1 x_27) ++ (k_AJ E 40 q1 u1)) := hD
  refine lv_aload_n hx hb dX10_closeOne_138 rfl (lv_at hl 1 rfl) ?_
  refine lv_iconst (v := 1) hx hb dX10_closeOne_139 rfl ?_
  refine va_iald hx hb hK hP 0 0 rfl rfl (show ¬ ((1 : Int32) < 0 ∨ 1728 ≤ (1 : Int32).toNatClampNeg) by decide) dX10_closeOne_140 ?_
  refine W.eq (g2 := F0 m 141 ls ([.int ((upd u0 1 x_27) 1)])) rfl ?_
  refine lv_aload_n hx hb dX10_closeOne_141 rfl (lv_at hl 1 rfl) ?_
  refine lv_iconst (v := 0) hx hb dX10_closeOne_142 rfl ?_
  refine va_iald hx hb hK hP 0 0 rfl rfl (show ¬ ((0 : Int32) < 0 ∨ 1728 ≤ (0 : Int32).toNatClampNeg) by decide) dX10_closeOne_143 ?_
  refine W.eq (g2 := F0 m 144 ls ([.int ((upd u0 1 x_27) 0), .int ((upd u0 1 x_27) 1)])) rfl ?_
  obtain ⟨hwt, hwf⟩ := hw
  refine lv_icmp_ne (tgt := 175) hx hb dX10_closeOne_144 (by decide) (fun c_28 => ?_) (fun c_28 => ?_)
  · have hw := hwt c_28
    exact t_X10_closeOne_175 (l := l) hZ0 C0 hA hK hZ post x2 x4 x5 x6 x7 r_26 (upd u0 1 x_27) u1 _ _ _ hw hP hD hS (lv_sub hl [1, 2, 3, 5, 6, 7, 8, 0] rfl)
  · have hw := hwf c_28
    refine lv_iconst (v := 0) hx hb dX10_closeOne_147 rfl ?_
    refine lv_istore (lv' := [(10, .int (0 : Int32)), (9, .int r_26), (0, .ref (q0 0)), (1, .ref (q1 0)), (2, .int x2), (3, .int x3), (4, .int x4), (5, .int x5), (6, .int x6), (7, .int x7)]) hx hb dX10_closeOne_148 hl (by decide) rfl (fun ls hl => ?_)
    obtain ⟨n9, hw⟩ := hw
    exact t_X10_closeOne_150 (l := l) hZ0 C0 hA hK hZ post n9 x2 x4 x5 x6 x7 r_26 (0 : Int32) (upd u0 1 x_27) u1 _ _ _ hw hP hD hS (lv_sub hl [2, 3, 4, 6, 7, 8, 9, 1, 0] rfl)
set_option maxHeartbeats 4000000 in
set_option maxRecDepth 100000 in
theorem t_X10_closeOne_57 {p : Program} {l : Launch} {e : Env} {s : State} {m : MethodId} {args : Array Value} {below : List Frame} {meth : Method} {c : Code} {Z : zZ} {E : zE} {A : Nat → Prop} {q0 : Nat → Nat} {q1 : Nat → Nat} (hZ0 : zSt Z) (C0 : zC p s m args meth c yX10_closeOne cX10_closeOne 11 none) (hA : ∀ q : Nat, s.heap.size ≤ q → A q) (hK : va_K (zD E) vwCl (zT E) s) (hZ : Z A s s.heap) (post : ((Nat → Int32) × (Nat → Int64)) → Prop) : ∀ (n : Nat) (x2 : Int32) (x3 : Int32) (x4 : Int32) (x5 : Int32) (x6 : Int32) (x7 : Int32) (x8 : Int32) (x9 : Int32) (u0 : (Nat → Int32)) (u1 : (Nat → Int64)) (H : Heap) (locs : List Loc) (ls : Array Slot), zl (fun K st => j_X10_closeOne_57 K st.1 st.2.1 st.2.2.1 st.2.2.2.1 st.2.2.2.2.1 st.2.2.2.2.2.1 st.2.2.2.2.2.2.1 st.2.2.2.2.2.2.2.1 st.2.2.2.2.2.2.2.2.1 st.2.2.2.2.2.2.2.2.2 post) n (x2, x3, x4, x5, x6, x7, x8, x9, u0, u1) → va_P (zD E) vwCl (k_AI E 1728 q0 u0 ++ (k_AJ E 40 q1 u1)) H → va_D A (k_AI E 1728 q0 u0 ++ (k_AJ E 40 q1 u1)) → va_S A s.heap H locs → lv_has ls 11 [(0, .ref (q0 0)), (1, .ref (q1 0)), (2, .int x2), (3, .int x3), (4, .int x4), (5, .int x5), (6, .int x6), (7, .int x7), (8, .int x8), (9, .int x9)] → W p l e r_X10_closeOne s m args below meth c H locs 0 0 (MQ below (va_Qv post (zAt E A (fun u => k_AI E 1728 q0 u.1 ++ (k_AJ E 40 q1 u.2))) A) args s 0 0 A) (F0 m 57 ls []) := by
  obtain ⟨hx, hb, hml, hr, hown, hts, hlocks, hin⟩ := id C0
  have hown : s.vm.findClass RX10 = some m.cls := hown
  intro n
  induction n with
  | zero => intro x2 x3 x4 x5 x6 x7 x8 x9 u0 u1 H locs ls hw; exact hw.elim
  | succ n hk_57 =>
    intro x2 x3 x4 x5 x6 x7 x8 x9 u0 u1 H locs ls hw hP hD hS hl
    have hw : j_X10_closeOne_57 _ x2 x3 x4 x5 x6 x7 x8 x9 u0 u1 post := hw
    refine lv_iload hx hb dX10_closeOne_57 (lv_at hl 9 rfl) ?_
    refine lv_iload_n hx hb dX10_closeOne_59 rfl (lv_at hl 2 rfl) ?_
    obtain ⟨hwt, hwf⟩ := hw
    refine lv_icmp_gt (tgt := 85) hx hb dX10_closeOne_60 (by decide) (fun c_14 => ?_) (fun c_14 => ?_)
    · have hw := hwt c_14
      refine lv_iload hx hb dX10_closeOne_85 (lv_at hl 8 rfl) ?_
      obtain ⟨hwt, hwf⟩ := hw
      refine lv_if_lt (tgt := 109) hx hb dX10_closeOne_87 (by decide) (fun c_15 => ?_) (fun c_15 => ?_)
      · have hw := hwt c_15
        exact t_X10_closeOne_109 (l := l) hZ0 C0 hA hK hZ post x2 x3 x4 x5 x6 x7 u0 u1 _ _ _ hw hP hD hS (lv_sub hl [0, 1, 2, 3, 4, 5, 6, 7] rfl)
      · have hw := hwf c_15
        refine lv_aload_n hx hb dX10_closeOne_90 rfl (lv_at hl 0 rfl) ?_
        refine lv_iload hx hb dX10_closeOne_91 (lv_at hl 8 rfl) ?_
        refine lv_aload_n hx hb dX10_closeOne_93 rfl (lv_at hl 0 rfl) ?_
        refine lv_iconst (v := 4) hx hb dX10_closeOne_94 rfl ?_
        refine va_iald hx hb hK hP 0 0 rfl rfl (show ¬ ((4 : Int32) < 0 ∨ 1728 ≤ (4 : Int32).toNatClampNeg) by decide) dX10_closeOne_95 ?_
        refine W.eq (g2 := F0 m 96 ls ([.int (u0 4), .int x8, .ref (q0 0)])) rfl ?_
        refine z_ki (z_rS (rest := []) hZ0 C0 hK hZ hA hP hD hS hl.1 (c_X10_deliver l E Z hZ0 q0 H.size u0 x8 (u0 4) _ hw) yv_X10_230 [0] rfl (by decide) ⟨Nat.le_of_ble_eq_true rfl, Nat.le_of_ble_eq_true rfl⟩ ⟨rfl, rfl⟩ rfl rfl (Nat.le_of_ble_eq_true rfl) ⟨Nat.le_of_ble_eq_true rfl, Nat.le_of_ble_eq_true rfl⟩ dX10_closeOne_96) hP hD hS hA [0] [1] [1, 0] rfl (wr := [_]) rfl (by decide) (by decide) (fun u => k_AI E 1728 q0 u ++ (k_AJ E 40 q1 u1)) (fun u => rfl) (by decide) (fun r_17 u_16 H locs hw hP hD hS => ?_)
        refine lv_istore (lv' := [(6, .int r_17), (0, .ref (q0 0)), (1, .ref (q1 0)), (2, .int x2), (3, .int x3), (4, .int x4), (5, .int x5), (7, .int x7), (8, .int x8), (9, .int x9)]) hx hb dX10_closeOne_99 hl (by decide) rfl (fun ls hl => ?_)
        refine lv_aload_n hx hb dX10_closeOne_101 rfl (lv_at hl 1 rfl) ?_
        refine lv_iload hx hb dX10_closeOne_102 (lv_at hl 8 rfl) ?_
        refine z_ki (z_rS (rest := []) hZ0 C0 hK hZ hA hP hD hS hl.1 (c_X10_miss l E Z hZ0 q0 H.size u_16 x8 _ hw) yv_X10_234 [0] rfl (by decide) ⟨Nat.le_of_ble_eq_true rfl, Nat.le_of_ble_eq_true rfl⟩ ⟨rfl, rfl⟩ rfl rfl (Nat.le_of_ble_eq_true rfl) ⟨Nat.le_of_ble_eq_true rfl, Nat.le_of_ble_eq_true rfl⟩ dX10_closeOne_104) hP hD hS hA [0] [1] [1, 0] rfl (wr := [_]) rfl (by decide) (by decide) (fun u => k_AI E 1728 q0 u ++ (k_AJ E 40 q1 u1)) (fun u => rfl) (by decide) (fun r_19 u_18 H locs hw hP hD hS => ?_)
        refine lv_istore (lv' := [(7, .int r_19), (6, .int r_17), (0, .ref (q0 0)), (1, .ref (q1 0)), (2, .int x2), (3, .int x3), (4, .int x4), (5, .int x5), (8, .int x8), (9, .int x9)]) hx hb dX10_closeOne_107 hl (by decide) rfl (fun ls hl => ?_)
        exact t_X10_closeOne_109 (l := l) hZ0 C0 hA hK hZ post x2 x3 x4 x5 r_17 r_19 u_18 u1 _ _ _ hw hP hD hS (lv_sub hl [2, 3, 4, 5, 6, 7, 1, 0] rfl)
    · have hw := hwf c_14
      refine lv_iload hx hb dX10_closeOne_63 (lv_at hl 5 rfl) ?_
      refine lv_aload_n hx hb dX10_closeOne_65 rfl (lv_at hl 0 rfl) ?_
      refine lv_iload hx hb dX10_closeOne_66 (lv_at hl 9 rfl) ?_
      refine lv_iload hx hb dX10_closeOne_68 (lv_at hl 4 rfl) ?_
      refine lv_iload hx hb dX10_closeOne_70 (lv_at hl 5 rfl) ?_
      refine lv_isub hx hb dX10_closeOne_72 ?_
      refine z_ki (z_rS (rest := [.int x5]) hZ0 C0 hK hZ hA hP hD hS hl.1 (c_X10_deliver l E Z hZ0 q0 H.size u0 x9 (x4 - x5) _ hw) yv_X10_230 [0] rfl (by decide) ⟨Nat.le_of_ble_eq_true rfl, Nat.le_of_ble_eq_true rfl⟩ ⟨rfl, rfl⟩ rfl rfl (Nat.le_of_ble_eq_true rfl) ⟨Nat.le_of_ble_eq_true rfl, Nat.le_of_ble_eq_true rfl⟩ dX10_closeOne_73) hP hD hS hA [0] [1] [1, 0] rfl (wr := [_]) rfl (by decide) (by decide) (fun u => k_AI E 1728 q0 u ++ (k_AJ E 40 q1 u1)) (fun u => rfl) (by decide) (fun r_21 u_20 H locs hw hP hD hS => ?_)
      refine lv_iadd hx hb dX10_closeOne_76 ?_
      refine lv_topi (fun x_22 ex_22 => ?_)
      have hw := hw x_22 ex_22
      refine lv_istore (lv' := [(5, .int x_22), (0, .ref (q0 0)), (1, .ref (q1 0)), (2, .int x2), (3, .int x3), (4, .int x4), (6, .int x6), (7, .int x7), (8, .int x8), (9, .int x9)]) hx hb dX10_closeOne_77 hl (by decide) rfl (fun ls hl => ?_)
      obtain ⟨x_23, ex_23⟩ : ∃ y : Int32, y = x9 + 1 := ⟨_, rfl⟩
      have hw := hw x_23 ex_23
      refine lv_iinc (v := x_23) (lv' := [(9, .int x_23), (5, .int x_22), (0, .ref (q0 0)), (1, .ref (q1 0)), (2, .int x2), (3, .int x3), (4, .int x4), (6, .int x6), (7, .int x7), (8, .int x8)]) hx hb dX10_closeOne_79 hl (k := 9) rfl (by rw [ex_23]; rfl) (by decide) rfl (fun ls hl => ?_)
      refine lv_goto (tgt := 57) hx hb dX10_closeOne_82 (by decide) ?_
      exact hk_57 x2 x3 x4 x_22 x6 x7 x8 x_23 u_20 u1 _ _ _ hw hP hD hS (lv_sub hl [2, 3, 4, 5, 6, 1, 7, 8, 9, 0] rfl)
set_option maxHeartbeats 4000000 in
set_option maxRecDepth 100000 in
theorem t_X10_closeOne_49 {p : Program} {l : Launch} {e : Env} {s : State} {m : MethodId} {args : Array Value} {below : List Frame} {meth : Method} {c : Code} {Z : zZ} {E : zE} {A : Nat → Prop} {q0 : Nat → Nat} {q1 : Nat → Nat} (hZ0 : zSt Z) (C0 : zC p s m args meth c yX10_closeOne cX10_closeOne 11 none) (hA : ∀ q : Nat, s.heap.size ≤ q → A q) (hK : va_K (zD E) vwCl (zT E) s) (hZ : Z A s s.heap) (post : ((Nat → Int32) × (Nat → Int64)) → Prop) : ∀ (x2 : Int32) (x3 : Int32) (x4 : Int32) (x5 : Int32) (x6 : Int32) (x7 : Int32) (x8 : Int32) (u0 : (Nat → Int32)) (u1 : (Nat → Int64)) (H : Heap) (locs : List Loc) (ls : Array Slot), j_X10_closeOne_49 x2 x3 x4 x5 x6 x7 x8 u0 u1 post → va_P (zD E) vwCl (k_AI E 1728 q0 u0 ++ (k_AJ E 40 q1 u1)) H → va_D A (k_AI E 1728 q0 u0 ++ (k_AJ E 40 q1 u1)) → va_S A s.heap H locs → lv_has ls 11 [(0, .ref (q0 0)), (1, .ref (q1 0)), (2, .int x2), (3, .int x3), (4, .int x4), (5, .int x5), (6, .int x6), (7, .int x7), (8, .int x8)] → W p l e r_X10_closeOne s m args below meth c H locs 0 0 (MQ below (va_Qv post (zAt E A (fun u => k_AI E 1728 q0 u.1 ++ (k_AJ E 40 q1 u.2))) A) args s 0 0 A) (F0 m 49 ls []) := by
  obtain ⟨hx, hb, hml, hr, hown, hts, hlocks, hin⟩ := id C0
  have hown : s.vm.findClass RX10 = some m.cls := hown
  intro x2 x3 x4 x5 x6 x7 x8 u0 u1 H locs ls hw hP hD hS hl
  refine lv_iconst (v := 0) hx hb dX10_closeOne_49 rfl ?_
  refine lv_iload hx hb dX10_closeOne_50 (lv_at hl 8 rfl) ?_
  refine z_ki (z_rS (rest := []) hZ0 C0 hK hZ hA hP hD hS hl.1 (c_X10_max l E Z hZ0 H.size (0 : Int32) x8 _ hw) yv_X10_217 [] rfl (by decide) ⟨Nat.le_of_ble_eq_true rfl, Nat.le_of_ble_eq_true rfl⟩ ⟨rfl, rfl⟩ rfl rfl (Nat.le_of_ble_eq_true rfl) ⟨Nat.le_of_ble_eq_true rfl, Nat.le_of_ble_eq_true rfl⟩ dX10_closeOne_52) hP hD hS hA [] [0, 1] [0, 1] rfl (wr := [_, _]) rfl (by decide) (by decide) (fun u => k_AI E 1728 q0 u0 ++ (k_AJ E 40 q1 u1)) (fun u => rfl) (by decide) (fun r_13 u_12 H locs hw hP hD hS => ?_)
  refine lv_istore (lv' := [(9, .int r_13), (0, .ref (q0 0)), (1, .ref (q1 0)), (2, .int x2), (3, .int x3), (4, .int x4), (5, .int x5), (6, .int x6), (7, .int x7), (8, .int x8)]) hx hb dX10_closeOne_55 hl (by decide) rfl (fun ls hl => ?_)
  obtain ⟨n9, hw⟩ := hw
  exact t_X10_closeOne_57 (l := l) hZ0 C0 hA hK hZ post n9 x2 x3 x4 x5 x6 x7 x8 r_13 u0 u1 _ _ _ hw hP hD hS (lv_sub hl [1, 2, 3, 4, 5, 6, 7, 8, 9, 0] rfl)
set_option maxHeartbeats 4000000 in
set_option maxRecDepth 100000 in
theorem c_X10_closeOne (l : Launch) (E : zE) (Z : zZ) (hZ0 : zSt Z) (q0 : Nat → Nat) (q1 : Nat → Nat) (sz : Nat) (u0 : (Nat → Int32)) (u1 : (Nat → Int64)) (post : ((Nat → Int32) × (Nat → Int64)) → Prop) (hw : wp_X10_closeOne u0 u1 post) : Met l yX10_closeOne (zws yX10_closeOne cX10_closeOne 11 none) r_X10_closeOne (va_Pc [.ref (q0 0), .ref (q1 0)] (zPre Z E (k_AI E 1728 q0 u0 ++ (k_AJ E 40 q1 u1)) sz)) (va_Qv post (zAt E (va_A (k_AI E 1728 q0 u0 ++ (k_AJ E 40 q1 u1)) sz) (fun u => k_AI E 1728 q0 u.1 ++ (k_AJ E 40 q1 u.2))) (va_A (k_AI E 1728 q0 u0 ++ (k_AJ E 40 q1 u1)) sz)) 0 0 (va_A (k_AI E 1728 q0 u0 ++ (k_AJ E 40 q1 u1)) sz) := by
  refine z_ofW (Qf := fun A => va_Qv post (zAt E A (fun u => k_AI E 1728 q0 u.1 ++ (k_AJ E 40 q1 u.2))) A) (by decide) (Nat.le_of_ble_eq_true rfl) ?_
  intro p e s m args below meth c A ls C0 hA hK hZ hP hD hS hl
  obtain ⟨hx, hb, hml, hr, hown, hts, hlocks, hin⟩ := id C0
  have hown : s.vm.findClass RX10 = some m.cls := hown
  have hl : lv_has ls 11 [(0, .ref (q0 0)), (1, .ref (q1 0))] := hl
  refine lv_aload_n hx hb dX10_closeOne_0 rfl (lv_at hl 0 rfl) ?_
  refine lv_iconst (v := 1) hx hb dX10_closeOne_1 rfl ?_
  refine va_iald hx hb hK hP 0 0 rfl rfl (show ¬ ((1 : Int32) < 0 ∨ 1728 ≤ (1 : Int32).toNatClampNeg) by decide) dX10_closeOne_2 ?_
  refine W.eq (g2 := F0 m 3 ls ([.int (u0 1)])) rfl ?_
  refine lv_topi (fun x_1 ex_1 => ?_)
  have hw := hw x_1 ex_1
  refine lv_istore_n (lv' := [(2, .int x_1), (0, .ref (q0 0)), (1, .ref (q1 0))]) hx hb dX10_closeOne_3 rfl hl (by decide) rfl (fun ls hl => ?_)
  refine lv_iload_n hx hb dX10_closeOne_4 rfl (lv_at hl 0 rfl) ?_
  refine z_ki (z_rS (rest := []) hZ0 C0 hK hZ hA hP hD hS hl.1 (c_X10_period l E Z hZ0 s.heap.size x_1 _ hw) yv_X10_148 [] rfl (by decide) ⟨Nat.le_of_ble_eq_true rfl, Nat.le_of_ble_eq_true rfl⟩ ⟨rfl, rfl⟩ rfl rfl (Nat.le_of_ble_eq_true rfl) ⟨Nat.le_of_ble_eq_true rfl, Nat.le_of_ble_eq_true rfl⟩ dX10_closeOne_5) hP hD hS hA [] [0, 1] [0, 1] rfl (wr := [_, _]) rfl (by decide) (by decide) (fun u => k_AI E 1728 q0 u0 ++ (k_AJ E 40 q1 u1)) (fun u => rfl) (by decide) (fun r_3 u_2 H locs hw hP hD hS => ?_)
  refine lv_istore_n (lv' := [(3, .int r_3), (2, .int x_1), (0, .ref (q0 0)), (1, .ref (q1 0))]) hx hb dX10_closeOne_8 rfl hl (by decide) rfl (fun ls hl => ?_)
  refine lv_aload_n hx hb dX10_closeOne_9 rfl (lv_at hl 2 rfl) ?_
  refine lv_iload_n hx hb dX10_closeOne_10 rfl (lv_at hl 0 rfl) ?_
  obtain ⟨h_4, hw⟩ := hw
  refine va_iald hx hb hK hP 0 0 rfl rfl h_4 dX10_closeOne_11 ?_
  refine lv_topi (fun x_5 ex_5 => ?_)
  have hw := hw x_5 ex_5
  refine lv_istore (lv' := [(4, .int x_5), (3, .int r_3), (2, .int x_1), (0, .ref (q0 0)), (1, .ref (q1 0))]) hx hb dX10_closeOne_12 hl (by decide) rfl (fun ls hl => ?_)
  refine lv_iconst (v := 0) hx hb dX10_closeOne_14 rfl ?_
  refine lv_istore (lv' := [(5, .int (0 : Int32)), (4, .int x_5), (3, .int r_3), (2, .int x_1), (0, .ref (q0 0)), (1, .ref (q1 0))]) hx hb dX10_closeOne_15 hl (by decide) rfl (fun ls hl => ?_)
  refine lv_iconst (v := 0) hx hb dX10_closeOne_17 rfl ?_
  refine lv_istore (lv' := [(6, .int (0 : Int32)), (5, .int (0 : Int32)), (4, .int x_5), (3, .int r_3), (2, .int x_1), (0, .ref (q0 0)), (1, .ref (q1 0))]) hx hb dX10_closeOne_18 hl (by decide) rfl (fun ls hl => ?_)
  refine lv_iconst (v := 0) hx hb dX10_closeOne_20 rfl ?_
  refine lv_istore (lv' := [(7, .int (0 : Int32)), (6, .int (0 : Int32)), (5, .int (0 : Int32)), (4, .int x_5), (3, .int r_3), (2, .int x_1), (0, .ref (q0 0)), (1, .ref (q1 0))]) hx hb dX10_closeOne_21 hl (by decide) rfl (fun ls hl => ?_)
  refine lv_iload_n hx hb dX10_closeOne_23 rfl (lv_at hl 5 rfl) ?_
  refine lv_aload_n hx hb dX10_closeOne_24 rfl (lv_at hl 6 rfl) ?_
  refine lv_bipush (v := 6) hx hb dX10_closeOne_25 rfl ?_
  refine va_iald hx hb hK hP 0 0 rfl rfl (show ¬ ((6 : Int32) < 0 ∨ 1728 ≤ (6 : Int32).toNatClampNeg) by decide) dX10_closeOne_27 ?_
  refine W.eq (g2 := F0 m 28 ls ([.int (u0 6), .int x_1])) rfl ?_
  refine lv_isub hx hb dX10_closeOne_28 ?_
  refine lv_topi (fun x_6 ex_6 => ?_)
  have hw := hw x_6 ex_6
  refine lv_istore (lv' := [(8, .int x_6), (7, .int (0 : Int32)), (6, .int (0 : Int32)), (5, .int (0 : Int32)), (4, .int x_5), (3, .int r_3), (2, .int x_1), (0, .ref (q0 0)), (1, .ref (q1 0))]) hx hb dX10_closeOne_29 hl (by decide) rfl (fun ls hl => ?_)
  refine lv_aload_n hx hb dX10_closeOne_31 rfl (lv_at hl 7 rfl) ?_
  refine lv_iload_n hx hb dX10_closeOne_32 rfl (lv_at hl 5 rfl) ?_
  refine lv_iconst (v := 2) hx hb dX10_closeOne_33 rfl ?_
  refine lv_iadd hx hb dX10_closeOne_34 ?_
  obtain ⟨h_7, hw⟩ := hw
  refine va_iald hx hb hK hP 0 0 rfl rfl h_7 dX10_closeOne_35 ?_
  obtain ⟨hwt, hwf⟩ := hw
  refine lv_if_ge (tgt := 49) hx hb dX10_closeOne_36 (by decide) (fun c_8 => ?_) (fun c_8 => ?_)
  · have hw := hwt c_8
    exact t_X10_closeOne_49 (l := l) hZ0 C0 hA hK hZ post x_1 r_3 x_5 (0 : Int32) (0 : Int32) (0 : Int32) x_6 u0 u1 _ _ _ hw hP hD hS (lv_sub hl [7, 8, 6, 5, 4, 3, 2, 1, 0] rfl)
  · have hw := hwf c_8
    refine lv_aload_n hx hb dX10_closeOne_39 rfl (lv_at hl 7 rfl) ?_
    refine lv_iload_n hx hb dX10_closeOne_40 rfl (lv_at hl 6 rfl) ?_
    refine lv_aload_n hx hb dX10_closeOne_41 rfl (lv_at hl 7 rfl) ?_
    refine lv_iload_n hx hb dX10_closeOne_42 rfl (lv_at hl 5 rfl) ?_
    refine lv_iconst (v := 1) hx hb dX10_closeOne_43 rfl ?_
    refine lv_iadd hx hb dX10_closeOne_44 ?_
    obtain ⟨h_9, hw⟩ := hw
    refine va_iald hx hb hK hP 0 0 rfl rfl h_9 dX10_closeOne_45 ?_
    refine z_kv (z_rS (rest := []) hZ0 C0 hK hZ hA hP hD hS hl.1 (c_X10_place l E Z hZ0 q0 H.size u0 x_1 (u0 (r_3 + (1 : Int32)).toNatClampNeg) _ hw) yv_X10_226 [0] rfl (by decide) ⟨Nat.le_of_ble_eq_true rfl, Nat.le_of_ble_eq_true rfl⟩ ⟨rfl, rfl⟩ rfl rfl (Nat.le_of_ble_eq_true rfl) ⟨Nat.le_of_ble_eq_true rfl, Nat.le_of_ble_eq_true rfl⟩ dX10_closeOne_46) hP hD hS hA [0] [1] [1, 0] rfl (wr := [_]) rfl (by decide) (by decide) (fun u => k_AI E 1728 q0 u ++ (k_AJ E 40 q1 u1)) (fun u => rfl) (by decide) (fun u_10 H locs hw hP hD hS => ?_)
    exact t_X10_closeOne_49 (l := l) hZ0 C0 hA hK hZ post x_1 r_3 x_5 (0 : Int32) (0 : Int32) (0 : Int32) x_6 u_10 u1 _ _ _ hw hP hD hS (lv_sub hl [7, 8, 6, 5, 4, 3, 2, 1, 0] rfl)
