def wp_L_load (o : Nat → Int64) (u0 : S_X9) (u1 : S_X2) (u2 : S_X4) (u3 : S_X6) (u4 : S_X5) (u5 : S_X3) (u6 : S_X2) (u7 : S_H) (p1 : Int32) (post : Int32 → (Nat → Int64) × (S_X9 × S_X2 × S_X4 × S_X6 × S_X5 × S_X3 × S_X2 × S_H) → Prop) : Prop := wp_X9_load u0 u1 u2 u3 u4 u5 u6 u7 p1 (fun r w => post 0 (vp_updL o 0 r.toInt64, w)) (fun X w => (X = "java/lang/IllegalArgumentException" ∧ post 1 (o, w)))
abbrev r_L_load : Room := { frames := 42, cells := 18, slots := 445, locals := 1593 }
set_option maxHeartbeats 4000000 in
set_option maxRecDepth 100000 in
theorem c_L_load (l : Launch) (E : zE) (Z : zZ) (hZ0 : zSt Z) {sa : Nat → Nat} (hZs : zSS Z sa) (hlt : l.stackTraces = false) (hZe : ∀ A U H, Z A U H → zExc A U H) (q0 : Nat → Nat) (qo : Nat) (sz : Nat) (o : Nat → Int64) (u0 : S_X9) (u1 : S_X2) (u2 : S_X4) (u3 : S_X6) (u4 : S_X5) (u5 : S_X3) (u6 : S_X2) (u7 : S_H) (p1 : Int32) (post : Int32 → (Nat → Int64) × (S_X9 × S_X2 × S_X4 × S_X6 × S_X5 × S_X3 × S_X2 × S_H) → Prop) (hw : wp_L_load o u0 u1 u2 u3 u4 u5 u6 u7 p1 post) : Met l yL_load (zwsH yL_load cL_load 4 (some .int) [(0, 9, 12, 13)]) r_L_load (va_Pc [.ref (q0 0), .int p1, .ref qo] (zPre Z E (([(qo, .inl (E.2.2 1, 1, .inr (.inl o)))] ++ (k_X9 E q0 u0 ++ (k_X2 E (fun k => q0 (k + 1)) u1 ++ (k_X4 E (fun k => q0 (k + 19)) u2 ++ (k_X6 E (fun k => q0 (k + 21)) u3 ++ (k_X5 E (fun k => q0 (k + 22)) u4 ++ (k_X3 E (fun k => q0 (k + 24)) u5 ++ (k_X2 E (fun k => q0 (k + 25)) u6)))))))) ++ k_H E (fun k => q0 (k + 20)) u7) sz)) (va_Qi post (zAt E (va_A (([(qo, .inl (E.2.2 1, 1, .inr (.inl o)))] ++ (k_X9 E q0 u0 ++ (k_X2 E (fun k => q0 (k + 1)) u1 ++ (k_X4 E (fun k => q0 (k + 19)) u2 ++ (k_X6 E (fun k => q0 (k + 21)) u3 ++ (k_X5 E (fun k => q0 (k + 22)) u4 ++ (k_X3 E (fun k => q0 (k + 24)) u5 ++ (k_X2 E (fun k => q0 (k + 25)) u6)))))))) ++ k_H E (fun k => q0 (k + 20)) u7) sz) (fun v : (Nat → Int64) × (S_X9 × S_X2 × S_X4 × S_X6 × S_X5 × S_X3 × S_X2 × S_H) => ([(qo, .inl (E.2.2 1, 1, .inr (.inl v.1)))] ++ (k_X9 E q0 v.2.1 ++ (k_X2 E (fun k => q0 (k + 1)) v.2.2.1 ++ (k_X4 E (fun k => q0 (k + 19)) v.2.2.2.1 ++ (k_X6 E (fun k => q0 (k + 21)) v.2.2.2.2.1 ++ (k_X5 E (fun k => q0 (k + 22)) v.2.2.2.2.2.1 ++ (k_X3 E (fun k => q0 (k + 24)) v.2.2.2.2.2.2.1 ++ (k_X2 E (fun k => q0 (k + 25)) v.2.2.2.2.2.2.2.1)))))))) ++ k_H E (fun k => q0 (k + 20)) v.2.2.2.2.2.2.2.2)) (va_A (([(qo, .inl (E.2.2 1, 1, .inr (.inl o)))] ++ (k_X9 E q0 u0 ++ (k_X2 E (fun k => q0 (k + 1)) u1 ++ (k_X4 E (fun k => q0 (k + 19)) u2 ++ (k_X6 E (fun k => q0 (k + 21)) u3 ++ (k_X5 E (fun k => q0 (k + 22)) u4 ++ (k_X3 E (fun k => q0 (k + 24)) u5 ++ (k_X2 E (fun k => q0 (k + 25)) u6)))))))) ++ k_H E (fun k => q0 (k + 20)) u7) sz)) 18 445 (va_A (([(qo, .inl (E.2.2 1, 1, .inr (.inl o)))] ++ (k_X9 E q0 u0 ++ (k_X2 E (fun k => q0 (k + 1)) u1 ++ (k_X4 E (fun k => q0 (k + 19)) u2 ++ (k_X6 E (fun k => q0 (k + 21)) u3 ++ (k_X5 E (fun k => q0 (k + 22)) u4 ++ (k_X3 E (fun k => q0 (k + 24)) u5 ++ (k_X2 E (fun k => q0 (k + 25)) u6)))))))) ++ k_H E (fun k => q0 (k + 20)) u7) sz) := by
  refine z_ofH (y := yL_load) (cc := cL_load) (maxL := 4) (ret := some .int) (hh := [(0, 9, 12, 13)]) (av := [.ref (q0 0), .int p1, .ref qo]) (Qf := fun A => va_Qi post (zAt E A (fun v : (Nat → Int64) × (S_X9 × S_X2 × S_X4 × S_X6 × S_X5 × S_X3 × S_X2 × S_H) => ([(qo, .inl (E.2.2 1, 1, .inr (.inl v.1)))] ++ (k_X9 E q0 v.2.1 ++ (k_X2 E (fun k => q0 (k + 1)) v.2.2.1 ++ (k_X4 E (fun k => q0 (k + 19)) v.2.2.2.1 ++ (k_X6 E (fun k => q0 (k + 21)) v.2.2.2.2.1 ++ (k_X5 E (fun k => q0 (k + 22)) v.2.2.2.2.2.1 ++ (k_X3 E (fun k => q0 (k + 24)) v.2.2.2.2.2.2.1 ++ (k_X2 E (fun k => q0 (k + 25)) v.2.2.2.2.2.2.2.1)))))))) ++ k_H E (fun k => q0 (k + 20)) v.2.2.2.2.2.2.2.2)) A) (by decide) (Nat.le_of_ble_eq_true rfl) ?_
  intro p e s m args below meth c A ls C0 htab hA hK hZ hP hD hS hl
  obtain ⟨hx, hb, hml, hr, hown, hts, hlocks, hin⟩ := id C0
  have hown : s.vm.findClass RL = some m.cls := hown
  have hl : lv_has ls 4 [(0, .ref (q0 0)), (1, .int p1), (2, .ref qo)] := hl
  refine lv_aload_n hx hb dL_load_0 rfl (lv_at hl 2 rfl) ?_
  refine lv_iconst (v := 0) hx hb dL_load_1 rfl ?_
  refine lv_aload_n hx hb dL_load_2 rfl (lv_at hl 0 rfl) ?_
  refine lv_iload_n hx hb dL_load_3 rfl (lv_at hl 1 rfl) ?_
  have hF := va_freeP (cx := k_X9 E q0 u0 ++ (k_X2 E (fun k => q0 (k + 1)) u1 ++ (k_X4 E (fun k => q0 (k + 19)) u2 ++ (k_X6 E (fun k => q0 (k + 21)) u3 ++ (k_X5 E (fun k => q0 (k + 22)) u4 ++ (k_X3 E (fun k => q0 (k + 24)) u5 ++ (k_X2 E (fun k => q0 (k + 25)) u6))))))) hD hS hA [1, 2, 3, 4, 5, 6, 7, 8, 9, 10, 11, 12, 13, 14, 15, 16, 17, 18, 19, 20, 21, 22, 23, 24, 25, 26, 27, 28, 29, 30, 31, 32, 33, 34, 35, 36, 37, 38, 39, 40, 41, 42] rfl
  refine z_hki (R := r_L_load) (cells := 0) (slots := 0) (z_gX (rest := [.int 0, .ref qo]) hZ0 C0 hK hP hl.1 (c_X9_load l E Z hZ0 hZs hlt hZe q0 s.heap.size u0 u1 u2 u3 u4 u5 u6 u7 p1 _ _ hw) yv_L_7 (z_preP hZ0 hK hZ hP hD hS hA [1, 2, 3, 4, 5, 6, 7, 8, 9, 10, 11, 12, 13, 14, 15, 16, 17, 18, 19, 20, 21, 22, 23, 24, 25, 26, 27, 28, 29, 30, 31, 32, 33, 34, 35, 36, 37, 38, 39, 40, 41, 42] rfl (by decide)) (ci := 9) rfl rfl 1 rfl ⟨Nat.le_of_ble_eq_true rfl, Nat.le_of_ble_eq_true rfl⟩ ⟨rfl, rfl⟩ rfl rfl (Nat.le_of_ble_eq_true rfl) ⟨Nat.le_of_ble_eq_true rfl, Nat.le_of_ble_eq_true rfl⟩ dL_load_4) hS hF (fun w => ([(qo, .inl (E.2.2 1, 1, .inr (.inl o)))] ++ (k_X9 E q0 w.1 ++ (k_X2 E (fun k => q0 (k + 1)) w.2.1 ++ (k_X4 E (fun k => q0 (k + 19)) w.2.2.1 ++ (k_X6 E (fun k => q0 (k + 21)) w.2.2.2.1 ++ (k_X5 E (fun k => q0 (k + 22)) w.2.2.2.2.1 ++ (k_X3 E (fun k => q0 (k + 24)) w.2.2.2.2.2.1 ++ (k_X2 E (fun k => q0 (k + 25)) w.2.2.2.2.2.2.1)))))))) ++ k_H E (fun k => q0 (k + 20)) w.2.2.2.2.2.2.2) (fun w H1 hk b1 b2 => z_backP hP hD hS hA [1, 2, 3, 4, 5, 6, 7, 8, 9, 10, 11, 12, 13, 14, 15, 16, 17, 18, 19, 20, 21, 22, 23, 24, 25, 26, 27, 28, 29, 30, 31, 32, 33, 34, 35, 36, 37, 38, 39, 40, 41, 42] [0] [0, 1, 2, 3, 4, 5, 6, 7, 8, 9, 10, 11, 12, 13, 14, 15, 16, 17, 18, 19, 20, 21, 22, 23, 24, 25, 26, 27, 28, 29, 30, 31, 32, 33, 34, 35, 36, 37, 38, 39, 40, 41, 42] rfl (wr := [_]) rfl (by decide) (by decide) hk b1 b2 rfl (by decide)) ?_ (fun r w H locs hw hP hD hS => ?_)
  · intro X ce q9 w H locs hpx hP hD hS hce hcv hcl
    obtain ⟨rfl, hw⟩ := hpx
    refine vx_catch (own := RL) (name := "java/lang/IllegalArgumentException") hown [] (⟨0, 9, 12, 13⟩ : ExceptionTableEntry) [] (htab.trans rfl) (fun z hz => by cases hz) rfl (by decide) (hts _ wm_3_56) (hts _ wm_3_63) hce hcv hcl ?_
    refine lv_astore_n (lv' := [(3, .ref q9), (0, .ref (q0 0)), (1, .int p1), (2, .ref qo)]) hx hb dL_load_12 rfl hl (by decide) rfl (fun ls hl => ?_)
    refine lv_iconst (v := 1) hx hb dL_load_13 rfl ?_
    exact z_iret (k := (fun v : (Nat → Int64) × (S_X9 × S_X2 × S_X4 × S_X6 × S_X5 × S_X3 × S_X2 × S_H) => ([(qo, .inl (E.2.2 1, 1, .inr (.inl v.1)))] ++ (k_X9 E q0 v.2.1 ++ (k_X2 E (fun k => q0 (k + 1)) v.2.2.1 ++ (k_X4 E (fun k => q0 (k + 19)) v.2.2.2.1 ++ (k_X6 E (fun k => q0 (k + 21)) v.2.2.2.2.1 ++ (k_X5 E (fun k => q0 (k + 22)) v.2.2.2.2.2.1 ++ (k_X3 E (fun k => q0 (k + 24)) v.2.2.2.2.2.2.1 ++ (k_X2 E (fun k => q0 (k + 25)) v.2.2.2.2.2.2.2.1)))))))) ++ k_H E (fun k => q0 (k + 20)) v.2.2.2.2.2.2.2.2)) (o, w) C0 hP hD hS hw dL_load_14
  · refine lv_i2l hx hb dL_load_7 rfl ?_
    refine va_last hx hb hK hP hD hS 0 1 rfl rfl zin01 dL_load_8 (fun H locs hP hD hS => ?_)
    refine lv_goto (tgt := 15) hx hb dL_load_9 (by decide) ?_
    refine lv_iconst (v := 0) hx hb dL_load_15 rfl ?_
    exact z_iret (k := (fun v : (Nat → Int64) × (S_X9 × S_X2 × S_X4 × S_X6 × S_X5 × S_X3 × S_X2 × S_H) => ([(qo, .inl (E.2.2 1, 1, .inr (.inl v.1)))] ++ (k_X9 E q0 v.2.1 ++ (k_X2 E (fun k => q0 (k + 1)) v.2.2.1 ++ (k_X4 E (fun k => q0 (k + 19)) v.2.2.2.1 ++ (k_X6 E (fun k => q0 (k + 21)) v.2.2.2.2.1 ++ (k_X5 E (fun k => q0 (k + 22)) v.2.2.2.2.2.1 ++ (k_X3 E (fun k => q0 (k + 24)) v.2.2.2.2.2.2.1 ++ (k_X2 E (fun k => q0 (k + 25)) v.2.2.2.2.2.2.2.1)))))))) ++ k_H E (fun k => q0 (k + 20)) v.2.2.2.2.2.2.2.2)) (vp_updL o 0 r.toInt64, w) C0 hP hD hS hw dL_load_16
def wp_L_reservedIn (o : Nat → Int64) (u0 : S_X9) (u1 : S_X2) (p1 : Int32) (post : Int32 → (Nat → Int64) × (S_X9 × S_X2) → Prop) : Prop := wp_X9_reservedIn u0 u1 p1 (fun r w => post 0 (vp_updL o 0 r.toInt64, w)) (fun X w => (X = "java/lang/IndexOutOfBoundsException" ∧ post 1 (o, w)))
abbrev r_L_reservedIn : Room := { frames := 8, cells := 1, slots := 6, locals := 132 }
set_option maxHeartbeats 4000000 in
set_option maxRecDepth 100000 in
theorem c_L_reservedIn (l : Launch) (E : zE) (Z : zZ) (hZ0 : zSt Z) {sa : Nat → Nat} (hZs : zSS Z sa) (hlt : l.stackTraces = false) (hZe : ∀ A U H, Z A U H → zExc A U H) (q0 : Nat → Nat) (qo : Nat) (sz : Nat) (o : Nat → Int64) (u0 : S_X9) (u1 : S_X2) (p1 : Int32) (post : Int32 → (Nat → Int64) × (S_X9 × S_X2) → Prop) (hw : wp_L_reservedIn o u0 u1 p1 post) : Met l yL_reservedIn (zwsH yL_reservedIn cL_reservedIn 4 (some .int) [(0, 9, 12, 18)]) r_L_reservedIn (va_Pc [.ref (q0 0), .int p1, .ref qo] (zPre Z E ([(qo, .inl (E.2.2 1, 1, .inr (.inl o)))] ++ (k_X9 E q0 u0 ++ (k_X2 E (fun k => q0 (k + 1)) u1))) sz)) (va_Qi post (zAt E (va_A ([(qo, .inl (E.2.2 1, 1, .inr (.inl o)))] ++ (k_X9 E q0 u0 ++ (k_X2 E (fun k => q0 (k + 1)) u1))) sz) (fun v : (Nat → Int64) × (S_X9 × S_X2) => [(qo, .inl (E.2.2 1, 1, .inr (.inl v.1)))] ++ (k_X9 E q0 v.2.1 ++ (k_X2 E (fun k => q0 (k + 1)) v.2.2)))) (va_A ([(qo, .inl (E.2.2 1, 1, .inr (.inl o)))] ++ (k_X9 E q0 u0 ++ (k_X2 E (fun k => q0 (k + 1)) u1))) sz)) 1 6 (va_A ([(qo, .inl (E.2.2 1, 1, .inr (.inl o)))] ++ (k_X9 E q0 u0 ++ (k_X2 E (fun k => q0 (k + 1)) u1))) sz) := by
  refine z_ofH (y := yL_reservedIn) (cc := cL_reservedIn) (maxL := 4) (ret := some .int) (hh := [(0, 9, 12, 18)]) (av := [.ref (q0 0), .int p1, .ref qo]) (Qf := fun A => va_Qi post (zAt E A (fun v : (Nat → Int64) × (S_X9 × S_X2) => [(qo, .inl (E.2.2 1, 1, .inr (.inl v.1)))] ++ (k_X9 E q0 v.2.1 ++ (k_X2 E (fun k => q0 (k + 1)) v.2.2)))) A) (by decide) (Nat.le_of_ble_eq_true rfl) ?_
  intro p e s m args below meth c A ls C0 htab hA hK hZ hP hD hS hl
  obtain ⟨hx, hb, hml, hr, hown, hts, hlocks, hin⟩ := id C0
  have hown : s.vm.findClass RL = some m.cls := hown
  have hl : lv_has ls 4 [(0, .ref (q0 0)), (1, .int p1), (2, .ref qo)] := hl
  refine lv_aload_n hx hb dL_reservedIn_0 rfl (lv_at hl 2 rfl) ?_
  refine lv_iconst (v := 0) hx hb dL_reservedIn_1 rfl ?_
  refine lv_aload_n hx hb dL_reservedIn_2 rfl (lv_at hl 0 rfl) ?_
  refine lv_iload_n hx hb dL_reservedIn_3 rfl (lv_at hl 1 rfl) ?_
  have hF := va_free (wc := k_X9 E q0 u0 ++ (k_X2 E (fun k => q0 (k + 1)) u1)) hD hS hA [1, 2, 3, 4, 5, 6, 7, 8, 9, 10, 11, 12, 13, 14, 15, 16, 17, 18, 19] rfl
  refine z_hki (R := r_L_reservedIn) (cells := 0) (slots := 0) (z_gX (rest := [.int 0, .ref qo]) hZ0 C0 hK hP hl.1 (c_X9_reservedIn l E Z hZ0 hZs hlt hZe q0 s.heap.size u0 u1 p1 _ _ hw) yv_L_15 (z_pre hZ0 hK hZ hP hD hS hA [1, 2, 3, 4, 5, 6, 7, 8, 9, 10, 11, 12, 13, 14, 15, 16, 17, 18, 19] rfl (by decide)) (ci := 9) rfl rfl 1 rfl ⟨Nat.le_of_ble_eq_true rfl, Nat.le_of_ble_eq_true rfl⟩ ⟨rfl, rfl⟩ rfl rfl (Nat.le_of_ble_eq_true rfl) ⟨Nat.le_of_ble_eq_true rfl, Nat.le_of_ble_eq_true rfl⟩ dL_reservedIn_4) hS hF (fun w => [(qo, .inl (E.2.2 1, 1, .inr (.inl o)))] ++ (k_X9 E q0 w.1 ++ (k_X2 E (fun k => q0 (k + 1)) w.2))) (fun w H1 hk b1 b2 => z_back hP hD hS hA [1, 2, 3, 4, 5, 6, 7, 8, 9, 10, 11, 12, 13, 14, 15, 16, 17, 18, 19] [0] [0, 1, 2, 3, 4, 5, 6, 7, 8, 9, 10, 11, 12, 13, 14, 15, 16, 17, 18, 19] rfl (wr := [_]) rfl (by decide) (by decide) hk b1 b2 rfl (by decide)) ?_ (fun r w H locs hw hP hD hS => ?_)
  · intro X ce q9 w H locs hpx hP hD hS hce hcv hcl
    obtain ⟨rfl, hw⟩ := hpx
    refine vx_catch (own := RL) (name := "java/lang/IndexOutOfBoundsException") hown [] (⟨0, 9, 12, 18⟩ : ExceptionTableEntry) [] (htab.trans rfl) (fun z hz => by cases hz) rfl (by decide) (hts _ wm_4_86) (hts _ wm_4_97) hce hcv hcl ?_
    refine lv_astore_n (lv' := [(3, .ref q9), (0, .ref (q0 0)), (1, .int p1), (2, .ref qo)]) hx hb dL_reservedIn_12 rfl hl (by decide) rfl (fun ls hl => ?_)
    refine lv_iconst (v := 1) hx hb dL_reservedIn_13 rfl ?_
    exact z_iret (k := (fun v : (Nat → Int64) × (S_X9 × S_X2) => [(qo, .inl (E.2.2 1, 1, .inr (.inl v.1)))] ++ (k_X9 E q0 v.2.1 ++ (k_X2 E (fun k => q0 (k + 1)) v.2.2)))) (o, w) C0 hP hD hS hw dL_reservedIn_14
  · refine lv_i2l hx hb dL_reservedIn_7 rfl ?_
    refine va_last hx hb hK hP hD hS 0 1 rfl rfl zin01 dL_reservedIn_8 (fun H locs hP hD hS => ?_)
    refine lv_goto (tgt := 15) hx hb dL_reservedIn_9 (by decide) ?_
    refine lv_iconst (v := 0) hx hb dL_reservedIn_15 rfl ?_
    exact z_iret (k := (fun v : (Nat → Int64) × (S_X9 × S_X2) => [(qo, .inl (E.2.2 1, 1, .inr (.inl v.1)))] ++ (k_X9 E q0 v.2.1 ++ (k_X2 E (fun k => q0 (k + 1)) v.2.2)))) (vp_updL o 0 r.toInt64, w) C0 hP hD hS hw dL_reservedIn_16
def wp_L_forecastOf (o : Nat → Int64) (u0 : S_X9) (u1 : S_X2) (p1 : Int32) (post : Int32 → (Nat → Int64) × (S_X9 × S_X2) → Prop) : Prop := wp_X9_forecastOf u0 u1 p1 (fun r w => post 0 (vp_updL o 0 r.toInt64, w)) (fun X w => (X = "java/lang/IndexOutOfBoundsException" ∧ post 1 (o, w)))
abbrev r_L_forecastOf : Room := { frames := 8, cells := 1, slots := 6, locals := 132 }
set_option maxHeartbeats 4000000 in
set_option maxRecDepth 100000 in
theorem c_L_forecastOf (l : Launch) (E : zE) (Z : zZ) (hZ0 : zSt Z) {sa : Nat → Nat} (hZs : zSS Z sa) (hlt : l.stackTraces = false) (hZe : ∀ A U H, Z A U H → zExc A U H) (q0 : Nat → Nat) (qo : Nat) (sz : Nat) (o : Nat → Int64) (u0 : S_X9) (u1 : S_X2) (p1 : Int32) (post : Int32 → (Nat → Int64) × (S_X9 × S_X2) → Prop) (hw : wp_L_forecastOf o u0 u1 p1 post) : Met l yL_forecastOf (zwsH yL_forecastOf cL_forecastOf 4 (some .int) [(0, 9, 12, 18)]) r_L_forecastOf (va_Pc [.ref (q0 0), .int p1, .ref qo] (zPre Z E ([(qo, .inl (E.2.2 1, 1, .inr (.inl o)))] ++ (k_X9 E q0 u0 ++ (k_X2 E (fun k => q0 (k + 1)) u1))) sz)) (va_Qi post (zAt E (va_A ([(qo, .inl (E.2.2 1, 1, .inr (.inl o)))] ++ (k_X9 E q0 u0 ++ (k_X2 E (fun k => q0 (k + 1)) u1))) sz) (fun v : (Nat → Int64) × (S_X9 × S_X2) => [(qo, .inl (E.2.2 1, 1, .inr (.inl v.1)))] ++ (k_X9 E q0 v.2.1 ++ (k_X2 E (fun k => q0 (k + 1)) v.2.2)))) (va_A ([(qo, .inl (E.2.2 1, 1, .inr (.inl o)))] ++ (k_X9 E q0 u0 ++ (k_X2 E (fun k => q0 (k + 1)) u1))) sz)) 1 6 (va_A ([(qo, .inl (E.2.2 1, 1, .inr (.inl o)))] ++ (k_X9 E q0 u0 ++ (k_X2 E (fun k => q0 (k + 1)) u1))) sz) := by
  refine z_ofH (y := yL_forecastOf) (cc := cL_forecastOf) (maxL := 4) (ret := some .int) (hh := [(0, 9, 12, 18)]) (av := [.ref (q0 0), .int p1, .ref qo]) (Qf := fun A => va_Qi post (zAt E A (fun v : (Nat → Int64) × (S_X9 × S_X2) => [(qo, .inl (E.2.2 1, 1, .inr (.inl v.1)))] ++ (k_X9 E q0 v.2.1 ++ (k_X2 E (fun k => q0 (k + 1)) v.2.2)))) A) (by decide) (Nat.le_of_ble_eq_true rfl) ?_
  intro p e s m args below meth c A ls C0 htab hA hK hZ hP hD hS hl
  obtain ⟨hx, hb, hml, hr, hown, hts, hlocks, hin⟩ := id C0
  have hown : s.vm.findClass RL = some m.cls := hown
  have hl : lv_has ls 4 [(0, .ref (q0 0)), (1, .int p1), (2, .ref qo)] := hl
  refine lv_aload_n hx hb dL_forecastOf_0 rfl (lv_at hl 2 rfl) ?_
  refine lv_iconst (v := 0) hx hb dL_forecastOf_1 rfl ?_
  refine lv_aload_n hx hb dL_forecastOf_2 rfl (lv_at hl 0 rfl) ?_
  refine lv_iload_n hx hb dL_forecastOf_3 rfl (lv_at hl 1 rfl) ?_
  have hF := va_free (wc := k_X9 E q0 u0 ++ (k_X2 E (fun k => q0 (k + 1)) u1)) hD hS hA [1, 2, 3, 4, 5, 6, 7, 8, 9, 10, 11, 12, 13, 14, 15, 16, 17, 18, 19] rfl
  refine z_hki (R := r_L_forecastOf) (cells := 0) (slots := 0) (z_gX (rest := [.int 0, .ref qo]) hZ0 C0 hK hP hl.1 (c_X9_forecastOf l E Z hZ0 hZs hlt hZe q0 s.heap.size u0 u1 p1 _ _ hw) yv_L_20 (z_pre hZ0 hK hZ hP hD hS hA [1, 2, 3, 4, 5, 6, 7, 8, 9, 10, 11, 12, 13, 14, 15, 16, 17, 18, 19] rfl (by decide)) (ci := 9) rfl rfl 1 rfl ⟨Nat.le_of_ble_eq_true rfl, Nat.le_of_ble_eq_true rfl⟩ ⟨rfl, rfl⟩ rfl rfl (Nat.le_of_ble_eq_true rfl) ⟨Nat.le_of_ble_eq_true rfl, Nat.le_of_ble_eq_true rfl⟩ dL_forecastOf_4) hS hF (fun w => [(qo, .inl (E.2.2 1, 1, .inr (.inl o)))] ++ (k_X9 E q0 w.1 ++ (k_X2 E (fun k => q0 (k + 1)) w.2))) (fun w H1 hk b1 b2 => z_back hP hD hS hA [1, 2, 3, 4, 5, 6, 7, 8, 9, 10, 11, 12, 13, 14, 15, 16, 17, 18, 19] [0] [0, 1, 2, 3, 4, 5, 6, 7, 8, 9, 10, 11, 12, 13, 14, 15, 16, 17, 18, 19] rfl (wr := [_]) rfl (by decide) (by decide) hk b1 b2 rfl (by decide)) ?_ (fun r w H locs hw hP hD hS => ?_)
  · intro X ce q9 w H locs hpx hP hD hS hce hcv hcl
    obtain ⟨rfl, hw⟩ := hpx
    refine vx_catch (own := RL) (name := "java/lang/IndexOutOfBoundsException") hown [] (⟨0, 9, 12, 18⟩ : ExceptionTableEntry) [] (htab.trans rfl) (fun z hz => by cases hz) rfl (by decide) (hts _ wm_4_86) (hts _ wm_4_97) hce hcv hcl ?_
    refine lv_astore_n (lv' := [(3, .ref q9), (0, .ref (q0 0)), (1, .int p1), (2, .ref qo)]) hx hb dL_forecastOf_12 rfl hl (by decide) rfl (fun ls hl => ?_)
    refine lv_iconst (v := 1) hx hb dL_forecastOf_13 rfl ?_
    exact z_iret (k := (fun v : (Nat → Int64) × (S_X9 × S_X2) => [(qo, .inl (E.2.2 1, 1, .inr (.inl v.1)))] ++ (k_X9 E q0 v.2.1 ++ (k_X2 E (fun k => q0 (k + 1)) v.2.2)))) (o, w) C0 hP hD hS hw dL_forecastOf_14
  · refine lv_i2l hx hb dL_forecastOf_7 rfl ?_
    refine va_last hx hb hK hP hD hS 0 1 rfl rfl zin01 dL_forecastOf_8 (fun H locs hP hD hS => ?_)
    refine lv_goto (tgt := 15) hx hb dL_forecastOf_9 (by decide) ?_
    refine lv_iconst (v := 0) hx hb dL_forecastOf_15 rfl ?_
    exact z_iret (k := (fun v : (Nat → Int64) × (S_X9 × S_X2) => [(qo, .inl (E.2.2 1, 1, .inr (.inl v.1)))] ++ (k_X9 E q0 v.2.1 ++ (k_X2 E (fun k => q0 (k + 1)) v.2.2)))) (vp_updL o 0 r.toInt64, w) C0 hP hD hS hw dL_forecastOf_16
def wp_L_orderOf (o : Nat → Int64) (u0 : S_X9) (u1 : S_X2) (p1 : Int32) (post : Int32 → (Nat → Int64) × (S_X9 × S_X2) → Prop) : Prop := wp_X9_orderOf u0 u1 p1 (fun r w => post 0 (vp_updL o 0 r.toInt64, w)) (fun X w => (X = "java/lang/IndexOutOfBoundsException" ∧ post 1 (o, w)))
abbrev r_L_orderOf : Room := { frames := 8, cells := 1, slots := 6, locals := 132 }
set_option maxHeartbeats 4000000 in
set_option maxRecDepth 100000 in
theorem c_L_orderOf (l : Launch) (E : zE) (Z : zZ) (hZ0 : zSt Z) {sa : Nat → Nat} (hZs : zSS Z sa) (hlt : l.stackTraces = false) (hZe : ∀ A U H, Z A U H → zExc A U H) (q0 : Nat → Nat) (qo : Nat) (sz : Nat) (o : Nat → Int64) (u0 : S_X9) (u1 : S_X2) (p1 : Int32) (post : Int32 → (Nat → Int64) × (S_X9 × S_X2) → Prop) (hw : wp_L_orderOf o u0 u1 p1 post) : Met l yL_orderOf (zwsH yL_orderOf cL_orderOf 4 (some .int) [(0, 9, 12, 18)]) r_L_orderOf (va_Pc [.ref (q0 0), .int p1, .ref qo] (zPre Z E ([(qo, .inl (E.2.2 1, 1, .inr (.inl o)))] ++ (k_X9 E q0 u0 ++ (k_X2 E (fun k => q0 (k + 1)) u1))) sz)) (va_Qi post (zAt E (va_A ([(qo, .inl (E.2.2 1, 1, .inr (.inl o)))] ++ (k_X9 E q0 u0 ++ (k_X2 E (fun k => q0 (k + 1)) u1))) sz) (fun v : (Nat → Int64) × (S_X9 × S_X2) => [(qo, .inl (E.2.2 1, 1, .inr (.inl v.1)))] ++ (k_X9 E q0 v.2.1 ++ (k_X2 E (fun k => q0 (k + 1)) v.2.2)))) (va_A ([(qo, .inl (E.2.2 1, 1, .inr (.inl o)))] ++ (k_X9 E q0 u0 ++ (k_X2 E (fun k => q0 (k + 1)) u1))) sz)) 1 6 (va_A ([(qo, .inl (E.2.2 1, 1, .inr (.inl o)))] ++ (k_X9 E q0 u0 ++ (k_X2 E (fun k => q0 (k + 1)) u1))) sz) := by
  refine z_ofH (y := yL_orderOf) (cc := cL_orderOf) (maxL := 4) (ret := some .int) (hh := [(0, 9, 12, 18)]) (av := [.ref (q0 0), .int p1, .ref qo]) (Qf := fun A => va_Qi post (zAt E A (fun v : (Nat → Int64) × (S_X9 × S_X2) => [(qo, .inl (E.2.2 1, 1, .inr (.inl v.1)))] ++ (k_X9 E q0 v.2.1 ++ (k_X2 E (fun k => q0 (k + 1)) v.2.2)))) A) (by decide) (Nat.le_of_ble_eq_true rfl) ?_
  intro p e s m args below meth c A ls C0 htab hA hK hZ hP hD hS hl
  obtain ⟨hx, hb, hml, hr, hown, hts, hlocks, hin⟩ := id C0
  have hown : s.vm.findClass RL = some m.cls := hown
  have hl : lv_has ls 4 [(0, .ref (q0 0)), (1, .int p1), (2, .ref qo)] := hl
  refine lv_aload_n hx hb dL_orderOf_0 rfl (lv_at hl 2 rfl) ?_
  refine lv_iconst (v := 0) hx hb dL_orderOf_1 rfl ?_
  refine lv_aload_n hx hb dL_orderOf_2 rfl (lv_at hl 0 rfl) ?_
  refine lv_iload_n hx hb dL_orderOf_3 rfl (lv_at hl 1 rfl) ?_
  have hF := va_free (wc := k_X9 E q0 u0 ++ (k_X2 E (fun k => q0 (k + 1)) u1)) hD hS hA [1, 2, 3, 4, 5, 6, 7, 8, 9, 10, 11, 12, 13, 14, 15, 16, 17, 18, 19] rfl
  refine z_hki (R := r_L_orderOf) (cells := 0) (slots := 0) (z_gX (rest := [.int 0, .ref qo]) hZ0 C0 hK hP hl.1 (c_X9_orderOf l E Z hZ0 hZs hlt hZe q0 s.heap.size u0 u1 p1 _ _ hw) yv_L_23 (z_pre hZ0 hK hZ hP hD hS hA [1, 2, 3, 4, 5, 6, 7, 8, 9, 10, 11, 12, 13, 14, 15, 16, 17, 18, 19] rfl (by decide)) (ci := 9) rfl rfl 1 rfl ⟨Nat.le_of_ble_eq_true rfl, Nat.le_of_ble_eq_true rfl⟩ ⟨rfl, rfl⟩ rfl rfl (Nat.le_of_ble_eq_true rfl) ⟨Nat.le_of_ble_eq_true rfl, Nat.le_of_ble_eq_true rfl⟩ dL_orderOf_4) hS hF (fun w => [(qo, .inl (E.2.2 1, 1, .inr (.inl o)))] ++ (k_X9 E q0 w.1 ++ (k_X2 E (fun k => q0 (k + 1)) w.2))) (fun w H1 hk b1 b2 => z_back hP hD hS hA [1, 2, 3, 4, 5, 6, 7, 8, 9, 10, 11, 12, 13, 14, 15, 16, 17, 18, 19] [0] [0, 1, 2, 3, 4, 5, 6, 7, 8, 9, 10, 11, 12, 13, 14, 15, 16, 17, 18, 19] rfl (wr := [_]) rfl (by decide) (by decide) hk b1 b2 rfl (by decide)) ?_ (fun r w H locs hw hP hD hS => ?_)
  · intro X ce q9 w H locs hpx hP hD hS hce hcv hcl
    obtain ⟨rfl, hw⟩ := hpx
    refine vx_catch (own := RL) (name := "java/lang/IndexOutOfBoundsException") hown [] (⟨0, 9, 12, 18⟩ : ExceptionTableEntry) [] (htab.trans rfl) (fun z hz => by cases hz) rfl (by decide) (hts _ wm_4_86) (hts _ wm_4_97) hce hcv hcl ?_
    refine lv_astore_n (lv' := [(3, .ref q9), (0, .ref (q0 0)), (1, .int p1), (2, .ref qo)]) hx hb dL_orderOf_12 rfl hl (by decide) rfl (fun ls hl => ?_)
    refine lv_iconst (v := 1) hx hb dL_orderOf_13 rfl ?_
    exact z_iret (k := (fun v : (Nat → Int64) × (S_X9 × S_X2) => [(qo, .inl (E.2.2 1, 1, .inr (.inl v.1)))] ++ (k_X9 E q0 v.2.1 ++ (k_X2 E (fun k => q0 (k + 1)) v.2.2)))) (o, w) C0 hP hD hS hw dL_orderOf_14
  · refine lv_i2l hx hb dL_orderOf_7 rfl ?_
    refine va_last hx hb hK hP hD hS 0 1 rfl rfl zin01 dL_orderOf_8 (fun H locs hP hD hS => ?_)
    refine lv_goto (tgt := 15) hx hb dL_orderOf_9 (by decide) ?_
    refine lv_iconst (v := 0) hx hb dL_orderOf_15 rfl ?_
    exact z_iret (k := (fun v : (Nat → Int64) × (S_X9 × S_X2) => [(qo, .inl (E.2.2 1, 1, .inr (.inl v.1)))] ++ (k_X9 E q0 v.2.1 ++ (k_X2 E (fun k => q0 (k + 1)) v.2.2)))) (vp_updL o 0 r.toInt64, w) C0 hP hD hS hw dL_orderOf_16
def wp_L_openUnits (o : Nat → Int64) (u0 : S_X9) (u1 : S_X2) (p1 : Int32) (post : Int32 → (Nat → Int64) × (S_X9 × S_X2) → Prop) : Prop := wp_X9_openUnits u0 u1 p1 (fun r w => post 0 (vp_updL o 0 r.toInt64, w)) (fun X w => (X = "java/lang/IndexOutOfBoundsException" ∧ post 1 (o, w)))
abbrev r_L_openUnits : Room := { frames := 8, cells := 1, slots := 6, locals := 132 }
set_option maxHeartbeats 4000000 in
set_option maxRecDepth 100000 in
theorem c_L_openUnits (l : Launch) (E : zE) (Z : zZ) (hZ0 : zSt Z) {sa : Nat → Nat} (hZs : zSS Z sa) (hlt : l.stackTraces = false) (hZe : ∀ A U H, Z A U H → zExc A U H) (q0 : Nat → Nat) (qo : Nat) (sz : Nat) (o : Nat → Int64) (u0 : S_X9) (u1 : S_X2) (p1 : Int32) (post : Int32 → (Nat → Int64) × (S_X9 × S_X2) → Prop) (hw : wp_L_openUnits o u0 u1 p1 post) : Met l yL_openUnits (zwsH yL_openUnits cL_openUnits 4 (some .int) [(0, 9, 12, 18)]) r_L_openUnits (va_Pc [.ref (q0 0), .int p1, .ref qo] (zPre Z E ([(qo, .inl (E.2.2 1, 1, .inr (.inl o)))] ++ (k_X9 E q0 u0 ++ (k_X2 E (fun k => q0 (k + 1)) u1))) sz)) (va_Qi post (zAt E (va_A ([(qo, .inl (E.2.2 1, 1, .inr (.inl o)))] ++ (k_X9 E q0 u0 ++ (k_X2 E (fun k => q0 (k + 1)) u1))) sz) (fun v : (Nat → Int64) × (S_X9 × S_X2) => [(qo, .inl (E.2.2 1, 1, .inr (.inl v.1)))] ++ (k_X9 E q0 v.2.1 ++ (k_X2 E (fun k => q0 (k + 1)) v.2.2)))) (va_A ([(qo, .inl (E.2.2 1, 1, .inr (.inl o)))] ++ (k_X9 E q0 u0 ++ (k_X2 E (fun k => q0 (k + 1)) u1))) sz)) 1 6 (va_A ([(qo, .inl (E.2.2 1, 1, .inr (.inl o)))] ++ (k_X9 E q0 u0 ++ (k_X2 E (fun k => q0 (k + 1)) u1))) sz) := by
  refine z_ofH (y := yL_openUnits) (cc := cL_openUnits) (maxL := 4) (ret := some .int) (hh := [(0, 9, 12, 18)]) (av := [.ref (q0 0), .int p1, .ref qo]) (Qf := fun A => va_Qi post (zAt E A (fun v : (Nat → Int64) × (S_X9 × S_X2) => [(qo, .inl (E.2.2 1, 1, .inr (.inl v.1)))] ++ (k_X9 E q0 v.2.1 ++ (k_X2 E (fun k => q0 (k + 1)) v.2.2)))) A) (by decide) (Nat.le_of_ble_eq_true rfl) ?_
  intro p e s m args below meth c A ls C0 htab hA hK hZ hP hD hS hl
  obtain ⟨hx, hb, hml, hr, hown, hts, hlocks, hin⟩ := id C0
  have hown : s.vm.findClass RL = some m.cls := hown
  have hl : lv_has ls 4 [(0, .ref (q0 0)), (1, .int p1), (2, .ref qo)] := hl
  refine lv_aload_n hx hb dL_openUnits_0 rfl (lv_at hl 2 rfl) ?_
  refine lv_iconst (v := 0) hx hb dL_openUnits_1 rfl ?_
  refine lv_aload_n hx hb dL_openUnits_2 rfl (lv_at hl 0 rfl) ?_
  refine lv_iload_n hx hb dL_openUnits_3 rfl (lv_at hl 1 rfl) ?_
  have hF := va_free (wc := k_X9 E q0 u0 ++ (k_X2 E (fun k => q0 (k + 1)) u1)) hD hS hA [1, 2, 3, 4, 5, 6, 7, 8, 9, 10, 11, 12, 13, 14, 15, 16, 17, 18, 19] rfl
  refine z_hki (R := r_L_openUnits) (cells := 0) (slots := 0) (z_gX (rest := [.int 0, .ref qo]) hZ0 C0 hK hP hl.1 (c_X9_openUnits l E Z hZ0 hZs hlt hZe q0 s.heap.size u0 u1 p1 _ _ hw) yv_L_26 (z_pre hZ0 hK hZ hP hD hS hA [1, 2, 3, 4, 5, 6, 7, 8, 9, 10, 11, 12, 13, 14, 15, 16, 17, 18, 19] rfl (by decide)) (ci := 9) rfl rfl 1 rfl ⟨Nat.le_of_ble_eq_true rfl, Nat.le_of_ble_eq_true rfl⟩ ⟨rfl, rfl⟩ rfl rfl (Nat.le_of_ble_eq_true rfl) ⟨Nat.le_of_ble_eq_true rfl, Nat.le_of_ble_eq_true rfl⟩ dL_openUnits_4) hS hF (fun w => [(qo, .inl (E.2.2 1, 1, .inr (.inl o)))] ++ (k_X9 E q0 w.1 ++ (k_X2 E (fun k => q0 (k + 1)) w.2))) (fun w H1 hk b1 b2 => z_back hP hD hS hA [1, 2, 3, 4, 5, 6, 7, 8, 9, 10, 11, 12, 13, 14, 15, 16, 17, 18, 19] [0] [0, 1, 2, 3, 4, 5, 6, 7, 8, 9, 10, 11, 12, 13, 14, 15, 16, 17, 18, 19] rfl (wr := [_]) rfl (by decide) (by decide) hk b1 b2 rfl (by decide)) ?_ (fun r w H locs hw hP hD hS => ?_)
  · intro X ce q9 w H locs hpx hP hD hS hce hcv hcl
    obtain ⟨rfl, hw⟩ := hpx
    refine vx_catch (own := RL) (name := "java/lang/IndexOutOfBoundsException") hown [] (⟨0, 9, 12, 18⟩ : ExceptionTableEntry) [] (htab.trans rfl) (fun z hz => by cases hz) rfl (by decide) (hts _ wm_4_86) (hts _ wm_4_97) hce hcv hcl ?_
    refine lv_astore_n (lv' := [(3, .ref q9), (0, .ref (q0 0)), (1, .int p1), (2, .ref qo)]) hx hb dL_openUnits_12 rfl hl (by decide) rfl (fun ls hl => ?_)
    refine lv_iconst (v := 1) hx hb dL_openUnits_13 rfl ?_
    exact z_iret (k := (fun v : (Nat → Int64) × (S_X9 × S_X2) => [(qo, .inl (E.2.2 1, 1, .inr (.inl v.1)))] ++ (k_X9 E q0 v.2.1 ++ (k_X2 E (fun k => q0 (k + 1)) v.2.2)))) (o, w) C0 hP hD hS hw dL_openUnits_14
  · refine lv_i2l hx hb dL_openUnits_7 rfl ?_
    refine va_last hx hb hK hP hD hS 0 1 rfl rfl zin01 dL_openUnits_8 (fun H locs hP hD hS => ?_)
    refine lv_goto (tgt := 15) hx hb dL_openUnits_9 (by decide) ?_
    refine lv_iconst (v := 0) hx hb dL_openUnits_15 rfl ?_
    exact z_iret (k := (fun v : (Nat → Int64) × (S_X9 × S_X2) => [(qo, .inl (E.2.2 1, 1, .inr (.inl v.1)))] ++ (k_X9 E q0 v.2.1 ++ (k_X2 E (fun k => q0 (k + 1)) v.2.2)))) (vp_updL o 0 r.toInt64, w) C0 hP hD hS hw dL_openUnits_16
def wp_L_missedUnits (o : Nat → Int64) (u0 : S_X9) (u1 : S_X2) (p1 : Int32) (post : Int32 → (Nat → Int64) × (S_X9 × S_X2) → Prop) : Prop := wp_X9_missedUnits u0 u1 p1 (fun r w => post 0 (vp_updL o 0 r.toInt64, w)) (fun X w => (X = "java/lang/IndexOutOfBoundsException" ∧ post 1 (o, w)))
abbrev r_L_missedUnits : Room := { frames := 8, cells := 1, slots := 6, locals := 132 }
set_option maxHeartbeats 4000000 in
set_option maxRecDepth 100000 in
theorem c_L_missedUnits (l : Launch) (E : zE) (Z : zZ) (hZ0 : zSt Z) {sa : Nat → Nat} (hZs : zSS Z sa) (hlt : l.stackTraces = false) (hZe : ∀ A U H, Z A U H → zExc A U H) (q0 : Nat → Nat) (qo : Nat) (sz : Nat) (o : Nat → Int64) (u0 : S_X9) (u1 : S_X2) (p1 : Int32) (post : Int32 → (Nat → Int64) × (S_X9 × S_X2) → Prop) (hw : wp_L_missedUnits o u0 u1 p1 post) : Met l yL_missedUnits (zwsH yL_missedUnits cL_missedUnits 4 (some .int) [(0, 9, 12, 18)]) r_L_missedUnits (va_Pc [.ref (q0 0), .int p1, .ref qo] (zPre Z E ([(qo, .inl (E.2.2 1, 1, .inr (.inl o)))] ++ (k_X9 E q0 u0 ++ (k_X2 E (fun k => q0 (k + 1)) u1))) sz)) (va_Qi post (zAt E (va_A ([(qo, .inl (E.2.2 1, 1, .inr (.inl o)))] ++ (k_X9 E q0 u0 ++ (k_X2 E (fun k => q0 (k + 1)) u1))) sz) (fun v : (Nat → Int64) × (S_X9 × S_X2) => [(qo, .inl (E.2.2 1, 1, .inr (.inl v.1)))] ++ (k_X9 E q0 v.2.1 ++ (k_X2 E (fun k => q0 (k + 1)) v.2.2)))) (va_A ([(qo, .inl (E.2.2 1, 1, .inr (.inl o)))] ++ (k_X9 E q0 u0 ++ (k_X2 E (fun k => q0 (k + 1)) u1))) sz)) 1 6 (va_A ([(qo, .inl (E.2.2 1, 1, .inr (.inl o)))] ++ (k_X9 E q0 u0 ++ (k_X2 E (fun k => q0 (k + 1)) u1))) sz) := by
  refine z_ofH (y := yL_missedUnits) (cc := cL_missedUnits) (maxL := 4) (ret := some .int) (hh := [(0, 9, 12, 18)]) (av := [.ref (q0 0), .int p1, .ref qo]) (Qf := fun A => va_Qi post (zAt E A (fun v : (Nat → Int64) × (S_X9 × S_X2) => [(qo, .inl (E.2.2 1, 1, .inr (.inl v.1)))] ++ (k_X9 E q0 v.2.1 ++ (k_X2 E (fun k => q0 (k + 1)) v.2.2)))) A) (by decide) (Nat.le_of_ble_eq_true rfl) ?_
  intro p e s m args below meth c A ls C0 htab hA hK hZ hP hD hS hl
  obtain ⟨hx, hb, hml, hr, hown, hts, hlocks, hin⟩ := id C0
  have hown : s.vm.findClass RL = some m.cls := hown
  have hl : lv_has ls 4 [(0, .ref (q0 0)), (1, .int p1), (2, .ref qo)] := hl
  refine lv_aload_n hx hb dL_missedUnits_0 rfl (lv_at hl 2 rfl) ?_
  refine lv_iconst (v := 0) hx hb dL_missedUnits_1 rfl ?_
  refine lv_aload_n hx hb dL_missedUnits_2 rfl (lv_at hl 0 rfl) ?_
  refine lv_iload_n hx hb dL_missedUnits_3 rfl (lv_at hl 1 rfl) ?_
  have hF := va_free (wc := k_X9 E q0 u0 ++ (k_X2 E (fun k => q0 (k + 1)) u1)) hD hS hA [1, 2, 3, 4, 5, 6, 7, 8, 9, 10, 11, 12, 13, 14, 15, 16, 17, 18, 19] rfl
  refine z_hki (R := r_L_missedUnits) (cells := 0) (slots := 0) (z_gX (rest := [.int 0, .ref qo]) hZ0 C0 hK hP hl.1 (c_X9_missedUnits l E Z hZ0 hZs hlt hZe q0 s.heap.size u0 u1 p1 _ _ hw) yv_L_29 (z_pre hZ0 hK hZ hP hD hS hA [1, 2, 3, 4, 5, 6, 7, 8, 9, 10, 11, 12, 13, 14, 15, 16, 17, 18, 19] rfl (by decide)) (ci := 9) rfl rfl 1 rfl ⟨Nat.le_of_ble_eq_true rfl, Nat.le_of_ble_eq_true rfl⟩ ⟨rfl, rfl⟩ rfl rfl (Nat.le_of_ble_eq_true rfl) ⟨Nat.le_of_ble_eq_true rfl, Nat.le_of_ble_eq_true rfl⟩ dL_missedUnits_4) hS hF (fun w => [(qo, .inl (E.2.2 1, 1, .inr (.inl o)))] ++ (k_X9 E q0 w.1 ++ (k_X2 E (fun k => q0 (k + 1)) w.2))) (fun w H1 hk b1 b2 => z_back hP hD hS hA [1, 2, 3, 4, 5, 6, 7, 8, 9, 10, 11, 12, 13, 14, 15, 16, 17, 18, 19] [0] [0, 1, 2, 3, 4, 5, 6, 7, 8, 9, 10, 11, 12, 13, 14, 15, 16, 17, 18, 19] rfl (wr := [_]) rfl (by decide) (by decide) hk b1 b2 rfl (by decide)) ?_ (fun r w H locs hw hP hD hS => ?_)
  · intro X ce q9 w H locs hpx hP hD hS hce hcv hcl
    obtain ⟨rfl, hw⟩ := hpx
    refine vx_catch (own := RL) (name := "java/lang/IndexOutOfBoundsException") hown [] (⟨0, 9, 12, 18⟩ : ExceptionTableEntry) [] (htab.trans rfl) (fun z hz => by cases hz) rfl (by decide) (hts _ wm_4_86) (hts _ wm_4_97) hce hcv hcl ?_
    refine lv_astore_n (lv' := [(3, .ref q9), (0, .ref (q0 0)), (1, .int p1), (2, .ref qo)]) hx hb dL_missedUnits_12 rfl hl (by decide) rfl (fun ls hl => ?_)
    refine lv_iconst (v := 1) hx hb dL_missedUnits_13 rfl ?_
    exact z_iret (k := (fun v : (Nat → Int64) × (S_X9 × S_X2) => [(qo, .inl (E.2.2 1, 1, .inr (.inl v.1)))] ++ (k_X9 E q0 v.2.1 ++ (k_X2 E (fun k => q0 (k + 1)) v.2.2)))) (o, w) C0 hP hD hS hw dL_missedUnits_14
  · refine lv_i2l hx hb dL_missedUnits_7 rfl ?_
    refine va_last hx hb hK hP hD hS 0 1 rfl rfl zin01 dL_missedUnits_8 (fun H locs hP hD hS => ?_)
    refine lv_goto (tgt := 15) hx hb dL_missedUnits_9 (by decide) ?_
    refine lv_iconst (v := 0) hx hb dL_missedUnits_15 rfl ?_
    exact z_iret (k := (fun v : (Nat → Int64) × (S_X9 × S_X2) => [(qo, .inl (E.2.2 1, 1, .inr (.inl v.1)))] ++ (k_X9 E q0 v.2.1 ++ (k_X2 E (fun k => q0 (k + 1)) v.2.2)))) (vp_updL o 0 r.toInt64, w) C0 hP hD hS hw dL_missedUnits_16
def wp_L_invoice (o : Nat → Int64) (u0 : S_X9) (u1 : S_X2) (p1 : Int32) (post : Int32 → (Nat → Int64) × (S_X9 × S_X2) → Prop) : Prop := wp_X9_invoice u0 u1 p1 (fun r w => post 0 (vp_updL o 0 r, w)) (fun X w => (X = "java/lang/IndexOutOfBoundsException" ∧ post 1 (o, w)))
abbrev r_L_invoice : Room := { frames := 8, cells := 1, slots := 6, locals := 132 }
set_option maxHeartbeats 4000000 in
set_option maxRecDepth 100000 in
theorem c_L_invoice (l : Launch) (E : zE) (Z : zZ) (hZ0 : zSt Z) {sa : Nat → Nat} (hZs : zSS Z sa) (hlt : l.stackTraces = false) (hZe : ∀ A U H, Z A U H → zExc A U H) (q0 : Nat → Nat) (qo : Nat) (sz : Nat) (o : Nat → Int64) (u0 : S_X9) (u1 : S_X2) (p1 : Int32) (post : Int32 → (Nat → Int64) × (S_X9 × S_X2) → Prop) (hw : wp_L_invoice o u0 u1 p1 post) : Met l yL_invoice (zwsH yL_invoice cL_invoice 4 (some .int) [(0, 8, 11, 18)]) r_L_invoice (va_Pc [.ref (q0 0), .int p1, .ref qo] (zPre Z E ([(qo, .inl (E.2.2 1, 1, .inr (.inl o)))] ++ (k_X9 E q0 u0 ++ (k_X2 E (fun k => q0 (k + 1)) u1))) sz)) (va_Qi post (zAt E (va_A ([(qo, .inl (E.2.2 1, 1, .inr (.inl o)))] ++ (k_X9 E q0 u0 ++ (k_X2 E (fun k => q0 (k + 1)) u1))) sz) (fun v : (Nat → Int64) × (S_X9 × S_X2) => [(qo, .inl (E.2.2 1, 1, .inr (.inl v.1)))] ++ (k_X9 E q0 v.2.1 ++ (k_X2 E (fun k => q0 (k + 1)) v.2.2)))) (va_A ([(qo, .inl (E.2.2 1, 1, .inr (.inl o)))] ++ (k_X9 E q0 u0 ++ (k_X2 E (fun k => q0 (k + 1)) u1))) sz)) 1 6 (va_A ([(qo, .inl (E.2.2 1, 1, .inr (.inl o)))] ++ (k_X9 E q0 u0 ++ (k_X2 E (fun k => q0 (k + 1)) u1))) sz) := by
  refine z_ofH (y := yL_invoice) (cc := cL_invoice) (maxL := 4) (ret := some .int) (hh := [(0, 8, 11, 18)]) (av := [.ref (q0 0), .int p1, .ref qo]) (Qf := fun A => va_Qi post (zAt E A (fun v : (Nat → Int64) × (S_X9 × S_X2) => [(qo, .inl (E.2.2 1, 1, .inr (.inl v.1)))] ++ (k_X9 E q0 v.2.1 ++ (k_X2 E (fun k => q0 (k + 1)) v.2.2)))) A) (by decide) (Nat.le_of_ble_eq_true rfl) ?_
  intro p e s m args below meth c A ls C0 htab hA hK hZ hP hD hS hl
  obtain ⟨hx, hb, hml, hr, hown, hts, hlocks, hin⟩ := id C0
  have hown : s.vm.findClass RL = some m.cls := hown
  have hl : lv_has ls 4 [(0, .ref (q0 0)), (1, .int p1), (2, .ref qo)] := hl
  refine lv_aload_n hx hb dL_invoice_0 rfl (lv_at hl 2 rfl) ?_
  refine lv_iconst (v := 0) hx hb dL_invoice_1 rfl ?_
  refine lv_aload_n hx hb dL_invoice_2 rfl (lv_at hl 0 rfl) ?_
  refine lv_iload_n hx hb dL_invoice_3 rfl (lv_at hl 1 rfl) ?_
  have hF := va_free (wc := k_X9 E q0 u0 ++ (k_X2 E (fun k => q0 (k + 1)) u1)) hD hS hA [1, 2, 3, 4, 5, 6, 7, 8, 9, 10, 11, 12, 13, 14, 15, 16, 17, 18, 19] rfl
  refine z_hkl (R := r_L_invoice) (cells := 0) (slots := 0) (z_gX (rest := [.int 0, .ref qo]) hZ0 C0 hK hP hl.1 (c_X9_invoice l E Z hZ0 hZs hlt hZe q0 s.heap.size u0 u1 p1 _ _ hw) yv_L_32 (z_pre hZ0 hK hZ hP hD hS hA [1, 2, 3, 4, 5, 6, 7, 8, 9, 10, 11, 12, 13, 14, 15, 16, 17, 18, 19] rfl (by decide)) (ci := 9) rfl rfl 1 rfl ⟨Nat.le_of_ble_eq_true rfl, Nat.le_of_ble_eq_true rfl⟩ ⟨rfl, rfl⟩ rfl rfl (Nat.le_of_ble_eq_true rfl) ⟨Nat.le_of_ble_eq_true rfl, Nat.le_of_ble_eq_true rfl⟩ dL_invoice_4) hS hF (fun w => [(qo, .inl (E.2.2 1, 1, .inr (.inl o)))] ++ (k_X9 E q0 w.1 ++ (k_X2 E (fun k => q0 (k + 1)) w.2))) (fun w H1 hk b1 b2 => z_back hP hD hS hA [1, 2, 3, 4, 5, 6, 7, 8, 9, 10, 11, 12, 13, 14, 15, 16, 17, 18, 19] [0] [0, 1, 2, 3, 4, 5, 6, 7, 8, 9, 10, 11, 12, 13, 14, 15, 16, 17, 18, 19] rfl (wr := [_]) rfl (by decide) (by decide) hk b1 b2 rfl (by decide)) ?_ (fun r w H locs hw hP hD hS => ?_)
  · intro X ce q9 w H locs hpx hP hD hS hce hcv hcl
    obtain ⟨rfl, hw⟩ := hpx
    refine vx_catch (own := RL) (name := "java/lang/IndexOutOfBoundsException") hown [] (⟨0, 8, 11, 18⟩ : ExceptionTableEntry) [] (htab.trans rfl) (fun z hz => by cases hz) rfl (by decide) (hts _ wm_4_86) (hts _ wm_4_97) hce hcv hcl ?_
    refine lv_astore_n (lv' := [(3, .ref q9), (0, .ref (q0 0)), (1, .int p1), (2, .ref qo)]) hx hb dL_invoice_11 rfl hl (by decide) rfl (fun ls hl => ?_)
    refine lv_iconst (v := 1) hx hb dL_invoice_12 rfl ?_
    exact z_iret (k := (fun v : (Nat → Int64) × (S_X9 × S_X2) => [(qo, .inl (E.2.2 1, 1, .inr (.inl v.1)))] ++ (k_X9 E q0 v.2.1 ++ (k_X2 E (fun k => q0 (k + 1)) v.2.2)))) (o, w) C0 hP hD hS hw dL_invoice_13
  · skip
    refine va_last hx hb hK hP hD hS 0 1 rfl rfl zin01 dL_invoice_7 (fun H locs hP hD hS => ?_)
    refine lv_goto (tgt := 14) hx hb dL_invoice_8 (by decide) ?_
    refine lv_iconst (v := 0) hx hb dL_invoice_14 rfl ?_
    exact z_iret (k := (fun v : (Nat → Int64) × (S_X9 × S_X2) => [(qo, .inl (E.2.2 1, 1, .inr (.inl v.1)))] ++ (k_X9 E q0 v.2.1 ++ (k_X2 E (fun k => q0 (k + 1)) v.2.2)))) (vp_updL o 0 r, w) C0 hP hD hS hw dL_invoice_15
def wp_L_bandFor (o : Nat → Int64) (u0 : S_X9) (u1 : S_X2) (p1 : Int32) (post : Int32 → (Nat → Int64) × (S_X9 × S_X2) → Prop) : Prop := wp_X9_bandFor u0 u1 p1 (fun r w => post 0 (vp_updL o 0 r.toInt64, w)) (fun X w => (X = "java/lang/IllegalArgumentException" ∧ post 1 (o, w)))
abbrev r_L_bandFor : Room := { frames := 8, cells := 1, slots := 6, locals := 132 }
set_option maxHeartbeats 4000000 in
set_option maxRecDepth 100000 in
theorem c_L_bandFor (l : Launch) (E : zE) (Z : zZ) (hZ0 : zSt Z) {sa : Nat → Nat} (hZs : zSS Z sa) (hlt : l.stackTraces = false) (hZe : ∀ A U H, Z A U H → zExc A U H) (q0 : Nat → Nat) (qo : Nat) (sz : Nat) (o : Nat → Int64) (u0 : S_X9) (u1 : S_X2) (p1 : Int32) (post : Int32 → (Nat → Int64) × (S_X9 × S_X2) → Prop) (hw : wp_L_bandFor o u0 u1 p1 post) : Met l yL_bandFor (zwsH yL_bandFor cL_bandFor 4 (some .int) [(0, 9, 12, 13)]) r_L_bandFor (va_Pc [.ref (q0 0), .int p1, .ref qo] (zPre Z E ([(qo, .inl (E.2.2 1, 1, .inr (.inl o)))] ++ (k_X9 E q0 u0 ++ (k_X2 E (fun k => q0 (k + 1)) u1))) sz)) (va_Qi post (zAt E (va_A ([(qo, .inl (E.2.2 1, 1, .inr (.inl o)))] ++ (k_X9 E q0 u0 ++ (k_X2 E (fun k => q0 (k + 1)) u1))) sz) (fun v : (Nat → Int64) × (S_X9 × S_X2) => [(qo, .inl (E.2.2 1, 1, .inr (.inl v.1)))] ++ (k_X9 E q0 v.2.1 ++ (k_X2 E (fun k => q0 (k + 1)) v.2.2)))) (va_A ([(qo, .inl (E.2.2 1, 1, .inr (.inl o)))] ++ (k_X9 E q0 u0 ++ (k_X2 E (fun k => q0 (k + 1)) u1))) sz)) 1 6 (va_A ([(qo, .inl (E.2.2 1, 1, .inr (.inl o)))] ++ (k_X9 E q0 u0 ++ (k_X2 E (fun k => q0 (k + 1)) u1))) sz) := by
  refine z_ofH (y := yL_bandFor) (cc := cL_bandFor) (maxL := 4) (ret := some .int) (hh := [(0, 9, 12, 13)]) (av := [.ref (q0 0), .int p1, .ref qo]) (Qf := fun A => va_Qi post (zAt E A (fun v : (Nat → Int64) × (S_X9 × S_X2) => [(qo, .inl (E.2.2 1, 1, .inr (.inl v.1)))] ++ (k_X9 E q0 v.2.1 ++ (k_X2 E (fun k => q0 (k + 1)) v.2.2)))) A) (by decide) (Nat.le_of_ble_eq_true rfl) ?_
  intro p e s m args below meth c A ls C0 htab hA hK hZ hP hD hS hl
  obtain ⟨hx, hb, hml, hr, hown, hts, hlocks, hin⟩ := id C0
  have hown : s.vm.findClass RL = some m.cls := hown
  have hl : lv_has ls 4 [(0, .ref (q0 0)), (1, .int p1), (2, .ref qo)] := hl
  refine lv_aload_n hx hb dL_bandFor_0 rfl (lv_at hl 2 rfl) ?_
  refine lv_iconst (v := 0) hx hb dL_bandFor_1 rfl ?_
  refine lv_aload_n hx hb dL_bandFor_2 rfl (lv_at hl 0 rfl) ?_
  refine lv_iload_n hx hb dL_bandFor_3 rfl (lv_at hl 1 rfl) ?_
  have hF := va_free (wc := k_X9 E q0 u0 ++ (k_X2 E (fun k => q0 (k + 1)) u1)) hD hS hA [1, 2, 3, 4, 5, 6, 7, 8, 9, 10, 11, 12, 13, 14, 15, 16, 17, 18, 19] rfl
  refine z_hki (R := r_L_bandFor) (cells := 0) (slots := 0) (z_gX (rest := [.int 0, .ref qo]) hZ0 C0 hK hP hl.1 (c_X9_bandFor l E Z hZ0 hZs hlt hZe q0 s.heap.size u0 u1 p1 _ _ hw) yv_L_36 (z_pre hZ0 hK hZ hP hD hS hA [1, 2, 3, 4, 5, 6, 7, 8, 9, 10, 11, 12, 13, 14, 15, 16, 17, 18, 19] rfl (by decide)) (ci := 9) rfl rfl 1 rfl ⟨Nat.le_of_ble_eq_true rfl, Nat.le_of_ble_eq_true rfl⟩ ⟨rfl, rfl⟩ rfl rfl (Nat.le_of_ble_eq_true rfl) ⟨Nat.le_of_ble_eq_true rfl, Nat.le_of_ble_eq_true rfl⟩ dL_bandFor_4) hS hF (fun w => [(qo, .inl (E.2.2 1, 1, .inr (.inl o)))] ++ (k_X9 E q0 w.1 ++ (k_X2 E (fun k => q0 (k + 1)) w.2))) (fun w H1 hk b1 b2 => z_back hP hD hS hA [1, 2, 3, 4, 5, 6, 7, 8, 9, 10, 11, 12, 13, 14, 15, 16, 17, 18, 19] [0] [0, 1, 2, 3, 4, 5, 6, 7, 8, 9, 10, 11, 12, 13, 14, 15, 16, 17, 18, 19] rfl (wr := [_]) rfl (by decide) (by decide) hk b1 b2 rfl (by decide)) ?_ (fun r w H locs hw hP hD hS => ?_)
  · intro X ce q9 w H locs hpx hP hD hS hce hcv hcl
    obtain ⟨rfl, hw⟩ := hpx
    refine vx_catch (own := RL) (name := "java/lang/IllegalArgumentException") hown [] (⟨0, 9, 12, 13⟩ : ExceptionTableEntry) [] (htab.trans rfl) (fun z hz => by cases hz) rfl (by decide) (hts _ wm_3_56) (hts _ wm_3_63) hce hcv hcl ?_
    refine lv_astore_n (lv' := [(3, .ref q9), (0, .ref (q0 0)), (1, .int p1), (2, .ref qo)]) hx hb dL_bandFor_12 rfl hl (by decide) rfl (fun ls hl => ?_)
    refine lv_iconst (v := 1) hx hb dL_bandFor_13 rfl ?_
    exact z_iret (k := (fun v : (Nat → Int64) × (S_X9 × S_X2) => [(qo, .inl (E.2.2 1, 1, .inr (.inl v.1)))] ++ (k_X9 E q0 v.2.1 ++ (k_X2 E (fun k => q0 (k + 1)) v.2.2)))) (o, w) C0 hP hD hS hw dL_bandFor_14
  · refine lv_i2l hx hb dL_bandFor_7 rfl ?_
    refine va_last hx hb hK hP hD hS 0 1 rfl rfl zin01 dL_bandFor_8 (fun H locs hP hD hS => ?_)
    refine lv_goto (tgt := 15) hx hb dL_bandFor_9 (by decide) ?_
    refine lv_iconst (v := 0) hx hb dL_bandFor_15 rfl ?_
    exact z_iret (k := (fun v : (Nat → Int64) × (S_X9 × S_X2) => [(qo, .inl (E.2.2 1, 1, .inr (.inl v.1)))] ++ (k_X9 E q0 v.2.1 ++ (k_X2 E (fun k => q0 (k + 1)) v.2.2)))) (vp_updL o 0 r.toInt64, w) C0 hP hD hS hw dL_bandFor_16
def wp_L_allowed (o : Nat → Int64) (u0 : S_X9) (u1 : S_X2) (p1 : Int32) (p2 : Int32) (p3 : Int32) (post : Int32 → (Nat → Int64) × (S_X9 × S_X2) → Prop) : Prop := wp_X9_allowed u0 u1 p1 p2 p3 (fun r w => post 0 (vp_updL o 0 r.toInt64, w)) (fun X w => (X = "java/lang/IllegalArgumentException" ∧ post 1 (o, w)))
abbrev r_L_allowed : Room := { frames := 8, cells := 2, slots := 12, locals := 134 }
set_option maxHeartbeats 4000000 in
set_option maxRecDepth 100000 in
theorem c_L_allowed (l : Launch) (E : zE) (Z : zZ) (hZ0 : zSt Z) {sa : Nat → Nat} (hZs : zSS Z sa) (hlt : l.stackTraces = false) (hZe : ∀ A U H, Z A U H → zExc A U H) (q0 : Nat → Nat) (qo : Nat) (sz : Nat) (o : Nat → Int64) (u0 : S_X9) (u1 : S_X2) (p1 : Int32) (p2 : Int32) (p3 : Int32) (post : Int32 → (Nat → Int64) × (S_X9 × S_X2) → Prop) (hw : wp_L_allowed o u0 u1 p1 p2 p3 post) : Met l yL_allowed (zwsH yL_allowed cL_allowed 6 (some .int) [(0, 12, 15, 13)]) r_L_allowed (va_Pc [.ref (q0 0), .int p1, .int p2, .int p3, .ref qo] (zPre Z E ([(qo, .inl (E.2.2 1, 1, .inr (.inl o)))] ++ (k_X9 E q0 u0 ++ (k_X2 E (fun k => q0 (k + 1)) u1))) sz)) (va_Qi post (zAt E (va_A ([(qo, .inl (E.2.2 1, 1, .inr (.inl o)))] ++ (k_X9 E q0 u0 ++ (k_X2 E (fun k => q0 (k + 1)) u1))) sz) (fun v : (Nat → Int64) × (S_X9 × S_X2) => [(qo, .inl (E.2.2 1, 1, .inr (.inl v.1)))] ++ (k_X9 E q0 v.2.1 ++ (k_X2 E (fun k => q0 (k + 1)) v.2.2)))) (va_A ([(qo, .inl (E.2.2 1, 1, .inr (.inl o)))] ++ (k_X9 E q0 u0 ++ (k_X2 E (fun k => q0 (k + 1)) u1))) sz)) 2 12 (va_A ([(qo, .inl (E.2.2 1, 1, .inr (.inl o)))] ++ (k_X9 E q0 u0 ++ (k_X2 E (fun k => q0 (k + 1)) u1))) sz) := by
  refine z_ofH (y := yL_allowed) (cc := cL_allowed) (maxL := 6) (ret := some .int) (hh := [(0, 12, 15, 13)]) (av := [.ref (q0 0), .int p1, .int p2, .int p3, .ref qo]) (Qf := fun A => va_Qi post (zAt E A (fun v : (Nat → Int64) × (S_X9 × S_X2) => [(qo, .inl (E.2.2 1, 1, .inr (.inl v.1)))] ++ (k_X9 E q0 v.2.1 ++ (k_X2 E (fun k => q0 (k + 1)) v.2.2)))) A) (by decide) (Nat.le_of_ble_eq_true rfl) ?_
  intro p e s m args below meth c A ls C0 htab hA hK hZ hP hD hS hl
  obtain ⟨hx, hb, hml, hr, hown, hts, hlocks, hin⟩ := id C0
  have hown : s.vm.findClass RL = some m.cls := hown
  have hl : lv_has ls 6 [(0, .ref (q0 0)), (1, .int p1), (2, .int p2), (3, .int p3), (4, .ref qo)] := hl
  refine lv_aload hx hb dL_allowed_0 (lv_at hl 4 rfl) ?_
  refine lv_iconst (v := 0) hx hb dL_allowed_2 rfl ?_
  refine lv_aload_n hx hb dL_allowed_3 rfl (lv_at hl 0 rfl) ?_
  refine lv_iload_n hx hb dL_allowed_4 rfl (lv_at hl 1 rfl) ?_
  refine lv_iload_n hx hb dL_allowed_5 rfl (lv_at hl 2 rfl) ?_
  refine lv_iload_n hx hb dL_allowed_6 rfl (lv_at hl 3 rfl) ?_
  have hF := va_free (wc := k_X9 E q0 u0 ++ (k_X2 E (fun k => q0 (k + 1)) u1)) hD hS hA [1, 2, 3, 4, 5, 6, 7, 8, 9, 10, 11, 12, 13, 14, 15, 16, 17, 18, 19] rfl
  refine z_hki (R := r_L_allowed) (cells := 0) (slots := 0) (z_gX (rest := [.int 0, .ref qo]) hZ0 C0 hK hP hl.1 (c_X9_allowed l E Z hZ0 hZs hlt hZe q0 s.heap.size u0 u1 p1 p2 p3 _ _ hw) yv_L_39 (z_pre hZ0 hK hZ hP hD hS hA [1, 2, 3, 4, 5, 6, 7, 8, 9, 10, 11, 12, 13, 14, 15, 16, 17, 18, 19] rfl (by decide)) (ci := 9) rfl rfl 1 rfl ⟨Nat.le_of_ble_eq_true rfl, Nat.le_of_ble_eq_true rfl⟩ ⟨rfl, rfl⟩ rfl rfl (Nat.le_of_ble_eq_true rfl) ⟨Nat.le_of_ble_eq_true rfl, Nat.le_of_ble_eq_true rfl⟩ dL_allowed_7) hS hF (fun w => [(qo, .inl (E.2.2 1, 1, .inr (.inl o)))] ++ (k_X9 E q0 w.1 ++ (k_X2 E (fun k => q0 (k + 1)) w.2))) (fun w H1 hk b1 b2 => z_back hP hD hS hA [1, 2, 3, 4, 5, 6, 7, 8, 9, 10, 11, 12, 13, 14, 15, 16, 17, 18, 19] [0] [0, 1, 2, 3, 4, 5, 6, 7, 8, 9, 10, 11, 12, 13, 14, 15, 16, 17, 18, 19] rfl (wr := [_]) rfl (by decide) (by decide) hk b1 b2 rfl (by decide)) ?_ (fun r w H locs hw hP hD hS => ?_)
  · intro X ce q9 w H locs hpx hP hD hS hce hcv hcl
    obtain ⟨rfl, hw⟩ := hpx
    refine vx_catch (own := RL) (name := "java/lang/IllegalArgumentException") hown [] (⟨0, 12, 15, 13⟩ : ExceptionTableEntry) [] (htab.trans rfl) (fun z hz => by cases hz) rfl (by decide) (hts _ wm_3_56) (hts _ wm_3_63) hce hcv hcl ?_
    refine lv_astore (lv' := [(5, .ref q9), (0, .ref (q0 0)), (1, .int p1), (2, .int p2), (3, .int p3), (4, .ref qo)]) hx hb dL_allowed_15 hl (by decide) rfl (fun ls hl => ?_)
    refine lv_iconst (v := 1) hx hb dL_allowed_17 rfl ?_
    exact z_iret (k := (fun v : (Nat → Int64) × (S_X9 × S_X2) => [(qo, .inl (E.2.2 1, 1, .inr (.inl v.1)))] ++ (k_X9 E q0 v.2.1 ++ (k_X2 E (fun k => q0 (k + 1)) v.2.2)))) (o, w) C0 hP hD hS hw dL_allowed_18
  · refine lv_i2l hx hb dL_allowed_10 rfl ?_
    refine va_last hx hb hK hP hD hS 0 1 rfl rfl zin01 dL_allowed_11 (fun H locs hP hD hS => ?_)
    refine lv_goto (tgt := 19) hx hb dL_allowed_12 (by decide) ?_
    refine lv_iconst (v := 0) hx hb dL_allowed_19 rfl ?_
    exact z_iret (k := (fun v : (Nat → Int64) × (S_X9 × S_X2) => [(qo, .inl (E.2.2 1, 1, .inr (.inl v.1)))] ++ (k_X9 E q0 v.2.1 ++ (k_X2 E (fun k => q0 (k + 1)) v.2.2)))) (vp_updL o 0 r.toInt64, w) C0 hP hD hS hw dL_allowed_20
def wp_L_penaltyFor (o : Nat → Int64) (u0 : S_X9) (u1 : S_X2) (p1 : Int32) (p2 : Int32) (post : Int32 → (Nat → Int64) × (S_X9 × S_X2) → Prop) : Prop := wp_X9_penaltyFor u0 u1 p1 p2 (fun r w => post 0 (vp_updL o 0 r.toInt64, w)) (fun X w => (X = "java/lang/IllegalArgumentException" ∧ post 1 (o, w)))
abbrev r_L_penaltyFor : Room := { frames := 8, cells := 2, slots := 12, locals := 133 }
set_option maxHeartbeats 4000000 in
set_option maxRecDepth 100000 in
theorem c_L_penaltyFor (l : Launch) (E : zE) (Z : zZ) (hZ0 : zSt Z) {sa : Nat → Nat} (hZs : zSS Z sa) (hlt : l.stackTraces = false) (hZe : ∀ A U H, Z A U H → zExc A U H) (q0 : Nat → Nat) (qo : Nat) (sz : Nat) (o : Nat → Int64) (u0 : S_X9) (u1 : S_X2) (p1 : Int32) (p2 : Int32) (post : Int32 → (Nat → Int64) × (S_X9 × S_X2) → Prop) (hw : wp_L_penaltyFor o u0 u1 p1 p2 post) : Met l yL_penaltyFor (zwsH yL_penaltyFor cL_penaltyFor 5 (some .int) [(0, 10, 13, 13)]) r_L_penaltyFor (va_Pc [.ref (q0 0), .int p1, .int p2, .ref qo] (zPre Z E ([(qo, .inl (E.2.2 1, 1, .inr (.inl o)))] ++ (k_X9 E q0 u0 ++ (k_X2 E (fun k => q0 (k + 1)) u1))) sz)) (va_Qi post (zAt E (va_A ([(qo, .inl (E.2.2 1, 1, .inr (.inl o)))] ++ (k_X9 E q0 u0 ++ (k_X2 E (fun k => q0 (k + 1)) u1))) sz) (fun v : (Nat → Int64) × (S_X9 × S_X2) => [(qo, .inl (E.2.2 1, 1, .inr (.inl v.1)))] ++ (k_X9 E q0 v.2.1 ++ (k_X2 E (fun k => q0 (k + 1)) v.2.2)))) (va_A ([(qo, .inl (E.2.2 1, 1, .inr (.inl o)))] ++ (k_X9 E q0 u0 ++ (k_X2 E (fun k => q0 (k + 1)) u1))) sz)) 2 12 (va_A ([(qo, .inl (E.2.2 1, 1, .inr (.inl o)))] ++ (k_X9 E q0 u0 ++ (k_X2 E (fun k => q0 (k + 1)) u1))) sz) := by
  refine z_ofH (y := yL_penaltyFor) (cc := cL_penaltyFor) (maxL := 5) (ret := some .int) (hh := [(0, 10, 13, 13)]) (av := [.ref (q0 0), .int p1, .int p2, .ref qo]) (Qf := fun A => va_Qi post (zAt E A (fun v : (Nat → Int64) × (S_X9 × S_X2) => [(qo, .inl (E.2.2 1, 1, .inr (.inl v.1)))] ++ (k_X9 E q0 v.2.1 ++ (k_X2 E (fun k => q0 (k + 1)) v.2.2)))) A) (by decide) (Nat.le_of_ble_eq_true rfl) ?_
  intro p e s m args below meth c A ls C0 htab hA hK hZ hP hD hS hl
  obtain ⟨hx, hb, hml, hr, hown, hts, hlocks, hin⟩ := id C0
  have hown : s.vm.findClass RL = some m.cls := hown
  have hl : lv_has ls 5 [(0, .ref (q0 0)), (1, .int p1), (2, .int p2), (3, .ref qo)] := hl
  refine lv_aload_n hx hb dL_penaltyFor_0 rfl (lv_at hl 3 rfl) ?_
  refine lv_iconst (v := 0) hx hb dL_penaltyFor_1 rfl ?_
  refine lv_aload_n hx hb dL_penaltyFor_2 rfl (lv_at hl 0 rfl) ?_
  refine lv_iload_n hx hb dL_penaltyFor_3 rfl (lv_at hl 1 rfl) ?_
  refine lv_iload_n hx hb dL_penaltyFor_4 rfl (lv_at hl 2 rfl) ?_
  have hF := va_free (wc := k_X9 E q0 u0 ++ (k_X2 E (fun k => q0 (k + 1)) u1)) hD hS hA [1, 2, 3, 4, 5, 6, 7, 8, 9, 10, 11, 12, 13, 14, 15, 16, 17, 18, 19] rfl
  refine z_hki (R := r_L_penaltyFor) (cells := 0) (slots := 0) (z_gX (rest := [.int 0, .ref qo]) hZ0 C0 hK hP hl.1 (c_X9_penaltyFor l E Z hZ0 hZs hlt hZe q0 s.heap.size u0 u1 p1 p2 _ _ hw) yv_L_43 (z_pre hZ0 hK hZ hP hD hS hA [1, 2, 3, 4, 5, 6, 7, 8, 9, 10, 11, 12, 13, 14, 15, 16, 17, 18, 19] rfl (by decide)) (ci := 9) rfl rfl 1 rfl ⟨Nat.le_of_ble_eq_true rfl, Nat.le_of_ble_eq_true rfl⟩ ⟨rfl, rfl⟩ rfl rfl (Nat.le_of_ble_eq_true rfl) ⟨Nat.le_of_ble_eq_true rfl, Nat.le_of_ble_eq_true rfl⟩ dL_penaltyFor_5) hS hF (fun w => [(qo, .inl (E.2.2 1, 1, .inr (.inl o)))] ++ (k_X9 E q0 w.1 ++ (k_X2 E (fun k => q0 (k + 1)) w.2))) (fun w H1 hk b1 b2 => z_back hP hD hS hA [1, 2, 3, 4, 5, 6, 7, 8, 9, 10, 11, 12, 13, 14, 15, 16, 17, 18, 19] [0] [0, 1, 2, 3, 4, 5, 6, 7, 8, 9, 10, 11, 12, 13, 14, 15, 16, 17, 18, 19] rfl (wr := [_]) rfl (by decide) (by decide) hk b1 b2 rfl (by decide)) ?_ (fun r w H locs hw hP hD hS => ?_)
  · intro X ce q9 w H locs hpx hP hD hS hce hcv hcl
    obtain ⟨rfl, hw⟩ := hpx
    refine vx_catch (own := RL) (name := "java/lang/IllegalArgumentException") hown [] (⟨0, 10, 13, 13⟩ : ExceptionTableEntry) [] (htab.trans rfl) (fun z hz => by cases hz) rfl (by decide) (hts _ wm_3_56) (hts _ wm_3_63) hce hcv hcl ?_
    refine lv_astore (lv' := [(4, .ref q9), (0, .ref (q0 0)), (1, .int p1), (2, .int p2), (3, .ref qo)]) hx hb dL_penaltyFor_13 hl (by decide) rfl (fun ls hl => ?_)
    refine lv_iconst (v := 1) hx hb dL_penaltyFor_15 rfl ?_
    exact z_iret (k := (fun v : (Nat → Int64) × (S_X9 × S_X2) => [(qo, .inl (E.2.2 1, 1, .inr (.inl v.1)))] ++ (k_X9 E q0 v.2.1 ++ (k_X2 E (fun k => q0 (k + 1)) v.2.2)))) (o, w) C0 hP hD hS hw dL_penaltyFor_16
  · refine lv_i2l hx hb dL_penaltyFor_8 rfl ?_
    refine va_last hx hb hK hP hD hS 0 1 rfl rfl zin01 dL_penaltyFor_9 (fun H locs hP hD hS => ?_)
    refine lv_goto (tgt := 17) hx hb dL_penaltyFor_10 (by decide) ?_
    refine lv_iconst (v := 0) hx hb dL_penaltyFor_17 rfl ?_
    exact z_iret (k := (fun v : (Nat → Int64) × (S_X9 × S_X2) => [(qo, .inl (E.2.2 1, 1, .inr (.inl v.1)))] ++ (k_X9 E q0 v.2.1 ++ (k_X2 E (fun k => q0 (k + 1)) v.2.2)))) (vp_updL o 0 r.toInt64, w) C0 hP hD hS hw dL_penaltyFor_18
def wp_L_breachPeriod (o : Nat → Int64) (u0 : S_X9) (u1 : S_X2) (p1 : Int32) (post : Int32 → (Nat → Int64) × (S_X9 × S_X2) → Prop) : Prop := wp_X9_breachPeriod u0 u1 p1 (fun r w => post 0 (vp_updL o 0 r.toInt64, w)) (fun X w => (X = "java/lang/IndexOutOfBoundsException" ∧ post 1 (o, w)))
abbrev r_L_breachPeriod : Room := { frames := 8, cells := 1, slots := 6, locals := 132 }
set_option maxHeartbeats 4000000 in
set_option maxRecDepth 100000 in
theorem c_L_breachPeriod (l : Launch) (E : zE) (Z : zZ) (hZ0 : zSt Z) {sa : Nat → Nat} (hZs : zSS Z sa) (hlt : l.stackTraces = false) (hZe : ∀ A U H, Z A U H → zExc A U H) (q0 : Nat → Nat) (qo : Nat) (sz : Nat) (o : Nat → Int64) (u0 : S_X9) (u1 : S_X2) (p1 : Int32) (post : Int32 → (Nat → Int64) × (S_X9 × S_X2) → Prop) (hw : wp_L_breachPeriod o u0 u1 p1 post) : Met l yL_breachPeriod (zwsH yL_breachPeriod cL_breachPeriod 4 (some .int) [(0, 9, 12, 18)]) r_L_breachPeriod (va_Pc [.ref (q0 0), .int p1, .ref qo] (zPre Z E ([(qo, .inl (E.2.2 1, 1, .inr (.inl o)))] ++ (k_X9 E q0 u0 ++ (k_X2 E (fun k => q0 (k + 1)) u1))) sz)) (va_Qi post (zAt E (va_A ([(qo, .inl (E.2.2 1, 1, .inr (.inl o)))] ++ (k_X9 E q0 u0 ++ (k_X2 E (fun k => q0 (k + 1)) u1))) sz) (fun v : (Nat → Int64) × (S_X9 × S_X2) => [(qo, .inl (E.2.2 1, 1, .inr (.inl v.1)))] ++ (k_X9 E q0 v.2.1 ++ (k_X2 E (fun k => q0 (k + 1)) v.2.2)))) (va_A ([(qo, .inl (E.2.2 1, 1, .inr (.inl o)))] ++ (k_X9 E q0 u0 ++ (k_X2 E (fun k => q0 (k + 1)) u1))) sz)) 1 6 (va_A ([(qo, .inl (E.2.2 1, 1, .inr (.inl o)))] ++ (k_X9 E q0 u0 ++ (k_X2 E (fun k => q0 (k + 1)) u1))) sz) := by
  refine z_ofH (y := yL_breachPeriod) (cc := cL_breachPeriod) (maxL := 4) (ret := some .int) (hh := [(0, 9, 12, 18)]) (av := [.ref (q0 0), .int p1, .ref qo]) (Qf := fun A => va_Qi post (zAt E A (fun v : (Nat → Int64) × (S_X9 × S_X2) => [(qo, .inl (E.2.2 1, 1, .inr (.inl v.1)))] ++ (k_X9 E q0 v.2.1 ++ (k_X2 E (fun k => q0 (k + 1)) v.2.2)))) A) (by decide) (Nat.le_of_ble_eq_true rfl) ?_
  intro p e s m args below meth c A ls C0 htab hA hK hZ hP hD hS hl
  obtain ⟨hx, hb, hml, hr, hown, hts, hlocks, hin⟩ := id C0
  have hown : s.vm.findClass RL = some m.cls := hown
  have hl : lv_has ls 4 [(0, .ref (q0 0)), (1, .int p1), (2, .ref qo)] := hl
  refine lv_aload_n hx hb dL_breachPeriod_0 rfl (lv_at hl 2 rfl) ?_
  refine lv_iconst (v := 0) hx hb dL_breachPeriod_1 rfl ?_
  refine lv_aload_n hx hb dL_breachPeriod_2 rfl (lv_at hl 0 rfl) ?_
  refine lv_iload_n hx hb dL_breachPeriod_3 rfl (lv_at hl 1 rfl) ?_
  have hF := va_free (wc := k_X9 E q0 u0 ++ (k_X2 E (fun k => q0 (k + 1)) u1)) hD hS hA [1, 2, 3, 4, 5, 6, 7, 8, 9, 10, 11, 12, 13, 14, 15, 16, 17, 18, 19] rfl
  refine z_hki (R := r_L_breachPeriod) (cells := 0) (slots := 0) (z_gX (rest := [.int 0, .ref qo]) hZ0 C0 hK hP hl.1 (c_X9_breachPeriod l E Z hZ0 hZs hlt hZe q0 s.heap.size u0 u1 p1 _ _ hw) yv_L_47 (z_pre hZ0 hK hZ hP hD hS hA [1, 2, 3, 4, 5, 6, 7, 8, 9, 10, 11, 12, 13, 14, 15, 16, 17, 18, 19] rfl (by decide)) (ci := 9) rfl rfl 1 rfl ⟨Nat.le_of_ble_eq_true rfl, Nat.le_of_ble_eq_true rfl⟩ ⟨rfl, rfl⟩ rfl rfl (Nat.le_of_ble_eq_true rfl) ⟨Nat.le_of_ble_eq_true rfl, Nat.le_of_ble_eq_true rfl⟩ dL_breachPeriod_4) hS hF (fun w => [(qo, .inl (E.2.2 1, 1, .inr (.inl o)))] ++ (k_X9 E q0 w.1 ++ (k_X2 E (fun k => q0 (k + 1)) w.2))) (fun w H1 hk b1 b2 => z_back hP hD hS hA [1, 2, 3, 4, 5, 6, 7, 8, 9, 10, 11, 12, 13, 14, 15, 16, 17, 18, 19] [0] [0, 1, 2, 3, 4, 5, 6, 7, 8, 9, 10, 11, 12, 13, 14, 15, 16, 17, 18, 19] rfl (wr := [_]) rfl (by decide) (by decide) hk b1 b2 rfl (by decide)) ?_ (fun r w H locs hw hP hD hS => ?_)
  · intro X ce q9 w H locs hpx hP hD hS hce hcv hcl
    obtain ⟨rfl, hw⟩ := hpx
    refine vx_catch (own := RL) (name := "java/lang/IndexOutOfBoundsException") hown [] (⟨0, 9, 12, 18⟩ : ExceptionTableEntry) [] (htab.trans rfl) (fun z hz => by cases hz) rfl (by decide) (hts _ wm_4_86) (hts _ wm_4_97) hce hcv hcl ?_
    refine lv_astore_n (lv' := [(3, .ref q9), (0, .ref (q0 0)), (1, .int p1), (2, .ref qo)]) hx hb dL_breachPeriod_12 rfl hl (by decide) rfl (fun ls hl => ?_)
    refine lv_iconst (v := 1) hx hb dL_breachPeriod_13 rfl ?_
    exact z_iret (k := (fun v : (Nat → Int64) × (S_X9 × S_X2) => [(qo, .inl (E.2.2 1, 1, .inr (.inl v.1)))] ++ (k_X9 E q0 v.2.1 ++ (k_X2 E (fun k => q0 (k + 1)) v.2.2)))) (o, w) C0 hP hD hS hw dL_breachPeriod_14
  · refine lv_i2l hx hb dL_breachPeriod_7 rfl ?_
    refine va_last hx hb hK hP hD hS 0 1 rfl rfl zin01 dL_breachPeriod_8 (fun H locs hP hD hS => ?_)
    refine lv_goto (tgt := 15) hx hb dL_breachPeriod_9 (by decide) ?_
    refine lv_iconst (v := 0) hx hb dL_breachPeriod_15 rfl ?_
    exact z_iret (k := (fun v : (Nat → Int64) × (S_X9 × S_X2) => [(qo, .inl (E.2.2 1, 1, .inr (.inl v.1)))] ++ (k_X9 E q0 v.2.1 ++ (k_X2 E (fun k => q0 (k + 1)) v.2.2)))) (vp_updL o 0 r.toInt64, w) C0 hP hD hS hw dL_breachPeriod_16
def wp_L_breachKind (o : Nat → Int64) (u0 : S_X9) (u1 : S_X2) (p1 : Int32) (post : Int32 → (Nat → Int64) × (S_X9 × S_X2) → Prop) : Prop := wp_X9_breachKind u0 u1 p1 (fun r w => post 0 (vp_updL o 0 r.toInt64, w)) (fun X w => (X = "java/lang/IndexOutOfBoundsException" ∧ post 1 (o, w)))
abbrev r_L_breachKind : Room := { frames := 8, cells := 1, slots := 6, locals := 132 }
set_option maxHeartbeats 4000000 in
set_option maxRecDepth 100000 in
theorem c_L_breachKind (l : Launch) (E : zE) (Z : zZ) (hZ0 : zSt Z) {sa : Nat → Nat} (hZs : zSS Z sa) (hlt : l.stackTraces = false) (hZe : ∀ A U H, Z A U H → zExc A U H) (q0 : Nat → Nat) (qo : Nat) (sz : Nat) (o : Nat → Int64) (u0 : S_X9) (u1 : S_X2) (p1 : Int32) (post : Int32 → (Nat → Int64) × (S_X9 × S_X2) → Prop) (hw : wp_L_breachKind o u0 u1 p1 post) : Met l yL_breachKind (zwsH yL_breachKind cL_breachKind 4 (some .int) [(0, 9, 12, 18)]) r_L_breachKind (va_Pc [.ref (q0 0), .int p1, .ref qo] (zPre Z E ([(qo, .inl (E.2.2 1, 1, .inr (.inl o)))] ++ (k_X9 E q0 u0 ++ (k_X2 E (fun k => q0 (k + 1)) u1))) sz)) (va_Qi post (zAt E (va_A ([(qo, .inl (E.2.2 1, 1, .inr (.inl o)))] ++ (k_X9 E q0 u0 ++ (k_X2 E (fun k => q0 (k + 1)) u1))) sz) (fun v : (Nat → Int64) × (S_X9 × S_X2) => [(qo, .inl (E.2.2 1, 1, .inr (.inl v.1)))] ++ (k_X9 E q0 v.2.1 ++ (k_X2 E (fun k => q0 (k + 1)) v.2.2)))) (va_A ([(qo, .inl (E.2.2 1, 1, .inr (.inl o)))] ++ (k_X9 E q0 u0 ++ (k_X2 E (fun k => q0 (k + 1)) u1))) sz)) 1 6 (va_A ([(qo, .inl (E.2.2 1, 1, .inr (.inl o)))] ++ (k_X9 E q0 u0 ++ (k_X2 E (fun k => q0 (k + 1)) u1))) sz) := by
  refine z_ofH (y := yL_breachKind) (cc := cL_breachKind) (maxL := 4) (ret := some .int) (hh := [(0, 9, 12, 18)]) (av := [.ref (q0 0), .int p1, .ref qo]) (Qf := fun A => va_Qi post (zAt E A (fun v : (Nat → Int64) × (S_X9 × S_X2) => [(qo, .inl (E.2.2 1, 1, .inr (.inl v.1)))] ++ (k_X9 E q0 v.2.1 ++ (k_X2 E (fun k => q0 (k + 1)) v.2.2)))) A) (by decide) (Nat.le_of_ble_eq_true rfl) ?_
  intro p e s m args below meth c A ls C0 htab hA hK hZ hP hD hS hl
  obtain ⟨hx, hb, hml, hr, hown, hts, hlocks, hin⟩ := id C0
  have hown : s.vm.findClass RL = some m.cls := hown
  have hl : lv_has ls 4 [(0, .ref (q0 0)), (1, .int p1), (2, .ref qo)] := hl
  refine lv_aload_n hx hb dL_breachKind_0 rfl (lv_at hl 2 rfl) ?_
  refine lv_iconst (v := 0) hx hb dL_breachKind_1 rfl ?_
  refine lv_aload_n hx hb dL_breachKind_2 rfl (lv_at hl 0 rfl) ?_
  refine lv_iload_n hx hb dL_breachKind_3 rfl (lv_at hl 1 rfl) ?_
  have hF := va_free (wc := k_X9 E q0 u0 ++ (k_X2 E (fun k => q0 (k + 1)) u1)) hD hS hA [1, 2, 3, 4, 5, 6, 7, 8, 9, 10, 11, 12, 13, 14, 15, 16, 17, 18, 19] rfl
  refine z_hki (R := r_L_breachKind) (cells := 0) (slots := 0) (z_gX (rest := [.int 0, .ref qo]) hZ0 C0 hK hP hl.1 (c_X9_breachKind l E Z hZ0 hZs hlt hZe q0 s.heap.size u0 u1 p1 _ _ hw) yv_L_50 (z_pre hZ0 hK hZ hP hD hS hA [1, 2, 3, 4, 5, 6, 7, 8, 9, 10, 11, 12, 13, 14, 15, 16, 17, 18, 19] rfl (by decide)) (ci := 9) rfl rfl 1 rfl ⟨Nat.le_of_ble_eq_true rfl, Nat.le_of_ble_eq_true rfl⟩ ⟨rfl, rfl⟩ rfl rfl (Nat.le_of_ble_eq_true rfl) ⟨Nat.le_of_ble_eq_true rfl, Nat.le_of_ble_eq_true rfl⟩ dL_breachKind_4) hS hF (fun w => [(qo, .inl (E.2.2 1, 1, .inr (.inl o)))] ++ (k_X9 E q0 w.1 ++ (k_X2 E (fun k => q0 (k + 1)) w.2))) (fun w H1 hk b1 b2 => z_back hP hD hS hA [1, 2, 3, 4, 5, 6, 7, 8, 9, 10, 11, 12, 13, 14, 15, 16, 17, 18, 19] [0] [0, 1, 2, 3, 4, 5, 6, 7, 8, 9, 10, 11, 12, 13, 14, 15, 16, 17, 18, 19] rfl (wr := [_]) rfl (by decide) (by decide) hk b1 b2 rfl (by decide)) ?_ (fun r w H locs hw hP hD hS => ?_)
  · intro X ce q9 w H locs hpx hP hD hS hce hcv hcl
    obtain ⟨rfl, hw⟩ := hpx
    refine vx_catch (own := RL) (name := "java/lang/IndexOutOfBoundsException") hown [] (⟨0, 9, 12, 18⟩ : ExceptionTableEntry) [] (htab.trans rfl) (fun z hz => by cases hz) rfl (by decide) (hts _ wm_4_86) (hts _ wm_4_97) hce hcv hcl ?_
    refine lv_astore_n (lv' := [(3, .ref q9), (0, .ref (q0 0)), (1, .int p1), (2, .ref qo)]) hx hb dL_breachKind_12 rfl hl (by decide) rfl (fun ls hl => ?_)
    refine lv_iconst (v := 1) hx hb dL_breachKind_13 rfl ?_
    exact z_iret (k := (fun v : (Nat → Int64) × (S_X9 × S_X2) => [(qo, .inl (E.2.2 1, 1, .inr (.inl v.1)))] ++ (k_X9 E q0 v.2.1 ++ (k_X2 E (fun k => q0 (k + 1)) v.2.2)))) (o, w) C0 hP hD hS hw dL_breachKind_14
  · refine lv_i2l hx hb dL_breachKind_7 rfl ?_
    refine va_last hx hb hK hP hD hS 0 1 rfl rfl zin01 dL_breachKind_8 (fun H locs hP hD hS => ?_)
    refine lv_goto (tgt := 15) hx hb dL_breachKind_9 (by decide) ?_
    refine lv_iconst (v := 0) hx hb dL_breachKind_15 rfl ?_
    exact z_iret (k := (fun v : (Nat → Int64) × (S_X9 × S_X2) => [(qo, .inl (E.2.2 1, 1, .inr (.inl v.1)))] ++ (k_X9 E q0 v.2.1 ++ (k_X2 E (fun k => q0 (k + 1)) v.2.2)))) (vp_updL o 0 r.toInt64, w) C0 hP hD hS hw dL_breachKind_16
