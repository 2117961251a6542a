abbrev r_X6_takeFirst : Room := { frames := 6, cells := 0, slots := 0, locals := 185 }
def wp_X6_takeFirst (b1 : List Int32) (u0 : S_X6) (u1 : S_X5) (p2 : Int32) (post : Int32 → (S_X6 × S_X5) → Prop) : Prop := (¬ ((u0.1 &&& p2) = 0) → (post (0 : Int32) (u0, u1))) ∧ ((u0.1 &&& p2) = 0 → (wp_X5_takeWord b1 u1 (fun r_3 u_2 => (¬ (r_3 = 0) → (∀ x_5 : Int32, x_5 = (u0.1 ||| p2) → (post (1 : Int32) ((x_5, u0.2), u_2)))) ∧ (r_3 = 0 → (post (0 : Int32) (u0, u_2))))))
set_option maxHeartbeats 4000000 in
set_option maxRecDepth 100000 in
theorem c_X6_takeFirst (l : Launch) (E : zE) (Z : zZ) (hZ0 : zSt Z) (a1 : Nat) (b1 : List Int32) (hb1 : b1.length < 2 ^ 31) (hs1 : ∀ A U H, Z A U H → zStr a1 b1 A U H) (q0 : Nat → Nat) (sz : Nat) (u0 : S_X6) (u1 : S_X5) (p2 : Int32) (post : Int32 → (S_X6 × S_X5) → Prop) (hw : wp_X6_takeFirst b1 u0 u1 p2 post) : Met l yX6_takeFirst (zws yX6_takeFirst cX6_takeFirst 3 (some .boolean)) r_X6_takeFirst (va_Pc [.ref (q0 0), .ref a1, .int p2] (zPre Z E (k_X6 E q0 u0 ++ (k_X5 E (fun k => q0 (k + 1)) u1)) sz)) (va_Qi post (zAt E (va_A (k_X6 E q0 u0 ++ (k_X5 E (fun k => q0 (k + 1)) u1)) sz) (fun u => k_X6 E q0 u.1 ++ (k_X5 E (fun k => q0 (k + 1)) u.2))) (va_A (k_X6 E q0 u0 ++ (k_X5 E (fun k => q0 (k + 1)) u1)) sz)) 0 0 (va_A (k_X6 E q0 u0 ++ (k_X5 E (fun k => q0 (k + 1)) u1)) sz) := by
  refine z_ofW (Qf := fun A => va_Qi post (zAt E A (fun u => k_X6 E q0 u.1 ++ (k_X5 E (fun k => q0 (k + 1)) u.2))) A) (by decide) (Nat.le_of_ble_eq_true rfl) ?_
  intro p e s m args below meth c A ls C0 hA hK hZ hP hD hS hl
  obtain ⟨hx, hb, hml, hr, hown, hts, hlocks, hin⟩ := id C0
  have hown : s.vm.findClass RX6 = some m.cls := hown
  have hl : lv_has ls 3 [(0, .ref (q0 0)), (1, .ref a1), (2, .int p2)] := hl
  refine lv_aload_n hx hb dX6_takeFirst_0 rfl (lv_at hl 0 rfl) ?_
  refine va_get (D := zD E) (ci := 6) (v := .int u0.1) (C := RX6) (T := TX6) (N := 5) hx hb hts uw_X6 hown hK hP 0 rfl rfl 3 (by decide) (hts _ wm_2_62) (fun _ h9 => h9) rfl dX6_takeFirst_1 ?_
  refine lv_iload_n hx hb dX6_takeFirst_4 rfl (lv_at hl 2 rfl) ?_
  refine lv_iand hx hb dX6_takeFirst_5 ?_
  obtain ⟨hwt, hwf⟩ := hw
  refine lv_if_ne (tgt := 20) hx hb dX6_takeFirst_6 (by decide) (fun c_1 => ?_) (fun c_1 => ?_)
  · have hw := hwt c_1
    refine lv_iconst (v := 0) hx hb dX6_takeFirst_20 rfl ?_
    exact z_zret (k := (fun u => k_X6 E q0 u.1 ++ (k_X5 E (fun k => q0 (k + 1)) u.2))) (u0, u1) C0 rfl hP hD hS hw dX6_takeFirst_21
  · have hw := hwf c_1
    refine lv_aload_n hx hb dX6_takeFirst_9 rfl (lv_at hl 0 rfl) ?_
    refine va_get (D := zD E) (ci := 6) (v := .ref (q0 1)) (C := RX6) (T := TX6) (N := 5) hx hb hts uw_X6 hown hK hP 0 rfl rfl 0 (by decide) (hts _ wm_2_57) (fun _ h9 => h9) rfl dX6_takeFirst_10 ?_
    refine lv_aload_n hx hb dX6_takeFirst_13 rfl (lv_at hl 1 rfl) ?_
    refine z_ki (z_rN (rest := []) hZ0 C0 hK hZ hA hP hD hS hl.1 (c_X5_takeWord l E Z hZ0 a1 b1 hb1 hs1 (fun k => q0 (k + 1)) s.heap.size u1 _ hw) yv_X6_73 [1, 2] rfl (by decide) (ci := 5) rfl rfl 1 rfl ⟨Nat.le_of_ble_eq_true rfl, Nat.le_of_ble_eq_true rfl⟩ ⟨rfl, rfl⟩ rfl rfl (Nat.le_of_ble_eq_true rfl) ⟨Nat.le_of_ble_eq_true rfl, Nat.le_of_ble_eq_true rfl⟩ dX6_takeFirst_14) hP hD hS hA [1, 2] [0] [0, 1, 2] rfl (wr := [_]) rfl (by decide) (by decide) (fun u => k_X6 E q0 u0 ++ (k_X5 E (fun k => q0 (k + 1)) u)) (fun u => rfl) (by decide) (fun r_3 u_2 H locs hw hP hD hS => ?_)
    obtain ⟨hwt, hwf⟩ := hw
    refine lv_if_ne (tgt := 22) hx hb dX6_takeFirst_17 (by decide) (fun c_4 => ?_) (fun c_4 => ?_)
    · have hw := hwt c_4
      refine lv_aload_n hx hb dX6_takeFirst_22 rfl (lv_at hl 0 rfl) ?_
      refine lv_dup hx hb dX6_takeFirst_23 rfl ?_
      refine va_get (D := zD E) (ci := 6) (v := .int u0.1) (C := RX6) (T := TX6) (N := 5) hx hb hts uw_X6 hown hK hP 0 rfl rfl 3 (by decide) (hts _ wm_2_62) (fun _ h9 => h9) rfl dX6_takeFirst_24 ?_
      refine lv_iload_n hx hb dX6_takeFirst_27 rfl (lv_at hl 2 rfl) ?_
      refine lv_ior hx hb dX6_takeFirst_28 ?_
      refine lv_topi (fun x_5 ex_5 => ?_)
      have hw := hw x_5 ex_5
      refine va_put (D := zD E) (ci := 6) (v := .int x_5) (ty := .int) (C := RX6) (T := TX6) (N := 5) hx hb hts uw_X6 tyX6 tyX6_ok nmX6 hown hK hP hD hS 0 rfl rfl 3 (by decide) (hts _ wm_2_62) (fun _ h9 => h9) rfl (by decide +kernel) rfl rfl (Nat.le_of_ble_eq_true rfl) dX6_takeFirst_29 (fun H locs hP hD hS => ?_)
      have hP : va_P (zD E) vwCl (k_X6 E q0 (x_5, u0.2) ++ (k_X5 E (fun k => q0 (k + 1)) u_2)) H := hP
      have hD : va_D A (k_X6 E q0 (x_5, u0.2) ++ (k_X5 E (fun k => q0 (k + 1)) u_2)) := hD
      refine lv_iconst (v := 1) hx hb dX6_takeFirst_32 rfl ?_
      exact z_zret (k := (fun u => k_X6 E q0 u.1 ++ (k_X5 E (fun k => q0 (k + 1)) u.2))) ((x_5, u0.2), u_2) C0 rfl hP hD hS hw dX6_takeFirst_33
    · have hw := hwf c_4
      refine lv_iconst (v := 0) hx hb dX6_takeFirst_20 rfl ?_
      exact z_zret (k := (fun u => k_X6 E q0 u.1 ++ (k_X5 E (fun k => q0 (k + 1)) u.2))) (u0, u_2) C0 rfl hP hD hS hw dX6_takeFirst_21
abbrev r_X6_readContract : Room := { frames := 6, cells := 0, slots := 0, locals := 185 }
def j_X6_readContract_36 (u0 : S_X6) (u1 : S_X5) (u2 : S_X2) (post : (S_X6 × S_X5 × S_X2) → Prop) : Prop := wp_X5_number u1 (2 : Int32) (40 : Int32) (fun r_7 u_6 => wp_X5_number u_6 (0 : Int32) (9999 : Int32) (fun r_9 u_8 => wp_X0_clear u2.2.1 r_9 (fun u_10 => wp_X5_number u_8 (0 : Int32) (999 : Int32) (fun r_13 u_12 => wp_X5_number u_12 (0 : Int32) (99 : Int32) (fun r_15 u_14 => wp_X5_sign u_14 (59 : Int32) (fun u_16 => post (u0, u_16, ((r_7, r_13, r_15, u2.1.2.2.2.1, u2.1.2.2.2.2.1, u2.1.2.2.2.2.2.1, u2.1.2.2.2.2.2.2.1, u2.1.2.2.2.2.2.2.2.1, u2.1.2.2.2.2.2.2.2.2.1, u2.1.2.2.2.2.2.2.2.2.2.1, u2.1.2.2.2.2.2.2.2.2.2.2.1, u2.1.2.2.2.2.2.2.2.2.2.2.2.1, u2.1.2.2.2.2.2.2.2.2.2.2.2.2.1, u2.1.2.2.2.2.2.2.2.2.2.2.2.2.2.1, u2.1.2.2.2.2.2.2.2.2.2.2.2.2.2.2.1, u2.1.2.2.2.2.2.2.2.2.2.2.2.2.2.2.2), u_10, u2.2.2))))))))
def wp_X6_readContract (u0 : S_X6) (u1 : S_X5) (u2 : S_X2) (post : (S_X6 × S_X5 × S_X2) → Prop) : Prop := wp_X5_takeWord (zsb 15) u1 (fun r_2 u_1 => (¬ (r_2 = 0) → (j_X6_readContract_36 u0 u_1 u2 post)) ∧ (r_2 = 0 → (wp_X5_fail u_1 (-2 : Int32) u_1.2.2.2.2.2.1 (fun u_4 => j_X6_readContract_36 u0 u_4 u2 post))))
set_option maxHeartbeats 4000000 in
set_option maxRecDepth 100000 in
theorem t_X6_readContract_36 {p : Program} {l : Launch} {e : Env} {s : State} {m : MethodId} {args : Array Value} {below : List Frame} {meth : Method} {c : Code} {Z : zZ} {E : zE} {A : Nat → Prop} {q0 : Nat → Nat} (hZ0 : zSt Z) {sa : Nat → Nat} (hZs : zSS Z sa) (C0 : zC p s m args meth c yX6_readContract cX6_readContract 2 none) (hA : ∀ q : Nat, s.heap.size ≤ q → A q) (hK : va_K (zD E) vwCl (zT E) s) (hZ : Z A s s.heap) (post : (S_X6 × S_X5 × S_X2) → Prop) : ∀ (u0 : S_X6) (u1 : S_X5) (u2 : S_X2) (H : Heap) (locs : List Loc) (ls : Array Slot), j_X6_readContract_36 u0 u1 u2 post → va_P (zD E) vwCl (k_X6 E q0 u0 ++ (k_X5 E (fun k => q0 (k + 1)) u1 ++ (k_X2 E (fun k => q0 (k + 4)) u2))) H → va_D A (k_X6 E q0 u0 ++ (k_X5 E (fun k => q0 (k + 1)) u1 ++ (k_X2 E (fun k => q0 (k + 4)) u2))) → va_S A s.heap H locs → lv_has ls 2 [(0, .ref (q0 0)), (1, .ref (q0 5))] → W p l e r_X6_readContract s m args below meth c H locs 0 0 (MQ below (va_Qv post (zAt E A (fun u => k_X6 E q0 u.1 ++ (k_X5 E (fun k => q0 (k + 1)) u.2.1 ++ (k_X2 E (fun k => q0 (k + 4)) u.2.2)))) A) args s 0 0 A) (F0 m 36 ls []) := by
  obtain ⟨hx, hb, hml, hr, hown, hts, hlocks, hin⟩ := id C0
  have hown : s.vm.findClass RX6 = some m.cls := hown
  intro u0 u1 u2 H locs ls hw hP hD hS hl
  refine lv_aload_n hx hb dX6_readContract_36 rfl (lv_at hl 1 rfl) ?_
  refine lv_aload_n hx hb dX6_readContract_37 rfl (lv_at hl 0 rfl) ?_
  refine va_get (D := zD E) (ci := 6) (v := .ref (q0 1)) (C := RX6) (T := TX6) (N := 5) hx hb hts uw_X6 hown hK hP 0 rfl rfl 0 (by decide) (hts _ wm_2_57) (fun _ h9 => h9) rfl dX6_readContract_38 ?_
  refine lv_iconst (v := 2) hx hb dX6_readContract_41 rfl ?_
  refine lv_bipush (v := 40) hx hb dX6_readContract_42 rfl ?_
  refine z_ki (z_rN (rest := [.ref (q0 5)]) hZ0 C0 hK hZ hA hP hD hS hl.1 (c_X5_number l E Z hZ0 (fun k => q0 (k + 1)) H.size u1 (2 : Int32) (40 : Int32) _ hw) yv_X6_84 [1, 2] rfl (by decide) (ci := 5) rfl rfl 1 rfl ⟨Nat.le_of_ble_eq_true rfl, Nat.le_of_ble_eq_true rfl⟩ ⟨rfl, rfl⟩ rfl rfl (Nat.le_of_ble_eq_true rfl) ⟨Nat.le_of_ble_eq_true rfl, Nat.le_of_ble_eq_true rfl⟩ dX6_readContract_44) hP hD hS hA [1, 2] [0, 3, 4, 5, 6, 7, 8, 9, 10, 11, 12, 13, 14, 15, 16, 17, 18, 19, 20] [0, 19, 20, 1, 2, 3, 4, 5, 6, 7, 8, 9, 10, 11, 12, 13, 14, 15, 16, 17, 18] rfl (wr := [_, _, _, _, _, _, _, _, _, _, _, _, _, _, _, _, _, _, _]) rfl (by decide) (by decide) (fun u => k_X6 E q0 u0 ++ (k_X5 E (fun k => q0 (k + 1)) u ++ (k_X2 E (fun k => q0 (k + 4)) u2))) (fun u => rfl) (by decide) (fun r_7 u_6 H locs hw hP hD hS => ?_)
  refine va_putN (D := zD E) (ci := 7) (v := .int r_7) (ty := .int) (C := RX7) (T := TX7) (N := 16) hx hb hts uw_X7 tyX7 tyX7_ok nmX7 hown hK hP hD hS 4 rfl rfl 0 (by decide) (hts _ wm_1_46) (fun _ h9 => h9) rfl (by decide +kernel) rfl rfl (Nat.le_of_ble_eq_true rfl) dX6_readContract_47 (fun H locs hP hD hS => ?_)
  have hP : va_P (zD E) vwCl (k_X6 E q0 u0 ++ (k_X5 E (fun k => q0 (k + 1)) u_6 ++ (k_X2 E (fun k => q0 (k + 4)) ((r_7, u2.1.2.1, u2.1.2.2.1, u2.1.2.2.2.1, u2.1.2.2.2.2.1, u2.1.2.2.2.2.2.1, u2.1.2.2.2.2.2.2.1, u2.1.2.2.2.2.2.2.2.1, u2.1.2.2.2.2.2.2.2.2.1, u2.1.2.2.2.2.2.2.2.2.2.1, u2.1.2.2.2.2.2.2.2.2.2.2.1, u2.1.2.2.2.2.2.2.2.2.2.2.2.1, u2.1.2.2.2.2.2.2.2.2.2.2.2.2.1, u2.1.2.2.2.2.2.2.2.2.2.2.2.2.2.1, u2.1.2.2.2.2.2.2.2.2.2.2.2.2.2.2.1, u2.1.2.2.2.2.2.2.2.2.2.2.2.2.2.2.2), u2.2.1, u2.2.2)))) H := hP
  have hD : va_D A (k_X6 E q0 u0 ++ (k_X5 E (fun k => q0 (k + 1)) u_6 ++ (k_X2 E (fun k => q0 (k + 4)) ((r_7, u2.1.2.1, u2.1.2.2.1, u2.1.2.2.2.1, u2.1.2.2.2.2.1, u2.1.2.2.2.2.2.1, u2.1.2.2.2.2.2.2.1, u2.1.2.2.2.2.2.2.2.1, u2.1.2.2.2.2.2.2.2.2.1, u2.1.2.2.2.2.2.2.2.2.2.1, u2.1.2.2.2.2.2.2.2.2.2.2.1, u2.1.2.2.2.2.2.2.2.2.2.2.2.1, u2.1.2.2.2.2.2.2.2.2.2.2.2.2.1, u2.1.2.2.2.2.2.2.2.2.2.2.2.2.2.1, u2.1.2.2.2.2.2.2.2.2.2.2.2.2.2.2.1, u2.1.2.2.2.2.2.2.2.2.2.2.2.2.2.2.2), u2.2.1, u2.2.2)))) := hD
  refine lv_aload_n hx hb dX6_readContract_50 rfl (lv_at hl 0 rfl) ?_
  refine va_get (D := zD E) (ci := 6) (v := .ref (q0 4)) (C := RX6) (T := TX6) (N := 5) hx hb hts uw_X6 hown hK hP 0 rfl rfl 2 (by decide) (hts _ wm_2_60) (fun _ h9 => h9) rfl dX6_readContract_51 ?_
  refine va_getN (D := zD E) (ci := 2) (v := .ref (q0 10)) (C := RX2) (T := TX2) (N := 3) hx hb hts uw_X2 hown hK hP 3 rfl rfl 1 (by decide) (hts _ wm_1_203) (fun _ h9 => h9) rfl dX6_readContract_54 ?_
  refine lv_aload_n hx hb dX6_readContract_57 rfl (lv_at hl 0 rfl) ?_
  refine va_get (D := zD E) (ci := 6) (v := .ref (q0 1)) (C := RX6) (T := TX6) (N := 5) hx hb hts uw_X6 hown hK hP 0 rfl rfl 0 (by decide) (hts _ wm_2_57) (fun _ h9 => h9) rfl dX6_readContract_58 ?_
  refine lv_iconst (v := 0) hx hb dX6_readContract_61 rfl ?_
  refine lv_sipush (v := 9999) hx hb dX6_readContract_62 rfl ?_
  refine z_ki (z_rN (rest := [.ref (q0 10)]) hZ0 C0 hK hZ hA hP hD hS hl.1 (c_X5_number l E Z hZ0 (fun k => q0 (k + 1)) H.size u_6 (0 : Int32) (9999 : Int32) _ hw) yv_X6_84 [1, 2] rfl (by decide) (ci := 5) rfl rfl 1 rfl ⟨Nat.le_of_ble_eq_true rfl, Nat.le_of_ble_eq_true rfl⟩ ⟨rfl, rfl⟩ rfl rfl (Nat.le_of_ble_eq_true rfl) ⟨Nat.le_of_ble_eq_true rfl, Nat.le_of_ble_eq_true rfl⟩ dX6_readContract_65) hP hD hS hA [1, 2] [0, 3, 4, 5, 6, 7, 8, 9, 10, 11, 12, 13, 14, 15, 16, 17, 18, 19, 20] [0, 19, 20, 1, 2, 3, 4, 5, 6, 7, 8, 9, 10, 11, 12, 13, 14, 15, 16, 17, 18] rfl (wr := [_, _, _, _, _, _, _, _, _, _, _, _, _, _, _, _, _, _, _]) rfl (by decide) (by decide) (fun u => k_X6 E q0 u0 ++ (k_X5 E (fun k => q0 (k + 1)) u ++ (k_X2 E (fun k => q0 (k + 4)) ((r_7, u2.1.2.1, u2.1.2.2.1, u2.1.2.2.2.1, u2.1.2.2.2.2.1, u2.1.2.2.2.2.2.1, u2.1.2.2.2.2.2.2.1, u2.1.2.2.2.2.2.2.2.1, u2.1.2.2.2.2.2.2.2.2.1, u2.1.2.2.2.2.2.2.2.2.2.1, u2.1.2.2.2.2.2.2.2.2.2.2.1, u2.1.2.2.2.2.2.2.2.2.2.2.2.1, u2.1.2.2.2.2.2.2.2.2.2.2.2.2.1, u2.1.2.2.2.2.2.2.2.2.2.2.2.2.2.1, u2.1.2.2.2.2.2.2.2.2.2.2.2.2.2.2.1, u2.1.2.2.2.2.2.2.2.2.2.2.2.2.2.2.2), u2.2.1, u2.2.2)))) (fun u => rfl) (by decide) (fun r_9 u_8 H locs hw hP hD hS => ?_)
  refine z_kv (z_rN (rest := []) hZ0 C0 hK hZ hA hP hD hS hl.1 (c_X0_clear l E Z hZ0 (fun k => q0 (k + 10)) H.size u2.2.1 r_9 _ hw) yv_X6_95 [9, 10, 11, 12, 13, 14, 15] rfl (by decide) (ci := 0) rfl rfl 9 rfl ⟨Nat.le_of_ble_eq_true rfl, Nat.le_of_ble_eq_true rfl⟩ ⟨rfl, rfl⟩ rfl rfl (Nat.le_of_ble_eq_true rfl) ⟨Nat.le_of_ble_eq_true rfl, Nat.le_of_ble_eq_true rfl⟩ dX6_readContract_68) hP hD hS hA [9, 10, 11, 12, 13, 14, 15] [0, 1, 2, 3, 4, 5, 6, 7, 8, 16, 17, 18, 19, 20] [0, 1, 2, 3, 4, 5, 6, 7, 8, 14, 15, 16, 17, 18, 19, 20, 9, 10, 11, 12, 13] rfl (wr := [_, _, _, _, _, _, _, _, _, _, _, _, _, _]) rfl (by decide) (by decide) (fun u => k_X6 E q0 u0 ++ (k_X5 E (fun k => q0 (k + 1)) u_8 ++ (k_X2 E (fun k => q0 (k + 4)) ((r_7, u2.1.2.1, u2.1.2.2.1, u2.1.2.2.2.1, u2.1.2.2.2.2.1, u2.1.2.2.2.2.2.1, u2.1.2.2.2.2.2.2.1, u2.1.2.2.2.2.2.2.2.1, u2.1.2.2.2.2.2.2.2.2.1, u2.1.2.2.2.2.2.2.2.2.2.1, u2.1.2.2.2.2.2.2.2.2.2.2.1, u2.1.2.2.2.2.2.2.2.2.2.2.2.1, u2.1.2.2.2.2.2.2.2.2.2.2.2.2.1, u2.1.2.2.2.2.2.2.2.2.2.2.2.2.2.1, u2.1.2.2.2.2.2.2.2.2.2.2.2.2.2.2.1, u2.1.2.2.2.2.2.2.2.2.2.2.2.2.2.2.2), u, u2.2.2)))) (fun u => rfl) (by decide) (fun u_10 H locs hw hP hD hS => ?_)
  refine lv_aload_n hx hb dX6_readContract_71 rfl (lv_at hl 1 rfl) ?_
  refine lv_aload_n hx hb dX6_readContract_72 rfl (lv_at hl 0 rfl) ?_
  refine va_get (D := zD E) (ci := 6) (v := .ref (q0 1)) (C := RX6) (T := TX6) (N := 5) hx hb hts uw_X6 hown hK hP 0 rfl rfl 0 (by decide) (hts _ wm_2_57) (fun _ h9 => h9) rfl dX6_readContract_73 ?_
  refine lv_iconst (v := 0) hx hb dX6_readContract_76 rfl ?_
  refine lv_sipush (v := 999) hx hb dX6_readContract_77 rfl ?_
  refine z_ki (z_rN (rest := [.ref (q0 5)]) hZ0 C0 hK hZ hA hP hD hS hl.1 (c_X5_number l E Z hZ0 (fun k => q0 (k + 1)) H.size u_8 (0 : Int32) (999 : Int32) _ hw) yv_X6_84 [1, 2] rfl (by decide) (ci := 5) rfl rfl 1 rfl ⟨Nat.le_of_ble_eq_true rfl, Nat.le_of_ble_eq_true rfl⟩ ⟨rfl, rfl⟩ rfl rfl (Nat.le_of_ble_eq_true rfl) ⟨Nat.le_of_ble_eq_true rfl, Nat.le_of_ble_eq_true rfl⟩ dX6_readContract_80) hP hD hS hA [1, 2] [0, 3, 4, 5, 6, 7, 8, 9, 10, 11, 12, 13, 14, 15, 16, 17, 18, 19, 20] [0, 19, 20, 1, 2, 3, 4, 5, 6, 7, 8, 9, 10, 11, 12, 13, 14, 15, 16, 17, 18] rfl (wr := [_, _, _, _, _, _, _, _, _, _, _, _, _, _, _, _, _, _, _]) rfl (by decide) (by decide) (fun u => k_X6 E q0 u0 ++ (k_X5 E (fun k => q0 (k + 1)) u ++ (k_X2 E (fun k => q0 (k + 4)) ((r_7, u2.1.2.1, u2.1.2.2.1, u2.1.2.2.2.1, u2.1.2.2.2.2.1, u2.1.2.2.2.2.2.1, u2.1.2.2.2.2.2.2.1, u2.1.2.2.2.2.2.2.2.1, u2.1.2.2.2.2.2.2.2.2.1, u2.1.2.2.2.2.2.2.2.2.2.1, u2.1.2.2.2.2.2.2.2.2.2.2.1, u2.1.2.2.2.2.2.2.2.2.2.2.2.1, u2.1.2.2.2.2.2.2.2.2.2.2.2.2.1, u2.1.2.2.2.2.2.2.2.2.2.2.2.2.2.1, u2.1.2.2.2.2.2.2.2.2.2.2.2.2.2.2.1, u2.1.2.2.2.2.2.2.2.2.2.2.2.2.2.2.2), u_10, u2.2.2)))) (fun u => rfl) (by decide) (fun r_13 u_12 H locs hw hP hD hS => ?_)
  refine va_putN (D := zD E) (ci := 7) (v := .int r_13) (ty := .int) (C := RX7) (T := TX7) (N := 16) hx hb hts uw_X7 tyX7 tyX7_ok nmX7 hown hK hP hD hS 4 rfl rfl 1 (by decide) (hts _ wm_1_50) (fun _ h9 => h9) rfl (by decide +kernel) rfl rfl (Nat.le_of_ble_eq_true rfl) dX6_readContract_83 (fun H locs hP hD hS => ?_)
  have hP : va_P (zD E) vwCl (k_X6 E q0 u0 ++ (k_X5 E (fun k => q0 (k + 1)) u_12 ++ (k_X2 E (fun k => q0 (k + 4)) ((r_7, r_13, u2.1.2.2.1, u2.1.2.2.2.1, u2.1.2.2.2.2.1, u2.1.2.2.2.2.2.1, u2.1.2.2.2.2.2.2.1, u2.1.2.2.2.2.2.2.2.1, u2.1.2.2.2.2.2.2.2.2.1, u2.1.2.2.2.2.2.2.2.2.2.1, u2.1.2.2.2.2.2.2.2.2.2.2.1, u2.1.2.2.2.2.2.2.2.2.2.2.2.1, u2.1.2.2.2.2.2.2.2.2.2.2.2.2.1, u2.1.2.2.2.2.2.2.2.2.2.2.2.2.2.1, u2.1.2.2.2.2.2.2.2.2.2.2.2.2.2.2.1, u2.1.2.2.2.2.2.2.2.2.2.2.2.2.2.2.2), u_10, u2.2.2)))) H := hP
  have hD : va_D A (k_X6 E q0 u0 ++ (k_X5 E (fun k => q0 (k + 1)) u_12 ++ (k_X2 E (fun k => q0 (k + 4)) ((r_7, r_13, u2.1.2.2.1, u2.1.2.2.2.1, u2.1.2.2.2.2.1, u2.1.2.2.2.2.2.1, u2.1.2.2.2.2.2.2.1, u2.1.2.2.2.2.2.2.2.1, u2.1.2.2.2.2.2.2.2.2.1, u2.1.2.2.2.2.2.2.2.2.2.1, u2.1.2.2.2.2.2.2.2.2.2.2.1, u2.1.2.2.2.2.2.2.2.2.2.2.2.1, u2.1.2.2.2.2.2.2.2.2.2.2.2.2.1, u2.1.2.2.2.2.2.2.2.2.2.2.2.2.2.1, u2.1.2.2.2.2.2.2.2.2.2.2.2.2.2.2.1, u2.1.2.2.2.2.2.2.2.2.2.2.2.2.2.2.2), u_10, u2.2.2)))) := hD
  refine lv_aload_n hx hb dX6_readContract_86 rfl (lv_at hl 1 rfl) ?_
  refine lv_aload_n hx hb dX6_readContract_87 rfl (lv_at hl 0 rfl) ?_
  refine va_get (D := zD E) (ci := 6) (v := .ref (q0 1)) (C := RX6) (T := TX6) (N := 5) hx hb hts uw_X6 hown hK hP 0 rfl rfl 0 (by decide) (hts _ wm_2_57) (fun _ h9 => h9) rfl dX6_readContract_88 ?_
  refine lv_iconst (v := 0) hx hb dX6_readContract_91 rfl ?_
  refine lv_bipush (v := 99) hx hb dX6_readContract_92 rfl ?_
  refine z_ki (z_rN (rest := [.ref (q0 5)]) hZ0 C0 hK hZ hA hP hD hS hl.1 (c_X5_number l E Z hZ0 (fun k => q0 (k + 1)) H.size u_12 (0 : Int32) (99 : Int32) _ hw) yv_X6_84 [1, 2] rfl (by decide) (ci := 5) rfl rfl 1 rfl ⟨Nat.le_of_ble_eq_true rfl, Nat.le_of_ble_eq_true rfl⟩ ⟨rfl, rfl⟩ rfl rfl (Nat.le_of_ble_eq_true rfl) ⟨Nat.le_of_ble_eq_true rfl, Nat.le_of_ble_eq_true rfl⟩ dX6_readContract_94) hP hD hS hA [1, 2] [0, 3, 4, 5, 6, 7, 8, 9, 10, 11, 12, 13, 14, 15, 16, 17, 18, 19, 20] [0, 19, 20, 1, 2, 3, 4, 5, 6, 7, 8, 9, 10, 11, 12, 13, 14, 15, 16, 17, 18] rfl (wr := [_, _, _, _, _, _, _, _, _, _, _, _, _, _, _, _, _, _, _]) rfl (by decide) (by decide) (fun u => k_X6 E q0 u0 ++ (k_X5 E (fun k => q0 (k + 1)) u ++ (k_X2 E (fun k => q0 (k + 4)) ((r_7, r_13, u2.1.2.2.1, u2.1.2.2.2.1, u2.1.2.2.2.2.1, u2.1.2.2.2.2.2.1, u2.1.2.2.2.2.2.2.1, u2.1.2.2.2.2.2.2.2.1, u2.1.2.2.2.2.2.2.2.2.1, u2.1.2.2.2.2.2.2.2.2.2.1, u2.1.2.2.2.2.2.2.2.2.2.2.1, u2.1.2.2.2.2.2.2.2.2.2.2.2.1, u2.1.2.2.2.2.2.2.2.2.2.2.2.2.1, u2.1.2.2.2.2.2.2.2.2.2.2.2.2.2.1, u2.1.2.2.2.2.2.2.2.2.2.2.2.2.2.2.1, u2.1.2.2.2.2.2.2.2.2.2.2.2.2.2.2.2), u_10, u2.2.2)))) (fun u => rfl) (by decide) (fun r_15 u_14 H locs hw hP hD hS => ?_)
  refine va_putN (D := zD E) (ci := 7) (v := .int r_15) (ty := .int) (C := RX7) (T := TX7) (N := 16) hx hb hts uw_X7 tyX7 tyX7_ok nmX7 hown hK hP hD hS 4 rfl rfl 2 (by decide) (hts _ wm_1_53) (fun _ h9 => h9) rfl (by decide +kernel) rfl rfl (Nat.le_of_ble_eq_true rfl) dX6_readContract_97 (fun H locs hP hD hS => ?_)
  have hP : va_P (zD E) vwCl (k_X6 E q0 u0 ++ (k_X5 E (fun k => q0 (k + 1)) u_14 ++ (k_X2 E (fun k => q0 (k + 4)) ((r_7, r_13, r_15, u2.1.2.2.2.1, u2.1.2.2.2.2.1, u2.1.2.2.2.2.2.1, u2.1.2.2.2.2.2.2.1, u2.1.2.2.2.2.2.2.2.1, u2.1.2.2.2.2.2.2.2.2.1, u2.1.2.2.2.2.2.2.2.2.2.1, u2.1.2.2.2.2.2.2.2.2.2.2.1, u2.1.2.2.2.2.2.2.2.2.2.2.2.1, u2.1.2.2.2.2.2.2.2.2.2.2.2.2.1, u2.1.2.2.2.2.2.2.2.2.2.2.2.2.2.1, u2.1.2.2.2.2.2.2.2.2.2.2.2.2.2.2.1, u2.1.2.2.2.2.2.2.2.2.2.2.2.2.2.2.2), u_10, u2.2.2)))) H := hP
  have hD : va_D A (k_X6 E q0 u0 ++ (k_X5 E (fun k => q0 (k + 1)) u_14 ++ (k_X2 E (fun k => q0 (k + 4)) ((r_7, r_13, r_15, u2.1.2.2.2.1, u2.1.2.2.2.2.1, u2.1.2.2.2.2.2.1, u2.1.2.2.2.2.2.2.1, u2.1.2.2.2.2.2.2.2.1, u2.1.2.2.2.2.2.2.2.2.1, u2.1.2.2.2.2.2.2.2.2.2.1, u2.1.2.2.2.2.2.2.2.2.2.2.1, u2.1.2.2.2.2.2.2.2.2.2.2.2.1, u2.1.2.2.2.2.2.2.2.2.2.2.2.2.1, u2.1.2.2.2.2.2.2.2.2.2.2.2.2.2.1, u2.1.2.2.2.2.2.2.2.2.2.2.2.2.2.2.1, u2.1.2.2.2.2.2.2.2.2.2.2.2.2.2.2.2), u_10, u2.2.2)))) := hD
  refine lv_aload_n hx hb dX6_readContract_100 rfl (lv_at hl 0 rfl) ?_
  refine va_get (D := zD E) (ci := 6) (v := .ref (q0 1)) (C := RX6) (T := TX6) (N := 5) hx hb hts uw_X6 hown hK hP 0 rfl rfl 0 (by decide) (hts _ wm_2_57) (fun _ h9 => h9) rfl dX6_readContract_101 ?_
  refine lv_bipush (v := 59) hx hb dX6_readContract_104 rfl ?_
  refine z_kv (z_rN (rest := []) hZ0 C0 hK hZ hA hP hD hS hl.1 (c_X5_sign l E Z hZ0 (fun k => q0 (k + 1)) H.size u_14 (59 : Int32) _ hw) yv_X6_61 [1, 2] rfl (by decide) (ci := 5) rfl rfl 1 rfl ⟨Nat.le_of_ble_eq_true rfl, Nat.le_of_ble_eq_true rfl⟩ ⟨rfl, rfl⟩ rfl rfl (Nat.le_of_ble_eq_true rfl) ⟨Nat.le_of_ble_eq_true rfl, Nat.le_of_ble_eq_true rfl⟩ dX6_readContract_106) hP hD hS hA [1, 2] [0, 3, 4, 5, 6, 7, 8, 9, 10, 11, 12, 13, 14, 15, 16, 17, 18, 19, 20] [0, 19, 20, 1, 2, 3, 4, 5, 6, 7, 8, 9, 10, 11, 12, 13, 14, 15, 16, 17, 18] rfl (wr := [_, _, _, _, _, _, _, _, _, _, _, _, _, _, _, _, _, _, _]) rfl (by decide) (by decide) (fun u => k_X6 E q0 u0 ++ (k_X5 E (fun k => q0 (k + 1)) u ++ (k_X2 E (fun k => q0 (k + 4)) ((r_7, r_13, r_15, u2.1.2.2.2.1, u2.1.2.2.2.2.1, u2.1.2.2.2.2.2.1, u2.1.2.2.2.2.2.2.1, u2.1.2.2.2.2.2.2.2.1, u2.1.2.2.2.2.2.2.2.2.1, u2.1.2.2.2.2.2.2.2.2.2.1, u2.1.2.2.2.2.2.2.2.2.2.2.1, u2.1.2.2.2.2.2.2.2.2.2.2.2.1, u2.1.2.2.2.2.2.2.2.2.2.2.2.2.1, u2.1.2.2.2.2.2.2.2.2.2.2.2.2.2.1, u2.1.2.2.2.2.2.2.2.2.2.2.2.2.2.2.1, u2.1.2.2.2.2.2.2.2.2.2.2.2.2.2.2.2), u_10, u2.2.2)))) (fun u => rfl) (by decide) (fun u_16 H locs hw hP hD hS => ?_)
  exact z_vret (k := (fun u => k_X6 E q0 u.1 ++ (k_X5 E (fun k => q0 (k + 1)) u.2.1 ++ (k_X2 E (fun k => q0 (k + 4)) u.2.2)))) (u0, u_16, ((r_7, r_13, r_15, u2.1.2.2.2.1, u2.1.2.2.2.2.1, u2.1.2.2.2.2.2.1, u2.1.2.2.2.2.2.2.1, u2.1.2.2.2.2.2.2.2.1, u2.1.2.2.2.2.2.2.2.2.1, u2.1.2.2.2.2.2.2.2.2.2.1, u2.1.2.2.2.2.2.2.2.2.2.2.1, u2.1.2.2.2.2.2.2.2.2.2.2.2.1, u2.1.2.2.2.2.2.2.2.2.2.2.2.2.1, u2.1.2.2.2.2.2.2.2.2.2.2.2.2.2.1, u2.1.2.2.2.2.2.2.2.2.2.2.2.2.2.2.1, u2.1.2.2.2.2.2.2.2.2.2.2.2.2.2.2.2), u_10, u2.2.2)) C0 hP hD hS hw dX6_readContract_109
set_option maxHeartbeats 4000000 in
set_option maxRecDepth 100000 in
theorem c_X6_readContract (l : Launch) (E : zE) (Z : zZ) (hZ0 : zSt Z) {sa : Nat → Nat} (hZs : zSS Z sa) (q0 : Nat → Nat) (sz : Nat) (u0 : S_X6) (u1 : S_X5) (u2 : S_X2) (post : (S_X6 × S_X5 × S_X2) → Prop) (hw : wp_X6_readContract u0 u1 u2 post) : Met l yX6_readContract (zws yX6_readContract cX6_readContract 2 none) r_X6_readContract (va_Pc [.ref (q0 0)] (zPre Z E (k_X6 E q0 u0 ++ (k_X5 E (fun k => q0 (k + 1)) u1 ++ (k_X2 E (fun k => q0 (k + 4)) u2))) sz)) (va_Qv post (zAt E (va_A (k_X6 E q0 u0 ++ (k_X5 E (fun k => q0 (k + 1)) u1 ++ (k_X2 E (fun k => q0 (k + 4)) u2))) sz) (fun u => k_X6 E q0 u.1 ++ (k_X5 E (fun k => q0 (k + 1)) u.2.1 ++ (k_X2 E (fun k => q0 (k + 4)) u.2.2)))) (va_A (k_X6 E q0 u0 ++ (k_X5 E (fun k => q0 (k + 1)) u1 ++ (k_X2 E (fun k => q0 (k + 4)) u2))) sz)) 0 0 (va_A (k_X6 E q0 u0 ++ (k_X5 E (fun k => q0 (k + 1)) u1 ++ (k_X2 E (fun k => q0 (k + 4)) u2))) sz) := by
  refine z_ofW (Qf := fun A => va_Qv post (zAt E A (fun u => k_X6 E q0 u.1 ++ (k_X5 E (fun k => q0 (k + 1)) u.2.1 ++ (k_X2 E (fun k => q0 (k + 4)) u.2.2)))) A) (by decide) (Nat.le_of_ble_eq_true rfl) ?_
  intro p e s m args below meth c A ls C0 hA hK hZ hP hD hS hl
  obtain ⟨hx, hb, hml, hr, hown, hts, hlocks, hin⟩ := id C0
  have hown : s.vm.findClass RX6 = some m.cls := hown
  have hl : lv_has ls 2 [(0, .ref (q0 0))] := hl
  refine lv_aload_n hx hb dX6_readContract_0 rfl (lv_at hl 0 rfl) ?_
  refine va_get (D := zD E) (ci := 6) (v := .ref (q0 4)) (C := RX6) (T := TX6) (N := 5) hx hb hts uw_X6 hown hK hP 0 rfl rfl 2 (by decide) (hts _ wm_2_60) (fun _ h9 => h9) rfl dX6_readContract_1 ?_
  refine va_getN (D := zD E) (ci := 2) (v := .ref (q0 5)) (C := RX2) (T := TX2) (N := 3) hx hb hts uw_X2 hown hK hP 3 rfl rfl 0 (by decide) (hts _ wm_1_200) (fun _ h9 => h9) rfl dX6_readContract_4 ?_
  refine lv_astore_n (lv' := [(1, .ref (q0 5)), (0, .ref (q0 0))]) hx hb dX6_readContract_7 rfl hl (by decide) rfl (fun ls hl => ?_)
  refine lv_aload_n hx hb dX6_readContract_8 rfl (lv_at hl 1 rfl) ?_
  refine va_get (D := zD E) (ci := 6) (v := .ref (q0 1)) (C := RX6) (T := TX6) (N := 5) hx hb hts uw_X6 hown hK hP 0 rfl rfl 0 (by decide) (hts _ wm_2_57) (fun _ h9 => h9) rfl dX6_readContract_9 ?_
  refine va_ldcS hx hb hown (zsk_15 hZs hZ) dX6_readContract_12 ?_
  refine z_ki (z_rN (rest := []) hZ0 C0 hK hZ hA hP hD hS hl.1 (c_X5_takeWord l E Z hZ0 (sa 15) (zsb 15) zsb_15 (zsh_15 hZs) (fun k => q0 (k + 1)) s.heap.size u1 _ hw) yv_X6_73 [1, 2] rfl (by decide) (ci := 5) rfl rfl 1 rfl ⟨Nat.le_of_ble_eq_true rfl, Nat.le_of_ble_eq_true rfl⟩ ⟨rfl, rfl⟩ rfl rfl (Nat.le_of_ble_eq_true rfl) ⟨Nat.le_of_ble_eq_true rfl, Nat.le_of_ble_eq_true rfl⟩ dX6_readContract_14) hP hD hS hA [1, 2] [0, 3, 4, 5, 6, 7, 8, 9, 10, 11, 12, 13, 14, 15, 16, 17, 18, 19, 20] [0, 19, 20, 1, 2, 3, 4, 5, 6, 7, 8, 9, 10, 11, 12, 13, 14, 15, 16, 17, 18] rfl (wr := [_, _, _, _, _, _, _, _, _, _, _, _, _, _, _, _, _, _, _]) rfl (by decide) (by decide) (fun u => k_X6 E q0 u0 ++ (k_X5 E (fun k => q0 (k + 1)) u ++ (k_X2 E (fun k => q0 (k + 4)) u2))) (fun u => rfl) (by decide) (fun r_2 u_1 H locs hw hP hD hS => ?_)
  obtain ⟨hwt, hwf⟩ := hw
  refine lv_if_ne (tgt := 36) hx hb dX6_readContract_17 (by decide) (fun c_3 => ?_) (fun c_3 => ?_)
  · have hw := hwt c_3
    exact t_X6_readContract_36 (l := l) hZ0 hZs C0 hA hK hZ post u0 u_1 u2 _ _ _ hw hP hD hS (lv_sub hl [1, 0] rfl)
  · have hw := hwf c_3
    refine lv_aload_n hx hb dX6_readContract_20 rfl (lv_at hl 1 rfl) ?_
    refine va_get (D := zD E) (ci := 6) (v := .ref (q0 1)) (C := RX6) (T := TX6) (N := 5) hx hb hts uw_X6 hown hK hP 0 rfl rfl 0 (by decide) (hts _ wm_2_57) (fun _ h9 => h9) rfl dX6_readContract_21 ?_
    refine lv_bipush (v := (-2)) hx hb dX6_readContract_24 rfl ?_
    refine lv_aload_n hx hb dX6_readContract_26 rfl (lv_at hl 1 rfl) ?_
    refine va_get (D := zD E) (ci := 6) (v := .ref (q0 1)) (C := RX6) (T := TX6) (N := 5) hx hb hts uw_X6 hown hK hP 0 rfl rfl 0 (by decide) (hts _ wm_2_57) (fun _ h9 => h9) rfl dX6_readContract_27 ?_
    refine va_getN (D := zD E) (ci := 5) (v := .int u_1.2.2.2.2.2.1) (C := RX5) (T := TX5) (N := 9) hx hb hts uw_X5 hown hK hP 1 rfl rfl 5 (by decide) (hts _ wm_2_13) (fun _ h9 => h9) rfl dX6_readContract_30 ?_
    refine z_kv (z_rN (rest := []) hZ0 C0 hK hZ hA hP hD hS hl.1 (c_X5_fail l E Z hZ0 (fun k => q0 (k + 1)) H.size u_1 (-2 : Int32) u_1.2.2.2.2.2.1 _ hw) yv_X6_80 [1, 2] rfl (by decide) (ci := 5) rfl rfl 1 rfl ⟨Nat.le_of_ble_eq_true rfl, Nat.le_of_ble_eq_true rfl⟩ ⟨rfl, rfl⟩ rfl rfl (Nat.le_of_ble_eq_true rfl) ⟨Nat.le_of_ble_eq_true rfl, Nat.le_of_ble_eq_true rfl⟩ dX6_readContract_33) hP hD hS hA [1, 2] [0, 3, 4, 5, 6, 7, 8, 9, 10, 11, 12, 13, 14, 15, 16, 17, 18, 19, 20] [0, 19, 20, 1, 2, 3, 4, 5, 6, 7, 8, 9, 10, 11, 12, 13, 14, 15, 16, 17, 18] rfl (wr := [_, _, _, _, _, _, _, _, _, _, _, _, _, _, _, _, _, _, _]) rfl (by decide) (by decide) (fun u => k_X6 E q0 u0 ++ (k_X5 E (fun k => q0 (k + 1)) u ++ (k_X2 E (fun k => q0 (k + 4)) u2))) (fun u => rfl) (by decide) (fun u_4 H locs hw hP hD hS => ?_)
    exact t_X6_readContract_36 (l := l) hZ0 hZs C0 hA hK hZ post u0 u_4 u2 _ _ _ hw hP hD hS (lv_sub hl [1, 0] rfl)
abbrev r_X6_readBand : Room := { frames := 3, cells := 0, slots := 0, locals := 75 }
def j_X6_readBand_45 (x3 : Int32) (u0 : S_X6) (u1 : S_X5) (u2 : S_X2) (post : (S_X6 × S_X5 × S_X2) → Prop) : Prop := wp_X5_number u1 (0 : Int32) (100 : Int32) (fun r_9 u_8 => wp_X5_number u_8 (0 : Int32) (100 : Int32) (fun r_11 u_10 => wp_X7_addBand u2.1 x3 r_9 r_11 (fun u_12 => post (u0, u_10, (u_12, u2.2.1, u2.2.2)))))
def wp_X6_readBand (u0 : S_X6) (u1 : S_X5) (u2 : S_X2) (post : (S_X6 × S_X5 × S_X2) → Prop) : Prop := wp_X5_number u1 (0 : Int32) (39 : Int32) (fun r_2 u_1 => wp_X7_hasBand u2.1 r_2 (fun r_4 u_3 => (r_4 = 0 → (j_X6_readBand_45 r_2 u0 u_1 (u_3, u2.2.1, u2.2.2) post)) ∧ (¬ (r_4 = 0) → (wp_X5_fail u_1 (-3 : Int32) u1.2.2.2.2.2.1 (fun u_6 => j_X6_readBand_45 r_2 u0 u_6 (u_3, u2.2.1, u2.2.2) post)))))
set_option maxHeartbeats 4000000 in
set_option maxRecDepth 100000 in
theorem t_X6_readBand_45 {p : Program} {l : Launch} {e : Env} {s : State} {m : MethodId} {args : Array Value} {below : List Frame} {meth : Method} {c : Code} {Z : zZ} {E : zE} {A : Nat → Prop} {q0 : Nat → Nat} (hZ0 : zSt Z) (C0 : zC p s m args meth c yX6_readBand cX6_readBand 4 none) (hA : ∀ q : Nat, s.heap.size ≤ q → A q) (hK : va_K (zD E) vwCl (zT E) s) (hZ : Z A s s.heap) (post : (S_X6 × S_X5 × S_X2) → Prop) : ∀ (x3 : Int32) (u0 : S_X6) (u1 : S_X5) (u2 : S_X2) (H : Heap) (locs : List Loc) (ls : Array Slot), j_X6_readBand_45 x3 u0 u1 u2 post → va_P (zD E) vwCl (k_X6 E q0 u0 ++ (k_X5 E (fun k => q0 (k + 1)) u1 ++ (k_X2 E (fun k => q0 (k + 4)) u2))) H → va_D A (k_X6 E q0 u0 ++ (k_X5 E (fun k => q0 (k + 1)) u1 ++ (k_X2 E (fun k => q0 (k + 4)) u2))) → va_S A s.heap H locs → lv_has ls 4 [(0, .ref (q0 0)), (1, .ref (q0 5)), (3, .int x3)] → W p l e r_X6_readBand s m args below meth c H locs 0 0 (MQ below (va_Qv post (zAt E A (fun u => k_X6 E q0 u.1 ++ (k_X5 E (fun k => q0 (k + 1)) u.2.1 ++ (k_X2 E (fun k => q0 (k + 4)) u.2.2)))) A) args s 0 0 A) (F0 m 45 ls []) := by
  obtain ⟨hx, hb, hml, hr, hown, hts, hlocks, hin⟩ := id C0
  have hown : s.vm.findClass RX6 = some m.cls := hown
  intro x3 u0 u1 u2 H locs ls hw hP hD hS hl
  refine lv_aload_n hx hb dX6_readBand_45 rfl (lv_at hl 1 rfl) ?_
  refine lv_iload_n hx hb dX6_readBand_46 rfl (lv_at hl 2 rfl) ?_
  refine lv_aload_n hx hb dX6_readBand_47 rfl (lv_at hl 0 rfl) ?_
  refine va_get (D := zD E) (ci := 6) (v := .ref (q0 1)) (C := RX6) (T := TX6) (N := 5) hx hb hts uw_X6 hown hK hP 0 rfl rfl 0 (by decide) (hts _ wm_2_57) (fun _ h9 => h9) rfl dX6_readBand_48 ?_
  refine lv_iconst (v := 0) hx hb dX6_readBand_51 rfl ?_
  refine lv_bipush (v := 100) hx hb dX6_readBand_52 rfl ?_
  refine z_ki (z_rN (rest := [.int x3, .ref (q0 5)]) hZ0 C0 hK hZ hA hP hD hS hl.1 (c_X5_number l E Z hZ0 (fun k => q0 (k + 1)) H.size u1 (0 : Int32) (100 : Int32) _ hw) yv_X6_84 [1, 2] rfl (by decide) (ci := 5) rfl rfl 1 rfl ⟨Nat.le_of_ble_eq_true rfl, Nat.le_of_ble_eq_true rfl⟩ ⟨rfl, rfl⟩ rfl rfl (Nat.le_of_ble_eq_true rfl) ⟨Nat.le_of_ble_eq_true rfl, Nat.le_of_ble_eq_true rfl⟩ dX6_readBand_54) hP hD hS hA [1, 2] [0, 3, 4, 5, 6, 7, 8, 9, 10, 11, 12, 13, 14, 15, 16, 17, 18, 19, 20] [0, 19, 20, 1, 2, 3, 4, 5, 6, 7, 8, 9, 10, 11, 12, 13, 14, 15, 16, 17, 18] rfl (wr := [_, _, _, _, _, _, _, _, _, _, _, _, _, _, _, _, _, _, _]) rfl (by decide) (by decide) (fun u => k_X6 E q0 u0 ++ (k_X5 E (fun k => q0 (k + 1)) u ++ (k_X2 E (fun k => q0 (k + 4)) u2))) (fun u => rfl) (by decide) (fun r_9 u_8 H locs hw hP hD hS => ?_)
  refine lv_aload_n hx hb dX6_readBand_57 rfl (lv_at hl 0 rfl) ?_
  refine va_get (D := zD E) (ci := 6) (v := .ref (q0 1)) (C := RX6) (T := TX6) (N := 5) hx hb hts uw_X6 hown hK hP 0 rfl rfl 0 (by decide) (hts _ wm_2_57) (fun _ h9 => h9) rfl dX6_readBand_58 ?_
  refine lv_iconst (v := 0) hx hb dX6_readBand_61 rfl ?_
  refine lv_bipush (v := 100) hx hb dX6_readBand_62 rfl ?_
  refine z_ki (z_rN (rest := [.int r_9, .int x3, .ref (q0 5)]) hZ0 C0 hK hZ hA hP hD hS hl.1 (c_X5_number l E Z hZ0 (fun k => q0 (k + 1)) H.size u_8 (0 : Int32) (100 : Int32) _ hw) yv_X6_84 [1, 2] rfl (by decide) (ci := 5) rfl rfl 1 rfl ⟨Nat.le_of_ble_eq_true rfl, Nat.le_of_ble_eq_true rfl⟩ ⟨rfl, rfl⟩ rfl rfl (Nat.le_of_ble_eq_true rfl) ⟨Nat.le_of_ble_eq_true rfl, Nat.le_of_ble_eq_true rfl⟩ dX6_readBand_64) hP hD hS hA [1, 2] [0, 3, 4, 5, 6, 7, 8, 9, 10, 11, 12, 13, 14, 15, 16, 17, 18, 19, 20] [0, 19, 20, 1, 2, 3, 4, 5, 6, 7, 8, 9, 10, 11, 12, 13, 14, 15, 16, 17, 18] rfl (wr := [_, _, _, _, _, _, _, _, _, _, _, _, _, _, _, _, _, _, _]) rfl (by decide) (by decide) (fun u => k_X6 E q0 u0 ++ (k_X5 E (fun k => q0 (k + 1)) u ++ (k_X2 E (fun k => q0 (k + 4)) u2))) (fun u => rfl) (by decide) (fun r_11 u_10 H locs hw hP hD hS => ?_)
  refine z_kv (z_rN (rest := []) hZ0 C0 hK hZ hA hP hD hS hl.1 (c_X7_addBand l E Z hZ0 (fun k => q0 (k + 5)) H.size u2.1 x3 r_9 r_11 _ hw) yv_X6_156 [4, 5, 6, 7, 8] rfl (by decide) (ci := 7) rfl rfl 4 rfl ⟨Nat.le_of_ble_eq_true rfl, Nat.le_of_ble_eq_true rfl⟩ ⟨rfl, rfl⟩ rfl rfl (Nat.le_of_ble_eq_true rfl) ⟨Nat.le_of_ble_eq_true rfl, Nat.le_of_ble_eq_true rfl⟩ dX6_readBand_67) hP hD hS hA [4, 5, 6, 7, 8] [0, 1, 2, 3, 9, 10, 11, 12, 13, 14, 15, 16, 17, 18, 19, 20] [0, 1, 2, 3, 16, 17, 18, 19, 20, 4, 5, 6, 7, 8, 9, 10, 11, 12, 13, 14, 15] rfl (wr := [_, _, _, _, _, _, _, _, _, _, _, _, _, _, _, _]) rfl (by decide) (by decide) (fun u => k_X6 E q0 u0 ++ (k_X5 E (fun k => q0 (k + 1)) u_10 ++ (k_X2 E (fun k => q0 (k + 4)) (u, u2.2.1, u2.2.2)))) (fun u => rfl) (by decide) (fun u_12 H locs hw hP hD hS => ?_)
  exact z_vret (k := (fun u => k_X6 E q0 u.1 ++ (k_X5 E (fun k => q0 (k + 1)) u.2.1 ++ (k_X2 E (fun k => q0 (k + 4)) u.2.2)))) (u0, u_10, (u_12, u2.2.1, u2.2.2)) C0 hP hD hS hw dX6_readBand_70
set_option maxHeartbeats 4000000 in
set_option maxRecDepth 100000 in
theorem c_X6_readBand (l : Launch) (E : zE) (Z : zZ) (hZ0 : zSt Z) (q0 : Nat → Nat) (sz : Nat) (u0 : S_X6) (u1 : S_X5) (u2 : S_X2) (post : (S_X6 × S_X5 × S_X2) → Prop) (hw : wp_X6_readBand u0 u1 u2 post) : Met l yX6_readBand (zws yX6_readBand cX6_readBand 4 none) r_X6_readBand (va_Pc [.ref (q0 0)] (zPre Z E (k_X6 E q0 u0 ++ (k_X5 E (fun k => q0 (k + 1)) u1 ++ (k_X2 E (fun k => q0 (k + 4)) u2))) sz)) (va_Qv post (zAt E (va_A (k_X6 E q0 u0 ++ (k_X5 E (fun k => q0 (k + 1)) u1 ++ (k_X2 E (fun k => q0 (k + 4)) u2))) sz) (fun u => k_X6 E q0 u.1 ++ (k_X5 E (fun k => q0 (k + 1)) u.2.1 ++ (k_X2 E (fun k => q0 (k + 4)) u.2.2)))) (va_A (k_X6 E q0 u0 ++ (k_X5 E (fun k => q0 (k + 1)) u1 ++ (k_X2 E (fun k => q0 (k + 4)) u2))) sz)) 0 0 (va_A (k_X6 E q0 u0 ++ (k_X5 E (fun k => q0 (k + 1)) u1 ++ (k_X2 E (fun k => q0 (k + 4)) u2))) sz) := by
  refine z_ofW (Qf := fun A => va_Qv post (zAt E A (fun u => k_X6 E q0 u.1 ++ (k_X5 E (fun k => q0 (k + 1)) u.2.1 ++ (k_X2 E (fun k => q0 (k + 4)) u.2.2)))) A) (by decide) (Nat.le_of_ble_eq_true rfl) ?_
  intro p e s m args below meth c A ls C0 hA hK hZ hP hD hS hl
  obtain ⟨hx, hb, hml, hr, hown, hts, hlocks, hin⟩ := id C0
  have hown : s.vm.findClass RX6 = some m.cls := hown
  have hl : lv_has ls 4 [(0, .ref (q0 0))] := hl
  refine lv_aload_n hx hb dX6_readBand_0 rfl (lv_at hl 0 rfl) ?_
  refine va_get (D := zD E) (ci := 6) (v := .ref (q0 4)) (C := RX6) (T := TX6) (N := 5) hx hb hts uw_X6 hown hK hP 0 rfl rfl 2 (by decide) (hts _ wm_2_60) (fun _ h9 => h9) rfl dX6_readBand_1 ?_
  refine va_getN (D := zD E) (ci := 2) (v := .ref (q0 5)) (C := RX2) (T := TX2) (N := 3) hx hb hts uw_X2 hown hK hP 3 rfl rfl 0 (by decide) (hts _ wm_1_200) (fun _ h9 => h9) rfl dX6_readBand_4 ?_
  refine lv_astore_n (lv' := [(1, .ref (q0 5)), (0, .ref (q0 0))]) hx hb dX6_readBand_7 rfl hl (by decide) rfl (fun ls hl => ?_)
  refine lv_aload_n hx hb dX6_readBand_8 rfl (lv_at hl 1 rfl) ?_
  refine va_get (D := zD E) (ci := 6) (v := .ref (q0 1)) (C := RX6) (T := TX6) (N := 5) hx hb hts uw_X6 hown hK hP 0 rfl rfl 0 (by decide) (hts _ wm_2_57) (fun _ h9 => h9) rfl dX6_readBand_9 ?_
  refine va_getN (D := zD E) (ci := 5) (v := .int u1.2.2.2.2.2.1) (C := RX5) (T := TX5) (N := 9) hx hb hts uw_X5 hown hK hP 1 rfl rfl 5 (by decide) (hts _ wm_2_13) (fun _ h9 => h9) rfl dX6_readBand_12 ?_
  refine lv_istore_n (lv' := [(2, .int u1.2.2.2.2.2.1), (1, .ref (q0 5)), (0, .ref (q0 0))]) hx hb dX6_readBand_15 rfl hl (by decide) rfl (fun ls hl => ?_)
  refine lv_aload_n hx hb dX6_readBand_16 rfl (lv_at hl 2 rfl) ?_
  refine va_get (D := zD E) (ci := 6) (v := .ref (q0 1)) (C := RX6) (T := TX6) (N := 5) hx hb hts uw_X6 hown hK hP 0 rfl rfl 0 (by decide) (hts _ wm_2_57) (fun _ h9 => h9) rfl dX6_readBand_17 ?_
  refine lv_iconst (v := 0) hx hb dX6_readBand_20 rfl ?_
  refine lv_bipush (v := 39) hx hb dX6_readBand_21 rfl ?_
  refine z_ki (z_rN (rest := []) hZ0 C0 hK hZ hA hP hD hS hl.1 (c_X5_number l E Z hZ0 (fun k => q0 (k + 1)) s.heap.size u1 (0 : Int32) (39 : Int32) _ hw) yv_X6_84 [1, 2] rfl (by decide) (ci := 5) rfl rfl 1 rfl ⟨Nat.le_of_ble_eq_true rfl, Nat.le_of_ble_eq_true rfl⟩ ⟨rfl, rfl⟩ rfl rfl (Nat.le_of_ble_eq_true rfl) ⟨Nat.le_of_ble_eq_true rfl, Nat.le_of_ble_eq_true rfl⟩ dX6_readBand_23) hP hD hS hA [1, 2] [0, 3, 4, 5, 6, 7, 8, 9, 10, 11, 12, 13, 14, 15, 16, 17, 18, 19, 20] [0, 19, 20, 1, 2, 3, 4, 5, 6, 7, 8, 9, 10, 11, 12, 13, 14, 15, 16, 17, 18] rfl (wr := [_, _, _, _, _, _, _, _, _, _, _, _, _, _, _, _, _, _, _]) rfl (by decide) (by decide) (fun u => k_X6 E q0 u0 ++ (k_X5 E (fun k => q0 (k + 1)) u ++ (k_X2 E (fun k => q0 (k + 4)) u2))) (fun u => rfl) (by decide) (fun r_2 u_1 H locs hw hP hD hS => ?_)
  refine lv_istore_n (lv' := [(3, .int r_2), (2, .int u1.2.2.2.2.2.1), (1, .ref (q0 5)), (0, .ref (q0 0))]) hx hb dX6_readBand_26 rfl hl (by decide) rfl (fun ls hl => ?_)
  refine lv_aload_n hx hb dX6_readBand_27 rfl (lv_at hl 2 rfl) ?_
  refine lv_iload_n hx hb dX6_readBand_28 rfl (lv_at hl 0 rfl) ?_
  refine z_ki (z_rN (rest := []) hZ0 C0 hK hZ hA hP hD hS hl.1 (c_X7_hasBand l E Z hZ0 (fun k => q0 (k + 5)) H.size u2.1 r_2 _ hw) yv_X6_152 [4, 5, 6, 7, 8] rfl (by decide) (ci := 7) rfl rfl 4 rfl ⟨Nat.le_of_ble_eq_true rfl, Nat.le_of_ble_eq_true rfl⟩ ⟨rfl, rfl⟩ rfl rfl (Nat.le_of_ble_eq_true rfl) ⟨Nat.le_of_ble_eq_true rfl, Nat.le_of_ble_eq_true rfl⟩ dX6_readBand_29) hP hD hS hA [4, 5, 6, 7, 8] [0, 1, 2, 3, 9, 10, 11, 12, 13, 14, 15, 16, 17, 18, 19, 20] [0, 1, 2, 3, 16, 17, 18, 19, 20, 4, 5, 6, 7, 8, 9, 10, 11, 12, 13, 14, 15] rfl (wr := [_, _, _, _, _, _, _, _, _, _, _, _, _, _, _, _]) rfl (by decide) (by decide) (fun u => k_X6 E q0 u0 ++ (k_X5 E (fun k => q0 (k + 1)) u_1 ++ (k_X2 E (fun k => q0 (k + 4)) (u, u2.2.1, u2.2.2)))) (fun u => rfl) (by decide) (fun r_4 u_3 H locs hw hP hD hS => ?_)
  obtain ⟨hwt, hwf⟩ := hw
  refine lv_if_eq (tgt := 45) hx hb dX6_readBand_32 (by decide) (fun c_5 => ?_) (fun c_5 => ?_)
  · have hw := hwt c_5
    exact t_X6_readBand_45 (l := l) hZ0 C0 hA hK hZ post r_2 u0 u_1 (u_3, u2.2.1, u2.2.2) _ _ _ hw hP hD hS (lv_sub hl [3, 2, 0] rfl)
  · have hw := hwf c_5
    refine lv_aload_n hx hb dX6_readBand_35 rfl (lv_at hl 3 rfl) ?_
    refine va_get (D := zD E) (ci := 6) (v := .ref (q0 1)) (C := RX6) (T := TX6) (N := 5) hx hb hts uw_X6 hown hK hP 0 rfl rfl 0 (by decide) (hts _ wm_2_57) (fun _ h9 => h9) rfl dX6_readBand_36 ?_
    refine lv_bipush (v := (-3)) hx hb dX6_readBand_39 rfl ?_
    refine lv_iload_n hx hb dX6_readBand_41 rfl (lv_at hl 1 rfl) ?_
    refine z_kv (z_rN (rest := []) hZ0 C0 hK hZ hA hP hD hS hl.1 (c_X5_fail l E Z hZ0 (fun k => q0 (k + 1)) H.size u_1 (-3 : Int32) u1.2.2.2.2.2.1 _ hw) yv_X6_80 [1, 2] rfl (by decide) (ci := 5) rfl rfl 1 rfl ⟨Nat.le_of_ble_eq_true rfl, Nat.le_of_ble_eq_true rfl⟩ ⟨rfl, rfl⟩ rfl rfl (Nat.le_of_ble_eq_true rfl) ⟨Nat.le_of_ble_eq_true rfl, Nat.le_of_ble_eq_true rfl⟩ dX6_readBand_42) hP hD hS hA [1, 2] [0, 3, 4, 5, 6, 7, 8, 9, 10, 11, 12, 13, 14, 15, 16, 17, 18, 19, 20] [0, 19, 20, 1, 2, 3, 4, 5, 6, 7, 8, 9, 10, 11, 12, 13, 14, 15, 16, 17, 18] rfl (wr := [_, _, _, _, _, _, _, _, _, _, _, _, _, _, _, _, _, _, _]) rfl (by decide) (by decide) (fun u => k_X6 E q0 u0 ++ (k_X5 E (fun k => q0 (k + 1)) u ++ (k_X2 E (fun k => q0 (k + 4)) (u_3, u2.2.1, u2.2.2)))) (fun u => rfl) (by decide) (fun u_6 H locs hw hP hD hS => ?_)
    exact t_X6_readBand_45 (l := l) hZ0 C0 hA hK hZ post r_2 u0 u_6 (u_3, u2.2.1, u2.2.2) _ _ _ hw hP hD hS (lv_sub hl [3, 2, 0] rfl)
abbrev r_X6_readStep : Room := { frames := 3, cells := 0, slots := 0, locals := 75 }
def j_X6_readStep_43 (x2 : Int32) (x3 : Int32) (y0 : Int32) (u0 : S_X6) (u1 : S_X5) (u2 : S_X2) (post : (S_X6 × S_X5 × S_X2) → Prop) : Prop := wp_X5_number u1 y0 (999 : Int32) (fun r_4 u_3 => (x2 < (6 : Int32) → (vp_in x2 6 ∧ (wp_X5_number u_3 (0 : Int32) (999 : Int32) (fun r_8 u_7 => vp_in x2 6 ∧ (∀ x_10 : Int32, x_10 = (u2.1.2.2.2.2.2.2.2.2.2.2.1 + (1 : Int32)) → (post (u0, u_7, ((u2.1.1, u2.1.2.1, u2.1.2.2.1, u2.1.2.2.2.1, u2.1.2.2.2.2.1, u2.1.2.2.2.2.2.1, u2.1.2.2.2.2.2.2.1, u2.1.2.2.2.2.2.2.2.1, u2.1.2.2.2.2.2.2.2.2.1, u2.1.2.2.2.2.2.2.2.2.2.1, x_10, (upd u2.1.2.2.2.2.2.2.2.2.2.2.2.1 x2.toNatClampNeg r_4), (upd u2.1.2.2.2.2.2.2.2.2.2.2.2.2.1 x2.toNatClampNeg r_8), u2.1.2.2.2.2.2.2.2.2.2.2.2.2.2.1, u2.1.2.2.2.2.2.2.2.2.2.2.2.2.2.2.1, u2.1.2.2.2.2.2.2.2.2.2.2.2.2.2.2.2), u2.2.1, u2.2.2)))))))) ∧ (¬ (x2 < (6 : Int32)) → (wp_X5_fail u_3 (-4 : Int32) x3 (fun u_11 => post (u0, u_11, u2)))))
def wp_X6_readStep (u0 : S_X6) (u1 : S_X5) (u2 : S_X2) (post : (S_X6 × S_X5 × S_X2) → Prop) : Prop := (¬ (u2.1.2.2.2.2.2.2.2.2.2.2.1 = 0) → (vp_in (u2.1.2.2.2.2.2.2.2.2.2.2.1 - (1 : Int32)) 6 ∧ (j_X6_readStep_43 u2.1.2.2.2.2.2.2.2.2.2.2.1 u1.2.2.2.2.2.1 ((u2.1.2.2.2.2.2.2.2.2.2.2.2.1 (u2.1.2.2.2.2.2.2.2.2.2.2.1 - (1 : Int32)).toNatClampNeg) + (1 : Int32)) u0 u1 u2 post))) ∧ (u2.1.2.2.2.2.2.2.2.2.2.2.1 = 0 → (j_X6_readStep_43 u2.1.2.2.2.2.2.2.2.2.2.2.1 u1.2.2.2.2.2.1 (0 : Int32) u0 u1 u2 post))
set_option maxHeartbeats 4000000 in
set_option maxRecDepth 100000 in
theorem t_X6_readStep_43 {p : Program} {l : Launch} {e : Env} {s : State} {m : MethodId} {args : Array Value} {below : List Frame} {meth : Method} {c : Code} {Z : zZ} {E : zE} {A : Nat → Prop} {q0 : Nat → Nat} (hZ0 : zSt Z) (C0 : zC p s m args meth c yX6_readStep cX6_readStep 5 none) (hA : ∀ q : Nat, s.heap.size ≤ q → A q) (hK : va_K (zD E) vwCl (zT E) s) (hZ : Z A s s.heap) (post : (S_X6 × S_X5 × S_X2) → Prop) : ∀ (x2 : Int32) (x3 : Int32) (y0 : Int32) (u0 : S_X6) (u1 : S_X5) (u2 : S_X2) (H : Heap) (locs : List Loc) (ls : Array Slot), j_X6_readStep_43 x2 x3 y0 u0 u1 u2 post → va_P (zD E) vwCl (k_X6 E q0 u0 ++ (k_X5 E (fun k => q0 (k + 1)) u1 ++ (k_X2 E (fun k => q0 (k + 4)) u2))) H → va_D A (k_X6 E q0 u0 ++ (k_X5 E (fun k => q0 (k + 1)) u1 ++ (k_X2 E (fun k => q0 (k + 4)) u2))) → va_S A s.heap H locs → lv_has ls 5 [(0, .ref (q0 0)), (1, .ref (q0 5)), (2, .int x2), (3, .int x3)] → W p l e r_X6_readStep s m args below meth c H locs 0 0 (MQ below (va_Qv post (zAt E A (fun u => k_X6 E q0 u.1 ++ (k_X5 E (fun k => q0 (k + 1)) u.2.1 ++ (k_X2 E (fun k => q0 (k + 4)) u.2.2)))) A) args s 0 0 A) (F0 m 43 ls [.int y0, .ref (q0 1)]) := by
  obtain ⟨hx, hb, hml, hr, hown, hts, hlocks, hin⟩ := id C0
  have hown : s.vm.findClass RX6 = some m.cls := hown
  intro x2 x3 y0 u0 u1 u2 H locs ls hw hP hD hS hl
  refine lv_sipush (v := 999) hx hb dX6_readStep_43 rfl ?_
  refine z_ki (z_rN (rest := []) hZ0 C0 hK hZ hA hP hD hS hl.1 (c_X5_number l E Z hZ0 (fun k => q0 (k + 1)) H.size u1 y0 (999 : Int32) _ hw) yv_X6_84 [1, 2] rfl (by decide) (ci := 5) rfl rfl 1 rfl ⟨Nat.le_of_ble_eq_true rfl, Nat.le_of_ble_eq_true rfl⟩ ⟨rfl, rfl⟩ rfl rfl (Nat.le_of_ble_eq_true rfl) ⟨Nat.le_of_ble_eq_true rfl, Nat.le_of_ble_eq_true rfl⟩ dX6_readStep_46) hP hD hS hA [1, 2] [0, 3, 4, 5, 6, 7, 8, 9, 10, 11, 12, 13, 14, 15, 16, 17, 18, 19, 20] [0, 19, 20, 1, 2, 3, 4, 5, 6, 7, 8, 9, 10, 11, 12, 13, 14, 15, 16, 17, 18] rfl (wr := [_, _, _, _, _, _, _, _, _, _, _, _, _, _, _, _, _, _, _]) rfl (by decide) (by decide) (fun u => k_X6 E q0 u0 ++ (k_X5 E (fun k => q0 (k + 1)) u ++ (k_X2 E (fun k => q0 (k + 4)) u2))) (fun u => rfl) (by decide) (fun r_4 u_3 H locs hw hP hD hS => ?_)
  refine lv_istore (lv' := [(4, .int r_4), (0, .ref (q0 0)), (1, .ref (q0 5)), (2, .int x2), (3, .int x3)]) hx hb dX6_readStep_49 hl (by decide) rfl (fun ls hl => ?_)
  refine lv_iload_n hx hb dX6_readStep_51 rfl (lv_at hl 3 rfl) ?_
  refine lv_bipush (v := 6) hx hb dX6_readStep_52 rfl ?_
  obtain ⟨hwt, hwf⟩ := hw
  refine lv_icmp_lt (tgt := 68) hx hb dX6_readStep_54 (by decide) (fun c_5 => ?_) (fun c_5 => ?_)
  · have hw := hwt c_5
    refine lv_aload_n hx hb dX6_readStep_68 rfl (lv_at hl 2 rfl) ?_
    refine va_getN (D := zD E) (ci := 7) (v := .ref (q0 6)) (C := RX7) (T := TX7) (N := 16) hx hb hts uw_X7 hown hK hP 4 rfl rfl 11 (by decide) (hts _ wm_1_82) (fun _ h9 => h9) rfl dX6_readStep_69 ?_
    refine lv_iload_n hx hb dX6_readStep_72 rfl (lv_at hl 3 rfl) ?_
    refine lv_iload hx hb dX6_readStep_73 (lv_at hl 0 rfl) ?_
    obtain ⟨h_6, hw⟩ := hw
    refine va_iast hx hb hK hP hD hS 5 0 rfl rfl h_6 dX6_readStep_75 (fun H locs hP hD hS => ?_)
    have hP : va_P (zD E) vwCl (k_X6 E q0 u0 ++ (k_X5 E (fun k => q0 (k + 1)) u_3 ++ (k_X2 E (fun k => q0 (k + 4)) ((u2.1.1, u2.1.2.1, u2.1.2.2.1, u2.1.2.2.2.1, u2.1.2.2.2.2.1, u2.1.2.2.2.2.2.1, u2.1.2.2.2.2.2.2.1, u2.1.2.2.2.2.2.2.2.1, u2.1.2.2.2.2.2.2.2.2.1, u2.1.2.2.2.2.2.2.2.2.2.1, u2.1.2.2.2.2.2.2.2.2.2.2.1, (upd u2.1.2.2.2.2.2.2.2.2.2.2.2.1 x2.toNatClampNeg r_4), u2.1.2.2.2.2.2.2.2.2.2.2.2.2.1, u2.1.2.2.2.2.2.2.2.2.2.2.2.2.2.1, u2.1.2.2.2.2.2.2.2.2.2.2.2.2.2.2.1, u2.1.2.2.2.2.2.2.2.2.2.2.2.2.2.2.2), u2.2.1, u2.2.2)))) H := hP
    have hD : va_D A (k_X6 E q0 u0 ++ (k_X5 E (fun k => q0 (k + 1)) u_3 ++ (k_X2 E (fun k => q0 (k + 4)) ((u2.1.1, u2.1.2.1, u2.1.2.2.1, u2.1.2.2.2.1, u2.1.2.2.2.2.1, u2.1.2.2.2.2.2.1, u2.1.2.2.2.2.2.2.1, u2.1.2.2.2.2.2.2.2.1, u2.1.2.2.2.2.2.2.2.2.1, u2.1.2.2.2.2.2.2.2.2.2.1, u2.1.2.2.2.2.2.2.2.2.2.2.1, (upd u2.1.2.2.2.2.2.2.2.2.2.2.2.1 x2.toNatClampNeg r_4), u2.1.2.2.2.2.2.2.2.2.2.2.2.2.1, u2.1.2.2.2.2.2.2.2.2.2.2.2.2.2.1, u2.1.2.2.2.2.2.2.2.2.2.2.2.2.2.2.1, u2.1.2.2.2.2.2.2.2.2.2.2.2.2.2.2.2), u2.2.1, u2.2.2)))) := hD
    refine lv_aload_n hx hb dX6_readStep_76 rfl (lv_at hl 2 rfl) ?_
    refine va_getN (D := zD E) (ci := 7) (v := .ref (q0 7)) (C := RX7) (T := TX7) (N := 16) hx hb hts uw_X7 hown hK hP 4 rfl rfl 12 (by decide) (hts _ wm_1_84) (fun _ h9 => h9) rfl dX6_readStep_77 ?_
    refine lv_iload_n hx hb dX6_readStep_80 rfl (lv_at hl 3 rfl) ?_
    refine lv_aload_n hx hb dX6_readStep_81 rfl (lv_at hl 1 rfl) ?_
    refine va_get (D := zD E) (ci := 6) (v := .ref (q0 1)) (C := RX6) (T := TX6) (N := 5) hx hb hts uw_X6 hown hK hP 0 rfl rfl 0 (by decide) (hts _ wm_2_57) (fun _ h9 => h9) rfl dX6_readStep_82 ?_
    refine lv_iconst (v := 0) hx hb dX6_readStep_85 rfl ?_
    refine lv_sipush (v := 999) hx hb dX6_readStep_86 rfl ?_
    refine z_ki (z_rN (rest := [.int x2, .ref (q0 7)]) hZ0 C0 hK hZ hA hP hD hS hl.1 (c_X5_number l E Z hZ0 (fun k => q0 (k + 1)) H.size u_3 (0 : Int32) (999 : Int32) _ hw) yv_X6_84 [1, 2] rfl (by decide) (ci := 5) rfl rfl 1 rfl ⟨Nat.le_of_ble_eq_true rfl, Nat.le_of_ble_eq_true rfl⟩ ⟨rfl, rfl⟩ rfl rfl (Nat.le_of_ble_eq_true rfl) ⟨Nat.le_of_ble_eq_true rfl, Nat.le_of_ble_eq_true rfl⟩ dX6_readStep_89) hP hD hS hA [1, 2] [0, 3, 4, 5, 6, 7, 8, 9, 10, 11, 12, 13, 14, 15, 16, 17, 18, 19, 20] [0, 19, 20, 1, 2, 3, 4, 5, 6, 7, 8, 9, 10, 11, 12, 13, 14, 15, 16, 17, 18] rfl (wr := [_, _, _, _, _, _, _, _, _, _, _, _, _, _, _, _, _, _, _]) rfl (by decide) (by decide) (fun u => k_X6 E q0 u0 ++ (k_X5 E (fun k => q0 (k + 1)) u ++ (k_X2 E (fun k => q0 (k + 4)) ((u2.1.1, u2.1.2.1, u2.1.2.2.1, u2.1.2.2.2.1, u2.1.2.2.2.2.1, u2.1.2.2.2.2.2.1, u2.1.2.2.2.2.2.2.1, u2.1.2.2.2.2.2.2.2.1, u2.1.2.2.2.2.2.2.2.2.1, u2.1.2.2.2.2.2.2.2.2.2.1, u2.1.2.2.2.2.2.2.2.2.2.2.1, (upd u2.1.2.2.2.2.2.2.2.2.2.2.2.1 x2.toNatClampNeg r_4), u2.1.2.2.2.2.2.2.2.2.2.2.2.2.1, u2.1.2.2.2.2.2.2.2.2.2.2.2.2.2.1, u2.1.2.2.2.2.2.2.2.2.2.2.2.2.2.2.1, u2.1.2.2.2.2.2.2.2.2.2.2.2.2.2.2.2), u2.2.1, u2.2.2)))) (fun u => rfl) (by decide) (fun r_8 u_7 H locs hw hP hD hS => ?_)
    obtain ⟨h_9, hw⟩ := hw
    refine va_iast hx hb hK hP hD hS 6 0 rfl rfl h_9 dX6_readStep_92 (fun H locs hP hD hS => ?_)
    have hP : va_P (zD E) vwCl (k_X6 E q0 u0 ++ (k_X5 E (fun k => q0 (k + 1)) u_7 ++ (k_X2 E (fun k => q0 (k + 4)) ((u2.1.1, u2.1.2.1, u2.1.2.2.1, u2.1.2.2.2.1, u2.1.2.2.2.2.1, u2.1.2.2.2.2.2.1, u2.1.2.2.2.2.2.2.1, u2.1.2.2.2.2.2.2.2.1, u2.1.2.2.2.2.2.2.2.2.1, u2.1.2.2.2.2.2.2.2.2.2.1, u2.1.2.2.2.2.2.2.2.2.2.2.1, (upd u2.1.2.2.2.2.2.2.2.2.2.2.2.1 x2.toNatClampNeg r_4), (upd u2.1.2.2.2.2.2.2.2.2.2.2.2.2.1 x2.toNatClampNeg r_8), u2.1.2.2.2.2.2.2.2.2.2.2.2.2.2.1, u2.1.2.2.2.2.2.2.2.2.2.2.2.2.2.2.1, u2.1.2.2.2.2.2.2.2.2.2.2.2.2.2.2.2), u2.2.1, u2.2.2)))) H := hP
    have hD : va_D A (k_X6 E q0 u0 ++ (k_X5 E (fun k => q0 (k + 1)) u_7 ++ (k_X2 E (fun k => q0 (k + 4)) ((u2.1.1, u2.1.2.1, u2.1.2.2.1, u2.1.2.2.2.1, u2.1.2.2.2.2.1, u2.1.2.2.2.2.2.1, u2.1.2.2.2.2.2.2.1, u2.1.2.2.2.2.2.2.2.1, u2.1.2.2.2.2.2.2.2.2.1, u2.1.2.2.2.2.2.2.2.2.2.1, u2.1.2.2.2.2.2.2.2.2.2.2.1, (upd u2.1.2.2.2.2.2.2.2.2.2.2.2.1 x2.toNatClampNeg r_4), (upd u2.1.2.2.2.2.2.2.2.2.2.2.2.2.1 x2.toNatClampNeg r_8), u2.1.2.2.2.2.2.2.2.2.2.2.2.2.2.1, u2.1.2.2.2.2.2.2.2.2.2.2.2.2.2.2.1, u2.1.2.2.2.2.2.2.2.2.2.2.2.2.2.2.2), u2.2.1, u2.2.2)))) := hD
    refine lv_aload_n hx hb dX6_readStep_93 rfl (lv_at hl 2 rfl) ?_
    refine lv_dup hx hb dX6_readStep_94 rfl ?_
    refine va_getN (D := zD E) (ci := 7) (v := .int u2.1.2.2.2.2.2.2.2.2.2.2.1) (C := RX7) (T := TX7) (N := 16) hx hb hts uw_X7 hown hK hP 4 rfl rfl 10 (by decide) (hts _ wm_1_80) (fun _ h9 => h9) rfl dX6_readStep_95 ?_
    refine lv_iconst (v := 1) hx hb dX6_readStep_98 rfl ?_
    refine lv_iadd hx hb dX6_readStep_99 ?_
    refine lv_topi (fun x_10 ex_10 => ?_)
    have hw := hw x_10 ex_10
    refine va_putN (D := zD E) (ci := 7) (v := .int x_10) (ty := .int) (C := RX7) (T := TX7) (N := 16) hx hb hts uw_X7 tyX7 tyX7_ok nmX7 hown hK hP hD hS 4 rfl rfl 10 (by decide) (hts _ wm_1_80) (fun _ h9 => h9) rfl (by decide +kernel) rfl rfl (Nat.le_of_ble_eq_true rfl) dX6_readStep_100 (fun H locs hP hD hS => ?_)
    have hP : va_P (zD E) vwCl (k_X6 E q0 u0 ++ (k_X5 E (fun k => q0 (k + 1)) u_7 ++ (k_X2 E (fun k => q0 (k + 4)) ((u2.1.1, u2.1.2.1, u2.1.2.2.1, u2.1.2.2.2.1, u2.1.2.2.2.2.1, u2.1.2.2.2.2.2.1, u2.1.2.2.2.2.2.2.1, u2.1.2.2.2.2.2.2.2.1, u2.1.2.2.2.2.2.2.2.2.1, u2.1.2.2.2.2.2.2.2.2.2.1, x_10, (upd u2.1.2.2.2.2.2.2.2.2.2.2.2.1 x2.toNatClampNeg r_4), (upd u2.1.2.2.2.2.2.2.2.2.2.2.2.2.1 x2.toNatClampNeg r_8), u2.1.2.2.2.2.2.2.2.2.2.2.2.2.2.1, u2.1.2.2.2.2.2.2.2.2.2.2.2.2.2.2.1, u2.1.2.2.2.2.2.2.2.2.2.2.2.2.2.2.2), u2.2.1, u2.2.2)))) H := hP
    have hD : va_D A (k_X6 E q0 u0 ++ (k_X5 E (fun k => q0 (k + 1)) u_7 ++ (k_X2 E (fun k => q0 (k + 4)) ((u2.1.1, u2.1.2.1, u2.1.2.2.1, u2.1.2.2.2.1, u2.1.2.2.2.2.1, u2.1.2.2.2.2.2.1, u2.1.2.2.2.2.2.2.1, u2.1.2.2.2.2.2.2.2.1, u2.1.2.2.2.2.2.2.2.2.1, u2.1.2.2.2.2.2.2.2.2.2.1, x_10, (upd u2.1.2.2.2.2.2.2.2.2.2.2.2.1 x2.toNatClampNeg r_4), (upd u2.1.2.2.2.2.2.2.2.2.2.2.2.2.1 x2.toNatClampNeg r_8), u2.1.2.2.2.2.2.2.2.2.2.2.2.2.2.1, u2.1.2.2.2.2.2.2.2.2.2.2.2.2.2.2.1, u2.1.2.2.2.2.2.2.2.2.2.2.2.2.2.2.2), u2.2.1, u2.2.2)))) := hD
    exact z_vret (k := (fun u => k_X6 E q0 u.1 ++ (k_X5 E (fun k => q0 (k + 1)) u.2.1 ++ (k_X2 E (fun k => q0 (k + 4)) u.2.2)))) (u0, u_7, ((u2.1.1, u2.1.2.1, u2.1.2.2.1, u2.1.2.2.2.1, u2.1.2.2.2.2.1, u2.1.2.2.2.2.2.1, u2.1.2.2.2.2.2.2.1, u2.1.2.2.2.2.2.2.2.1, u2.1.2.2.2.2.2.2.2.2.1, u2.1.2.2.2.2.2.2.2.2.2.1, x_10, (upd u2.1.2.2.2.2.2.2.2.2.2.2.2.1 x2.toNatClampNeg r_4), (upd u2.1.2.2.2.2.2.2.2.2.2.2.2.2.1 x2.toNatClampNeg r_8), u2.1.2.2.2.2.2.2.2.2.2.2.2.2.2.1, u2.1.2.2.2.2.2.2.2.2.2.2.2.2.2.2.1, u2.1.2.2.2.2.2.2.2.2.2.2.2.2.2.2.2), u2.2.1, u2.2.2)) C0 hP hD hS hw dX6_readStep_103
  · have hw := hwf c_5
    refine lv_aload_n hx hb dX6_readStep_57 rfl (lv_at hl 1 rfl) ?_
    refine va_get (D := zD E) (ci := 6) (v := .ref (q0 1)) (C := RX6) (T := TX6) (N := 5) hx hb hts uw_X6 hown hK hP 0 rfl rfl 0 (by decide) (hts _ wm_2_57) (fun _ h9 => h9) rfl dX6_readStep_58 ?_
    refine lv_bipush (v := (-4)) hx hb dX6_readStep_61 rfl ?_
    refine lv_iload_n hx hb dX6_readStep_63 rfl (lv_at hl 4 rfl) ?_
    refine z_kv (z_rN (rest := []) hZ0 C0 hK hZ hA hP hD hS hl.1 (c_X5_fail l E Z hZ0 (fun k => q0 (k + 1)) H.size u_3 (-4 : Int32) x3 _ hw) yv_X6_80 [1, 2] rfl (by decide) (ci := 5) rfl rfl 1 rfl ⟨Nat.le_of_ble_eq_true rfl, Nat.le_of_ble_eq_true rfl⟩ ⟨rfl, rfl⟩ rfl rfl (Nat.le_of_ble_eq_true rfl) ⟨Nat.le_of_ble_eq_true rfl, Nat.le_of_ble_eq_true rfl⟩ dX6_readStep_64) hP hD hS hA [1, 2] [0, 3, 4, 5, 6, 7, 8, 9, 10, 11, 12, 13, 14, 15, 16, 17, 18, 19, 20] [0, 19, 20, 1, 2, 3, 4, 5, 6, 7, 8, 9, 10, 11, 12, 13, 14, 15, 16, 17, 18] rfl (wr := [_, _, _, _, _, _, _, _, _, _, _, _, _, _, _, _, _, _, _]) rfl (by decide) (by decide) (fun u => k_X6 E q0 u0 ++ (k_X5 E (fun k => q0 (k + 1)) u ++ (k_X2 E (fun k => q0 (k + 4)) u2))) (fun u => rfl) (by decide) (fun u_11 H locs hw hP hD hS => ?_)
    exact z_vret (k := (fun u => k_X6 E q0 u.1 ++ (k_X5 E (fun k => q0 (k + 1)) u.2.1 ++ (k_X2 E (fun k => q0 (k + 4)) u.2.2)))) (u0, u_11, u2) C0 hP hD hS hw dX6_readStep_67
set_option maxHeartbeats 4000000 in
set_option maxRecDepth 100000 in
theorem c_X6_readStep (l : Launch) (E : zE) (Z : zZ) (hZ0 : zSt Z) (q0 : Nat → Nat) (sz : Nat) (u0 : S_X6) (u1 : S_X5) (u2 : S_X2) (post : (S_X6 × S_X5 × S_X2) → Prop) (hw : wp_X6_readStep u0 u1 u2 post) : Met l yX6_readStep (zws yX6_readStep cX6_readStep 5 none) r_X6_readStep (va_Pc [.ref (q0 0)] (zPre Z E (k_X6 E q0 u0 ++ (k_X5 E (fun k => q0 (k + 1)) u1 ++ (k_X2 E (fun k => q0 (k + 4)) u2))) sz)) (va_Qv post (zAt E (va_A (k_X6 E q0 u0 ++ (k_X5 E (fun k => q0 (k + 1)) u1 ++ (k_X2 E (fun k => q0 (k + 4)) u2))) sz) (fun u => k_X6 E q0 u.1 ++ (k_X5 E (fun k => q0 (k + 1)) u.2.1 ++ (k_X2 E (fun k => q0 (k + 4)) u.2.2)))) (va_A (k_X6 E q0 u0 ++ (k_X5 E (fun k => q0 (k + 1)) u1 ++ (k_X2 E (fun k => q0 (k + 4)) u2))) sz)) 0 0 (va_A (k_X6 E q0 u0 ++ (k_X5 E (fun k => q0 (k + 1)) u1 ++ (k_X2 E (fun k => q0 (k + 4)) u2))) sz) := by
  refine z_ofW (Qf := fun A => va_Qv post (zAt E A (fun u => k_X6 E q0 u.1 ++ (k_X5 E (fun k => q0 (k + 1)) u.2.1 ++ (k_X2 E (fun k => q0 (k + 4)) u.2.2)))) A) (by decide) (Nat.le_of_ble_eq_true rfl) ?_
  intro p e s m args below meth c A ls C0 hA hK hZ hP hD hS hl
  obtain ⟨hx, hb, hml, hr, hown, hts, hlocks, hin⟩ := id C0
  have hown : s.vm.findClass RX6 = some m.cls := hown
  have hl : lv_has ls 5 [(0, .ref (q0 0))] := hl
  refine lv_aload_n hx hb dX6_readStep_0 rfl (lv_at hl 0 rfl) ?_
  refine va_get (D := zD E) (ci := 6) (v := .ref (q0 4)) (C := RX6) (T := TX6) (N := 5) hx hb hts uw_X6 hown hK hP 0 rfl rfl 2 (by decide) (hts _ wm_2_60) (fun _ h9 => h9) rfl dX6_readStep_1 ?_
  refine va_getN (D := zD E) (ci := 2) (v := .ref (q0 5)) (C := RX2) (T := TX2) (N := 3) hx hb hts uw_X2 hown hK hP 3 rfl rfl 0 (by decide) (hts _ wm_1_200) (fun _ h9 => h9) rfl dX6_readStep_4 ?_
  refine lv_astore_n (lv' := [(1, .ref (q0 5)), (0, .ref (q0 0))]) hx hb dX6_readStep_7 rfl hl (by decide) rfl (fun ls hl => ?_)
  refine lv_aload_n hx hb dX6_readStep_8 rfl (lv_at hl 0 rfl) ?_
  refine va_getN (D := zD E) (ci := 7) (v := .int u2.1.2.2.2.2.2.2.2.2.2.2.1) (C := RX7) (T := TX7) (N := 16) hx hb hts uw_X7 hown hK hP 4 rfl rfl 10 (by decide) (hts _ wm_1_80) (fun _ h9 => h9) rfl dX6_readStep_9 ?_
  refine lv_istore_n (lv' := [(2, .int u2.1.2.2.2.2.2.2.2.2.2.2.1), (1, .ref (q0 5)), (0, .ref (q0 0))]) hx hb dX6_readStep_12 rfl hl (by decide) rfl (fun ls hl => ?_)
  refine lv_aload_n hx hb dX6_readStep_13 rfl (lv_at hl 2 rfl) ?_
  refine va_get (D := zD E) (ci := 6) (v := .ref (q0 1)) (C := RX6) (T := TX6) (N := 5) hx hb hts uw_X6 hown hK hP 0 rfl rfl 0 (by decide) (hts _ wm_2_57) (fun _ h9 => h9) rfl dX6_readStep_14 ?_
  refine va_getN (D := zD E) (ci := 5) (v := .int u1.2.2.2.2.2.1) (C := RX5) (T := TX5) (N := 9) hx hb hts uw_X5 hown hK hP 1 rfl rfl 5 (by decide) (hts _ wm_2_13) (fun _ h9 => h9) rfl dX6_readStep_17 ?_
  refine lv_istore_n (lv' := [(3, .int u1.2.2.2.2.2.1), (2, .int u2.1.2.2.2.2.2.2.2.2.2.2.1), (1, .ref (q0 5)), (0, .ref (q0 0))]) hx hb dX6_readStep_20 rfl hl (by decide) rfl (fun ls hl => ?_)
  refine lv_aload_n hx hb dX6_readStep_21 rfl (lv_at hl 3 rfl) ?_
  refine va_get (D := zD E) (ci := 6) (v := .ref (q0 1)) (C := RX6) (T := TX6) (N := 5) hx hb hts uw_X6 hown hK hP 0 rfl rfl 0 (by decide) (hts _ wm_2_57) (fun _ h9 => h9) rfl dX6_readStep_22 ?_
  refine lv_iload_n hx hb dX6_readStep_25 rfl (lv_at hl 1 rfl) ?_
  obtain ⟨hwt, hwf⟩ := hw
  refine lv_if_ne (tgt := 33) hx hb dX6_readStep_26 (by decide) (fun c_1 => ?_) (fun c_1 => ?_)
  · have hw := hwt c_1
    refine lv_aload_n hx hb dX6_readStep_33 rfl (lv_at hl 2 rfl) ?_
    refine va_getN (D := zD E) (ci := 7) (v := .ref (q0 6)) (C := RX7) (T := TX7) (N := 16) hx hb hts uw_X7 hown hK hP 4 rfl rfl 11 (by decide) (hts _ wm_1_82) (fun _ h9 => h9) rfl dX6_readStep_34 ?_
    refine lv_iload_n hx hb dX6_readStep_37 rfl (lv_at hl 1 rfl) ?_
    refine lv_iconst (v := 1) hx hb dX6_readStep_38 rfl ?_
    refine lv_isub hx hb dX6_readStep_39 ?_
    obtain ⟨h_2, hw⟩ := hw
    refine va_iald hx hb hK hP 5 0 rfl rfl h_2 dX6_readStep_40 ?_
    refine lv_iconst (v := 1) hx hb dX6_readStep_41 rfl ?_
    refine lv_iadd hx hb dX6_readStep_42 ?_
    exact t_X6_readStep_43 (l := l) hZ0 C0 hA hK hZ post u2.1.2.2.2.2.2.2.2.2.2.2.1 u1.2.2.2.2.2.1 ((u2.1.2.2.2.2.2.2.2.2.2.2.2.1 (u2.1.2.2.2.2.2.2.2.2.2.2.1 - (1 : Int32)).toNatClampNeg) + (1 : Int32)) u0 u1 u2 _ _ _ hw hP hD hS (lv_sub hl [3, 2, 1, 0] rfl)
  · have hw := hwf c_1
    refine lv_iconst (v := 0) hx hb dX6_readStep_29 rfl ?_
    refine lv_goto (tgt := 43) hx hb dX6_readStep_30 (by decide) ?_
    exact t_X6_readStep_43 (l := l) hZ0 C0 hA hK hZ post u2.1.2.2.2.2.2.2.2.2.2.2.1 u1.2.2.2.2.2.1 (0 : Int32) u0 u1 u2 _ _ _ hw hP hD hS (lv_sub hl [3, 2, 1, 0] rfl)
abbrev r_X6_readLadder : Room := { frames := 4, cells := 0, slots := 0, locals := 99 }
def j_X6_readLadder_6 (K6 : (Int32 × S_X6 × S_X5 × S_X2) → Prop) (x1 : Int32) (u0 : S_X6) (u1 : S_X5) (u2 : S_X2) (post : (S_X6 × S_X5 × S_X2) → Prop) : Prop := ((6 : Int32) ≤ x1 → (post (u0, u1, u2))) ∧ (¬ ((6 : Int32) ≤ x1) → ((¬ (u1.2.2.2.2.1 = (256 : Int32)) → (post (u0, u1, u2))) ∧ (u1.2.2.2.2.1 = (256 : Int32) → (wp_X6_readStep u0 u1 u2 (fun u_5 => ∀ x_7 : Int32, x_7 = x1 + 1 → (K6 (x_7, u_5.1, u_5.2.1, u_5.2.2)))))))
def wp_X6_readLadder (u0 : S_X6) (u1 : S_X5) (u2 : S_X2) (post : (S_X6 × S_X5 × S_X2) → Prop) : Prop := wp_X6_readStep u0 u1 u2 (fun u_1 => ∃ n, zl (fun K st => j_X6_readLadder_6 K st.1 st.2.1 st.2.2.1 st.2.2.2 post) n ((0 : Int32), u_1.1, u_1.2.1, u_1.2.2))
set_option maxHeartbeats 4000000 in
set_option maxRecDepth 100000 in
theorem t_X6_readLadder_6 {p : Program} {l : Launch} {e : Env} {s : State} {m : MethodId} {args : Array Value} {below : List Frame} {meth : Method} {c : Code} {Z : zZ} {E : zE} {A : Nat → Prop} {q0 : Nat → Nat} (hZ0 : zSt Z) (C0 : zC p s m args meth c yX6_readLadder cX6_readLadder 2 none) (hA : ∀ q : Nat, s.heap.size ≤ q → A q) (hK : va_K (zD E) vwCl (zT E) s) (hZ : Z A s s.heap) (post : (S_X6 × S_X5 × S_X2) → Prop) : ∀ (n : Nat) (x1 : Int32) (u0 : S_X6) (u1 : S_X5) (u2 : S_X2) (H : Heap) (locs : List Loc) (ls : Array Slot), zl (fun K st => j_X6_readLadder_6 K st.1 st.2.1 st.2.2.1 st.2.2.2 post) n (x1, u0, u1, u2) → va_P (zD E) vwCl (k_X6 E q0 u0 ++ (k_X5 E (fun k => q0 (k + 1)) u1 ++ (k_X2 E (fun k => q0 (k + 4)) u2))) H → va_D A (k_X6 E q0 u0 ++ (k_X5 E (fun k => q0 (k + 1)) u1 ++ (k_X2 E (fun k => q0 (k + 4)) u2))) → va_S A s.heap H locs → lv_has ls 2 [(0, .ref (q0 0)), (1, .int x1)] → W p l e r_X6_readLadder s m args below meth c H locs 0 0 (MQ below (va_Qv post (zAt E A (fun u => k_X6 E q0 u.1 ++ (k_X5 E (fun k => q0 (k + 1)) u.2.1 ++ (k_X2 E (fun k => q0 (k + 4)) u.2.2)))) A) args s 0 0 A) (F0 m 6 ls []) := by
  obtain ⟨hx, hb, hml, hr, hown, hts, hlocks, hin⟩ := id C0
  have hown : s.vm.findClass RX6 = some m.cls := hown
  intro n
  induction n with
  | zero => intro x1 u0 u1 u2 H locs ls hw; exact hw.elim
  | succ n hk_6 =>
    intro x1 u0 u1 u2 H locs ls hw hP hD hS hl
    have hw : j_X6_readLadder_6 _ x1 u0 u1 u2 post := hw
    refine lv_iload_n hx hb dX6_readLadder_6 rfl (lv_at hl 1 rfl) ?_
    refine lv_bipush (v := 6) hx hb dX6_readLadder_7 rfl ?_
    obtain ⟨hwt, hwf⟩ := hw
    refine lv_icmp_ge (tgt := 35) hx hb dX6_readLadder_9 (by decide) (fun c_3 => ?_) (fun c_3 => ?_)
    · have hw := hwt c_3
      exact z_vret (k := (fun u => k_X6 E q0 u.1 ++ (k_X5 E (fun k => q0 (k + 1)) u.2.1 ++ (k_X2 E (fun k => q0 (k + 4)) u.2.2)))) (u0, u1, u2) C0 hP hD hS hw dX6_readLadder_35
    · have hw := hwf c_3
      refine lv_aload_n hx hb dX6_readLadder_12 rfl (lv_at hl 0 rfl) ?_
      refine va_get (D := zD E) (ci := 6) (v := .ref (q0 1)) (C := RX6) (T := TX6) (N := 5) hx hb hts uw_X6 hown hK hP 0 rfl rfl 0 (by decide) (hts _ wm_2_57) (fun _ h9 => h9) rfl dX6_readLadder_13 ?_
      refine va_getN (D := zD E) (ci := 5) (v := .int u1.2.2.2.2.1) (C := RX5) (T := TX5) (N := 9) hx hb hts uw_X5 hown hK hP 1 rfl rfl 4 (by decide) (hts _ wm_2_10) (fun _ h9 => h9) rfl dX6_readLadder_16 ?_
      refine lv_sipush (v := 256) hx hb dX6_readLadder_19 rfl ?_
      obtain ⟨hwt, hwf⟩ := hw
      refine lv_icmp_ne (tgt := 35) hx hb dX6_readLadder_22 (by decide) (fun c_4 => ?_) (fun c_4 => ?_)
      · have hw := hwt c_4
        exact z_vret (k := (fun u => k_X6 E q0 u.1 ++ (k_X5 E (fun k => q0 (k + 1)) u.2.1 ++ (k_X2 E (fun k => q0 (k + 4)) u.2.2)))) (u0, u1, u2) C0 hP hD hS hw dX6_readLadder_35
      · have hw := hwf c_4
        refine lv_aload_n hx hb dX6_readLadder_25 rfl (lv_at hl 0 rfl) ?_
        refine z_kv (z_rV (rest := []) hZ0 C0 hK hZ hA hP hD hS hl.1 (c_X6_readStep l E Z hZ0 q0 H.size u0 u1 u2 _ hw) yv_X6_160 [0, 1, 2, 3, 4, 5, 6, 7, 8, 9, 10, 11, 12, 13, 14, 15, 16, 17, 18, 19, 20] rfl (by decide) (ci := 6) rfl rfl 0 rfl ⟨Nat.le_of_ble_eq_true rfl, Nat.le_of_ble_eq_true rfl⟩ ⟨rfl, rfl⟩ rfl rfl (Nat.le_of_ble_eq_true rfl) ⟨Nat.le_of_ble_eq_true rfl, Nat.le_of_ble_eq_true rfl⟩ dX6_readLadder_26) hP hD hS hA [0, 1, 2, 3, 4, 5, 6, 7, 8, 9, 10, 11, 12, 13, 14, 15, 16, 17, 18, 19, 20] [] [0, 1, 2, 3, 4, 5, 6, 7, 8, 9, 10, 11, 12, 13, 14, 15, 16, 17, 18, 19, 20] rfl (wr := []) rfl (by decide) (by decide) (fun u => k_X6 E q0 u.1 ++ (k_X5 E (fun k => q0 (k + 1)) u.2.1 ++ (k_X2 E (fun k => q0 (k + 4)) u.2.2))) (fun u => rfl) (by decide) (fun u_5 H locs hw hP hD hS => ?_)
        obtain ⟨x_7, ex_7⟩ : ∃ y : Int32, y = x1 + 1 := ⟨_, rfl⟩
        have hw := hw x_7 ex_7
        refine lv_iinc (v := x_7) (lv' := [(1, .int x_7), (0, .ref (q0 0))]) hx hb dX6_readLadder_29 hl (k := 1) rfl (by rw [ex_7]; rfl) (by decide) rfl (fun ls hl => ?_)
        refine lv_goto (tgt := 6) hx hb dX6_readLadder_32 (by decide) ?_
        exact hk_6 x_7 u_5.1 u_5.2.1 u_5.2.2 _ _ _ hw hP hD hS (lv_sub hl [1, 0] rfl)
set_option maxHeartbeats 4000000 in
set_option maxRecDepth 100000 in
theorem c_X6_readLadder (l : Launch) (E : zE) (Z : zZ) (hZ0 : zSt Z) (q0 : Nat → Nat) (sz : Nat) (u0 : S_X6) (u1 : S_X5) (u2 : S_X2) (post : (S_X6 × S_X5 × S_X2) → Prop) (hw : wp_X6_readLadder u0 u1 u2 post) : Met l yX6_readLadder (zws yX6_readLadder cX6_readLadder 2 none) r_X6_readLadder (va_Pc [.ref (q0 0)] (zPre Z E (k_X6 E q0 u0 ++ (k_X5 E (fun k => q0 (k + 1)) u1 ++ (k_X2 E (fun k => q0 (k + 4)) u2))) sz)) (va_Qv post (zAt E (va_A (k_X6 E q0 u0 ++ (k_X5 E (fun k => q0 (k + 1)) u1 ++ (k_X2 E (fun k => q0 (k + 4)) u2))) sz) (fun u => k_X6 E q0 u.1 ++ (k_X5 E (fun k => q0 (k + 1)) u.2.1 ++ (k_X2 E (fun k => q0 (k + 4)) u.2.2)))) (va_A (k_X6 E q0 u0 ++ (k_X5 E (fun k => q0 (k + 1)) u1 ++ (k_X2 E (fun k => q0 (k + 4)) u2))) sz)) 0 0 (va_A (k_X6 E q0 u0 ++ (k_X5 E (fun k => q0 (k + 1)) u1 ++ (k_X2 E (fun k => q0 (k + 4)) u2))) sz) := by
  refine z_ofW (Qf := fun A => va_Qv post (zAt E A (fun u => k_X6 E q0 u.1 ++ (k_X5 E (fun k => q0 (k + 1)) u.2.1 ++ (k_X2 E (fun k => q0 (k + 4)) u.2.2)))) A) (by decide) (Nat.le_of_ble_eq_true rfl) ?_
  intro p e s m args below meth c A ls C0 hA hK hZ hP hD hS hl
  obtain ⟨hx, hb, hml, hr, hown, hts, hlocks, hin⟩ := id C0
  have hown : s.vm.findClass RX6 = some m.cls := hown
  have hl : lv_has ls 2 [(0, .ref (q0 0))] := hl
  refine lv_aload_n hx hb dX6_readLadder_0 rfl (lv_at hl 0 rfl) ?_
  refine z_kv (z_rV (rest := []) hZ0 C0 hK hZ hA hP hD hS hl.1 (c_X6_readStep l E Z hZ0 q0 s.heap.size u0 u1 u2 _ hw) yv_X6_160 [0, 1, 2, 3, 4, 5, 6, 7, 8, 9, 10, 11, 12, 13, 14, 15, 16, 17, 18, 19, 20] rfl (by decide) (ci := 6) rfl rfl 0 rfl ⟨Nat.le_of_ble_eq_true rfl, Nat.le_of_ble_eq_true rfl⟩ ⟨rfl, rfl⟩ rfl rfl (Nat.le_of_ble_eq_true rfl) ⟨Nat.le_of_ble_eq_true rfl, Nat.le_of_ble_eq_true rfl⟩ dX6_readLadder_1) hP hD hS hA [0, 1, 2, 3, 4, 5, 6, 7, 8, 9, 10, 11, 12, 13, 14, 15, 16, 17, 18, 19, 20] [] [0, 1, 2, 3, 4, 5, 6, 7, 8, 9, 10, 11, 12, 13, 14, 15, 16, 17, 18, 19, 20] rfl (wr := []) rfl (by decide) (by decide) (fun u => k_X6 E q0 u.1 ++ (k_X5 E (fun k => q0 (k + 1)) u.2.1 ++ (k_X2 E (fun k => q0 (k + 4)) u.2.2))) (fun u => rfl) (by decide) (fun u_1 H locs hw hP hD hS => ?_)
  refine lv_iconst (v := 0) hx hb dX6_readLadder_4 rfl ?_
  refine lv_istore_n (lv' := [(1, .int (0 : Int32)), (0, .ref (q0 0))]) hx hb dX6_readLadder_5 rfl hl (by decide) rfl (fun ls hl => ?_)
  obtain ⟨n9, hw⟩ := hw
  exact t_X6_readLadder_6 (l := l) hZ0 C0 hA hK hZ post n9 (0 : Int32) u_1.1 u_1.2.1 u_1.2.2 _ _ _ hw hP hD hS (lv_sub hl [1, 0] rfl)
abbrev r_X6_computeForecasts : Room := { frames := 39, cells := 0, slots := 0, locals := 1525 }
def j_X6_computeForecasts_10 (K10 : (Int32 × S_X6 × S_X5 × S_X3 × S_X2) → Prop) (x2 : Int32) (u0 : S_X6) (u1 : S_X5) (u2 : S_X3) (u3 : S_X2) (post : (S_X6 × S_X5 × S_X3 × S_X2) → Prop) : Prop := (u3.1.1 ≤ x2 → (post (u0, u1, u2, u3))) ∧ (¬ (u3.1.1 ≤ x2) → (wp_X5_goTo u1 u0.2 (fun u_2 => vp_in x2 40 ∧ (∀ x_5 : Int32, x_5 = (u3.2.1.2.1 x2.toNatClampNeg) → (wp_X3_sum 6 (x2, x_5) u_2 (0 : Int32) (fun r_7 u_6 => ∀ x_8 : Int32, x_8 = ((if (if r_7 < (9999 : Int64) then r_7 else (9999 : Int64)) < (0 : Int64) then (0 : Int64) else (if r_7 < (9999 : Int64) then r_7 else (9999 : Int64))).toInt32) → (vp_in x2 40 ∧ (∀ x_10 : Int32, x_10 = x2 + 1 → (K10 (x_10, u0, u_6.2, u_6.1, (u3.1, (u3.2.1.1, u3.2.1.2.1, (upd u3.2.1.2.2.1 x2.toNatClampNeg x_8), u3.2.1.2.2.2.1, u3.2.1.2.2.2.2.1, u3.2.1.2.2.2.2.2.1, u3.2.1.2.2.2.2.2.2), u3.2.2)))))))))))
def wp_X6_computeForecasts (u0 : S_X6) (u1 : S_X5) (u2 : S_X3) (u3 : S_X2) (post : (S_X6 × S_X5 × S_X3 × S_X2) → Prop) : Prop := ∃ n, zl (fun K st => j_X6_computeForecasts_10 K st.1 st.2.1 st.2.2.1 st.2.2.2.1 st.2.2.2.2 post) n ((0 : Int32), u0, u1, u2, u3)
set_option maxHeartbeats 4000000 in
set_option maxRecDepth 100000 in
theorem t_X6_computeForecasts_10 {p : Program} {l : Launch} {e : Env} {s : State} {m : MethodId} {args : Array Value} {below : List Frame} {meth : Method} {c : Code} {Z : zZ} {E : zE} {A : Nat → Prop} {q0 : Nat → Nat} (hZ0 : zSt Z) {sa : Nat → Nat} (hZs : zSS Z sa) (C0 : zC p s m args meth c yX6_computeForecasts cX6_computeForecasts 5 none) (hA : ∀ q : Nat, s.heap.size ≤ q → A q) (hK : va_K (zD E) vwCl (zT E) s) (hZ : Z A s s.heap) (post : (S_X6 × S_X5 × S_X3 × S_X2) → Prop) : ∀ (n : Nat) (x2 : Int32) (u0 : S_X6) (u1 : S_X5) (u2 : S_X3) (u3 : S_X2) (H : Heap) (locs : List Loc) (ls : Array Slot), zl (fun K st => j_X6_computeForecasts_10 K st.1 st.2.1 st.2.2.1 st.2.2.2.1 st.2.2.2.2 post) n (x2, u0, u1, u2, u3) → va_P (zD E) vwCl (k_X6 E q0 u0 ++ (k_X5 E (fun k => q0 (k + 1)) u1 ++ (k_X3 E (fun k => q0 (k + 3)) u2 ++ (k_X2 E (fun k => q0 (k + 4)) u3)))) H → va_D A (k_X6 E q0 u0 ++ (k_X5 E (fun k => q0 (k + 1)) u1 ++ (k_X3 E (fun k => q0 (k + 3)) u2 ++ (k_X2 E (fun k => q0 (k + 4)) u3)))) → va_S A s.heap H locs → lv_has ls 5 [(0, .ref (q0 0)), (1, .ref (q0 10)), (2, .int x2)] → W p l e r_X6_computeForecasts s m args below meth c H locs 0 0 (MQ below (va_Qv post (zAt E A (fun u => k_X6 E q0 u.1 ++ (k_X5 E (fun k => q0 (k + 1)) u.2.1 ++ (k_X3 E (fun k => q0 (k + 3)) u.2.2.1 ++ (k_X2 E (fun k => q0 (k + 4)) u.2.2.2))))) A) args s 0 0 A) (F0 m 10 ls []) := by
  obtain ⟨hx, hb, hml, hr, hown, hts, hlocks, hin⟩ := id C0
  have hown : s.vm.findClass RX6 = some m.cls := hown
  intro n
  induction n with
  | zero => intro x2 u0 u1 u2 u3 H locs ls hw; exact hw.elim
  | succ n hk_10 =>
    intro x2 u0 u1 u2 u3 H locs ls hw hP hD hS hl
    have hw : j_X6_computeForecasts_10 _ x2 u0 u1 u2 u3 post := hw
    refine lv_iload_n hx hb dX6_computeForecasts_10 rfl (lv_at hl 2 rfl) ?_
    refine lv_aload_n hx hb dX6_computeForecasts_11 rfl (lv_at hl 0 rfl) ?_
    refine va_get (D := zD E) (ci := 6) (v := .ref (q0 4)) (C := RX6) (T := TX6) (N := 5) hx hb hts uw_X6 hown hK hP 0 rfl rfl 2 (by decide) (hts _ wm_2_60) (fun _ h9 => h9) rfl dX6_computeForecasts_12 ?_
    refine va_getN (D := zD E) (ci := 2) (v := .ref (q0 5)) (C := RX2) (T := TX2) (N := 3) hx hb hts uw_X2 hown hK hP 4 rfl rfl 0 (by decide) (hts _ wm_1_200) (fun _ h9 => h9) rfl dX6_computeForecasts_15 ?_
    refine va_getN (D := zD E) (ci := 7) (v := .int u3.1.1) (C := RX7) (T := TX7) (N := 16) hx hb hts uw_X7 hown hK hP 5 rfl rfl 0 (by decide) (hts _ wm_1_46) (fun _ h9 => h9) rfl dX6_computeForecasts_18 ?_
    obtain ⟨hwt, hwf⟩ := hw
    refine lv_icmp_ge (tgt := 93) hx hb dX6_computeForecasts_21 (by decide) (fun c_1 => ?_) (fun c_1 => ?_)
    · have hw := hwt c_1
      exact z_vret (k := (fun u => k_X6 E q0 u.1 ++ (k_X5 E (fun k => q0 (k + 1)) u.2.1 ++ (k_X3 E (fun k => q0 (k + 3)) u.2.2.1 ++ (k_X2 E (fun k => q0 (k + 4)) u.2.2.2))))) (u0, u1, u2, u3) C0 hP hD hS hw dX6_computeForecasts_93
    · have hw := hwf c_1
      refine lv_aload_n hx hb dX6_computeForecasts_24 rfl (lv_at hl 0 rfl) ?_
      refine va_get (D := zD E) (ci := 6) (v := .ref (q0 1)) (C := RX6) (T := TX6) (N := 5) hx hb hts uw_X6 hown hK hP 0 rfl rfl 0 (by decide) (hts _ wm_2_57) (fun _ h9 => h9) rfl dX6_computeForecasts_25 ?_
      refine lv_aload_n hx hb dX6_computeForecasts_28 rfl (lv_at hl 0 rfl) ?_
      refine va_get (D := zD E) (ci := 6) (v := .int u0.2) (C := RX6) (T := TX6) (N := 5) hx hb hts uw_X6 hown hK hP 0 rfl rfl 4 (by decide) (hts _ wm_2_63) (fun _ h9 => h9) rfl dX6_computeForecasts_29 ?_
      refine z_kv (z_rN (rest := []) hZ0 C0 hK hZ hA hP hD hS hl.1 (c_X5_goTo l E Z hZ0 (fun k => q0 (k + 1)) H.size u1 u0.2 _ hw) yv_X6_173 [1, 2] rfl (by decide) (ci := 5) rfl rfl 1 rfl ⟨Nat.le_of_ble_eq_true rfl, Nat.le_of_ble_eq_true rfl⟩ ⟨rfl, rfl⟩ rfl rfl (Nat.le_of_ble_eq_true rfl) ⟨Nat.le_of_ble_eq_true rfl, Nat.le_of_ble_eq_true rfl⟩ dX6_computeForecasts_32) hP hD hS hA [1, 2] [0, 3, 4, 5, 6, 7, 8, 9, 10, 11, 12, 13, 14, 15, 16, 17, 18, 19, 20, 21] [0, 20, 21, 1, 2, 3, 4, 5, 6, 7, 8, 9, 10, 11, 12, 13, 14, 15, 16, 17, 18, 19] rfl (wr := [_, _, _, _, _, _, _, _, _, _, _, _, _, _, _, _, _, _, _, _]) rfl (by decide) (by decide) (fun u => k_X6 E q0 u0 ++ (k_X5 E (fun k => q0 (k + 1)) u ++ (k_X3 E (fun k => q0 (k + 3)) u2 ++ (k_X2 E (fun k => q0 (k + 4)) u3)))) (fun u => rfl) (by decide) (fun u_2 H locs hw hP hD hS => ?_)
      refine lv_aload_n hx hb dX6_computeForecasts_35 rfl (lv_at hl 0 rfl) ?_
      refine va_get (D := zD E) (ci := 6) (v := .ref (q0 3)) (C := RX6) (T := TX6) (N := 5) hx hb hts uw_X6 hown hK hP 0 rfl rfl 1 (by decide) (hts _ wm_2_59) (fun _ h9 => h9) rfl dX6_computeForecasts_36 ?_
      refine lv_iload_n hx hb dX6_computeForecasts_39 rfl (lv_at hl 2 rfl) ?_
      refine va_putN (D := zD E) (ci := 3) (v := .int x2) (ty := .int) (C := RX3) (T := TX3) (N := 2) hx hb hts uw_X3 tyX3 tyX3_ok nmX3 hown hK hP hD hS 3 rfl rfl 0 (by decide) (hts _ wm_2_47) (fun _ h9 => h9) rfl (by decide +kernel) rfl rfl (Nat.le_of_ble_eq_true rfl) dX6_computeForecasts_40 (fun H locs hP hD hS => ?_)
      have hP : va_P (zD E) vwCl (k_X6 E q0 u0 ++ (k_X5 E (fun k => q0 (k + 1)) u_2 ++ (k_X3 E (fun k => q0 (k + 3)) (x2, u2.2) ++ (k_X2 E (fun k => q0 (k + 4)) u3)))) H := hP
      have hD : va_D A (k_X6 E q0 u0 ++ (k_X5 E (fun k => q0 (k + 1)) u_2 ++ (k_X3 E (fun k => q0 (k + 3)) (x2, u2.2) ++ (k_X2 E (fun k => q0 (k + 4)) u3)))) := hD
      refine lv_aload_n hx hb dX6_computeForecasts_43 rfl (lv_at hl 0 rfl) ?_
      refine va_get (D := zD E) (ci := 6) (v := .ref (q0 3)) (C := RX6) (T := TX6) (N := 5) hx hb hts uw_X6 hown hK hP 0 rfl rfl 1 (by decide) (hts _ wm_2_59) (fun _ h9 => h9) rfl dX6_computeForecasts_44 ?_
      refine lv_aload_n hx hb dX6_computeForecasts_47 rfl (lv_at hl 1 rfl) ?_
      refine va_getN (D := zD E) (ci := 0) (v := .ref (q0 11)) (C := RX0) (T := TX0) (N := 7) hx hb hts uw_X0 hown hK hP 10 rfl rfl 1 (by decide) (hts _ wm_1_132) (fun _ h9 => h9) rfl dX6_computeForecasts_48 ?_
      refine lv_iload_n hx hb dX6_computeForecasts_51 rfl (lv_at hl 2 rfl) ?_
      obtain ⟨h_4, hw⟩ := hw
      refine va_iald hx hb hK hP 11 0 rfl rfl h_4 dX6_computeForecasts_52 ?_
      refine lv_topi (fun x_5 ex_5 => ?_)
      have hw := hw x_5 ex_5
      refine va_putN (D := zD E) (ci := 3) (v := .int x_5) (ty := .int) (C := RX3) (T := TX3) (N := 2) hx hb hts uw_X3 tyX3 tyX3_ok nmX3 hown hK hP hD hS 3 rfl rfl 1 (by decide) (hts _ wm_2_49) (fun _ h9 => h9) rfl (by decide +kernel) rfl rfl (Nat.le_of_ble_eq_true rfl) dX6_computeForecasts_53 (fun H locs hP hD hS => ?_)
      have hP : va_P (zD E) vwCl (k_X6 E q0 u0 ++ (k_X5 E (fun k => q0 (k + 1)) u_2 ++ (k_X3 E (fun k => q0 (k + 3)) (x2, x_5) ++ (k_X2 E (fun k => q0 (k + 4)) u3)))) H := hP
      have hD : va_D A (k_X6 E q0 u0 ++ (k_X5 E (fun k => q0 (k + 1)) u_2 ++ (k_X3 E (fun k => q0 (k + 3)) (x2, x_5) ++ (k_X2 E (fun k => q0 (k + 4)) u3)))) := hD
      refine lv_aload_n hx hb dX6_computeForecasts_56 rfl (lv_at hl 0 rfl) ?_
      refine va_get (D := zD E) (ci := 6) (v := .ref (q0 3)) (C := RX6) (T := TX6) (N := 5) hx hb hts uw_X6 hown hK hP 0 rfl rfl 1 (by decide) (hts _ wm_2_59) (fun _ h9 => h9) rfl dX6_computeForecasts_57 ?_
      refine lv_aload_n hx hb dX6_computeForecasts_60 rfl (lv_at hl 0 rfl) ?_
      refine va_get (D := zD E) (ci := 6) (v := .ref (q0 1)) (C := RX6) (T := TX6) (N := 5) hx hb hts uw_X6 hown hK hP 0 rfl rfl 0 (by decide) (hts _ wm_2_57) (fun _ h9 => h9) rfl dX6_computeForecasts_61 ?_
      refine lv_iconst (v := 0) hx hb dX6_computeForecasts_64 rfl ?_
      refine z_kl (z_rN (rest := []) hZ0 C0 hK hZ hA hP hD hS hl.1 (c_X3_sum l E Z hZ0 hZs 6 (fun k => q0 (k + 3)) (fun k => q0 (k + 1)) H.size (x2, x_5) u_2 (0 : Int32) _ hw) yv_X6_148 [3, 1, 2] rfl (by decide) (ci := 3) rfl rfl 3 rfl ⟨Nat.le_of_ble_eq_true rfl, Nat.le_of_ble_eq_true rfl⟩ ⟨rfl, rfl⟩ rfl rfl (Nat.le_of_ble_eq_true rfl) ⟨Nat.le_of_ble_eq_true rfl, Nat.le_of_ble_eq_true rfl⟩ dX6_computeForecasts_65) hP hD hS hA [3, 1, 2] [0, 4, 5, 6, 7, 8, 9, 10, 11, 12, 13, 14, 15, 16, 17, 18, 19, 20, 21] [0, 20, 21, 19, 1, 2, 3, 4, 5, 6, 7, 8, 9, 10, 11, 12, 13, 14, 15, 16, 17, 18] rfl (wr := [_, _, _, _, _, _, _, _, _, _, _, _, _, _, _, _, _, _, _]) rfl (by decide) (by decide) (fun u => k_X6 E q0 u0 ++ (k_X5 E (fun k => q0 (k + 1)) u.2 ++ (k_X3 E (fun k => q0 (k + 3)) u.1 ++ (k_X2 E (fun k => q0 (k + 4)) u3)))) (fun u => rfl) (by decide) (fun r_7 u_6 H locs hw hP hD hS => ?_)
      refine lv_lstore_n (lv' := [(3, .long r_7), (0, .ref (q0 0)), (1, .ref (q0 10)), (2, .int x2)]) hx hb dX6_computeForecasts_68 rfl hl (by decide) rfl (fun ls hl => ?_)
      refine lv_aload_n hx hb dX6_computeForecasts_69 rfl (lv_at hl 2 rfl) ?_
      refine va_getN (D := zD E) (ci := 0) (v := .ref (q0 12)) (C := RX0) (T := TX0) (N := 7) hx hb hts uw_X0 hown hK hP 10 rfl rfl 2 (by decide) (hts _ wm_1_135) (fun _ h9 => h9) rfl dX6_computeForecasts_70 ?_
      refine lv_iload_n hx hb dX6_computeForecasts_73 rfl (lv_at hl 3 rfl) ?_
      refine lv_lconst (v := 0) hx hb dX6_computeForecasts_74 rfl ?_
      refine lv_ldc2 hx hb hown (hts _ wm_4_73) dX6_computeForecasts_75 ?_
      refine lv_lload_n hx hb dX6_computeForecasts_78 rfl (lv_at hl 0 rfl) ?_
      refine va_mmin_long hx hb (hml.trans hl.1.symm) hown (hts _ wm_4_74) (hts _ wm_4_60) (hts _ wm_1_16) (hts _ wm_4_61) (Nat.le_of_ble_eq_true rfl) (Nat.le_of_ble_eq_true rfl) (Nat.le_of_ble_eq_true rfl) (Nat.le_of_ble_eq_true rfl) dX6_computeForecasts_79 ?_
      refine va_mmax_long hx hb (hml.trans hl.1.symm) hown (hts _ wm_4_75) (hts _ wm_4_63) (hts _ wm_1_16) (hts _ wm_4_64) (Nat.le_of_ble_eq_true rfl) (Nat.le_of_ble_eq_true rfl) (Nat.le_of_ble_eq_true rfl) (Nat.le_of_ble_eq_true rfl) dX6_computeForecasts_82 ?_
      refine lv_l2i hx hb dX6_computeForecasts_85 rfl ?_
      refine lv_topi (fun x_8 ex_8 => ?_)
      have hw := hw x_8 ex_8
      obtain ⟨h_9, hw⟩ := hw
      refine va_iast hx hb hK hP hD hS 12 0 rfl rfl h_9 dX6_computeForecasts_86 (fun H locs hP hD hS => ?_)
      have hP : va_P (zD E) vwCl (k_X6 E q0 u0 ++ (k_X5 E (fun k => q0 (k + 1)) u_6.2 ++ (k_X3 E (fun k => q0 (k + 3)) u_6.1 ++ (k_X2 E (fun k => q0 (k + 4)) (u3.1, (u3.2.1.1, u3.2.1.2.1, (upd u3.2.1.2.2.1 x2.toNatClampNeg x_8), u3.2.1.2.2.2.1, u3.2.1.2.2.2.2.1, u3.2.1.2.2.2.2.2.1, u3.2.1.2.2.2.2.2.2), u3.2.2))))) H := hP
      have hD : va_D A (k_X6 E q0 u0 ++ (k_X5 E (fun k => q0 (k + 1)) u_6.2 ++ (k_X3 E (fun k => q0 (k + 3)) u_6.1 ++ (k_X2 E (fun k => q0 (k + 4)) (u3.1, (u3.2.1.1, u3.2.1.2.1, (upd u3.2.1.2.2.1 x2.toNatClampNeg x_8), u3.2.1.2.2.2.1, u3.2.1.2.2.2.2.1, u3.2.1.2.2.2.2.2.1, u3.2.1.2.2.2.2.2.2), u3.2.2))))) := hD
      obtain ⟨x_10, ex_10⟩ : ∃ y : Int32, y = x2 + 1 := ⟨_, rfl⟩
      have hw := hw x_10 ex_10
      refine lv_iinc (v := x_10) (lv' := [(2, .int x_10), (3, .long r_7), (0, .ref (q0 0)), (1, .ref (q0 10))]) hx hb dX6_computeForecasts_87 hl (k := 3) rfl (by rw [ex_10]; rfl) (by decide) rfl (fun ls hl => ?_)
      refine lv_goto (tgt := 10) hx hb dX6_computeForecasts_90 (by decide) ?_
      exact hk_10 x_10 u0 u_6.2 u_6.1 (u3.1, (u3.2.1.1, u3.2.1.2.1, (upd u3.2.1.2.2.1 x2.toNatClampNeg x_8), u3.2.1.2.2.2.1, u3.2.1.2.2.2.2.1, u3.2.1.2.2.2.2.2.1, u3.2.1.2.2.2.2.2.2), u3.2.2) _ _ _ hw hP hD hS (lv_sub hl [2, 3, 0] rfl)
set_option maxHeartbeats 4000000 in
set_option maxRecDepth 100000 in
theorem c_X6_computeForecasts (l : Launch) (E : zE) (Z : zZ) (hZ0 : zSt Z) {sa : Nat → Nat} (hZs : zSS Z sa) (q0 : Nat → Nat) (sz : Nat) (u0 : S_X6) (u1 : S_X5) (u2 : S_X3) (u3 : S_X2) (post : (S_X6 × S_X5 × S_X3 × S_X2) → Prop) (hw : wp_X6_computeForecasts u0 u1 u2 u3 post) : Met l yX6_computeForecasts (zws yX6_computeForecasts cX6_computeForecasts 5 none) r_X6_computeForecasts (va_Pc [.ref (q0 0)] (zPre Z E (k_X6 E q0 u0 ++ (k_X5 E (fun k => q0 (k + 1)) u1 ++ (k_X3 E (fun k => q0 (k + 3)) u2 ++ (k_X2 E (fun k => q0 (k + 4)) u3)))) sz)) (va_Qv post (zAt E (va_A (k_X6 E q0 u0 ++ (k_X5 E (fun k => q0 (k + 1)) u1 ++ (k_X3 E (fun k => q0 (k + 3)) u2 ++ (k_X2 E (fun k => q0 (k + 4)) u3)))) sz) (fun u => k_X6 E q0 u.1 ++ (k_X5 E (fun k => q0 (k + 1)) u.2.1 ++ (k_X3 E (fun k => q0 (k + 3)) u.2.2.1 ++ (k_X2 E (fun k => q0 (k + 4)) u.2.2.2))))) (va_A (k_X6 E q0 u0 ++ (k_X5 E (fun k => q0 (k + 1)) u1 ++ (k_X3 E (fun k => q0 (k + 3)) u2 ++ (k_X2 E (fun k => q0 (k + 4)) u3)))) sz)) 0 0 (va_A (k_X6 E q0 u0 ++ (k_X5 E (fun k => q0 (k + 1)) u1 ++ (k_X3 E (fun k => q0 (k + 3)) u2 ++ (k_X2 E (fun k => q0 (k + 4)) u3)))) sz) := by
  refine z_ofW (Qf := fun A => va_Qv post (zAt E A (fun u => k_X6 E q0 u.1 ++ (k_X5 E (fun k => q0 (k + 1)) u.2.1 ++ (k_X3 E (fun k => q0 (k + 3)) u.2.2.1 ++ (k_X2 E (fun k => q0 (k + 4)) u.2.2.2))))) A) (by decide) (Nat.le_of_ble_eq_true rfl) ?_
  intro p e s m args below meth c A ls C0 hA hK hZ hP hD hS hl
  obtain ⟨hx, hb, hml, hr, hown, hts, hlocks, hin⟩ := id C0
  have hown : s.vm.findClass RX6 = some m.cls := hown
  have hl : lv_has ls 5 [(0, .ref (q0 0))] := hl
  refine lv_aload_n hx hb dX6_computeForecasts_0 rfl (lv_at hl 0 rfl) ?_
  refine va_get (D := zD E) (ci := 6) (v := .ref (q0 4)) (C := RX6) (T := TX6) (N := 5) hx hb hts uw_X6 hown hK hP 0 rfl rfl 2 (by decide) (hts _ wm_2_60) (fun _ h9 => h9) rfl dX6_computeForecasts_1 ?_
  refine va_getN (D := zD E) (ci := 2) (v := .ref (q0 10)) (C := RX2) (T := TX2) (N := 3) hx hb hts uw_X2 hown hK hP 4 rfl rfl 1 (by decide) (hts _ wm_1_203) (fun _ h9 => h9) rfl dX6_computeForecasts_4 ?_
  refine lv_astore_n (lv' := [(1, .ref (q0 10)), (0, .ref (q0 0))]) hx hb dX6_computeForecasts_7 rfl hl (by decide) rfl (fun ls hl => ?_)
  refine lv_iconst (v := 0) hx hb dX6_computeForecasts_8 rfl ?_
  refine lv_istore_n (lv' := [(2, .int (0 : Int32)), (1, .ref (q0 10)), (0, .ref (q0 0))]) hx hb dX6_computeForecasts_9 rfl hl (by decide) rfl (fun ls hl => ?_)
  obtain ⟨n9, hw⟩ := hw
  exact t_X6_computeForecasts_10 (l := l) hZ0 hZs C0 hA hK hZ post n9 (0 : Int32) u0 u1 u2 u3 _ _ _ hw hP hD hS (lv_sub hl [2, 1, 0] rfl)
