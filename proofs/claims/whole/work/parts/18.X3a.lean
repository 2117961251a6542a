abbrev r_X3_sum (n : Nat) : Room := { frames := 3 * n + 20, cells := 0, slots := 0, locals := 150 * n + 600 }
abbrev r_X3_factor (n : Nat) : Room := { frames := 3 * n + 21, cells := 0, slots := 0, locals := 150 * n + 650 }
abbrev r_X3_term (n : Nat) : Room := { frames := 3 * n + 22, cells := 0, slots := 0, locals := 150 * n + 700 }
theorem rk_X3_factor_X3_sum (n_ : Nat) : (r_X3_sum n_).frames + 1 ≤ (r_X3_factor n_).frames ∧ 8 + (6 + 11) + (r_X3_sum n_).locals ≤ (r_X3_factor n_).locals := ⟨by show _ ≤ _; dsimp only [r_X3_factor, r_X3_term, r_X3_sum]; omega, by show _ ≤ _; dsimp only [r_X3_factor, r_X3_term, r_X3_sum]; omega⟩
def j_X3_factor_26 (REC : S_X3 → S_X5 → Int32 → (Int64 → (S_X3 × S_X5) → Prop) → Prop) (x2 : Int32) (u0 : S_X3) (u1 : S_X5) (post : Int64 → (S_X3 × S_X5) → Prop) : Prop := wp_X5_takeSign u1 (40 : Int32) (fun r_6 u_5 => (r_6 = 0 → (wp_X5_takeWord (zsb 12) u_5 (fun r_9 u_8 => (r_9 = 0 → (wp_X5_takeWord (zsb 13) u_8 (fun r_12 u_11 => (r_12 = 0 → (wp_X5_takeWord (zsb 14) u_11 (fun r_15 u_14 => (r_15 = 0 → (wp_X5_number u_14 (0 : Int32) (9999 : Int32) (fun r_18 u_17 => post r_18.toInt64 (u0, u_17)))) ∧ (¬ (r_15 = 0) → (post u0.2.toInt64 (u0, u_14)))))) ∧ (¬ (r_12 = 0) → (post ((u0.1 - u0.1 / (4 : Int32) * (4 : Int32)).toInt64) (u0, u_11)))))) ∧ (¬ (r_9 = 0) → (post u0.1.toInt64 (u0, u_8)))))) ∧ (¬ (r_6 = 0) → (REC u0 u_5 (x2 + (1 : Int32)) (fun r_20 u_19 => wp_X5_sign u_19.2 (41 : Int32) (fun u_21 => post r_20 (u_19.1, u_21))))))
def wp_X3_factor (REC : S_X3 → S_X5 → Int32 → (Int64 → (S_X3 × S_X5) → Prop) → Prop) (u0 : S_X3) (u1 : S_X5) (p2 : Int32) (post : Int64 → (S_X3 × S_X5) → Prop) : Prop := (¬ (u1.2.2.2.2.1 = (40 : Int32)) → (j_X3_factor_26 REC p2 u0 u1 post)) ∧ (u1.2.2.2.2.1 = (40 : Int32) → ((p2 < (4 : Int32) → (j_X3_factor_26 REC p2 u0 u1 post)) ∧ (¬ (p2 < (4 : Int32)) → (wp_X5_fail u1 (-5 : Int32) u1.2.2.2.2.2.1 (fun u_3 => post (0 : Int64) (u0, u_3))))))
set_option maxHeartbeats 4000000 in
set_option maxRecDepth 100000 in
theorem t_X3_factor_26 {p : Program} {l : Launch} {e : Env} {s : State} {m : MethodId} {args : Array Value} {below : List Frame} {meth : Method} {c : Code} {Z : zZ} {E : zE} {A : Nat → Prop} {q0 : Nat → Nat} {q1 : Nat → Nat} (hZ0 : zSt Z) {sa : Nat → Nat} (hZs : zSS Z sa) (n_ : Nat) (REC : S_X3 → S_X5 → Int32 → (Int64 → (S_X3 × S_X5) → Prop) → Prop) (hREC : ∀ (q0 : Nat → Nat) (q1 : Nat → Nat) (sz : Nat) (u0 : S_X3) (u1 : S_X5) (p2 : Int32) (post : Int64 → (S_X3 × S_X5) → Prop), REC u0 u1 p2 post → Met l yX3_sum (zws yX3_sum cX3_sum 6 (some .long)) (r_X3_sum n_) (va_Pc [.ref (q0 0), .ref (q1 0), .int p2] (zPre Z E (k_X3 E q0 u0 ++ (k_X5 E q1 u1)) sz)) (va_Ql post (zAt E (va_A (k_X3 E q0 u0 ++ (k_X5 E q1 u1)) sz) (fun u => k_X3 E q0 u.1 ++ (k_X5 E q1 u.2))) (va_A (k_X3 E q0 u0 ++ (k_X5 E q1 u1)) sz)) 0 0 (va_A (k_X3 E q0 u0 ++ (k_X5 E q1 u1)) sz)) (C0 : zC p s m args meth c yX3_factor cX3_factor 5 (some .long)) (hA : ∀ q : Nat, s.heap.size ≤ q → A q) (hK : va_K (zD E) vwCl (zT E) s) (hZ : Z A s s.heap) (post : Int64 → (S_X3 × S_X5) → Prop) : ∀ (x2 : Int32) (u0 : S_X3) (u1 : S_X5) (H : Heap) (locs : List Loc) (ls : Array Slot), j_X3_factor_26 REC x2 u0 u1 post → va_P (zD E) vwCl (k_X3 E q0 u0 ++ (k_X5 E q1 u1)) H → va_D A (k_X3 E q0 u0 ++ (k_X5 E q1 u1)) → va_S A s.heap H locs → lv_has ls 5 [(0, .ref (q0 0)), (1, .ref (q1 0)), (2, .int x2)] → W p l e (r_X3_factor n_) s m args below meth c H locs 0 0 (MQ below (va_Ql post (zAt E A (fun u => k_X3 E q0 u.1 ++ (k_X5 E q1 u.2))) A) args s 0 0 A) (F0 m 26 ls []) := by
  obtain ⟨hx, hb, hml, hr, hown, hts, hlocks, hin⟩ := id C0
  have hown : s.vm.findClass RX3 = some m.cls := hown
  intro x2 u0 u1 H locs ls hw hP hD hS hl
  refine lv_aload_n hx hb dX3_factor_26 rfl (lv_at hl 1 rfl) ?_
  refine lv_bipush (v := 40) hx hb dX3_factor_27 rfl ?_
  refine z_ki (z_rN (rest := []) hZ0 C0 hK hZ hA hP hD hS hl.1 (c_X5_takeSign l E Z hZ0 q1 H.size u1 (40 : Int32) _ hw) yv_X3_22 [1, 2] rfl (by decide) (ci := 5) rfl rfl 1 rfl ⟨(Nat.le_trans (m := 21) (Nat.le_of_ble_eq_true rfl) (Nat.le_add_left 21 _)), (Nat.le_trans (m := 650) (Nat.le_of_ble_eq_true rfl) (Nat.le_add_left 650 _))⟩ ⟨rfl, rfl⟩ rfl rfl (Nat.le_of_ble_eq_true rfl) ⟨Nat.le_of_ble_eq_true rfl, Nat.le_of_ble_eq_true rfl⟩ dX3_factor_29) hP hD hS hA [1, 2] [0] [0, 1, 2] rfl (wr := [_]) rfl (by decide) (by decide) (fun u => k_X3 E q0 u0 ++ (k_X5 E q1 u)) (fun u => rfl) (by decide) (fun r_6 u_5 H locs hw hP hD hS => ?_)
  obtain ⟨hwt, hwf⟩ := hw
  refine lv_if_eq (tgt := 52) hx hb dX3_factor_32 (by decide) (fun c_7 => ?_) (fun c_7 => ?_)
  · have hw := hwt c_7
    refine lv_aload_n hx hb dX3_factor_52 rfl (lv_at hl 1 rfl) ?_
    refine va_ldcS hx hb hown (zsk_12 hZs hZ) dX3_factor_53 ?_
    refine z_ki (z_rN (rest := []) hZ0 C0 hK hZ hA hP hD hS hl.1 (c_X5_takeWord l E Z hZ0 (sa 12) (zsb 12) zsb_12 (zsh_12 hZs) q1 H.size u_5 _ hw) yv_X3_57 [1, 2] rfl (by decide) (ci := 5) rfl rfl 1 rfl ⟨(Nat.le_trans (m := 21) (Nat.le_of_ble_eq_true rfl) (Nat.le_add_left 21 _)), (Nat.le_trans (m := 650) (Nat.le_of_ble_eq_true rfl) (Nat.le_add_left 650 _))⟩ ⟨rfl, rfl⟩ rfl rfl (Nat.le_of_ble_eq_true rfl) ⟨Nat.le_of_ble_eq_true rfl, Nat.le_of_ble_eq_true rfl⟩ dX3_factor_55) hP hD hS hA [1, 2] [0] [0, 1, 2] rfl (wr := [_]) rfl (by decide) (by decide) (fun u => k_X3 E q0 u0 ++ (k_X5 E q1 u)) (fun u => rfl) (by decide) (fun r_9 u_8 H locs hw hP hD hS => ?_)
    obtain ⟨hwt, hwf⟩ := hw
    refine lv_if_eq (tgt := 67) hx hb dX3_factor_58 (by decide) (fun c_10 => ?_) (fun c_10 => ?_)
    · have hw := hwt c_10
      refine lv_aload_n hx hb dX3_factor_67 rfl (lv_at hl 1 rfl) ?_
      refine va_ldcS hx hb hown (zsk_13 hZs hZ) dX3_factor_68 ?_
      refine z_ki (z_rN (rest := []) hZ0 C0 hK hZ hA hP hD hS hl.1 (c_X5_takeWord l E Z hZ0 (sa 13) (zsb 13) zsb_13 (zsh_13 hZs) q1 H.size u_8 _ hw) yv_X3_57 [1, 2] rfl (by decide) (ci := 5) rfl rfl 1 rfl ⟨(Nat.le_trans (m := 21) (Nat.le_of_ble_eq_true rfl) (Nat.le_add_left 21 _)), (Nat.le_trans (m := 650) (Nat.le_of_ble_eq_true rfl) (Nat.le_add_left 650 _))⟩ ⟨rfl, rfl⟩ rfl rfl (Nat.le_of_ble_eq_true rfl) ⟨Nat.le_of_ble_eq_true rfl, Nat.le_of_ble_eq_true rfl⟩ dX3_factor_70) hP hD hS hA [1, 2] [0] [0, 1, 2] rfl (wr := [_]) rfl (by decide) (by decide) (fun u => k_X3 E q0 u0 ++ (k_X5 E q1 u)) (fun u => rfl) (by decide) (fun r_12 u_11 H locs hw hP hD hS => ?_)
      obtain ⟨hwt, hwf⟩ := hw
      refine lv_if_eq (tgt := 84) hx hb dX3_factor_73 (by decide) (fun c_13 => ?_) (fun c_13 => ?_)
      · have hw := hwt c_13
        refine lv_aload_n hx hb dX3_factor_84 rfl (lv_at hl 1 rfl) ?_
        refine va_ldcS hx hb hown (zsk_14 hZs hZ) dX3_factor_85 ?_
        refine z_ki (z_rN (rest := []) hZ0 C0 hK hZ hA hP hD hS hl.1 (c_X5_takeWord l E Z hZ0 (sa 14) (zsb 14) zsb_14 (zsh_14 hZs) q1 H.size u_11 _ hw) yv_X3_57 [1, 2] rfl (by decide) (ci := 5) rfl rfl 1 rfl ⟨(Nat.le_trans (m := 21) (Nat.le_of_ble_eq_true rfl) (Nat.le_add_left 21 _)), (Nat.le_trans (m := 650) (Nat.le_of_ble_eq_true rfl) (Nat.le_add_left 650 _))⟩ ⟨rfl, rfl⟩ rfl rfl (Nat.le_of_ble_eq_true rfl) ⟨Nat.le_of_ble_eq_true rfl, Nat.le_of_ble_eq_true rfl⟩ dX3_factor_87) hP hD hS hA [1, 2] [0] [0, 1, 2] rfl (wr := [_]) rfl (by decide) (by decide) (fun u => k_X3 E q0 u0 ++ (k_X5 E q1 u)) (fun u => rfl) (by decide) (fun r_15 u_14 H locs hw hP hD hS => ?_)
        obtain ⟨hwt, hwf⟩ := hw
        refine lv_if_eq (tgt := 99) hx hb dX3_factor_90 (by decide) (fun c_16 => ?_) (fun c_16 => ?_)
        · have hw := hwt c_16
          refine lv_aload_n hx hb dX3_factor_99 rfl (lv_at hl 1 rfl) ?_
          refine lv_iconst (v := 0) hx hb dX3_factor_100 rfl ?_
          refine lv_sipush (v := 9999) hx hb dX3_factor_101 rfl ?_
          refine z_ki (z_rN (rest := []) hZ0 C0 hK hZ hA hP hD hS hl.1 (c_X5_number l E Z hZ0 q1 H.size u_14 (0 : Int32) (9999 : Int32) _ hw) yv_X3_64 [1, 2] rfl (by decide) (ci := 5) rfl rfl 1 rfl ⟨(Nat.le_trans (m := 21) (Nat.le_of_ble_eq_true rfl) (Nat.le_add_left 21 _)), (Nat.le_trans (m := 650) (Nat.le_of_ble_eq_true rfl) (Nat.le_add_left 650 _))⟩ ⟨rfl, rfl⟩ rfl rfl (Nat.le_of_ble_eq_true rfl) ⟨Nat.le_of_ble_eq_true rfl, Nat.le_of_ble_eq_true rfl⟩ dX3_factor_104) hP hD hS hA [1, 2] [0] [0, 1, 2] rfl (wr := [_]) rfl (by decide) (by decide) (fun u => k_X3 E q0 u0 ++ (k_X5 E q1 u)) (fun u => rfl) (by decide) (fun r_18 u_17 H locs hw hP hD hS => ?_)
          refine lv_i2l hx hb dX3_factor_107 rfl ?_
          exact z_lret (k := (fun u => k_X3 E q0 u.1 ++ (k_X5 E q1 u.2))) (u0, u_17) C0 hP hD hS hw dX3_factor_108
        · have hw := hwf c_16
          refine lv_aload_n hx hb dX3_factor_93 rfl (lv_at hl 0 rfl) ?_
          refine va_get (D := zD E) (ci := 3) (v := .int u0.2) (C := RX3) (T := TX3) (N := 2) hx hb hts uw_X3 hown hK hP 0 rfl rfl 1 (by decide) (hts _ wm_2_48) (fun _ h9 => h9) rfl dX3_factor_94 ?_
          refine lv_i2l hx hb dX3_factor_97 rfl ?_
          exact z_lret (k := (fun u => k_X3 E q0 u.1 ++ (k_X5 E q1 u.2))) (u0, u_14) C0 hP hD hS hw dX3_factor_98
      · have hw := hwf c_13
        refine lv_aload_n hx hb dX3_factor_76 rfl (lv_at hl 0 rfl) ?_
        refine va_get (D := zD E) (ci := 3) (v := .int u0.1) (C := RX3) (T := TX3) (N := 2) hx hb hts uw_X3 hown hK hP 0 rfl rfl 0 (by decide) (hts _ wm_2_46) (fun _ h9 => h9) rfl dX3_factor_77 ?_
        refine lv_iconst (v := 4) hx hb dX3_factor_80 rfl ?_
        refine lv_irem hx hb dX3_factor_81 (by decide) ?_
        refine lv_i2l hx hb dX3_factor_82 rfl ?_
        exact z_lret (k := (fun u => k_X3 E q0 u.1 ++ (k_X5 E q1 u.2))) (u0, u_11) C0 hP hD hS hw dX3_factor_83
    · have hw := hwf c_10
      refine lv_aload_n hx hb dX3_factor_61 rfl (lv_at hl 0 rfl) ?_
      refine va_get (D := zD E) (ci := 3) (v := .int u0.1) (C := RX3) (T := TX3) (N := 2) hx hb hts uw_X3 hown hK hP 0 rfl rfl 0 (by decide) (hts _ wm_2_46) (fun _ h9 => h9) rfl dX3_factor_62 ?_
      refine lv_i2l hx hb dX3_factor_65 rfl ?_
      exact z_lret (k := (fun u => k_X3 E q0 u.1 ++ (k_X5 E q1 u.2))) (u0, u_8) C0 hP hD hS hw dX3_factor_66
  · have hw := hwf c_7
    refine lv_aload_n hx hb dX3_factor_35 rfl (lv_at hl 0 rfl) ?_
    refine lv_aload_n hx hb dX3_factor_36 rfl (lv_at hl 1 rfl) ?_
    refine lv_iload_n hx hb dX3_factor_37 rfl (lv_at hl 2 rfl) ?_
    refine lv_iconst (v := 1) hx hb dX3_factor_38 rfl ?_
    refine lv_iadd hx hb dX3_factor_39 ?_
    refine z_kl (z_rV (rest := []) hZ0 C0 hK hZ hA hP hD hS hl.1 (hREC q0 q1 H.size u0 u_5 (x2 + (1 : Int32)) _ hw) yv_X3_49 [0, 1, 2] rfl (by decide) (ci := 3) rfl rfl 0 rfl (rk_X3_factor_X3_sum n_) ⟨rfl, rfl⟩ rfl rfl (Nat.le_of_ble_eq_true rfl) ⟨Nat.le_of_ble_eq_true rfl, Nat.le_of_ble_eq_true rfl⟩ dX3_factor_40) hP hD hS hA [0, 1, 2] [] [0, 1, 2] rfl (wr := []) rfl (by decide) (by decide) (fun u => k_X3 E q0 u.1 ++ (k_X5 E q1 u.2)) (fun u => rfl) (by decide) (fun r_20 u_19 H locs hw hP hD hS => ?_)
    refine lv_lstore_n (lv' := [(3, .long r_20), (0, .ref (q0 0)), (1, .ref (q1 0)), (2, .int x2)]) hx hb dX3_factor_43 rfl hl (by decide) rfl (fun ls hl => ?_)
    refine lv_aload_n hx hb dX3_factor_44 rfl (lv_at hl 2 rfl) ?_
    refine lv_bipush (v := 41) hx hb dX3_factor_45 rfl ?_
    refine z_kv (z_rN (rest := []) hZ0 C0 hK hZ hA hP hD hS hl.1 (c_X5_sign l E Z hZ0 q1 H.size u_19.2 (41 : Int32) _ hw) yv_X3_52 [1, 2] rfl (by decide) (ci := 5) rfl rfl 1 rfl ⟨(Nat.le_trans (m := 21) (Nat.le_of_ble_eq_true rfl) (Nat.le_add_left 21 _)), (Nat.le_trans (m := 650) (Nat.le_of_ble_eq_true rfl) (Nat.le_add_left 650 _))⟩ ⟨rfl, rfl⟩ rfl rfl (Nat.le_of_ble_eq_true rfl) ⟨Nat.le_of_ble_eq_true rfl, Nat.le_of_ble_eq_true rfl⟩ dX3_factor_47) hP hD hS hA [1, 2] [0] [0, 1, 2] rfl (wr := [_]) rfl (by decide) (by decide) (fun u => k_X3 E q0 u_19.1 ++ (k_X5 E q1 u)) (fun u => rfl) (by decide) (fun u_21 H locs hw hP hD hS => ?_)
    refine lv_lload_n hx hb dX3_factor_50 rfl (lv_at hl 0 rfl) ?_
    exact z_lret (k := (fun u => k_X3 E q0 u.1 ++ (k_X5 E q1 u.2))) (u_19.1, u_21) C0 hP hD hS hw dX3_factor_51
set_option maxHeartbeats 4000000 in
set_option maxRecDepth 100000 in
theorem c_X3_factor (l : Launch) (E : zE) (Z : zZ) (hZ0 : zSt Z) {sa : Nat → Nat} (hZs : zSS Z sa) (n_ : Nat) (REC : S_X3 → S_X5 → Int32 → (Int64 → (S_X3 × S_X5) → Prop) → Prop) (hREC : ∀ (q0 : Nat → Nat) (q1 : Nat → Nat) (sz : Nat) (u0 : S_X3) (u1 : S_X5) (p2 : Int32) (post : Int64 → (S_X3 × S_X5) → Prop), REC u0 u1 p2 post → Met l yX3_sum (zws yX3_sum cX3_sum 6 (some .long)) (r_X3_sum n_) (va_Pc [.ref (q0 0), .ref (q1 0), .int p2] (zPre Z E (k_X3 E q0 u0 ++ (k_X5 E q1 u1)) sz)) (va_Ql post (zAt E (va_A (k_X3 E q0 u0 ++ (k_X5 E q1 u1)) sz) (fun u => k_X3 E q0 u.1 ++ (k_X5 E q1 u.2))) (va_A (k_X3 E q0 u0 ++ (k_X5 E q1 u1)) sz)) 0 0 (va_A (k_X3 E q0 u0 ++ (k_X5 E q1 u1)) sz)) (q0 : Nat → Nat) (q1 : Nat → Nat) (sz : Nat) (u0 : S_X3) (u1 : S_X5) (p2 : Int32) (post : Int64 → (S_X3 × S_X5) → Prop) (hw : wp_X3_factor REC u0 u1 p2 post) : Met l yX3_factor (zws yX3_factor cX3_factor 5 (some .long)) (r_X3_factor n_) (va_Pc [.ref (q0 0), .ref (q1 0), .int p2] (zPre Z E (k_X3 E q0 u0 ++ (k_X5 E q1 u1)) sz)) (va_Ql post (zAt E (va_A (k_X3 E q0 u0 ++ (k_X5 E q1 u1)) sz) (fun u => k_X3 E q0 u.1 ++ (k_X5 E q1 u.2))) (va_A (k_X3 E q0 u0 ++ (k_X5 E q1 u1)) sz)) 0 0 (va_A (k_X3 E q0 u0 ++ (k_X5 E q1 u1)) sz) := by
  refine z_ofW (Qf := fun A => va_Ql post (zAt E A (fun u => k_X3 E q0 u.1 ++ (k_X5 E q1 u.2))) A) (by decide) (Nat.le_of_ble_eq_true rfl) ?_
  intro p e s m args below meth c A ls C0 hA hK hZ hP hD hS hl
  obtain ⟨hx, hb, hml, hr, hown, hts, hlocks, hin⟩ := id C0
  have hown : s.vm.findClass RX3 = some m.cls := hown
  have hl : lv_has ls 5 [(0, .ref (q0 0)), (1, .ref (q1 0)), (2, .int p2)] := hl
  refine lv_aload_n hx hb dX3_factor_0 rfl (lv_at hl 1 rfl) ?_
  refine va_getN (D := zD E) (ci := 5) (v := .int u1.2.2.2.2.1) (C := RX5) (T := TX5) (N := 9) hx hb hts uw_X5 hown hK hP 1 rfl rfl 4 (by decide) (hts _ wm_2_11) (fun _ h9 => h9) rfl dX3_factor_1 ?_
  refine lv_bipush (v := 40) hx hb dX3_factor_4 rfl ?_
  obtain ⟨hwt, hwf⟩ := hw
  refine lv_icmp_ne (tgt := 26) hx hb dX3_factor_6 (by decide) (fun c_1 => ?_) (fun c_1 => ?_)
  · have hw := hwt c_1
    exact t_X3_factor_26 (l := l) hZ0 hZs n_ REC hREC C0 hA hK hZ post p2 u0 u1 _ _ _ hw hP hD hS (lv_sub hl [0, 1, 2] rfl)
  · have hw := hwf c_1
    refine lv_iload_n hx hb dX3_factor_9 rfl (lv_at hl 2 rfl) ?_
    refine lv_iconst (v := 4) hx hb dX3_factor_10 rfl ?_
    obtain ⟨hwt, hwf⟩ := hw
    refine lv_icmp_lt (tgt := 26) hx hb dX3_factor_11 (by decide) (fun c_2 => ?_) (fun c_2 => ?_)
    · have hw := hwt c_2
      exact t_X3_factor_26 (l := l) hZ0 hZs n_ REC hREC C0 hA hK hZ post p2 u0 u1 _ _ _ hw hP hD hS (lv_sub hl [0, 1, 2] rfl)
    · have hw := hwf c_2
      refine lv_aload_n hx hb dX3_factor_14 rfl (lv_at hl 1 rfl) ?_
      refine lv_bipush (v := (-5)) hx hb dX3_factor_15 rfl ?_
      refine lv_aload_n hx hb dX3_factor_17 rfl (lv_at hl 1 rfl) ?_
      refine va_getN (D := zD E) (ci := 5) (v := .int u1.2.2.2.2.2.1) (C := RX5) (T := TX5) (N := 9) hx hb hts uw_X5 hown hK hP 1 rfl rfl 5 (by decide) (hts _ wm_2_14) (fun _ h9 => h9) rfl dX3_factor_18 ?_
      refine z_kv (z_rN (rest := []) hZ0 C0 hK hZ hA hP hD hS hl.1 (c_X5_fail l E Z hZ0 q1 s.heap.size u1 (-5 : Int32) u1.2.2.2.2.2.1 _ hw) yv_X3_45 [1, 2] rfl (by decide) (ci := 5) rfl rfl 1 rfl ⟨(Nat.le_trans (m := 21) (Nat.le_of_ble_eq_true rfl) (Nat.le_add_left 21 _)), (Nat.le_trans (m := 650) (Nat.le_of_ble_eq_true rfl) (Nat.le_add_left 650 _))⟩ ⟨rfl, rfl⟩ rfl rfl (Nat.le_of_ble_eq_true rfl) ⟨Nat.le_of_ble_eq_true rfl, Nat.le_of_ble_eq_true rfl⟩ dX3_factor_21) hP hD hS hA [1, 2] [0] [0, 1, 2] rfl (wr := [_]) rfl (by decide) (by decide) (fun u => k_X3 E q0 u0 ++ (k_X5 E q1 u)) (fun u => rfl) (by decide) (fun u_3 H locs hw hP hD hS => ?_)
      refine lv_lconst (v := 0) hx hb dX3_factor_24 rfl ?_
      exact z_lret (k := (fun u => k_X3 E q0 u.1 ++ (k_X5 E q1 u.2))) (u0, u_3) C0 hP hD hS hw dX3_factor_25
