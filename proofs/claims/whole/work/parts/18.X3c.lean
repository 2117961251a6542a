theorem rk_X3_sum_X3_term (n_ : Nat) : (r_X3_term n_).frames + 1 ≤ (r_X3_sum (n_ + 1)).frames ∧ 8 + (6 + 11) + (r_X3_term n_).locals ≤ (r_X3_sum (n_ + 1)).locals := ⟨by show _ ≤ _; dsimp only [r_X3_factor, r_X3_term, r_X3_sum]; omega, by show _ ≤ _; dsimp only [r_X3_factor, r_X3_term, r_X3_sum]; omega⟩
def j_X3_sum_63 (K10 : (Int32 × Int64 × Int32 × S_X3 × S_X5) → Prop) (REC : S_X3 → S_X5 → Int32 → (Int64 → (S_X3 × S_X5) → Prop) → Prop) (x2 : Int32) (x3 : Int64) (x5 : Int32) (u0 : S_X3) (u1 : S_X5) (post : Int64 → (S_X3 × S_X5) → Prop) : Prop := ∀ x_18 : Int32, x_18 = x5 + 1 → (K10 (x2, x3, x_18, u0, u1))
def j_X3_sum_10 (K10 : (Int32 × Int64 × Int32 × S_X3 × S_X5) → Prop) (REC : S_X3 → S_X5 → Int32 → (Int64 → (S_X3 × S_X5) → Prop) → Prop) (x2 : Int32) (x3 : Int64) (x5 : Int32) (u0 : S_X3) (u1 : S_X5) (post : Int64 → (S_X3 × S_X5) → Prop) : Prop := ((800 : Int32) ≤ x5 → (post x3 (u0, u1))) ∧ (¬ ((800 : Int32) ≤ x5) → (wp_X5_takeSign u1 (43 : Int32) (fun r_5 u_4 => (r_5 = 0 → (wp_X5_takeSign u_4 (45 : Int32) (fun r_8 u_7 => (r_8 = 0 → (post x3 (u0, u_7))) ∧ (¬ (r_8 = 0) → (wp_X3_term REC u0 u_7 x2 (fun r_11 u_10 => wp_X3_limited (x3 - r_11) (fun r_13 u_12 => j_X3_sum_63 K10 REC x2 r_13 x5 u_10.1 u_10.2 post))))))) ∧ (¬ (r_5 = 0) → (wp_X3_term REC u0 u_4 x2 (fun r_15 u_14 => wp_X3_limited (x3 + r_15) (fun r_17 u_16 => j_X3_sum_63 K10 REC x2 r_17 x5 u_14.1 u_14.2 post)))))))
def wp_X3_sumB (REC : S_X3 → S_X5 → Int32 → (Int64 → (S_X3 × S_X5) → Prop) → Prop) (u0 : S_X3) (u1 : S_X5) (p2 : Int32) (post : Int64 → (S_X3 × S_X5) → Prop) : Prop := wp_X3_term REC u0 u1 p2 (fun r_2 u_1 => ∃ n, zl (fun K st => j_X3_sum_10 K REC st.1 st.2.1 st.2.2.1 st.2.2.2.1 st.2.2.2.2 post) n (p2, r_2, (0 : Int32), u_1.1, u_1.2))
set_option maxHeartbeats 4000000 in
set_option maxRecDepth 100000 in
theorem t_X3_sum_63 {p : Program} {l : Launch} {e : Env} {s : State} {m : MethodId} {args : Array Value} {below : List Frame} {meth : Method} {c : Code} {Z : zZ} {E : zE} {A : Nat → Prop} {q0 : Nat → Nat} {q1 : Nat → Nat} (hZ0 : zSt Z) {sa : Nat → Nat} (hZs : zSS Z sa) (n_ : Nat) (REC : S_X3 → S_X5 → Int32 → (Int64 → (S_X3 × S_X5) → Prop) → Prop) (hREC : ∀ (q0 : Nat → Nat) (q1 : Nat → Nat) (sz : Nat) (u0 : S_X3) (u1 : S_X5) (p2 : Int32) (post : Int64 → (S_X3 × S_X5) → Prop), REC u0 u1 p2 post → Met l yX3_sum (zws yX3_sum cX3_sum 6 (some .long)) (r_X3_sum n_) (va_Pc [.ref (q0 0), .ref (q1 0), .int p2] (zPre Z E (k_X3 E q0 u0 ++ (k_X5 E q1 u1)) sz)) (va_Ql post (zAt E (va_A (k_X3 E q0 u0 ++ (k_X5 E q1 u1)) sz) (fun u => k_X3 E q0 u.1 ++ (k_X5 E q1 u.2))) (va_A (k_X3 E q0 u0 ++ (k_X5 E q1 u1)) sz)) 0 0 (va_A (k_X3 E q0 u0 ++ (k_X5 E q1 u1)) sz)) (C0 : zC p s m args meth c yX3_sum cX3_sum 6 (some .long)) (hA : ∀ q : Nat, s.heap.size ≤ q → A q) (hK : va_K (zD E) vwCl (zT E) s) (hZ : Z A s s.heap) (post : Int64 → (S_X3 × S_X5) → Prop) {K10 : (Int32 × Int64 × Int32 × S_X3 × S_X5) → Prop} (hk_10 : ∀ (x2 : Int32) (x3 : Int64) (x5 : Int32) (u0 : S_X3) (u1 : S_X5) (H : Heap) (locs : List Loc) (ls : Array Slot), K10 (x2, x3, x5, u0, u1) → va_P (zD E) vwCl (k_X3 E q0 u0 ++ (k_X5 E q1 u1)) H → va_D A (k_X3 E q0 u0 ++ (k_X5 E q1 u1)) → va_S A s.heap H locs → lv_has ls 6 [(0, .ref (q0 0)), (1, .ref (q1 0)), (2, .int x2), (3, .long x3), (5, .int x5)] → W p l e (r_X3_sum (n_ + 1)) s m args below meth c H locs 0 0 (MQ below (va_Ql post (zAt E A (fun u => k_X3 E q0 u.1 ++ (k_X5 E q1 u.2))) A) args s 0 0 A) (F0 m 10 ls [])) : ∀ (x2 : Int32) (x3 : Int64) (x5 : Int32) (u0 : S_X3) (u1 : S_X5) (H : Heap) (locs : List Loc) (ls : Array Slot), j_X3_sum_63 K10 REC x2 x3 x5 u0 u1 post → va_P (zD E) vwCl (k_X3 E q0 u0 ++ (k_X5 E q1 u1)) H → va_D A (k_X3 E q0 u0 ++ (k_X5 E q1 u1)) → va_S A s.heap H locs → lv_has ls 6 [(0, .ref (q0 0)), (1, .ref (q1 0)), (2, .int x2), (3, .long x3), (5, .int x5)] → W p l e (r_X3_sum (n_ + 1)) s m args below meth c H locs 0 0 (MQ below (va_Ql post (zAt E A (fun u => k_X3 E q0 u.1 ++ (k_X5 E q1 u.2))) A) args s 0 0 A) (F0 m 63 ls []) := by
  obtain ⟨hx, hb, hml, hr, hown, hts, hlocks, hin⟩ := id C0
  have hown : s.vm.findClass RX3 = some m.cls := hown
  intro x2 x3 x5 u0 u1 H locs ls hw hP hD hS hl
  obtain ⟨x_18, ex_18⟩ : ∃ y : Int32, y = x5 + 1 := ⟨_, rfl⟩
  have hw := hw x_18 ex_18
  refine lv_iinc (v := x_18) (lv' := [(5, .int x_18), (0, .ref (q0 0)), (1, .ref (q1 0)), (2, .int x2), (3, .long x3)]) hx hb dX3_sum_63 hl (k := 4) rfl (by rw [ex_18]; rfl) (by decide) rfl (fun ls hl => ?_)
  refine lv_goto (tgt := 10) hx hb dX3_sum_66 (by decide) ?_
  exact hk_10 x2 x3 x_18 u0 u1 _ _ _ hw hP hD hS (lv_sub hl [1, 2, 3, 4, 0] rfl)
set_option maxHeartbeats 4000000 in
set_option maxRecDepth 100000 in
theorem t_X3_sum_10 {p : Program} {l : Launch} {e : Env} {s : State} {m : MethodId} {args : Array Value} {below : List Frame} {meth : Method} {c : Code} {Z : zZ} {E : zE} {A : Nat → Prop} {q0 : Nat → Nat} {q1 : Nat → Nat} (hZ0 : zSt Z) {sa : Nat → Nat} (hZs : zSS Z sa) (n_ : Nat) (REC : S_X3 → S_X5 → Int32 → (Int64 → (S_X3 × S_X5) → Prop) → Prop) (hREC : ∀ (q0 : Nat → Nat) (q1 : Nat → Nat) (sz : Nat) (u0 : S_X3) (u1 : S_X5) (p2 : Int32) (post : Int64 → (S_X3 × S_X5) → Prop), REC u0 u1 p2 post → Met l yX3_sum (zws yX3_sum cX3_sum 6 (some .long)) (r_X3_sum n_) (va_Pc [.ref (q0 0), .ref (q1 0), .int p2] (zPre Z E (k_X3 E q0 u0 ++ (k_X5 E q1 u1)) sz)) (va_Ql post (zAt E (va_A (k_X3 E q0 u0 ++ (k_X5 E q1 u1)) sz) (fun u => k_X3 E q0 u.1 ++ (k_X5 E q1 u.2))) (va_A (k_X3 E q0 u0 ++ (k_X5 E q1 u1)) sz)) 0 0 (va_A (k_X3 E q0 u0 ++ (k_X5 E q1 u1)) sz)) (C0 : zC p s m args meth c yX3_sum cX3_sum 6 (some .long)) (hA : ∀ q : Nat, s.heap.size ≤ q → A q) (hK : va_K (zD E) vwCl (zT E) s) (hZ : Z A s s.heap) (post : Int64 → (S_X3 × S_X5) → Prop) : ∀ (n : Nat) (x2 : Int32) (x3 : Int64) (x5 : Int32) (u0 : S_X3) (u1 : S_X5) (H : Heap) (locs : List Loc) (ls : Array Slot), zl (fun K st => j_X3_sum_10 K REC st.1 st.2.1 st.2.2.1 st.2.2.2.1 st.2.2.2.2 post) n (x2, x3, x5, u0, u1) → va_P (zD E) vwCl (k_X3 E q0 u0 ++ (k_X5 E q1 u1)) H → va_D A (k_X3 E q0 u0 ++ (k_X5 E q1 u1)) → va_S A s.heap H locs → lv_has ls 6 [(0, .ref (q0 0)), (1, .ref (q1 0)), (2, .int x2), (3, .long x3), (5, .int x5)] → W p l e (r_X3_sum (n_ + 1)) s m args below meth c H locs 0 0 (MQ below (va_Ql post (zAt E A (fun u => k_X3 E q0 u.1 ++ (k_X5 E q1 u.2))) A) args s 0 0 A) (F0 m 10 ls []) := by
  obtain ⟨hx, hb, hml, hr, hown, hts, hlocks, hin⟩ := id C0
  have hown : s.vm.findClass RX3 = some m.cls := hown
  intro n
  induction n with
  | zero => intro x2 x3 x5 u0 u1 H locs ls hw; exact hw.elim
  | succ n hk_10 =>
    intro x2 x3 x5 u0 u1 H locs ls hw hP hD hS hl
    have hw : j_X3_sum_10 _ REC x2 x3 x5 u0 u1 post := hw
    refine lv_iload hx hb dX3_sum_10 (lv_at hl 4 rfl) ?_
    refine lv_sipush (v := 800) hx hb dX3_sum_12 rfl ?_
    obtain ⟨hwt, hwf⟩ := hw
    refine lv_icmp_ge (tgt := 69) hx hb dX3_sum_15 (by decide) (fun c_3 => ?_) (fun c_3 => ?_)
    · have hw := hwt c_3
      refine lv_lload_n hx hb dX3_sum_69 rfl (lv_at hl 3 rfl) ?_
      exact z_lret (k := (fun u => k_X3 E q0 u.1 ++ (k_X5 E q1 u.2))) (u0, u1) C0 hP hD hS hw dX3_sum_70
    · have hw := hwf c_3
      refine lv_aload_n hx hb dX3_sum_18 rfl (lv_at hl 1 rfl) ?_
      refine lv_bipush (v := 43) hx hb dX3_sum_19 rfl ?_
      refine z_ki (z_rN (rest := []) hZ0 C0 hK hZ hA hP hD hS hl.1 (c_X5_takeSign l E Z hZ0 q1 H.size u1 (43 : Int32) _ hw) yv_X3_22 [1, 2] rfl (by decide) (ci := 5) rfl rfl 1 rfl ⟨(Nat.le_trans (m := 20) (Nat.le_of_ble_eq_true rfl) (Nat.le_add_left 20 _)), (Nat.le_trans (m := 600) (Nat.le_of_ble_eq_true rfl) (Nat.le_add_left 600 _))⟩ ⟨rfl, rfl⟩ rfl rfl (Nat.le_of_ble_eq_true rfl) ⟨Nat.le_of_ble_eq_true rfl, Nat.le_of_ble_eq_true rfl⟩ dX3_sum_21) hP hD hS hA [1, 2] [0] [0, 1, 2] rfl (wr := [_]) rfl (by decide) (by decide) (fun u => k_X3 E q0 u0 ++ (k_X5 E q1 u)) (fun u => rfl) (by decide) (fun r_5 u_4 H locs hw hP hD hS => ?_)
      obtain ⟨hwt, hwf⟩ := hw
      refine lv_if_eq (tgt := 42) hx hb dX3_sum_24 (by decide) (fun c_6 => ?_) (fun c_6 => ?_)
      · have hw := hwt c_6
        refine lv_aload_n hx hb dX3_sum_42 rfl (lv_at hl 1 rfl) ?_
        refine lv_bipush (v := 45) hx hb dX3_sum_43 rfl ?_
        refine z_ki (z_rN (rest := []) hZ0 C0 hK hZ hA hP hD hS hl.1 (c_X5_takeSign l E Z hZ0 q1 H.size u_4 (45 : Int32) _ hw) yv_X3_22 [1, 2] rfl (by decide) (ci := 5) rfl rfl 1 rfl ⟨(Nat.le_trans (m := 20) (Nat.le_of_ble_eq_true rfl) (Nat.le_add_left 20 _)), (Nat.le_trans (m := 600) (Nat.le_of_ble_eq_true rfl) (Nat.le_add_left 600 _))⟩ ⟨rfl, rfl⟩ rfl rfl (Nat.le_of_ble_eq_true rfl) ⟨Nat.le_of_ble_eq_true rfl, Nat.le_of_ble_eq_true rfl⟩ dX3_sum_45) hP hD hS hA [1, 2] [0] [0, 1, 2] rfl (wr := [_]) rfl (by decide) (by decide) (fun u => k_X3 E q0 u0 ++ (k_X5 E q1 u)) (fun u => rfl) (by decide) (fun r_8 u_7 H locs hw hP hD hS => ?_)
        obtain ⟨hwt, hwf⟩ := hw
        refine lv_if_eq (tgt := 69) hx hb dX3_sum_48 (by decide) (fun c_9 => ?_) (fun c_9 => ?_)
        · have hw := hwt c_9
          refine lv_lload_n hx hb dX3_sum_69 rfl (lv_at hl 3 rfl) ?_
          exact z_lret (k := (fun u => k_X3 E q0 u.1 ++ (k_X5 E q1 u.2))) (u0, u_7) C0 hP hD hS hw dX3_sum_70
        · have hw := hwf c_9
          refine lv_lload_n hx hb dX3_sum_51 rfl (lv_at hl 3 rfl) ?_
          refine lv_aload_n hx hb dX3_sum_52 rfl (lv_at hl 0 rfl) ?_
          refine lv_aload_n hx hb dX3_sum_53 rfl (lv_at hl 1 rfl) ?_
          refine lv_iload_n hx hb dX3_sum_54 rfl (lv_at hl 2 rfl) ?_
          refine z_kl (z_rV (rest := [.long x3]) hZ0 C0 hK hZ hA hP hD hS hl.1 (c_X3_term l E Z hZ0 hZs n_ REC hREC q0 q1 H.size u0 u_7 x2 _ hw) yv_X3_18 [0, 1, 2] rfl (by decide) (ci := 3) rfl rfl 0 rfl (rk_X3_sum_X3_term n_) ⟨rfl, rfl⟩ rfl rfl (Nat.le_of_ble_eq_true rfl) ⟨Nat.le_of_ble_eq_true rfl, Nat.le_of_ble_eq_true rfl⟩ dX3_sum_55) hP hD hS hA [0, 1, 2] [] [0, 1, 2] rfl (wr := []) rfl (by decide) (by decide) (fun u => k_X3 E q0 u.1 ++ (k_X5 E q1 u.2)) (fun u => rfl) (by decide) (fun r_11 u_10 H locs hw hP hD hS => ?_)
          refine lv_lsub hx hb dX3_sum_58 ?_
          refine z_kl (z_rS (rest := []) hZ0 C0 hK hZ hA hP hD hS hl.1 (c_X3_limited l E Z hZ0 H.size (x3 - r_11) _ hw) yv_X3_28 [] rfl (by decide) ⟨(Nat.le_trans (m := 20) (Nat.le_of_ble_eq_true rfl) (Nat.le_add_left 20 _)), (Nat.le_trans (m := 600) (Nat.le_of_ble_eq_true rfl) (Nat.le_add_left 600 _))⟩ ⟨rfl, rfl⟩ rfl rfl (Nat.le_of_ble_eq_true rfl) ⟨Nat.le_of_ble_eq_true rfl, Nat.le_of_ble_eq_true rfl⟩ dX3_sum_59) hP hD hS hA [] [0, 1, 2] [0, 1, 2] rfl (wr := [_, _, _]) rfl (by decide) (by decide) (fun u => k_X3 E q0 u_10.1 ++ (k_X5 E q1 u_10.2)) (fun u => rfl) (by decide) (fun r_13 u_12 H locs hw hP hD hS => ?_)
          refine lv_lstore_n (lv' := [(3, .long r_13), (0, .ref (q0 0)), (1, .ref (q1 0)), (2, .int x2), (5, .int x5)]) hx hb dX3_sum_62 rfl hl (by decide) rfl (fun ls hl => ?_)
          exact t_X3_sum_63 (l := l) hZ0 hZs n_ REC hREC C0 hA hK hZ post hk_10 x2 r_13 x5 u_10.1 u_10.2 _ _ _ hw hP hD hS (lv_sub hl [1, 2, 3, 0, 4] rfl)
      · have hw := hwf c_6
        refine lv_lload_n hx hb dX3_sum_27 rfl (lv_at hl 3 rfl) ?_
        refine lv_aload_n hx hb dX3_sum_28 rfl (lv_at hl 0 rfl) ?_
        refine lv_aload_n hx hb dX3_sum_29 rfl (lv_at hl 1 rfl) ?_
        refine lv_iload_n hx hb dX3_sum_30 rfl (lv_at hl 2 rfl) ?_
        refine z_kl (z_rV (rest := [.long x3]) hZ0 C0 hK hZ hA hP hD hS hl.1 (c_X3_term l E Z hZ0 hZs n_ REC hREC q0 q1 H.size u0 u_4 x2 _ hw) yv_X3_18 [0, 1, 2] rfl (by decide) (ci := 3) rfl rfl 0 rfl (rk_X3_sum_X3_term n_) ⟨rfl, rfl⟩ rfl rfl (Nat.le_of_ble_eq_true rfl) ⟨Nat.le_of_ble_eq_true rfl, Nat.le_of_ble_eq_true rfl⟩ dX3_sum_31) hP hD hS hA [0, 1, 2] [] [0, 1, 2] rfl (wr := []) rfl (by decide) (by decide) (fun u => k_X3 E q0 u.1 ++ (k_X5 E q1 u.2)) (fun u => rfl) (by decide) (fun r_15 u_14 H locs hw hP hD hS => ?_)
        refine lv_ladd hx hb dX3_sum_34 ?_
        refine z_kl (z_rS (rest := []) hZ0 C0 hK hZ hA hP hD hS hl.1 (c_X3_limited l E Z hZ0 H.size (x3 + r_15) _ hw) yv_X3_28 [] rfl (by decide) ⟨(Nat.le_trans (m := 20) (Nat.le_of_ble_eq_true rfl) (Nat.le_add_left 20 _)), (Nat.le_trans (m := 600) (Nat.le_of_ble_eq_true rfl) (Nat.le_add_left 600 _))⟩ ⟨rfl, rfl⟩ rfl rfl (Nat.le_of_ble_eq_true rfl) ⟨Nat.le_of_ble_eq_true rfl, Nat.le_of_ble_eq_true rfl⟩ dX3_sum_35) hP hD hS hA [] [0, 1, 2] [0, 1, 2] rfl (wr := [_, _, _]) rfl (by decide) (by decide) (fun u => k_X3 E q0 u_14.1 ++ (k_X5 E q1 u_14.2)) (fun u => rfl) (by decide) (fun r_17 u_16 H locs hw hP hD hS => ?_)
        refine lv_lstore_n (lv' := [(3, .long r_17), (0, .ref (q0 0)), (1, .ref (q1 0)), (2, .int x2), (5, .int x5)]) hx hb dX3_sum_38 rfl hl (by decide) rfl (fun ls hl => ?_)
        refine lv_goto (tgt := 63) hx hb dX3_sum_39 (by decide) ?_
        exact t_X3_sum_63 (l := l) hZ0 hZs n_ REC hREC C0 hA hK hZ post hk_10 x2 r_17 x5 u_14.1 u_14.2 _ _ _ hw hP hD hS (lv_sub hl [1, 2, 3, 0, 4] rfl)
set_option maxHeartbeats 4000000 in
set_option maxRecDepth 100000 in
theorem c_X3_sumB (l : Launch) (E : zE) (Z : zZ) (hZ0 : zSt Z) {sa : Nat → Nat} (hZs : zSS Z sa) (n_ : Nat) (REC : S_X3 → S_X5 → Int32 → (Int64 → (S_X3 × S_X5) → Prop) → Prop) (hREC : ∀ (q0 : Nat → Nat) (q1 : Nat → Nat) (sz : Nat) (u0 : S_X3) (u1 : S_X5) (p2 : Int32) (post : Int64 → (S_X3 × S_X5) → Prop), REC u0 u1 p2 post → Met l yX3_sum (zws yX3_sum cX3_sum 6 (some .long)) (r_X3_sum n_) (va_Pc [.ref (q0 0), .ref (q1 0), .int p2] (zPre Z E (k_X3 E q0 u0 ++ (k_X5 E q1 u1)) sz)) (va_Ql post (zAt E (va_A (k_X3 E q0 u0 ++ (k_X5 E q1 u1)) sz) (fun u => k_X3 E q0 u.1 ++ (k_X5 E q1 u.2))) (va_A (k_X3 E q0 u0 ++ (k_X5 E q1 u1)) sz)) 0 0 (va_A (k_X3 E q0 u0 ++ (k_X5 E q1 u1)) sz)) (q0 : Nat → Nat) (q1 : Nat → Nat) (sz : Nat) (u0 : S_X3) (u1 : S_X5) (p2 : Int32) (post : Int64 → (S_X3 × S_X5) → Prop) (hw : wp_X3_sumB REC u0 u1 p2 post) : Met l yX3_sum (zws yX3_sum cX3_sum 6 (some .long)) (r_X3_sum (n_ + 1)) (va_Pc [.ref (q0 0), .ref (q1 0), .int p2] (zPre Z E (k_X3 E q0 u0 ++ (k_X5 E q1 u1)) sz)) (va_Ql post (zAt E (va_A (k_X3 E q0 u0 ++ (k_X5 E q1 u1)) sz) (fun u => k_X3 E q0 u.1 ++ (k_X5 E q1 u.2))) (va_A (k_X3 E q0 u0 ++ (k_X5 E q1 u1)) sz)) 0 0 (va_A (k_X3 E q0 u0 ++ (k_X5 E q1 u1)) sz) := by
  refine z_ofW (Qf := fun A => va_Ql post (zAt E A (fun u => k_X3 E q0 u.1 ++ (k_X5 E q1 u.2))) A) (by decide) (Nat.le_of_ble_eq_true rfl) ?_
  intro p e s m args below meth c A ls C0 hA hK hZ hP hD hS hl
  obtain ⟨hx, hb, hml, hr, hown, hts, hlocks, hin⟩ := id C0
  have hown : s.vm.findClass RX3 = some m.cls := hown
  have hl : lv_has ls 6 [(0, .ref (q0 0)), (1, .ref (q1 0)), (2, .int p2)] := hl
  refine lv_aload_n hx hb dX3_sum_0 rfl (lv_at hl 0 rfl) ?_
  refine lv_aload_n hx hb dX3_sum_1 rfl (lv_at hl 1 rfl) ?_
  refine lv_iload_n hx hb dX3_sum_2 rfl (lv_at hl 2 rfl) ?_
  refine z_kl (z_rV (rest := []) hZ0 C0 hK hZ hA hP hD hS hl.1 (c_X3_term l E Z hZ0 hZs n_ REC hREC q0 q1 s.heap.size u0 u1 p2 _ hw) yv_X3_18 [0, 1, 2] rfl (by decide) (ci := 3) rfl rfl 0 rfl (rk_X3_sum_X3_term n_) ⟨rfl, rfl⟩ rfl rfl (Nat.le_of_ble_eq_true rfl) ⟨Nat.le_of_ble_eq_true rfl, Nat.le_of_ble_eq_true rfl⟩ dX3_sum_3) hP hD hS hA [0, 1, 2] [] [0, 1, 2] rfl (wr := []) rfl (by decide) (by decide) (fun u => k_X3 E q0 u.1 ++ (k_X5 E q1 u.2)) (fun u => rfl) (by decide) (fun r_2 u_1 H locs hw hP hD hS => ?_)
  refine lv_lstore_n (lv' := [(3, .long r_2), (0, .ref (q0 0)), (1, .ref (q1 0)), (2, .int p2)]) hx hb dX3_sum_6 rfl hl (by decide) rfl (fun ls hl => ?_)
  refine lv_iconst (v := 0) hx hb dX3_sum_7 rfl ?_
  refine lv_istore (lv' := [(5, .int (0 : Int32)), (3, .long r_2), (0, .ref (q0 0)), (1, .ref (q1 0)), (2, .int p2)]) hx hb dX3_sum_8 hl (by decide) rfl (fun ls hl => ?_)
  obtain ⟨n9, hw⟩ := hw
  exact t_X3_sum_10 (l := l) hZ0 hZs n_ REC hREC C0 hA hK hZ post n9 p2 r_2 (0 : Int32) u_1.1 u_1.2 _ _ _ hw hP hD hS (lv_sub hl [2, 3, 4, 1, 0] rfl)
def wp_X3_sum : Nat → S_X3 → S_X5 → Int32 → (Int64 → (S_X3 × S_X5) → Prop) → Prop
  | 0, _, _, _, _ => False
  | n + 1, u0, u1, p2, post => wp_X3_sumB (wp_X3_sum n) u0 u1 p2 post
theorem c_X3_sum (l : Launch) (E : zE) (Z : zZ) (hZ0 : zSt Z) {sa : Nat → Nat} (hZs : zSS Z sa) : ∀ (n_ : Nat), ∀ (q0 : Nat → Nat) (q1 : Nat → Nat) (sz : Nat) (u0 : S_X3) (u1 : S_X5) (p2 : Int32) (post : Int64 → (S_X3 × S_X5) → Prop), wp_X3_sum n_ u0 u1 p2 post → Met l yX3_sum (zws yX3_sum cX3_sum 6 (some .long)) (r_X3_sum n_) (va_Pc [.ref (q0 0), .ref (q1 0), .int p2] (zPre Z E (k_X3 E q0 u0 ++ (k_X5 E q1 u1)) sz)) (va_Ql post (zAt E (va_A (k_X3 E q0 u0 ++ (k_X5 E q1 u1)) sz) (fun u => k_X3 E q0 u.1 ++ (k_X5 E q1 u.2))) (va_A (k_X3 E q0 u0 ++ (k_X5 E q1 u1)) sz)) 0 0 (va_A (k_X3 E q0 u0 ++ (k_X5 E q1 u1)) sz) := by
  intro n_
  induction n_ with
  | zero => intro q0 q1 sz u0 u1 p2 post hw; exact hw.elim
  | succ n ih => intro q0 q1 sz u0 u1 p2 post hw; exact c_X3_sumB l E Z hZ0 hZs n (wp_X3_sum n) ih q0 q1 sz u0 u1 p2 post hw
