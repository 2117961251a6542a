abbrev r_X8_extend (n : Nat) : Room := { frames := 1 * n + 10, cells := 0, slots := 0, locals := 80 * n + 300 }
theorem rk_X8_extend_X8_extend (n_ : Nat) : (r_X8_extend n_).frames + 1 ≤ (r_X8_extend (n_ + 1)).frames ∧ 8 + (6 + 11) + (r_X8_extend n_).locals ≤ (r_X8_extend (n_ + 1)).locals := ⟨by show _ ≤ _; dsimp only [r_X8_extend]; omega, by show _ ≤ _; dsimp only [r_X8_extend]; omega⟩
def j_X8_extend_111 (K46 : (Int32 × Int32 × Int32 × S_X8 × S_X1) → Prop) (REC : S_X8 → S_X1 → Int32 → Int32 → Int32 → ((S_X8 × S_X1) → Prop) → Prop) (x3 : Int32) (x4 : Int32) (x5 : Int32) (u0 : S_X8) (u1 : S_X1) (post : (S_X8 × S_X1) → Prop) : Prop := ∀ x_18 : Int32, x_18 = x5 + 1 → (K46 (x3, x4, x_18, u0, u1))
def j_X8_extend_46 (K46 : (Int32 × Int32 × Int32 × S_X8 × S_X1) → Prop) (REC : S_X8 → S_X1 → Int32 → Int32 → Int32 → ((S_X8 × S_X1) → Prop) → Prop) (x3 : Int32) (x4 : Int32) (x5 : Int32) (u0 : S_X8) (u1 : S_X1) (post : (S_X8 × S_X1) → Prop) : Prop := (u0.2.1 ≤ x5 → (post (u0, u1))) ∧ (¬ (u0.2.1 ≤ x5) → (vp_in x5 20 ∧ (wp_X8_fits u0 u1 (u0.1 x5.toNatClampNeg) x3 (fun r_9 u_8 => (r_9 = 0 → (j_X8_extend_111 K46 REC x3 x4 x5 u_8.1 u_8.2 post)) ∧ (¬ (r_9 = 0) → (vp_in x5 20 ∧ (∀ x_12 : Int32, x_12 = (u_8.1.1 x5.toNatClampNeg) → (vp_in x3 4 ∧ (vp_in x5 20 ∧ (vp_in (u_8.1.1 x5.toNatClampNeg) 20 ∧ (REC (u_8.1.1, u_8.1.2.1, u_8.1.2.2.1, u_8.1.2.2.2.1, (upd u_8.1.2.2.2.2.1 x3.toNatClampNeg x_12), u_8.1.2.2.2.2.2.1, u_8.1.2.2.2.2.2.2.1, u_8.1.2.2.2.2.2.2.2) u_8.2 (x5 + (1 : Int32)) (x3 + (1 : Int32)) (x4 + (u_8.2.2.2.2.2.2.1 (u_8.1.1 x5.toNatClampNeg).toNatClampNeg)) (fun u_16 => j_X8_extend_111 K46 REC x3 x4 x5 u_16.1 u_16.2 post))))))))))))
def j_X8_extend_34 (REC : S_X8 → S_X1 → Int32 → Int32 → Int32 → ((S_X8 × S_X1) → Prop) → Prop) (x2 : Int32) (x3 : Int32) (x4 : Int32) (u0 : S_X8) (u1 : S_X1) (post : (S_X8 × S_X1) → Prop) : Prop := (x3 < u0.2.2.1 → (∃ n, zl (fun K st => j_X8_extend_46 K REC st.1 st.2.1 st.2.2.1 st.2.2.2.1 st.2.2.2.2 post) n (x3, x4, x2, u0, u1))) ∧ (¬ (x3 < u0.2.2.1) → (post (u0, u1)))
def wp_X8_extendB (REC : S_X8 → S_X1 → Int32 → Int32 → Int32 → ((S_X8 × S_X1) → Prop) → Prop) (u0 : S_X8) (u1 : S_X1) (p2 : Int32) (p3 : Int32) (p4 : Int32) (post : (S_X8 × S_X1) → Prop) : Prop := (p4 ≤ u0.2.2.2.2.2.2.2 → (j_X8_extend_34 REC p2 p3 p4 u0 u1 post)) ∧ (¬ (p4 ≤ u0.2.2.2.2.2.2.2) → ((¬ p3 < 0) ∧ (((0 : Int32).toNatClampNeg + p3.toNatClampNeg ≤ 4) ∧ (((0 : Int32).toNatClampNeg + p3.toNatClampNeg ≤ 4) ∧ (j_X8_extend_34 REC p2 p3 p4 (u0.1, u0.2.1, u0.2.2.1, u0.2.2.2.1, u0.2.2.2.2.1, (va_cpy u0.2.2.2.2.1 u0.2.2.2.2.2.1 0 0 p3.toNatClampNeg), p3, p4) u1 post)))))
set_option maxHeartbeats 4000000 in
set_option maxRecDepth 100000 in
theorem t_X8_extend_111 {p : Program} {l : Launch} {e : Env} {s : State} {m : MethodId} {args : Array Value} {below : List Frame} {meth : Method} {c : Code} {Z : zZ} {E : zE} {A : Nat → Prop} {q0 : Nat → Nat} {q1 : Nat → Nat} (hZ0 : zSt Z) (n_ : Nat) (REC : S_X8 → S_X1 → Int32 → Int32 → Int32 → ((S_X8 × S_X1) → Prop) → Prop) (hREC : ∀ (q0 : Nat → Nat) (q1 : Nat → Nat) (sz : Nat) (u0 : S_X8) (u1 : S_X1) (p2 : Int32) (p3 : Int32) (p4 : Int32) (post : (S_X8 × S_X1) → Prop), REC u0 u1 p2 p3 p4 post → Met l yX8_extend (zws yX8_extend cX8_extend 6 none) (r_X8_extend n_) (va_Pc [.ref (q0 0), .ref (q1 0), .int p2, .int p3, .int p4] (zPre Z E (k_X8 E q0 u0 ++ (k_X1 E q1 u1)) sz)) (va_Qv post (zAt E (va_A (k_X8 E q0 u0 ++ (k_X1 E q1 u1)) sz) (fun u => k_X8 E q0 u.1 ++ (k_X1 E q1 u.2))) (va_A (k_X8 E q0 u0 ++ (k_X1 E q1 u1)) sz)) 0 0 (va_A (k_X8 E q0 u0 ++ (k_X1 E q1 u1)) sz)) (C0 : zC p s m args meth c yX8_extend cX8_extend 6 none) (hA : ∀ q : Nat, s.heap.size ≤ q → A q) (hK : va_K (zD E) vwCl (zT E) s) (hZ : Z A s s.heap) (post : (S_X8 × S_X1) → Prop) {K46 : (Int32 × Int32 × Int32 × S_X8 × S_X1) → Prop} (hk_46 : ∀ (x3 : Int32) (x4 : Int32) (x5 : Int32) (u0 : S_X8) (u1 : S_X1) (H : Heap) (locs : List Loc) (ls : Array Slot), K46 (x3, x4, x5, u0, u1) → va_P (zD E) vwCl (k_X8 E q0 u0 ++ (k_X1 E q1 u1)) H → va_D A (k_X8 E q0 u0 ++ (k_X1 E q1 u1)) → va_S A s.heap H locs → lv_has ls 6 [(0, .ref (q0 0)), (1, .ref (q1 0)), (3, .int x3), (4, .int x4), (5, .int x5)] → W p l e (r_X8_extend (n_ + 1)) s m args below meth c H locs 0 0 (MQ below (va_Qv post (zAt E A (fun u => k_X8 E q0 u.1 ++ (k_X1 E q1 u.2))) A) args s 0 0 A) (F0 m 46 ls [])) : ∀ (x3 : Int32) (x4 : Int32) (x5 : Int32) (u0 : S_X8) (u1 : S_X1) (H : Heap) (locs : List Loc) (ls : Array Slot), j_X8_extend_111 K46 REC x3 x4 x5 u0 u1 post → va_P (zD E) vwCl (k_X8 E q0 u0 ++ (k_X1 E q1 u1)) H → va_D A (k_X8 E q0 u0 ++ (k_X1 E q1 u1)) → va_S A s.heap H locs → lv_has ls 6 [(0, .ref (q0 0)), (1, .ref (q1 0)), (3, .int x3), (4, .int x4), (5, .int x5)] → W p l e (r_X8_extend (n_ + 1)) s m args below meth c H locs 0 0 (MQ below (va_Qv post (zAt E A (fun u => k_X8 E q0 u.1 ++ (k_X1 E q1 u.2))) A) args s 0 0 A) (F0 m 111 ls []) := by
  obtain ⟨hx, hb, hml, hr, hown, hts, hlocks, hin⟩ := id C0
  have hown : s.vm.findClass RX8 = some m.cls := hown
  intro x3 x4 x5 u0 u1 H locs ls hw hP hD hS hl
  obtain ⟨x_18, ex_18⟩ : ∃ y : Int32, y = x5 + 1 := ⟨_, rfl⟩
  have hw := hw x_18 ex_18
  refine lv_iinc (v := x_18) (lv' := [(5, .int x_18), (0, .ref (q0 0)), (1, .ref (q1 0)), (3, .int x3), (4, .int x4)]) hx hb dX8_extend_111 hl (k := 4) rfl (by rw [ex_18]; rfl) (by decide) rfl (fun ls hl => ?_)
  refine lv_goto (tgt := 46) hx hb dX8_extend_114 (by decide) ?_
  exact hk_46 x3 x4 x_18 u0 u1 _ _ _ hw hP hD hS (lv_sub hl [1, 2, 3, 4, 0] rfl)
set_option maxHeartbeats 4000000 in
set_option maxRecDepth 100000 in
theorem t_X8_extend_46 {p : Program} {l : Launch} {e : Env} {s : State} {m : MethodId} {args : Array Value} {below : List Frame} {meth : Method} {c : Code} {Z : zZ} {E : zE} {A : Nat → Prop} {q0 : Nat → Nat} {q1 : Nat → Nat} (hZ0 : zSt Z) (n_ : Nat) (REC : S_X8 → S_X1 → Int32 → Int32 → Int32 → ((S_X8 × S_X1) → Prop) → Prop) (hREC : ∀ (q0 : Nat → Nat) (q1 : Nat → Nat) (sz : Nat) (u0 : S_X8) (u1 : S_X1) (p2 : Int32) (p3 : Int32) (p4 : Int32) (post : (S_X8 × S_X1) → Prop), REC u0 u1 p2 p3 p4 post → Met l yX8_extend (zws yX8_extend cX8_extend 6 none) (r_X8_extend n_) (va_Pc [.ref (q0 0), .ref (q1 0), .int p2, .int p3, .int p4] (zPre Z E (k_X8 E q0 u0 ++ (k_X1 E q1 u1)) sz)) (va_Qv post (zAt E (va_A (k_X8 E q0 u0 ++ (k_X1 E q1 u1)) sz) (fun u => k_X8 E q0 u.1 ++ (k_X1 E q1 u.2))) (va_A (k_X8 E q0 u0 ++ (k_X1 E q1 u1)) sz)) 0 0 (va_A (k_X8 E q0 u0 ++ (k_X1 E q1 u1)) sz)) (C0 : zC p s m args meth c yX8_extend cX8_extend 6 none) (hA : ∀ q : Nat, s.heap.size ≤ q → A q) (hK : va_K (zD E) vwCl (zT E) s) (hZ : Z A s s.heap) (post : (S_X8 × S_X1) → Prop) : ∀ (n : Nat) (x3 : Int32) (x4 : Int32) (x5 : Int32) (u0 : S_X8) (u1 : S_X1) (H : Heap) (locs : List Loc) (ls : Array Slot), zl (fun K st => j_X8_extend_46 K REC st.1 st.2.1 st.2.2.1 st.2.2.2.1 st.2.2.2.2 post) n (x3, x4, x5, u0, u1) → va_P (zD E) vwCl (k_X8 E q0 u0 ++ (k_X1 E q1 u1)) H → va_D A (k_X8 E q0 u0 ++ (k_X1 E q1 u1)) → va_S A s.heap H locs → lv_has ls 6 [(0, .ref (q0 0)), (1, .ref (q1 0)), (3, .int x3), (4, .int x4), (5, .int x5)] → W p l e (r_X8_extend (n_ + 1)) s m args below meth c H locs 0 0 (MQ below (va_Qv post (zAt E A (fun u => k_X8 E q0 u.1 ++ (k_X1 E q1 u.2))) A) args s 0 0 A) (F0 m 46 ls []) := by
  obtain ⟨hx, hb, hml, hr, hown, hts, hlocks, hin⟩ := id C0
  have hown : s.vm.findClass RX8 = some m.cls := hown
  intro n
  induction n with
  | zero => intro x3 x4 x5 u0 u1 H locs ls hw; exact hw.elim
  | succ n hk_46 =>
    intro x3 x4 x5 u0 u1 H locs ls hw hP hD hS hl
    have hw : j_X8_extend_46 _ REC x3 x4 x5 u0 u1 post := hw
    refine lv_iload hx hb dX8_extend_46 (lv_at hl 4 rfl) ?_
    refine lv_aload_n hx hb dX8_extend_48 rfl (lv_at hl 0 rfl) ?_
    refine va_get (D := zD E) (ci := 8) (v := .int u0.2.1) (C := RX8) (T := TX8) (N := 8) hx hb hts uw_X8 hown hK hP 0 rfl rfl 1 (by decide) (hts _ wm_2_82) (fun _ h9 => h9) rfl dX8_extend_49 ?_
    obtain ⟨hwt, hwf⟩ := hw
    refine lv_icmp_ge (tgt := 117) hx hb dX8_extend_52 (by decide) (fun c_6 => ?_) (fun c_6 => ?_)
    · have hw := hwt c_6
      exact z_vret (k := (fun u => k_X8 E q0 u.1 ++ (k_X1 E q1 u.2))) (u0, u1) C0 hP hD hS hw dX8_extend_117
    · have hw := hwf c_6
      refine lv_aload_n hx hb dX8_extend_55 rfl (lv_at hl 0 rfl) ?_
      refine lv_aload_n hx hb dX8_extend_56 rfl (lv_at hl 1 rfl) ?_
      refine lv_aload_n hx hb dX8_extend_57 rfl (lv_at hl 0 rfl) ?_
      refine va_get (D := zD E) (ci := 8) (v := .ref (q0 1)) (C := RX8) (T := TX8) (N := 8) hx hb hts uw_X8 hown hK hP 0 rfl rfl 0 (by decide) (hts _ wm_2_81) (fun _ h9 => h9) rfl dX8_extend_58 ?_
      refine lv_iload hx hb dX8_extend_61 (lv_at hl 4 rfl) ?_
      obtain ⟨h_7, hw⟩ := hw
      refine va_iald hx hb hK hP 1 0 rfl rfl h_7 dX8_extend_63 ?_
      refine lv_iload_n hx hb dX8_extend_64 rfl (lv_at hl 2 rfl) ?_
      refine z_ki (z_rV (rest := []) hZ0 C0 hK hZ hA hP hD hS hl.1 (c_X8_fits l E Z hZ0 q0 q1 H.size u0 u1 (u0.1 x5.toNatClampNeg) x3 _ hw) yv_X8_74 [0, 1, 2, 3, 4, 5, 6, 7, 8] rfl (by decide) (ci := 8) rfl rfl 0 rfl ⟨(Nat.le_trans (m := 10) (Nat.le_of_ble_eq_true rfl) (Nat.le_add_left 10 _)), (Nat.le_trans (m := 300) (Nat.le_of_ble_eq_true rfl) (Nat.le_add_left 300 _))⟩ ⟨rfl, rfl⟩ rfl rfl (Nat.le_of_ble_eq_true rfl) ⟨Nat.le_of_ble_eq_true rfl, Nat.le_of_ble_eq_true rfl⟩ dX8_extend_65) hP hD hS hA [0, 1, 2, 3, 4, 5, 6, 7, 8] [] [0, 1, 2, 3, 4, 5, 6, 7, 8] rfl (wr := []) rfl (by decide) (by decide) (fun u => k_X8 E q0 u.1 ++ (k_X1 E q1 u.2)) (fun u => rfl) (by decide) (fun r_9 u_8 H locs hw hP hD hS => ?_)
      obtain ⟨hwt, hwf⟩ := hw
      refine lv_if_eq (tgt := 111) hx hb dX8_extend_68 (by decide) (fun c_10 => ?_) (fun c_10 => ?_)
      · have hw := hwt c_10
        exact t_X8_extend_111 (l := l) hZ0 n_ REC hREC C0 hA hK hZ post hk_46 x3 x4 x5 u_8.1 u_8.2 _ _ _ hw hP hD hS (lv_sub hl [0, 1, 2, 3, 4] rfl)
      · have hw := hwf c_10
        refine lv_aload_n hx hb dX8_extend_71 rfl (lv_at hl 0 rfl) ?_
        refine va_get (D := zD E) (ci := 8) (v := .ref (q0 2)) (C := RX8) (T := TX8) (N := 8) hx hb hts uw_X8 hown hK hP 0 rfl rfl 4 (by decide) (hts _ wm_2_85) (fun _ h9 => h9) rfl dX8_extend_72 ?_
        refine lv_iload_n hx hb dX8_extend_75 rfl (lv_at hl 2 rfl) ?_
        refine lv_aload_n hx hb dX8_extend_76 rfl (lv_at hl 0 rfl) ?_
        refine va_get (D := zD E) (ci := 8) (v := .ref (q0 1)) (C := RX8) (T := TX8) (N := 8) hx hb hts uw_X8 hown hK hP 0 rfl rfl 0 (by decide) (hts _ wm_2_81) (fun _ h9 => h9) rfl dX8_extend_77 ?_
        refine lv_iload hx hb dX8_extend_80 (lv_at hl 4 rfl) ?_
        obtain ⟨h_11, hw⟩ := hw
        refine va_iald hx hb hK hP 1 0 rfl rfl h_11 dX8_extend_82 ?_
        refine lv_topi (fun x_12 ex_12 => ?_)
        have hw := hw x_12 ex_12
        obtain ⟨h_13, hw⟩ := hw
        refine va_iast hx hb hK hP hD hS 2 0 rfl rfl h_13 dX8_extend_83 (fun H locs hP hD hS => ?_)
        have hP : va_P (zD E) vwCl (k_X8 E q0 (u_8.1.1, u_8.1.2.1, u_8.1.2.2.1, u_8.1.2.2.2.1, (upd u_8.1.2.2.2.2.1 x3.toNatClampNeg x_12), u_8.1.2.2.2.2.2.1, u_8.1.2.2.2.2.2.2.1, u_8.1.2.2.2.2.2.2.2) ++ (k_X1 E q1 u_8.2)) H := hP
        have hD : va_D A (k_X8 E q0 (u_8.1.1, u_8.1.2.1, u_8.1.2.2.1, u_8.1.2.2.2.1, (upd u_8.1.2.2.2.2.1 x3.toNatClampNeg x_12), u_8.1.2.2.2.2.2.1, u_8.1.2.2.2.2.2.2.1, u_8.1.2.2.2.2.2.2.2) ++ (k_X1 E q1 u_8.2)) := hD
        refine lv_aload_n hx hb dX8_extend_84 rfl (lv_at hl 0 rfl) ?_
        refine lv_aload_n hx hb dX8_extend_85 rfl (lv_at hl 1 rfl) ?_
        refine lv_iload hx hb dX8_extend_86 (lv_at hl 4 rfl) ?_
        refine lv_iconst (v := 1) hx hb dX8_extend_88 rfl ?_
        refine lv_iadd hx hb dX8_extend_89 ?_
        refine lv_iload_n hx hb dX8_extend_90 rfl (lv_at hl 2 rfl) ?_
        refine lv_iconst (v := 1) hx hb dX8_extend_91 rfl ?_
        refine lv_iadd hx hb dX8_extend_92 ?_
        refine lv_iload hx hb dX8_extend_93 (lv_at hl 3 rfl) ?_
        refine lv_aload_n hx hb dX8_extend_95 rfl (lv_at hl 1 rfl) ?_
        refine va_getN (D := zD E) (ci := 1) (v := .ref (q1 3)) (C := RX1) (T := TX1) (N := 7) hx hb hts uw_X1 hown hK hP 4 rfl rfl 5 (by decide) (hts _ wm_1_179) (fun _ h9 => h9) rfl dX8_extend_96 ?_
        refine lv_aload_n hx hb dX8_extend_99 rfl (lv_at hl 0 rfl) ?_
        refine va_get (D := zD E) (ci := 8) (v := .ref (q0 1)) (C := RX8) (T := TX8) (N := 8) hx hb hts uw_X8 hown hK hP 0 rfl rfl 0 (by decide) (hts _ wm_2_81) (fun _ h9 => h9) rfl dX8_extend_100 ?_
        refine lv_iload hx hb dX8_extend_103 (lv_at hl 4 rfl) ?_
        obtain ⟨h_14, hw⟩ := hw
        refine va_iald hx hb hK hP 1 0 rfl rfl h_14 dX8_extend_105 ?_
        obtain ⟨h_15, hw⟩ := hw
        refine va_iald hx hb hK hP 7 0 rfl rfl h_15 dX8_extend_106 ?_
        refine lv_iadd hx hb dX8_extend_107 ?_
        refine z_kv (z_rV (rest := []) hZ0 C0 hK hZ hA hP hD hS hl.1 (hREC q0 q1 H.size (u_8.1.1, u_8.1.2.1, u_8.1.2.2.1, u_8.1.2.2.2.1, (upd u_8.1.2.2.2.2.1 x3.toNatClampNeg x_12), u_8.1.2.2.2.2.2.1, u_8.1.2.2.2.2.2.2.1, u_8.1.2.2.2.2.2.2.2) u_8.2 (x5 + (1 : Int32)) (x3 + (1 : Int32)) (x4 + (u_8.2.2.2.2.2.2.1 (u_8.1.1 x5.toNatClampNeg).toNatClampNeg)) _ hw) yv_X8_64 [0, 1, 2, 3, 4, 5, 6, 7, 8] rfl (by decide) (ci := 8) rfl rfl 0 rfl (rk_X8_extend_X8_extend n_) ⟨rfl, rfl⟩ rfl rfl (Nat.le_of_ble_eq_true rfl) ⟨Nat.le_of_ble_eq_true rfl, Nat.le_of_ble_eq_true rfl⟩ dX8_extend_108) hP hD hS hA [0, 1, 2, 3, 4, 5, 6, 7, 8] [] [0, 1, 2, 3, 4, 5, 6, 7, 8] rfl (wr := []) rfl (by decide) (by decide) (fun u => k_X8 E q0 u.1 ++ (k_X1 E q1 u.2)) (fun u => rfl) (by decide) (fun u_16 H locs hw hP hD hS => ?_)
        exact t_X8_extend_111 (l := l) hZ0 n_ REC hREC C0 hA hK hZ post hk_46 x3 x4 x5 u_16.1 u_16.2 _ _ _ hw hP hD hS (lv_sub hl [0, 1, 2, 3, 4] rfl)
set_option maxHeartbeats 4000000 in
set_option maxRecDepth 100000 in
theorem t_X8_extend_34 {p : Program} {l : Launch} {e : Env} {s : State} {m : MethodId} {args : Array Value} {below : List Frame} {meth : Method} {c : Code} {Z : zZ} {E : zE} {A : Nat → Prop} {q0 : Nat → Nat} {q1 : Nat → Nat} (hZ0 : zSt Z) (n_ : Nat) (REC : S_X8 → S_X1 → Int32 → Int32 → Int32 → ((S_X8 × S_X1) → Prop) → Prop) (hREC : ∀ (q0 : Nat → Nat) (q1 : Nat → Nat) (sz : Nat) (u0 : S_X8) (u1 : S_X1) (p2 : Int32) (p3 : Int32) (p4 : Int32) (post : (S_X8 × S_X1) → Prop), REC u0 u1 p2 p3 p4 post → Met l yX8_extend (zws yX8_extend cX8_extend 6 none) (r_X8_extend n_) (va_Pc [.ref (q0 0), .ref (q1 0), .int p2, .int p3, .int p4] (zPre Z E (k_X8 E q0 u0 ++ (k_X1 E q1 u1)) sz)) (va_Qv post (zAt E (va_A (k_X8 E q0 u0 ++ (k_X1 E q1 u1)) sz) (fun u => k_X8 E q0 u.1 ++ (k_X1 E q1 u.2))) (va_A (k_X8 E q0 u0 ++ (k_X1 E q1 u1)) sz)) 0 0 (va_A (k_X8 E q0 u0 ++ (k_X1 E q1 u1)) sz)) (C0 : zC p s m args meth c yX8_extend cX8_extend 6 none) (hA : ∀ q : Nat, s.heap.size ≤ q → A q) (hK : va_K (zD E) vwCl (zT E) s) (hZ : Z A s s.heap) (post : (S_X8 × S_X1) → Prop) : ∀ (x2 : Int32) (x3 : Int32) (x4 : Int32) (u0 : S_X8) (u1 : S_X1) (H : Heap) (locs : List Loc) (ls : Array Slot), j_X8_extend_34 REC x2 x3 x4 u0 u1 post → va_P (zD E) vwCl (k_X8 E q0 u0 ++ (k_X1 E q1 u1)) H → va_D A (k_X8 E q0 u0 ++ (k_X1 E q1 u1)) → va_S A s.heap H locs → lv_has ls 6 [(0, .ref (q0 0)), (1, .ref (q1 0)), (2, .int x2), (3, .int x3), (4, .int x4)] → W p l e (r_X8_extend (n_ + 1)) s m args below meth c H locs 0 0 (MQ below (va_Qv post (zAt E A (fun u => k_X8 E q0 u.1 ++ (k_X1 E q1 u.2))) A) args s 0 0 A) (F0 m 34 ls []) := by
  obtain ⟨hx, hb, hml, hr, hown, hts, hlocks, hin⟩ := id C0
  have hown : s.vm.findClass RX8 = some m.cls := hown
  intro x2 x3 x4 u0 u1 H locs ls hw hP hD hS hl
  refine lv_iload_n hx hb dX8_extend_34 rfl (lv_at hl 3 rfl) ?_
  refine lv_aload_n hx hb dX8_extend_35 rfl (lv_at hl 0 rfl) ?_
  refine va_get (D := zD E) (ci := 8) (v := .int u0.2.2.1) (C := RX8) (T := TX8) (N := 8) hx hb hts uw_X8 hown hK hP 0 rfl rfl 2 (by decide) (hts _ wm_2_83) (fun _ h9 => h9) rfl dX8_extend_36 ?_
  obtain ⟨hwt, hwf⟩ := hw
  refine lv_icmp_lt (tgt := 43) hx hb dX8_extend_39 (by decide) (fun c_5 => ?_) (fun c_5 => ?_)
  · have hw := hwt c_5
    refine lv_iload_n hx hb dX8_extend_43 rfl (lv_at hl 2 rfl) ?_
    refine lv_istore (lv' := [(5, .int x2), (0, .ref (q0 0)), (1, .ref (q1 0)), (2, .int x2), (3, .int x3), (4, .int x4)]) hx hb dX8_extend_44 hl (by decide) rfl (fun ls hl => ?_)
    obtain ⟨n9, hw⟩ := hw
    exact t_X8_extend_46 (l := l) hZ0 n_ REC hREC C0 hA hK hZ post n9 x3 x4 x2 u0 u1 _ _ _ hw hP hD hS (lv_sub hl [1, 2, 4, 5, 0] rfl)
  · have hw := hwf c_5
    exact z_vret (k := (fun u => k_X8 E q0 u.1 ++ (k_X1 E q1 u.2))) (u0, u1) C0 hP hD hS hw dX8_extend_42
set_option maxHeartbeats 4000000 in
set_option maxRecDepth 100000 in
theorem c_X8_extendB (l : Launch) (E : zE) (Z : zZ) (hZ0 : zSt Z) (n_ : Nat) (REC : S_X8 → S_X1 → Int32 → Int32 → Int32 → ((S_X8 × S_X1) → Prop) → Prop) (hREC : ∀ (q0 : Nat → Nat) (q1 : Nat → Nat) (sz : Nat) (u0 : S_X8) (u1 : S_X1) (p2 : Int32) (p3 : Int32) (p4 : Int32) (post : (S_X8 × S_X1) → Prop), REC u0 u1 p2 p3 p4 post → Met l yX8_extend (zws yX8_extend cX8_extend 6 none) (r_X8_extend n_) (va_Pc [.ref (q0 0), .ref (q1 0), .int p2, .int p3, .int p4] (zPre Z E (k_X8 E q0 u0 ++ (k_X1 E q1 u1)) sz)) (va_Qv post (zAt E (va_A (k_X8 E q0 u0 ++ (k_X1 E q1 u1)) sz) (fun u => k_X8 E q0 u.1 ++ (k_X1 E q1 u.2))) (va_A (k_X8 E q0 u0 ++ (k_X1 E q1 u1)) sz)) 0 0 (va_A (k_X8 E q0 u0 ++ (k_X1 E q1 u1)) sz)) (q0 : Nat → Nat) (q1 : Nat → Nat) (sz : Nat) (u0 : S_X8) (u1 : S_X1) (p2 : Int32) (p3 : Int32) (p4 : Int32) (post : (S_X8 × S_X1) → Prop) (hw : wp_X8_extendB REC u0 u1 p2 p3 p4 post) : Met l yX8_extend (zws yX8_extend cX8_extend 6 none) (r_X8_extend (n_ + 1)) (va_Pc [.ref (q0 0), .ref (q1 0), .int p2, .int p3, .int p4] (zPre Z E (k_X8 E q0 u0 ++ (k_X1 E q1 u1)) sz)) (va_Qv post (zAt E (va_A (k_X8 E q0 u0 ++ (k_X1 E q1 u1)) sz) (fun u => k_X8 E q0 u.1 ++ (k_X1 E q1 u.2))) (va_A (k_X8 E q0 u0 ++ (k_X1 E q1 u1)) sz)) 0 0 (va_A (k_X8 E q0 u0 ++ (k_X1 E q1 u1)) sz) := by
  refine z_ofW (Qf := fun A => va_Qv post (zAt E A (fun u => k_X8 E q0 u.1 ++ (k_X1 E q1 u.2))) A) (by decide) (Nat.le_of_ble_eq_true rfl) ?_
  intro p e s m args below meth c A ls C0 hA hK hZ hP hD hS hl
  obtain ⟨hx, hb, hml, hr, hown, hts, hlocks, hin⟩ := id C0
  have hown : s.vm.findClass RX8 = some m.cls := hown
  have hl : lv_has ls 6 [(0, .ref (q0 0)), (1, .ref (q1 0)), (2, .int p2), (3, .int p3), (4, .int p4)] := hl
  refine lv_iload hx hb dX8_extend_0 (lv_at hl 4 rfl) ?_
  refine lv_aload_n hx hb dX8_extend_2 rfl (lv_at hl 0 rfl) ?_
  refine va_get (D := zD E) (ci := 8) (v := .int u0.2.2.2.2.2.2.2) (C := RX8) (T := TX8) (N := 8) hx hb hts uw_X8 hown hK hP 0 rfl rfl 7 (by decide) (hts _ wm_2_88) (fun _ h9 => h9) rfl dX8_extend_3 ?_
  obtain ⟨hwt, hwf⟩ := hw
  refine lv_icmp_le (tgt := 34) hx hb dX8_extend_6 (by decide) (fun c_1 => ?_) (fun c_1 => ?_)
  · have hw := hwt c_1
    exact t_X8_extend_34 (l := l) hZ0 n_ REC hREC C0 hA hK hZ post p2 p3 p4 u0 u1 _ _ _ hw hP hD hS (lv_sub hl [0, 1, 2, 3, 4] rfl)
  · have hw := hwf c_1
    refine lv_aload_n hx hb dX8_extend_9 rfl (lv_at hl 0 rfl) ?_
    refine lv_iload hx hb dX8_extend_10 (lv_at hl 4 rfl) ?_
    refine va_put (D := zD E) (ci := 8) (v := .int p4) (ty := .int) (C := RX8) (T := TX8) (N := 8) hx hb hts uw_X8 tyX8 tyX8_ok nmX8 hown hK hP hD hS 0 rfl rfl 7 (by decide) (hts _ wm_2_88) (fun _ h9 => h9) rfl (by decide +kernel) rfl rfl (Nat.le_of_ble_eq_true rfl) dX8_extend_12 (fun H locs hP hD hS => ?_)
    have hP : va_P (zD E) vwCl (k_X8 E q0 (u0.1, u0.2.1, u0.2.2.1, u0.2.2.2.1, u0.2.2.2.2.1, u0.2.2.2.2.2.1, u0.2.2.2.2.2.2.1, p4) ++ (k_X1 E q1 u1)) H := hP
    have hD : va_D A (k_X8 E q0 (u0.1, u0.2.1, u0.2.2.1, u0.2.2.2.1, u0.2.2.2.2.1, u0.2.2.2.2.2.1, u0.2.2.2.2.2.2.1, p4) ++ (k_X1 E q1 u1)) := hD
    refine lv_aload_n hx hb dX8_extend_15 rfl (lv_at hl 0 rfl) ?_
    refine lv_iload_n hx hb dX8_extend_16 rfl (lv_at hl 3 rfl) ?_
    refine va_put (D := zD E) (ci := 8) (v := .int p3) (ty := .int) (C := RX8) (T := TX8) (N := 8) hx hb hts uw_X8 tyX8 tyX8_ok nmX8 hown hK hP hD hS 0 rfl rfl 6 (by decide) (hts _ wm_2_87) (fun _ h9 => h9) rfl (by decide +kernel) rfl rfl (Nat.le_of_ble_eq_true rfl) dX8_extend_17 (fun H locs hP hD hS => ?_)
    have hP : va_P (zD E) vwCl (k_X8 E q0 (u0.1, u0.2.1, u0.2.2.1, u0.2.2.2.1, u0.2.2.2.2.1, u0.2.2.2.2.2.1, p3, p4) ++ (k_X1 E q1 u1)) H := hP
    have hD : va_D A (k_X8 E q0 (u0.1, u0.2.1, u0.2.2.1, u0.2.2.2.1, u0.2.2.2.2.1, u0.2.2.2.2.2.1, p3, p4) ++ (k_X1 E q1 u1)) := hD
    refine lv_aload_n hx hb dX8_extend_20 rfl (lv_at hl 0 rfl) ?_
    refine va_get (D := zD E) (ci := 8) (v := .ref (q0 2)) (C := RX8) (T := TX8) (N := 8) hx hb hts uw_X8 hown hK hP 0 rfl rfl 4 (by decide) (hts _ wm_2_85) (fun _ h9 => h9) rfl dX8_extend_21 ?_
    refine lv_iconst (v := 0) hx hb dX8_extend_24 rfl ?_
    refine lv_aload_n hx hb dX8_extend_25 rfl (lv_at hl 0 rfl) ?_
    refine va_get (D := zD E) (ci := 8) (v := .ref (q0 3)) (C := RX8) (T := TX8) (N := 8) hx hb hts uw_X8 hown hK hP 0 rfl rfl 5 (by decide) (hts _ wm_2_86) (fun _ h9 => h9) rfl dX8_extend_26 ?_
    refine lv_iconst (v := 0) hx hb dX8_extend_29 rfl ?_
    refine lv_iload_n hx hb dX8_extend_30 rfl (lv_at hl 3 rfl) ?_
    obtain ⟨h_2, hw⟩ := hw
    obtain ⟨h_3, hw⟩ := hw
    obtain ⟨h_4, hw⟩ := hw
    refine va_copyi hx hb (hml.trans hl.1.symm) hown (hts _ wm_2_205) (hts _ wm_2_207) (hts _ wm_2_206) (hts _ wm_1_22) hK hP hD hS 2 3 0 0 rfl rfl rfl rfl rfl (by decide) (by decide) h_2 h_3 h_4 (fun _ _ => rfl) (Nat.le_trans (m := 10) (Nat.le_of_ble_eq_true rfl) (Nat.le_add_left 10 _)) (Nat.le_trans (m := 300) (Nat.le_of_ble_eq_true rfl) (Nat.le_add_left 300 _)) dX8_extend_31 (fun H locs hP hD hS => ?_)
    have hP : va_P (zD E) vwCl (k_X8 E q0 (u0.1, u0.2.1, u0.2.2.1, u0.2.2.2.1, u0.2.2.2.2.1, (va_cpy u0.2.2.2.2.1 u0.2.2.2.2.2.1 0 0 p3.toNatClampNeg), p3, p4) ++ (k_X1 E q1 u1)) H := hP
    have hD : va_D A (k_X8 E q0 (u0.1, u0.2.1, u0.2.2.1, u0.2.2.2.1, u0.2.2.2.2.1, (va_cpy u0.2.2.2.2.1 u0.2.2.2.2.2.1 0 0 p3.toNatClampNeg), p3, p4) ++ (k_X1 E q1 u1)) := hD
    exact t_X8_extend_34 (l := l) hZ0 n_ REC hREC C0 hA hK hZ post p2 p3 p4 (u0.1, u0.2.1, u0.2.2.1, u0.2.2.2.1, u0.2.2.2.2.1, (va_cpy u0.2.2.2.2.1 u0.2.2.2.2.2.1 0 0 p3.toNatClampNeg), p3, p4) u1 _ _ _ hw hP hD hS (lv_sub hl [0, 1, 2, 3, 4] rfl)
def wp_X8_extend : Nat → S_X8 → S_X1 → Int32 → Int32 → Int32 → ((S_X8 × S_X1) → Prop) → Prop
  | 0, _, _, _, _, _, _ => False
  | n + 1, u0, u1, p2, p3, p4, post => wp_X8_extendB (wp_X8_extend n) u0 u1 p2 p3 p4 post
theorem c_X8_extend (l : Launch) (E : zE) (Z : zZ) (hZ0 : zSt Z) : ∀ (n_ : Nat), ∀ (q0 : Nat → Nat) (q1 : Nat → Nat) (sz : Nat) (u0 : S_X8) (u1 : S_X1) (p2 : Int32) (p3 : Int32) (p4 : Int32) (post : (S_X8 × S_X1) → Prop), wp_X8_extend n_ u0 u1 p2 p3 p4 post → Met l yX8_extend (zws yX8_extend cX8_extend 6 none) (r_X8_extend n_) (va_Pc [.ref (q0 0), .ref (q1 0), .int p2, .int p3, .int p4] (zPre Z E (k_X8 E q0 u0 ++ (k_X1 E q1 u1)) sz)) (va_Qv post (zAt E (va_A (k_X8 E q0 u0 ++ (k_X1 E q1 u1)) sz) (fun u => k_X8 E q0 u.1 ++ (k_X1 E q1 u.2))) (va_A (k_X8 E q0 u0 ++ (k_X1 E q1 u1)) sz)) 0 0 (va_A (k_X8 E q0 u0 ++ (k_X1 E q1 u1)) sz) := by
  intro n_
  induction n_ with
  | zero => intro q0 q1 sz u0 u1 p2 p3 p4 post hw; exact hw.elim
  | succ n ih => intro q0 q1 sz u0 u1 p2 p3 p4 post hw; exact c_X8_extendB l E Z hZ0 n (wp_X8_extend n) ih q0 q1 sz u0 u1 p2 p3 p4 post hw
abbrev r_X8_run : Room := { frames := 17, cells := 0, slots := 0, locals := 805 }
def j_X8_run_88 (K42 : (Int32 × S_X8 × S_X7 × S_X1) → Prop) (x3 : Int32) (u0 : S_X8) (u1 : S_X7) (u2 : S_X1) (post : (S_X8 × S_X7 × S_X1) → Prop) : Prop := ∀ x_12 : Int32, x_12 = x3 + 1 → (K42 (x_12, u0, u1, u2))
def j_X8_run_42 (K42 : (Int32 × S_X8 × S_X7 × S_X1) → Prop) (x3 : Int32) (u0 : S_X8) (u1 : S_X7) (u2 : S_X1) (post : (S_X8 × S_X7 × S_X1) → Prop) : Prop := (u2.1 ≤ x3 → (wp_X8_extend 6 u0 u2 (0 : Int32) (0 : Int32) (0 : Int32) (fun u_3 => post (u_3.1, u1, u_3.2)))) ∧ (¬ (u2.1 ≤ x3) → (vp_in x3 20 ∧ (((u2.2.2.2.2.2.1 x3.toNatClampNeg) ≤ 0 → (j_X8_run_88 K42 x3 u0 u1 u2 post)) ∧ (¬ ((u2.2.2.2.2.2.1 x3.toNatClampNeg) ≤ 0) → (wp_X1_canBeWaived u2 u1 x3 (fun r_8 u_7 => (r_8 = 0 → (j_X8_run_88 K42 x3 u0 u_7.2 u_7.1 post)) ∧ (¬ (r_8 = 0) → (vp_in u0.2.1 20 ∧ (∀ x_11 : Int32, x_11 = (u0.2.1 + (1 : Int32)) → (j_X8_run_88 K42 x3 ((upd u0.1 u0.2.1.toNatClampNeg x3), x_11, u0.2.2.1, u0.2.2.2.1, u0.2.2.2.2.1, u0.2.2.2.2.2.1, u0.2.2.2.2.2.2.1, u0.2.2.2.2.2.2.2) u_7.2 u_7.1 post))))))))))
def wp_X8_run (u0 : S_X8) (u1 : S_X7) (u2 : S_X1) (post : (S_X8 × S_X7 × S_X1) → Prop) : Prop := ∀ x_1 : Int32, x_1 = (if (4 : Int32) < (u1.2.2.2.2.2.2.2.2.1 - u2.2.2.1) then (4 : Int32) else (u1.2.2.2.2.2.2.2.2.1 - u2.2.2.1)) → (∃ n, zl (fun K st => j_X8_run_42 K st.1 st.2.1 st.2.2.1 st.2.2.2 post) n ((0 : Int32), (u0.1, (0 : Int32), x_1, u1.2.2.2.2.2.2.2.2.2.1, u0.2.2.2.2.1, u0.2.2.2.2.2.1, (0 : Int32), (0 : Int32)), u1, u2))
set_option maxHeartbeats 4000000 in
set_option maxRecDepth 100000 in
theorem t_X8_run_88 {p : Program} {l : Launch} {e : Env} {s : State} {m : MethodId} {args : Array Value} {below : List Frame} {meth : Method} {c : Code} {Z : zZ} {E : zE} {A : Nat → Prop} {q0 : Nat → Nat} {q1 : Nat → Nat} {q2 : Nat → Nat} (hZ0 : zSt Z) (C0 : zC p s m args meth c yX8_run cX8_run 4 none) (hA : ∀ q : Nat, s.heap.size ≤ q → A q) (hK : va_K (zD E) vwCl (zT E) s) (hZ : Z A s s.heap) (post : (S_X8 × S_X7 × S_X1) → Prop) {K42 : (Int32 × S_X8 × S_X7 × S_X1) → Prop} (hk_42 : ∀ (x3 : Int32) (u0 : S_X8) (u1 : S_X7) (u2 : S_X1) (H : Heap) (locs : List Loc) (ls : Array Slot), K42 (x3, u0, u1, u2) → va_P (zD E) vwCl (k_X8 E q0 u0 ++ (k_X7 E q1 u1 ++ (k_X1 E q2 u2))) H → va_D A (k_X8 E q0 u0 ++ (k_X7 E q1 u1 ++ (k_X1 E q2 u2))) → va_S A s.heap H locs → lv_has ls 4 [(0, .ref (q0 0)), (1, .ref (q1 0)), (2, .ref (q2 0)), (3, .int x3)] → W p l e r_X8_run s m args below meth c H locs 0 0 (MQ below (va_Qv post (zAt E A (fun u => k_X8 E q0 u.1 ++ (k_X7 E q1 u.2.1 ++ (k_X1 E q2 u.2.2)))) A) args s 0 0 A) (F0 m 42 ls [])) : ∀ (x3 : Int32) (u0 : S_X8) (u1 : S_X7) (u2 : S_X1) (H : Heap) (locs : List Loc) (ls : Array Slot), j_X8_run_88 K42 x3 u0 u1 u2 post → va_P (zD E) vwCl (k_X8 E q0 u0 ++ (k_X7 E q1 u1 ++ (k_X1 E q2 u2))) H → va_D A (k_X8 E q0 u0 ++ (k_X7 E q1 u1 ++ (k_X1 E q2 u2))) → va_S A s.heap H locs → lv_has ls 4 [(0, .ref (q0 0)), (1, .ref (q1 0)), (2, .ref (q2 0)), (3, .int x3)] → W p l e r_X8_run s m args below meth c H locs 0 0 (MQ below (va_Qv post (zAt E A (fun u => k_X8 E q0 u.1 ++ (k_X7 E q1 u.2.1 ++ (k_X1 E q2 u.2.2)))) A) args s 0 0 A) (F0 m 88 ls []) := by
  obtain ⟨hx, hb, hml, hr, hown, hts, hlocks, hin⟩ := id C0
  have hown : s.vm.findClass RX8 = some m.cls := hown
  intro x3 u0 u1 u2 H locs ls hw hP hD hS hl
  obtain ⟨x_12, ex_12⟩ : ∃ y : Int32, y = x3 + 1 := ⟨_, rfl⟩
  have hw := hw x_12 ex_12
  refine lv_iinc (v := x_12) (lv' := [(3, .int x_12), (0, .ref (q0 0)), (1, .ref (q1 0)), (2, .ref (q2 0))]) hx hb dX8_run_88 hl (k := 3) rfl (by rw [ex_12]; rfl) (by decide) rfl (fun ls hl => ?_)
  refine lv_goto (tgt := 42) hx hb dX8_run_91 (by decide) ?_
  exact hk_42 x_12 u0 u1 u2 _ _ _ hw hP hD hS (lv_sub hl [1, 2, 3, 0] rfl)
set_option maxHeartbeats 4000000 in
set_option maxRecDepth 100000 in
theorem t_X8_run_42 {p : Program} {l : Launch} {e : Env} {s : State} {m : MethodId} {args : Array Value} {below : List Frame} {meth : Method} {c : Code} {Z : zZ} {E : zE} {A : Nat → Prop} {q0 : Nat → Nat} {q1 : Nat → Nat} {q2 : Nat → Nat} (hZ0 : zSt Z) (C0 : zC p s m args meth c yX8_run cX8_run 4 none) (hA : ∀ q : Nat, s.heap.size ≤ q → A q) (hK : va_K (zD E) vwCl (zT E) s) (hZ : Z A s s.heap) (post : (S_X8 × S_X7 × S_X1) → Prop) : ∀ (n : Nat) (x3 : Int32) (u0 : S_X8) (u1 : S_X7) (u2 : S_X1) (H : Heap) (locs : List Loc) (ls : Array Slot), zl (fun K st => j_X8_run_42 K st.1 st.2.1 st.2.2.1 st.2.2.2 post) n (x3, u0, u1, u2) → va_P (zD E) vwCl (k_X8 E q0 u0 ++ (k_X7 E q1 u1 ++ (k_X1 E q2 u2))) H → va_D A (k_X8 E q0 u0 ++ (k_X7 E q1 u1 ++ (k_X1 E q2 u2))) → va_S A s.heap H locs → lv_has ls 4 [(0, .ref (q0 0)), (1, .ref (q1 0)), (2, .ref (q2 0)), (3, .int x3)] → W p l e r_X8_run s m args below meth c H locs 0 0 (MQ below (va_Qv post (zAt E A (fun u => k_X8 E q0 u.1 ++ (k_X7 E q1 u.2.1 ++ (k_X1 E q2 u.2.2)))) A) args s 0 0 A) (F0 m 42 ls []) := by
  obtain ⟨hx, hb, hml, hr, hown, hts, hlocks, hin⟩ := id C0
  have hown : s.vm.findClass RX8 = some m.cls := hown
  intro n
  induction n with
  | zero => intro x3 u0 u1 u2 H locs ls hw; exact hw.elim
  | succ n hk_42 =>
    intro x3 u0 u1 u2 H locs ls hw hP hD hS hl
    have hw : j_X8_run_42 _ x3 u0 u1 u2 post := hw
    refine lv_iload_n hx hb dX8_run_42 rfl (lv_at hl 3 rfl) ?_
    refine lv_aload_n hx hb dX8_run_43 rfl (lv_at hl 2 rfl) ?_
    refine va_getN (D := zD E) (ci := 1) (v := .int u2.1) (C := RX1) (T := TX1) (N := 7) hx hb hts uw_X1 hown hK hP 9 rfl rfl 0 (by decide) (hts _ wm_1_167) (fun _ h9 => h9) rfl dX8_run_44 ?_
    obtain ⟨hwt, hwf⟩ := hw
    refine lv_icmp_ge (tgt := 94) hx hb dX8_run_47 (by decide) (fun c_2 => ?_) (fun c_2 => ?_)
    · have hw := hwt c_2
      refine lv_aload_n hx hb dX8_run_94 rfl (lv_at hl 0 rfl) ?_
      refine lv_aload_n hx hb dX8_run_95 rfl (lv_at hl 2 rfl) ?_
      refine lv_iconst (v := 0) hx hb dX8_run_96 rfl ?_
      refine lv_iconst (v := 0) hx hb dX8_run_97 rfl ?_
      refine lv_iconst (v := 0) hx hb dX8_run_98 rfl ?_
      refine z_kv (z_rV (rest := []) hZ0 C0 hK hZ hA hP hD hS hl.1 (c_X8_extend l E Z hZ0 6 q0 q2 H.size u0 u2 (0 : Int32) (0 : Int32) (0 : Int32) _ hw) yv_X8_64 [0, 1, 2, 3, 9, 10, 11, 12, 13] rfl (by decide) (ci := 8) rfl rfl 0 rfl ⟨Nat.le_of_ble_eq_true rfl, Nat.le_of_ble_eq_true rfl⟩ ⟨rfl, rfl⟩ rfl rfl (Nat.le_of_ble_eq_true rfl) ⟨Nat.le_of_ble_eq_true rfl, Nat.le_of_ble_eq_true rfl⟩ dX8_run_99) hP hD hS hA [0, 1, 2, 3, 9, 10, 11, 12, 13] [4, 5, 6, 7, 8] [5, 6, 7, 8, 0, 1, 2, 3, 4, 9, 10, 11, 12, 13] rfl (wr := [_, _, _, _, _]) rfl (by decide) (by decide) (fun u => k_X8 E q0 u.1 ++ (k_X7 E q1 u1 ++ (k_X1 E q2 u.2))) (fun u => rfl) (by decide) (fun u_3 H locs hw hP hD hS => ?_)
      exact z_vret (k := (fun u => k_X8 E q0 u.1 ++ (k_X7 E q1 u.2.1 ++ (k_X1 E q2 u.2.2)))) (u_3.1, u1, u_3.2) C0 hP hD hS hw dX8_run_102
    · have hw := hwf c_2
      refine lv_aload_n hx hb dX8_run_50 rfl (lv_at hl 2 rfl) ?_
      refine va_getN (D := zD E) (ci := 1) (v := .ref (q2 3)) (C := RX1) (T := TX1) (N := 7) hx hb hts uw_X1 hown hK hP 9 rfl rfl 5 (by decide) (hts _ wm_1_179) (fun _ h9 => h9) rfl dX8_run_51 ?_
      refine lv_iload_n hx hb dX8_run_54 rfl (lv_at hl 3 rfl) ?_
      obtain ⟨h_5, hw⟩ := hw
      refine va_iald hx hb hK hP 12 0 rfl rfl h_5 dX8_run_55 ?_
      obtain ⟨hwt, hwf⟩ := hw
      refine lv_if_le (tgt := 88) hx hb dX8_run_56 (by decide) (fun c_6 => ?_) (fun c_6 => ?_)
      · have hw := hwt c_6
        exact t_X8_run_88 (l := l) hZ0 C0 hA hK hZ post hk_42 x3 u0 u1 u2 _ _ _ hw hP hD hS (lv_sub hl [0, 1, 2, 3] rfl)
      · have hw := hwf c_6
        refine lv_aload_n hx hb dX8_run_59 rfl (lv_at hl 2 rfl) ?_
        refine lv_iload_n hx hb dX8_run_60 rfl (lv_at hl 3 rfl) ?_
        refine lv_aload_n hx hb dX8_run_61 rfl (lv_at hl 1 rfl) ?_
        refine z_ki (z_rN (rest := []) hZ0 C0 hK hZ hA hP hD hS hl.1 (c_X1_canBeWaived l E Z hZ0 q2 q1 H.size u2 u1 x3 _ hw) yv_X8_60 [9, 10, 11, 12, 13, 4, 5, 6, 7, 8] rfl (by decide) (ci := 1) rfl rfl 9 rfl ⟨Nat.le_of_ble_eq_true rfl, Nat.le_of_ble_eq_true rfl⟩ ⟨rfl, rfl⟩ rfl rfl (Nat.le_of_ble_eq_true rfl) ⟨Nat.le_of_ble_eq_true rfl, Nat.le_of_ble_eq_true rfl⟩ dX8_run_62) hP hD hS hA [9, 10, 11, 12, 13, 4, 5, 6, 7, 8] [0, 1, 2, 3] [0, 1, 2, 3, 9, 10, 11, 12, 13, 4, 5, 6, 7, 8] rfl (wr := [_, _, _, _]) rfl (by decide) (by decide) (fun u => k_X8 E q0 u0 ++ (k_X7 E q1 u.2 ++ (k_X1 E q2 u.1))) (fun u => rfl) (by decide) (fun r_8 u_7 H locs hw hP hD hS => ?_)
        obtain ⟨hwt, hwf⟩ := hw
        refine lv_if_eq (tgt := 88) hx hb dX8_run_65 (by decide) (fun c_9 => ?_) (fun c_9 => ?_)
        · have hw := hwt c_9
          exact t_X8_run_88 (l := l) hZ0 C0 hA hK hZ post hk_42 x3 u0 u_7.2 u_7.1 _ _ _ hw hP hD hS (lv_sub hl [0, 1, 2, 3] rfl)
        · have hw := hwf c_9
          refine lv_aload_n hx hb dX8_run_68 rfl (lv_at hl 0 rfl) ?_
          refine va_get (D := zD E) (ci := 8) (v := .ref (q0 1)) (C := RX8) (T := TX8) (N := 8) hx hb hts uw_X8 hown hK hP 0 rfl rfl 0 (by decide) (hts _ wm_2_81) (fun _ h9 => h9) rfl dX8_run_69 ?_
          refine lv_aload_n hx hb dX8_run_72 rfl (lv_at hl 0 rfl) ?_
          refine va_get (D := zD E) (ci := 8) (v := .int u0.2.1) (C := RX8) (T := TX8) (N := 8) hx hb hts uw_X8 hown hK hP 0 rfl rfl 1 (by decide) (hts _ wm_2_82) (fun _ h9 => h9) rfl dX8_run_73 ?_
          refine lv_iload_n hx hb dX8_run_76 rfl (lv_at hl 3 rfl) ?_
          obtain ⟨h_10, hw⟩ := hw
          refine va_iast hx hb hK hP hD hS 1 0 rfl rfl h_10 dX8_run_77 (fun H locs hP hD hS => ?_)
          have hP : va_P (zD E) vwCl (k_X8 E q0 ((upd u0.1 u0.2.1.toNatClampNeg x3), u0.2.1, u0.2.2.1, u0.2.2.2.1, u0.2.2.2.2.1, u0.2.2.2.2.2.1, u0.2.2.2.2.2.2.1, u0.2.2.2.2.2.2.2) ++ (k_X7 E q1 u_7.2 ++ (k_X1 E q2 u_7.1))) H := hP
          have hD : va_D A (k_X8 E q0 ((upd u0.1 u0.2.1.toNatClampNeg x3), u0.2.1, u0.2.2.1, u0.2.2.2.1, u0.2.2.2.2.1, u0.2.2.2.2.2.1, u0.2.2.2.2.2.2.1, u0.2.2.2.2.2.2.2) ++ (k_X7 E q1 u_7.2 ++ (k_X1 E q2 u_7.1))) := hD
          refine lv_aload_n hx hb dX8_run_78 rfl (lv_at hl 0 rfl) ?_
          refine lv_dup hx hb dX8_run_79 rfl ?_
          refine va_get (D := zD E) (ci := 8) (v := .int u0.2.1) (C := RX8) (T := TX8) (N := 8) hx hb hts uw_X8 hown hK hP 0 rfl rfl 1 (by decide) (hts _ wm_2_82) (fun _ h9 => h9) rfl dX8_run_80 ?_
          refine lv_iconst (v := 1) hx hb dX8_run_83 rfl ?_
          refine lv_iadd hx hb dX8_run_84 ?_
          refine lv_topi (fun x_11 ex_11 => ?_)
          have hw := hw x_11 ex_11
          refine va_put (D := zD E) (ci := 8) (v := .int x_11) (ty := .int) (C := RX8) (T := TX8) (N := 8) hx hb hts uw_X8 tyX8 tyX8_ok nmX8 hown hK hP hD hS 0 rfl rfl 1 (by decide) (hts _ wm_2_82) (fun _ h9 => h9) rfl (by decide +kernel) rfl rfl (Nat.le_of_ble_eq_true rfl) dX8_run_85 (fun H locs hP hD hS => ?_)
          have hP : va_P (zD E) vwCl (k_X8 E q0 ((upd u0.1 u0.2.1.toNatClampNeg x3), x_11, u0.2.2.1, u0.2.2.2.1, u0.2.2.2.2.1, u0.2.2.2.2.2.1, u0.2.2.2.2.2.2.1, u0.2.2.2.2.2.2.2) ++ (k_X7 E q1 u_7.2 ++ (k_X1 E q2 u_7.1))) H := hP
          have hD : va_D A (k_X8 E q0 ((upd u0.1 u0.2.1.toNatClampNeg x3), x_11, u0.2.2.1, u0.2.2.2.1, u0.2.2.2.2.1, u0.2.2.2.2.2.1, u0.2.2.2.2.2.2.1, u0.2.2.2.2.2.2.2) ++ (k_X7 E q1 u_7.2 ++ (k_X1 E q2 u_7.1))) := hD
          exact t_X8_run_88 (l := l) hZ0 C0 hA hK hZ post hk_42 x3 ((upd u0.1 u0.2.1.toNatClampNeg x3), x_11, u0.2.2.1, u0.2.2.2.1, u0.2.2.2.2.1, u0.2.2.2.2.2.1, u0.2.2.2.2.2.2.1, u0.2.2.2.2.2.2.2) u_7.2 u_7.1 _ _ _ hw hP hD hS (lv_sub hl [0, 1, 2, 3] rfl)
set_option maxHeartbeats 4000000 in
set_option maxRecDepth 100000 in
theorem c_X8_run (l : Launch) (E : zE) (Z : zZ) (hZ0 : zSt Z) (q0 : Nat → Nat) (q1 : Nat → Nat) (q2 : Nat → Nat) (sz : Nat) (u0 : S_X8) (u1 : S_X7) (u2 : S_X1) (post : (S_X8 × S_X7 × S_X1) → Prop) (hw : wp_X8_run u0 u1 u2 post) : Met l yX8_run (zws yX8_run cX8_run 4 none) r_X8_run (va_Pc [.ref (q0 0), .ref (q1 0), .ref (q2 0)] (zPre Z E (k_X8 E q0 u0 ++ (k_X7 E q1 u1 ++ (k_X1 E q2 u2))) sz)) (va_Qv post (zAt E (va_A (k_X8 E q0 u0 ++ (k_X7 E q1 u1 ++ (k_X1 E q2 u2))) sz) (fun u => k_X8 E q0 u.1 ++ (k_X7 E q1 u.2.1 ++ (k_X1 E q2 u.2.2)))) (va_A (k_X8 E q0 u0 ++ (k_X7 E q1 u1 ++ (k_X1 E q2 u2))) sz)) 0 0 (va_A (k_X8 E q0 u0 ++ (k_X7 E q1 u1 ++ (k_X1 E q2 u2))) sz) := by
  refine z_ofW (Qf := fun A => va_Qv post (zAt E A (fun u => k_X8 E q0 u.1 ++ (k_X7 E q1 u.2.1 ++ (k_X1 E q2 u.2.2)))) A) (by decide) (Nat.le_of_ble_eq_true rfl) ?_
  intro p e s m args below meth c A ls C0 hA hK hZ hP hD hS hl
  obtain ⟨hx, hb, hml, hr, hown, hts, hlocks, hin⟩ := id C0
  have hown : s.vm.findClass RX8 = some m.cls := hown
  have hl : lv_has ls 4 [(0, .ref (q0 0)), (1, .ref (q1 0)), (2, .ref (q2 0))] := hl
  refine lv_aload_n hx hb dX8_run_0 rfl (lv_at hl 0 rfl) ?_
  refine lv_aload_n hx hb dX8_run_1 rfl (lv_at hl 1 rfl) ?_
  refine va_getN (D := zD E) (ci := 7) (v := .int u1.2.2.2.2.2.2.2.2.1) (C := RX7) (T := TX7) (N := 16) hx hb hts uw_X7 hown hK hP 4 rfl rfl 8 (by decide) (hts _ wm_1_71) (fun _ h9 => h9) rfl dX8_run_2 ?_
  refine lv_aload_n hx hb dX8_run_5 rfl (lv_at hl 2 rfl) ?_
  refine va_getN (D := zD E) (ci := 1) (v := .int u2.2.2.1) (C := RX1) (T := TX1) (N := 7) hx hb hts uw_X1 hown hK hP 9 rfl rfl 2 (by decide) (hts _ wm_1_172) (fun _ h9 => h9) rfl dX8_run_6 ?_
  refine lv_isub hx hb dX8_run_9 ?_
  refine lv_iconst (v := 4) hx hb dX8_run_10 rfl ?_
  refine va_mmin hx hb (hml.trans hl.1.symm) hown (hts _ wm_2_183) (hts _ wm_2_184) (hts _ wm_1_16) (hts _ wm_2_185) (Nat.le_of_ble_eq_true rfl) (Nat.le_of_ble_eq_true rfl) (Nat.le_of_ble_eq_true rfl) (Nat.le_of_ble_eq_true rfl) dX8_run_11 ?_
  refine lv_topi (fun x_1 ex_1 => ?_)
  have hw := hw x_1 ex_1
  refine va_put (D := zD E) (ci := 8) (v := .int x_1) (ty := .int) (C := RX8) (T := TX8) (N := 8) hx hb hts uw_X8 tyX8 tyX8_ok nmX8 hown hK hP hD hS 0 rfl rfl 2 (by decide) (hts _ wm_2_83) (fun _ h9 => h9) rfl (by decide +kernel) rfl rfl (Nat.le_of_ble_eq_true rfl) dX8_run_14 (fun H locs hP hD hS => ?_)
  have hP : va_P (zD E) vwCl (k_X8 E q0 (u0.1, u0.2.1, x_1, u0.2.2.2.1, u0.2.2.2.2.1, u0.2.2.2.2.2.1, u0.2.2.2.2.2.2.1, u0.2.2.2.2.2.2.2) ++ (k_X7 E q1 u1 ++ (k_X1 E q2 u2))) H := hP
  have hD : va_D A (k_X8 E q0 (u0.1, u0.2.1, x_1, u0.2.2.2.1, u0.2.2.2.2.1, u0.2.2.2.2.2.1, u0.2.2.2.2.2.2.1, u0.2.2.2.2.2.2.2) ++ (k_X7 E q1 u1 ++ (k_X1 E q2 u2))) := hD
  refine lv_aload_n hx hb dX8_run_17 rfl (lv_at hl 0 rfl) ?_
  refine lv_aload_n hx hb dX8_run_18 rfl (lv_at hl 1 rfl) ?_
  refine va_getN (D := zD E) (ci := 7) (v := .int u1.2.2.2.2.2.2.2.2.2.1) (C := RX7) (T := TX7) (N := 16) hx hb hts uw_X7 hown hK hP 4 rfl rfl 9 (by decide) (hts _ wm_1_76) (fun _ h9 => h9) rfl dX8_run_19 ?_
  refine va_put (D := zD E) (ci := 8) (v := .int u1.2.2.2.2.2.2.2.2.2.1) (ty := .int) (C := RX8) (T := TX8) (N := 8) hx hb hts uw_X8 tyX8 tyX8_ok nmX8 hown hK hP hD hS 0 rfl rfl 3 (by decide) (hts _ wm_2_84) (fun _ h9 => h9) rfl (by decide +kernel) rfl rfl (Nat.le_of_ble_eq_true rfl) dX8_run_22 (fun H locs hP hD hS => ?_)
  have hP : va_P (zD E) vwCl (k_X8 E q0 (u0.1, u0.2.1, x_1, u1.2.2.2.2.2.2.2.2.2.1, u0.2.2.2.2.1, u0.2.2.2.2.2.1, u0.2.2.2.2.2.2.1, u0.2.2.2.2.2.2.2) ++ (k_X7 E q1 u1 ++ (k_X1 E q2 u2))) H := hP
  have hD : va_D A (k_X8 E q0 (u0.1, u0.2.1, x_1, u1.2.2.2.2.2.2.2.2.2.1, u0.2.2.2.2.1, u0.2.2.2.2.2.1, u0.2.2.2.2.2.2.1, u0.2.2.2.2.2.2.2) ++ (k_X7 E q1 u1 ++ (k_X1 E q2 u2))) := hD
  refine lv_aload_n hx hb dX8_run_25 rfl (lv_at hl 0 rfl) ?_
  refine lv_iconst (v := 0) hx hb dX8_run_26 rfl ?_
  refine va_put (D := zD E) (ci := 8) (v := .int (0 : Int32)) (ty := .int) (C := RX8) (T := TX8) (N := 8) hx hb hts uw_X8 tyX8 tyX8_ok nmX8 hown hK hP hD hS 0 rfl rfl 6 (by decide) (hts _ wm_2_87) (fun _ h9 => h9) rfl (by decide +kernel) rfl rfl (Nat.le_of_ble_eq_true rfl) dX8_run_27 (fun H locs hP hD hS => ?_)
  have hP : va_P (zD E) vwCl (k_X8 E q0 (u0.1, u0.2.1, x_1, u1.2.2.2.2.2.2.2.2.2.1, u0.2.2.2.2.1, u0.2.2.2.2.2.1, (0 : Int32), u0.2.2.2.2.2.2.2) ++ (k_X7 E q1 u1 ++ (k_X1 E q2 u2))) H := hP
  have hD : va_D A (k_X8 E q0 (u0.1, u0.2.1, x_1, u1.2.2.2.2.2.2.2.2.2.1, u0.2.2.2.2.1, u0.2.2.2.2.2.1, (0 : Int32), u0.2.2.2.2.2.2.2) ++ (k_X7 E q1 u1 ++ (k_X1 E q2 u2))) := hD
  refine lv_aload_n hx hb dX8_run_30 rfl (lv_at hl 0 rfl) ?_
  refine lv_iconst (v := 0) hx hb dX8_run_31 rfl ?_
  refine va_put (D := zD E) (ci := 8) (v := .int (0 : Int32)) (ty := .int) (C := RX8) (T := TX8) (N := 8) hx hb hts uw_X8 tyX8 tyX8_ok nmX8 hown hK hP hD hS 0 rfl rfl 7 (by decide) (hts _ wm_2_88) (fun _ h9 => h9) rfl (by decide +kernel) rfl rfl (Nat.le_of_ble_eq_true rfl) dX8_run_32 (fun H locs hP hD hS => ?_)
  have hP : va_P (zD E) vwCl (k_X8 E q0 (u0.1, u0.2.1, x_1, u1.2.2.2.2.2.2.2.2.2.1, u0.2.2.2.2.1, u0.2.2.2.2.2.1, (0 : Int32), (0 : Int32)) ++ (k_X7 E q1 u1 ++ (k_X1 E q2 u2))) H := hP
  have hD : va_D A (k_X8 E q0 (u0.1, u0.2.1, x_1, u1.2.2.2.2.2.2.2.2.2.1, u0.2.2.2.2.1, u0.2.2.2.2.2.1, (0 : Int32), (0 : Int32)) ++ (k_X7 E q1 u1 ++ (k_X1 E q2 u2))) := hD
  refine lv_aload_n hx hb dX8_run_35 rfl (lv_at hl 0 rfl) ?_
  refine lv_iconst (v := 0) hx hb dX8_run_36 rfl ?_
  refine va_put (D := zD E) (ci := 8) (v := .int (0 : Int32)) (ty := .int) (C := RX8) (T := TX8) (N := 8) hx hb hts uw_X8 tyX8 tyX8_ok nmX8 hown hK hP hD hS 0 rfl rfl 1 (by decide) (hts _ wm_2_82) (fun _ h9 => h9) rfl (by decide +kernel) rfl rfl (Nat.le_of_ble_eq_true rfl) dX8_run_37 (fun H locs hP hD hS => ?_)
  have hP : va_P (zD E) vwCl (k_X8 E q0 (u0.1, (0 : Int32), x_1, u1.2.2.2.2.2.2.2.2.2.1, u0.2.2.2.2.1, u0.2.2.2.2.2.1, (0 : Int32), (0 : Int32)) ++ (k_X7 E q1 u1 ++ (k_X1 E q2 u2))) H := hP
  have hD : va_D A (k_X8 E q0 (u0.1, (0 : Int32), x_1, u1.2.2.2.2.2.2.2.2.2.1, u0.2.2.2.2.1, u0.2.2.2.2.2.1, (0 : Int32), (0 : Int32)) ++ (k_X7 E q1 u1 ++ (k_X1 E q2 u2))) := hD
  refine lv_iconst (v := 0) hx hb dX8_run_40 rfl ?_
  refine lv_istore_n (lv' := [(3, .int (0 : Int32)), (0, .ref (q0 0)), (1, .ref (q1 0)), (2, .ref (q2 0))]) hx hb dX8_run_41 rfl hl (by decide) rfl (fun ls hl => ?_)
  obtain ⟨n9, hw⟩ := hw
  exact t_X8_run_42 (l := l) hZ0 C0 hA hK hZ post n9 (0 : Int32) (u0.1, (0 : Int32), x_1, u1.2.2.2.2.2.2.2.2.2.1, u0.2.2.2.2.1, u0.2.2.2.2.2.1, (0 : Int32), (0 : Int32)) u1 u2 _ _ _ hw hP hD hS (lv_sub hl [1, 2, 3, 0] rfl)
