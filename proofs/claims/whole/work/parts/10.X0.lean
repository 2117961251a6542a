abbrev r_X0_placeOrder : Room := { frames := 0, cells := 0, slots := 0, locals := 0 }
def wp_X0_placeOrder (u0 : S_X0) (p1 : Int32) (post : S_X0 → Prop) : Prop := vp_in u0.1 40 ∧ (vp_in u0.1 40 ∧ (post (u0.1, u0.2.1, u0.2.2.1, (upd u0.2.2.2.1 u0.1.toNatClampNeg p1), (upd u0.2.2.2.2.1 u0.1.toNatClampNeg p1), u0.2.2.2.2.2.1, u0.2.2.2.2.2.2)))
set_option maxHeartbeats 4000000 in
set_option maxRecDepth 100000 in
theorem c_X0_placeOrder (l : Launch) (E : zE) (Z : zZ) (hZ0 : zSt Z) (q0 : Nat → Nat) (sz : Nat) (u0 : S_X0) (p1 : Int32) (post : S_X0 → Prop) (hw : wp_X0_placeOrder u0 p1 post) : Met l yX0_placeOrder (zws yX0_placeOrder cX0_placeOrder 2 none) r_X0_placeOrder (va_Pc [.ref (q0 0), .int p1] (zPre Z E (k_X0 E q0 u0) sz)) (va_Qv post (zAt E (va_A (k_X0 E q0 u0) sz) (fun u => k_X0 E q0 u)) (va_A (k_X0 E q0 u0) sz)) 0 0 (va_A (k_X0 E q0 u0) sz) := by
  refine z_ofW (Qf := fun A => va_Qv post (zAt E A (fun u => k_X0 E q0 u)) A) (by decide) (Nat.le_of_ble_eq_true rfl) ?_
  intro p e s m args below meth c A ls C0 hA hK hZ hP hD hS hl
  obtain ⟨hx, hb, hml, hr, hown, hts, hlocks, hin⟩ := id C0
  have hown : s.vm.findClass RX0 = some m.cls := hown
  have hl : lv_has ls 2 [(0, .ref (q0 0)), (1, .int p1)] := hl
  refine lv_aload_n hx hb dX0_placeOrder_0 rfl (lv_at hl 0 rfl) ?_
  refine va_get (D := zD E) (ci := 0) (v := .ref (q0 3)) (C := RX0) (T := TX0) (N := 7) hx hb hts uw_X0 hown hK hP 0 rfl rfl 3 (by decide) (hts _ wm_1_136) (fun _ h9 => h9) rfl dX0_placeOrder_1 ?_
  refine lv_aload_n hx hb dX0_placeOrder_4 rfl (lv_at hl 0 rfl) ?_
  refine va_get (D := zD E) (ci := 0) (v := .int u0.1) (C := RX0) (T := TX0) (N := 7) hx hb hts uw_X0 hown hK hP 0 rfl rfl 0 (by decide) (hts _ wm_1_128) (fun _ h9 => h9) rfl dX0_placeOrder_5 ?_
  refine lv_iload_n hx hb dX0_placeOrder_8 rfl (lv_at hl 1 rfl) ?_
  obtain ⟨h_1, hw⟩ := hw
  refine va_iast hx hb hK hP hD hS 3 0 rfl rfl h_1 dX0_placeOrder_9 (fun H locs hP hD hS => ?_)
  have hP : va_P (zD E) vwCl (k_X0 E q0 (u0.1, u0.2.1, u0.2.2.1, (upd u0.2.2.2.1 u0.1.toNatClampNeg p1), u0.2.2.2.2.1, u0.2.2.2.2.2.1, u0.2.2.2.2.2.2)) H := hP
  have hD : va_D A (k_X0 E q0 (u0.1, u0.2.1, u0.2.2.1, (upd u0.2.2.2.1 u0.1.toNatClampNeg p1), u0.2.2.2.2.1, u0.2.2.2.2.2.1, u0.2.2.2.2.2.2)) := hD
  refine lv_aload_n hx hb dX0_placeOrder_10 rfl (lv_at hl 0 rfl) ?_
  refine va_get (D := zD E) (ci := 0) (v := .ref (q0 4)) (C := RX0) (T := TX0) (N := 7) hx hb hts uw_X0 hown hK hP 0 rfl rfl 4 (by decide) (hts _ wm_1_138) (fun _ h9 => h9) rfl dX0_placeOrder_11 ?_
  refine lv_aload_n hx hb dX0_placeOrder_14 rfl (lv_at hl 0 rfl) ?_
  refine va_get (D := zD E) (ci := 0) (v := .int u0.1) (C := RX0) (T := TX0) (N := 7) hx hb hts uw_X0 hown hK hP 0 rfl rfl 0 (by decide) (hts _ wm_1_128) (fun _ h9 => h9) rfl dX0_placeOrder_15 ?_
  refine lv_iload_n hx hb dX0_placeOrder_18 rfl (lv_at hl 1 rfl) ?_
  obtain ⟨h_2, hw⟩ := hw
  refine va_iast hx hb hK hP hD hS 4 0 rfl rfl h_2 dX0_placeOrder_19 (fun H locs hP hD hS => ?_)
  have hP : va_P (zD E) vwCl (k_X0 E q0 (u0.1, u0.2.1, u0.2.2.1, (upd u0.2.2.2.1 u0.1.toNatClampNeg p1), (upd u0.2.2.2.2.1 u0.1.toNatClampNeg p1), u0.2.2.2.2.2.1, u0.2.2.2.2.2.2)) H := hP
  have hD : va_D A (k_X0 E q0 (u0.1, u0.2.1, u0.2.2.1, (upd u0.2.2.2.1 u0.1.toNatClampNeg p1), (upd u0.2.2.2.2.1 u0.1.toNatClampNeg p1), u0.2.2.2.2.2.1, u0.2.2.2.2.2.2)) := hD
  exact z_vret (k := (fun u => k_X0 E q0 u)) (u0.1, u0.2.1, u0.2.2.1, (upd u0.2.2.2.1 u0.1.toNatClampNeg p1), (upd u0.2.2.2.2.1 u0.1.toNatClampNeg p1), u0.2.2.2.2.2.1, u0.2.2.2.2.2.2) C0 hP hD hS hw dX0_placeOrder_20
abbrev r_X0_reserveFrom : Room := { frames := 0, cells := 0, slots := 0, locals := 0 }
def j_X0_reserveFrom_34 (K6 : (Int32 × Int32 × Int32 × Int32 × S_X0) → Prop) (x2 : Int32) (x3 : Int32) (x4 : Int32) (x5 : Int32) (u0 : S_X0) (post : Int32 → S_X0 → Prop) : Prop := ∀ x_6 : Int32, x_6 = x5 + 1 → (K6 (x2, x3, x4, x_6, u0))
def j_X0_reserveFrom_6 (K6 : (Int32 × Int32 × Int32 × Int32 × S_X0) → Prop) (x2 : Int32) (x3 : Int32) (x4 : Int32) (x5 : Int32) (u0 : S_X0) (post : Int32 → S_X0 → Prop) : Prop := (x2 ≤ x5 → (post x4 u0)) ∧ (¬ (x2 ≤ x5) → (vp_in x5 40 ∧ (((u0.2.1 x5.toNatClampNeg) = x3 → (j_X0_reserveFrom_34 K6 x2 x3 x4 x5 u0 post)) ∧ (¬ ((u0.2.1 x5.toNatClampNeg) = x3) → (vp_in x5 40 ∧ (∀ x_5 : Int32, x_5 = x4 + 1 → (j_X0_reserveFrom_34 K6 x2 x3 x_5 x5 (u0.1, (upd u0.2.1 x5.toNatClampNeg x3), u0.2.2.1, u0.2.2.2.1, u0.2.2.2.2.1, u0.2.2.2.2.2.1, u0.2.2.2.2.2.2) post)))))))
def wp_X0_reserveFrom (u0 : S_X0) (p1 : Int32) (p2 : Int32) (p3 : Int32) (post : Int32 → S_X0 → Prop) : Prop := ∃ n, zl (fun K st => j_X0_reserveFrom_6 K st.1 st.2.1 st.2.2.1 st.2.2.2.1 st.2.2.2.2 post) n (p2, p3, (0 : Int32), p1, u0)
set_option maxHeartbeats 4000000 in
set_option maxRecDepth 100000 in
theorem t_X0_reserveFrom_34 {p : Program} {l : Launch} {e : Env} {s : State} {m : MethodId} {args : Array Value} {below : List Frame} {meth : Method} {c : Code} {Z : zZ} {E : zE} {A : Nat → Prop} {q0 : Nat → Nat} (hZ0 : zSt Z) (C0 : zC p s m args meth c yX0_reserveFrom cX0_reserveFrom 6 (some .int)) (hA : ∀ q : Nat, s.heap.size ≤ q → A q) (hK : va_K (zD E) vwCl (zT E) s) (hZ : Z A s s.heap) (post : Int32 → S_X0 → Prop) {K6 : (Int32 × Int32 × Int32 × Int32 × S_X0) → Prop} (hk_6 : ∀ (x2 : Int32) (x3 : Int32) (x4 : Int32) (x5 : Int32) (u0 : S_X0) (H : Heap) (locs : List Loc) (ls : Array Slot), K6 (x2, x3, x4, x5, u0) → va_P (zD E) vwCl (k_X0 E q0 u0) H → va_D A (k_X0 E q0 u0) → va_S A s.heap H locs → lv_has ls 6 [(0, .ref (q0 0)), (2, .int x2), (3, .int x3), (4, .int x4), (5, .int x5)] → W p l e r_X0_reserveFrom s m args below meth c H locs 0 0 (MQ below (va_Qi post (zAt E A (fun u => k_X0 E q0 u)) A) args s 0 0 A) (F0 m 6 ls [])) : ∀ (x2 : Int32) (x3 : Int32) (x4 : Int32) (x5 : Int32) (u0 : S_X0) (H : Heap) (locs : List Loc) (ls : Array Slot), j_X0_reserveFrom_34 K6 x2 x3 x4 x5 u0 post → va_P (zD E) vwCl (k_X0 E q0 u0) H → va_D A (k_X0 E q0 u0) → va_S A s.heap H locs → lv_has ls 6 [(0, .ref (q0 0)), (2, .int x2), (3, .int x3), (4, .int x4), (5, .int x5)] → W p l e r_X0_reserveFrom s m args below meth c H locs 0 0 (MQ below (va_Qi post (zAt E A (fun u => k_X0 E q0 u)) A) args s 0 0 A) (F0 m 34 ls []) := by
  obtain ⟨hx, hb, hml, hr, hown, hts, hlocks, hin⟩ := id C0
  have hown : s.vm.findClass RX0 = some m.cls := hown
  intro x2 x3 x4 x5 u0 H locs ls hw hP hD hS hl
  obtain ⟨x_6, ex_6⟩ : ∃ y : Int32, y = x5 + 1 := ⟨_, rfl⟩
  have hw := hw x_6 ex_6
  refine lv_iinc (v := x_6) (lv' := [(5, .int x_6), (0, .ref (q0 0)), (2, .int x2), (3, .int x3), (4, .int x4)]) hx hb dX0_reserveFrom_34 hl (k := 4) rfl (by rw [ex_6]; rfl) (by decide) rfl (fun ls hl => ?_)
  refine lv_goto (tgt := 6) hx hb dX0_reserveFrom_37 (by decide) ?_
  exact hk_6 x2 x3 x4 x_6 u0 _ _ _ hw hP hD hS (lv_sub hl [1, 2, 3, 4, 0] rfl)
set_option maxHeartbeats 4000000 in
set_option maxRecDepth 100000 in
theorem t_X0_reserveFrom_6 {p : Program} {l : Launch} {e : Env} {s : State} {m : MethodId} {args : Array Value} {below : List Frame} {meth : Method} {c : Code} {Z : zZ} {E : zE} {A : Nat → Prop} {q0 : Nat → Nat} (hZ0 : zSt Z) (C0 : zC p s m args meth c yX0_reserveFrom cX0_reserveFrom 6 (some .int)) (hA : ∀ q : Nat, s.heap.size ≤ q → A q) (hK : va_K (zD E) vwCl (zT E) s) (hZ : Z A s s.heap) (post : Int32 → S_X0 → Prop) : ∀ (n : Nat) (x2 : Int32) (x3 : Int32) (x4 : Int32) (x5 : Int32) (u0 : S_X0) (H : Heap) (locs : List Loc) (ls : Array Slot), zl (fun K st => j_X0_reserveFrom_6 K st.1 st.2.1 st.2.2.1 st.2.2.2.1 st.2.2.2.2 post) n (x2, x3, x4, x5, u0) → va_P (zD E) vwCl (k_X0 E q0 u0) H → va_D A (k_X0 E q0 u0) → va_S A s.heap H locs → lv_has ls 6 [(0, .ref (q0 0)), (2, .int x2), (3, .int x3), (4, .int x4), (5, .int x5)] → W p l e r_X0_reserveFrom s m args below meth c H locs 0 0 (MQ below (va_Qi post (zAt E A (fun u => k_X0 E q0 u)) A) args s 0 0 A) (F0 m 6 ls []) := by
  obtain ⟨hx, hb, hml, hr, hown, hts, hlocks, hin⟩ := id C0
  have hown : s.vm.findClass RX0 = some m.cls := hown
  intro n
  induction n with
  | zero => intro x2 x3 x4 x5 u0 H locs ls hw; exact hw.elim
  | succ n hk_6 =>
    intro x2 x3 x4 x5 u0 H locs ls hw hP hD hS hl
    have hw : j_X0_reserveFrom_6 _ x2 x3 x4 x5 u0 post := hw
    refine lv_iload hx hb dX0_reserveFrom_6 (lv_at hl 4 rfl) ?_
    refine lv_iload_n hx hb dX0_reserveFrom_8 rfl (lv_at hl 1 rfl) ?_
    obtain ⟨hwt, hwf⟩ := hw
    refine lv_icmp_ge (tgt := 40) hx hb dX0_reserveFrom_9 (by decide) (fun c_1 => ?_) (fun c_1 => ?_)
    · have hw := hwt c_1
      refine lv_iload hx hb dX0_reserveFrom_40 (lv_at hl 3 rfl) ?_
      exact z_iret (k := (fun u => k_X0 E q0 u)) u0 C0 hP hD hS hw dX0_reserveFrom_42
    · have hw := hwf c_1
      refine lv_aload_n hx hb dX0_reserveFrom_12 rfl (lv_at hl 0 rfl) ?_
      refine va_get (D := zD E) (ci := 0) (v := .ref (q0 1)) (C := RX0) (T := TX0) (N := 7) hx hb hts uw_X0 hown hK hP 0 rfl rfl 1 (by decide) (hts _ wm_1_130) (fun _ h9 => h9) rfl dX0_reserveFrom_13 ?_
      refine lv_iload hx hb dX0_reserveFrom_16 (lv_at hl 4 rfl) ?_
      obtain ⟨h_2, hw⟩ := hw
      refine va_iald hx hb hK hP 1 0 rfl rfl h_2 dX0_reserveFrom_18 ?_
      refine lv_iload_n hx hb dX0_reserveFrom_19 rfl (lv_at hl 2 rfl) ?_
      obtain ⟨hwt, hwf⟩ := hw
      refine lv_icmp_eq (tgt := 34) hx hb dX0_reserveFrom_20 (by decide) (fun c_3 => ?_) (fun c_3 => ?_)
      · have hw := hwt c_3
        exact t_X0_reserveFrom_34 (l := l) hZ0 C0 hA hK hZ post hk_6 x2 x3 x4 x5 u0 _ _ _ hw hP hD hS (lv_sub hl [0, 1, 2, 3, 4] rfl)
      · have hw := hwf c_3
        refine lv_aload_n hx hb dX0_reserveFrom_23 rfl (lv_at hl 0 rfl) ?_
        refine va_get (D := zD E) (ci := 0) (v := .ref (q0 1)) (C := RX0) (T := TX0) (N := 7) hx hb hts uw_X0 hown hK hP 0 rfl rfl 1 (by decide) (hts _ wm_1_130) (fun _ h9 => h9) rfl dX0_reserveFrom_24 ?_
        refine lv_iload hx hb dX0_reserveFrom_27 (lv_at hl 4 rfl) ?_
        refine lv_iload_n hx hb dX0_reserveFrom_29 rfl (lv_at hl 2 rfl) ?_
        obtain ⟨h_4, hw⟩ := hw
        refine va_iast hx hb hK hP hD hS 1 0 rfl rfl h_4 dX0_reserveFrom_30 (fun H locs hP hD hS => ?_)
        have hP : va_P (zD E) vwCl (k_X0 E q0 (u0.1, (upd u0.2.1 x5.toNatClampNeg x3), u0.2.2.1, u0.2.2.2.1, u0.2.2.2.2.1, u0.2.2.2.2.2.1, u0.2.2.2.2.2.2)) H := hP
        have hD : va_D A (k_X0 E q0 (u0.1, (upd u0.2.1 x5.toNatClampNeg x3), u0.2.2.1, u0.2.2.2.1, u0.2.2.2.2.1, u0.2.2.2.2.2.1, u0.2.2.2.2.2.2)) := hD
        obtain ⟨x_5, ex_5⟩ : ∃ y : Int32, y = x4 + 1 := ⟨_, rfl⟩
        have hw := hw x_5 ex_5
        refine lv_iinc (v := x_5) (lv' := [(4, .int x_5), (0, .ref (q0 0)), (2, .int x2), (3, .int x3), (5, .int x5)]) hx hb dX0_reserveFrom_31 hl (k := 3) rfl (by rw [ex_5]; rfl) (by decide) rfl (fun ls hl => ?_)
        exact t_X0_reserveFrom_34 (l := l) hZ0 C0 hA hK hZ post hk_6 x2 x3 x_5 x5 (u0.1, (upd u0.2.1 x5.toNatClampNeg x3), u0.2.2.1, u0.2.2.2.1, u0.2.2.2.2.1, u0.2.2.2.2.2.1, u0.2.2.2.2.2.2) _ _ _ hw hP hD hS (lv_sub hl [1, 2, 3, 0, 4] rfl)
set_option maxHeartbeats 4000000 in
set_option maxRecDepth 100000 in
theorem c_X0_reserveFrom (l : Launch) (E : zE) (Z : zZ) (hZ0 : zSt Z) (q0 : Nat → Nat) (sz : Nat) (u0 : S_X0) (p1 : Int32) (p2 : Int32) (p3 : Int32) (post : Int32 → S_X0 → Prop) (hw : wp_X0_reserveFrom u0 p1 p2 p3 post) : Met l yX0_reserveFrom (zws yX0_reserveFrom cX0_reserveFrom 6 (some .int)) r_X0_reserveFrom (va_Pc [.ref (q0 0), .int p1, .int p2, .int p3] (zPre Z E (k_X0 E q0 u0) sz)) (va_Qi post (zAt E (va_A (k_X0 E q0 u0) sz) (fun u => k_X0 E q0 u)) (va_A (k_X0 E q0 u0) sz)) 0 0 (va_A (k_X0 E q0 u0) sz) := by
  refine z_ofW (Qf := fun A => va_Qi post (zAt E A (fun u => k_X0 E q0 u)) A) (by decide) (Nat.le_of_ble_eq_true rfl) ?_
  intro p e s m args below meth c A ls C0 hA hK hZ hP hD hS hl
  obtain ⟨hx, hb, hml, hr, hown, hts, hlocks, hin⟩ := id C0
  have hown : s.vm.findClass RX0 = some m.cls := hown
  have hl : lv_has ls 6 [(0, .ref (q0 0)), (1, .int p1), (2, .int p2), (3, .int p3)] := hl
  refine lv_iconst (v := 0) hx hb dX0_reserveFrom_0 rfl ?_
  refine lv_istore (lv' := [(4, .int (0 : Int32)), (0, .ref (q0 0)), (1, .int p1), (2, .int p2), (3, .int p3)]) hx hb dX0_reserveFrom_1 hl (by decide) rfl (fun ls hl => ?_)
  refine lv_iload_n hx hb dX0_reserveFrom_3 rfl (lv_at hl 2 rfl) ?_
  refine lv_istore (lv' := [(5, .int p1), (4, .int (0 : Int32)), (0, .ref (q0 0)), (1, .int p1), (2, .int p2), (3, .int p3)]) hx hb dX0_reserveFrom_4 hl (by decide) rfl (fun ls hl => ?_)
  obtain ⟨n9, hw⟩ := hw
  exact t_X0_reserveFrom_6 (l := l) hZ0 C0 hA hK hZ post n9 p2 p3 (0 : Int32) p1 u0 _ _ _ hw hP hD hS (lv_sub hl [2, 4, 5, 1, 0] rfl)
abbrev r_X0_deliverReserved : Room := { frames := 1, cells := 0, slots := 0, locals := 32 }
def j_X0_deliverReserved_21 (K21 : (Int32 × Int32 × S_X0) → Prop) (x2 : Int32) (x3 : Int32) (u0 : S_X0) (post : Int32 → S_X0 → Prop) : Prop := (u0.1 < x3 → (vp_in u0.1 40 ∧ (post ((u0.2.1 u0.1.toNatClampNeg) - x2) u0))) ∧ (¬ (u0.1 < x3) → (vp_in x3 40 ∧ (∀ x_7 : Int32, x_7 = (if (u0.2.2.2.2.1 x3.toNatClampNeg) < x2 then (u0.2.2.2.2.1 x3.toNatClampNeg) else x2) → (vp_in x3 40 ∧ (∀ x_9 : Int32, x_9 = ((u0.2.2.2.2.1 x3.toNatClampNeg) - x_7) → (vp_in x3 40 ∧ (∀ x_11 : Int32, x_11 = (x2 - x_7) → (∀ x_12 : Int32, x_12 = x3 + 1 → (K21 (x_11, x_12, (u0.1, u0.2.1, u0.2.2.1, u0.2.2.2.1, (upd u0.2.2.2.2.1 x3.toNatClampNeg x_9), u0.2.2.2.2.2.1, u0.2.2.2.2.2.2)))))))))))
def wp_X0_deliverReserved (u0 : S_X0) (p1 : Int32) (post : Int32 → S_X0 → Prop) : Prop := vp_in u0.1 40 ∧ (∀ x_2 : Int32, x_2 = (u0.2.1 u0.1.toNatClampNeg) → (∀ x_3 : Int32, x_3 = (if (0 : Int32) < (u0.1 - p1) then (u0.1 - p1) else (0 : Int32)) → (∃ n, zl (fun K st => j_X0_deliverReserved_21 K st.1 st.2.1 st.2.2 post) n (x_2, x_3, u0))))
set_option maxHeartbeats 4000000 in
set_option maxRecDepth 100000 in
theorem t_X0_deliverReserved_21 {p : Program} {l : Launch} {e : Env} {s : State} {m : MethodId} {args : Array Value} {below : List Frame} {meth : Method} {c : Code} {Z : zZ} {E : zE} {A : Nat → Prop} {q0 : Nat → Nat} (hZ0 : zSt Z) (C0 : zC p s m args meth c yX0_deliverReserved cX0_deliverReserved 5 (some .int)) (hA : ∀ q : Nat, s.heap.size ≤ q → A q) (hK : va_K (zD E) vwCl (zT E) s) (hZ : Z A s s.heap) (post : Int32 → S_X0 → Prop) : ∀ (n : Nat) (x2 : Int32) (x3 : Int32) (u0 : S_X0) (H : Heap) (locs : List Loc) (ls : Array Slot), zl (fun K st => j_X0_deliverReserved_21 K st.1 st.2.1 st.2.2 post) n (x2, x3, u0) → va_P (zD E) vwCl (k_X0 E q0 u0) H → va_D A (k_X0 E q0 u0) → va_S A s.heap H locs → lv_has ls 5 [(0, .ref (q0 0)), (2, .int x2), (3, .int x3)] → W p l e r_X0_deliverReserved s m args below meth c H locs 0 0 (MQ below (va_Qi post (zAt E A (fun u => k_X0 E q0 u)) A) args s 0 0 A) (F0 m 21 ls []) := by
  obtain ⟨hx, hb, hml, hr, hown, hts, hlocks, hin⟩ := id C0
  have hown : s.vm.findClass RX0 = some m.cls := hown
  intro n
  induction n with
  | zero => intro x2 x3 u0 H locs ls hw; exact hw.elim
  | succ n hk_21 =>
    intro x2 x3 u0 H locs ls hw hP hD hS hl
    have hw : j_X0_deliverReserved_21 _ x2 x3 u0 post := hw
    refine lv_iload_n hx hb dX0_deliverReserved_21 rfl (lv_at hl 2 rfl) ?_
    refine lv_aload_n hx hb dX0_deliverReserved_22 rfl (lv_at hl 0 rfl) ?_
    refine va_get (D := zD E) (ci := 0) (v := .int u0.1) (C := RX0) (T := TX0) (N := 7) hx hb hts uw_X0 hown hK hP 0 rfl rfl 0 (by decide) (hts _ wm_1_128) (fun _ h9 => h9) rfl dX0_deliverReserved_23 ?_
    obtain ⟨hwt, hwf⟩ := hw
    refine lv_icmp_gt (tgt := 63) hx hb dX0_deliverReserved_26 (by decide) (fun c_4 => ?_) (fun c_4 => ?_)
    · have hw := hwt c_4
      refine lv_aload_n hx hb dX0_deliverReserved_63 rfl (lv_at hl 0 rfl) ?_
      refine va_get (D := zD E) (ci := 0) (v := .ref (q0 1)) (C := RX0) (T := TX0) (N := 7) hx hb hts uw_X0 hown hK hP 0 rfl rfl 1 (by decide) (hts _ wm_1_130) (fun _ h9 => h9) rfl dX0_deliverReserved_64 ?_
      refine lv_aload_n hx hb dX0_deliverReserved_67 rfl (lv_at hl 0 rfl) ?_
      refine va_get (D := zD E) (ci := 0) (v := .int u0.1) (C := RX0) (T := TX0) (N := 7) hx hb hts uw_X0 hown hK hP 0 rfl rfl 0 (by decide) (hts _ wm_1_128) (fun _ h9 => h9) rfl dX0_deliverReserved_68 ?_
      obtain ⟨h_5, hw⟩ := hw
      refine va_iald hx hb hK hP 1 0 rfl rfl h_5 dX0_deliverReserved_71 ?_
      refine lv_iload_n hx hb dX0_deliverReserved_72 rfl (lv_at hl 1 rfl) ?_
      refine lv_isub hx hb dX0_deliverReserved_73 ?_
      exact z_iret (k := (fun u => k_X0 E q0 u)) u0 C0 hP hD hS hw dX0_deliverReserved_74
    · have hw := hwf c_4
      refine lv_iload_n hx hb dX0_deliverReserved_29 rfl (lv_at hl 1 rfl) ?_
      refine lv_aload_n hx hb dX0_deliverReserved_30 rfl (lv_at hl 0 rfl) ?_
      refine va_get (D := zD E) (ci := 0) (v := .ref (q0 4)) (C := RX0) (T := TX0) (N := 7) hx hb hts uw_X0 hown hK hP 0 rfl rfl 4 (by decide) (hts _ wm_1_138) (fun _ h9 => h9) rfl dX0_deliverReserved_31 ?_
      refine lv_iload_n hx hb dX0_deliverReserved_34 rfl (lv_at hl 2 rfl) ?_
      obtain ⟨h_6, hw⟩ := hw
      refine va_iald hx hb hK hP 4 0 rfl rfl h_6 dX0_deliverReserved_35 ?_
      refine va_mmin hx hb (hml.trans hl.1.symm) hown (hts _ wm_3_1) (hts _ wm_2_184) (hts _ wm_1_16) (hts _ wm_2_185) (Nat.le_of_ble_eq_true rfl) (Nat.le_of_ble_eq_true rfl) (Nat.le_of_ble_eq_true rfl) (Nat.le_of_ble_eq_true rfl) dX0_deliverReserved_36 ?_
      refine lv_topi (fun x_7 ex_7 => ?_)
      have hw := hw x_7 ex_7
      refine lv_istore (lv' := [(4, .int x_7), (0, .ref (q0 0)), (2, .int x2), (3, .int x3)]) hx hb dX0_deliverReserved_39 hl (by decide) rfl (fun ls hl => ?_)
      refine lv_aload_n hx hb dX0_deliverReserved_41 rfl (lv_at hl 1 rfl) ?_
      refine va_get (D := zD E) (ci := 0) (v := .ref (q0 4)) (C := RX0) (T := TX0) (N := 7) hx hb hts uw_X0 hown hK hP 0 rfl rfl 4 (by decide) (hts _ wm_1_138) (fun _ h9 => h9) rfl dX0_deliverReserved_42 ?_
      refine lv_iload_n hx hb dX0_deliverReserved_45 rfl (lv_at hl 3 rfl) ?_
      refine lv_dup2_11 hx hb dX0_deliverReserved_46 rfl rfl ?_
      obtain ⟨h_8, hw⟩ := hw
      refine va_iald hx hb hK hP 4 0 rfl rfl h_8 dX0_deliverReserved_47 ?_
      refine lv_iload hx hb dX0_deliverReserved_48 (lv_at hl 0 rfl) ?_
      refine lv_isub hx hb dX0_deliverReserved_50 ?_
      refine lv_topi (fun x_9 ex_9 => ?_)
      have hw := hw x_9 ex_9
      obtain ⟨h_10, hw⟩ := hw
      refine va_iast hx hb hK hP hD hS 4 0 rfl rfl h_10 dX0_deliverReserved_51 (fun H locs hP hD hS => ?_)
      have hP : va_P (zD E) vwCl (k_X0 E q0 (u0.1, u0.2.1, u0.2.2.1, u0.2.2.2.1, (upd u0.2.2.2.2.1 x3.toNatClampNeg x_9), u0.2.2.2.2.2.1, u0.2.2.2.2.2.2)) H := hP
      have hD : va_D A (k_X0 E q0 (u0.1, u0.2.1, u0.2.2.1, u0.2.2.2.1, (upd u0.2.2.2.2.1 x3.toNatClampNeg x_9), u0.2.2.2.2.2.1, u0.2.2.2.2.2.2)) := hD
      refine lv_iload_n hx hb dX0_deliverReserved_52 rfl (lv_at hl 2 rfl) ?_
      refine lv_iload hx hb dX0_deliverReserved_53 (lv_at hl 0 rfl) ?_
      refine lv_isub hx hb dX0_deliverReserved_55 ?_
      refine lv_topi (fun x_11 ex_11 => ?_)
      have hw := hw x_11 ex_11
      refine lv_istore_n (lv' := [(2, .int x_11), (4, .int x_7), (0, .ref (q0 0)), (3, .int x3)]) hx hb dX0_deliverReserved_56 rfl hl (by decide) rfl (fun ls hl => ?_)
      obtain ⟨x_12, ex_12⟩ : ∃ y : Int32, y = x3 + 1 := ⟨_, rfl⟩
      have hw := hw x_12 ex_12
      refine lv_iinc (v := x_12) (lv' := [(3, .int x_12), (2, .int x_11), (4, .int x_7), (0, .ref (q0 0))]) hx hb dX0_deliverReserved_57 hl (k := 3) rfl (by rw [ex_12]; rfl) (by decide) rfl (fun ls hl => ?_)
      refine lv_goto (tgt := 21) hx hb dX0_deliverReserved_60 (by decide) ?_
      exact hk_21 x_11 x_12 (u0.1, u0.2.1, u0.2.2.1, u0.2.2.2.1, (upd u0.2.2.2.2.1 x3.toNatClampNeg x_9), u0.2.2.2.2.2.1, u0.2.2.2.2.2.2) _ _ _ hw hP hD hS (lv_sub hl [3, 1, 0] rfl)
set_option maxHeartbeats 4000000 in
set_option maxRecDepth 100000 in
theorem c_X0_deliverReserved (l : Launch) (E : zE) (Z : zZ) (hZ0 : zSt Z) (q0 : Nat → Nat) (sz : Nat) (u0 : S_X0) (p1 : Int32) (post : Int32 → S_X0 → Prop) (hw : wp_X0_deliverReserved u0 p1 post) : Met l yX0_deliverReserved (zws yX0_deliverReserved cX0_deliverReserved 5 (some .int)) r_X0_deliverReserved (va_Pc [.ref (q0 0), .int p1] (zPre Z E (k_X0 E q0 u0) sz)) (va_Qi post (zAt E (va_A (k_X0 E q0 u0) sz) (fun u => k_X0 E q0 u)) (va_A (k_X0 E q0 u0) sz)) 0 0 (va_A (k_X0 E q0 u0) sz) := by
  refine z_ofW (Qf := fun A => va_Qi post (zAt E A (fun u => k_X0 E q0 u)) A) (by decide) (Nat.le_of_ble_eq_true rfl) ?_
  intro p e s m args below meth c A ls C0 hA hK hZ hP hD hS hl
  obtain ⟨hx, hb, hml, hr, hown, hts, hlocks, hin⟩ := id C0
  have hown : s.vm.findClass RX0 = some m.cls := hown
  have hl : lv_has ls 5 [(0, .ref (q0 0)), (1, .int p1)] := hl
  refine lv_aload_n hx hb dX0_deliverReserved_0 rfl (lv_at hl 0 rfl) ?_
  refine va_get (D := zD E) (ci := 0) (v := .ref (q0 1)) (C := RX0) (T := TX0) (N := 7) hx hb hts uw_X0 hown hK hP 0 rfl rfl 1 (by decide) (hts _ wm_1_130) (fun _ h9 => h9) rfl dX0_deliverReserved_1 ?_
  refine lv_aload_n hx hb dX0_deliverReserved_4 rfl (lv_at hl 0 rfl) ?_
  refine va_get (D := zD E) (ci := 0) (v := .int u0.1) (C := RX0) (T := TX0) (N := 7) hx hb hts uw_X0 hown hK hP 0 rfl rfl 0 (by decide) (hts _ wm_1_128) (fun _ h9 => h9) rfl dX0_deliverReserved_5 ?_
  obtain ⟨h_1, hw⟩ := hw
  refine va_iald hx hb hK hP 1 0 rfl rfl h_1 dX0_deliverReserved_8 ?_
  refine lv_topi (fun x_2 ex_2 => ?_)
  have hw := hw x_2 ex_2
  refine lv_istore_n (lv' := [(2, .int x_2), (0, .ref (q0 0)), (1, .int p1)]) hx hb dX0_deliverReserved_9 rfl hl (by decide) rfl (fun ls hl => ?_)
  refine lv_iconst (v := 0) hx hb dX0_deliverReserved_10 rfl ?_
  refine lv_aload_n hx hb dX0_deliverReserved_11 rfl (lv_at hl 1 rfl) ?_
  refine va_get (D := zD E) (ci := 0) (v := .int u0.1) (C := RX0) (T := TX0) (N := 7) hx hb hts uw_X0 hown hK hP 0 rfl rfl 0 (by decide) (hts _ wm_1_128) (fun _ h9 => h9) rfl dX0_deliverReserved_12 ?_
  refine lv_iload_n hx hb dX0_deliverReserved_15 rfl (lv_at hl 2 rfl) ?_
  refine lv_isub hx hb dX0_deliverReserved_16 ?_
  refine va_mmax hx hb (hml.trans hl.1.symm) hown (hts _ wm_2_238) (hts _ wm_2_239) (hts _ wm_1_16) (hts _ wm_3_0) (Nat.le_of_ble_eq_true rfl) (Nat.le_of_ble_eq_true rfl) (Nat.le_of_ble_eq_true rfl) (Nat.le_of_ble_eq_true rfl) dX0_deliverReserved_17 ?_
  refine lv_topi (fun x_3 ex_3 => ?_)
  have hw := hw x_3 ex_3
  refine lv_istore_n (lv' := [(3, .int x_3), (2, .int x_2), (0, .ref (q0 0)), (1, .int p1)]) hx hb dX0_deliverReserved_20 rfl hl (by decide) rfl (fun ls hl => ?_)
  obtain ⟨n9, hw⟩ := hw
  exact t_X0_deliverReserved_21 (l := l) hZ0 C0 hA hK hZ post n9 x_2 x_3 u0 _ _ _ hw hP hD hS (lv_sub hl [2, 1, 0] rfl)
abbrev r_X0_deliverSpot : Room := { frames := 1, cells := 0, slots := 0, locals := 32 }
def wp_X0_deliverSpot (u0 : S_X0) (p1 : Int32) (p2 : Int32) (post : Int32 → S_X0 → Prop) : Prop := vp_in p1 40 ∧ (∀ x_2 : Int32, x_2 = (if (u0.2.2.2.2.1 p1.toNatClampNeg) < p2 then (u0.2.2.2.2.1 p1.toNatClampNeg) else p2) → (vp_in p1 40 ∧ (∀ x_4 : Int32, x_4 = ((u0.2.2.2.2.1 p1.toNatClampNeg) - x_2) → (vp_in p1 40 ∧ (post x_2 (u0.1, u0.2.1, u0.2.2.1, u0.2.2.2.1, (upd u0.2.2.2.2.1 p1.toNatClampNeg x_4), u0.2.2.2.2.2.1, u0.2.2.2.2.2.2))))))
set_option maxHeartbeats 4000000 in
set_option maxRecDepth 100000 in
theorem c_X0_deliverSpot (l : Launch) (E : zE) (Z : zZ) (hZ0 : zSt Z) (q0 : Nat → Nat) (sz : Nat) (u0 : S_X0) (p1 : Int32) (p2 : Int32) (post : Int32 → S_X0 → Prop) (hw : wp_X0_deliverSpot u0 p1 p2 post) : Met l yX0_deliverSpot (zws yX0_deliverSpot cX0_deliverSpot 4 (some .int)) r_X0_deliverSpot (va_Pc [.ref (q0 0), .int p1, .int p2] (zPre Z E (k_X0 E q0 u0) sz)) (va_Qi post (zAt E (va_A (k_X0 E q0 u0) sz) (fun u => k_X0 E q0 u)) (va_A (k_X0 E q0 u0) sz)) 0 0 (va_A (k_X0 E q0 u0) sz) := by
  refine z_ofW (Qf := fun A => va_Qi post (zAt E A (fun u => k_X0 E q0 u)) A) (by decide) (Nat.le_of_ble_eq_true rfl) ?_
  intro p e s m args below meth c A ls C0 hA hK hZ hP hD hS hl
  obtain ⟨hx, hb, hml, hr, hown, hts, hlocks, hin⟩ := id C0
  have hown : s.vm.findClass RX0 = some m.cls := hown
  have hl : lv_has ls 4 [(0, .ref (q0 0)), (1, .int p1), (2, .int p2)] := hl
  refine lv_iload_n hx hb dX0_deliverSpot_0 rfl (lv_at hl 2 rfl) ?_
  refine lv_aload_n hx hb dX0_deliverSpot_1 rfl (lv_at hl 0 rfl) ?_
  refine va_get (D := zD E) (ci := 0) (v := .ref (q0 4)) (C := RX0) (T := TX0) (N := 7) hx hb hts uw_X0 hown hK hP 0 rfl rfl 4 (by decide) (hts _ wm_1_138) (fun _ h9 => h9) rfl dX0_deliverSpot_2 ?_
  refine lv_iload_n hx hb dX0_deliverSpot_5 rfl (lv_at hl 1 rfl) ?_
  obtain ⟨h_1, hw⟩ := hw
  refine va_iald hx hb hK hP 4 0 rfl rfl h_1 dX0_deliverSpot_6 ?_
  refine va_mmin hx hb (hml.trans hl.1.symm) hown (hts _ wm_3_1) (hts _ wm_2_184) (hts _ wm_1_16) (hts _ wm_2_185) (Nat.le_of_ble_eq_true rfl) (Nat.le_of_ble_eq_true rfl) (Nat.le_of_ble_eq_true rfl) (Nat.le_of_ble_eq_true rfl) dX0_deliverSpot_7 ?_
  refine lv_topi (fun x_2 ex_2 => ?_)
  have hw := hw x_2 ex_2
  refine lv_istore_n (lv' := [(3, .int x_2), (0, .ref (q0 0)), (1, .int p1), (2, .int p2)]) hx hb dX0_deliverSpot_10 rfl hl (by decide) rfl (fun ls hl => ?_)
  refine lv_aload_n hx hb dX0_deliverSpot_11 rfl (lv_at hl 1 rfl) ?_
  refine va_get (D := zD E) (ci := 0) (v := .ref (q0 4)) (C := RX0) (T := TX0) (N := 7) hx hb hts uw_X0 hown hK hP 0 rfl rfl 4 (by decide) (hts _ wm_1_138) (fun _ h9 => h9) rfl dX0_deliverSpot_12 ?_
  refine lv_iload_n hx hb dX0_deliverSpot_15 rfl (lv_at hl 2 rfl) ?_
  refine lv_dup2_11 hx hb dX0_deliverSpot_16 rfl rfl ?_
  obtain ⟨h_3, hw⟩ := hw
  refine va_iald hx hb hK hP 4 0 rfl rfl h_3 dX0_deliverSpot_17 ?_
  refine lv_iload_n hx hb dX0_deliverSpot_18 rfl (lv_at hl 0 rfl) ?_
  refine lv_isub hx hb dX0_deliverSpot_19 ?_
  refine lv_topi (fun x_4 ex_4 => ?_)
  have hw := hw x_4 ex_4
  obtain ⟨h_5, hw⟩ := hw
  refine va_iast hx hb hK hP hD hS 4 0 rfl rfl h_5 dX0_deliverSpot_20 (fun H locs hP hD hS => ?_)
  have hP : va_P (zD E) vwCl (k_X0 E q0 (u0.1, u0.2.1, u0.2.2.1, u0.2.2.2.1, (upd u0.2.2.2.2.1 p1.toNatClampNeg x_4), u0.2.2.2.2.2.1, u0.2.2.2.2.2.2)) H := hP
  have hD : va_D A (k_X0 E q0 (u0.1, u0.2.1, u0.2.2.1, u0.2.2.2.1, (upd u0.2.2.2.2.1 p1.toNatClampNeg x_4), u0.2.2.2.2.2.1, u0.2.2.2.2.2.2)) := hD
  refine lv_iload_n hx hb dX0_deliverSpot_21 rfl (lv_at hl 0 rfl) ?_
  exact z_iret (k := (fun u => k_X0 E q0 u)) (u0.1, u0.2.1, u0.2.2.1, u0.2.2.2.1, (upd u0.2.2.2.2.1 p1.toNatClampNeg x_4), u0.2.2.2.2.2.1, u0.2.2.2.2.2.2) C0 hP hD hS hw dX0_deliverSpot_22
abbrev r_X0_missOpen : Room := { frames := 0, cells := 0, slots := 0, locals := 0 }
def wp_X0_missOpen (u0 : S_X0) (p1 : Int32) (post : Int32 → S_X0 → Prop) : Prop := vp_in p1 40 ∧ (∀ x_2 : Int32, x_2 = (u0.2.2.2.2.1 p1.toNatClampNeg) → (vp_in p1 40 ∧ (vp_in p1 40 ∧ (∀ x_5 : Int32, x_5 = ((u0.2.2.2.2.2.1 p1.toNatClampNeg) + x_2) → (vp_in p1 40 ∧ (post x_2 (u0.1, u0.2.1, u0.2.2.1, u0.2.2.2.1, (upd u0.2.2.2.2.1 p1.toNatClampNeg (0 : Int32)), (upd u0.2.2.2.2.2.1 p1.toNatClampNeg x_5), u0.2.2.2.2.2.2)))))))
set_option maxHeartbeats 4000000 in
set_option maxRecDepth 100000 in
theorem c_X0_missOpen (l : Launch) (E : zE) (Z : zZ) (hZ0 : zSt Z) (q0 : Nat → Nat) (sz : Nat) (u0 : S_X0) (p1 : Int32) (post : Int32 → S_X0 → Prop) (hw : wp_X0_missOpen u0 p1 post) : Met l yX0_missOpen (zws yX0_missOpen cX0_missOpen 3 (some .int)) r_X0_missOpen (va_Pc [.ref (q0 0), .int p1] (zPre Z E (k_X0 E q0 u0) sz)) (va_Qi post (zAt E (va_A (k_X0 E q0 u0) sz) (fun u => k_X0 E q0 u)) (va_A (k_X0 E q0 u0) sz)) 0 0 (va_A (k_X0 E q0 u0) sz) := by
  refine z_ofW (Qf := fun A => va_Qi post (zAt E A (fun u => k_X0 E q0 u)) A) (by decide) (Nat.le_of_ble_eq_true rfl) ?_
  intro p e s m args below meth c A ls C0 hA hK hZ hP hD hS hl
  obtain ⟨hx, hb, hml, hr, hown, hts, hlocks, hin⟩ := id C0
  have hown : s.vm.findClass RX0 = some m.cls := hown
  have hl : lv_has ls 3 [(0, .ref (q0 0)), (1, .int p1)] := hl
  refine lv_aload_n hx hb dX0_missOpen_0 rfl (lv_at hl 0 rfl) ?_
  refine va_get (D := zD E) (ci := 0) (v := .ref (q0 4)) (C := RX0) (T := TX0) (N := 7) hx hb hts uw_X0 hown hK hP 0 rfl rfl 4 (by decide) (hts _ wm_1_138) (fun _ h9 => h9) rfl dX0_missOpen_1 ?_
  refine lv_iload_n hx hb dX0_missOpen_4 rfl (lv_at hl 1 rfl) ?_
  obtain ⟨h_1, hw⟩ := hw
  refine va_iald hx hb hK hP 4 0 rfl rfl h_1 dX0_missOpen_5 ?_
  refine lv_topi (fun x_2 ex_2 => ?_)
  have hw := hw x_2 ex_2
  refine lv_istore_n (lv' := [(2, .int x_2), (0, .ref (q0 0)), (1, .int p1)]) hx hb dX0_missOpen_6 rfl hl (by decide) rfl (fun ls hl => ?_)
  refine lv_aload_n hx hb dX0_missOpen_7 rfl (lv_at hl 1 rfl) ?_
  refine va_get (D := zD E) (ci := 0) (v := .ref (q0 4)) (C := RX0) (T := TX0) (N := 7) hx hb hts uw_X0 hown hK hP 0 rfl rfl 4 (by decide) (hts _ wm_1_138) (fun _ h9 => h9) rfl dX0_missOpen_8 ?_
  refine lv_iload_n hx hb dX0_missOpen_11 rfl (lv_at hl 2 rfl) ?_
  refine lv_iconst (v := 0) hx hb dX0_missOpen_12 rfl ?_
  obtain ⟨h_3, hw⟩ := hw
  refine va_iast hx hb hK hP hD hS 4 0 rfl rfl h_3 dX0_missOpen_13 (fun H locs hP hD hS => ?_)
  have hP : va_P (zD E) vwCl (k_X0 E q0 (u0.1, u0.2.1, u0.2.2.1, u0.2.2.2.1, (upd u0.2.2.2.2.1 p1.toNatClampNeg (0 : Int32)), u0.2.2.2.2.2.1, u0.2.2.2.2.2.2)) H := hP
  have hD : va_D A (k_X0 E q0 (u0.1, u0.2.1, u0.2.2.1, u0.2.2.2.1, (upd u0.2.2.2.2.1 p1.toNatClampNeg (0 : Int32)), u0.2.2.2.2.2.1, u0.2.2.2.2.2.2)) := hD
  refine lv_aload_n hx hb dX0_missOpen_14 rfl (lv_at hl 1 rfl) ?_
  refine va_get (D := zD E) (ci := 0) (v := .ref (q0 5)) (C := RX0) (T := TX0) (N := 7) hx hb hts uw_X0 hown hK hP 0 rfl rfl 5 (by decide) (hts _ wm_1_140) (fun _ h9 => h9) rfl dX0_missOpen_15 ?_
  refine lv_iload_n hx hb dX0_missOpen_18 rfl (lv_at hl 2 rfl) ?_
  refine lv_dup2_11 hx hb dX0_missOpen_19 rfl rfl ?_
  obtain ⟨h_4, hw⟩ := hw
  refine va_iald hx hb hK hP 5 0 rfl rfl h_4 dX0_missOpen_20 ?_
  refine lv_iload_n hx hb dX0_missOpen_21 rfl (lv_at hl 0 rfl) ?_
  refine lv_iadd hx hb dX0_missOpen_22 ?_
  refine lv_topi (fun x_5 ex_5 => ?_)
  have hw := hw x_5 ex_5
  obtain ⟨h_6, hw⟩ := hw
  refine va_iast hx hb hK hP hD hS 5 0 rfl rfl h_6 dX0_missOpen_23 (fun H locs hP hD hS => ?_)
  have hP : va_P (zD E) vwCl (k_X0 E q0 (u0.1, u0.2.1, u0.2.2.1, u0.2.2.2.1, (upd u0.2.2.2.2.1 p1.toNatClampNeg (0 : Int32)), (upd u0.2.2.2.2.2.1 p1.toNatClampNeg x_5), u0.2.2.2.2.2.2)) H := hP
  have hD : va_D A (k_X0 E q0 (u0.1, u0.2.1, u0.2.2.1, u0.2.2.2.1, (upd u0.2.2.2.2.1 p1.toNatClampNeg (0 : Int32)), (upd u0.2.2.2.2.2.1 p1.toNatClampNeg x_5), u0.2.2.2.2.2.2)) := hD
  refine lv_iload_n hx hb dX0_missOpen_24 rfl (lv_at hl 0 rfl) ?_
  exact z_iret (k := (fun u => k_X0 E q0 u)) (u0.1, u0.2.1, u0.2.2.1, u0.2.2.2.1, (upd u0.2.2.2.2.1 p1.toNatClampNeg (0 : Int32)), (upd u0.2.2.2.2.2.1 p1.toNatClampNeg x_5), u0.2.2.2.2.2.2) C0 hP hD hS hw dX0_missOpen_25
abbrev r_X0_missAllOpen : Room := { frames := 1, cells := 0, slots := 0, locals := 22 }
def j_X0_missAllOpen_4 (K4 : (Int32 × Int32 × Int32 × S_X0) → Prop) (x1 : Int32) (x2 : Int32) (x3 : Int32) (u0 : S_X0) (post : Int32 → S_X0 → Prop) : Prop := (x1 ≤ x3 → (post x2 u0)) ∧ (¬ (x1 ≤ x3) → (wp_X0_missOpen u0 x3 (fun r_3 u_2 => ∀ x_4 : Int32, x_4 = (x2 + r_3) → (∀ x_5 : Int32, x_5 = x3 + 1 → (K4 (x1, x_4, x_5, u_2))))))
def wp_X0_missAllOpen (u0 : S_X0) (p1 : Int32) (post : Int32 → S_X0 → Prop) : Prop := ∃ n, zl (fun K st => j_X0_missAllOpen_4 K st.1 st.2.1 st.2.2.1 st.2.2.2 post) n (p1, (0 : Int32), (0 : Int32), u0)
set_option maxHeartbeats 4000000 in
set_option maxRecDepth 100000 in
theorem t_X0_missAllOpen_4 {p : Program} {l : Launch} {e : Env} {s : State} {m : MethodId} {args : Array Value} {below : List Frame} {meth : Method} {c : Code} {Z : zZ} {E : zE} {A : Nat → Prop} {q0 : Nat → Nat} (hZ0 : zSt Z) (C0 : zC p s m args meth c yX0_missAllOpen cX0_missAllOpen 4 (some .int)) (hA : ∀ q : Nat, s.heap.size ≤ q → A q) (hK : va_K (zD E) vwCl (zT E) s) (hZ : Z A s s.heap) (post : Int32 → S_X0 → Prop) : ∀ (n : Nat) (x1 : Int32) (x2 : Int32) (x3 : Int32) (u0 : S_X0) (H : Heap) (locs : List Loc) (ls : Array Slot), zl (fun K st => j_X0_missAllOpen_4 K st.1 st.2.1 st.2.2.1 st.2.2.2 post) n (x1, x2, x3, u0) → va_P (zD E) vwCl (k_X0 E q0 u0) H → va_D A (k_X0 E q0 u0) → va_S A s.heap H locs → lv_has ls 4 [(0, .ref (q0 0)), (1, .int x1), (2, .int x2), (3, .int x3)] → W p l e r_X0_missAllOpen s m args below meth c H locs 0 0 (MQ below (va_Qi post (zAt E A (fun u => k_X0 E q0 u)) A) args s 0 0 A) (F0 m 4 ls []) := by
  obtain ⟨hx, hb, hml, hr, hown, hts, hlocks, hin⟩ := id C0
  have hown : s.vm.findClass RX0 = some m.cls := hown
  intro n
  induction n with
  | zero => intro x1 x2 x3 u0 H locs ls hw; exact hw.elim
  | succ n hk_4 =>
    intro x1 x2 x3 u0 H locs ls hw hP hD hS hl
    have hw : j_X0_missAllOpen_4 _ x1 x2 x3 u0 post := hw
    refine lv_iload_n hx hb dX0_missAllOpen_4 rfl (lv_at hl 3 rfl) ?_
    refine lv_iload_n hx hb dX0_missAllOpen_5 rfl (lv_at hl 1 rfl) ?_
    obtain ⟨hwt, hwf⟩ := hw
    refine lv_icmp_ge (tgt := 23) hx hb dX0_missAllOpen_6 (by decide) (fun c_1 => ?_) (fun c_1 => ?_)
    · have hw := hwt c_1
      refine lv_iload_n hx hb dX0_missAllOpen_23 rfl (lv_at hl 2 rfl) ?_
      exact z_iret (k := (fun u => k_X0 E q0 u)) u0 C0 hP hD hS hw dX0_missAllOpen_24
    · have hw := hwf c_1
      refine lv_iload_n hx hb dX0_missAllOpen_9 rfl (lv_at hl 2 rfl) ?_
      refine lv_aload_n hx hb dX0_missAllOpen_10 rfl (lv_at hl 0 rfl) ?_
      refine lv_iload_n hx hb dX0_missAllOpen_11 rfl (lv_at hl 3 rfl) ?_
      refine z_ki (z_rV (rest := [.int x2]) hZ0 C0 hK hZ hA hP hD hS hl.1 (c_X0_missOpen l E Z hZ0 q0 H.size u0 x3 _ hw) yv_X0_70 [0, 1, 2, 3, 4, 5, 6] rfl (by decide) (ci := 0) rfl rfl 0 rfl ⟨Nat.le_of_ble_eq_true rfl, Nat.le_of_ble_eq_true rfl⟩ ⟨rfl, rfl⟩ rfl rfl (Nat.le_of_ble_eq_true rfl) ⟨Nat.le_of_ble_eq_true rfl, Nat.le_of_ble_eq_true rfl⟩ dX0_missAllOpen_12) hP hD hS hA [0, 1, 2, 3, 4, 5, 6] [] [0, 1, 2, 3, 4, 5, 6] rfl (wr := []) rfl (by decide) (by decide) (fun u => k_X0 E q0 u) (fun u => rfl) (by decide) (fun r_3 u_2 H locs hw hP hD hS => ?_)
      refine lv_iadd hx hb dX0_missAllOpen_15 ?_
      refine lv_topi (fun x_4 ex_4 => ?_)
      have hw := hw x_4 ex_4
      refine lv_istore_n (lv' := [(2, .int x_4), (0, .ref (q0 0)), (1, .int x1), (3, .int x3)]) hx hb dX0_missAllOpen_16 rfl hl (by decide) rfl (fun ls hl => ?_)
      obtain ⟨x_5, ex_5⟩ : ∃ y : Int32, y = x3 + 1 := ⟨_, rfl⟩
      have hw := hw x_5 ex_5
      refine lv_iinc (v := x_5) (lv' := [(3, .int x_5), (2, .int x_4), (0, .ref (q0 0)), (1, .int x1)]) hx hb dX0_missAllOpen_17 hl (k := 3) rfl (by rw [ex_5]; rfl) (by decide) rfl (fun ls hl => ?_)
      refine lv_goto (tgt := 4) hx hb dX0_missAllOpen_20 (by decide) ?_
      exact hk_4 x1 x_4 x_5 u_2 _ _ _ hw hP hD hS (lv_sub hl [2, 3, 1, 0] rfl)
set_option maxHeartbeats 4000000 in
set_option maxRecDepth 100000 in
theorem c_X0_missAllOpen (l : Launch) (E : zE) (Z : zZ) (hZ0 : zSt Z) (q0 : Nat → Nat) (sz : Nat) (u0 : S_X0) (p1 : Int32) (post : Int32 → S_X0 → Prop) (hw : wp_X0_missAllOpen u0 p1 post) : Met l yX0_missAllOpen (zws yX0_missAllOpen cX0_missAllOpen 4 (some .int)) r_X0_missAllOpen (va_Pc [.ref (q0 0), .int p1] (zPre Z E (k_X0 E q0 u0) sz)) (va_Qi post (zAt E (va_A (k_X0 E q0 u0) sz) (fun u => k_X0 E q0 u)) (va_A (k_X0 E q0 u0) sz)) 0 0 (va_A (k_X0 E q0 u0) sz) := by
  refine z_ofW (Qf := fun A => va_Qi post (zAt E A (fun u => k_X0 E q0 u)) A) (by decide) (Nat.le_of_ble_eq_true rfl) ?_
  intro p e s m args below meth c A ls C0 hA hK hZ hP hD hS hl
  obtain ⟨hx, hb, hml, hr, hown, hts, hlocks, hin⟩ := id C0
  have hown : s.vm.findClass RX0 = some m.cls := hown
  have hl : lv_has ls 4 [(0, .ref (q0 0)), (1, .int p1)] := hl
  refine lv_iconst (v := 0) hx hb dX0_missAllOpen_0 rfl ?_
  refine lv_istore_n (lv' := [(2, .int (0 : Int32)), (0, .ref (q0 0)), (1, .int p1)]) hx hb dX0_missAllOpen_1 rfl hl (by decide) rfl (fun ls hl => ?_)
  refine lv_iconst (v := 0) hx hb dX0_missAllOpen_2 rfl ?_
  refine lv_istore_n (lv' := [(3, .int (0 : Int32)), (2, .int (0 : Int32)), (0, .ref (q0 0)), (1, .int p1)]) hx hb dX0_missAllOpen_3 rfl hl (by decide) rfl (fun ls hl => ?_)
  obtain ⟨n9, hw⟩ := hw
  exact t_X0_missAllOpen_4 (l := l) hZ0 C0 hA hK hZ post n9 p1 (0 : Int32) (0 : Int32) u0 _ _ _ hw hP hD hS (lv_sub hl [2, 3, 1, 0] rfl)
abbrev r_X0_invoiceSum : Room := { frames := 0, cells := 0, slots := 0, locals := 0 }
def j_X0_invoiceSum_5 (K5 : (Int32 × Int64 × Int32 × S_X0) → Prop) (x1 : Int32) (x2 : Int64) (x4 : Int32) (u0 : S_X0) (post : Int64 → S_X0 → Prop) : Prop := (x1 ≤ x4 → (post x2 u0)) ∧ (¬ (x1 ≤ x4) → (vp_in x4 40 ∧ (∀ x_3 : Int64, x_3 = (x2 + (u0.2.2.2.2.2.2 x4.toNatClampNeg)) → (∀ x_4 : Int32, x_4 = x4 + 1 → (K5 (x1, x_3, x_4, u0))))))
def wp_X0_invoiceSum (u0 : S_X0) (p1 : Int32) (post : Int64 → S_X0 → Prop) : Prop := ∃ n, zl (fun K st => j_X0_invoiceSum_5 K st.1 st.2.1 st.2.2.1 st.2.2.2 post) n (p1, (0 : Int64), (0 : Int32), u0)
set_option maxHeartbeats 4000000 in
set_option maxRecDepth 100000 in
theorem t_X0_invoiceSum_5 {p : Program} {l : Launch} {e : Env} {s : State} {m : MethodId} {args : Array Value} {below : List Frame} {meth : Method} {c : Code} {Z : zZ} {E : zE} {A : Nat → Prop} {q0 : Nat → Nat} (hZ0 : zSt Z) (C0 : zC p s m args meth c yX0_invoiceSum cX0_invoiceSum 5 (some .long)) (hA : ∀ q : Nat, s.heap.size ≤ q → A q) (hK : va_K (zD E) vwCl (zT E) s) (hZ : Z A s s.heap) (post : Int64 → S_X0 → Prop) : ∀ (n : Nat) (x1 : Int32) (x2 : Int64) (x4 : Int32) (u0 : S_X0) (H : Heap) (locs : List Loc) (ls : Array Slot), zl (fun K st => j_X0_invoiceSum_5 K st.1 st.2.1 st.2.2.1 st.2.2.2 post) n (x1, x2, x4, u0) → va_P (zD E) vwCl (k_X0 E q0 u0) H → va_D A (k_X0 E q0 u0) → va_S A s.heap H locs → lv_has ls 5 [(0, .ref (q0 0)), (1, .int x1), (2, .long x2), (4, .int x4)] → W p l e r_X0_invoiceSum s m args below meth c H locs 0 0 (MQ below (va_Ql post (zAt E A (fun u => k_X0 E q0 u)) A) args s 0 0 A) (F0 m 5 ls []) := by
  obtain ⟨hx, hb, hml, hr, hown, hts, hlocks, hin⟩ := id C0
  have hown : s.vm.findClass RX0 = some m.cls := hown
  intro n
  induction n with
  | zero => intro x1 x2 x4 u0 H locs ls hw; exact hw.elim
  | succ n hk_5 =>
    intro x1 x2 x4 u0 H locs ls hw hP hD hS hl
    have hw : j_X0_invoiceSum_5 _ x1 x2 x4 u0 post := hw
    refine lv_iload hx hb dX0_invoiceSum_5 (lv_at hl 3 rfl) ?_
    refine lv_iload_n hx hb dX0_invoiceSum_7 rfl (lv_at hl 1 rfl) ?_
    obtain ⟨hwt, hwf⟩ := hw
    refine lv_icmp_ge (tgt := 27) hx hb dX0_invoiceSum_8 (by decide) (fun c_1 => ?_) (fun c_1 => ?_)
    · have hw := hwt c_1
      refine lv_lload_n hx hb dX0_invoiceSum_27 rfl (lv_at hl 2 rfl) ?_
      exact z_lret (k := (fun u => k_X0 E q0 u)) u0 C0 hP hD hS hw dX0_invoiceSum_28
    · have hw := hwf c_1
      refine lv_lload_n hx hb dX0_invoiceSum_11 rfl (lv_at hl 2 rfl) ?_
      refine lv_aload_n hx hb dX0_invoiceSum_12 rfl (lv_at hl 0 rfl) ?_
      refine va_get (D := zD E) (ci := 0) (v := .ref (q0 6)) (C := RX0) (T := TX0) (N := 7) hx hb hts uw_X0 hown hK hP 0 rfl rfl 6 (by decide) (hts _ wm_1_142) (fun _ h9 => h9) rfl dX0_invoiceSum_13 ?_
      refine lv_iload hx hb dX0_invoiceSum_16 (lv_at hl 3 rfl) ?_
      obtain ⟨h_2, hw⟩ := hw
      refine va_lald hx hb hK hP 6 1 rfl rfl h_2 dX0_invoiceSum_18 ?_
      refine lv_ladd hx hb dX0_invoiceSum_19 ?_
      refine lv_topl (fun x_3 ex_3 => ?_)
      have hw := hw x_3 ex_3
      refine lv_lstore_n (lv' := [(2, .long x_3), (0, .ref (q0 0)), (1, .int x1), (4, .int x4)]) hx hb dX0_invoiceSum_20 rfl hl (by decide) rfl (fun ls hl => ?_)
      obtain ⟨x_4, ex_4⟩ : ∃ y : Int32, y = x4 + 1 := ⟨_, rfl⟩
      have hw := hw x_4 ex_4
      refine lv_iinc (v := x_4) (lv' := [(4, .int x_4), (2, .long x_3), (0, .ref (q0 0)), (1, .int x1)]) hx hb dX0_invoiceSum_21 hl (k := 3) rfl (by rw [ex_4]; rfl) (by decide) rfl (fun ls hl => ?_)
      refine lv_goto (tgt := 5) hx hb dX0_invoiceSum_24 (by decide) ?_
      exact hk_5 x1 x_3 x_4 u0 _ _ _ hw hP hD hS (lv_sub hl [2, 3, 1, 0] rfl)
set_option maxHeartbeats 4000000 in
set_option maxRecDepth 100000 in
theorem c_X0_invoiceSum (l : Launch) (E : zE) (Z : zZ) (hZ0 : zSt Z) (q0 : Nat → Nat) (sz : Nat) (u0 : S_X0) (p1 : Int32) (post : Int64 → S_X0 → Prop) (hw : wp_X0_invoiceSum u0 p1 post) : Met l yX0_invoiceSum (zws yX0_invoiceSum cX0_invoiceSum 5 (some .long)) r_X0_invoiceSum (va_Pc [.ref (q0 0), .int p1] (zPre Z E (k_X0 E q0 u0) sz)) (va_Ql post (zAt E (va_A (k_X0 E q0 u0) sz) (fun u => k_X0 E q0 u)) (va_A (k_X0 E q0 u0) sz)) 0 0 (va_A (k_X0 E q0 u0) sz) := by
  refine z_ofW (Qf := fun A => va_Ql post (zAt E A (fun u => k_X0 E q0 u)) A) (by decide) (Nat.le_of_ble_eq_true rfl) ?_
  intro p e s m args below meth c A ls C0 hA hK hZ hP hD hS hl
  obtain ⟨hx, hb, hml, hr, hown, hts, hlocks, hin⟩ := id C0
  have hown : s.vm.findClass RX0 = some m.cls := hown
  have hl : lv_has ls 5 [(0, .ref (q0 0)), (1, .int p1)] := hl
  refine lv_lconst (v := 0) hx hb dX0_invoiceSum_0 rfl ?_
  refine lv_lstore_n (lv' := [(2, .long (0 : Int64)), (0, .ref (q0 0)), (1, .int p1)]) hx hb dX0_invoiceSum_1 rfl hl (by decide) rfl (fun ls hl => ?_)
  refine lv_iconst (v := 0) hx hb dX0_invoiceSum_2 rfl ?_
  refine lv_istore (lv' := [(4, .int (0 : Int32)), (2, .long (0 : Int64)), (0, .ref (q0 0)), (1, .int p1)]) hx hb dX0_invoiceSum_3 hl (by decide) rfl (fun ls hl => ?_)
  obtain ⟨n9, hw⟩ := hw
  exact t_X0_invoiceSum_5 (l := l) hZ0 C0 hA hK hZ post n9 p1 (0 : Int64) (0 : Int32) u0 _ _ _ hw hP hD hS (lv_sub hl [2, 3, 1, 0] rfl)
abbrev r_X0_mixInto : Room := { frames := 0, cells := 0, slots := 0, locals := 0 }
def j_X0_mixInto_6 (K6 : (Int32 × Int64 × Int32 × S_X0) → Prop) (x3 : Int32) (x4 : Int64) (x6 : Int32) (u0 : S_X0) (post : Int64 → S_X0 → Prop) : Prop := (x3 ≤ x6 → (post x4 u0)) ∧ (¬ (x3 ≤ x6) → (vp_in x6 40 ∧ (∀ x_3 : Int64, x_3 = (((31 : Int64) * x4) + ((u0.2.1 x6.toNatClampNeg).toInt64)) → (vp_in x6 40 ∧ (∀ x_5 : Int64, x_5 = (((31 : Int64) * x_3) + ((u0.2.2.1 x6.toNatClampNeg).toInt64)) → (vp_in x6 40 ∧ (∀ x_7 : Int64, x_7 = (((31 : Int64) * x_5) + ((u0.2.2.2.1 x6.toNatClampNeg).toInt64)) → (vp_in x6 40 ∧ (∀ x_9 : Int64, x_9 = (((31 : Int64) * x_7) + ((u0.2.2.2.2.1 x6.toNatClampNeg).toInt64)) → (vp_in x6 40 ∧ (∀ x_11 : Int64, x_11 = (((31 : Int64) * x_9) + ((u0.2.2.2.2.2.1 x6.toNatClampNeg).toInt64)) → (∀ x_12 : Int32, x_12 = x6 + 1 → (K6 (x3, x_11, x_12, u0))))))))))))))
def wp_X0_mixInto (u0 : S_X0) (p1 : Int64) (p2 : Int32) (post : Int64 → S_X0 → Prop) : Prop := ∃ n, zl (fun K st => j_X0_mixInto_6 K st.1 st.2.1 st.2.2.1 st.2.2.2 post) n (p2, p1, (0 : Int32), u0)
set_option maxHeartbeats 4000000 in
set_option maxRecDepth 100000 in
theorem t_X0_mixInto_6 {p : Program} {l : Launch} {e : Env} {s : State} {m : MethodId} {args : Array Value} {below : List Frame} {meth : Method} {c : Code} {Z : zZ} {E : zE} {A : Nat → Prop} {q0 : Nat → Nat} (hZ0 : zSt Z) (C0 : zC p s m args meth c yX0_mixInto cX0_mixInto 7 (some .long)) (hA : ∀ q : Nat, s.heap.size ≤ q → A q) (hK : va_K (zD E) vwCl (zT E) s) (hZ : Z A s s.heap) (post : Int64 → S_X0 → Prop) : ∀ (n : Nat) (x3 : Int32) (x4 : Int64) (x6 : Int32) (u0 : S_X0) (H : Heap) (locs : List Loc) (ls : Array Slot), zl (fun K st => j_X0_mixInto_6 K st.1 st.2.1 st.2.2.1 st.2.2.2 post) n (x3, x4, x6, u0) → va_P (zD E) vwCl (k_X0 E q0 u0) H → va_D A (k_X0 E q0 u0) → va_S A s.heap H locs → lv_has ls 7 [(0, .ref (q0 0)), (3, .int x3), (4, .long x4), (6, .int x6)] → W p l e r_X0_mixInto s m args below meth c H locs 0 0 (MQ below (va_Ql post (zAt E A (fun u => k_X0 E q0 u)) A) args s 0 0 A) (F0 m 6 ls []) := by
  obtain ⟨hx, hb, hml, hr, hown, hts, hlocks, hin⟩ := id C0
  have hown : s.vm.findClass RX0 = some m.cls := hown
  intro n
  induction n with
  | zero => intro x3 x4 x6 u0 H locs ls hw; exact hw.elim
  | succ n hk_6 =>
    intro x3 x4 x6 u0 H locs ls hw hP hD hS hl
    have hw : j_X0_mixInto_6 _ x3 x4 x6 u0 post := hw
    refine lv_iload hx hb dX0_mixInto_6 (lv_at hl 3 rfl) ?_
    refine lv_iload_n hx hb dX0_mixInto_8 rfl (lv_at hl 1 rfl) ?_
    obtain ⟨hwt, hwf⟩ := hw
    refine lv_icmp_ge (tgt := 103) hx hb dX0_mixInto_9 (by decide) (fun c_1 => ?_) (fun c_1 => ?_)
    · have hw := hwt c_1
      refine lv_lload hx hb dX0_mixInto_103 (lv_at hl 2 rfl) ?_
      exact z_lret (k := (fun u => k_X0 E q0 u)) u0 C0 hP hD hS hw dX0_mixInto_105
    · have hw := hwf c_1
      refine lv_ldc2 hx hb hown (hts _ wm_3_47) dX0_mixInto_12 ?_
      refine lv_lload hx hb dX0_mixInto_15 (lv_at hl 2 rfl) ?_
      refine lv_lmul hx hb dX0_mixInto_17 ?_
      refine lv_aload_n hx hb dX0_mixInto_18 rfl (lv_at hl 0 rfl) ?_
      refine va_get (D := zD E) (ci := 0) (v := .ref (q0 1)) (C := RX0) (T := TX0) (N := 7) hx hb hts uw_X0 hown hK hP 0 rfl rfl 1 (by decide) (hts _ wm_1_130) (fun _ h9 => h9) rfl dX0_mixInto_19 ?_
      refine lv_iload hx hb dX0_mixInto_22 (lv_at hl 3 rfl) ?_
      obtain ⟨h_2, hw⟩ := hw
      refine va_iald hx hb hK hP 1 0 rfl rfl h_2 dX0_mixInto_24 ?_
      refine lv_i2l hx hb dX0_mixInto_25 rfl ?_
      refine lv_ladd hx hb dX0_mixInto_26 ?_
      refine lv_topl (fun x_3 ex_3 => ?_)
      have hw := hw x_3 ex_3
      refine lv_lstore (lv' := [(4, .long x_3), (0, .ref (q0 0)), (3, .int x3), (6, .int x6)]) hx hb dX0_mixInto_27 hl (by decide) rfl (fun ls hl => ?_)
      refine lv_ldc2 hx hb hown (hts _ wm_3_47) dX0_mixInto_29 ?_
      refine lv_lload hx hb dX0_mixInto_32 (lv_at hl 0 rfl) ?_
      refine lv_lmul hx hb dX0_mixInto_34 ?_
      refine lv_aload_n hx hb dX0_mixInto_35 rfl (lv_at hl 1 rfl) ?_
      refine va_get (D := zD E) (ci := 0) (v := .ref (q0 2)) (C := RX0) (T := TX0) (N := 7) hx hb hts uw_X0 hown hK hP 0 rfl rfl 2 (by decide) (hts _ wm_1_133) (fun _ h9 => h9) rfl dX0_mixInto_36 ?_
      refine lv_iload hx hb dX0_mixInto_39 (lv_at hl 3 rfl) ?_
      obtain ⟨h_4, hw⟩ := hw
      refine va_iald hx hb hK hP 2 0 rfl rfl h_4 dX0_mixInto_41 ?_
      refine lv_i2l hx hb dX0_mixInto_42 rfl ?_
      refine lv_ladd hx hb dX0_mixInto_43 ?_
      refine lv_topl (fun x_5 ex_5 => ?_)
      have hw := hw x_5 ex_5
      refine lv_lstore (lv' := [(4, .long x_5), (0, .ref (q0 0)), (3, .int x3), (6, .int x6)]) hx hb dX0_mixInto_44 hl (by decide) rfl (fun ls hl => ?_)
      refine lv_ldc2 hx hb hown (hts _ wm_3_47) dX0_mixInto_46 ?_
      refine lv_lload hx hb dX0_mixInto_49 (lv_at hl 0 rfl) ?_
      refine lv_lmul hx hb dX0_mixInto_51 ?_
      refine lv_aload_n hx hb dX0_mixInto_52 rfl (lv_at hl 1 rfl) ?_
      refine va_get (D := zD E) (ci := 0) (v := .ref (q0 3)) (C := RX0) (T := TX0) (N := 7) hx hb hts uw_X0 hown hK hP 0 rfl rfl 3 (by decide) (hts _ wm_1_136) (fun _ h9 => h9) rfl dX0_mixInto_53 ?_
      refine lv_iload hx hb dX0_mixInto_56 (lv_at hl 3 rfl) ?_
      obtain ⟨h_6, hw⟩ := hw
      refine va_iald hx hb hK hP 3 0 rfl rfl h_6 dX0_mixInto_58 ?_
      refine lv_i2l hx hb dX0_mixInto_59 rfl ?_
      refine lv_ladd hx hb dX0_mixInto_60 ?_
      refine lv_topl (fun x_7 ex_7 => ?_)
      have hw := hw x_7 ex_7
      refine lv_lstore (lv' := [(4, .long x_7), (0, .ref (q0 0)), (3, .int x3), (6, .int x6)]) hx hb dX0_mixInto_61 hl (by decide) rfl (fun ls hl => ?_)
      refine lv_ldc2 hx hb hown (hts _ wm_3_47) dX0_mixInto_63 ?_
      refine lv_lload hx hb dX0_mixInto_66 (lv_at hl 0 rfl) ?_
      refine lv_lmul hx hb dX0_mixInto_68 ?_
      refine lv_aload_n hx hb dX0_mixInto_69 rfl (lv_at hl 1 rfl) ?_
      refine va_get (D := zD E) (ci := 0) (v := .ref (q0 4)) (C := RX0) (T := TX0) (N := 7) hx hb hts uw_X0 hown hK hP 0 rfl rfl 4 (by decide) (hts _ wm_1_138) (fun _ h9 => h9) rfl dX0_mixInto_70 ?_
      refine lv_iload hx hb dX0_mixInto_73 (lv_at hl 3 rfl) ?_
      obtain ⟨h_8, hw⟩ := hw
      refine va_iald hx hb hK hP 4 0 rfl rfl h_8 dX0_mixInto_75 ?_
      refine lv_i2l hx hb dX0_mixInto_76 rfl ?_
      refine lv_ladd hx hb dX0_mixInto_77 ?_
      refine lv_topl (fun x_9 ex_9 => ?_)
      have hw := hw x_9 ex_9
      refine lv_lstore (lv' := [(4, .long x_9), (0, .ref (q0 0)), (3, .int x3), (6, .int x6)]) hx hb dX0_mixInto_78 hl (by decide) rfl (fun ls hl => ?_)
      refine lv_ldc2 hx hb hown (hts _ wm_3_47) dX0_mixInto_80 ?_
      refine lv_lload hx hb dX0_mixInto_83 (lv_at hl 0 rfl) ?_
      refine lv_lmul hx hb dX0_mixInto_85 ?_
      refine lv_aload_n hx hb dX0_mixInto_86 rfl (lv_at hl 1 rfl) ?_
      refine va_get (D := zD E) (ci := 0) (v := .ref (q0 5)) (C := RX0) (T := TX0) (N := 7) hx hb hts uw_X0 hown hK hP 0 rfl rfl 5 (by decide) (hts _ wm_1_140) (fun _ h9 => h9) rfl dX0_mixInto_87 ?_
      refine lv_iload hx hb dX0_mixInto_90 (lv_at hl 3 rfl) ?_
      obtain ⟨h_10, hw⟩ := hw
      refine va_iald hx hb hK hP 5 0 rfl rfl h_10 dX0_mixInto_92 ?_
      refine lv_i2l hx hb dX0_mixInto_93 rfl ?_
      refine lv_ladd hx hb dX0_mixInto_94 ?_
      refine lv_topl (fun x_11 ex_11 => ?_)
      have hw := hw x_11 ex_11
      refine lv_lstore (lv' := [(4, .long x_11), (0, .ref (q0 0)), (3, .int x3), (6, .int x6)]) hx hb dX0_mixInto_95 hl (by decide) rfl (fun ls hl => ?_)
      obtain ⟨x_12, ex_12⟩ : ∃ y : Int32, y = x6 + 1 := ⟨_, rfl⟩
      have hw := hw x_12 ex_12
      refine lv_iinc (v := x_12) (lv' := [(6, .int x_12), (4, .long x_11), (0, .ref (q0 0)), (3, .int x3)]) hx hb dX0_mixInto_97 hl (k := 3) rfl (by rw [ex_12]; rfl) (by decide) rfl (fun ls hl => ?_)
      refine lv_goto (tgt := 6) hx hb dX0_mixInto_100 (by decide) ?_
      exact hk_6 x3 x_11 x_12 u0 _ _ _ hw hP hD hS (lv_sub hl [2, 3, 1, 0] rfl)
set_option maxHeartbeats 4000000 in
set_option maxRecDepth 100000 in
theorem c_X0_mixInto (l : Launch) (E : zE) (Z : zZ) (hZ0 : zSt Z) (q0 : Nat → Nat) (sz : Nat) (u0 : S_X0) (p1 : Int64) (p2 : Int32) (post : Int64 → S_X0 → Prop) (hw : wp_X0_mixInto u0 p1 p2 post) : Met l yX0_mixInto (zws yX0_mixInto cX0_mixInto 7 (some .long)) r_X0_mixInto (va_Pc [.ref (q0 0), .long p1, .int p2] (zPre Z E (k_X0 E q0 u0) sz)) (va_Ql post (zAt E (va_A (k_X0 E q0 u0) sz) (fun u => k_X0 E q0 u)) (va_A (k_X0 E q0 u0) sz)) 0 0 (va_A (k_X0 E q0 u0) sz) := by
  refine z_ofW (Qf := fun A => va_Ql post (zAt E A (fun u => k_X0 E q0 u)) A) (by decide) (Nat.le_of_ble_eq_true rfl) ?_
  intro p e s m args below meth c A ls C0 hA hK hZ hP hD hS hl
  obtain ⟨hx, hb, hml, hr, hown, hts, hlocks, hin⟩ := id C0
  have hown : s.vm.findClass RX0 = some m.cls := hown
  have hl : lv_has ls 7 [(0, .ref (q0 0)), (1, .long p1), (3, .int p2)] := hl
  refine lv_lload_n hx hb dX0_mixInto_0 rfl (lv_at hl 1 rfl) ?_
  refine lv_lstore (lv' := [(4, .long p1), (0, .ref (q0 0)), (1, .long p1), (3, .int p2)]) hx hb dX0_mixInto_1 hl (by decide) rfl (fun ls hl => ?_)
  refine lv_iconst (v := 0) hx hb dX0_mixInto_3 rfl ?_
  refine lv_istore (lv' := [(6, .int (0 : Int32)), (4, .long p1), (0, .ref (q0 0)), (1, .long p1), (3, .int p2)]) hx hb dX0_mixInto_4 hl (by decide) rfl (fun ls hl => ?_)
  obtain ⟨n9, hw⟩ := hw
  exact t_X0_mixInto_6 (l := l) hZ0 C0 hA hK hZ post n9 p2 p1 (0 : Int32) u0 _ _ _ hw hP hD hS (lv_sub hl [2, 4, 1, 0] rfl)
abbrev r_X0_copyFrom : Room := { frames := 1, cells := 0, slots := 0, locals := 40 }
def wp_X0_copyFrom (u0 : S_X0) (u1 : S_X0) (post : (S_X0 × S_X0) → Prop) : Prop := post ((u1.1, (va_cpy u1.2.1 u0.2.1 0 0 40), (va_cpy u1.2.2.1 u0.2.2.1 0 0 40), (va_cpy u1.2.2.2.1 u0.2.2.2.1 0 0 40), (va_cpy u1.2.2.2.2.1 u0.2.2.2.2.1 0 0 40), (va_cpy u1.2.2.2.2.2.1 u0.2.2.2.2.2.1 0 0 40), (va_cpy u1.2.2.2.2.2.2 u0.2.2.2.2.2.2 0 0 40)), u1)
set_option maxHeartbeats 4000000 in
set_option maxRecDepth 100000 in
theorem c_X0_copyFrom (l : Launch) (E : zE) (Z : zZ) (hZ0 : zSt Z) (q0 : Nat → Nat) (q1 : Nat → Nat) (sz : Nat) (u0 : S_X0) (u1 : S_X0) (post : (S_X0 × S_X0) → Prop) (hw : wp_X0_copyFrom u0 u1 post) : Met l yX0_copyFrom (zws yX0_copyFrom cX0_copyFrom 2 none) r_X0_copyFrom (va_Pc [.ref (q0 0), .ref (q1 0)] (zPre Z E (k_X0 E q0 u0 ++ (k_X0 E q1 u1)) sz)) (va_Qv post (zAt E (va_A (k_X0 E q0 u0 ++ (k_X0 E q1 u1)) sz) (fun u => k_X0 E q0 u.1 ++ (k_X0 E q1 u.2))) (va_A (k_X0 E q0 u0 ++ (k_X0 E q1 u1)) sz)) 0 0 (va_A (k_X0 E q0 u0 ++ (k_X0 E q1 u1)) sz) := by
  refine z_ofW (Qf := fun A => va_Qv post (zAt E A (fun u => k_X0 E q0 u.1 ++ (k_X0 E q1 u.2))) A) (by decide) (Nat.le_of_ble_eq_true rfl) ?_
  intro p e s m args below meth c A ls C0 hA hK hZ hP hD hS hl
  obtain ⟨hx, hb, hml, hr, hown, hts, hlocks, hin⟩ := id C0
  have hown : s.vm.findClass RX0 = some m.cls := hown
  have hl : lv_has ls 2 [(0, .ref (q0 0)), (1, .ref (q1 0))] := hl
  refine lv_aload_n hx hb dX0_copyFrom_0 rfl (lv_at hl 0 rfl) ?_
  refine lv_aload_n hx hb dX0_copyFrom_1 rfl (lv_at hl 1 rfl) ?_
  refine va_get (D := zD E) (ci := 0) (v := .int u1.1) (C := RX0) (T := TX0) (N := 7) hx hb hts uw_X0 hown hK hP 7 rfl rfl 0 (by decide) (hts _ wm_1_128) (fun _ h9 => h9) rfl dX0_copyFrom_2 ?_
  refine va_put (D := zD E) (ci := 0) (v := .int u1.1) (ty := .int) (C := RX0) (T := TX0) (N := 7) hx hb hts uw_X0 tyX0 tyX0_ok nmX0 hown hK hP hD hS 0 rfl rfl 0 (by decide) (hts _ wm_1_128) (fun _ h9 => h9) rfl (by decide +kernel) rfl rfl (Nat.le_of_ble_eq_true rfl) dX0_copyFrom_5 (fun H locs hP hD hS => ?_)
  have hP : va_P (zD E) vwCl (k_X0 E q0 (u1.1, u0.2.1, u0.2.2.1, u0.2.2.2.1, u0.2.2.2.2.1, u0.2.2.2.2.2.1, u0.2.2.2.2.2.2) ++ (k_X0 E q1 u1)) H := hP
  have hD : va_D A (k_X0 E q0 (u1.1, u0.2.1, u0.2.2.1, u0.2.2.2.1, u0.2.2.2.2.1, u0.2.2.2.2.2.1, u0.2.2.2.2.2.2) ++ (k_X0 E q1 u1)) := hD
  refine lv_aload_n hx hb dX0_copyFrom_8 rfl (lv_at hl 1 rfl) ?_
  refine va_get (D := zD E) (ci := 0) (v := .ref (q1 1)) (C := RX0) (T := TX0) (N := 7) hx hb hts uw_X0 hown hK hP 7 rfl rfl 1 (by decide) (hts _ wm_1_130) (fun _ h9 => h9) rfl dX0_copyFrom_9 ?_
  refine lv_iconst (v := 0) hx hb dX0_copyFrom_12 rfl ?_
  refine lv_aload_n hx hb dX0_copyFrom_13 rfl (lv_at hl 0 rfl) ?_
  refine va_get (D := zD E) (ci := 0) (v := .ref (q0 1)) (C := RX0) (T := TX0) (N := 7) hx hb hts uw_X0 hown hK hP 0 rfl rfl 1 (by decide) (hts _ wm_1_130) (fun _ h9 => h9) rfl dX0_copyFrom_14 ?_
  refine lv_iconst (v := 0) hx hb dX0_copyFrom_17 rfl ?_
  refine lv_bipush (v := 40) hx hb dX0_copyFrom_18 rfl ?_
  refine va_copyi hx hb (hml.trans hl.1.symm) hown (hts _ wm_2_221) (hts _ wm_2_207) (hts _ wm_2_206) (hts _ wm_1_22) hK hP hD hS 8 1 0 0 rfl rfl rfl rfl rfl (by decide) (by decide) (by decide) (show (0 : Int32).toNatClampNeg + (40 : Int32).toNatClampNeg ≤ 40 by decide) (show (0 : Int32).toNatClampNeg + (40 : Int32).toNatClampNeg ≤ 40 by decide) (fun _ _ => rfl) (Nat.le_of_ble_eq_true rfl) (Nat.le_of_ble_eq_true rfl) dX0_copyFrom_20 (fun H locs hP hD hS => ?_)
  have hP : va_P (zD E) vwCl (k_X0 E q0 (u1.1, (va_cpy u1.2.1 u0.2.1 0 0 40), u0.2.2.1, u0.2.2.2.1, u0.2.2.2.2.1, u0.2.2.2.2.2.1, u0.2.2.2.2.2.2) ++ (k_X0 E q1 u1)) H := hP
  have hD : va_D A (k_X0 E q0 (u1.1, (va_cpy u1.2.1 u0.2.1 0 0 40), u0.2.2.1, u0.2.2.2.1, u0.2.2.2.2.1, u0.2.2.2.2.2.1, u0.2.2.2.2.2.2) ++ (k_X0 E q1 u1)) := hD
  refine lv_aload_n hx hb dX0_copyFrom_23 rfl (lv_at hl 1 rfl) ?_
  refine va_get (D := zD E) (ci := 0) (v := .ref (q1 2)) (C := RX0) (T := TX0) (N := 7) hx hb hts uw_X0 hown hK hP 7 rfl rfl 2 (by decide) (hts _ wm_1_133) (fun _ h9 => h9) rfl dX0_copyFrom_24 ?_
  refine lv_iconst (v := 0) hx hb dX0_copyFrom_27 rfl ?_
  refine lv_aload_n hx hb dX0_copyFrom_28 rfl (lv_at hl 0 rfl) ?_
  refine va_get (D := zD E) (ci := 0) (v := .ref (q0 2)) (C := RX0) (T := TX0) (N := 7) hx hb hts uw_X0 hown hK hP 0 rfl rfl 2 (by decide) (hts _ wm_1_133) (fun _ h9 => h9) rfl dX0_copyFrom_29 ?_
  refine lv_iconst (v := 0) hx hb dX0_copyFrom_32 rfl ?_
  refine lv_bipush (v := 40) hx hb dX0_copyFrom_33 rfl ?_
  refine va_copyi hx hb (hml.trans hl.1.symm) hown (hts _ wm_2_221) (hts _ wm_2_207) (hts _ wm_2_206) (hts _ wm_1_22) hK hP hD hS 9 2 0 0 rfl rfl rfl rfl rfl (by decide) (by decide) (by decide) (show (0 : Int32).toNatClampNeg + (40 : Int32).toNatClampNeg ≤ 40 by decide) (show (0 : Int32).toNatClampNeg + (40 : Int32).toNatClampNeg ≤ 40 by decide) (fun _ _ => rfl) (Nat.le_of_ble_eq_true rfl) (Nat.le_of_ble_eq_true rfl) dX0_copyFrom_35 (fun H locs hP hD hS => ?_)
  have hP : va_P (zD E) vwCl (k_X0 E q0 (u1.1, (va_cpy u1.2.1 u0.2.1 0 0 40), (va_cpy u1.2.2.1 u0.2.2.1 0 0 40), u0.2.2.2.1, u0.2.2.2.2.1, u0.2.2.2.2.2.1, u0.2.2.2.2.2.2) ++ (k_X0 E q1 u1)) H := hP
  have hD : va_D A (k_X0 E q0 (u1.1, (va_cpy u1.2.1 u0.2.1 0 0 40), (va_cpy u1.2.2.1 u0.2.2.1 0 0 40), u0.2.2.2.1, u0.2.2.2.2.1, u0.2.2.2.2.2.1, u0.2.2.2.2.2.2) ++ (k_X0 E q1 u1)) := hD
  refine lv_aload_n hx hb dX0_copyFrom_38 rfl (lv_at hl 1 rfl) ?_
  refine va_get (D := zD E) (ci := 0) (v := .ref (q1 3)) (C := RX0) (T := TX0) (N := 7) hx hb hts uw_X0 hown hK hP 7 rfl rfl 3 (by decide) (hts _ wm_1_136) (fun _ h9 => h9) rfl dX0_copyFrom_39 ?_
  refine lv_iconst (v := 0) hx hb dX0_copyFrom_42 rfl ?_
  refine lv_aload_n hx hb dX0_copyFrom_43 rfl (lv_at hl 0 rfl) ?_
  refine va_get (D := zD E) (ci := 0) (v := .ref (q0 3)) (C := RX0) (T := TX0) (N := 7) hx hb hts uw_X0 hown hK hP 0 rfl rfl 3 (by decide) (hts _ wm_1_136) (fun _ h9 => h9) rfl dX0_copyFrom_44 ?_
  refine lv_iconst (v := 0) hx hb dX0_copyFrom_47 rfl ?_
  refine lv_bipush (v := 40) hx hb dX0_copyFrom_48 rfl ?_
  refine va_copyi hx hb (hml.trans hl.1.symm) hown (hts _ wm_2_221) (hts _ wm_2_207) (hts _ wm_2_206) (hts _ wm_1_22) hK hP hD hS 10 3 0 0 rfl rfl rfl rfl rfl (by decide) (by decide) (by decide) (show (0 : Int32).toNatClampNeg + (40 : Int32).toNatClampNeg ≤ 40 by decide) (show (0 : Int32).toNatClampNeg + (40 : Int32).toNatClampNeg ≤ 40 by decide) (fun _ _ => rfl) (Nat.le_of_ble_eq_true rfl) (Nat.le_of_ble_eq_true rfl) dX0_copyFrom_50 (fun H locs hP hD hS => ?_)
  have hP : va_P (zD E) vwCl (k_X0 E q0 (u1.1, (va_cpy u1.2.1 u0.2.1 0 0 40), (va_cpy u1.2.2.1 u0.2.2.1 0 0 40), (va_cpy u1.2.2.2.1 u0.2.2.2.1 0 0 40), u0.2.2.2.2.1, u0.2.2.2.2.2.1, u0.2.2.2.2.2.2) ++ (k_X0 E q1 u1)) H := hP
  have hD : va_D A (k_X0 E q0 (u1.1, (va_cpy u1.2.1 u0.2.1 0 0 40), (va_cpy u1.2.2.1 u0.2.2.1 0 0 40), (va_cpy u1.2.2.2.1 u0.2.2.2.1 0 0 40), u0.2.2.2.2.1, u0.2.2.2.2.2.1, u0.2.2.2.2.2.2) ++ (k_X0 E q1 u1)) := hD
  refine lv_aload_n hx hb dX0_copyFrom_53 rfl (lv_at hl 1 rfl) ?_
  refine va_get (D := zD E) (ci := 0) (v := .ref (q1 4)) (C := RX0) (T := TX0) (N := 7) hx hb hts uw_X0 hown hK hP 7 rfl rfl 4 (by decide) (hts _ wm_1_138) (fun _ h9 => h9) rfl dX0_copyFrom_54 ?_
  refine lv_iconst (v := 0) hx hb dX0_copyFrom_57 rfl ?_
  refine lv_aload_n hx hb dX0_copyFrom_58 rfl (lv_at hl 0 rfl) ?_
  refine va_get (D := zD E) (ci := 0) (v := .ref (q0 4)) (C := RX0) (T := TX0) (N := 7) hx hb hts uw_X0 hown hK hP 0 rfl rfl 4 (by decide) (hts _ wm_1_138) (fun _ h9 => h9) rfl dX0_copyFrom_59 ?_
  refine lv_iconst (v := 0) hx hb dX0_copyFrom_62 rfl ?_
  refine lv_bipush (v := 40) hx hb dX0_copyFrom_63 rfl ?_
  refine va_copyi hx hb (hml.trans hl.1.symm) hown (hts _ wm_2_221) (hts _ wm_2_207) (hts _ wm_2_206) (hts _ wm_1_22) hK hP hD hS 11 4 0 0 rfl rfl rfl rfl rfl (by decide) (by decide) (by decide) (show (0 : Int32).toNatClampNeg + (40 : Int32).toNatClampNeg ≤ 40 by decide) (show (0 : Int32).toNatClampNeg + (40 : Int32).toNatClampNeg ≤ 40 by decide) (fun _ _ => rfl) (Nat.le_of_ble_eq_true rfl) (Nat.le_of_ble_eq_true rfl) dX0_copyFrom_65 (fun H locs hP hD hS => ?_)
  have hP : va_P (zD E) vwCl (k_X0 E q0 (u1.1, (va_cpy u1.2.1 u0.2.1 0 0 40), (va_cpy u1.2.2.1 u0.2.2.1 0 0 40), (va_cpy u1.2.2.2.1 u0.2.2.2.1 0 0 40), (va_cpy u1.2.2.2.2.1 u0.2.2.2.2.1 0 0 40), u0.2.2.2.2.2.1, u0.2.2.2.2.2.2) ++ (k_X0 E q1 u1)) H := hP
  have hD : va_D A (k_X0 E q0 (u1.1, (va_cpy u1.2.1 u0.2.1 0 0 40), (va_cpy u1.2.2.1 u0.2.2.1 0 0 40), (va_cpy u1.2.2.2.1 u0.2.2.2.1 0 0 40), (va_cpy u1.2.2.2.2.1 u0.2.2.2.2.1 0 0 40), u0.2.2.2.2.2.1, u0.2.2.2.2.2.2) ++ (k_X0 E q1 u1)) := hD
  refine lv_aload_n hx hb dX0_copyFrom_68 rfl (lv_at hl 1 rfl) ?_
  refine va_get (D := zD E) (ci := 0) (v := .ref (q1 5)) (C := RX0) (T := TX0) (N := 7) hx hb hts uw_X0 hown hK hP 7 rfl rfl 5 (by decide) (hts _ wm_1_140) (fun _ h9 => h9) rfl dX0_copyFrom_69 ?_
  refine lv_iconst (v := 0) hx hb dX0_copyFrom_72 rfl ?_
  refine lv_aload_n hx hb dX0_copyFrom_73 rfl (lv_at hl 0 rfl) ?_
  refine va_get (D := zD E) (ci := 0) (v := .ref (q0 5)) (C := RX0) (T := TX0) (N := 7) hx hb hts uw_X0 hown hK hP 0 rfl rfl 5 (by decide) (hts _ wm_1_140) (fun _ h9 => h9) rfl dX0_copyFrom_74 ?_
  refine lv_iconst (v := 0) hx hb dX0_copyFrom_77 rfl ?_
  refine lv_bipush (v := 40) hx hb dX0_copyFrom_78 rfl ?_
  refine va_copyi hx hb (hml.trans hl.1.symm) hown (hts _ wm_2_221) (hts _ wm_2_207) (hts _ wm_2_206) (hts _ wm_1_22) hK hP hD hS 12 5 0 0 rfl rfl rfl rfl rfl (by decide) (by decide) (by decide) (show (0 : Int32).toNatClampNeg + (40 : Int32).toNatClampNeg ≤ 40 by decide) (show (0 : Int32).toNatClampNeg + (40 : Int32).toNatClampNeg ≤ 40 by decide) (fun _ _ => rfl) (Nat.le_of_ble_eq_true rfl) (Nat.le_of_ble_eq_true rfl) dX0_copyFrom_80 (fun H locs hP hD hS => ?_)
  have hP : va_P (zD E) vwCl (k_X0 E q0 (u1.1, (va_cpy u1.2.1 u0.2.1 0 0 40), (va_cpy u1.2.2.1 u0.2.2.1 0 0 40), (va_cpy u1.2.2.2.1 u0.2.2.2.1 0 0 40), (va_cpy u1.2.2.2.2.1 u0.2.2.2.2.1 0 0 40), (va_cpy u1.2.2.2.2.2.1 u0.2.2.2.2.2.1 0 0 40), u0.2.2.2.2.2.2) ++ (k_X0 E q1 u1)) H := hP
  have hD : va_D A (k_X0 E q0 (u1.1, (va_cpy u1.2.1 u0.2.1 0 0 40), (va_cpy u1.2.2.1 u0.2.2.1 0 0 40), (va_cpy u1.2.2.2.1 u0.2.2.2.1 0 0 40), (va_cpy u1.2.2.2.2.1 u0.2.2.2.2.1 0 0 40), (va_cpy u1.2.2.2.2.2.1 u0.2.2.2.2.2.1 0 0 40), u0.2.2.2.2.2.2) ++ (k_X0 E q1 u1)) := hD
  refine lv_aload_n hx hb dX0_copyFrom_83 rfl (lv_at hl 1 rfl) ?_
  refine va_get (D := zD E) (ci := 0) (v := .ref (q1 6)) (C := RX0) (T := TX0) (N := 7) hx hb hts uw_X0 hown hK hP 7 rfl rfl 6 (by decide) (hts _ wm_1_142) (fun _ h9 => h9) rfl dX0_copyFrom_84 ?_
  refine lv_iconst (v := 0) hx hb dX0_copyFrom_87 rfl ?_
  refine lv_aload_n hx hb dX0_copyFrom_88 rfl (lv_at hl 0 rfl) ?_
  refine va_get (D := zD E) (ci := 0) (v := .ref (q0 6)) (C := RX0) (T := TX0) (N := 7) hx hb hts uw_X0 hown hK hP 0 rfl rfl 6 (by decide) (hts _ wm_1_142) (fun _ h9 => h9) rfl dX0_copyFrom_89 ?_
  refine lv_iconst (v := 0) hx hb dX0_copyFrom_92 rfl ?_
  refine lv_bipush (v := 40) hx hb dX0_copyFrom_93 rfl ?_
  refine va_copyl hx hb (hml.trans hl.1.symm) hown (hts _ wm_2_221) (hts _ wm_2_207) (hts _ wm_2_206) (hts _ wm_1_22) hK hP hD hS 13 6 1 1 rfl rfl rfl rfl rfl (by decide) (by decide) (by decide) (show (0 : Int32).toNatClampNeg + (40 : Int32).toNatClampNeg ≤ 40 by decide) (show (0 : Int32).toNatClampNeg + (40 : Int32).toNatClampNeg ≤ 40 by decide) (fun _ _ => rfl) (Nat.le_of_ble_eq_true rfl) (Nat.le_of_ble_eq_true rfl) dX0_copyFrom_95 (fun H locs hP hD hS => ?_)
  have hP : va_P (zD E) vwCl (k_X0 E q0 (u1.1, (va_cpy u1.2.1 u0.2.1 0 0 40), (va_cpy u1.2.2.1 u0.2.2.1 0 0 40), (va_cpy u1.2.2.2.1 u0.2.2.2.1 0 0 40), (va_cpy u1.2.2.2.2.1 u0.2.2.2.2.1 0 0 40), (va_cpy u1.2.2.2.2.2.1 u0.2.2.2.2.2.1 0 0 40), (va_cpy u1.2.2.2.2.2.2 u0.2.2.2.2.2.2 0 0 40)) ++ (k_X0 E q1 u1)) H := hP
  have hD : va_D A (k_X0 E q0 (u1.1, (va_cpy u1.2.1 u0.2.1 0 0 40), (va_cpy u1.2.2.1 u0.2.2.1 0 0 40), (va_cpy u1.2.2.2.1 u0.2.2.2.1 0 0 40), (va_cpy u1.2.2.2.2.1 u0.2.2.2.2.1 0 0 40), (va_cpy u1.2.2.2.2.2.1 u0.2.2.2.2.2.1 0 0 40), (va_cpy u1.2.2.2.2.2.2 u0.2.2.2.2.2.2 0 0 40)) ++ (k_X0 E q1 u1)) := hD
  exact z_vret (k := (fun u => k_X0 E q0 u.1 ++ (k_X0 E q1 u.2))) ((u1.1, (va_cpy u1.2.1 u0.2.1 0 0 40), (va_cpy u1.2.2.1 u0.2.2.1 0 0 40), (va_cpy u1.2.2.2.1 u0.2.2.2.1 0 0 40), (va_cpy u1.2.2.2.2.1 u0.2.2.2.2.1 0 0 40), (va_cpy u1.2.2.2.2.2.1 u0.2.2.2.2.2.1 0 0 40), (va_cpy u1.2.2.2.2.2.2 u0.2.2.2.2.2.2 0 0 40)), u1) C0 hP hD hS hw dX0_copyFrom_98
abbrev r_X0_closePeriod : Room := { frames := 2, cells := 0, slots := 0, locals := 56 }
def j_X0_closePeriod_113 (x2 : Int32) (x3 : Int32) (x5 : Int32) (x6 : Int32) (u0 : S_X0) (u1 : S_X7) (post : Int64 → (S_X0 × S_X7) → Prop) : Prop := vp_in x2 40 ∧ (vp_in x2 40 ∧ (∀ x_22 : Int32, x_22 = (if (0 : Int32) < ((((u0.2.1 x2.toNatClampNeg) * u1.2.2.2.2.2.2.1) / (100 : Int32)) - (u0.2.2.2.1 x2.toNatClampNeg)) then ((((u0.2.1 x2.toNatClampNeg) * u1.2.2.2.2.2.2.1) / (100 : Int32)) - (u0.2.2.2.1 x2.toNatClampNeg)) else (0 : Int32)) → (vp_in x2 40 ∧ (∀ x_24 : Int64, x_24 = (((((u1.2.2.1.toInt64 * ((u0.2.1 x2.toNatClampNeg).toInt64)) + (u1.2.1.toInt64 * x3.toInt64)) + (u1.2.2.2.2.1.toInt64 * x5.toInt64)) + (u1.2.1.toInt64 * x_22.toInt64)) - (u1.2.2.2.2.2.2.2.1.toInt64 * x6.toInt64)) → (vp_in x2 40 ∧ (vp_in x2 40 ∧ (post ((vp_updL u0.2.2.2.2.2.2 x2.toNatClampNeg x_24) x2.toNatClampNeg) ((u0.1, u0.2.1, u0.2.2.1, u0.2.2.2.1, u0.2.2.2.2.1, u0.2.2.2.2.2.1, (vp_updL u0.2.2.2.2.2.2 x2.toNatClampNeg x_24)), u1))))))))
def j_X0_closePeriod_77 (x2 : Int32) (x3 : Int32) (x5 : Int32) (y0 : Int32) (u0 : S_X0) (u1 : S_X7) (post : Int64 → (S_X0 × S_X7) → Prop) : Prop := ∀ x_15 : Int32, x_15 = (u0.1 + (1 : Int32)) → ((x_15 < u1.1 → (j_X0_closePeriod_113 x2 x3 x5 y0 (x_15, u0.2.1, u0.2.2.1, u0.2.2.2.1, u0.2.2.2.2.1, u0.2.2.2.2.2.1, u0.2.2.2.2.2.2) u1 post)) ∧ (¬ (x_15 < u1.1) → (wp_X0_missAllOpen (x_15, u0.2.1, u0.2.2.1, u0.2.2.2.1, u0.2.2.2.2.1, u0.2.2.2.2.2.1, u0.2.2.2.2.2.2) u1.1 (fun r_18 u_17 => ∀ x_19 : Int32, x_19 = (y0 + r_18) → (j_X0_closePeriod_113 x2 x3 x5 x_19 u_17 u1 post)))))
def j_X0_closePeriod_60 (x2 : Int32) (x3 : Int32) (x4 : Int32) (y0 : Int32) (u0 : S_X0) (u1 : S_X7) (post : Int64 → (S_X0 × S_X7) → Prop) : Prop := (0 ≤ x4 → (wp_X0_missOpen u0 x4 (fun r_14 u_13 => j_X0_closePeriod_77 x2 x3 y0 r_14 u_13 u1 post))) ∧ (¬ (0 ≤ x4) → (j_X0_closePeriod_77 x2 x3 y0 (0 : Int32) u0 u1 post))
def j_X0_closePeriod_24 (x2 : Int32) (u0 : S_X0) (u1 : S_X7) (post : Int64 → (S_X0 × S_X7) → Prop) : Prop := wp_X0_deliverReserved u0 u1.2.2.2.2.2.1 (fun r_7 u_6 => ∀ x_8 : Int32, x_8 = (x2 - u1.2.2.2.2.2.1) → ((0 ≤ x_8 → (wp_X0_deliverSpot u_6 x_8 u1.2.2.2.1 (fun r_11 u_10 => j_X0_closePeriod_60 x2 r_7 x_8 r_11 u_10 u1 post))) ∧ (¬ (0 ≤ x_8) → (j_X0_closePeriod_60 x2 r_7 x_8 (0 : Int32) u_6 u1 post))))
def wp_X0_closePeriod (u0 : S_X0) (u1 : S_X7) (post : Int64 → (S_X0 × S_X7) → Prop) : Prop := vp_in u0.1 40 ∧ ((0 ≤ (u0.2.2.2.1 u0.1.toNatClampNeg) → (j_X0_closePeriod_24 u0.1 u0 u1 post)) ∧ (¬ (0 ≤ (u0.2.2.2.1 u0.1.toNatClampNeg)) → (vp_in u0.1 40 ∧ (wp_X0_placeOrder u0 (u0.2.2.1 u0.1.toNatClampNeg) (fun u_4 => j_X0_closePeriod_24 u0.1 u_4 u1 post)))))
set_option maxHeartbeats 4000000 in
set_option maxRecDepth 100000 in
theorem t_X0_closePeriod_113 {p : Program} {l : Launch} {e : Env} {s : State} {m : MethodId} {args : Array Value} {below : List Frame} {meth : Method} {c : Code} {Z : zZ} {E : zE} {A : Nat → Prop} {q0 : Nat → Nat} {q1 : Nat → Nat} (hZ0 : zSt Z) (C0 : zC p s m args meth c yX0_closePeriod cX0_closePeriod 8 (some .long)) (hA : ∀ q : Nat, s.heap.size ≤ q → A q) (hK : va_K (zD E) vwCl (zT E) s) (hZ : Z A s s.heap) (post : Int64 → (S_X0 × S_X7) → Prop) : ∀ (x2 : Int32) (x3 : Int32) (x5 : Int32) (x6 : Int32) (u0 : S_X0) (u1 : S_X7) (H : Heap) (locs : List Loc) (ls : Array Slot), j_X0_closePeriod_113 x2 x3 x5 x6 u0 u1 post → va_P (zD E) vwCl (k_X0 E q0 u0 ++ (k_X7 E q1 u1)) H → va_D A (k_X0 E q0 u0 ++ (k_X7 E q1 u1)) → va_S A s.heap H locs → lv_has ls 8 [(0, .ref (q0 0)), (1, .ref (q1 0)), (2, .int x2), (3, .int x3), (5, .int x5), (6, .int x6)] → W p l e r_X0_closePeriod s m args below meth c H locs 0 0 (MQ below (va_Ql post (zAt E A (fun u => k_X0 E q0 u.1 ++ (k_X7 E q1 u.2))) A) args s 0 0 A) (F0 m 113 ls []) := by
  obtain ⟨hx, hb, hml, hr, hown, hts, hlocks, hin⟩ := id C0
  have hown : s.vm.findClass RX0 = some m.cls := hown
  intro x2 x3 x5 x6 u0 u1 H locs ls hw hP hD hS hl
  refine lv_iconst (v := 0) hx hb dX0_closePeriod_113 rfl ?_
  refine lv_aload_n hx hb dX0_closePeriod_114 rfl (lv_at hl 0 rfl) ?_
  refine va_get (D := zD E) (ci := 0) (v := .ref (q0 1)) (C := RX0) (T := TX0) (N := 7) hx hb hts uw_X0 hown hK hP 0 rfl rfl 1 (by decide) (hts _ wm_1_130) (fun _ h9 => h9) rfl dX0_closePeriod_115 ?_
  refine lv_iload_n hx hb dX0_closePeriod_118 rfl (lv_at hl 2 rfl) ?_
  obtain ⟨h_20, hw⟩ := hw
  refine va_iald hx hb hK hP 1 0 rfl rfl h_20 dX0_closePeriod_119 ?_
  refine lv_aload_n hx hb dX0_closePeriod_120 rfl (lv_at hl 1 rfl) ?_
  refine va_getN (D := zD E) (ci := 7) (v := .int u1.2.2.2.2.2.2.1) (C := RX7) (T := TX7) (N := 16) hx hb hts uw_X7 hown hK hP 7 rfl rfl 6 (by decide) (hts _ wm_1_66) (fun _ h9 => h9) rfl dX0_closePeriod_121 ?_
  refine lv_imul hx hb dX0_closePeriod_124 ?_
  refine lv_bipush (v := 100) hx hb dX0_closePeriod_125 rfl ?_
  refine lv_idiv hx hb dX0_closePeriod_127 (by decide) ?_
  refine lv_aload_n hx hb dX0_closePeriod_128 rfl (lv_at hl 0 rfl) ?_
  refine va_get (D := zD E) (ci := 0) (v := .ref (q0 3)) (C := RX0) (T := TX0) (N := 7) hx hb hts uw_X0 hown hK hP 0 rfl rfl 3 (by decide) (hts _ wm_1_136) (fun _ h9 => h9) rfl dX0_closePeriod_129 ?_
  refine lv_iload_n hx hb dX0_closePeriod_132 rfl (lv_at hl 2 rfl) ?_
  obtain ⟨h_21, hw⟩ := hw
  refine va_iald hx hb hK hP 3 0 rfl rfl h_21 dX0_closePeriod_133 ?_
  refine lv_isub hx hb dX0_closePeriod_134 ?_
  refine va_mmax hx hb (hml.trans hl.1.symm) hown (hts _ wm_2_238) (hts _ wm_2_239) (hts _ wm_1_16) (hts _ wm_3_0) (Nat.le_of_ble_eq_true rfl) (Nat.le_of_ble_eq_true rfl) (Nat.le_of_ble_eq_true rfl) (Nat.le_of_ble_eq_true rfl) dX0_closePeriod_135 ?_
  refine lv_topi (fun x_22 ex_22 => ?_)
  have hw := hw x_22 ex_22
  refine lv_istore (lv' := [(7, .int x_22), (0, .ref (q0 0)), (1, .ref (q1 0)), (2, .int x2), (3, .int x3), (5, .int x5), (6, .int x6)]) hx hb dX0_closePeriod_138 hl (by decide) rfl (fun ls hl => ?_)
  refine lv_aload_n hx hb dX0_closePeriod_140 rfl (lv_at hl 1 rfl) ?_
  refine va_get (D := zD E) (ci := 0) (v := .ref (q0 6)) (C := RX0) (T := TX0) (N := 7) hx hb hts uw_X0 hown hK hP 0 rfl rfl 6 (by decide) (hts _ wm_1_142) (fun _ h9 => h9) rfl dX0_closePeriod_141 ?_
  refine lv_iload_n hx hb dX0_closePeriod_144 rfl (lv_at hl 3 rfl) ?_
  refine lv_aload_n hx hb dX0_closePeriod_145 rfl (lv_at hl 2 rfl) ?_
  refine va_getN (D := zD E) (ci := 7) (v := .int u1.2.2.1) (C := RX7) (T := TX7) (N := 16) hx hb hts uw_X7 hown hK hP 7 rfl rfl 2 (by decide) (hts _ wm_1_54) (fun _ h9 => h9) rfl dX0_closePeriod_146 ?_
  refine lv_i2l hx hb dX0_closePeriod_149 rfl ?_
  refine lv_aload_n hx hb dX0_closePeriod_150 rfl (lv_at hl 1 rfl) ?_
  refine va_get (D := zD E) (ci := 0) (v := .ref (q0 1)) (C := RX0) (T := TX0) (N := 7) hx hb hts uw_X0 hown hK hP 0 rfl rfl 1 (by decide) (hts _ wm_1_130) (fun _ h9 => h9) rfl dX0_closePeriod_151 ?_
  refine lv_iload_n hx hb dX0_closePeriod_154 rfl (lv_at hl 3 rfl) ?_
  obtain ⟨h_23, hw⟩ := hw
  refine va_iald hx hb hK hP 1 0 rfl rfl h_23 dX0_closePeriod_155 ?_
  refine lv_i2l hx hb dX0_closePeriod_156 rfl ?_
  refine lv_lmul hx hb dX0_closePeriod_157 ?_
  refine lv_aload_n hx hb dX0_closePeriod_158 rfl (lv_at hl 2 rfl) ?_
  refine va_getN (D := zD E) (ci := 7) (v := .int u1.2.1) (C := RX7) (T := TX7) (N := 16) hx hb hts uw_X7 hown hK hP 7 rfl rfl 1 (by decide) (hts _ wm_1_51) (fun _ h9 => h9) rfl dX0_closePeriod_159 ?_
  refine lv_i2l hx hb dX0_closePeriod_162 rfl ?_
  refine lv_iload_n hx hb dX0_closePeriod_163 rfl (lv_at hl 4 rfl) ?_
  refine lv_i2l hx hb dX0_closePeriod_164 rfl ?_
  refine lv_lmul hx hb dX0_closePeriod_165 ?_
  refine lv_ladd hx hb dX0_closePeriod_166 ?_
  refine lv_aload_n hx hb dX0_closePeriod_167 rfl (lv_at hl 2 rfl) ?_
  refine va_getN (D := zD E) (ci := 7) (v := .int u1.2.2.2.2.1) (C := RX7) (T := TX7) (N := 16) hx hb hts uw_X7 hown hK hP 7 rfl rfl 4 (by decide) (hts _ wm_1_60) (fun _ h9 => h9) rfl dX0_closePeriod_168 ?_
  refine lv_i2l hx hb dX0_closePeriod_171 rfl ?_
  refine lv_iload hx hb dX0_closePeriod_172 (lv_at hl 5 rfl) ?_
  refine lv_i2l hx hb dX0_closePeriod_174 rfl ?_
  refine lv_lmul hx hb dX0_closePeriod_175 ?_
  refine lv_ladd hx hb dX0_closePeriod_176 ?_
  refine lv_aload_n hx hb dX0_closePeriod_177 rfl (lv_at hl 2 rfl) ?_
  refine va_getN (D := zD E) (ci := 7) (v := .int u1.2.1) (C := RX7) (T := TX7) (N := 16) hx hb hts uw_X7 hown hK hP 7 rfl rfl 1 (by decide) (hts _ wm_1_51) (fun _ h9 => h9) rfl dX0_closePeriod_178 ?_
  refine lv_i2l hx hb dX0_closePeriod_181 rfl ?_
  refine lv_iload hx hb dX0_closePeriod_182 (lv_at hl 0 rfl) ?_
  refine lv_i2l hx hb dX0_closePeriod_184 rfl ?_
  refine lv_lmul hx hb dX0_closePeriod_185 ?_
  refine lv_ladd hx hb dX0_closePeriod_186 ?_
  refine lv_aload_n hx hb dX0_closePeriod_187 rfl (lv_at hl 2 rfl) ?_
  refine va_getN (D := zD E) (ci := 7) (v := .int u1.2.2.2.2.2.2.2.1) (C := RX7) (T := TX7) (N := 16) hx hb hts uw_X7 hown hK hP 7 rfl rfl 7 (by decide) (hts _ wm_1_69) (fun _ h9 => h9) rfl dX0_closePeriod_188 ?_
  refine lv_i2l hx hb dX0_closePeriod_191 rfl ?_
  refine lv_iload hx hb dX0_closePeriod_192 (lv_at hl 6 rfl) ?_
  refine lv_i2l hx hb dX0_closePeriod_194 rfl ?_
  refine lv_lmul hx hb dX0_closePeriod_195 ?_
  refine lv_lsub hx hb dX0_closePeriod_196 ?_
  refine lv_topl (fun x_24 ex_24 => ?_)
  have hw := hw x_24 ex_24
  obtain ⟨h_25, hw⟩ := hw
  refine va_last hx hb hK hP hD hS 6 1 rfl rfl h_25 dX0_closePeriod_197 (fun H locs hP hD hS => ?_)
  have hP : va_P (zD E) vwCl (k_X0 E q0 (u0.1, u0.2.1, u0.2.2.1, u0.2.2.2.1, u0.2.2.2.2.1, u0.2.2.2.2.2.1, (vp_updL u0.2.2.2.2.2.2 x2.toNatClampNeg x_24)) ++ (k_X7 E q1 u1)) H := hP
  have hD : va_D A (k_X0 E q0 (u0.1, u0.2.1, u0.2.2.1, u0.2.2.2.1, u0.2.2.2.2.1, u0.2.2.2.2.2.1, (vp_updL u0.2.2.2.2.2.2 x2.toNatClampNeg x_24)) ++ (k_X7 E q1 u1)) := hD
  refine lv_aload_n hx hb dX0_closePeriod_198 rfl (lv_at hl 1 rfl) ?_
  refine va_get (D := zD E) (ci := 0) (v := .ref (q0 6)) (C := RX0) (T := TX0) (N := 7) hx hb hts uw_X0 hown hK hP 0 rfl rfl 6 (by decide) (hts _ wm_1_142) (fun _ h9 => h9) rfl dX0_closePeriod_199 ?_
  refine lv_iload_n hx hb dX0_closePeriod_202 rfl (lv_at hl 3 rfl) ?_
  obtain ⟨h_26, hw⟩ := hw
  refine va_lald hx hb hK hP 6 1 rfl rfl h_26 dX0_closePeriod_203 ?_
  exact z_lret (k := (fun u => k_X0 E q0 u.1 ++ (k_X7 E q1 u.2))) ((u0.1, u0.2.1, u0.2.2.1, u0.2.2.2.1, u0.2.2.2.2.1, u0.2.2.2.2.2.1, (vp_updL u0.2.2.2.2.2.2 x2.toNatClampNeg x_24)), u1) C0 hP hD hS hw dX0_closePeriod_204
set_option maxHeartbeats 4000000 in
set_option maxRecDepth 100000 in
theorem t_X0_closePeriod_77 {p : Program} {l : Launch} {e : Env} {s : State} {m : MethodId} {args : Array Value} {below : List Frame} {meth : Method} {c : Code} {Z : zZ} {E : zE} {A : Nat → Prop} {q0 : Nat → Nat} {q1 : Nat → Nat} (hZ0 : zSt Z) (C0 : zC p s m args meth c yX0_closePeriod cX0_closePeriod 8 (some .long)) (hA : ∀ q : Nat, s.heap.size ≤ q → A q) (hK : va_K (zD E) vwCl (zT E) s) (hZ : Z A s s.heap) (post : Int64 → (S_X0 × S_X7) → Prop) : ∀ (x2 : Int32) (x3 : Int32) (x5 : Int32) (y0 : Int32) (u0 : S_X0) (u1 : S_X7) (H : Heap) (locs : List Loc) (ls : Array Slot), j_X0_closePeriod_77 x2 x3 x5 y0 u0 u1 post → va_P (zD E) vwCl (k_X0 E q0 u0 ++ (k_X7 E q1 u1)) H → va_D A (k_X0 E q0 u0 ++ (k_X7 E q1 u1)) → va_S A s.heap H locs → lv_has ls 8 [(0, .ref (q0 0)), (1, .ref (q1 0)), (2, .int x2), (3, .int x3), (5, .int x5)] → W p l e r_X0_closePeriod s m args below meth c H locs 0 0 (MQ below (va_Ql post (zAt E A (fun u => k_X0 E q0 u.1 ++ (k_X7 E q1 u.2))) A) args s 0 0 A) (F0 m 77 ls [.int y0]) := by
  obtain ⟨hx, hb, hml, hr, hown, hts, hlocks, hin⟩ := id C0
  have hown : s.vm.findClass RX0 = some m.cls := hown
  intro x2 x3 x5 y0 u0 u1 H locs ls hw hP hD hS hl
  refine lv_istore (lv' := [(6, .int y0), (0, .ref (q0 0)), (1, .ref (q1 0)), (2, .int x2), (3, .int x3), (5, .int x5)]) hx hb dX0_closePeriod_77 hl (by decide) rfl (fun ls hl => ?_)
  refine lv_aload_n hx hb dX0_closePeriod_79 rfl (lv_at hl 1 rfl) ?_
  refine lv_dup hx hb dX0_closePeriod_80 rfl ?_
  refine va_get (D := zD E) (ci := 0) (v := .int u0.1) (C := RX0) (T := TX0) (N := 7) hx hb hts uw_X0 hown hK hP 0 rfl rfl 0 (by decide) (hts _ wm_1_128) (fun _ h9 => h9) rfl dX0_closePeriod_81 ?_
  refine lv_iconst (v := 1) hx hb dX0_closePeriod_84 rfl ?_
  refine lv_iadd hx hb dX0_closePeriod_85 ?_
  refine lv_topi (fun x_15 ex_15 => ?_)
  have hw := hw x_15 ex_15
  refine va_put (D := zD E) (ci := 0) (v := .int x_15) (ty := .int) (C := RX0) (T := TX0) (N := 7) hx hb hts uw_X0 tyX0 tyX0_ok nmX0 hown hK hP hD hS 0 rfl rfl 0 (by decide) (hts _ wm_1_128) (fun _ h9 => h9) rfl (by decide +kernel) rfl rfl (Nat.le_of_ble_eq_true rfl) dX0_closePeriod_86 (fun H locs hP hD hS => ?_)
  have hP : va_P (zD E) vwCl (k_X0 E q0 (x_15, u0.2.1, u0.2.2.1, u0.2.2.2.1, u0.2.2.2.2.1, u0.2.2.2.2.2.1, u0.2.2.2.2.2.2) ++ (k_X7 E q1 u1)) H := hP
  have hD : va_D A (k_X0 E q0 (x_15, u0.2.1, u0.2.2.1, u0.2.2.2.1, u0.2.2.2.2.1, u0.2.2.2.2.2.1, u0.2.2.2.2.2.2) ++ (k_X7 E q1 u1)) := hD
  refine lv_aload_n hx hb dX0_closePeriod_89 rfl (lv_at hl 1 rfl) ?_
  refine va_get (D := zD E) (ci := 0) (v := .int x_15) (C := RX0) (T := TX0) (N := 7) hx hb hts uw_X0 hown hK hP 0 rfl rfl 0 (by decide) (hts _ wm_1_128) (fun _ h9 => h9) rfl dX0_closePeriod_90 ?_
  refine lv_aload_n hx hb dX0_closePeriod_93 rfl (lv_at hl 2 rfl) ?_
  refine va_getN (D := zD E) (ci := 7) (v := .int u1.1) (C := RX7) (T := TX7) (N := 16) hx hb hts uw_X7 hown hK hP 7 rfl rfl 0 (by decide) (hts _ wm_1_48) (fun _ h9 => h9) rfl dX0_closePeriod_94 ?_
  obtain ⟨hwt, hwf⟩ := hw
  refine lv_icmp_lt (tgt := 113) hx hb dX0_closePeriod_97 (by decide) (fun c_16 => ?_) (fun c_16 => ?_)
  · have hw := hwt c_16
    exact t_X0_closePeriod_113 (l := l) hZ0 C0 hA hK hZ post x2 x3 x5 y0 (x_15, u0.2.1, u0.2.2.1, u0.2.2.2.1, u0.2.2.2.2.1, u0.2.2.2.2.2.1, u0.2.2.2.2.2.2) u1 _ _ _ hw hP hD hS (lv_sub hl [1, 2, 3, 4, 5, 0] rfl)
  · have hw := hwf c_16
    refine lv_iload hx hb dX0_closePeriod_100 (lv_at hl 0 rfl) ?_
    refine lv_aload_n hx hb dX0_closePeriod_102 rfl (lv_at hl 1 rfl) ?_
    refine lv_aload_n hx hb dX0_closePeriod_103 rfl (lv_at hl 2 rfl) ?_
    refine va_getN (D := zD E) (ci := 7) (v := .int u1.1) (C := RX7) (T := TX7) (N := 16) hx hb hts uw_X7 hown hK hP 7 rfl rfl 0 (by decide) (hts _ wm_1_48) (fun _ h9 => h9) rfl dX0_closePeriod_104 ?_
    refine z_ki (z_rV (rest := [.int y0]) hZ0 C0 hK hZ hA hP hD hS hl.1 (c_X0_missAllOpen l E Z hZ0 q0 H.size (x_15, u0.2.1, u0.2.2.1, u0.2.2.2.1, u0.2.2.2.2.1, u0.2.2.2.2.2.1, u0.2.2.2.2.2.2) u1.1 _ hw) yv_X0_76 [0, 1, 2, 3, 4, 5, 6] rfl (by decide) (ci := 0) rfl rfl 0 rfl ⟨Nat.le_of_ble_eq_true rfl, Nat.le_of_ble_eq_true rfl⟩ ⟨rfl, rfl⟩ rfl rfl (Nat.le_of_ble_eq_true rfl) ⟨Nat.le_of_ble_eq_true rfl, Nat.le_of_ble_eq_true rfl⟩ dX0_closePeriod_107) hP hD hS hA [0, 1, 2, 3, 4, 5, 6] [7, 8, 9, 10, 11] [5, 6, 7, 8, 9, 10, 11, 0, 1, 2, 3, 4] rfl (wr := [_, _, _, _, _]) rfl (by decide) (by decide) (fun u => k_X0 E q0 u ++ (k_X7 E q1 u1)) (fun u => rfl) (by decide) (fun r_18 u_17 H locs hw hP hD hS => ?_)
    refine lv_iadd hx hb dX0_closePeriod_110 ?_
    refine lv_topi (fun x_19 ex_19 => ?_)
    have hw := hw x_19 ex_19
    refine lv_istore (lv' := [(6, .int x_19), (0, .ref (q0 0)), (1, .ref (q1 0)), (2, .int x2), (3, .int x3), (5, .int x5)]) hx hb dX0_closePeriod_111 hl (by decide) rfl (fun ls hl => ?_)
    exact t_X0_closePeriod_113 (l := l) hZ0 C0 hA hK hZ post x2 x3 x5 x_19 u_17 u1 _ _ _ hw hP hD hS (lv_sub hl [1, 2, 3, 4, 5, 0] rfl)
set_option maxHeartbeats 4000000 in
set_option maxRecDepth 100000 in
theorem t_X0_closePeriod_60 {p : Program} {l : Launch} {e : Env} {s : State} {m : MethodId} {args : Array Value} {below : List Frame} {meth : Method} {c : Code} {Z : zZ} {E : zE} {A : Nat → Prop} {q0 : Nat → Nat} {q1 : Nat → Nat} (hZ0 : zSt Z) (C0 : zC p s m args meth c yX0_closePeriod cX0_closePeriod 8 (some .long)) (hA : ∀ q : Nat, s.heap.size ≤ q → A q) (hK : va_K (zD E) vwCl (zT E) s) (hZ : Z A s s.heap) (post : Int64 → (S_X0 × S_X7) → Prop) : ∀ (x2 : Int32) (x3 : Int32) (x4 : Int32) (y0 : Int32) (u0 : S_X0) (u1 : S_X7) (H : Heap) (locs : List Loc) (ls : Array Slot), j_X0_closePeriod_60 x2 x3 x4 y0 u0 u1 post → va_P (zD E) vwCl (k_X0 E q0 u0 ++ (k_X7 E q1 u1)) H → va_D A (k_X0 E q0 u0 ++ (k_X7 E q1 u1)) → va_S A s.heap H locs → lv_has ls 8 [(0, .ref (q0 0)), (1, .ref (q1 0)), (2, .int x2), (3, .int x3), (4, .int x4)] → W p l e r_X0_closePeriod s m args below meth c H locs 0 0 (MQ below (va_Ql post (zAt E A (fun u => k_X0 E q0 u.1 ++ (k_X7 E q1 u.2))) A) args s 0 0 A) (F0 m 60 ls [.int y0]) := by
  obtain ⟨hx, hb, hml, hr, hown, hts, hlocks, hin⟩ := id C0
  have hown : s.vm.findClass RX0 = some m.cls := hown
  intro x2 x3 x4 y0 u0 u1 H locs ls hw hP hD hS hl
  refine lv_istore (lv' := [(5, .int y0), (0, .ref (q0 0)), (1, .ref (q1 0)), (2, .int x2), (3, .int x3), (4, .int x4)]) hx hb dX0_closePeriod_60 hl (by decide) rfl (fun ls hl => ?_)
  refine lv_iload hx hb dX0_closePeriod_62 (lv_at hl 5 rfl) ?_
  obtain ⟨hwt, hwf⟩ := hw
  refine lv_if_ge (tgt := 71) hx hb dX0_closePeriod_64 (by decide) (fun c_12 => ?_) (fun c_12 => ?_)
  · have hw := hwt c_12
    refine lv_aload_n hx hb dX0_closePeriod_71 rfl (lv_at hl 1 rfl) ?_
    refine lv_iload hx hb dX0_closePeriod_72 (lv_at hl 5 rfl) ?_
    refine z_ki (z_rV (rest := []) hZ0 C0 hK hZ hA hP hD hS hl.1 (c_X0_missOpen l E Z hZ0 q0 H.size u0 x4 _ hw) yv_X0_70 [0, 1, 2, 3, 4, 5, 6] rfl (by decide) (ci := 0) rfl rfl 0 rfl ⟨Nat.le_of_ble_eq_true rfl, Nat.le_of_ble_eq_true rfl⟩ ⟨rfl, rfl⟩ rfl rfl (Nat.le_of_ble_eq_true rfl) ⟨Nat.le_of_ble_eq_true rfl, Nat.le_of_ble_eq_true rfl⟩ dX0_closePeriod_74) hP hD hS hA [0, 1, 2, 3, 4, 5, 6] [7, 8, 9, 10, 11] [5, 6, 7, 8, 9, 10, 11, 0, 1, 2, 3, 4] rfl (wr := [_, _, _, _, _]) rfl (by decide) (by decide) (fun u => k_X0 E q0 u ++ (k_X7 E q1 u1)) (fun u => rfl) (by decide) (fun r_14 u_13 H locs hw hP hD hS => ?_)
    exact t_X0_closePeriod_77 (l := l) hZ0 C0 hA hK hZ post x2 x3 y0 r_14 u_13 u1 _ _ _ hw hP hD hS (lv_sub hl [1, 2, 3, 4, 0] rfl)
  · have hw := hwf c_12
    refine lv_iconst (v := 0) hx hb dX0_closePeriod_67 rfl ?_
    refine lv_goto (tgt := 77) hx hb dX0_closePeriod_68 (by decide) ?_
    exact t_X0_closePeriod_77 (l := l) hZ0 C0 hA hK hZ post x2 x3 y0 (0 : Int32) u0 u1 _ _ _ hw hP hD hS (lv_sub hl [1, 2, 3, 4, 0] rfl)
set_option maxHeartbeats 4000000 in
set_option maxRecDepth 100000 in
theorem t_X0_closePeriod_24 {p : Program} {l : Launch} {e : Env} {s : State} {m : MethodId} {args : Array Value} {below : List Frame} {meth : Method} {c : Code} {Z : zZ} {E : zE} {A : Nat → Prop} {q0 : Nat → Nat} {q1 : Nat → Nat} (hZ0 : zSt Z) (C0 : zC p s m args meth c yX0_closePeriod cX0_closePeriod 8 (some .long)) (hA : ∀ q : Nat, s.heap.size ≤ q → A q) (hK : va_K (zD E) vwCl (zT E) s) (hZ : Z A s s.heap) (post : Int64 → (S_X0 × S_X7) → Prop) : ∀ (x2 : Int32) (u0 : S_X0) (u1 : S_X7) (H : Heap) (locs : List Loc) (ls : Array Slot), j_X0_closePeriod_24 x2 u0 u1 post → va_P (zD E) vwCl (k_X0 E q0 u0 ++ (k_X7 E q1 u1)) H → va_D A (k_X0 E q0 u0 ++ (k_X7 E q1 u1)) → va_S A s.heap H locs → lv_has ls 8 [(0, .ref (q0 0)), (1, .ref (q1 0)), (2, .int x2)] → W p l e r_X0_closePeriod s m args below meth c H locs 0 0 (MQ below (va_Ql post (zAt E A (fun u => k_X0 E q0 u.1 ++ (k_X7 E q1 u.2))) A) args s 0 0 A) (F0 m 24 ls []) := by
  obtain ⟨hx, hb, hml, hr, hown, hts, hlocks, hin⟩ := id C0
  have hown : s.vm.findClass RX0 = some m.cls := hown
  intro x2 u0 u1 H locs ls hw hP hD hS hl
  refine lv_aload_n hx hb dX0_closePeriod_24 rfl (lv_at hl 0 rfl) ?_
  refine lv_aload_n hx hb dX0_closePeriod_25 rfl (lv_at hl 1 rfl) ?_
  refine va_getN (D := zD E) (ci := 7) (v := .int u1.2.2.2.2.2.1) (C := RX7) (T := TX7) (N := 16) hx hb hts uw_X7 hown hK hP 7 rfl rfl 5 (by decide) (hts _ wm_1_63) (fun _ h9 => h9) rfl dX0_closePeriod_26 ?_
  refine z_ki (z_rV (rest := []) hZ0 C0 hK hZ hA hP hD hS hl.1 (c_X0_deliverReserved l E Z hZ0 q0 H.size u0 u1.2.2.2.2.2.1 _ hw) yv_X0_59 [0, 1, 2, 3, 4, 5, 6] rfl (by decide) (ci := 0) rfl rfl 0 rfl ⟨Nat.le_of_ble_eq_true rfl, Nat.le_of_ble_eq_true rfl⟩ ⟨rfl, rfl⟩ rfl rfl (Nat.le_of_ble_eq_true rfl) ⟨Nat.le_of_ble_eq_true rfl, Nat.le_of_ble_eq_true rfl⟩ dX0_closePeriod_29) hP hD hS hA [0, 1, 2, 3, 4, 5, 6] [7, 8, 9, 10, 11] [5, 6, 7, 8, 9, 10, 11, 0, 1, 2, 3, 4] rfl (wr := [_, _, _, _, _]) rfl (by decide) (by decide) (fun u => k_X0 E q0 u ++ (k_X7 E q1 u1)) (fun u => rfl) (by decide) (fun r_7 u_6 H locs hw hP hD hS => ?_)
  refine lv_istore_n (lv' := [(3, .int r_7), (0, .ref (q0 0)), (1, .ref (q1 0)), (2, .int x2)]) hx hb dX0_closePeriod_32 rfl hl (by decide) rfl (fun ls hl => ?_)
  refine lv_iload_n hx hb dX0_closePeriod_33 rfl (lv_at hl 3 rfl) ?_
  refine lv_aload_n hx hb dX0_closePeriod_34 rfl (lv_at hl 2 rfl) ?_
  refine va_getN (D := zD E) (ci := 7) (v := .int u1.2.2.2.2.2.1) (C := RX7) (T := TX7) (N := 16) hx hb hts uw_X7 hown hK hP 7 rfl rfl 5 (by decide) (hts _ wm_1_63) (fun _ h9 => h9) rfl dX0_closePeriod_35 ?_
  refine lv_isub hx hb dX0_closePeriod_38 ?_
  refine lv_topi (fun x_8 ex_8 => ?_)
  have hw := hw x_8 ex_8
  refine lv_istore (lv' := [(4, .int x_8), (3, .int r_7), (0, .ref (q0 0)), (1, .ref (q1 0)), (2, .int x2)]) hx hb dX0_closePeriod_39 hl (by decide) rfl (fun ls hl => ?_)
  refine lv_iload hx hb dX0_closePeriod_41 (lv_at hl 0 rfl) ?_
  obtain ⟨hwt, hwf⟩ := hw
  refine lv_if_ge (tgt := 50) hx hb dX0_closePeriod_43 (by decide) (fun c_9 => ?_) (fun c_9 => ?_)
  · have hw := hwt c_9
    refine lv_aload_n hx hb dX0_closePeriod_50 rfl (lv_at hl 2 rfl) ?_
    refine lv_iload hx hb dX0_closePeriod_51 (lv_at hl 0 rfl) ?_
    refine lv_aload_n hx hb dX0_closePeriod_53 rfl (lv_at hl 3 rfl) ?_
    refine va_getN (D := zD E) (ci := 7) (v := .int u1.2.2.2.1) (C := RX7) (T := TX7) (N := 16) hx hb hts uw_X7 hown hK hP 7 rfl rfl 3 (by decide) (hts _ wm_1_57) (fun _ h9 => h9) rfl dX0_closePeriod_54 ?_
    refine z_ki (z_rV (rest := []) hZ0 C0 hK hZ hA hP hD hS hl.1 (c_X0_deliverSpot l E Z hZ0 q0 H.size u_6 x_8 u1.2.2.2.1 _ hw) yv_X0_66 [0, 1, 2, 3, 4, 5, 6] rfl (by decide) (ci := 0) rfl rfl 0 rfl ⟨Nat.le_of_ble_eq_true rfl, Nat.le_of_ble_eq_true rfl⟩ ⟨rfl, rfl⟩ rfl rfl (Nat.le_of_ble_eq_true rfl) ⟨Nat.le_of_ble_eq_true rfl, Nat.le_of_ble_eq_true rfl⟩ dX0_closePeriod_57) hP hD hS hA [0, 1, 2, 3, 4, 5, 6] [7, 8, 9, 10, 11] [5, 6, 7, 8, 9, 10, 11, 0, 1, 2, 3, 4] rfl (wr := [_, _, _, _, _]) rfl (by decide) (by decide) (fun u => k_X0 E q0 u ++ (k_X7 E q1 u1)) (fun u => rfl) (by decide) (fun r_11 u_10 H locs hw hP hD hS => ?_)
    exact t_X0_closePeriod_60 (l := l) hZ0 C0 hA hK hZ post x2 r_7 x_8 r_11 u_10 u1 _ _ _ hw hP hD hS (lv_sub hl [2, 3, 4, 1, 0] rfl)
  · have hw := hwf c_9
    refine lv_iconst (v := 0) hx hb dX0_closePeriod_46 rfl ?_
    refine lv_goto (tgt := 60) hx hb dX0_closePeriod_47 (by decide) ?_
    exact t_X0_closePeriod_60 (l := l) hZ0 C0 hA hK hZ post x2 r_7 x_8 (0 : Int32) u_6 u1 _ _ _ hw hP hD hS (lv_sub hl [2, 3, 4, 1, 0] rfl)
set_option maxHeartbeats 4000000 in
set_option maxRecDepth 100000 in
theorem c_X0_closePeriod (l : Launch) (E : zE) (Z : zZ) (hZ0 : zSt Z) (q0 : Nat → Nat) (q1 : Nat → Nat) (sz : Nat) (u0 : S_X0) (u1 : S_X7) (post : Int64 → (S_X0 × S_X7) → Prop) (hw : wp_X0_closePeriod u0 u1 post) : Met l yX0_closePeriod (zws yX0_closePeriod cX0_closePeriod 8 (some .long)) r_X0_closePeriod (va_Pc [.ref (q0 0), .ref (q1 0)] (zPre Z E (k_X0 E q0 u0 ++ (k_X7 E q1 u1)) sz)) (va_Ql post (zAt E (va_A (k_X0 E q0 u0 ++ (k_X7 E q1 u1)) sz) (fun u => k_X0 E q0 u.1 ++ (k_X7 E q1 u.2))) (va_A (k_X0 E q0 u0 ++ (k_X7 E q1 u1)) sz)) 0 0 (va_A (k_X0 E q0 u0 ++ (k_X7 E q1 u1)) sz) := by
  refine z_ofW (Qf := fun A => va_Ql post (zAt E A (fun u => k_X0 E q0 u.1 ++ (k_X7 E q1 u.2))) A) (by decide) (Nat.le_of_ble_eq_true rfl) ?_
  intro p e s m args below meth c A ls C0 hA hK hZ hP hD hS hl
  obtain ⟨hx, hb, hml, hr, hown, hts, hlocks, hin⟩ := id C0
  have hown : s.vm.findClass RX0 = some m.cls := hown
  have hl : lv_has ls 8 [(0, .ref (q0 0)), (1, .ref (q1 0))] := hl
  refine lv_aload_n hx hb dX0_closePeriod_0 rfl (lv_at hl 0 rfl) ?_
  refine va_get (D := zD E) (ci := 0) (v := .int u0.1) (C := RX0) (T := TX0) (N := 7) hx hb hts uw_X0 hown hK hP 0 rfl rfl 0 (by decide) (hts _ wm_1_128) (fun _ h9 => h9) rfl dX0_closePeriod_1 ?_
  refine lv_istore_n (lv' := [(2, .int u0.1), (0, .ref (q0 0)), (1, .ref (q1 0))]) hx hb dX0_closePeriod_4 rfl hl (by decide) rfl (fun ls hl => ?_)
  refine lv_aload_n hx hb dX0_closePeriod_5 rfl (lv_at hl 1 rfl) ?_
  refine va_get (D := zD E) (ci := 0) (v := .ref (q0 3)) (C := RX0) (T := TX0) (N := 7) hx hb hts uw_X0 hown hK hP 0 rfl rfl 3 (by decide) (hts _ wm_1_136) (fun _ h9 => h9) rfl dX0_closePeriod_6 ?_
  refine lv_iload_n hx hb dX0_closePeriod_9 rfl (lv_at hl 0 rfl) ?_
  obtain ⟨h_1, hw⟩ := hw
  refine va_iald hx hb hK hP 3 0 rfl rfl h_1 dX0_closePeriod_10 ?_
  obtain ⟨hwt, hwf⟩ := hw
  refine lv_if_ge (tgt := 24) hx hb dX0_closePeriod_11 (by decide) (fun c_2 => ?_) (fun c_2 => ?_)
  · have hw := hwt c_2
    exact t_X0_closePeriod_24 (l := l) hZ0 C0 hA hK hZ post u0.1 u0 u1 _ _ _ hw hP hD hS (lv_sub hl [1, 2, 0] rfl)
  · have hw := hwf c_2
    refine lv_aload_n hx hb dX0_closePeriod_14 rfl (lv_at hl 1 rfl) ?_
    refine lv_aload_n hx hb dX0_closePeriod_15 rfl (lv_at hl 1 rfl) ?_
    refine va_get (D := zD E) (ci := 0) (v := .ref (q0 2)) (C := RX0) (T := TX0) (N := 7) hx hb hts uw_X0 hown hK hP 0 rfl rfl 2 (by decide) (hts _ wm_1_133) (fun _ h9 => h9) rfl dX0_closePeriod_16 ?_
    refine lv_iload_n hx hb dX0_closePeriod_19 rfl (lv_at hl 0 rfl) ?_
    obtain ⟨h_3, hw⟩ := hw
    refine va_iald hx hb hK hP 2 0 rfl rfl h_3 dX0_closePeriod_20 ?_
    refine z_kv (z_rV (rest := []) hZ0 C0 hK hZ hA hP hD hS hl.1 (c_X0_placeOrder l E Z hZ0 q0 s.heap.size u0 (u0.2.2.1 u0.1.toNatClampNeg) _ hw) yv_X0_50 [0, 1, 2, 3, 4, 5, 6] rfl (by decide) (ci := 0) rfl rfl 0 rfl ⟨Nat.le_of_ble_eq_true rfl, Nat.le_of_ble_eq_true rfl⟩ ⟨rfl, rfl⟩ rfl rfl (Nat.le_of_ble_eq_true rfl) ⟨Nat.le_of_ble_eq_true rfl, Nat.le_of_ble_eq_true rfl⟩ dX0_closePeriod_21) hP hD hS hA [0, 1, 2, 3, 4, 5, 6] [7, 8, 9, 10, 11] [5, 6, 7, 8, 9, 10, 11, 0, 1, 2, 3, 4] rfl (wr := [_, _, _, _, _]) rfl (by decide) (by decide) (fun u => k_X0 E q0 u ++ (k_X7 E q1 u1)) (fun u => rfl) (by decide) (fun u_4 H locs hw hP hD hS => ?_)
    exact t_X0_closePeriod_24 (l := l) hZ0 C0 hA hK hZ post u0.1 u_4 u1 _ _ _ hw hP hD hS (lv_sub hl [1, 2, 0] rfl)
abbrev r_X0_closeRest : Room := { frames := 3, cells := 0, slots := 0, locals := 83 }
def j_X0_closeRest_8 (K8 : (Int64 × Int32 × S_X0 × S_X7) → Prop) (x2 : Int64) (x4 : Int32) (u0 : S_X0) (u1 : S_X7) (post : Int64 → (S_X0 × S_X7) → Prop) : Prop := (u1.1 ≤ x4 → (post x2 (u0, u1))) ∧ (¬ (u1.1 ≤ x4) → (wp_X0_closePeriod u0 u1 (fun r_3 u_2 => ∀ x_4 : Int64, x_4 = (x2 + r_3) → (∀ x_5 : Int32, x_5 = x4 + 1 → (K8 (x_4, x_5, u_2.1, u_2.2))))))
def wp_X0_closeRest (u0 : S_X0) (u1 : S_X7) (post : Int64 → (S_X0 × S_X7) → Prop) : Prop := ∃ n, zl (fun K st => j_X0_closeRest_8 K st.1 st.2.1 st.2.2.1 st.2.2.2 post) n ((0 : Int64), u0.1, u0, u1)
set_option maxHeartbeats 4000000 in
set_option maxRecDepth 100000 in
theorem t_X0_closeRest_8 {p : Program} {l : Launch} {e : Env} {s : State} {m : MethodId} {args : Array Value} {below : List Frame} {meth : Method} {c : Code} {Z : zZ} {E : zE} {A : Nat → Prop} {q0 : Nat → Nat} {q1 : Nat → Nat} (hZ0 : zSt Z) (C0 : zC p s m args meth c yX0_closeRest cX0_closeRest 5 (some .long)) (hA : ∀ q : Nat, s.heap.size ≤ q → A q) (hK : va_K (zD E) vwCl (zT E) s) (hZ : Z A s s.heap) (post : Int64 → (S_X0 × S_X7) → Prop) : ∀ (n : Nat) (x2 : Int64) (x4 : Int32) (u0 : S_X0) (u1 : S_X7) (H : Heap) (locs : List Loc) (ls : Array Slot), zl (fun K st => j_X0_closeRest_8 K st.1 st.2.1 st.2.2.1 st.2.2.2 post) n (x2, x4, u0, u1) → va_P (zD E) vwCl (k_X0 E q0 u0 ++ (k_X7 E q1 u1)) H → va_D A (k_X0 E q0 u0 ++ (k_X7 E q1 u1)) → va_S A s.heap H locs → lv_has ls 5 [(0, .ref (q0 0)), (1, .ref (q1 0)), (2, .long x2), (4, .int x4)] → W p l e r_X0_closeRest s m args below meth c H locs 0 0 (MQ below (va_Ql post (zAt E A (fun u => k_X0 E q0 u.1 ++ (k_X7 E q1 u.2))) A) args s 0 0 A) (F0 m 8 ls []) := by
  obtain ⟨hx, hb, hml, hr, hown, hts, hlocks, hin⟩ := id C0
  have hown : s.vm.findClass RX0 = some m.cls := hown
  intro n
  induction n with
  | zero => intro x2 x4 u0 u1 H locs ls hw; exact hw.elim
  | succ n hk_8 =>
    intro x2 x4 u0 u1 H locs ls hw hP hD hS hl
    have hw : j_X0_closeRest_8 _ x2 x4 u0 u1 post := hw
    refine lv_iload hx hb dX0_closeRest_8 (lv_at hl 3 rfl) ?_
    refine lv_aload_n hx hb dX0_closeRest_10 rfl (lv_at hl 1 rfl) ?_
    refine va_getN (D := zD E) (ci := 7) (v := .int u1.1) (C := RX7) (T := TX7) (N := 16) hx hb hts uw_X7 hown hK hP 7 rfl rfl 0 (by decide) (hts _ wm_1_48) (fun _ h9 => h9) rfl dX0_closeRest_11 ?_
    obtain ⟨hwt, hwf⟩ := hw
    refine lv_icmp_ge (tgt := 31) hx hb dX0_closeRest_14 (by decide) (fun c_1 => ?_) (fun c_1 => ?_)
    · have hw := hwt c_1
      refine lv_lload_n hx hb dX0_closeRest_31 rfl (lv_at hl 2 rfl) ?_
      exact z_lret (k := (fun u => k_X0 E q0 u.1 ++ (k_X7 E q1 u.2))) (u0, u1) C0 hP hD hS hw dX0_closeRest_32
    · have hw := hwf c_1
      refine lv_lload_n hx hb dX0_closeRest_17 rfl (lv_at hl 2 rfl) ?_
      refine lv_aload_n hx hb dX0_closeRest_18 rfl (lv_at hl 0 rfl) ?_
      refine lv_aload_n hx hb dX0_closeRest_19 rfl (lv_at hl 1 rfl) ?_
      refine z_kl (z_rV (rest := [.long x2]) hZ0 C0 hK hZ hA hP hD hS hl.1 (c_X0_closePeriod l E Z hZ0 q0 q1 H.size u0 u1 _ hw) yv_X0_102 [0, 1, 2, 3, 4, 5, 6, 7, 8, 9, 10, 11] rfl (by decide) (ci := 0) rfl rfl 0 rfl ⟨Nat.le_of_ble_eq_true rfl, Nat.le_of_ble_eq_true rfl⟩ ⟨rfl, rfl⟩ rfl rfl (Nat.le_of_ble_eq_true rfl) ⟨Nat.le_of_ble_eq_true rfl, Nat.le_of_ble_eq_true rfl⟩ dX0_closeRest_20) hP hD hS hA [0, 1, 2, 3, 4, 5, 6, 7, 8, 9, 10, 11] [] [0, 1, 2, 3, 4, 5, 6, 7, 8, 9, 10, 11] rfl (wr := []) rfl (by decide) (by decide) (fun u => k_X0 E q0 u.1 ++ (k_X7 E q1 u.2)) (fun u => rfl) (by decide) (fun r_3 u_2 H locs hw hP hD hS => ?_)
      refine lv_ladd hx hb dX0_closeRest_23 ?_
      refine lv_topl (fun x_4 ex_4 => ?_)
      have hw := hw x_4 ex_4
      refine lv_lstore_n (lv' := [(2, .long x_4), (0, .ref (q0 0)), (1, .ref (q1 0)), (4, .int x4)]) hx hb dX0_closeRest_24 rfl hl (by decide) rfl (fun ls hl => ?_)
      obtain ⟨x_5, ex_5⟩ : ∃ y : Int32, y = x4 + 1 := ⟨_, rfl⟩
      have hw := hw x_5 ex_5
      refine lv_iinc (v := x_5) (lv' := [(4, .int x_5), (2, .long x_4), (0, .ref (q0 0)), (1, .ref (q1 0))]) hx hb dX0_closeRest_25 hl (k := 3) rfl (by rw [ex_5]; rfl) (by decide) rfl (fun ls hl => ?_)
      refine lv_goto (tgt := 8) hx hb dX0_closeRest_28 (by decide) ?_
      exact hk_8 x_4 x_5 u_2.1 u_2.2 _ _ _ hw hP hD hS (lv_sub hl [2, 3, 1, 0] rfl)
set_option maxHeartbeats 4000000 in
set_option maxRecDepth 100000 in
theorem c_X0_closeRest (l : Launch) (E : zE) (Z : zZ) (hZ0 : zSt Z) (q0 : Nat → Nat) (q1 : Nat → Nat) (sz : Nat) (u0 : S_X0) (u1 : S_X7) (post : Int64 → (S_X0 × S_X7) → Prop) (hw : wp_X0_closeRest u0 u1 post) : Met l yX0_closeRest (zws yX0_closeRest cX0_closeRest 5 (some .long)) r_X0_closeRest (va_Pc [.ref (q0 0), .ref (q1 0)] (zPre Z E (k_X0 E q0 u0 ++ (k_X7 E q1 u1)) sz)) (va_Ql post (zAt E (va_A (k_X0 E q0 u0 ++ (k_X7 E q1 u1)) sz) (fun u => k_X0 E q0 u.1 ++ (k_X7 E q1 u.2))) (va_A (k_X0 E q0 u0 ++ (k_X7 E q1 u1)) sz)) 0 0 (va_A (k_X0 E q0 u0 ++ (k_X7 E q1 u1)) sz) := by
  refine z_ofW (Qf := fun A => va_Ql post (zAt E A (fun u => k_X0 E q0 u.1 ++ (k_X7 E q1 u.2))) A) (by decide) (Nat.le_of_ble_eq_true rfl) ?_
  intro p e s m args below meth c A ls C0 hA hK hZ hP hD hS hl
  obtain ⟨hx, hb, hml, hr, hown, hts, hlocks, hin⟩ := id C0
  have hown : s.vm.findClass RX0 = some m.cls := hown
  have hl : lv_has ls 5 [(0, .ref (q0 0)), (1, .ref (q1 0))] := hl
  refine lv_lconst (v := 0) hx hb dX0_closeRest_0 rfl ?_
  refine lv_lstore_n (lv' := [(2, .long (0 : Int64)), (0, .ref (q0 0)), (1, .ref (q1 0))]) hx hb dX0_closeRest_1 rfl hl (by decide) rfl (fun ls hl => ?_)
  refine lv_aload_n hx hb dX0_closeRest_2 rfl (lv_at hl 1 rfl) ?_
  refine va_get (D := zD E) (ci := 0) (v := .int u0.1) (C := RX0) (T := TX0) (N := 7) hx hb hts uw_X0 hown hK hP 0 rfl rfl 0 (by decide) (hts _ wm_1_128) (fun _ h9 => h9) rfl dX0_closeRest_3 ?_
  refine lv_istore (lv' := [(4, .int u0.1), (2, .long (0 : Int64)), (0, .ref (q0 0)), (1, .ref (q1 0))]) hx hb dX0_closeRest_6 hl (by decide) rfl (fun ls hl => ?_)
  obtain ⟨n9, hw⟩ := hw
  exact t_X0_closeRest_8 (l := l) hZ0 C0 hA hK hZ post n9 (0 : Int64) u0.1 u0 u1 _ _ _ hw hP hD hS (lv_sub hl [2, 3, 1, 0] rfl)
