abbrev r_X10_thrown : Room := { frames := 0, cells := 0, slots := 0, locals := 0 }
def wp_X10_thrown (u0 : S_X10) (post : Int32 → S_X10 → Prop) : Prop := post u0.1 u0
set_option maxHeartbeats 4000000 in
set_option maxRecDepth 100000 in
theorem c_X10_thrown (l : Launch) (E : zE) (Z : zZ) (hZ0 : zSt Z) (q0 : Nat → Nat) (sz : Nat) (u0 : S_X10) (post : Int32 → S_X10 → Prop) (hw : wp_X10_thrown u0 post) : Met l yX10_thrown (zws yX10_thrown cX10_thrown 1 (some .int)) r_X10_thrown (va_Pc [.ref (q0 0)] (zPre Z E (k_X10 E q0 u0) sz)) (va_Qi post (zAt E (va_A (k_X10 E q0 u0) sz) (fun u => k_X10 E q0 u)) (va_A (k_X10 E q0 u0) sz)) 0 0 (va_A (k_X10 E q0 u0) sz) := by
  refine z_ofW (Qf := fun A => va_Qi post (zAt E A (fun u => k_X10 E q0 u)) A) (by decide) (Nat.le_of_ble_eq_true rfl) ?_
  intro p e s m args below meth c A ls C0 hA hK hZ hP hD hS hl
  obtain ⟨hx, hb, hml, hr, hown, hts, hlocks, hin⟩ := id C0
  have hown : s.vm.findClass RX10 = some m.cls := hown
  have hl : lv_has ls 1 [(0, .ref (q0 0))] := hl
  refine lv_aload_n hx hb dX10_thrown_0 rfl (lv_at hl 0 rfl) ?_
  refine va_get (D := zD E) (ci := 10) (v := .int u0.1) (C := RX10) (T := TX10) (N := 24) hx hb hts uw_X10 hown hK hP 0 rfl rfl 0 (by decide) (hts _ wm_5_116) (fun _ h9 => h9) rfl dX10_thrown_1 ?_
  exact z_iret (k := (fun u => k_X10 E q0 u)) u0 C0 hP hD hS hw dX10_thrown_4
abbrev r_X10_fails : Room := { frames := 0, cells := 0, slots := 0, locals := 0 }
def j_X10_fails_16 (u0 : S_X10) (post : Int32 → S_X10 → Prop) : Prop := (u0.1 = 0 → (post (0 : Int32) u0)) ∧ (¬ (u0.1 = 0) → (post (1 : Int32) u0))
def wp_X10_fails (u0 : S_X10) (p1 : Int32) (p2 : Int32) (post : Int32 → S_X10 → Prop) : Prop := (p1 = 0 → (j_X10_fails_16 u0 post)) ∧ (¬ (p1 = 0) → ((¬ (u0.1 = 0) → (j_X10_fails_16 u0 post)) ∧ (u0.1 = 0 → (j_X10_fails_16 (p2, u0.2.1, u0.2.2.1, u0.2.2.2.1, u0.2.2.2.2.1, u0.2.2.2.2.2.1, u0.2.2.2.2.2.2.1, u0.2.2.2.2.2.2.2.1, u0.2.2.2.2.2.2.2.2.1, u0.2.2.2.2.2.2.2.2.2.1, u0.2.2.2.2.2.2.2.2.2.2.1, u0.2.2.2.2.2.2.2.2.2.2.2.1, u0.2.2.2.2.2.2.2.2.2.2.2.2.1, u0.2.2.2.2.2.2.2.2.2.2.2.2.2.1, u0.2.2.2.2.2.2.2.2.2.2.2.2.2.2.1, u0.2.2.2.2.2.2.2.2.2.2.2.2.2.2.2.1, u0.2.2.2.2.2.2.2.2.2.2.2.2.2.2.2.2.1, u0.2.2.2.2.2.2.2.2.2.2.2.2.2.2.2.2.2.1, u0.2.2.2.2.2.2.2.2.2.2.2.2.2.2.2.2.2.2.1, u0.2.2.2.2.2.2.2.2.2.2.2.2.2.2.2.2.2.2.2.1, u0.2.2.2.2.2.2.2.2.2.2.2.2.2.2.2.2.2.2.2.2.1, u0.2.2.2.2.2.2.2.2.2.2.2.2.2.2.2.2.2.2.2.2.2) post))))
set_option maxHeartbeats 4000000 in
set_option maxRecDepth 100000 in
theorem t_X10_fails_16 {p : Program} {l : Launch} {e : Env} {s : State} {m : MethodId} {args : Array Value} {below : List Frame} {meth : Method} {c : Code} {Z : zZ} {E : zE} {A : Nat → Prop} {q0 : Nat → Nat} (hZ0 : zSt Z) (C0 : zC p s m args meth c yX10_fails cX10_fails 3 (some .boolean)) (hA : ∀ q : Nat, s.heap.size ≤ q → A q) (hK : va_K (zD E) vwCl (zT E) s) (hZ : Z A s s.heap) (post : Int32 → S_X10 → Prop) : ∀ (u0 : S_X10) (H : Heap) (locs : List Loc) (ls : Array Slot), j_X10_fails_16 u0 post → va_P (zD E) vwCl (k_X10 E q0 u0) H → va_D A (k_X10 E q0 u0) → va_S A s.heap H locs → lv_has ls 3 [(0, .ref (q0 0))] → W p l e r_X10_fails s m args below meth c H locs 0 0 (MQ below (va_Qi post (zAt E A (fun u => k_X10 E q0 u)) A) args s 0 0 A) (F0 m 16 ls []) := by
  obtain ⟨hx, hb, hml, hr, hown, hts, hlocks, hin⟩ := id C0
  have hown : s.vm.findClass RX10 = some m.cls := hown
  intro u0 H locs ls hw hP hD hS hl
  refine lv_aload_n hx hb dX10_fails_16 rfl (lv_at hl 0 rfl) ?_
  refine va_get (D := zD E) (ci := 10) (v := .int u0.1) (C := RX10) (T := TX10) (N := 24) hx hb hts uw_X10 hown hK hP 0 rfl rfl 0 (by decide) (hts _ wm_5_116) (fun _ h9 => h9) rfl dX10_fails_17 ?_
  obtain ⟨hwt, hwf⟩ := hw
  refine lv_if_eq (tgt := 27) hx hb dX10_fails_20 (by decide) (fun c_3 => ?_) (fun c_3 => ?_)
  · have hw := hwt c_3
    refine lv_iconst (v := 0) hx hb dX10_fails_27 rfl ?_
    exact z_zret (k := (fun u => k_X10 E q0 u)) u0 C0 rfl hP hD hS hw dX10_fails_28
  · have hw := hwf c_3
    refine lv_iconst (v := 1) hx hb dX10_fails_23 rfl ?_
    refine lv_goto (tgt := 28) hx hb dX10_fails_24 (by decide) ?_
    exact z_zret (k := (fun u => k_X10 E q0 u)) u0 C0 rfl hP hD hS hw dX10_fails_28
set_option maxHeartbeats 4000000 in
set_option maxRecDepth 100000 in
theorem c_X10_fails (l : Launch) (E : zE) (Z : zZ) (hZ0 : zSt Z) (q0 : Nat → Nat) (sz : Nat) (u0 : S_X10) (p1 : Int32) (p2 : Int32) (post : Int32 → S_X10 → Prop) (hw : wp_X10_fails u0 p1 p2 post) : Met l yX10_fails (zws yX10_fails cX10_fails 3 (some .boolean)) r_X10_fails (va_Pc [.ref (q0 0), .int p1, .int p2] (zPre Z E (k_X10 E q0 u0) sz)) (va_Qi post (zAt E (va_A (k_X10 E q0 u0) sz) (fun u => k_X10 E q0 u)) (va_A (k_X10 E q0 u0) sz)) 0 0 (va_A (k_X10 E q0 u0) sz) := by
  refine z_ofW (Qf := fun A => va_Qi post (zAt E A (fun u => k_X10 E q0 u)) A) (by decide) (Nat.le_of_ble_eq_true rfl) ?_
  intro p e s m args below meth c A ls C0 hA hK hZ hP hD hS hl
  obtain ⟨hx, hb, hml, hr, hown, hts, hlocks, hin⟩ := id C0
  have hown : s.vm.findClass RX10 = some m.cls := hown
  have hl : lv_has ls 3 [(0, .ref (q0 0)), (1, .int p1), (2, .int p2)] := hl
  refine lv_iload_n hx hb dX10_fails_0 rfl (lv_at hl 1 rfl) ?_
  obtain ⟨hwt, hwf⟩ := hw
  refine lv_if_eq (tgt := 16) hx hb dX10_fails_1 (by decide) (fun c_1 => ?_) (fun c_1 => ?_)
  · have hw := hwt c_1
    exact t_X10_fails_16 (l := l) hZ0 C0 hA hK hZ post u0 _ _ _ hw hP hD hS (lv_sub hl [0] rfl)
  · have hw := hwf c_1
    refine lv_aload_n hx hb dX10_fails_4 rfl (lv_at hl 0 rfl) ?_
    refine va_get (D := zD E) (ci := 10) (v := .int u0.1) (C := RX10) (T := TX10) (N := 24) hx hb hts uw_X10 hown hK hP 0 rfl rfl 0 (by decide) (hts _ wm_5_116) (fun _ h9 => h9) rfl dX10_fails_5 ?_
    obtain ⟨hwt, hwf⟩ := hw
    refine lv_if_ne (tgt := 16) hx hb dX10_fails_8 (by decide) (fun c_2 => ?_) (fun c_2 => ?_)
    · have hw := hwt c_2
      exact t_X10_fails_16 (l := l) hZ0 C0 hA hK hZ post u0 _ _ _ hw hP hD hS (lv_sub hl [0] rfl)
    · have hw := hwf c_2
      refine lv_aload_n hx hb dX10_fails_11 rfl (lv_at hl 0 rfl) ?_
      refine lv_iload_n hx hb dX10_fails_12 rfl (lv_at hl 2 rfl) ?_
      refine va_put (D := zD E) (ci := 10) (v := .int p2) (ty := .int) (C := RX10) (T := TX10) (N := 24) hx hb hts uw_X10 tyX10 tyX10_ok nmX10 hown hK hP hD hS 0 rfl rfl 0 (by decide) (hts _ wm_5_116) (fun _ h9 => h9) rfl (by decide +kernel) rfl rfl (Nat.le_of_ble_eq_true rfl) dX10_fails_13 (fun H locs hP hD hS => ?_)
      have hP : va_P (zD E) vwCl (k_X10 E q0 (p2, u0.2.1, u0.2.2.1, u0.2.2.2.1, u0.2.2.2.2.1, u0.2.2.2.2.2.1, u0.2.2.2.2.2.2.1, u0.2.2.2.2.2.2.2.1, u0.2.2.2.2.2.2.2.2.1, u0.2.2.2.2.2.2.2.2.2.1, u0.2.2.2.2.2.2.2.2.2.2.1, u0.2.2.2.2.2.2.2.2.2.2.2.1, u0.2.2.2.2.2.2.2.2.2.2.2.2.1, u0.2.2.2.2.2.2.2.2.2.2.2.2.2.1, u0.2.2.2.2.2.2.2.2.2.2.2.2.2.2.1, u0.2.2.2.2.2.2.2.2.2.2.2.2.2.2.2.1, u0.2.2.2.2.2.2.2.2.2.2.2.2.2.2.2.2.1, u0.2.2.2.2.2.2.2.2.2.2.2.2.2.2.2.2.2.1, u0.2.2.2.2.2.2.2.2.2.2.2.2.2.2.2.2.2.2.1, u0.2.2.2.2.2.2.2.2.2.2.2.2.2.2.2.2.2.2.2.1, u0.2.2.2.2.2.2.2.2.2.2.2.2.2.2.2.2.2.2.2.2.1, u0.2.2.2.2.2.2.2.2.2.2.2.2.2.2.2.2.2.2.2.2.2)) H := hP
      have hD : va_D A (k_X10 E q0 (p2, u0.2.1, u0.2.2.1, u0.2.2.2.1, u0.2.2.2.2.1, u0.2.2.2.2.2.1, u0.2.2.2.2.2.2.1, u0.2.2.2.2.2.2.2.1, u0.2.2.2.2.2.2.2.2.1, u0.2.2.2.2.2.2.2.2.2.1, u0.2.2.2.2.2.2.2.2.2.2.1, u0.2.2.2.2.2.2.2.2.2.2.2.1, u0.2.2.2.2.2.2.2.2.2.2.2.2.1, u0.2.2.2.2.2.2.2.2.2.2.2.2.2.1, u0.2.2.2.2.2.2.2.2.2.2.2.2.2.2.1, u0.2.2.2.2.2.2.2.2.2.2.2.2.2.2.2.1, u0.2.2.2.2.2.2.2.2.2.2.2.2.2.2.2.2.1, u0.2.2.2.2.2.2.2.2.2.2.2.2.2.2.2.2.2.1, u0.2.2.2.2.2.2.2.2.2.2.2.2.2.2.2.2.2.2.1, u0.2.2.2.2.2.2.2.2.2.2.2.2.2.2.2.2.2.2.2.1, u0.2.2.2.2.2.2.2.2.2.2.2.2.2.2.2.2.2.2.2.2.1, u0.2.2.2.2.2.2.2.2.2.2.2.2.2.2.2.2.2.2.2.2.2)) := hD
      exact t_X10_fails_16 (l := l) hZ0 C0 hA hK hZ post (p2, u0.2.1, u0.2.2.1, u0.2.2.2.1, u0.2.2.2.2.1, u0.2.2.2.2.2.1, u0.2.2.2.2.2.2.1, u0.2.2.2.2.2.2.2.1, u0.2.2.2.2.2.2.2.2.1, u0.2.2.2.2.2.2.2.2.2.1, u0.2.2.2.2.2.2.2.2.2.2.1, u0.2.2.2.2.2.2.2.2.2.2.2.1, u0.2.2.2.2.2.2.2.2.2.2.2.2.1, u0.2.2.2.2.2.2.2.2.2.2.2.2.2.1, u0.2.2.2.2.2.2.2.2.2.2.2.2.2.2.1, u0.2.2.2.2.2.2.2.2.2.2.2.2.2.2.2.1, u0.2.2.2.2.2.2.2.2.2.2.2.2.2.2.2.2.1, u0.2.2.2.2.2.2.2.2.2.2.2.2.2.2.2.2.2.1, u0.2.2.2.2.2.2.2.2.2.2.2.2.2.2.2.2.2.2.1, u0.2.2.2.2.2.2.2.2.2.2.2.2.2.2.2.2.2.2.2.1, u0.2.2.2.2.2.2.2.2.2.2.2.2.2.2.2.2.2.2.2.2.1, u0.2.2.2.2.2.2.2.2.2.2.2.2.2.2.2.2.2.2.2.2.2) _ _ _ hw hP hD hS (lv_sub hl [0] rfl)
abbrev r_X10_append : Room := { frames := 0, cells := 0, slots := 0, locals := 0 }
def j_X10_append_76 (K23 : (Int32 × Int32 × Int32 × Int32 × Int32 × Int32 × S_X10) → Prop) (x1 : Int32) (x2 : Int32) (x3 : Int32) (x4 : Int32) (x5 : Int32) (x6 : Int32) (y0 : Int32) (u0 : S_X10) (post : Int32 → S_X10 → Prop) : Prop := ∀ x_7 : Int32, x_7 = ((y0 >>> (((24 : Int32) - ((8 : Int32) * (x6 - x6 / (4 : Int32) * (4 : Int32)))) &&& 31)) &&& (255 : Int32)) → (vp_in u0.2.2.1 800 ∧ (∀ x_9 : Int32, x_9 = (u0.2.2.1 + (1 : Int32)) → (∀ x_10 : Int32, x_10 = x6 + 1 → (K23 (x1, x2, x3, x4, x5, x_10, (u0.1, (upd u0.2.1 u0.2.2.1.toNatClampNeg x_7), x_9, u0.2.2.2.1, u0.2.2.2.2.1, u0.2.2.2.2.2.1, u0.2.2.2.2.2.2.1, u0.2.2.2.2.2.2.2.1, u0.2.2.2.2.2.2.2.2.1, u0.2.2.2.2.2.2.2.2.2.1, u0.2.2.2.2.2.2.2.2.2.2.1, u0.2.2.2.2.2.2.2.2.2.2.2.1, u0.2.2.2.2.2.2.2.2.2.2.2.2.1, u0.2.2.2.2.2.2.2.2.2.2.2.2.2.1, u0.2.2.2.2.2.2.2.2.2.2.2.2.2.2.1, u0.2.2.2.2.2.2.2.2.2.2.2.2.2.2.2.1, u0.2.2.2.2.2.2.2.2.2.2.2.2.2.2.2.2.1, u0.2.2.2.2.2.2.2.2.2.2.2.2.2.2.2.2.2.1, u0.2.2.2.2.2.2.2.2.2.2.2.2.2.2.2.2.2.2.1, u0.2.2.2.2.2.2.2.2.2.2.2.2.2.2.2.2.2.2.2.1, u0.2.2.2.2.2.2.2.2.2.2.2.2.2.2.2.2.2.2.2.2.1, u0.2.2.2.2.2.2.2.2.2.2.2.2.2.2.2.2.2.2.2.2.2))))))
def j_X10_append_23 (K23 : (Int32 × Int32 × Int32 × Int32 × Int32 × Int32 × S_X10) → Prop) (x1 : Int32) (x2 : Int32) (x3 : Int32) (x4 : Int32) (x5 : Int32) (x6 : Int32) (u0 : S_X10) (post : Int32 → S_X10 → Prop) : Prop := ((20 : Int32) ≤ x6 → (post u0.2.2.1 u0)) ∧ (¬ ((20 : Int32) ≤ x6) → (((4 : Int32) ≤ x6 → (((8 : Int32) ≤ x6 → (((12 : Int32) ≤ x6 → (((16 : Int32) ≤ x6 → (j_X10_append_76 K23 x1 x2 x3 x4 x5 x6 x5 u0 post)) ∧ (¬ ((16 : Int32) ≤ x6) → (j_X10_append_76 K23 x1 x2 x3 x4 x5 x6 x4 u0 post)))) ∧ (¬ ((12 : Int32) ≤ x6) → (j_X10_append_76 K23 x1 x2 x3 x4 x5 x6 x3 u0 post)))) ∧ (¬ ((8 : Int32) ≤ x6) → (j_X10_append_76 K23 x1 x2 x3 x4 x5 x6 x2 u0 post)))) ∧ (¬ ((4 : Int32) ≤ x6) → (j_X10_append_76 K23 x1 x2 x3 x4 x5 x6 x1 u0 post))))
def wp_X10_append (u0 : S_X10) (p1 : Int32) (p2 : Int32) (p3 : Int32) (p4 : Int32) (p5 : Int32) (post : Int32 → S_X10 → Prop) : Prop := ((u0.2.2.1 + (20 : Int32)) ≤ (800 : Int32) → (∃ n, zl (fun K st => j_X10_append_23 K st.1 st.2.1 st.2.2.1 st.2.2.2.1 st.2.2.2.2.1 st.2.2.2.2.2.1 st.2.2.2.2.2.2 post) n (p1, p2, p3, p4, p5, (0 : Int32), ((0 : Int32), u0.2.1, u0.2.2.1, u0.2.2.2.1, u0.2.2.2.2.1, u0.2.2.2.2.2.1, u0.2.2.2.2.2.2.1, u0.2.2.2.2.2.2.2.1, u0.2.2.2.2.2.2.2.2.1, u0.2.2.2.2.2.2.2.2.2.1, u0.2.2.2.2.2.2.2.2.2.2.1, u0.2.2.2.2.2.2.2.2.2.2.2.1, u0.2.2.2.2.2.2.2.2.2.2.2.2.1, u0.2.2.2.2.2.2.2.2.2.2.2.2.2.1, u0.2.2.2.2.2.2.2.2.2.2.2.2.2.2.1, u0.2.2.2.2.2.2.2.2.2.2.2.2.2.2.2.1, u0.2.2.2.2.2.2.2.2.2.2.2.2.2.2.2.2.1, u0.2.2.2.2.2.2.2.2.2.2.2.2.2.2.2.2.2.1, u0.2.2.2.2.2.2.2.2.2.2.2.2.2.2.2.2.2.2.1, u0.2.2.2.2.2.2.2.2.2.2.2.2.2.2.2.2.2.2.2.1, u0.2.2.2.2.2.2.2.2.2.2.2.2.2.2.2.2.2.2.2.2.1, u0.2.2.2.2.2.2.2.2.2.2.2.2.2.2.2.2.2.2.2.2.2)))) ∧ (¬ ((u0.2.2.1 + (20 : Int32)) ≤ (800 : Int32)) → (post (-1 : Int32) ((0 : Int32), u0.2.1, u0.2.2.1, u0.2.2.2.1, u0.2.2.2.2.1, u0.2.2.2.2.2.1, u0.2.2.2.2.2.2.1, u0.2.2.2.2.2.2.2.1, u0.2.2.2.2.2.2.2.2.1, u0.2.2.2.2.2.2.2.2.2.1, u0.2.2.2.2.2.2.2.2.2.2.1, u0.2.2.2.2.2.2.2.2.2.2.2.1, u0.2.2.2.2.2.2.2.2.2.2.2.2.1, u0.2.2.2.2.2.2.2.2.2.2.2.2.2.1, u0.2.2.2.2.2.2.2.2.2.2.2.2.2.2.1, u0.2.2.2.2.2.2.2.2.2.2.2.2.2.2.2.1, u0.2.2.2.2.2.2.2.2.2.2.2.2.2.2.2.2.1, u0.2.2.2.2.2.2.2.2.2.2.2.2.2.2.2.2.2.1, u0.2.2.2.2.2.2.2.2.2.2.2.2.2.2.2.2.2.2.1, u0.2.2.2.2.2.2.2.2.2.2.2.2.2.2.2.2.2.2.2.1, u0.2.2.2.2.2.2.2.2.2.2.2.2.2.2.2.2.2.2.2.2.1, u0.2.2.2.2.2.2.2.2.2.2.2.2.2.2.2.2.2.2.2.2.2)))
set_option maxHeartbeats 4000000 in
set_option maxRecDepth 100000 in
theorem t_X10_append_76 {p : Program} {l : Launch} {e : Env} {s : State} {m : MethodId} {args : Array Value} {below : List Frame} {meth : Method} {c : Code} {Z : zZ} {E : zE} {A : Nat → Prop} {q0 : Nat → Nat} (hZ0 : zSt Z) (C0 : zC p s m args meth c yX10_append cX10_append 8 (some .int)) (hA : ∀ q : Nat, s.heap.size ≤ q → A q) (hK : va_K (zD E) vwCl (zT E) s) (hZ : Z A s s.heap) (post : Int32 → S_X10 → Prop) {K23 : (Int32 × Int32 × Int32 × Int32 × Int32 × Int32 × S_X10) → Prop} (hk_23 : ∀ (x1 : Int32) (x2 : Int32) (x3 : Int32) (x4 : Int32) (x5 : Int32) (x6 : Int32) (u0 : S_X10) (H : Heap) (locs : List Loc) (ls : Array Slot), K23 (x1, x2, x3, x4, x5, x6, u0) → va_P (zD E) vwCl (k_X10 E q0 u0) H → va_D A (k_X10 E q0 u0) → va_S A s.heap H locs → lv_has ls 8 [(0, .ref (q0 0)), (1, .int x1), (2, .int x2), (3, .int x3), (4, .int x4), (5, .int x5), (6, .int x6)] → W p l e r_X10_append s m args below meth c H locs 0 0 (MQ below (va_Qi post (zAt E A (fun u => k_X10 E q0 u)) A) args s 0 0 A) (F0 m 23 ls [])) : ∀ (x1 : Int32) (x2 : Int32) (x3 : Int32) (x4 : Int32) (x5 : Int32) (x6 : Int32) (y0 : Int32) (u0 : S_X10) (H : Heap) (locs : List Loc) (ls : Array Slot), j_X10_append_76 K23 x1 x2 x3 x4 x5 x6 y0 u0 post → va_P (zD E) vwCl (k_X10 E q0 u0) H → va_D A (k_X10 E q0 u0) → va_S A s.heap H locs → lv_has ls 8 [(0, .ref (q0 0)), (1, .int x1), (2, .int x2), (3, .int x3), (4, .int x4), (5, .int x5), (6, .int x6)] → W p l e r_X10_append s m args below meth c H locs 0 0 (MQ below (va_Qi post (zAt E A (fun u => k_X10 E q0 u)) A) args s 0 0 A) (F0 m 76 ls [.int y0]) := by
  obtain ⟨hx, hb, hml, hr, hown, hts, hlocks, hin⟩ := id C0
  have hown : s.vm.findClass RX10 = some m.cls := hown
  intro x1 x2 x3 x4 x5 x6 y0 u0 H locs ls hw hP hD hS hl
  refine lv_istore (lv' := [(7, .int y0), (0, .ref (q0 0)), (1, .int x1), (2, .int x2), (3, .int x3), (4, .int x4), (5, .int x5), (6, .int x6)]) hx hb dX10_append_76 hl (by decide) rfl (fun ls hl => ?_)
  refine lv_aload_n hx hb dX10_append_78 rfl (lv_at hl 1 rfl) ?_
  refine va_get (D := zD E) (ci := 10) (v := .ref (q0 1)) (C := RX10) (T := TX10) (N := 24) hx hb hts uw_X10 hown hK hP 0 rfl rfl 1 (by decide) (hts _ wm_5_117) (fun _ h9 => h9) rfl dX10_append_79 ?_
  refine lv_aload_n hx hb dX10_append_82 rfl (lv_at hl 1 rfl) ?_
  refine va_get (D := zD E) (ci := 10) (v := .int u0.2.2.1) (C := RX10) (T := TX10) (N := 24) hx hb hts uw_X10 hown hK hP 0 rfl rfl 2 (by decide) (hts _ wm_5_118) (fun _ h9 => h9) rfl dX10_append_83 ?_
  refine lv_iload hx hb dX10_append_86 (lv_at hl 0 rfl) ?_
  refine lv_bipush (v := 24) hx hb dX10_append_88 rfl ?_
  refine lv_bipush (v := 8) hx hb dX10_append_90 rfl ?_
  refine lv_iload hx hb dX10_append_92 (lv_at hl 7 rfl) ?_
  refine lv_iconst (v := 4) hx hb dX10_append_94 rfl ?_
  refine lv_irem hx hb dX10_append_95 (by decide) ?_
  refine lv_imul hx hb dX10_append_96 ?_
  refine lv_isub hx hb dX10_append_97 ?_
  refine lv_ishr hx hb dX10_append_98 ?_
  refine lv_sipush (v := 255) hx hb dX10_append_99 rfl ?_
  refine lv_iand hx hb dX10_append_102 ?_
  refine lv_topi (fun x_7 ex_7 => ?_)
  have hw := hw x_7 ex_7
  obtain ⟨h_8, hw⟩ := hw
  refine va_iast hx hb hK hP hD hS 1 0 rfl rfl h_8 dX10_append_103 (fun H locs hP hD hS => ?_)
  have hP : va_P (zD E) vwCl (k_X10 E q0 (u0.1, (upd u0.2.1 u0.2.2.1.toNatClampNeg x_7), u0.2.2.1, u0.2.2.2.1, u0.2.2.2.2.1, u0.2.2.2.2.2.1, u0.2.2.2.2.2.2.1, u0.2.2.2.2.2.2.2.1, u0.2.2.2.2.2.2.2.2.1, u0.2.2.2.2.2.2.2.2.2.1, u0.2.2.2.2.2.2.2.2.2.2.1, u0.2.2.2.2.2.2.2.2.2.2.2.1, u0.2.2.2.2.2.2.2.2.2.2.2.2.1, u0.2.2.2.2.2.2.2.2.2.2.2.2.2.1, u0.2.2.2.2.2.2.2.2.2.2.2.2.2.2.1, u0.2.2.2.2.2.2.2.2.2.2.2.2.2.2.2.1, u0.2.2.2.2.2.2.2.2.2.2.2.2.2.2.2.2.1, u0.2.2.2.2.2.2.2.2.2.2.2.2.2.2.2.2.2.1, u0.2.2.2.2.2.2.2.2.2.2.2.2.2.2.2.2.2.2.1, u0.2.2.2.2.2.2.2.2.2.2.2.2.2.2.2.2.2.2.2.1, u0.2.2.2.2.2.2.2.2.2.2.2.2.2.2.2.2.2.2.2.2.1, u0.2.2.2.2.2.2.2.2.2.2.2.2.2.2.2.2.2.2.2.2.2)) H := hP
  have hD : va_D A (k_X10 E q0 (u0.1, (upd u0.2.1 u0.2.2.1.toNatClampNeg x_7), u0.2.2.1, u0.2.2.2.1, u0.2.2.2.2.1, u0.2.2.2.2.2.1, u0.2.2.2.2.2.2.1, u0.2.2.2.2.2.2.2.1, u0.2.2.2.2.2.2.2.2.1, u0.2.2.2.2.2.2.2.2.2.1, u0.2.2.2.2.2.2.2.2.2.2.1, u0.2.2.2.2.2.2.2.2.2.2.2.1, u0.2.2.2.2.2.2.2.2.2.2.2.2.1, u0.2.2.2.2.2.2.2.2.2.2.2.2.2.1, u0.2.2.2.2.2.2.2.2.2.2.2.2.2.2.1, u0.2.2.2.2.2.2.2.2.2.2.2.2.2.2.2.1, u0.2.2.2.2.2.2.2.2.2.2.2.2.2.2.2.2.1, u0.2.2.2.2.2.2.2.2.2.2.2.2.2.2.2.2.2.1, u0.2.2.2.2.2.2.2.2.2.2.2.2.2.2.2.2.2.2.1, u0.2.2.2.2.2.2.2.2.2.2.2.2.2.2.2.2.2.2.2.1, u0.2.2.2.2.2.2.2.2.2.2.2.2.2.2.2.2.2.2.2.2.1, u0.2.2.2.2.2.2.2.2.2.2.2.2.2.2.2.2.2.2.2.2.2)) := hD
  refine lv_aload_n hx hb dX10_append_104 rfl (lv_at hl 1 rfl) ?_
  refine lv_dup hx hb dX10_append_105 rfl ?_
  refine va_get (D := zD E) (ci := 10) (v := .int u0.2.2.1) (C := RX10) (T := TX10) (N := 24) hx hb hts uw_X10 hown hK hP 0 rfl rfl 2 (by decide) (hts _ wm_5_118) (fun _ h9 => h9) rfl dX10_append_106 ?_
  refine lv_iconst (v := 1) hx hb dX10_append_109 rfl ?_
  refine lv_iadd hx hb dX10_append_110 ?_
  refine lv_topi (fun x_9 ex_9 => ?_)
  have hw := hw x_9 ex_9
  refine va_put (D := zD E) (ci := 10) (v := .int x_9) (ty := .int) (C := RX10) (T := TX10) (N := 24) hx hb hts uw_X10 tyX10 tyX10_ok nmX10 hown hK hP hD hS 0 rfl rfl 2 (by decide) (hts _ wm_5_118) (fun _ h9 => h9) rfl (by decide +kernel) rfl rfl (Nat.le_of_ble_eq_true rfl) dX10_append_111 (fun H locs hP hD hS => ?_)
  have hP : va_P (zD E) vwCl (k_X10 E q0 (u0.1, (upd u0.2.1 u0.2.2.1.toNatClampNeg x_7), x_9, u0.2.2.2.1, u0.2.2.2.2.1, u0.2.2.2.2.2.1, u0.2.2.2.2.2.2.1, u0.2.2.2.2.2.2.2.1, u0.2.2.2.2.2.2.2.2.1, u0.2.2.2.2.2.2.2.2.2.1, u0.2.2.2.2.2.2.2.2.2.2.1, u0.2.2.2.2.2.2.2.2.2.2.2.1, u0.2.2.2.2.2.2.2.2.2.2.2.2.1, u0.2.2.2.2.2.2.2.2.2.2.2.2.2.1, u0.2.2.2.2.2.2.2.2.2.2.2.2.2.2.1, u0.2.2.2.2.2.2.2.2.2.2.2.2.2.2.2.1, u0.2.2.2.2.2.2.2.2.2.2.2.2.2.2.2.2.1, u0.2.2.2.2.2.2.2.2.2.2.2.2.2.2.2.2.2.1, u0.2.2.2.2.2.2.2.2.2.2.2.2.2.2.2.2.2.2.1, u0.2.2.2.2.2.2.2.2.2.2.2.2.2.2.2.2.2.2.2.1, u0.2.2.2.2.2.2.2.2.2.2.2.2.2.2.2.2.2.2.2.2.1, u0.2.2.2.2.2.2.2.2.2.2.2.2.2.2.2.2.2.2.2.2.2)) H := hP
  have hD : va_D A (k_X10 E q0 (u0.1, (upd u0.2.1 u0.2.2.1.toNatClampNeg x_7), x_9, u0.2.2.2.1, u0.2.2.2.2.1, u0.2.2.2.2.2.1, u0.2.2.2.2.2.2.1, u0.2.2.2.2.2.2.2.1, u0.2.2.2.2.2.2.2.2.1, u0.2.2.2.2.2.2.2.2.2.1, u0.2.2.2.2.2.2.2.2.2.2.1, u0.2.2.2.2.2.2.2.2.2.2.2.1, u0.2.2.2.2.2.2.2.2.2.2.2.2.1, u0.2.2.2.2.2.2.2.2.2.2.2.2.2.1, u0.2.2.2.2.2.2.2.2.2.2.2.2.2.2.1, u0.2.2.2.2.2.2.2.2.2.2.2.2.2.2.2.1, u0.2.2.2.2.2.2.2.2.2.2.2.2.2.2.2.2.1, u0.2.2.2.2.2.2.2.2.2.2.2.2.2.2.2.2.2.1, u0.2.2.2.2.2.2.2.2.2.2.2.2.2.2.2.2.2.2.1, u0.2.2.2.2.2.2.2.2.2.2.2.2.2.2.2.2.2.2.2.1, u0.2.2.2.2.2.2.2.2.2.2.2.2.2.2.2.2.2.2.2.2.1, u0.2.2.2.2.2.2.2.2.2.2.2.2.2.2.2.2.2.2.2.2.2)) := hD
  obtain ⟨x_10, ex_10⟩ : ∃ y : Int32, y = x6 + 1 := ⟨_, rfl⟩
  have hw := hw x_10 ex_10
  refine lv_iinc (v := x_10) (lv' := [(6, .int x_10), (7, .int y0), (0, .ref (q0 0)), (1, .int x1), (2, .int x2), (3, .int x3), (4, .int x4), (5, .int x5)]) hx hb dX10_append_114 hl (k := 7) rfl (by rw [ex_10]; rfl) (by decide) rfl (fun ls hl => ?_)
  refine lv_goto (tgt := 23) hx hb dX10_append_117 (by decide) ?_
  exact hk_23 x1 x2 x3 x4 x5 x_10 (u0.1, (upd u0.2.1 u0.2.2.1.toNatClampNeg x_7), x_9, u0.2.2.2.1, u0.2.2.2.2.1, u0.2.2.2.2.2.1, u0.2.2.2.2.2.2.1, u0.2.2.2.2.2.2.2.1, u0.2.2.2.2.2.2.2.2.1, u0.2.2.2.2.2.2.2.2.2.1, u0.2.2.2.2.2.2.2.2.2.2.1, u0.2.2.2.2.2.2.2.2.2.2.2.1, u0.2.2.2.2.2.2.2.2.2.2.2.2.1, u0.2.2.2.2.2.2.2.2.2.2.2.2.2.1, u0.2.2.2.2.2.2.2.2.2.2.2.2.2.2.1, u0.2.2.2.2.2.2.2.2.2.2.2.2.2.2.2.1, u0.2.2.2.2.2.2.2.2.2.2.2.2.2.2.2.2.1, u0.2.2.2.2.2.2.2.2.2.2.2.2.2.2.2.2.2.1, u0.2.2.2.2.2.2.2.2.2.2.2.2.2.2.2.2.2.2.1, u0.2.2.2.2.2.2.2.2.2.2.2.2.2.2.2.2.2.2.2.1, u0.2.2.2.2.2.2.2.2.2.2.2.2.2.2.2.2.2.2.2.2.1, u0.2.2.2.2.2.2.2.2.2.2.2.2.2.2.2.2.2.2.2.2.2) _ _ _ hw hP hD hS (lv_sub hl [2, 3, 4, 5, 6, 7, 0] rfl)
set_option maxHeartbeats 4000000 in
set_option maxRecDepth 100000 in
theorem t_X10_append_23 {p : Program} {l : Launch} {e : Env} {s : State} {m : MethodId} {args : Array Value} {below : List Frame} {meth : Method} {c : Code} {Z : zZ} {E : zE} {A : Nat → Prop} {q0 : Nat → Nat} (hZ0 : zSt Z) (C0 : zC p s m args meth c yX10_append cX10_append 8 (some .int)) (hA : ∀ q : Nat, s.heap.size ≤ q → A q) (hK : va_K (zD E) vwCl (zT E) s) (hZ : Z A s s.heap) (post : Int32 → S_X10 → Prop) : ∀ (n : Nat) (x1 : Int32) (x2 : Int32) (x3 : Int32) (x4 : Int32) (x5 : Int32) (x6 : Int32) (u0 : S_X10) (H : Heap) (locs : List Loc) (ls : Array Slot), zl (fun K st => j_X10_append_23 K st.1 st.2.1 st.2.2.1 st.2.2.2.1 st.2.2.2.2.1 st.2.2.2.2.2.1 st.2.2.2.2.2.2 post) n (x1, x2, x3, x4, x5, x6, u0) → va_P (zD E) vwCl (k_X10 E q0 u0) H → va_D A (k_X10 E q0 u0) → va_S A s.heap H locs → lv_has ls 8 [(0, .ref (q0 0)), (1, .int x1), (2, .int x2), (3, .int x3), (4, .int x4), (5, .int x5), (6, .int x6)] → W p l e r_X10_append s m args below meth c H locs 0 0 (MQ below (va_Qi post (zAt E A (fun u => k_X10 E q0 u)) A) args s 0 0 A) (F0 m 23 ls []) := by
  obtain ⟨hx, hb, hml, hr, hown, hts, hlocks, hin⟩ := id C0
  have hown : s.vm.findClass RX10 = some m.cls := hown
  intro n
  induction n with
  | zero => intro x1 x2 x3 x4 x5 x6 u0 H locs ls hw; exact hw.elim
  | succ n hk_23 =>
    intro x1 x2 x3 x4 x5 x6 u0 H locs ls hw hP hD hS hl
    have hw : j_X10_append_23 _ x1 x2 x3 x4 x5 x6 u0 post := hw
    refine lv_iload hx hb dX10_append_23 (lv_at hl 6 rfl) ?_
    refine lv_bipush (v := 20) hx hb dX10_append_25 rfl ?_
    obtain ⟨hwt, hwf⟩ := hw
    refine lv_icmp_ge (tgt := 120) hx hb dX10_append_27 (by decide) (fun c_2 => ?_) (fun c_2 => ?_)
    · have hw := hwt c_2
      refine lv_aload_n hx hb dX10_append_120 rfl (lv_at hl 0 rfl) ?_
      refine va_get (D := zD E) (ci := 10) (v := .int u0.2.2.1) (C := RX10) (T := TX10) (N := 24) hx hb hts uw_X10 hown hK hP 0 rfl rfl 2 (by decide) (hts _ wm_5_118) (fun _ h9 => h9) rfl dX10_append_121 ?_
      exact z_iret (k := (fun u => k_X10 E q0 u)) u0 C0 hP hD hS hw dX10_append_124
    · have hw := hwf c_2
      refine lv_iload hx hb dX10_append_30 (lv_at hl 6 rfl) ?_
      refine lv_iconst (v := 4) hx hb dX10_append_32 rfl ?_
      obtain ⟨hwt, hwf⟩ := hw
      refine lv_icmp_ge (tgt := 40) hx hb dX10_append_33 (by decide) (fun c_3 => ?_) (fun c_3 => ?_)
      · have hw := hwt c_3
        refine lv_iload hx hb dX10_append_40 (lv_at hl 6 rfl) ?_
        refine lv_bipush (v := 8) hx hb dX10_append_42 rfl ?_
        obtain ⟨hwt, hwf⟩ := hw
        refine lv_icmp_ge (tgt := 51) hx hb dX10_append_44 (by decide) (fun c_4 => ?_) (fun c_4 => ?_)
        · have hw := hwt c_4
          refine lv_iload hx hb dX10_append_51 (lv_at hl 6 rfl) ?_
          refine lv_bipush (v := 12) hx hb dX10_append_53 rfl ?_
          obtain ⟨hwt, hwf⟩ := hw
          refine lv_icmp_ge (tgt := 62) hx hb dX10_append_55 (by decide) (fun c_5 => ?_) (fun c_5 => ?_)
          · have hw := hwt c_5
            refine lv_iload hx hb dX10_append_62 (lv_at hl 6 rfl) ?_
            refine lv_bipush (v := 16) hx hb dX10_append_64 rfl ?_
            obtain ⟨hwt, hwf⟩ := hw
            refine lv_icmp_ge (tgt := 74) hx hb dX10_append_66 (by decide) (fun c_6 => ?_) (fun c_6 => ?_)
            · have hw := hwt c_6
              refine lv_iload hx hb dX10_append_74 (lv_at hl 5 rfl) ?_
              exact t_X10_append_76 (l := l) hZ0 C0 hA hK hZ post hk_23 x1 x2 x3 x4 x5 x6 x5 u0 _ _ _ hw hP hD hS (lv_sub hl [0, 1, 2, 3, 4, 5, 6] rfl)
            · have hw := hwf c_6
              refine lv_iload hx hb dX10_append_69 (lv_at hl 4 rfl) ?_
              refine lv_goto (tgt := 76) hx hb dX10_append_71 (by decide) ?_
              exact t_X10_append_76 (l := l) hZ0 C0 hA hK hZ post hk_23 x1 x2 x3 x4 x5 x6 x4 u0 _ _ _ hw hP hD hS (lv_sub hl [0, 1, 2, 3, 4, 5, 6] rfl)
          · have hw := hwf c_5
            refine lv_iload_n hx hb dX10_append_58 rfl (lv_at hl 3 rfl) ?_
            refine lv_goto (tgt := 76) hx hb dX10_append_59 (by decide) ?_
            exact t_X10_append_76 (l := l) hZ0 C0 hA hK hZ post hk_23 x1 x2 x3 x4 x5 x6 x3 u0 _ _ _ hw hP hD hS (lv_sub hl [0, 1, 2, 3, 4, 5, 6] rfl)
        · have hw := hwf c_4
          refine lv_iload_n hx hb dX10_append_47 rfl (lv_at hl 2 rfl) ?_
          refine lv_goto (tgt := 76) hx hb dX10_append_48 (by decide) ?_
          exact t_X10_append_76 (l := l) hZ0 C0 hA hK hZ post hk_23 x1 x2 x3 x4 x5 x6 x2 u0 _ _ _ hw hP hD hS (lv_sub hl [0, 1, 2, 3, 4, 5, 6] rfl)
      · have hw := hwf c_3
        refine lv_iload_n hx hb dX10_append_36 rfl (lv_at hl 1 rfl) ?_
        refine lv_goto (tgt := 76) hx hb dX10_append_37 (by decide) ?_
        exact t_X10_append_76 (l := l) hZ0 C0 hA hK hZ post hk_23 x1 x2 x3 x4 x5 x6 x1 u0 _ _ _ hw hP hD hS (lv_sub hl [0, 1, 2, 3, 4, 5, 6] rfl)
set_option maxHeartbeats 4000000 in
set_option maxRecDepth 100000 in
theorem c_X10_append (l : Launch) (E : zE) (Z : zZ) (hZ0 : zSt Z) (q0 : Nat → Nat) (sz : Nat) (u0 : S_X10) (p1 : Int32) (p2 : Int32) (p3 : Int32) (p4 : Int32) (p5 : Int32) (post : Int32 → S_X10 → Prop) (hw : wp_X10_append u0 p1 p2 p3 p4 p5 post) : Met l yX10_append (zws yX10_append cX10_append 8 (some .int)) r_X10_append (va_Pc [.ref (q0 0), .int p1, .int p2, .int p3, .int p4, .int p5] (zPre Z E (k_X10 E q0 u0) sz)) (va_Qi post (zAt E (va_A (k_X10 E q0 u0) sz) (fun u => k_X10 E q0 u)) (va_A (k_X10 E q0 u0) sz)) 0 0 (va_A (k_X10 E q0 u0) sz) := by
  refine z_ofW (Qf := fun A => va_Qi post (zAt E A (fun u => k_X10 E q0 u)) A) (by decide) (Nat.le_of_ble_eq_true rfl) ?_
  intro p e s m args below meth c A ls C0 hA hK hZ hP hD hS hl
  obtain ⟨hx, hb, hml, hr, hown, hts, hlocks, hin⟩ := id C0
  have hown : s.vm.findClass RX10 = some m.cls := hown
  have hl : lv_has ls 8 [(0, .ref (q0 0)), (1, .int p1), (2, .int p2), (3, .int p3), (4, .int p4), (5, .int p5)] := hl
  refine lv_aload_n hx hb dX10_append_0 rfl (lv_at hl 0 rfl) ?_
  refine lv_iconst (v := 0) hx hb dX10_append_1 rfl ?_
  refine va_put (D := zD E) (ci := 10) (v := .int (0 : Int32)) (ty := .int) (C := RX10) (T := TX10) (N := 24) hx hb hts uw_X10 tyX10 tyX10_ok nmX10 hown hK hP hD hS 0 rfl rfl 0 (by decide) (hts _ wm_5_116) (fun _ h9 => h9) rfl (by decide +kernel) rfl rfl (Nat.le_of_ble_eq_true rfl) dX10_append_2 (fun H locs hP hD hS => ?_)
  have hP : va_P (zD E) vwCl (k_X10 E q0 ((0 : Int32), u0.2.1, u0.2.2.1, u0.2.2.2.1, u0.2.2.2.2.1, u0.2.2.2.2.2.1, u0.2.2.2.2.2.2.1, u0.2.2.2.2.2.2.2.1, u0.2.2.2.2.2.2.2.2.1, u0.2.2.2.2.2.2.2.2.2.1, u0.2.2.2.2.2.2.2.2.2.2.1, u0.2.2.2.2.2.2.2.2.2.2.2.1, u0.2.2.2.2.2.2.2.2.2.2.2.2.1, u0.2.2.2.2.2.2.2.2.2.2.2.2.2.1, u0.2.2.2.2.2.2.2.2.2.2.2.2.2.2.1, u0.2.2.2.2.2.2.2.2.2.2.2.2.2.2.2.1, u0.2.2.2.2.2.2.2.2.2.2.2.2.2.2.2.2.1, u0.2.2.2.2.2.2.2.2.2.2.2.2.2.2.2.2.2.1, u0.2.2.2.2.2.2.2.2.2.2.2.2.2.2.2.2.2.2.1, u0.2.2.2.2.2.2.2.2.2.2.2.2.2.2.2.2.2.2.2.1, u0.2.2.2.2.2.2.2.2.2.2.2.2.2.2.2.2.2.2.2.2.1, u0.2.2.2.2.2.2.2.2.2.2.2.2.2.2.2.2.2.2.2.2.2)) H := hP
  have hD : va_D A (k_X10 E q0 ((0 : Int32), u0.2.1, u0.2.2.1, u0.2.2.2.1, u0.2.2.2.2.1, u0.2.2.2.2.2.1, u0.2.2.2.2.2.2.1, u0.2.2.2.2.2.2.2.1, u0.2.2.2.2.2.2.2.2.1, u0.2.2.2.2.2.2.2.2.2.1, u0.2.2.2.2.2.2.2.2.2.2.1, u0.2.2.2.2.2.2.2.2.2.2.2.1, u0.2.2.2.2.2.2.2.2.2.2.2.2.1, u0.2.2.2.2.2.2.2.2.2.2.2.2.2.1, u0.2.2.2.2.2.2.2.2.2.2.2.2.2.2.1, u0.2.2.2.2.2.2.2.2.2.2.2.2.2.2.2.1, u0.2.2.2.2.2.2.2.2.2.2.2.2.2.2.2.2.1, u0.2.2.2.2.2.2.2.2.2.2.2.2.2.2.2.2.2.1, u0.2.2.2.2.2.2.2.2.2.2.2.2.2.2.2.2.2.2.1, u0.2.2.2.2.2.2.2.2.2.2.2.2.2.2.2.2.2.2.2.1, u0.2.2.2.2.2.2.2.2.2.2.2.2.2.2.2.2.2.2.2.2.1, u0.2.2.2.2.2.2.2.2.2.2.2.2.2.2.2.2.2.2.2.2.2)) := hD
  refine lv_aload_n hx hb dX10_append_5 rfl (lv_at hl 0 rfl) ?_
  refine va_get (D := zD E) (ci := 10) (v := .int u0.2.2.1) (C := RX10) (T := TX10) (N := 24) hx hb hts uw_X10 hown hK hP 0 rfl rfl 2 (by decide) (hts _ wm_5_118) (fun _ h9 => h9) rfl dX10_append_6 ?_
  refine lv_bipush (v := 20) hx hb dX10_append_9 rfl ?_
  refine lv_iadd hx hb dX10_append_11 ?_
  refine lv_sipush (v := 800) hx hb dX10_append_12 rfl ?_
  obtain ⟨hwt, hwf⟩ := hw
  refine lv_icmp_le (tgt := 20) hx hb dX10_append_15 (by decide) (fun c_1 => ?_) (fun c_1 => ?_)
  · have hw := hwt c_1
    refine lv_iconst (v := 0) hx hb dX10_append_20 rfl ?_
    refine lv_istore (lv' := [(6, .int (0 : Int32)), (0, .ref (q0 0)), (1, .int p1), (2, .int p2), (3, .int p3), (4, .int p4), (5, .int p5)]) hx hb dX10_append_21 hl (by decide) rfl (fun ls hl => ?_)
    obtain ⟨n9, hw⟩ := hw
    exact t_X10_append_23 (l := l) hZ0 C0 hA hK hZ post n9 p1 p2 p3 p4 p5 (0 : Int32) ((0 : Int32), u0.2.1, u0.2.2.1, u0.2.2.2.1, u0.2.2.2.2.1, u0.2.2.2.2.2.1, u0.2.2.2.2.2.2.1, u0.2.2.2.2.2.2.2.1, u0.2.2.2.2.2.2.2.2.1, u0.2.2.2.2.2.2.2.2.2.1, u0.2.2.2.2.2.2.2.2.2.2.1, u0.2.2.2.2.2.2.2.2.2.2.2.1, u0.2.2.2.2.2.2.2.2.2.2.2.2.1, u0.2.2.2.2.2.2.2.2.2.2.2.2.2.1, u0.2.2.2.2.2.2.2.2.2.2.2.2.2.2.1, u0.2.2.2.2.2.2.2.2.2.2.2.2.2.2.2.1, u0.2.2.2.2.2.2.2.2.2.2.2.2.2.2.2.2.1, u0.2.2.2.2.2.2.2.2.2.2.2.2.2.2.2.2.2.1, u0.2.2.2.2.2.2.2.2.2.2.2.2.2.2.2.2.2.2.1, u0.2.2.2.2.2.2.2.2.2.2.2.2.2.2.2.2.2.2.2.1, u0.2.2.2.2.2.2.2.2.2.2.2.2.2.2.2.2.2.2.2.2.1, u0.2.2.2.2.2.2.2.2.2.2.2.2.2.2.2.2.2.2.2.2.2) _ _ _ hw hP hD hS (lv_sub hl [1, 2, 3, 4, 5, 6, 0] rfl)
  · have hw := hwf c_1
    refine lv_iconst (v := (-1)) hx hb dX10_append_18 rfl ?_
    exact z_iret (k := (fun u => k_X10 E q0 u)) ((0 : Int32), u0.2.1, u0.2.2.1, u0.2.2.2.1, u0.2.2.2.2.1, u0.2.2.2.2.2.1, u0.2.2.2.2.2.2.1, u0.2.2.2.2.2.2.2.1, u0.2.2.2.2.2.2.2.2.1, u0.2.2.2.2.2.2.2.2.2.1, u0.2.2.2.2.2.2.2.2.2.2.1, u0.2.2.2.2.2.2.2.2.2.2.2.1, u0.2.2.2.2.2.2.2.2.2.2.2.2.1, u0.2.2.2.2.2.2.2.2.2.2.2.2.2.1, u0.2.2.2.2.2.2.2.2.2.2.2.2.2.2.1, u0.2.2.2.2.2.2.2.2.2.2.2.2.2.2.2.1, u0.2.2.2.2.2.2.2.2.2.2.2.2.2.2.2.2.1, u0.2.2.2.2.2.2.2.2.2.2.2.2.2.2.2.2.2.1, u0.2.2.2.2.2.2.2.2.2.2.2.2.2.2.2.2.2.2.1, u0.2.2.2.2.2.2.2.2.2.2.2.2.2.2.2.2.2.2.2.1, u0.2.2.2.2.2.2.2.2.2.2.2.2.2.2.2.2.2.2.2.2.1, u0.2.2.2.2.2.2.2.2.2.2.2.2.2.2.2.2.2.2.2.2.2) C0 hP hD hS hw dX10_append_19
abbrev r_X10_byteAt : Room := { frames := 0, cells := 0, slots := 0, locals := 0 }
def wp_X10_byteAt (u0 : S_X10) (p1 : Int32) (post : Int32 → S_X10 → Prop) : Prop := (u0.2.2.2.1 ≤ p1 → (post (-1 : Int32) u0)) ∧ (¬ (u0.2.2.2.1 ≤ p1) → (vp_in p1 800 ∧ (post (u0.2.1 p1.toNatClampNeg) u0)))
set_option maxHeartbeats 4000000 in
set_option maxRecDepth 100000 in
theorem c_X10_byteAt (l : Launch) (E : zE) (Z : zZ) (hZ0 : zSt Z) (q0 : Nat → Nat) (sz : Nat) (u0 : S_X10) (p1 : Int32) (post : Int32 → S_X10 → Prop) (hw : wp_X10_byteAt u0 p1 post) : Met l yX10_byteAt (zws yX10_byteAt cX10_byteAt 2 (some .int)) r_X10_byteAt (va_Pc [.ref (q0 0), .int p1] (zPre Z E (k_X10 E q0 u0) sz)) (va_Qi post (zAt E (va_A (k_X10 E q0 u0) sz) (fun u => k_X10 E q0 u)) (va_A (k_X10 E q0 u0) sz)) 0 0 (va_A (k_X10 E q0 u0) sz) := by
  refine z_ofW (Qf := fun A => va_Qi post (zAt E A (fun u => k_X10 E q0 u)) A) (by decide) (Nat.le_of_ble_eq_true rfl) ?_
  intro p e s m args below meth c A ls C0 hA hK hZ hP hD hS hl
  obtain ⟨hx, hb, hml, hr, hown, hts, hlocks, hin⟩ := id C0
  have hown : s.vm.findClass RX10 = some m.cls := hown
  have hl : lv_has ls 2 [(0, .ref (q0 0)), (1, .int p1)] := hl
  refine lv_iload_n hx hb dX10_byteAt_0 rfl (lv_at hl 1 rfl) ?_
  refine lv_aload_n hx hb dX10_byteAt_1 rfl (lv_at hl 0 rfl) ?_
  refine va_get (D := zD E) (ci := 10) (v := .int u0.2.2.2.1) (C := RX10) (T := TX10) (N := 24) hx hb hts uw_X10 hown hK hP 0 rfl rfl 3 (by decide) (hts _ wm_5_119) (fun _ h9 => h9) rfl dX10_byteAt_2 ?_
  obtain ⟨hwt, hwf⟩ := hw
  refine lv_icmp_ge (tgt := 17) hx hb dX10_byteAt_5 (by decide) (fun c_1 => ?_) (fun c_1 => ?_)
  · have hw := hwt c_1
    refine lv_iconst (v := (-1)) hx hb dX10_byteAt_17 rfl ?_
    exact z_iret (k := (fun u => k_X10 E q0 u)) u0 C0 hP hD hS hw dX10_byteAt_18
  · have hw := hwf c_1
    refine lv_aload_n hx hb dX10_byteAt_8 rfl (lv_at hl 0 rfl) ?_
    refine va_get (D := zD E) (ci := 10) (v := .ref (q0 1)) (C := RX10) (T := TX10) (N := 24) hx hb hts uw_X10 hown hK hP 0 rfl rfl 1 (by decide) (hts _ wm_5_117) (fun _ h9 => h9) rfl dX10_byteAt_9 ?_
    refine lv_iload_n hx hb dX10_byteAt_12 rfl (lv_at hl 1 rfl) ?_
    obtain ⟨h_2, hw⟩ := hw
    refine va_iald hx hb hK hP 1 0 rfl rfl h_2 dX10_byteAt_13 ?_
    refine lv_goto (tgt := 18) hx hb dX10_byteAt_14 (by decide) ?_
    exact z_iret (k := (fun u => k_X10 E q0 u)) u0 C0 hP hD hS hw dX10_byteAt_18
abbrev r_X10_next : Room := { frames := 1, cells := 0, slots := 0, locals := 21 }
def j_X10_next_0 (K0 : S_X10 → Prop) (u0 : S_X10) (post : Int32 → S_X10 → Prop) : Prop := wp_X10_byteAt u0 u0.2.2.2.2.1 (fun r_2 u_1 => (¬ (r_2 = (32 : Int32)) → (wp_X10_byteAt u_1 u_1.2.2.2.2.1 (fun r_5 u_4 => post r_5 u_4))) ∧ (r_2 = (32 : Int32) → (∀ x_6 : Int32, x_6 = (u_1.2.2.2.2.1 + (1 : Int32)) → (K0 (u_1.1, u_1.2.1, u_1.2.2.1, u_1.2.2.2.1, x_6, u_1.2.2.2.2.2.1, u_1.2.2.2.2.2.2.1, u_1.2.2.2.2.2.2.2.1, u_1.2.2.2.2.2.2.2.2.1, u_1.2.2.2.2.2.2.2.2.2.1, u_1.2.2.2.2.2.2.2.2.2.2.1, u_1.2.2.2.2.2.2.2.2.2.2.2.1, u_1.2.2.2.2.2.2.2.2.2.2.2.2.1, u_1.2.2.2.2.2.2.2.2.2.2.2.2.2.1, u_1.2.2.2.2.2.2.2.2.2.2.2.2.2.2.1, u_1.2.2.2.2.2.2.2.2.2.2.2.2.2.2.2.1, u_1.2.2.2.2.2.2.2.2.2.2.2.2.2.2.2.2.1, u_1.2.2.2.2.2.2.2.2.2.2.2.2.2.2.2.2.2.1, u_1.2.2.2.2.2.2.2.2.2.2.2.2.2.2.2.2.2.2.1, u_1.2.2.2.2.2.2.2.2.2.2.2.2.2.2.2.2.2.2.2.1, u_1.2.2.2.2.2.2.2.2.2.2.2.2.2.2.2.2.2.2.2.2.1, u_1.2.2.2.2.2.2.2.2.2.2.2.2.2.2.2.2.2.2.2.2.2)))))
def wp_X10_next (u0 : S_X10) (post : Int32 → S_X10 → Prop) : Prop := ∃ n, zl (fun K st => j_X10_next_0 K st post) n u0
set_option maxHeartbeats 4000000 in
set_option maxRecDepth 100000 in
theorem t_X10_next_0 {p : Program} {l : Launch} {e : Env} {s : State} {m : MethodId} {args : Array Value} {below : List Frame} {meth : Method} {c : Code} {Z : zZ} {E : zE} {A : Nat → Prop} {q0 : Nat → Nat} (hZ0 : zSt Z) (C0 : zC p s m args meth c yX10_next cX10_next 1 (some .int)) (hA : ∀ q : Nat, s.heap.size ≤ q → A q) (hK : va_K (zD E) vwCl (zT E) s) (hZ : Z A s s.heap) (post : Int32 → S_X10 → Prop) : ∀ (n : Nat) (u0 : S_X10) (H : Heap) (locs : List Loc) (ls : Array Slot), zl (fun K st => j_X10_next_0 K st post) n u0 → va_P (zD E) vwCl (k_X10 E q0 u0) H → va_D A (k_X10 E q0 u0) → va_S A s.heap H locs → lv_has ls 1 [(0, .ref (q0 0))] → W p l e r_X10_next s m args below meth c H locs 0 0 (MQ below (va_Qi post (zAt E A (fun u => k_X10 E q0 u)) A) args s 0 0 A) (F0 m 0 ls []) := by
  obtain ⟨hx, hb, hml, hr, hown, hts, hlocks, hin⟩ := id C0
  have hown : s.vm.findClass RX10 = some m.cls := hown
  intro n
  induction n with
  | zero => intro u0 H locs ls hw; exact hw.elim
  | succ n hk_0 =>
    intro u0 H locs ls hw hP hD hS hl
    have hw : j_X10_next_0 _ u0 post := hw
    refine lv_aload_n hx hb dX10_next_0 rfl (lv_at hl 0 rfl) ?_
    refine lv_aload_n hx hb dX10_next_1 rfl (lv_at hl 0 rfl) ?_
    refine va_get (D := zD E) (ci := 10) (v := .int u0.2.2.2.2.1) (C := RX10) (T := TX10) (N := 24) hx hb hts uw_X10 hown hK hP 0 rfl rfl 4 (by decide) (hts _ wm_5_120) (fun _ h9 => h9) rfl dX10_next_2 ?_
    refine z_ki (z_rV (rest := []) hZ0 C0 hK hZ hA hP hD hS hl.1 (c_X10_byteAt l E Z hZ0 q0 H.size u0 u0.2.2.2.2.1 _ hw) yv_X10_64 [0, 1, 2, 3, 4, 5, 6, 7, 8, 9] rfl (by decide) (ci := 10) rfl rfl 0 rfl ⟨Nat.le_of_ble_eq_true rfl, Nat.le_of_ble_eq_true rfl⟩ ⟨rfl, rfl⟩ rfl rfl (Nat.le_of_ble_eq_true rfl) ⟨Nat.le_of_ble_eq_true rfl, Nat.le_of_ble_eq_true rfl⟩ dX10_next_5) hP hD hS hA [0, 1, 2, 3, 4, 5, 6, 7, 8, 9] [] [0, 1, 2, 3, 4, 5, 6, 7, 8, 9] rfl (wr := []) rfl (by decide) (by decide) (fun u => k_X10 E q0 u) (fun u => rfl) (by decide) (fun r_2 u_1 H locs hw hP hD hS => ?_)
    refine lv_bipush (v := 32) hx hb dX10_next_8 rfl ?_
    obtain ⟨hwt, hwf⟩ := hw
    refine lv_icmp_ne (tgt := 26) hx hb dX10_next_10 (by decide) (fun c_3 => ?_) (fun c_3 => ?_)
    · have hw := hwt c_3
      refine lv_aload_n hx hb dX10_next_26 rfl (lv_at hl 0 rfl) ?_
      refine lv_aload_n hx hb dX10_next_27 rfl (lv_at hl 0 rfl) ?_
      refine va_get (D := zD E) (ci := 10) (v := .int u_1.2.2.2.2.1) (C := RX10) (T := TX10) (N := 24) hx hb hts uw_X10 hown hK hP 0 rfl rfl 4 (by decide) (hts _ wm_5_120) (fun _ h9 => h9) rfl dX10_next_28 ?_
      refine z_ki (z_rV (rest := []) hZ0 C0 hK hZ hA hP hD hS hl.1 (c_X10_byteAt l E Z hZ0 q0 H.size u_1 u_1.2.2.2.2.1 _ hw) yv_X10_64 [0, 1, 2, 3, 4, 5, 6, 7, 8, 9] rfl (by decide) (ci := 10) rfl rfl 0 rfl ⟨Nat.le_of_ble_eq_true rfl, Nat.le_of_ble_eq_true rfl⟩ ⟨rfl, rfl⟩ rfl rfl (Nat.le_of_ble_eq_true rfl) ⟨Nat.le_of_ble_eq_true rfl, Nat.le_of_ble_eq_true rfl⟩ dX10_next_31) hP hD hS hA [0, 1, 2, 3, 4, 5, 6, 7, 8, 9] [] [0, 1, 2, 3, 4, 5, 6, 7, 8, 9] rfl (wr := []) rfl (by decide) (by decide) (fun u => k_X10 E q0 u) (fun u => rfl) (by decide) (fun r_5 u_4 H locs hw hP hD hS => ?_)
      exact z_iret (k := (fun u => k_X10 E q0 u)) u_4 C0 hP hD hS hw dX10_next_34
    · have hw := hwf c_3
      refine lv_aload_n hx hb dX10_next_13 rfl (lv_at hl 0 rfl) ?_
      refine lv_dup hx hb dX10_next_14 rfl ?_
      refine va_get (D := zD E) (ci := 10) (v := .int u_1.2.2.2.2.1) (C := RX10) (T := TX10) (N := 24) hx hb hts uw_X10 hown hK hP 0 rfl rfl 4 (by decide) (hts _ wm_5_120) (fun _ h9 => h9) rfl dX10_next_15 ?_
      refine lv_iconst (v := 1) hx hb dX10_next_18 rfl ?_
      refine lv_iadd hx hb dX10_next_19 ?_
      refine lv_topi (fun x_6 ex_6 => ?_)
      have hw := hw x_6 ex_6
      refine va_put (D := zD E) (ci := 10) (v := .int x_6) (ty := .int) (C := RX10) (T := TX10) (N := 24) hx hb hts uw_X10 tyX10 tyX10_ok nmX10 hown hK hP hD hS 0 rfl rfl 4 (by decide) (hts _ wm_5_120) (fun _ h9 => h9) rfl (by decide +kernel) rfl rfl (Nat.le_of_ble_eq_true rfl) dX10_next_20 (fun H locs hP hD hS => ?_)
      have hP : va_P (zD E) vwCl (k_X10 E q0 (u_1.1, u_1.2.1, u_1.2.2.1, u_1.2.2.2.1, x_6, u_1.2.2.2.2.2.1, u_1.2.2.2.2.2.2.1, u_1.2.2.2.2.2.2.2.1, u_1.2.2.2.2.2.2.2.2.1, u_1.2.2.2.2.2.2.2.2.2.1, u_1.2.2.2.2.2.2.2.2.2.2.1, u_1.2.2.2.2.2.2.2.2.2.2.2.1, u_1.2.2.2.2.2.2.2.2.2.2.2.2.1, u_1.2.2.2.2.2.2.2.2.2.2.2.2.2.1, u_1.2.2.2.2.2.2.2.2.2.2.2.2.2.2.1, u_1.2.2.2.2.2.2.2.2.2.2.2.2.2.2.2.1, u_1.2.2.2.2.2.2.2.2.2.2.2.2.2.2.2.2.1, u_1.2.2.2.2.2.2.2.2.2.2.2.2.2.2.2.2.2.1, u_1.2.2.2.2.2.2.2.2.2.2.2.2.2.2.2.2.2.2.1, u_1.2.2.2.2.2.2.2.2.2.2.2.2.2.2.2.2.2.2.2.1, u_1.2.2.2.2.2.2.2.2.2.2.2.2.2.2.2.2.2.2.2.2.1, u_1.2.2.2.2.2.2.2.2.2.2.2.2.2.2.2.2.2.2.2.2.2)) H := hP
      have hD : va_D A (k_X10 E q0 (u_1.1, u_1.2.1, u_1.2.2.1, u_1.2.2.2.1, x_6, u_1.2.2.2.2.2.1, u_1.2.2.2.2.2.2.1, u_1.2.2.2.2.2.2.2.1, u_1.2.2.2.2.2.2.2.2.1, u_1.2.2.2.2.2.2.2.2.2.1, u_1.2.2.2.2.2.2.2.2.2.2.1, u_1.2.2.2.2.2.2.2.2.2.2.2.1, u_1.2.2.2.2.2.2.2.2.2.2.2.2.1, u_1.2.2.2.2.2.2.2.2.2.2.2.2.2.1, u_1.2.2.2.2.2.2.2.2.2.2.2.2.2.2.1, u_1.2.2.2.2.2.2.2.2.2.2.2.2.2.2.2.1, u_1.2.2.2.2.2.2.2.2.2.2.2.2.2.2.2.2.1, u_1.2.2.2.2.2.2.2.2.2.2.2.2.2.2.2.2.2.1, u_1.2.2.2.2.2.2.2.2.2.2.2.2.2.2.2.2.2.2.1, u_1.2.2.2.2.2.2.2.2.2.2.2.2.2.2.2.2.2.2.2.1, u_1.2.2.2.2.2.2.2.2.2.2.2.2.2.2.2.2.2.2.2.2.1, u_1.2.2.2.2.2.2.2.2.2.2.2.2.2.2.2.2.2.2.2.2.2)) := hD
      refine lv_goto (tgt := 0) hx hb dX10_next_23 (by decide) ?_
      exact hk_0 (u_1.1, u_1.2.1, u_1.2.2.1, u_1.2.2.2.1, x_6, u_1.2.2.2.2.2.1, u_1.2.2.2.2.2.2.1, u_1.2.2.2.2.2.2.2.1, u_1.2.2.2.2.2.2.2.2.1, u_1.2.2.2.2.2.2.2.2.2.1, u_1.2.2.2.2.2.2.2.2.2.2.1, u_1.2.2.2.2.2.2.2.2.2.2.2.1, u_1.2.2.2.2.2.2.2.2.2.2.2.2.1, u_1.2.2.2.2.2.2.2.2.2.2.2.2.2.1, u_1.2.2.2.2.2.2.2.2.2.2.2.2.2.2.1, u_1.2.2.2.2.2.2.2.2.2.2.2.2.2.2.2.1, u_1.2.2.2.2.2.2.2.2.2.2.2.2.2.2.2.2.1, u_1.2.2.2.2.2.2.2.2.2.2.2.2.2.2.2.2.2.1, u_1.2.2.2.2.2.2.2.2.2.2.2.2.2.2.2.2.2.2.1, u_1.2.2.2.2.2.2.2.2.2.2.2.2.2.2.2.2.2.2.2.1, u_1.2.2.2.2.2.2.2.2.2.2.2.2.2.2.2.2.2.2.2.2.1, u_1.2.2.2.2.2.2.2.2.2.2.2.2.2.2.2.2.2.2.2.2.2) _ _ _ hw hP hD hS (lv_sub hl [0] rfl)
set_option maxHeartbeats 4000000 in
set_option maxRecDepth 100000 in
theorem c_X10_next (l : Launch) (E : zE) (Z : zZ) (hZ0 : zSt Z) (q0 : Nat → Nat) (sz : Nat) (u0 : S_X10) (post : Int32 → S_X10 → Prop) (hw : wp_X10_next u0 post) : Met l yX10_next (zws yX10_next cX10_next 1 (some .int)) r_X10_next (va_Pc [.ref (q0 0)] (zPre Z E (k_X10 E q0 u0) sz)) (va_Qi post (zAt E (va_A (k_X10 E q0 u0) sz) (fun u => k_X10 E q0 u)) (va_A (k_X10 E q0 u0) sz)) 0 0 (va_A (k_X10 E q0 u0) sz) := by
  refine z_ofW (Qf := fun A => va_Qi post (zAt E A (fun u => k_X10 E q0 u)) A) (by decide) (Nat.le_of_ble_eq_true rfl) ?_
  intro p e s m args below meth c A ls C0 hA hK hZ hP hD hS hl
  obtain ⟨hx, hb, hml, hr, hown, hts, hlocks, hin⟩ := id C0
  have hown : s.vm.findClass RX10 = some m.cls := hown
  have hl : lv_has ls 1 [(0, .ref (q0 0))] := hl
  obtain ⟨n9, hw⟩ := hw
  exact t_X10_next_0 (l := l) hZ0 C0 hA hK hZ post n9 u0 _ _ _ hw hP hD hS (lv_sub hl [0] rfl)
abbrev r_X10_isGood : Room := { frames := 0, cells := 0, slots := 0, locals := 0 }
def wp_X10_isGood (u0 : S_X10) (post : Int32 → S_X10 → Prop) : Prop := (¬ (u0.2.2.2.2.2.1 = 0) → (post (0 : Int32) u0)) ∧ (u0.2.2.2.2.2.1 = 0 → (post (1 : Int32) u0))
set_option maxHeartbeats 4000000 in
set_option maxRecDepth 100000 in
theorem c_X10_isGood (l : Launch) (E : zE) (Z : zZ) (hZ0 : zSt Z) (q0 : Nat → Nat) (sz : Nat) (u0 : S_X10) (post : Int32 → S_X10 → Prop) (hw : wp_X10_isGood u0 post) : Met l yX10_isGood (zws yX10_isGood cX10_isGood 1 (some .boolean)) r_X10_isGood (va_Pc [.ref (q0 0)] (zPre Z E (k_X10 E q0 u0) sz)) (va_Qi post (zAt E (va_A (k_X10 E q0 u0) sz) (fun u => k_X10 E q0 u)) (va_A (k_X10 E q0 u0) sz)) 0 0 (va_A (k_X10 E q0 u0) sz) := by
  refine z_ofW (Qf := fun A => va_Qi post (zAt E A (fun u => k_X10 E q0 u)) A) (by decide) (Nat.le_of_ble_eq_true rfl) ?_
  intro p e s m args below meth c A ls C0 hA hK hZ hP hD hS hl
  obtain ⟨hx, hb, hml, hr, hown, hts, hlocks, hin⟩ := id C0
  have hown : s.vm.findClass RX10 = some m.cls := hown
  have hl : lv_has ls 1 [(0, .ref (q0 0))] := hl
  refine lv_aload_n hx hb dX10_isGood_0 rfl (lv_at hl 0 rfl) ?_
  refine va_get (D := zD E) (ci := 10) (v := .int u0.2.2.2.2.2.1) (C := RX10) (T := TX10) (N := 24) hx hb hts uw_X10 hown hK hP 0 rfl rfl 5 (by decide) (hts _ wm_5_121) (fun _ h9 => h9) rfl dX10_isGood_1 ?_
  obtain ⟨hwt, hwf⟩ := hw
  refine lv_if_ne (tgt := 11) hx hb dX10_isGood_4 (by decide) (fun c_1 => ?_) (fun c_1 => ?_)
  · have hw := hwt c_1
    refine lv_iconst (v := 0) hx hb dX10_isGood_11 rfl ?_
    exact z_zret (k := (fun u => k_X10 E q0 u)) u0 C0 rfl hP hD hS hw dX10_isGood_12
  · have hw := hwf c_1
    refine lv_iconst (v := 1) hx hb dX10_isGood_7 rfl ?_
    refine lv_goto (tgt := 12) hx hb dX10_isGood_8 (by decide) ?_
    exact z_zret (k := (fun u => k_X10 E q0 u)) u0 C0 rfl hP hD hS hw dX10_isGood_12
abbrev r_X10_report : Room := { frames := 0, cells := 0, slots := 0, locals := 0 }
def wp_X10_report (u0 : S_X10) (p1 : Int32) (p2 : Int32) (post : S_X10 → Prop) : Prop := (u0.2.2.2.2.2.1 = 0 → (post (u0.1, u0.2.1, u0.2.2.1, u0.2.2.2.1, u0.2.2.2.2.1, p1, p2, u0.2.2.2.2.2.2.2.1, u0.2.2.2.2.2.2.2.2.1, u0.2.2.2.2.2.2.2.2.2.1, u0.2.2.2.2.2.2.2.2.2.2.1, u0.2.2.2.2.2.2.2.2.2.2.2.1, u0.2.2.2.2.2.2.2.2.2.2.2.2.1, u0.2.2.2.2.2.2.2.2.2.2.2.2.2.1, u0.2.2.2.2.2.2.2.2.2.2.2.2.2.2.1, u0.2.2.2.2.2.2.2.2.2.2.2.2.2.2.2.1, u0.2.2.2.2.2.2.2.2.2.2.2.2.2.2.2.2.1, u0.2.2.2.2.2.2.2.2.2.2.2.2.2.2.2.2.2.1, u0.2.2.2.2.2.2.2.2.2.2.2.2.2.2.2.2.2.2.1, u0.2.2.2.2.2.2.2.2.2.2.2.2.2.2.2.2.2.2.2.1, u0.2.2.2.2.2.2.2.2.2.2.2.2.2.2.2.2.2.2.2.2.1, u0.2.2.2.2.2.2.2.2.2.2.2.2.2.2.2.2.2.2.2.2.2))) ∧ (¬ (u0.2.2.2.2.2.1 = 0) → (post u0))
set_option maxHeartbeats 4000000 in
set_option maxRecDepth 100000 in
theorem c_X10_report (l : Launch) (E : zE) (Z : zZ) (hZ0 : zSt Z) (q0 : Nat → Nat) (sz : Nat) (u0 : S_X10) (p1 : Int32) (p2 : Int32) (post : S_X10 → Prop) (hw : wp_X10_report u0 p1 p2 post) : Met l yX10_report (zws yX10_report cX10_report 3 none) r_X10_report (va_Pc [.ref (q0 0), .int p1, .int p2] (zPre Z E (k_X10 E q0 u0) sz)) (va_Qv post (zAt E (va_A (k_X10 E q0 u0) sz) (fun u => k_X10 E q0 u)) (va_A (k_X10 E q0 u0) sz)) 0 0 (va_A (k_X10 E q0 u0) sz) := by
  refine z_ofW (Qf := fun A => va_Qv post (zAt E A (fun u => k_X10 E q0 u)) A) (by decide) (Nat.le_of_ble_eq_true rfl) ?_
  intro p e s m args below meth c A ls C0 hA hK hZ hP hD hS hl
  obtain ⟨hx, hb, hml, hr, hown, hts, hlocks, hin⟩ := id C0
  have hown : s.vm.findClass RX10 = some m.cls := hown
  have hl : lv_has ls 3 [(0, .ref (q0 0)), (1, .int p1), (2, .int p2)] := hl
  refine lv_aload_n hx hb dX10_report_0 rfl (lv_at hl 0 rfl) ?_
  refine va_get (D := zD E) (ci := 10) (v := .int u0.2.2.2.2.2.1) (C := RX10) (T := TX10) (N := 24) hx hb hts uw_X10 hown hK hP 0 rfl rfl 5 (by decide) (hts _ wm_5_121) (fun _ h9 => h9) rfl dX10_report_1 ?_
  obtain ⟨hwt, hwf⟩ := hw
  refine lv_if_eq (tgt := 8) hx hb dX10_report_4 (by decide) (fun c_1 => ?_) (fun c_1 => ?_)
  · have hw := hwt c_1
    refine lv_aload_n hx hb dX10_report_8 rfl (lv_at hl 0 rfl) ?_
    refine lv_iload_n hx hb dX10_report_9 rfl (lv_at hl 1 rfl) ?_
    refine va_put (D := zD E) (ci := 10) (v := .int p1) (ty := .int) (C := RX10) (T := TX10) (N := 24) hx hb hts uw_X10 tyX10 tyX10_ok nmX10 hown hK hP hD hS 0 rfl rfl 5 (by decide) (hts _ wm_5_121) (fun _ h9 => h9) rfl (by decide +kernel) rfl rfl (Nat.le_of_ble_eq_true rfl) dX10_report_10 (fun H locs hP hD hS => ?_)
    have hP : va_P (zD E) vwCl (k_X10 E q0 (u0.1, u0.2.1, u0.2.2.1, u0.2.2.2.1, u0.2.2.2.2.1, p1, u0.2.2.2.2.2.2.1, u0.2.2.2.2.2.2.2.1, u0.2.2.2.2.2.2.2.2.1, u0.2.2.2.2.2.2.2.2.2.1, u0.2.2.2.2.2.2.2.2.2.2.1, u0.2.2.2.2.2.2.2.2.2.2.2.1, u0.2.2.2.2.2.2.2.2.2.2.2.2.1, u0.2.2.2.2.2.2.2.2.2.2.2.2.2.1, u0.2.2.2.2.2.2.2.2.2.2.2.2.2.2.1, u0.2.2.2.2.2.2.2.2.2.2.2.2.2.2.2.1, u0.2.2.2.2.2.2.2.2.2.2.2.2.2.2.2.2.1, u0.2.2.2.2.2.2.2.2.2.2.2.2.2.2.2.2.2.1, u0.2.2.2.2.2.2.2.2.2.2.2.2.2.2.2.2.2.2.1, u0.2.2.2.2.2.2.2.2.2.2.2.2.2.2.2.2.2.2.2.1, u0.2.2.2.2.2.2.2.2.2.2.2.2.2.2.2.2.2.2.2.2.1, u0.2.2.2.2.2.2.2.2.2.2.2.2.2.2.2.2.2.2.2.2.2)) H := hP
    have hD : va_D A (k_X10 E q0 (u0.1, u0.2.1, u0.2.2.1, u0.2.2.2.1, u0.2.2.2.2.1, p1, u0.2.2.2.2.2.2.1, u0.2.2.2.2.2.2.2.1, u0.2.2.2.2.2.2.2.2.1, u0.2.2.2.2.2.2.2.2.2.1, u0.2.2.2.2.2.2.2.2.2.2.1, u0.2.2.2.2.2.2.2.2.2.2.2.1, u0.2.2.2.2.2.2.2.2.2.2.2.2.1, u0.2.2.2.2.2.2.2.2.2.2.2.2.2.1, u0.2.2.2.2.2.2.2.2.2.2.2.2.2.2.1, u0.2.2.2.2.2.2.2.2.2.2.2.2.2.2.2.1, u0.2.2.2.2.2.2.2.2.2.2.2.2.2.2.2.2.1, u0.2.2.2.2.2.2.2.2.2.2.2.2.2.2.2.2.2.1, u0.2.2.2.2.2.2.2.2.2.2.2.2.2.2.2.2.2.2.1, u0.2.2.2.2.2.2.2.2.2.2.2.2.2.2.2.2.2.2.2.1, u0.2.2.2.2.2.2.2.2.2.2.2.2.2.2.2.2.2.2.2.2.1, u0.2.2.2.2.2.2.2.2.2.2.2.2.2.2.2.2.2.2.2.2.2)) := hD
    refine lv_aload_n hx hb dX10_report_13 rfl (lv_at hl 0 rfl) ?_
    refine lv_iload_n hx hb dX10_report_14 rfl (lv_at hl 2 rfl) ?_
    refine va_put (D := zD E) (ci := 10) (v := .int p2) (ty := .int) (C := RX10) (T := TX10) (N := 24) hx hb hts uw_X10 tyX10 tyX10_ok nmX10 hown hK hP hD hS 0 rfl rfl 6 (by decide) (hts _ wm_5_122) (fun _ h9 => h9) rfl (by decide +kernel) rfl rfl (Nat.le_of_ble_eq_true rfl) dX10_report_15 (fun H locs hP hD hS => ?_)
    have hP : va_P (zD E) vwCl (k_X10 E q0 (u0.1, u0.2.1, u0.2.2.1, u0.2.2.2.1, u0.2.2.2.2.1, p1, p2, u0.2.2.2.2.2.2.2.1, u0.2.2.2.2.2.2.2.2.1, u0.2.2.2.2.2.2.2.2.2.1, u0.2.2.2.2.2.2.2.2.2.2.1, u0.2.2.2.2.2.2.2.2.2.2.2.1, u0.2.2.2.2.2.2.2.2.2.2.2.2.1, u0.2.2.2.2.2.2.2.2.2.2.2.2.2.1, u0.2.2.2.2.2.2.2.2.2.2.2.2.2.2.1, u0.2.2.2.2.2.2.2.2.2.2.2.2.2.2.2.1, u0.2.2.2.2.2.2.2.2.2.2.2.2.2.2.2.2.1, u0.2.2.2.2.2.2.2.2.2.2.2.2.2.2.2.2.2.1, u0.2.2.2.2.2.2.2.2.2.2.2.2.2.2.2.2.2.2.1, u0.2.2.2.2.2.2.2.2.2.2.2.2.2.2.2.2.2.2.2.1, u0.2.2.2.2.2.2.2.2.2.2.2.2.2.2.2.2.2.2.2.2.1, u0.2.2.2.2.2.2.2.2.2.2.2.2.2.2.2.2.2.2.2.2.2)) H := hP
    have hD : va_D A (k_X10 E q0 (u0.1, u0.2.1, u0.2.2.1, u0.2.2.2.1, u0.2.2.2.2.1, p1, p2, u0.2.2.2.2.2.2.2.1, u0.2.2.2.2.2.2.2.2.1, u0.2.2.2.2.2.2.2.2.2.1, u0.2.2.2.2.2.2.2.2.2.2.1, u0.2.2.2.2.2.2.2.2.2.2.2.1, u0.2.2.2.2.2.2.2.2.2.2.2.2.1, u0.2.2.2.2.2.2.2.2.2.2.2.2.2.1, u0.2.2.2.2.2.2.2.2.2.2.2.2.2.2.1, u0.2.2.2.2.2.2.2.2.2.2.2.2.2.2.2.1, u0.2.2.2.2.2.2.2.2.2.2.2.2.2.2.2.2.1, u0.2.2.2.2.2.2.2.2.2.2.2.2.2.2.2.2.2.1, u0.2.2.2.2.2.2.2.2.2.2.2.2.2.2.2.2.2.2.1, u0.2.2.2.2.2.2.2.2.2.2.2.2.2.2.2.2.2.2.2.1, u0.2.2.2.2.2.2.2.2.2.2.2.2.2.2.2.2.2.2.2.2.1, u0.2.2.2.2.2.2.2.2.2.2.2.2.2.2.2.2.2.2.2.2.2)) := hD
    exact z_vret (k := (fun u => k_X10 E q0 u)) (u0.1, u0.2.1, u0.2.2.1, u0.2.2.2.1, u0.2.2.2.2.1, p1, p2, u0.2.2.2.2.2.2.2.1, u0.2.2.2.2.2.2.2.2.1, u0.2.2.2.2.2.2.2.2.2.1, u0.2.2.2.2.2.2.2.2.2.2.1, u0.2.2.2.2.2.2.2.2.2.2.2.1, u0.2.2.2.2.2.2.2.2.2.2.2.2.1, u0.2.2.2.2.2.2.2.2.2.2.2.2.2.1, u0.2.2.2.2.2.2.2.2.2.2.2.2.2.2.1, u0.2.2.2.2.2.2.2.2.2.2.2.2.2.2.2.1, u0.2.2.2.2.2.2.2.2.2.2.2.2.2.2.2.2.1, u0.2.2.2.2.2.2.2.2.2.2.2.2.2.2.2.2.2.1, u0.2.2.2.2.2.2.2.2.2.2.2.2.2.2.2.2.2.2.1, u0.2.2.2.2.2.2.2.2.2.2.2.2.2.2.2.2.2.2.2.1, u0.2.2.2.2.2.2.2.2.2.2.2.2.2.2.2.2.2.2.2.2.1, u0.2.2.2.2.2.2.2.2.2.2.2.2.2.2.2.2.2.2.2.2.2) C0 hP hD hS hw dX10_report_18
  · have hw := hwf c_1
    exact z_vret (k := (fun u => k_X10 E q0 u)) u0 C0 hP hD hS hw dX10_report_7
abbrev r_X10_expect : Room := { frames := 2, cells := 0, slots := 0, locals := 41 }
def wp_X10_expect (u0 : S_X10) (p1 : Int32) (post : S_X10 → Prop) : Prop := wp_X10_isGood u0 (fun r_2 u_1 => (¬ (r_2 = 0) → (wp_X10_next u_1 (fun r_5 u_4 => (¬ (r_5 = p1) → (wp_X10_report u_4 (-2 : Int32) u_4.2.2.2.2.1 (fun u_7 => post u_7))) ∧ (r_5 = p1 → (∀ x_9 : Int32, x_9 = (u_4.2.2.2.2.1 + (1 : Int32)) → (post (u_4.1, u_4.2.1, u_4.2.2.1, u_4.2.2.2.1, x_9, u_4.2.2.2.2.2.1, u_4.2.2.2.2.2.2.1, u_4.2.2.2.2.2.2.2.1, u_4.2.2.2.2.2.2.2.2.1, u_4.2.2.2.2.2.2.2.2.2.1, u_4.2.2.2.2.2.2.2.2.2.2.1, u_4.2.2.2.2.2.2.2.2.2.2.2.1, u_4.2.2.2.2.2.2.2.2.2.2.2.2.1, u_4.2.2.2.2.2.2.2.2.2.2.2.2.2.1, u_4.2.2.2.2.2.2.2.2.2.2.2.2.2.2.1, u_4.2.2.2.2.2.2.2.2.2.2.2.2.2.2.2.1, u_4.2.2.2.2.2.2.2.2.2.2.2.2.2.2.2.2.1, u_4.2.2.2.2.2.2.2.2.2.2.2.2.2.2.2.2.2.1, u_4.2.2.2.2.2.2.2.2.2.2.2.2.2.2.2.2.2.2.1, u_4.2.2.2.2.2.2.2.2.2.2.2.2.2.2.2.2.2.2.2.1, u_4.2.2.2.2.2.2.2.2.2.2.2.2.2.2.2.2.2.2.2.2.1, u_4.2.2.2.2.2.2.2.2.2.2.2.2.2.2.2.2.2.2.2.2.2))))))) ∧ (r_2 = 0 → (post u_1)))
set_option maxHeartbeats 4000000 in
set_option maxRecDepth 100000 in
theorem c_X10_expect (l : Launch) (E : zE) (Z : zZ) (hZ0 : zSt Z) (q0 : Nat → Nat) (sz : Nat) (u0 : S_X10) (p1 : Int32) (post : S_X10 → Prop) (hw : wp_X10_expect u0 p1 post) : Met l yX10_expect (zws yX10_expect cX10_expect 2 none) r_X10_expect (va_Pc [.ref (q0 0), .int p1] (zPre Z E (k_X10 E q0 u0) sz)) (va_Qv post (zAt E (va_A (k_X10 E q0 u0) sz) (fun u => k_X10 E q0 u)) (va_A (k_X10 E q0 u0) sz)) 0 0 (va_A (k_X10 E q0 u0) sz) := by
  refine z_ofW (Qf := fun A => va_Qv post (zAt E A (fun u => k_X10 E q0 u)) A) (by decide) (Nat.le_of_ble_eq_true rfl) ?_
  intro p e s m args below meth c A ls C0 hA hK hZ hP hD hS hl
  obtain ⟨hx, hb, hml, hr, hown, hts, hlocks, hin⟩ := id C0
  have hown : s.vm.findClass RX10 = some m.cls := hown
  have hl : lv_has ls 2 [(0, .ref (q0 0)), (1, .int p1)] := hl
  refine lv_aload_n hx hb dX10_expect_0 rfl (lv_at hl 0 rfl) ?_
  refine z_ki (z_rV (rest := []) hZ0 C0 hK hZ hA hP hD hS hl.1 (c_X10_isGood l E Z hZ0 q0 s.heap.size u0 _ hw) yv_X10_78 [0, 1, 2, 3, 4, 5, 6, 7, 8, 9] rfl (by decide) (ci := 10) rfl rfl 0 rfl ⟨Nat.le_of_ble_eq_true rfl, Nat.le_of_ble_eq_true rfl⟩ ⟨rfl, rfl⟩ rfl rfl (Nat.le_of_ble_eq_true rfl) ⟨Nat.le_of_ble_eq_true rfl, Nat.le_of_ble_eq_true rfl⟩ dX10_expect_1) hP hD hS hA [0, 1, 2, 3, 4, 5, 6, 7, 8, 9] [] [0, 1, 2, 3, 4, 5, 6, 7, 8, 9] rfl (wr := []) rfl (by decide) (by decide) (fun u => k_X10 E q0 u) (fun u => rfl) (by decide) (fun r_2 u_1 H locs hw hP hD hS => ?_)
  obtain ⟨hwt, hwf⟩ := hw
  refine lv_if_ne (tgt := 8) hx hb dX10_expect_4 (by decide) (fun c_3 => ?_) (fun c_3 => ?_)
  · have hw := hwt c_3
    refine lv_aload_n hx hb dX10_expect_8 rfl (lv_at hl 0 rfl) ?_
    refine z_ki (z_rV (rest := []) hZ0 C0 hK hZ hA hP hD hS hl.1 (c_X10_next l E Z hZ0 q0 H.size u_1 _ hw) yv_X10_82 [0, 1, 2, 3, 4, 5, 6, 7, 8, 9] rfl (by decide) (ci := 10) rfl rfl 0 rfl ⟨Nat.le_of_ble_eq_true rfl, Nat.le_of_ble_eq_true rfl⟩ ⟨rfl, rfl⟩ rfl rfl (Nat.le_of_ble_eq_true rfl) ⟨Nat.le_of_ble_eq_true rfl, Nat.le_of_ble_eq_true rfl⟩ dX10_expect_9) hP hD hS hA [0, 1, 2, 3, 4, 5, 6, 7, 8, 9] [] [0, 1, 2, 3, 4, 5, 6, 7, 8, 9] rfl (wr := []) rfl (by decide) (by decide) (fun u => k_X10 E q0 u) (fun u => rfl) (by decide) (fun r_5 u_4 H locs hw hP hD hS => ?_)
    refine lv_iload_n hx hb dX10_expect_12 rfl (lv_at hl 1 rfl) ?_
    obtain ⟨hwt, hwf⟩ := hw
    refine lv_icmp_ne (tgt := 29) hx hb dX10_expect_13 (by decide) (fun c_6 => ?_) (fun c_6 => ?_)
    · have hw := hwt c_6
      refine lv_aload_n hx hb dX10_expect_29 rfl (lv_at hl 0 rfl) ?_
      refine lv_bipush (v := (-2)) hx hb dX10_expect_30 rfl ?_
      refine lv_aload_n hx hb dX10_expect_32 rfl (lv_at hl 0 rfl) ?_
      refine va_get (D := zD E) (ci := 10) (v := .int u_4.2.2.2.2.1) (C := RX10) (T := TX10) (N := 24) hx hb hts uw_X10 hown hK hP 0 rfl rfl 4 (by decide) (hts _ wm_5_120) (fun _ h9 => h9) rfl dX10_expect_33 ?_
      refine z_kv (z_rV (rest := []) hZ0 C0 hK hZ hA hP hD hS hl.1 (c_X10_report l E Z hZ0 q0 H.size u_4 (-2 : Int32) u_4.2.2.2.2.1 _ hw) yv_X10_95 [0, 1, 2, 3, 4, 5, 6, 7, 8, 9] rfl (by decide) (ci := 10) rfl rfl 0 rfl ⟨Nat.le_of_ble_eq_true rfl, Nat.le_of_ble_eq_true rfl⟩ ⟨rfl, rfl⟩ rfl rfl (Nat.le_of_ble_eq_true rfl) ⟨Nat.le_of_ble_eq_true rfl, Nat.le_of_ble_eq_true rfl⟩ dX10_expect_36) hP hD hS hA [0, 1, 2, 3, 4, 5, 6, 7, 8, 9] [] [0, 1, 2, 3, 4, 5, 6, 7, 8, 9] rfl (wr := []) rfl (by decide) (by decide) (fun u => k_X10 E q0 u) (fun u => rfl) (by decide) (fun u_7 H locs hw hP hD hS => ?_)
      exact z_vret (k := (fun u => k_X10 E q0 u)) u_7 C0 hP hD hS hw dX10_expect_39
    · have hw := hwf c_6
      refine lv_aload_n hx hb dX10_expect_16 rfl (lv_at hl 0 rfl) ?_
      refine lv_dup hx hb dX10_expect_17 rfl ?_
      refine va_get (D := zD E) (ci := 10) (v := .int u_4.2.2.2.2.1) (C := RX10) (T := TX10) (N := 24) hx hb hts uw_X10 hown hK hP 0 rfl rfl 4 (by decide) (hts _ wm_5_120) (fun _ h9 => h9) rfl dX10_expect_18 ?_
      refine lv_iconst (v := 1) hx hb dX10_expect_21 rfl ?_
      refine lv_iadd hx hb dX10_expect_22 ?_
      refine lv_topi (fun x_9 ex_9 => ?_)
      have hw := hw x_9 ex_9
      refine va_put (D := zD E) (ci := 10) (v := .int x_9) (ty := .int) (C := RX10) (T := TX10) (N := 24) hx hb hts uw_X10 tyX10 tyX10_ok nmX10 hown hK hP hD hS 0 rfl rfl 4 (by decide) (hts _ wm_5_120) (fun _ h9 => h9) rfl (by decide +kernel) rfl rfl (Nat.le_of_ble_eq_true rfl) dX10_expect_23 (fun H locs hP hD hS => ?_)
      have hP : va_P (zD E) vwCl (k_X10 E q0 (u_4.1, u_4.2.1, u_4.2.2.1, u_4.2.2.2.1, x_9, u_4.2.2.2.2.2.1, u_4.2.2.2.2.2.2.1, u_4.2.2.2.2.2.2.2.1, u_4.2.2.2.2.2.2.2.2.1, u_4.2.2.2.2.2.2.2.2.2.1, u_4.2.2.2.2.2.2.2.2.2.2.1, u_4.2.2.2.2.2.2.2.2.2.2.2.1, u_4.2.2.2.2.2.2.2.2.2.2.2.2.1, u_4.2.2.2.2.2.2.2.2.2.2.2.2.2.1, u_4.2.2.2.2.2.2.2.2.2.2.2.2.2.2.1, u_4.2.2.2.2.2.2.2.2.2.2.2.2.2.2.2.1, u_4.2.2.2.2.2.2.2.2.2.2.2.2.2.2.2.2.1, u_4.2.2.2.2.2.2.2.2.2.2.2.2.2.2.2.2.2.1, u_4.2.2.2.2.2.2.2.2.2.2.2.2.2.2.2.2.2.2.1, u_4.2.2.2.2.2.2.2.2.2.2.2.2.2.2.2.2.2.2.2.1, u_4.2.2.2.2.2.2.2.2.2.2.2.2.2.2.2.2.2.2.2.2.1, u_4.2.2.2.2.2.2.2.2.2.2.2.2.2.2.2.2.2.2.2.2.2)) H := hP
      have hD : va_D A (k_X10 E q0 (u_4.1, u_4.2.1, u_4.2.2.1, u_4.2.2.2.1, x_9, u_4.2.2.2.2.2.1, u_4.2.2.2.2.2.2.1, u_4.2.2.2.2.2.2.2.1, u_4.2.2.2.2.2.2.2.2.1, u_4.2.2.2.2.2.2.2.2.2.1, u_4.2.2.2.2.2.2.2.2.2.2.1, u_4.2.2.2.2.2.2.2.2.2.2.2.1, u_4.2.2.2.2.2.2.2.2.2.2.2.2.1, u_4.2.2.2.2.2.2.2.2.2.2.2.2.2.1, u_4.2.2.2.2.2.2.2.2.2.2.2.2.2.2.1, u_4.2.2.2.2.2.2.2.2.2.2.2.2.2.2.2.1, u_4.2.2.2.2.2.2.2.2.2.2.2.2.2.2.2.2.1, u_4.2.2.2.2.2.2.2.2.2.2.2.2.2.2.2.2.2.1, u_4.2.2.2.2.2.2.2.2.2.2.2.2.2.2.2.2.2.2.1, u_4.2.2.2.2.2.2.2.2.2.2.2.2.2.2.2.2.2.2.2.1, u_4.2.2.2.2.2.2.2.2.2.2.2.2.2.2.2.2.2.2.2.2.1, u_4.2.2.2.2.2.2.2.2.2.2.2.2.2.2.2.2.2.2.2.2.2)) := hD
      refine lv_goto (tgt := 39) hx hb dX10_expect_26 (by decide) ?_
      exact z_vret (k := (fun u => k_X10 E q0 u)) (u_4.1, u_4.2.1, u_4.2.2.1, u_4.2.2.2.1, x_9, u_4.2.2.2.2.2.1, u_4.2.2.2.2.2.2.1, u_4.2.2.2.2.2.2.2.1, u_4.2.2.2.2.2.2.2.2.1, u_4.2.2.2.2.2.2.2.2.2.1, u_4.2.2.2.2.2.2.2.2.2.2.1, u_4.2.2.2.2.2.2.2.2.2.2.2.1, u_4.2.2.2.2.2.2.2.2.2.2.2.2.1, u_4.2.2.2.2.2.2.2.2.2.2.2.2.2.1, u_4.2.2.2.2.2.2.2.2.2.2.2.2.2.2.1, u_4.2.2.2.2.2.2.2.2.2.2.2.2.2.2.2.1, u_4.2.2.2.2.2.2.2.2.2.2.2.2.2.2.2.2.1, u_4.2.2.2.2.2.2.2.2.2.2.2.2.2.2.2.2.2.1, u_4.2.2.2.2.2.2.2.2.2.2.2.2.2.2.2.2.2.2.1, u_4.2.2.2.2.2.2.2.2.2.2.2.2.2.2.2.2.2.2.2.1, u_4.2.2.2.2.2.2.2.2.2.2.2.2.2.2.2.2.2.2.2.2.1, u_4.2.2.2.2.2.2.2.2.2.2.2.2.2.2.2.2.2.2.2.2.2) C0 hP hD hS hw dX10_expect_39
  · have hw := hwf c_3
    exact z_vret (k := (fun u => k_X10 E q0 u)) u_1 C0 hP hD hS hw dX10_expect_7
abbrev r_X10_number : Room := { frames := 2, cells := 0, slots := 0, locals := 42 }
def j_X10_number_41 (K41 : (Int32 × Int32 × Int32 × S_X10) → Prop) (x1 : Int32) (x2 : Int32) (x3 : Int32) (u0 : S_X10) (post : Int32 → S_X10 → Prop) : Prop := wp_X10_byteAt u0 u0.2.2.2.2.1 (fun r_12 u_11 => wp_X10_isDigit r_12 (fun r_14 u_13 => (r_14 = 0 → (wp_X10_in x3 x1 x2 (fun r_17 u_16 => (¬ (r_17 = 0) → (post x3 u_11)) ∧ (r_17 = 0 → (wp_X10_report u_11 (-3 : Int32) u_11.2.2.2.2.2.2.2.2.2.2.2.2.2.2.1 (fun u_19 => post x3 u_19)))))) ∧ (¬ (r_14 = 0) → (wp_X10_byteAt u_11 u_11.2.2.2.2.1 (fun r_22 u_21 => wp_X10_min (1000000 : Int32) ((((10 : Int32) * x3) + r_22) - (48 : Int32)) (fun r_24 u_23 => ∀ x_25 : Int32, x_25 = (u_21.2.2.2.2.1 + (1 : Int32)) → (K41 (x1, x2, r_24, (u_21.1, u_21.2.1, u_21.2.2.1, u_21.2.2.2.1, x_25, u_21.2.2.2.2.2.1, u_21.2.2.2.2.2.2.1, u_21.2.2.2.2.2.2.2.1, u_21.2.2.2.2.2.2.2.2.1, u_21.2.2.2.2.2.2.2.2.2.1, u_21.2.2.2.2.2.2.2.2.2.2.1, u_21.2.2.2.2.2.2.2.2.2.2.2.1, u_21.2.2.2.2.2.2.2.2.2.2.2.2.1, u_21.2.2.2.2.2.2.2.2.2.2.2.2.2.1, u_21.2.2.2.2.2.2.2.2.2.2.2.2.2.2.1, u_21.2.2.2.2.2.2.2.2.2.2.2.2.2.2.2.1, u_21.2.2.2.2.2.2.2.2.2.2.2.2.2.2.2.2.1, u_21.2.2.2.2.2.2.2.2.2.2.2.2.2.2.2.2.2.1, u_21.2.2.2.2.2.2.2.2.2.2.2.2.2.2.2.2.2.2.1, u_21.2.2.2.2.2.2.2.2.2.2.2.2.2.2.2.2.2.2.2.1, u_21.2.2.2.2.2.2.2.2.2.2.2.2.2.2.2.2.2.2.2.2.1, u_21.2.2.2.2.2.2.2.2.2.2.2.2.2.2.2.2.2.2.2.2.2)))))))))
def wp_X10_number (u0 : S_X10) (p1 : Int32) (p2 : Int32) (post : Int32 → S_X10 → Prop) : Prop := wp_X10_isGood u0 (fun r_2 u_1 => (¬ (r_2 = 0) → (wp_X10_next u_1 (fun r_5 u_4 => wp_X10_isDigit r_5 (fun r_7 u_6 => (¬ (r_7 = 0) → (∃ n, zl (fun K st => j_X10_number_41 K st.1 st.2.1 st.2.2.1 st.2.2.2 post) n (p1, p2, (0 : Int32), (u_4.1, u_4.2.1, u_4.2.2.1, u_4.2.2.2.1, u_4.2.2.2.2.1, u_4.2.2.2.2.2.1, u_4.2.2.2.2.2.2.1, u_4.2.2.2.2.2.2.2.1, u_4.2.2.2.2.2.2.2.2.1, u_4.2.2.2.2.2.2.2.2.2.1, u_4.2.2.2.2.2.2.2.2.2.2.1, u_4.2.2.2.2.2.2.2.2.2.2.2.1, u_4.2.2.2.2.2.2.2.2.2.2.2.2.1, u_4.2.2.2.2.2.2.2.2.2.2.2.2.2.1, u_4.2.2.2.2.1, u_4.2.2.2.2.2.2.2.2.2.2.2.2.2.2.2.1, u_4.2.2.2.2.2.2.2.2.2.2.2.2.2.2.2.2.1, u_4.2.2.2.2.2.2.2.2.2.2.2.2.2.2.2.2.2.1, u_4.2.2.2.2.2.2.2.2.2.2.2.2.2.2.2.2.2.2.1, u_4.2.2.2.2.2.2.2.2.2.2.2.2.2.2.2.2.2.2.2.1, u_4.2.2.2.2.2.2.2.2.2.2.2.2.2.2.2.2.2.2.2.2.1, u_4.2.2.2.2.2.2.2.2.2.2.2.2.2.2.2.2.2.2.2.2.2)))) ∧ (r_7 = 0 → (wp_X10_report u_4 (-2 : Int32) u_4.2.2.2.2.1 (fun u_9 => post (0 : Int32) u_9))))))) ∧ (r_2 = 0 → (post (0 : Int32) u_1)))
set_option maxHeartbeats 4000000 in
set_option maxRecDepth 100000 in
theorem t_X10_number_41 {p : Program} {l : Launch} {e : Env} {s : State} {m : MethodId} {args : Array Value} {below : List Frame} {meth : Method} {c : Code} {Z : zZ} {E : zE} {A : Nat → Prop} {q0 : Nat → Nat} (hZ0 : zSt Z) (C0 : zC p s m args meth c yX10_number cX10_number 4 (some .int)) (hA : ∀ q : Nat, s.heap.size ≤ q → A q) (hK : va_K (zD E) vwCl (zT E) s) (hZ : Z A s s.heap) (post : Int32 → S_X10 → Prop) : ∀ (n : Nat) (x1 : Int32) (x2 : Int32) (x3 : Int32) (u0 : S_X10) (H : Heap) (locs : List Loc) (ls : Array Slot), zl (fun K st => j_X10_number_41 K st.1 st.2.1 st.2.2.1 st.2.2.2 post) n (x1, x2, x3, u0) → va_P (zD E) vwCl (k_X10 E q0 u0) H → va_D A (k_X10 E q0 u0) → va_S A s.heap H locs → lv_has ls 4 [(0, .ref (q0 0)), (1, .int x1), (2, .int x2), (3, .int x3)] → W p l e r_X10_number s m args below meth c H locs 0 0 (MQ below (va_Qi post (zAt E A (fun u => k_X10 E q0 u)) A) args s 0 0 A) (F0 m 41 ls []) := by
  obtain ⟨hx, hb, hml, hr, hown, hts, hlocks, hin⟩ := id C0
  have hown : s.vm.findClass RX10 = some m.cls := hown
  intro n
  induction n with
  | zero => intro x1 x2 x3 u0 H locs ls hw; exact hw.elim
  | succ n hk_41 =>
    intro x1 x2 x3 u0 H locs ls hw hP hD hS hl
    have hw : j_X10_number_41 _ x1 x2 x3 u0 post := hw
    refine lv_aload_n hx hb dX10_number_41 rfl (lv_at hl 0 rfl) ?_
    refine lv_aload_n hx hb dX10_number_42 rfl (lv_at hl 0 rfl) ?_
    refine va_get (D := zD E) (ci := 10) (v := .int u0.2.2.2.2.1) (C := RX10) (T := TX10) (N := 24) hx hb hts uw_X10 hown hK hP 0 rfl rfl 4 (by decide) (hts _ wm_5_120) (fun _ h9 => h9) rfl dX10_number_43 ?_
    refine z_ki (z_rV (rest := []) hZ0 C0 hK hZ hA hP hD hS hl.1 (c_X10_byteAt l E Z hZ0 q0 H.size u0 u0.2.2.2.2.1 _ hw) yv_X10_64 [0, 1, 2, 3, 4, 5, 6, 7, 8, 9] rfl (by decide) (ci := 10) rfl rfl 0 rfl ⟨Nat.le_of_ble_eq_true rfl, Nat.le_of_ble_eq_true rfl⟩ ⟨rfl, rfl⟩ rfl rfl (Nat.le_of_ble_eq_true rfl) ⟨Nat.le_of_ble_eq_true rfl, Nat.le_of_ble_eq_true rfl⟩ dX10_number_46) hP hD hS hA [0, 1, 2, 3, 4, 5, 6, 7, 8, 9] [] [0, 1, 2, 3, 4, 5, 6, 7, 8, 9] rfl (wr := []) rfl (by decide) (by decide) (fun u => k_X10 E q0 u) (fun u => rfl) (by decide) (fun r_12 u_11 H locs hw hP hD hS => ?_)
    refine z_ki (z_rS (rest := []) hZ0 C0 hK hZ hA hP hD hS hl.1 (c_X10_isDigit l E Z hZ0 H.size r_12 _ hw) yv_X10_99 [] rfl (by decide) ⟨Nat.le_of_ble_eq_true rfl, Nat.le_of_ble_eq_true rfl⟩ ⟨rfl, rfl⟩ rfl rfl (Nat.le_of_ble_eq_true rfl) ⟨Nat.le_of_ble_eq_true rfl, Nat.le_of_ble_eq_true rfl⟩ dX10_number_49) hP hD hS hA [] [0, 1, 2, 3, 4, 5, 6, 7, 8, 9] [0, 1, 2, 3, 4, 5, 6, 7, 8, 9] rfl (wr := [_, _, _, _, _, _, _, _, _, _]) rfl (by decide) (by decide) (fun u => k_X10 E q0 u_11) (fun u => rfl) (by decide) (fun r_14 u_13 H locs hw hP hD hS => ?_)
    obtain ⟨hwt, hwf⟩ := hw
    refine lv_if_eq (tgt := 90) hx hb dX10_number_52 (by decide) (fun c_15 => ?_) (fun c_15 => ?_)
    · have hw := hwt c_15
      refine lv_iload_n hx hb dX10_number_90 rfl (lv_at hl 3 rfl) ?_
      refine lv_iload_n hx hb dX10_number_91 rfl (lv_at hl 1 rfl) ?_
      refine lv_iload_n hx hb dX10_number_92 rfl (lv_at hl 2 rfl) ?_
      refine z_ki (z_rS (rest := []) hZ0 C0 hK hZ hA hP hD hS hl.1 (c_X10_in l E Z hZ0 H.size x3 x1 x2 _ hw) yv_X10_74 [] rfl (by decide) ⟨Nat.le_of_ble_eq_true rfl, Nat.le_of_ble_eq_true rfl⟩ ⟨rfl, rfl⟩ rfl rfl (Nat.le_of_ble_eq_true rfl) ⟨Nat.le_of_ble_eq_true rfl, Nat.le_of_ble_eq_true rfl⟩ dX10_number_93) hP hD hS hA [] [0, 1, 2, 3, 4, 5, 6, 7, 8, 9] [0, 1, 2, 3, 4, 5, 6, 7, 8, 9] rfl (wr := [_, _, _, _, _, _, _, _, _, _]) rfl (by decide) (by decide) (fun u => k_X10 E q0 u_11) (fun u => rfl) (by decide) (fun r_17 u_16 H locs hw hP hD hS => ?_)
      obtain ⟨hwt, hwf⟩ := hw
      refine lv_if_ne (tgt := 109) hx hb dX10_number_96 (by decide) (fun c_18 => ?_) (fun c_18 => ?_)
      · have hw := hwt c_18
        refine lv_iload_n hx hb dX10_number_109 rfl (lv_at hl 3 rfl) ?_
        exact z_iret (k := (fun u => k_X10 E q0 u)) u_11 C0 hP hD hS hw dX10_number_110
      · have hw := hwf c_18
        refine lv_aload_n hx hb dX10_number_99 rfl (lv_at hl 0 rfl) ?_
        refine lv_bipush (v := (-3)) hx hb dX10_number_100 rfl ?_
        refine lv_aload_n hx hb dX10_number_102 rfl (lv_at hl 0 rfl) ?_
        refine va_get (D := zD E) (ci := 10) (v := .int u_11.2.2.2.2.2.2.2.2.2.2.2.2.2.2.1) (C := RX10) (T := TX10) (N := 24) hx hb hts uw_X10 hown hK hP 0 rfl rfl 16 (by decide) (hts _ wm_5_132) (fun _ h9 => h9) rfl dX10_number_103 ?_
        refine z_kv (z_rV (rest := []) hZ0 C0 hK hZ hA hP hD hS hl.1 (c_X10_report l E Z hZ0 q0 H.size u_11 (-3 : Int32) u_11.2.2.2.2.2.2.2.2.2.2.2.2.2.2.1 _ hw) yv_X10_95 [0, 1, 2, 3, 4, 5, 6, 7, 8, 9] rfl (by decide) (ci := 10) rfl rfl 0 rfl ⟨Nat.le_of_ble_eq_true rfl, Nat.le_of_ble_eq_true rfl⟩ ⟨rfl, rfl⟩ rfl rfl (Nat.le_of_ble_eq_true rfl) ⟨Nat.le_of_ble_eq_true rfl, Nat.le_of_ble_eq_true rfl⟩ dX10_number_106) hP hD hS hA [0, 1, 2, 3, 4, 5, 6, 7, 8, 9] [] [0, 1, 2, 3, 4, 5, 6, 7, 8, 9] rfl (wr := []) rfl (by decide) (by decide) (fun u => k_X10 E q0 u) (fun u => rfl) (by decide) (fun u_19 H locs hw hP hD hS => ?_)
        refine lv_iload_n hx hb dX10_number_109 rfl (lv_at hl 3 rfl) ?_
        exact z_iret (k := (fun u => k_X10 E q0 u)) u_19 C0 hP hD hS hw dX10_number_110
    · have hw := hwf c_15
      refine lv_ldc hx hb hown (hts _ wm_6_2) dX10_number_55 ?_
      refine lv_bipush (v := 10) hx hb dX10_number_57 rfl ?_
      refine lv_iload_n hx hb dX10_number_59 rfl (lv_at hl 3 rfl) ?_
      refine lv_imul hx hb dX10_number_60 ?_
      refine lv_aload_n hx hb dX10_number_61 rfl (lv_at hl 0 rfl) ?_
      refine lv_aload_n hx hb dX10_number_62 rfl (lv_at hl 0 rfl) ?_
      refine va_get (D := zD E) (ci := 10) (v := .int u_11.2.2.2.2.1) (C := RX10) (T := TX10) (N := 24) hx hb hts uw_X10 hown hK hP 0 rfl rfl 4 (by decide) (hts _ wm_5_120) (fun _ h9 => h9) rfl dX10_number_63 ?_
      refine z_ki (z_rV (rest := [.int ((10 : Int32) * x3), .int (1000000 : Int32)]) hZ0 C0 hK hZ hA hP hD hS hl.1 (c_X10_byteAt l E Z hZ0 q0 H.size u_11 u_11.2.2.2.2.1 _ hw) yv_X10_64 [0, 1, 2, 3, 4, 5, 6, 7, 8, 9] rfl (by decide) (ci := 10) rfl rfl 0 rfl ⟨Nat.le_of_ble_eq_true rfl, Nat.le_of_ble_eq_true rfl⟩ ⟨rfl, rfl⟩ rfl rfl (Nat.le_of_ble_eq_true rfl) ⟨Nat.le_of_ble_eq_true rfl, Nat.le_of_ble_eq_true rfl⟩ dX10_number_66) hP hD hS hA [0, 1, 2, 3, 4, 5, 6, 7, 8, 9] [] [0, 1, 2, 3, 4, 5, 6, 7, 8, 9] rfl (wr := []) rfl (by decide) (by decide) (fun u => k_X10 E q0 u) (fun u => rfl) (by decide) (fun r_22 u_21 H locs hw hP hD hS => ?_)
      refine lv_iadd hx hb dX10_number_69 ?_
      refine lv_bipush (v := 48) hx hb dX10_number_70 rfl ?_
      refine lv_isub hx hb dX10_number_72 ?_
      refine z_ki (z_rS (rest := []) hZ0 C0 hK hZ hA hP hD hS hl.1 (c_X10_min l E Z hZ0 H.size (1000000 : Int32) ((((10 : Int32) * x3) + r_22) - (48 : Int32)) _ hw) yv_X10_107 [] rfl (by decide) ⟨Nat.le_of_ble_eq_true rfl, Nat.le_of_ble_eq_true rfl⟩ ⟨rfl, rfl⟩ rfl rfl (Nat.le_of_ble_eq_true rfl) ⟨Nat.le_of_ble_eq_true rfl, Nat.le_of_ble_eq_true rfl⟩ dX10_number_73) hP hD hS hA [] [0, 1, 2, 3, 4, 5, 6, 7, 8, 9] [0, 1, 2, 3, 4, 5, 6, 7, 8, 9] rfl (wr := [_, _, _, _, _, _, _, _, _, _]) rfl (by decide) (by decide) (fun u => k_X10 E q0 u_21) (fun u => rfl) (by decide) (fun r_24 u_23 H locs hw hP hD hS => ?_)
      refine lv_istore_n (lv' := [(3, .int r_24), (0, .ref (q0 0)), (1, .int x1), (2, .int x2)]) hx hb dX10_number_76 rfl hl (by decide) rfl (fun ls hl => ?_)
      refine lv_aload_n hx hb dX10_number_77 rfl (lv_at hl 1 rfl) ?_
      refine lv_dup hx hb dX10_number_78 rfl ?_
      refine va_get (D := zD E) (ci := 10) (v := .int u_21.2.2.2.2.1) (C := RX10) (T := TX10) (N := 24) hx hb hts uw_X10 hown hK hP 0 rfl rfl 4 (by decide) (hts _ wm_5_120) (fun _ h9 => h9) rfl dX10_number_79 ?_
      refine lv_iconst (v := 1) hx hb dX10_number_82 rfl ?_
      refine lv_iadd hx hb dX10_number_83 ?_
      refine lv_topi (fun x_25 ex_25 => ?_)
      have hw := hw x_25 ex_25
      refine va_put (D := zD E) (ci := 10) (v := .int x_25) (ty := .int) (C := RX10) (T := TX10) (N := 24) hx hb hts uw_X10 tyX10 tyX10_ok nmX10 hown hK hP hD hS 0 rfl rfl 4 (by decide) (hts _ wm_5_120) (fun _ h9 => h9) rfl (by decide +kernel) rfl rfl (Nat.le_of_ble_eq_true rfl) dX10_number_84 (fun H locs hP hD hS => ?_)
      have hP : va_P (zD E) vwCl (k_X10 E q0 (u_21.1, u_21.2.1, u_21.2.2.1, u_21.2.2.2.1, x_25, u_21.2.2.2.2.2.1, u_21.2.2.2.2.2.2.1, u_21.2.2.2.2.2.2.2.1, u_21.2.2.2.2.2.2.2.2.1, u_21.2.2.2.2.2.2.2.2.2.1, u_21.2.2.2.2.2.2.2.2.2.2.1, u_21.2.2.2.2.2.2.2.2.2.2.2.1, u_21.2.2.2.2.2.2.2.2.2.2.2.2.1, u_21.2.2.2.2.2.2.2.2.2.2.2.2.2.1, u_21.2.2.2.2.2.2.2.2.2.2.2.2.2.2.1, u_21.2.2.2.2.2.2.2.2.2.2.2.2.2.2.2.1, u_21.2.2.2.2.2.2.2.2.2.2.2.2.2.2.2.2.1, u_21.2.2.2.2.2.2.2.2.2.2.2.2.2.2.2.2.2.1, u_21.2.2.2.2.2.2.2.2.2.2.2.2.2.2.2.2.2.2.1, u_21.2.2.2.2.2.2.2.2.2.2.2.2.2.2.2.2.2.2.2.1, u_21.2.2.2.2.2.2.2.2.2.2.2.2.2.2.2.2.2.2.2.2.1, u_21.2.2.2.2.2.2.2.2.2.2.2.2.2.2.2.2.2.2.2.2.2)) H := hP
      have hD : va_D A (k_X10 E q0 (u_21.1, u_21.2.1, u_21.2.2.1, u_21.2.2.2.1, x_25, u_21.2.2.2.2.2.1, u_21.2.2.2.2.2.2.1, u_21.2.2.2.2.2.2.2.1, u_21.2.2.2.2.2.2.2.2.1, u_21.2.2.2.2.2.2.2.2.2.1, u_21.2.2.2.2.2.2.2.2.2.2.1, u_21.2.2.2.2.2.2.2.2.2.2.2.1, u_21.2.2.2.2.2.2.2.2.2.2.2.2.1, u_21.2.2.2.2.2.2.2.2.2.2.2.2.2.1, u_21.2.2.2.2.2.2.2.2.2.2.2.2.2.2.1, u_21.2.2.2.2.2.2.2.2.2.2.2.2.2.2.2.1, u_21.2.2.2.2.2.2.2.2.2.2.2.2.2.2.2.2.1, u_21.2.2.2.2.2.2.2.2.2.2.2.2.2.2.2.2.2.1, u_21.2.2.2.2.2.2.2.2.2.2.2.2.2.2.2.2.2.2.1, u_21.2.2.2.2.2.2.2.2.2.2.2.2.2.2.2.2.2.2.2.1, u_21.2.2.2.2.2.2.2.2.2.2.2.2.2.2.2.2.2.2.2.2.1, u_21.2.2.2.2.2.2.2.2.2.2.2.2.2.2.2.2.2.2.2.2.2)) := hD
      refine lv_goto (tgt := 41) hx hb dX10_number_87 (by decide) ?_
      exact hk_41 x1 x2 r_24 (u_21.1, u_21.2.1, u_21.2.2.1, u_21.2.2.2.1, x_25, u_21.2.2.2.2.2.1, u_21.2.2.2.2.2.2.1, u_21.2.2.2.2.2.2.2.1, u_21.2.2.2.2.2.2.2.2.1, u_21.2.2.2.2.2.2.2.2.2.1, u_21.2.2.2.2.2.2.2.2.2.2.1, u_21.2.2.2.2.2.2.2.2.2.2.2.1, u_21.2.2.2.2.2.2.2.2.2.2.2.2.1, u_21.2.2.2.2.2.2.2.2.2.2.2.2.2.1, u_21.2.2.2.2.2.2.2.2.2.2.2.2.2.2.1, u_21.2.2.2.2.2.2.2.2.2.2.2.2.2.2.2.1, u_21.2.2.2.2.2.2.2.2.2.2.2.2.2.2.2.2.1, u_21.2.2.2.2.2.2.2.2.2.2.2.2.2.2.2.2.2.1, u_21.2.2.2.2.2.2.2.2.2.2.2.2.2.2.2.2.2.2.1, u_21.2.2.2.2.2.2.2.2.2.2.2.2.2.2.2.2.2.2.2.1, u_21.2.2.2.2.2.2.2.2.2.2.2.2.2.2.2.2.2.2.2.2.1, u_21.2.2.2.2.2.2.2.2.2.2.2.2.2.2.2.2.2.2.2.2.2) _ _ _ hw hP hD hS (lv_sub hl [1, 2, 3, 0] rfl)
set_option maxHeartbeats 4000000 in
set_option maxRecDepth 100000 in
theorem c_X10_number (l : Launch) (E : zE) (Z : zZ) (hZ0 : zSt Z) (q0 : Nat → Nat) (sz : Nat) (u0 : S_X10) (p1 : Int32) (p2 : Int32) (post : Int32 → S_X10 → Prop) (hw : wp_X10_number u0 p1 p2 post) : Met l yX10_number (zws yX10_number cX10_number 4 (some .int)) r_X10_number (va_Pc [.ref (q0 0), .int p1, .int p2] (zPre Z E (k_X10 E q0 u0) sz)) (va_Qi post (zAt E (va_A (k_X10 E q0 u0) sz) (fun u => k_X10 E q0 u)) (va_A (k_X10 E q0 u0) sz)) 0 0 (va_A (k_X10 E q0 u0) sz) := by
  refine z_ofW (Qf := fun A => va_Qi post (zAt E A (fun u => k_X10 E q0 u)) A) (by decide) (Nat.le_of_ble_eq_true rfl) ?_
  intro p e s m args below meth c A ls C0 hA hK hZ hP hD hS hl
  obtain ⟨hx, hb, hml, hr, hown, hts, hlocks, hin⟩ := id C0
  have hown : s.vm.findClass RX10 = some m.cls := hown
  have hl : lv_has ls 4 [(0, .ref (q0 0)), (1, .int p1), (2, .int p2)] := hl
  refine lv_aload_n hx hb dX10_number_0 rfl (lv_at hl 0 rfl) ?_
  refine z_ki (z_rV (rest := []) hZ0 C0 hK hZ hA hP hD hS hl.1 (c_X10_isGood l E Z hZ0 q0 s.heap.size u0 _ hw) yv_X10_78 [0, 1, 2, 3, 4, 5, 6, 7, 8, 9] rfl (by decide) (ci := 10) rfl rfl 0 rfl ⟨Nat.le_of_ble_eq_true rfl, Nat.le_of_ble_eq_true rfl⟩ ⟨rfl, rfl⟩ rfl rfl (Nat.le_of_ble_eq_true rfl) ⟨Nat.le_of_ble_eq_true rfl, Nat.le_of_ble_eq_true rfl⟩ dX10_number_1) hP hD hS hA [0, 1, 2, 3, 4, 5, 6, 7, 8, 9] [] [0, 1, 2, 3, 4, 5, 6, 7, 8, 9] rfl (wr := []) rfl (by decide) (by decide) (fun u => k_X10 E q0 u) (fun u => rfl) (by decide) (fun r_2 u_1 H locs hw hP hD hS => ?_)
  obtain ⟨hwt, hwf⟩ := hw
  refine lv_if_ne (tgt := 9) hx hb dX10_number_4 (by decide) (fun c_3 => ?_) (fun c_3 => ?_)
  · have hw := hwt c_3
    refine lv_aload_n hx hb dX10_number_9 rfl (lv_at hl 0 rfl) ?_
    refine z_ki (z_rV (rest := []) hZ0 C0 hK hZ hA hP hD hS hl.1 (c_X10_next l E Z hZ0 q0 H.size u_1 _ hw) yv_X10_82 [0, 1, 2, 3, 4, 5, 6, 7, 8, 9] rfl (by decide) (ci := 10) rfl rfl 0 rfl ⟨Nat.le_of_ble_eq_true rfl, Nat.le_of_ble_eq_true rfl⟩ ⟨rfl, rfl⟩ rfl rfl (Nat.le_of_ble_eq_true rfl) ⟨Nat.le_of_ble_eq_true rfl, Nat.le_of_ble_eq_true rfl⟩ dX10_number_10) hP hD hS hA [0, 1, 2, 3, 4, 5, 6, 7, 8, 9] [] [0, 1, 2, 3, 4, 5, 6, 7, 8, 9] rfl (wr := []) rfl (by decide) (by decide) (fun u => k_X10 E q0 u) (fun u => rfl) (by decide) (fun r_5 u_4 H locs hw hP hD hS => ?_)
    refine z_ki (z_rS (rest := []) hZ0 C0 hK hZ hA hP hD hS hl.1 (c_X10_isDigit l E Z hZ0 H.size r_5 _ hw) yv_X10_99 [] rfl (by decide) ⟨Nat.le_of_ble_eq_true rfl, Nat.le_of_ble_eq_true rfl⟩ ⟨rfl, rfl⟩ rfl rfl (Nat.le_of_ble_eq_true rfl) ⟨Nat.le_of_ble_eq_true rfl, Nat.le_of_ble_eq_true rfl⟩ dX10_number_13) hP hD hS hA [] [0, 1, 2, 3, 4, 5, 6, 7, 8, 9] [0, 1, 2, 3, 4, 5, 6, 7, 8, 9] rfl (wr := [_, _, _, _, _, _, _, _, _, _]) rfl (by decide) (by decide) (fun u => k_X10 E q0 u_4) (fun u => rfl) (by decide) (fun r_7 u_6 H locs hw hP hD hS => ?_)
    obtain ⟨hwt, hwf⟩ := hw
    refine lv_if_ne (tgt := 31) hx hb dX10_number_16 (by decide) (fun c_8 => ?_) (fun c_8 => ?_)
    · have hw := hwt c_8
      refine lv_aload_n hx hb dX10_number_31 rfl (lv_at hl 0 rfl) ?_
      refine lv_aload_n hx hb dX10_number_32 rfl (lv_at hl 0 rfl) ?_
      refine va_get (D := zD E) (ci := 10) (v := .int u_4.2.2.2.2.1) (C := RX10) (T := TX10) (N := 24) hx hb hts uw_X10 hown hK hP 0 rfl rfl 4 (by decide) (hts _ wm_5_120) (fun _ h9 => h9) rfl dX10_number_33 ?_
      refine va_put (D := zD E) (ci := 10) (v := .int u_4.2.2.2.2.1) (ty := .int) (C := RX10) (T := TX10) (N := 24) hx hb hts uw_X10 tyX10 tyX10_ok nmX10 hown hK hP hD hS 0 rfl rfl 16 (by decide) (hts _ wm_5_132) (fun _ h9 => h9) rfl (by decide +kernel) rfl rfl (Nat.le_of_ble_eq_true rfl) dX10_number_36 (fun H locs hP hD hS => ?_)
      have hP : va_P (zD E) vwCl (k_X10 E q0 (u_4.1, u_4.2.1, u_4.2.2.1, u_4.2.2.2.1, u_4.2.2.2.2.1, u_4.2.2.2.2.2.1, u_4.2.2.2.2.2.2.1, u_4.2.2.2.2.2.2.2.1, u_4.2.2.2.2.2.2.2.2.1, u_4.2.2.2.2.2.2.2.2.2.1, u_4.2.2.2.2.2.2.2.2.2.2.1, u_4.2.2.2.2.2.2.2.2.2.2.2.1, u_4.2.2.2.2.2.2.2.2.2.2.2.2.1, u_4.2.2.2.2.2.2.2.2.2.2.2.2.2.1, u_4.2.2.2.2.1, u_4.2.2.2.2.2.2.2.2.2.2.2.2.2.2.2.1, u_4.2.2.2.2.2.2.2.2.2.2.2.2.2.2.2.2.1, u_4.2.2.2.2.2.2.2.2.2.2.2.2.2.2.2.2.2.1, u_4.2.2.2.2.2.2.2.2.2.2.2.2.2.2.2.2.2.2.1, u_4.2.2.2.2.2.2.2.2.2.2.2.2.2.2.2.2.2.2.2.1, u_4.2.2.2.2.2.2.2.2.2.2.2.2.2.2.2.2.2.2.2.2.1, u_4.2.2.2.2.2.2.2.2.2.2.2.2.2.2.2.2.2.2.2.2.2)) H := hP
      have hD : va_D A (k_X10 E q0 (u_4.1, u_4.2.1, u_4.2.2.1, u_4.2.2.2.1, u_4.2.2.2.2.1, u_4.2.2.2.2.2.1, u_4.2.2.2.2.2.2.1, u_4.2.2.2.2.2.2.2.1, u_4.2.2.2.2.2.2.2.2.1, u_4.2.2.2.2.2.2.2.2.2.1, u_4.2.2.2.2.2.2.2.2.2.2.1, u_4.2.2.2.2.2.2.2.2.2.2.2.1, u_4.2.2.2.2.2.2.2.2.2.2.2.2.1, u_4.2.2.2.2.2.2.2.2.2.2.2.2.2.1, u_4.2.2.2.2.1, u_4.2.2.2.2.2.2.2.2.2.2.2.2.2.2.2.1, u_4.2.2.2.2.2.2.2.2.2.2.2.2.2.2.2.2.1, u_4.2.2.2.2.2.2.2.2.2.2.2.2.2.2.2.2.2.1, u_4.2.2.2.2.2.2.2.2.2.2.2.2.2.2.2.2.2.2.1, u_4.2.2.2.2.2.2.2.2.2.2.2.2.2.2.2.2.2.2.2.1, u_4.2.2.2.2.2.2.2.2.2.2.2.2.2.2.2.2.2.2.2.2.1, u_4.2.2.2.2.2.2.2.2.2.2.2.2.2.2.2.2.2.2.2.2.2)) := hD
      refine lv_iconst (v := 0) hx hb dX10_number_39 rfl ?_
      refine lv_istore_n (lv' := [(3, .int (0 : Int32)), (0, .ref (q0 0)), (1, .int p1), (2, .int p2)]) hx hb dX10_number_40 rfl hl (by decide) rfl (fun ls hl => ?_)
      obtain ⟨n9, hw⟩ := hw
      exact t_X10_number_41 (l := l) hZ0 C0 hA hK hZ post n9 p1 p2 (0 : Int32) (u_4.1, u_4.2.1, u_4.2.2.1, u_4.2.2.2.1, u_4.2.2.2.2.1, u_4.2.2.2.2.2.1, u_4.2.2.2.2.2.2.1, u_4.2.2.2.2.2.2.2.1, u_4.2.2.2.2.2.2.2.2.1, u_4.2.2.2.2.2.2.2.2.2.1, u_4.2.2.2.2.2.2.2.2.2.2.1, u_4.2.2.2.2.2.2.2.2.2.2.2.1, u_4.2.2.2.2.2.2.2.2.2.2.2.2.1, u_4.2.2.2.2.2.2.2.2.2.2.2.2.2.1, u_4.2.2.2.2.1, u_4.2.2.2.2.2.2.2.2.2.2.2.2.2.2.2.1, u_4.2.2.2.2.2.2.2.2.2.2.2.2.2.2.2.2.1, u_4.2.2.2.2.2.2.2.2.2.2.2.2.2.2.2.2.2.1, u_4.2.2.2.2.2.2.2.2.2.2.2.2.2.2.2.2.2.2.1, u_4.2.2.2.2.2.2.2.2.2.2.2.2.2.2.2.2.2.2.2.1, u_4.2.2.2.2.2.2.2.2.2.2.2.2.2.2.2.2.2.2.2.2.1, u_4.2.2.2.2.2.2.2.2.2.2.2.2.2.2.2.2.2.2.2.2.2) _ _ _ hw hP hD hS (lv_sub hl [1, 2, 3, 0] rfl)
    · have hw := hwf c_8
      refine lv_aload_n hx hb dX10_number_19 rfl (lv_at hl 0 rfl) ?_
      refine lv_bipush (v := (-2)) hx hb dX10_number_20 rfl ?_
      refine lv_aload_n hx hb dX10_number_22 rfl (lv_at hl 0 rfl) ?_
      refine va_get (D := zD E) (ci := 10) (v := .int u_4.2.2.2.2.1) (C := RX10) (T := TX10) (N := 24) hx hb hts uw_X10 hown hK hP 0 rfl rfl 4 (by decide) (hts _ wm_5_120) (fun _ h9 => h9) rfl dX10_number_23 ?_
      refine z_kv (z_rV (rest := []) hZ0 C0 hK hZ hA hP hD hS hl.1 (c_X10_report l E Z hZ0 q0 H.size u_4 (-2 : Int32) u_4.2.2.2.2.1 _ hw) yv_X10_95 [0, 1, 2, 3, 4, 5, 6, 7, 8, 9] rfl (by decide) (ci := 10) rfl rfl 0 rfl ⟨Nat.le_of_ble_eq_true rfl, Nat.le_of_ble_eq_true rfl⟩ ⟨rfl, rfl⟩ rfl rfl (Nat.le_of_ble_eq_true rfl) ⟨Nat.le_of_ble_eq_true rfl, Nat.le_of_ble_eq_true rfl⟩ dX10_number_26) hP hD hS hA [0, 1, 2, 3, 4, 5, 6, 7, 8, 9] [] [0, 1, 2, 3, 4, 5, 6, 7, 8, 9] rfl (wr := []) rfl (by decide) (by decide) (fun u => k_X10 E q0 u) (fun u => rfl) (by decide) (fun u_9 H locs hw hP hD hS => ?_)
      refine lv_iconst (v := 0) hx hb dX10_number_29 rfl ?_
      exact z_iret (k := (fun u => k_X10 E q0 u)) u_9 C0 hP hD hS hw dX10_number_30
  · have hw := hwf c_3
    refine lv_iconst (v := 0) hx hb dX10_number_7 rfl ?_
    exact z_iret (k := (fun u => k_X10 E q0 u)) u_1 C0 hP hD hS hw dX10_number_8
abbrev r_X10_emit : Room := { frames := 1, cells := 0, slots := 0, locals := 20 }
def wp_X10_emit (u0 : S_X10) (p1 : Int32) (post : S_X10 → Prop) : Prop := wp_X10_isGood u0 (fun r_2 u_1 => (¬ (r_2 = 0) → (vp_in ((428 : Int32) + (u_1.2.2.2.2.2.2.2.2.2.1 14)) 1728 ∧ (∀ x_5 : Int32, x_5 = (((upd u_1.2.2.2.2.2.2.2.2.2.1 ((428 : Int32) + (u_1.2.2.2.2.2.2.2.2.2.1 14)).toNatClampNeg p1) 14) + (1 : Int32)) → (post (u_1.1, u_1.2.1, u_1.2.2.1, u_1.2.2.2.1, u_1.2.2.2.2.1, u_1.2.2.2.2.2.1, u_1.2.2.2.2.2.2.1, u_1.2.2.2.2.2.2.2.1, u_1.2.2.2.2.2.2.2.2.1, (upd (upd u_1.2.2.2.2.2.2.2.2.2.1 ((428 : Int32) + (u_1.2.2.2.2.2.2.2.2.2.1 14)).toNatClampNeg p1) 14 x_5), u_1.2.2.2.2.2.2.2.2.2.2.1, u_1.2.2.2.2.2.2.2.2.2.2.2.1, u_1.2.2.2.2.2.2.2.2.2.2.2.2.1, u_1.2.2.2.2.2.2.2.2.2.2.2.2.2.1, u_1.2.2.2.2.2.2.2.2.2.2.2.2.2.2.1, u_1.2.2.2.2.2.2.2.2.2.2.2.2.2.2.2.1, u_1.2.2.2.2.2.2.2.2.2.2.2.2.2.2.2.2.1, u_1.2.2.2.2.2.2.2.2.2.2.2.2.2.2.2.2.2.1, u_1.2.2.2.2.2.2.2.2.2.2.2.2.2.2.2.2.2.2.1, u_1.2.2.2.2.2.2.2.2.2.2.2.2.2.2.2.2.2.2.2.1, u_1.2.2.2.2.2.2.2.2.2.2.2.2.2.2.2.2.2.2.2.2.1, u_1.2.2.2.2.2.2.2.2.2.2.2.2.2.2.2.2.2.2.2.2.2))))) ∧ (r_2 = 0 → (post u_1)))
set_option maxHeartbeats 4000000 in
set_option maxRecDepth 100000 in
theorem c_X10_emit (l : Launch) (E : zE) (Z : zZ) (hZ0 : zSt Z) (q0 : Nat → Nat) (sz : Nat) (u0 : S_X10) (p1 : Int32) (post : S_X10 → Prop) (hw : wp_X10_emit u0 p1 post) : Met l yX10_emit (zws yX10_emit cX10_emit 2 none) r_X10_emit (va_Pc [.ref (q0 0), .int p1] (zPre Z E (k_X10 E q0 u0) sz)) (va_Qv post (zAt E (va_A (k_X10 E q0 u0) sz) (fun u => k_X10 E q0 u)) (va_A (k_X10 E q0 u0) sz)) 0 0 (va_A (k_X10 E q0 u0) sz) := by
  refine z_ofW (Qf := fun A => va_Qv post (zAt E A (fun u => k_X10 E q0 u)) A) (by decide) (Nat.le_of_ble_eq_true rfl) ?_
  intro p e s m args below meth c A ls C0 hA hK hZ hP hD hS hl
  obtain ⟨hx, hb, hml, hr, hown, hts, hlocks, hin⟩ := id C0
  have hown : s.vm.findClass RX10 = some m.cls := hown
  have hl : lv_has ls 2 [(0, .ref (q0 0)), (1, .int p1)] := hl
  refine lv_aload_n hx hb dX10_emit_0 rfl (lv_at hl 0 rfl) ?_
  refine z_ki (z_rV (rest := []) hZ0 C0 hK hZ hA hP hD hS hl.1 (c_X10_isGood l E Z hZ0 q0 s.heap.size u0 _ hw) yv_X10_78 [0, 1, 2, 3, 4, 5, 6, 7, 8, 9] rfl (by decide) (ci := 10) rfl rfl 0 rfl ⟨Nat.le_of_ble_eq_true rfl, Nat.le_of_ble_eq_true rfl⟩ ⟨rfl, rfl⟩ rfl rfl (Nat.le_of_ble_eq_true rfl) ⟨Nat.le_of_ble_eq_true rfl, Nat.le_of_ble_eq_true rfl⟩ dX10_emit_1) hP hD hS hA [0, 1, 2, 3, 4, 5, 6, 7, 8, 9] [] [0, 1, 2, 3, 4, 5, 6, 7, 8, 9] rfl (wr := []) rfl (by decide) (by decide) (fun u => k_X10 E q0 u) (fun u => rfl) (by decide) (fun r_2 u_1 H locs hw hP hD hS => ?_)
  obtain ⟨hwt, hwf⟩ := hw
  refine lv_if_ne (tgt := 8) hx hb dX10_emit_4 (by decide) (fun c_3 => ?_) (fun c_3 => ?_)
  · have hw := hwt c_3
    refine lv_aload_n hx hb dX10_emit_8 rfl (lv_at hl 0 rfl) ?_
    refine va_get (D := zD E) (ci := 10) (v := .ref (q0 3)) (C := RX10) (T := TX10) (N := 24) hx hb hts uw_X10 hown hK hP 0 rfl rfl 9 (by decide) (hts _ wm_5_125) (fun _ h9 => h9) rfl dX10_emit_9 ?_
    refine lv_sipush (v := 428) hx hb dX10_emit_12 rfl ?_
    refine lv_aload_n hx hb dX10_emit_15 rfl (lv_at hl 0 rfl) ?_
    refine va_get (D := zD E) (ci := 10) (v := .ref (q0 3)) (C := RX10) (T := TX10) (N := 24) hx hb hts uw_X10 hown hK hP 0 rfl rfl 9 (by decide) (hts _ wm_5_125) (fun _ h9 => h9) rfl dX10_emit_16 ?_
    refine lv_bipush (v := 14) hx hb dX10_emit_19 rfl ?_
    refine va_iald hx hb hK hP 3 0 rfl rfl (show ¬ ((14 : Int32) < 0 ∨ 1728 ≤ (14 : Int32).toNatClampNeg) by decide) dX10_emit_21 ?_
    refine W.eq (g2 := F0 m 22 ls ([.int (u_1.2.2.2.2.2.2.2.2.2.1 14), .int (428 : Int32), .ref (q0 3)])) rfl ?_
    refine lv_iadd hx hb dX10_emit_22 ?_
    refine lv_iload_n hx hb dX10_emit_23 rfl (lv_at hl 1 rfl) ?_
    obtain ⟨h_4, hw⟩ := hw
    refine va_iast hx hb hK hP hD hS 3 0 rfl rfl h_4 dX10_emit_24 (fun H locs hP hD hS => ?_)
    have hP : va_P (zD E) vwCl (k_X10 E q0 (u_1.1, u_1.2.1, u_1.2.2.1, u_1.2.2.2.1, u_1.2.2.2.2.1, u_1.2.2.2.2.2.1, u_1.2.2.2.2.2.2.1, u_1.2.2.2.2.2.2.2.1, u_1.2.2.2.2.2.2.2.2.1, (upd u_1.2.2.2.2.2.2.2.2.2.1 ((428 : Int32) + (u_1.2.2.2.2.2.2.2.2.2.1 14)).toNatClampNeg p1), u_1.2.2.2.2.2.2.2.2.2.2.1, u_1.2.2.2.2.2.2.2.2.2.2.2.1, u_1.2.2.2.2.2.2.2.2.2.2.2.2.1, u_1.2.2.2.2.2.2.2.2.2.2.2.2.2.1, u_1.2.2.2.2.2.2.2.2.2.2.2.2.2.2.1, u_1.2.2.2.2.2.2.2.2.2.2.2.2.2.2.2.1, u_1.2.2.2.2.2.2.2.2.2.2.2.2.2.2.2.2.1, u_1.2.2.2.2.2.2.2.2.2.2.2.2.2.2.2.2.2.1, u_1.2.2.2.2.2.2.2.2.2.2.2.2.2.2.2.2.2.2.1, u_1.2.2.2.2.2.2.2.2.2.2.2.2.2.2.2.2.2.2.2.1, u_1.2.2.2.2.2.2.2.2.2.2.2.2.2.2.2.2.2.2.2.2.1, u_1.2.2.2.2.2.2.2.2.2.2.2.2.2.2.2.2.2.2.2.2.2)) H := hP
    have hD : va_D A (k_X10 E q0 (u_1.1, u_1.2.1, u_1.2.2.1, u_1.2.2.2.1, u_1.2.2.2.2.1, u_1.2.2.2.2.2.1, u_1.2.2.2.2.2.2.1, u_1.2.2.2.2.2.2.2.1, u_1.2.2.2.2.2.2.2.2.1, (upd u_1.2.2.2.2.2.2.2.2.2.1 ((428 : Int32) + (u_1.2.2.2.2.2.2.2.2.2.1 14)).toNatClampNeg p1), u_1.2.2.2.2.2.2.2.2.2.2.1, u_1.2.2.2.2.2.2.2.2.2.2.2.1, u_1.2.2.2.2.2.2.2.2.2.2.2.2.1, u_1.2.2.2.2.2.2.2.2.2.2.2.2.2.1, u_1.2.2.2.2.2.2.2.2.2.2.2.2.2.2.1, u_1.2.2.2.2.2.2.2.2.2.2.2.2.2.2.2.1, u_1.2.2.2.2.2.2.2.2.2.2.2.2.2.2.2.2.1, u_1.2.2.2.2.2.2.2.2.2.2.2.2.2.2.2.2.2.1, u_1.2.2.2.2.2.2.2.2.2.2.2.2.2.2.2.2.2.2.1, u_1.2.2.2.2.2.2.2.2.2.2.2.2.2.2.2.2.2.2.2.1, u_1.2.2.2.2.2.2.2.2.2.2.2.2.2.2.2.2.2.2.2.2.1, u_1.2.2.2.2.2.2.2.2.2.2.2.2.2.2.2.2.2.2.2.2.2)) := hD
    refine lv_aload_n hx hb dX10_emit_25 rfl (lv_at hl 0 rfl) ?_
    refine va_get (D := zD E) (ci := 10) (v := .ref (q0 3)) (C := RX10) (T := TX10) (N := 24) hx hb hts uw_X10 hown hK hP 0 rfl rfl 9 (by decide) (hts _ wm_5_125) (fun _ h9 => h9) rfl dX10_emit_26 ?_
    refine lv_bipush (v := 14) hx hb dX10_emit_29 rfl ?_
    refine lv_dup2_11 hx hb dX10_emit_31 rfl rfl ?_
    refine va_iald hx hb hK hP 3 0 rfl rfl (show ¬ ((14 : Int32) < 0 ∨ 1728 ≤ (14 : Int32).toNatClampNeg) by decide) dX10_emit_32 ?_
    refine W.eq (g2 := F0 m 33 ls ([.int ((upd u_1.2.2.2.2.2.2.2.2.2.1 ((428 : Int32) + (u_1.2.2.2.2.2.2.2.2.2.1 14)).toNatClampNeg p1) 14), .int (14 : Int32), .ref (q0 3)])) rfl ?_
    refine lv_iconst (v := 1) hx hb dX10_emit_33 rfl ?_
    refine lv_iadd hx hb dX10_emit_34 ?_
    refine lv_topi (fun x_5 ex_5 => ?_)
    have hw := hw x_5 ex_5
    refine va_iast hx hb hK hP hD hS 3 0 rfl rfl (show ¬ ((14 : Int32) < 0 ∨ 1728 ≤ (14 : Int32).toNatClampNeg) by decide) dX10_emit_35 (fun H locs hP hD hS => ?_)
    have hP : va_P (zD E) vwCl (k_X10 E q0 (u_1.1, u_1.2.1, u_1.2.2.1, u_1.2.2.2.1, u_1.2.2.2.2.1, u_1.2.2.2.2.2.1, u_1.2.2.2.2.2.2.1, u_1.2.2.2.2.2.2.2.1, u_1.2.2.2.2.2.2.2.2.1, (upd (upd u_1.2.2.2.2.2.2.2.2.2.1 ((428 : Int32) + (u_1.2.2.2.2.2.2.2.2.2.1 14)).toNatClampNeg p1) 14 x_5), u_1.2.2.2.2.2.2.2.2.2.2.1, u_1.2.2.2.2.2.2.2.2.2.2.2.1, u_1.2.2.2.2.2.2.2.2.2.2.2.2.1, u_1.2.2.2.2.2.2.2.2.2.2.2.2.2.1, u_1.2.2.2.2.2.2.2.2.2.2.2.2.2.2.1, u_1.2.2.2.2.2.2.2.2.2.2.2.2.2.2.2.1, u_1.2.2.2.2.2.2.2.2.2.2.2.2.2.2.2.2.1, u_1.2.2.2.2.2.2.2.2.2.2.2.2.2.2.2.2.2.1, u_1.2.2.2.2.2.2.2.2.2.2.2.2.2.2.2.2.2.2.1, u_1.2.2.2.2.2.2.2.2.2.2.2.2.2.2.2.2.2.2.2.1, u_1.2.2.2.2.2.2.2.2.2.2.2.2.2.2.2.2.2.2.2.2.1, u_1.2.2.2.2.2.2.2.2.2.2.2.2.2.2.2.2.2.2.2.2.2)) H := hP
    have hD : va_D A (k_X10 E q0 (u_1.1, u_1.2.1, u_1.2.2.1, u_1.2.2.2.1, u_1.2.2.2.2.1, u_1.2.2.2.2.2.1, u_1.2.2.2.2.2.2.1, u_1.2.2.2.2.2.2.2.1, u_1.2.2.2.2.2.2.2.2.1, (upd (upd u_1.2.2.2.2.2.2.2.2.2.1 ((428 : Int32) + (u_1.2.2.2.2.2.2.2.2.2.1 14)).toNatClampNeg p1) 14 x_5), u_1.2.2.2.2.2.2.2.2.2.2.1, u_1.2.2.2.2.2.2.2.2.2.2.2.1, u_1.2.2.2.2.2.2.2.2.2.2.2.2.1, u_1.2.2.2.2.2.2.2.2.2.2.2.2.2.1, u_1.2.2.2.2.2.2.2.2.2.2.2.2.2.2.1, u_1.2.2.2.2.2.2.2.2.2.2.2.2.2.2.2.1, u_1.2.2.2.2.2.2.2.2.2.2.2.2.2.2.2.2.1, u_1.2.2.2.2.2.2.2.2.2.2.2.2.2.2.2.2.2.1, u_1.2.2.2.2.2.2.2.2.2.2.2.2.2.2.2.2.2.2.1, u_1.2.2.2.2.2.2.2.2.2.2.2.2.2.2.2.2.2.2.2.1, u_1.2.2.2.2.2.2.2.2.2.2.2.2.2.2.2.2.2.2.2.2.1, u_1.2.2.2.2.2.2.2.2.2.2.2.2.2.2.2.2.2.2.2.2.2)) := hD
    exact z_vret (k := (fun u => k_X10 E q0 u)) (u_1.1, u_1.2.1, u_1.2.2.1, u_1.2.2.2.1, u_1.2.2.2.2.1, u_1.2.2.2.2.2.1, u_1.2.2.2.2.2.2.1, u_1.2.2.2.2.2.2.2.1, u_1.2.2.2.2.2.2.2.2.1, (upd (upd u_1.2.2.2.2.2.2.2.2.2.1 ((428 : Int32) + (u_1.2.2.2.2.2.2.2.2.2.1 14)).toNatClampNeg p1) 14 x_5), u_1.2.2.2.2.2.2.2.2.2.2.1, u_1.2.2.2.2.2.2.2.2.2.2.2.1, u_1.2.2.2.2.2.2.2.2.2.2.2.2.1, u_1.2.2.2.2.2.2.2.2.2.2.2.2.2.1, u_1.2.2.2.2.2.2.2.2.2.2.2.2.2.2.1, u_1.2.2.2.2.2.2.2.2.2.2.2.2.2.2.2.1, u_1.2.2.2.2.2.2.2.2.2.2.2.2.2.2.2.2.1, u_1.2.2.2.2.2.2.2.2.2.2.2.2.2.2.2.2.2.1, u_1.2.2.2.2.2.2.2.2.2.2.2.2.2.2.2.2.2.2.1, u_1.2.2.2.2.2.2.2.2.2.2.2.2.2.2.2.2.2.2.2.1, u_1.2.2.2.2.2.2.2.2.2.2.2.2.2.2.2.2.2.2.2.2.1, u_1.2.2.2.2.2.2.2.2.2.2.2.2.2.2.2.2.2.2.2.2.2) C0 hP hD hS hw dX10_emit_36
  · have hw := hwf c_3
    exact z_vret (k := (fun u => k_X10 E q0 u)) u_1 C0 hP hD hS hw dX10_emit_7
abbrev r_X10_once : Room := { frames := 1, cells := 0, slots := 0, locals := 22 }
def wp_X10_once (u0 : S_X10) (p1 : Int32) (p2 : Int32) (post : S_X10 → Prop) : Prop := (¬ (((u0.2.2.2.2.2.2.2.2.2.2.2.2.2.2.2.2.1 >>> (p1 &&& 31)) &&& (1 : Int32)) = (1 : Int32)) → (∀ x_2 : Int32, x_2 = (u0.2.2.2.2.2.2.2.2.2.2.2.2.2.2.2.2.1 ||| ((1 : Int32) <<< (p1 &&& 31))) → (post (u0.1, u0.2.1, u0.2.2.1, u0.2.2.2.1, u0.2.2.2.2.1, u0.2.2.2.2.2.1, u0.2.2.2.2.2.2.1, u0.2.2.2.2.2.2.2.1, u0.2.2.2.2.2.2.2.2.1, u0.2.2.2.2.2.2.2.2.2.1, u0.2.2.2.2.2.2.2.2.2.2.1, u0.2.2.2.2.2.2.2.2.2.2.2.1, u0.2.2.2.2.2.2.2.2.2.2.2.2.1, u0.2.2.2.2.2.2.2.2.2.2.2.2.2.1, u0.2.2.2.2.2.2.2.2.2.2.2.2.2.2.1, u0.2.2.2.2.2.2.2.2.2.2.2.2.2.2.2.1, x_2, u0.2.2.2.2.2.2.2.2.2.2.2.2.2.2.2.2.2.1, u0.2.2.2.2.2.2.2.2.2.2.2.2.2.2.2.2.2.2.1, u0.2.2.2.2.2.2.2.2.2.2.2.2.2.2.2.2.2.2.2.1, u0.2.2.2.2.2.2.2.2.2.2.2.2.2.2.2.2.2.2.2.2.1, u0.2.2.2.2.2.2.2.2.2.2.2.2.2.2.2.2.2.2.2.2.2)))) ∧ (((u0.2.2.2.2.2.2.2.2.2.2.2.2.2.2.2.2.1 >>> (p1 &&& 31)) &&& (1 : Int32)) = (1 : Int32) → (wp_X10_report u0 (-2 : Int32) p2 (fun u_3 => ∀ x_5 : Int32, x_5 = (u_3.2.2.2.2.2.2.2.2.2.2.2.2.2.2.2.2.1 ||| ((1 : Int32) <<< (p1 &&& 31))) → (post (u_3.1, u_3.2.1, u_3.2.2.1, u_3.2.2.2.1, u_3.2.2.2.2.1, u_3.2.2.2.2.2.1, u_3.2.2.2.2.2.2.1, u_3.2.2.2.2.2.2.2.1, u_3.2.2.2.2.2.2.2.2.1, u_3.2.2.2.2.2.2.2.2.2.1, u_3.2.2.2.2.2.2.2.2.2.2.1, u_3.2.2.2.2.2.2.2.2.2.2.2.1, u_3.2.2.2.2.2.2.2.2.2.2.2.2.1, u_3.2.2.2.2.2.2.2.2.2.2.2.2.2.1, u_3.2.2.2.2.2.2.2.2.2.2.2.2.2.2.1, u_3.2.2.2.2.2.2.2.2.2.2.2.2.2.2.2.1, x_5, u_3.2.2.2.2.2.2.2.2.2.2.2.2.2.2.2.2.2.1, u_3.2.2.2.2.2.2.2.2.2.2.2.2.2.2.2.2.2.2.1, u_3.2.2.2.2.2.2.2.2.2.2.2.2.2.2.2.2.2.2.2.1, u_3.2.2.2.2.2.2.2.2.2.2.2.2.2.2.2.2.2.2.2.2.1, u_3.2.2.2.2.2.2.2.2.2.2.2.2.2.2.2.2.2.2.2.2.2)))))
set_option maxHeartbeats 4000000 in
set_option maxRecDepth 100000 in
theorem c_X10_once (l : Launch) (E : zE) (Z : zZ) (hZ0 : zSt Z) (q0 : Nat → Nat) (sz : Nat) (u0 : S_X10) (p1 : Int32) (p2 : Int32) (post : S_X10 → Prop) (hw : wp_X10_once u0 p1 p2 post) : Met l yX10_once (zws yX10_once cX10_once 3 none) r_X10_once (va_Pc [.ref (q0 0), .int p1, .int p2] (zPre Z E (k_X10 E q0 u0) sz)) (va_Qv post (zAt E (va_A (k_X10 E q0 u0) sz) (fun u => k_X10 E q0 u)) (va_A (k_X10 E q0 u0) sz)) 0 0 (va_A (k_X10 E q0 u0) sz) := by
  refine z_ofW (Qf := fun A => va_Qv post (zAt E A (fun u => k_X10 E q0 u)) A) (by decide) (Nat.le_of_ble_eq_true rfl) ?_
  intro p e s m args below meth c A ls C0 hA hK hZ hP hD hS hl
  obtain ⟨hx, hb, hml, hr, hown, hts, hlocks, hin⟩ := id C0
  have hown : s.vm.findClass RX10 = some m.cls := hown
  have hl : lv_has ls 3 [(0, .ref (q0 0)), (1, .int p1), (2, .int p2)] := hl
  refine lv_aload_n hx hb dX10_once_0 rfl (lv_at hl 0 rfl) ?_
  refine va_get (D := zD E) (ci := 10) (v := .int u0.2.2.2.2.2.2.2.2.2.2.2.2.2.2.2.2.1) (C := RX10) (T := TX10) (N := 24) hx hb hts uw_X10 hown hK hP 0 rfl rfl 18 (by decide) (hts _ wm_5_134) (fun _ h9 => h9) rfl dX10_once_1 ?_
  refine lv_iload_n hx hb dX10_once_4 rfl (lv_at hl 1 rfl) ?_
  refine lv_ishr hx hb dX10_once_5 ?_
  refine lv_iconst (v := 1) hx hb dX10_once_6 rfl ?_
  refine lv_iand hx hb dX10_once_7 ?_
  refine lv_iconst (v := 1) hx hb dX10_once_8 rfl ?_
  obtain ⟨hwt, hwf⟩ := hw
  refine lv_icmp_ne (tgt := 19) hx hb dX10_once_9 (by decide) (fun c_1 => ?_) (fun c_1 => ?_)
  · have hw := hwt c_1
    refine lv_aload_n hx hb dX10_once_19 rfl (lv_at hl 0 rfl) ?_
    refine lv_dup hx hb dX10_once_20 rfl ?_
    refine va_get (D := zD E) (ci := 10) (v := .int u0.2.2.2.2.2.2.2.2.2.2.2.2.2.2.2.2.1) (C := RX10) (T := TX10) (N := 24) hx hb hts uw_X10 hown hK hP 0 rfl rfl 18 (by decide) (hts _ wm_5_134) (fun _ h9 => h9) rfl dX10_once_21 ?_
    refine lv_iconst (v := 1) hx hb dX10_once_24 rfl ?_
    refine lv_iload_n hx hb dX10_once_25 rfl (lv_at hl 1 rfl) ?_
    refine lv_ishl hx hb dX10_once_26 ?_
    refine lv_ior hx hb dX10_once_27 ?_
    refine lv_topi (fun x_2 ex_2 => ?_)
    have hw := hw x_2 ex_2
    refine va_put (D := zD E) (ci := 10) (v := .int x_2) (ty := .int) (C := RX10) (T := TX10) (N := 24) hx hb hts uw_X10 tyX10 tyX10_ok nmX10 hown hK hP hD hS 0 rfl rfl 18 (by decide) (hts _ wm_5_134) (fun _ h9 => h9) rfl (by decide +kernel) rfl rfl (Nat.le_of_ble_eq_true rfl) dX10_once_28 (fun H locs hP hD hS => ?_)
    have hP : va_P (zD E) vwCl (k_X10 E q0 (u0.1, u0.2.1, u0.2.2.1, u0.2.2.2.1, u0.2.2.2.2.1, u0.2.2.2.2.2.1, u0.2.2.2.2.2.2.1, u0.2.2.2.2.2.2.2.1, u0.2.2.2.2.2.2.2.2.1, u0.2.2.2.2.2.2.2.2.2.1, u0.2.2.2.2.2.2.2.2.2.2.1, u0.2.2.2.2.2.2.2.2.2.2.2.1, u0.2.2.2.2.2.2.2.2.2.2.2.2.1, u0.2.2.2.2.2.2.2.2.2.2.2.2.2.1, u0.2.2.2.2.2.2.2.2.2.2.2.2.2.2.1, u0.2.2.2.2.2.2.2.2.2.2.2.2.2.2.2.1, x_2, u0.2.2.2.2.2.2.2.2.2.2.2.2.2.2.2.2.2.1, u0.2.2.2.2.2.2.2.2.2.2.2.2.2.2.2.2.2.2.1, u0.2.2.2.2.2.2.2.2.2.2.2.2.2.2.2.2.2.2.2.1, u0.2.2.2.2.2.2.2.2.2.2.2.2.2.2.2.2.2.2.2.2.1, u0.2.2.2.2.2.2.2.2.2.2.2.2.2.2.2.2.2.2.2.2.2)) H := hP
    have hD : va_D A (k_X10 E q0 (u0.1, u0.2.1, u0.2.2.1, u0.2.2.2.1, u0.2.2.2.2.1, u0.2.2.2.2.2.1, u0.2.2.2.2.2.2.1, u0.2.2.2.2.2.2.2.1, u0.2.2.2.2.2.2.2.2.1, u0.2.2.2.2.2.2.2.2.2.1, u0.2.2.2.2.2.2.2.2.2.2.1, u0.2.2.2.2.2.2.2.2.2.2.2.1, u0.2.2.2.2.2.2.2.2.2.2.2.2.1, u0.2.2.2.2.2.2.2.2.2.2.2.2.2.1, u0.2.2.2.2.2.2.2.2.2.2.2.2.2.2.1, u0.2.2.2.2.2.2.2.2.2.2.2.2.2.2.2.1, x_2, u0.2.2.2.2.2.2.2.2.2.2.2.2.2.2.2.2.2.1, u0.2.2.2.2.2.2.2.2.2.2.2.2.2.2.2.2.2.2.1, u0.2.2.2.2.2.2.2.2.2.2.2.2.2.2.2.2.2.2.2.1, u0.2.2.2.2.2.2.2.2.2.2.2.2.2.2.2.2.2.2.2.2.1, u0.2.2.2.2.2.2.2.2.2.2.2.2.2.2.2.2.2.2.2.2.2)) := hD
    exact z_vret (k := (fun u => k_X10 E q0 u)) (u0.1, u0.2.1, u0.2.2.1, u0.2.2.2.1, u0.2.2.2.2.1, u0.2.2.2.2.2.1, u0.2.2.2.2.2.2.1, u0.2.2.2.2.2.2.2.1, u0.2.2.2.2.2.2.2.2.1, u0.2.2.2.2.2.2.2.2.2.1, u0.2.2.2.2.2.2.2.2.2.2.1, u0.2.2.2.2.2.2.2.2.2.2.2.1, u0.2.2.2.2.2.2.2.2.2.2.2.2.1, u0.2.2.2.2.2.2.2.2.2.2.2.2.2.1, u0.2.2.2.2.2.2.2.2.2.2.2.2.2.2.1, u0.2.2.2.2.2.2.2.2.2.2.2.2.2.2.2.1, x_2, u0.2.2.2.2.2.2.2.2.2.2.2.2.2.2.2.2.2.1, u0.2.2.2.2.2.2.2.2.2.2.2.2.2.2.2.2.2.2.1, u0.2.2.2.2.2.2.2.2.2.2.2.2.2.2.2.2.2.2.2.1, u0.2.2.2.2.2.2.2.2.2.2.2.2.2.2.2.2.2.2.2.2.1, u0.2.2.2.2.2.2.2.2.2.2.2.2.2.2.2.2.2.2.2.2.2) C0 hP hD hS hw dX10_once_31
  · have hw := hwf c_1
    refine lv_aload_n hx hb dX10_once_12 rfl (lv_at hl 0 rfl) ?_
    refine lv_bipush (v := (-2)) hx hb dX10_once_13 rfl ?_
    refine lv_iload_n hx hb dX10_once_15 rfl (lv_at hl 2 rfl) ?_
    refine z_kv (z_rV (rest := []) hZ0 C0 hK hZ hA hP hD hS hl.1 (c_X10_report l E Z hZ0 q0 s.heap.size u0 (-2 : Int32) p2 _ hw) yv_X10_95 [0, 1, 2, 3, 4, 5, 6, 7, 8, 9] rfl (by decide) (ci := 10) rfl rfl 0 rfl ⟨Nat.le_of_ble_eq_true rfl, Nat.le_of_ble_eq_true rfl⟩ ⟨rfl, rfl⟩ rfl rfl (Nat.le_of_ble_eq_true rfl) ⟨Nat.le_of_ble_eq_true rfl, Nat.le_of_ble_eq_true rfl⟩ dX10_once_16) hP hD hS hA [0, 1, 2, 3, 4, 5, 6, 7, 8, 9] [] [0, 1, 2, 3, 4, 5, 6, 7, 8, 9] rfl (wr := []) rfl (by decide) (by decide) (fun u => k_X10 E q0 u) (fun u => rfl) (by decide) (fun u_3 H locs hw hP hD hS => ?_)
    refine lv_aload_n hx hb dX10_once_19 rfl (lv_at hl 0 rfl) ?_
    refine lv_dup hx hb dX10_once_20 rfl ?_
    refine va_get (D := zD E) (ci := 10) (v := .int u_3.2.2.2.2.2.2.2.2.2.2.2.2.2.2.2.2.1) (C := RX10) (T := TX10) (N := 24) hx hb hts uw_X10 hown hK hP 0 rfl rfl 18 (by decide) (hts _ wm_5_134) (fun _ h9 => h9) rfl dX10_once_21 ?_
    refine lv_iconst (v := 1) hx hb dX10_once_24 rfl ?_
    refine lv_iload_n hx hb dX10_once_25 rfl (lv_at hl 1 rfl) ?_
    refine lv_ishl hx hb dX10_once_26 ?_
    refine lv_ior hx hb dX10_once_27 ?_
    refine lv_topi (fun x_5 ex_5 => ?_)
    have hw := hw x_5 ex_5
    refine va_put (D := zD E) (ci := 10) (v := .int x_5) (ty := .int) (C := RX10) (T := TX10) (N := 24) hx hb hts uw_X10 tyX10 tyX10_ok nmX10 hown hK hP hD hS 0 rfl rfl 18 (by decide) (hts _ wm_5_134) (fun _ h9 => h9) rfl (by decide +kernel) rfl rfl (Nat.le_of_ble_eq_true rfl) dX10_once_28 (fun H locs hP hD hS => ?_)
    have hP : va_P (zD E) vwCl (k_X10 E q0 (u_3.1, u_3.2.1, u_3.2.2.1, u_3.2.2.2.1, u_3.2.2.2.2.1, u_3.2.2.2.2.2.1, u_3.2.2.2.2.2.2.1, u_3.2.2.2.2.2.2.2.1, u_3.2.2.2.2.2.2.2.2.1, u_3.2.2.2.2.2.2.2.2.2.1, u_3.2.2.2.2.2.2.2.2.2.2.1, u_3.2.2.2.2.2.2.2.2.2.2.2.1, u_3.2.2.2.2.2.2.2.2.2.2.2.2.1, u_3.2.2.2.2.2.2.2.2.2.2.2.2.2.1, u_3.2.2.2.2.2.2.2.2.2.2.2.2.2.2.1, u_3.2.2.2.2.2.2.2.2.2.2.2.2.2.2.2.1, x_5, u_3.2.2.2.2.2.2.2.2.2.2.2.2.2.2.2.2.2.1, u_3.2.2.2.2.2.2.2.2.2.2.2.2.2.2.2.2.2.2.1, u_3.2.2.2.2.2.2.2.2.2.2.2.2.2.2.2.2.2.2.2.1, u_3.2.2.2.2.2.2.2.2.2.2.2.2.2.2.2.2.2.2.2.2.1, u_3.2.2.2.2.2.2.2.2.2.2.2.2.2.2.2.2.2.2.2.2.2)) H := hP
    have hD : va_D A (k_X10 E q0 (u_3.1, u_3.2.1, u_3.2.2.1, u_3.2.2.2.1, u_3.2.2.2.2.1, u_3.2.2.2.2.2.1, u_3.2.2.2.2.2.2.1, u_3.2.2.2.2.2.2.2.1, u_3.2.2.2.2.2.2.2.2.1, u_3.2.2.2.2.2.2.2.2.2.1, u_3.2.2.2.2.2.2.2.2.2.2.1, u_3.2.2.2.2.2.2.2.2.2.2.2.1, u_3.2.2.2.2.2.2.2.2.2.2.2.2.1, u_3.2.2.2.2.2.2.2.2.2.2.2.2.2.1, u_3.2.2.2.2.2.2.2.2.2.2.2.2.2.2.1, u_3.2.2.2.2.2.2.2.2.2.2.2.2.2.2.2.1, x_5, u_3.2.2.2.2.2.2.2.2.2.2.2.2.2.2.2.2.2.1, u_3.2.2.2.2.2.2.2.2.2.2.2.2.2.2.2.2.2.2.1, u_3.2.2.2.2.2.2.2.2.2.2.2.2.2.2.2.2.2.2.2.1, u_3.2.2.2.2.2.2.2.2.2.2.2.2.2.2.2.2.2.2.2.2.1, u_3.2.2.2.2.2.2.2.2.2.2.2.2.2.2.2.2.2.2.2.2.2)) := hD
    exact z_vret (k := (fun u => k_X10 E q0 u)) (u_3.1, u_3.2.1, u_3.2.2.1, u_3.2.2.2.1, u_3.2.2.2.2.1, u_3.2.2.2.2.2.1, u_3.2.2.2.2.2.2.1, u_3.2.2.2.2.2.2.2.1, u_3.2.2.2.2.2.2.2.2.1, u_3.2.2.2.2.2.2.2.2.2.1, u_3.2.2.2.2.2.2.2.2.2.2.1, u_3.2.2.2.2.2.2.2.2.2.2.2.1, u_3.2.2.2.2.2.2.2.2.2.2.2.2.1, u_3.2.2.2.2.2.2.2.2.2.2.2.2.2.1, u_3.2.2.2.2.2.2.2.2.2.2.2.2.2.2.1, u_3.2.2.2.2.2.2.2.2.2.2.2.2.2.2.2.1, x_5, u_3.2.2.2.2.2.2.2.2.2.2.2.2.2.2.2.2.2.1, u_3.2.2.2.2.2.2.2.2.2.2.2.2.2.2.2.2.2.2.1, u_3.2.2.2.2.2.2.2.2.2.2.2.2.2.2.2.2.2.2.2.1, u_3.2.2.2.2.2.2.2.2.2.2.2.2.2.2.2.2.2.2.2.2.1, u_3.2.2.2.2.2.2.2.2.2.2.2.2.2.2.2.2.2.2.2.2.2) C0 hP hD hS hw dX10_once_31
