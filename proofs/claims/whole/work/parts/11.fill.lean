abbrev r_J7_fill_53178 : Room := { frames := 0, cells := 0, slots := 0, locals := 0 }
def j_J7_fill_53178_5 (K5 : (Int32 × Int32 × Int32 × (Nat → Int32)) → Prop) (x1 : Int32) (x2 : Int32) (x3 : Int32) (u0 : (Nat → Int32)) (post : (Nat → Int32) → Prop) : Prop := (x3 ≤ x2 → (post u0)) ∧ (¬ (x3 ≤ x2) → (vp_in x2 40 ∧ (∀ x_3 : Int32, x_3 = x2 + 1 → (K5 (x1, x_3, x3, (upd u0 x2.toNatClampNeg x1))))))
def wp_J7_fill_53178 (u0 : (Nat → Int32)) (p1 : Int32) (post : (Nat → Int32) → Prop) : Prop := ∃ n, zl (fun K st => j_J7_fill_53178_5 K st.1 st.2.1 st.2.2.1 st.2.2.2 post) n (p1, (0 : Int32), (40 : Int32), u0)
set_option maxHeartbeats 4000000 in
set_option maxRecDepth 100000 in
theorem t_J7_fill_53178_5 {p : Program} {l : Launch} {e : Env} {s : State} {m : MethodId} {args : Array Value} {below : List Frame} {meth : Method} {c : Code} {Z : zZ} {E : zE} {A : Nat → Prop} {q0 : Nat → Nat} (hZ0 : zSt Z) (C0 : zC p s m args meth c yJ7_fill_53178 cJ7_fill_53178 4 none) (hA : ∀ q : Nat, s.heap.size ≤ q → A q) (hK : va_K (zD E) vwCl (zT E) s) (hZ : Z A s s.heap) (post : (Nat → Int32) → Prop) : ∀ (n : Nat) (x1 : Int32) (x2 : Int32) (x3 : Int32) (u0 : (Nat → Int32)) (H : Heap) (locs : List Loc) (ls : Array Slot), zl (fun K st => j_J7_fill_53178_5 K st.1 st.2.1 st.2.2.1 st.2.2.2 post) n (x1, x2, x3, u0) → va_P (zD E) vwCl (k_AI E 40 q0 u0) H → va_D A (k_AI E 40 q0 u0) → va_S A s.heap H locs → lv_has ls 4 [(0, .ref (q0 0)), (1, .int x1), (2, .int x2), (3, .int x3)] → W p l e r_J7_fill_53178 s m args below meth c H locs 0 0 (MQ below (va_Qv post (zAt E A (fun u => k_AI E 40 q0 u)) A) args s 0 0 A) (F0 m 5 ls []) := by
  obtain ⟨hx, hb, hml, hr, hown, hts, hlocks, hin⟩ := id C0
  have hown : s.vm.findClass RJ7 = some m.cls := hown
  intro n
  induction n with
  | zero => intro x1 x2 x3 u0 H locs ls hw; exact hw.elim
  | succ n hk_5 =>
    intro x1 x2 x3 u0 H locs ls hw hP hD hS hl
    have hw : j_J7_fill_53178_5 _ x1 x2 x3 u0 post := hw
    refine lv_iload_n hx hb dJ7_fill_53178_5 rfl (lv_at hl 2 rfl) ?_
    refine lv_iload_n hx hb dJ7_fill_53178_6 rfl (lv_at hl 3 rfl) ?_
    obtain ⟨hwt, hwf⟩ := hw
    refine lv_icmp_ge (tgt := 20) hx hb dJ7_fill_53178_7 (by decide) (fun c_1 => ?_) (fun c_1 => ?_)
    · have hw := hwt c_1
      exact z_vret (k := (fun u => k_AI E 40 q0 u)) u0 C0 hP hD hS hw dJ7_fill_53178_20
    · have hw := hwf c_1
      refine lv_aload_n hx hb dJ7_fill_53178_10 rfl (lv_at hl 0 rfl) ?_
      refine lv_iload_n hx hb dJ7_fill_53178_11 rfl (lv_at hl 2 rfl) ?_
      refine lv_iload_n hx hb dJ7_fill_53178_12 rfl (lv_at hl 1 rfl) ?_
      obtain ⟨h_2, hw⟩ := hw
      refine va_iast hx hb hK hP hD hS 0 0 rfl rfl h_2 dJ7_fill_53178_13 (fun H locs hP hD hS => ?_)
      have hP : va_P (zD E) vwCl (k_AI E 40 q0 (upd u0 x2.toNatClampNeg x1)) H := hP
      have hD : va_D A (k_AI E 40 q0 (upd u0 x2.toNatClampNeg x1)) := hD
      obtain ⟨x_3, ex_3⟩ : ∃ y : Int32, y = x2 + 1 := ⟨_, rfl⟩
      have hw := hw x_3 ex_3
      refine lv_iinc (v := x_3) (lv' := [(2, .int x_3), (0, .ref (q0 0)), (1, .int x1), (3, .int x3)]) hx hb dJ7_fill_53178_14 hl (k := 2) rfl (by rw [ex_3]; rfl) (by decide) rfl (fun ls hl => ?_)
      refine lv_goto (tgt := 5) hx hb dJ7_fill_53178_17 (by decide) ?_
      exact hk_5 x1 x_3 x3 (upd u0 x2.toNatClampNeg x1) _ _ _ hw hP hD hS (lv_sub hl [1, 2, 0, 3] rfl)
set_option maxHeartbeats 4000000 in
set_option maxRecDepth 100000 in
theorem c_J7_fill_53178 (l : Launch) (E : zE) (Z : zZ) (hZ0 : zSt Z) (q0 : Nat → Nat) (sz : Nat) (u0 : (Nat → Int32)) (p1 : Int32) (post : (Nat → Int32) → Prop) (hw : wp_J7_fill_53178 u0 p1 post) : Met l yJ7_fill_53178 (zws yJ7_fill_53178 cJ7_fill_53178 4 none) r_J7_fill_53178 (va_Pc [.ref (q0 0), .int p1] (zPre Z E (k_AI E 40 q0 u0) sz)) (va_Qv post (zAt E (va_A (k_AI E 40 q0 u0) sz) (fun u => k_AI E 40 q0 u)) (va_A (k_AI E 40 q0 u0) sz)) 0 0 (va_A (k_AI E 40 q0 u0) sz) := by
  refine z_ofW (Qf := fun A => va_Qv post (zAt E A (fun u => k_AI E 40 q0 u)) A) (by decide) (Nat.le_of_ble_eq_true rfl) ?_
  intro p e s m args below meth c A ls C0 hA hK hZ hP hD hS hl
  obtain ⟨hx, hb, hml, hr, hown, hts, hlocks, hin⟩ := id C0
  have hown : s.vm.findClass RJ7 = some m.cls := hown
  have hl : lv_has ls 4 [(0, .ref (q0 0)), (1, .int p1)] := hl
  refine lv_iconst (v := 0) hx hb dJ7_fill_53178_0 rfl ?_
  refine lv_istore_n (lv' := [(2, .int (0 : Int32)), (0, .ref (q0 0)), (1, .int p1)]) hx hb dJ7_fill_53178_1 rfl hl (by decide) rfl (fun ls hl => ?_)
  refine lv_aload_n hx hb dJ7_fill_53178_2 rfl (lv_at hl 1 rfl) ?_
  refine va_alen hx hb hK hP 0 0 rfl rfl (v := 40) rfl dJ7_fill_53178_3 ?_
  refine lv_istore_n (lv' := [(3, .int (40 : Int32)), (2, .int (0 : Int32)), (0, .ref (q0 0)), (1, .int p1)]) hx hb dJ7_fill_53178_4 rfl hl (by decide) rfl (fun ls hl => ?_)
  obtain ⟨n9, hw⟩ := hw
  exact t_J7_fill_53178_5 (l := l) hZ0 C0 hA hK hZ post n9 p1 (0 : Int32) (40 : Int32) u0 _ _ _ hw hP hD hS (lv_sub hl [2, 3, 1, 0] rfl)
abbrev r_J7_fill_d0a16 : Room := { frames := 0, cells := 0, slots := 0, locals := 0 }
def j_J7_fill_d0a16_6 (K6 : (Int64 × Int32 × Int32 × (Nat → Int64)) → Prop) (x1 : Int64) (x3 : Int32) (x4 : Int32) (u0 : (Nat → Int64)) (post : (Nat → Int64) → Prop) : Prop := (x4 ≤ x3 → (post u0)) ∧ (¬ (x4 ≤ x3) → (vp_in x3 40 ∧ (∀ x_3 : Int32, x_3 = x3 + 1 → (K6 (x1, x_3, x4, (vp_updL u0 x3.toNatClampNeg x1))))))
def wp_J7_fill_d0a16 (u0 : (Nat → Int64)) (p1 : Int64) (post : (Nat → Int64) → Prop) : Prop := ∃ n, zl (fun K st => j_J7_fill_d0a16_6 K st.1 st.2.1 st.2.2.1 st.2.2.2 post) n (p1, (0 : Int32), (40 : Int32), u0)
set_option maxHeartbeats 4000000 in
set_option maxRecDepth 100000 in
theorem t_J7_fill_d0a16_6 {p : Program} {l : Launch} {e : Env} {s : State} {m : MethodId} {args : Array Value} {below : List Frame} {meth : Method} {c : Code} {Z : zZ} {E : zE} {A : Nat → Prop} {q0 : Nat → Nat} (hZ0 : zSt Z) (C0 : zC p s m args meth c yJ7_fill_d0a16 cJ7_fill_d0a16 5 none) (hA : ∀ q : Nat, s.heap.size ≤ q → A q) (hK : va_K (zD E) vwCl (zT E) s) (hZ : Z A s s.heap) (post : (Nat → Int64) → Prop) : ∀ (n : Nat) (x1 : Int64) (x3 : Int32) (x4 : Int32) (u0 : (Nat → Int64)) (H : Heap) (locs : List Loc) (ls : Array Slot), zl (fun K st => j_J7_fill_d0a16_6 K st.1 st.2.1 st.2.2.1 st.2.2.2 post) n (x1, x3, x4, u0) → va_P (zD E) vwCl (k_AJ E 40 q0 u0) H → va_D A (k_AJ E 40 q0 u0) → va_S A s.heap H locs → lv_has ls 5 [(0, .ref (q0 0)), (1, .long x1), (3, .int x3), (4, .int x4)] → W p l e r_J7_fill_d0a16 s m args below meth c H locs 0 0 (MQ below (va_Qv post (zAt E A (fun u => k_AJ E 40 q0 u)) A) args s 0 0 A) (F0 m 6 ls []) := by
  obtain ⟨hx, hb, hml, hr, hown, hts, hlocks, hin⟩ := id C0
  have hown : s.vm.findClass RJ7 = some m.cls := hown
  intro n
  induction n with
  | zero => intro x1 x3 x4 u0 H locs ls hw; exact hw.elim
  | succ n hk_6 =>
    intro x1 x3 x4 u0 H locs ls hw hP hD hS hl
    have hw : j_J7_fill_d0a16_6 _ x1 x3 x4 u0 post := hw
    refine lv_iload_n hx hb dJ7_fill_d0a16_6 rfl (lv_at hl 2 rfl) ?_
    refine lv_iload hx hb dJ7_fill_d0a16_7 (lv_at hl 3 rfl) ?_
    obtain ⟨hwt, hwf⟩ := hw
    refine lv_icmp_ge (tgt := 22) hx hb dJ7_fill_d0a16_9 (by decide) (fun c_1 => ?_) (fun c_1 => ?_)
    · have hw := hwt c_1
      exact z_vret (k := (fun u => k_AJ E 40 q0 u)) u0 C0 hP hD hS hw dJ7_fill_d0a16_22
    · have hw := hwf c_1
      refine lv_aload_n hx hb dJ7_fill_d0a16_12 rfl (lv_at hl 0 rfl) ?_
      refine lv_iload_n hx hb dJ7_fill_d0a16_13 rfl (lv_at hl 2 rfl) ?_
      refine lv_lload_n hx hb dJ7_fill_d0a16_14 rfl (lv_at hl 1 rfl) ?_
      obtain ⟨h_2, hw⟩ := hw
      refine va_last hx hb hK hP hD hS 0 1 rfl rfl h_2 dJ7_fill_d0a16_15 (fun H locs hP hD hS => ?_)
      have hP : va_P (zD E) vwCl (k_AJ E 40 q0 (vp_updL u0 x3.toNatClampNeg x1)) H := hP
      have hD : va_D A (k_AJ E 40 q0 (vp_updL u0 x3.toNatClampNeg x1)) := hD
      obtain ⟨x_3, ex_3⟩ : ∃ y : Int32, y = x3 + 1 := ⟨_, rfl⟩
      have hw := hw x_3 ex_3
      refine lv_iinc (v := x_3) (lv' := [(3, .int x_3), (0, .ref (q0 0)), (1, .long x1), (4, .int x4)]) hx hb dJ7_fill_d0a16_16 hl (k := 2) rfl (by rw [ex_3]; rfl) (by decide) rfl (fun ls hl => ?_)
      refine lv_goto (tgt := 6) hx hb dJ7_fill_d0a16_19 (by decide) ?_
      exact hk_6 x1 x_3 x4 (vp_updL u0 x3.toNatClampNeg x1) _ _ _ hw hP hD hS (lv_sub hl [1, 2, 0, 3] rfl)
set_option maxHeartbeats 4000000 in
set_option maxRecDepth 100000 in
theorem c_J7_fill_d0a16 (l : Launch) (E : zE) (Z : zZ) (hZ0 : zSt Z) (q0 : Nat → Nat) (sz : Nat) (u0 : (Nat → Int64)) (p1 : Int64) (post : (Nat → Int64) → Prop) (hw : wp_J7_fill_d0a16 u0 p1 post) : Met l yJ7_fill_d0a16 (zws yJ7_fill_d0a16 cJ7_fill_d0a16 5 none) r_J7_fill_d0a16 (va_Pc [.ref (q0 0), .long p1] (zPre Z E (k_AJ E 40 q0 u0) sz)) (va_Qv post (zAt E (va_A (k_AJ E 40 q0 u0) sz) (fun u => k_AJ E 40 q0 u)) (va_A (k_AJ E 40 q0 u0) sz)) 0 0 (va_A (k_AJ E 40 q0 u0) sz) := by
  refine z_ofW (Qf := fun A => va_Qv post (zAt E A (fun u => k_AJ E 40 q0 u)) A) (by decide) (Nat.le_of_ble_eq_true rfl) ?_
  intro p e s m args below meth c A ls C0 hA hK hZ hP hD hS hl
  obtain ⟨hx, hb, hml, hr, hown, hts, hlocks, hin⟩ := id C0
  have hown : s.vm.findClass RJ7 = some m.cls := hown
  have hl : lv_has ls 5 [(0, .ref (q0 0)), (1, .long p1)] := hl
  refine lv_iconst (v := 0) hx hb dJ7_fill_d0a16_0 rfl ?_
  refine lv_istore_n (lv' := [(3, .int (0 : Int32)), (0, .ref (q0 0)), (1, .long p1)]) hx hb dJ7_fill_d0a16_1 rfl hl (by decide) rfl (fun ls hl => ?_)
  refine lv_aload_n hx hb dJ7_fill_d0a16_2 rfl (lv_at hl 1 rfl) ?_
  refine va_alen hx hb hK hP 0 1 rfl rfl (v := 40) rfl dJ7_fill_d0a16_3 ?_
  refine lv_istore (lv' := [(4, .int (40 : Int32)), (3, .int (0 : Int32)), (0, .ref (q0 0)), (1, .long p1)]) hx hb dJ7_fill_d0a16_4 hl (by decide) rfl (fun ls hl => ?_)
  obtain ⟨n9, hw⟩ := hw
  exact t_J7_fill_d0a16_6 (l := l) hZ0 C0 hA hK hZ post n9 p1 (0 : Int32) (40 : Int32) u0 _ _ _ hw hP hD hS (lv_sub hl [2, 3, 1, 0] rfl)
abbrev r_X0_clear : Room := { frames := 1, cells := 0, slots := 0, locals := 24 }
def wp_X0_clear (u0 : S_X0) (p1 : Int32) (post : S_X0 → Prop) : Prop := wp_J7_fill_53178 u0.2.1 p1 (fun u_1 => wp_J7_fill_53178 u0.2.2.1 p1 (fun u_3 => wp_J7_fill_53178 u0.2.2.2.1 (-1 : Int32) (fun u_5 => wp_J7_fill_53178 u0.2.2.2.2.1 (0 : Int32) (fun u_7 => wp_J7_fill_53178 u0.2.2.2.2.2.1 (0 : Int32) (fun u_9 => wp_J7_fill_d0a16 u0.2.2.2.2.2.2 (0 : Int64) (fun u_11 => post ((0 : Int32), u_1, u_3, u_5, u_7, u_9, u_11)))))))
set_option maxHeartbeats 4000000 in
set_option maxRecDepth 100000 in
theorem c_X0_clear (l : Launch) (E : zE) (Z : zZ) (hZ0 : zSt Z) (q0 : Nat → Nat) (sz : Nat) (u0 : S_X0) (p1 : Int32) (post : S_X0 → Prop) (hw : wp_X0_clear u0 p1 post) : Met l yX0_clear (zws yX0_clear cX0_clear 2 none) r_X0_clear (va_Pc [.ref (q0 0), .int p1] (zPre Z E (k_X0 E q0 u0) sz)) (va_Qv post (zAt E (va_A (k_X0 E q0 u0) sz) (fun u => k_X0 E q0 u)) (va_A (k_X0 E q0 u0) sz)) 0 0 (va_A (k_X0 E q0 u0) sz) := by
  refine z_ofW (Qf := fun A => va_Qv post (zAt E A (fun u => k_X0 E q0 u)) A) (by decide) (Nat.le_of_ble_eq_true rfl) ?_
  intro p e s m args below meth c A ls C0 hA hK hZ hP hD hS hl
  obtain ⟨hx, hb, hml, hr, hown, hts, hlocks, hin⟩ := id C0
  have hown : s.vm.findClass RX0 = some m.cls := hown
  have hl : lv_has ls 2 [(0, .ref (q0 0)), (1, .int p1)] := hl
  refine lv_aload_n hx hb dX0_clear_0 rfl (lv_at hl 0 rfl) ?_
  refine lv_iconst (v := 0) hx hb dX0_clear_1 rfl ?_
  refine va_put (D := zD E) (ci := 0) (v := .int (0 : Int32)) (ty := .int) (C := RX0) (T := TX0) (N := 7) hx hb hts uw_X0 tyX0 tyX0_ok nmX0 hown hK hP hD hS 0 rfl rfl 0 (by decide) (hts _ wm_1_128) (fun _ h9 => h9) rfl (by decide +kernel) rfl rfl (Nat.le_of_ble_eq_true rfl) dX0_clear_2 (fun H locs hP hD hS => ?_)
  have hP : va_P (zD E) vwCl (k_X0 E q0 ((0 : Int32), u0.2.1, u0.2.2.1, u0.2.2.2.1, u0.2.2.2.2.1, u0.2.2.2.2.2.1, u0.2.2.2.2.2.2)) H := hP
  have hD : va_D A (k_X0 E q0 ((0 : Int32), u0.2.1, u0.2.2.1, u0.2.2.2.1, u0.2.2.2.2.1, u0.2.2.2.2.2.1, u0.2.2.2.2.2.2)) := hD
  refine lv_aload_n hx hb dX0_clear_5 rfl (lv_at hl 0 rfl) ?_
  refine va_get (D := zD E) (ci := 0) (v := .ref (q0 1)) (C := RX0) (T := TX0) (N := 7) hx hb hts uw_X0 hown hK hP 0 rfl rfl 1 (by decide) (hts _ wm_1_130) (fun _ h9 => h9) rfl dX0_clear_6 ?_
  refine lv_iload_n hx hb dX0_clear_9 rfl (lv_at hl 1 rfl) ?_
  refine z_kv (z_rS (rest := []) hZ0 C0 hK hZ hA hP hD hS hl.1 (c_J7_fill_53178 l E Z hZ0 (fun k => q0 (k + 1)) H.size u0.2.1 p1 _ hw) yv_X0_35 [1] rfl (by decide) ⟨Nat.le_of_ble_eq_true rfl, Nat.le_of_ble_eq_true rfl⟩ ⟨rfl, rfl⟩ rfl rfl (Nat.le_of_ble_eq_true rfl) ⟨Nat.le_of_ble_eq_true rfl, Nat.le_of_ble_eq_true rfl⟩ dX0_clear_10) hP hD hS hA [1] [0, 2, 3, 4, 5, 6] [0, 6, 1, 2, 3, 4, 5] rfl (wr := [_, _, _, _, _, _]) rfl (by decide) (by decide) (fun u => k_X0 E q0 ((0 : Int32), u, u0.2.2.1, u0.2.2.2.1, u0.2.2.2.2.1, u0.2.2.2.2.2.1, u0.2.2.2.2.2.2)) (fun u => rfl) (by decide) (fun u_1 H locs hw hP hD hS => ?_)
  refine lv_aload_n hx hb dX0_clear_13 rfl (lv_at hl 0 rfl) ?_
  refine va_get (D := zD E) (ci := 0) (v := .ref (q0 2)) (C := RX0) (T := TX0) (N := 7) hx hb hts uw_X0 hown hK hP 0 rfl rfl 2 (by decide) (hts _ wm_1_133) (fun _ h9 => h9) rfl dX0_clear_14 ?_
  refine lv_iload_n hx hb dX0_clear_17 rfl (lv_at hl 1 rfl) ?_
  refine z_kv (z_rS (rest := []) hZ0 C0 hK hZ hA hP hD hS hl.1 (c_J7_fill_53178 l E Z hZ0 (fun k => q0 (k + 2)) H.size u0.2.2.1 p1 _ hw) yv_X0_35 [2] rfl (by decide) ⟨Nat.le_of_ble_eq_true rfl, Nat.le_of_ble_eq_true rfl⟩ ⟨rfl, rfl⟩ rfl rfl (Nat.le_of_ble_eq_true rfl) ⟨Nat.le_of_ble_eq_true rfl, Nat.le_of_ble_eq_true rfl⟩ dX0_clear_18) hP hD hS hA [2] [0, 1, 3, 4, 5, 6] [0, 1, 6, 2, 3, 4, 5] rfl (wr := [_, _, _, _, _, _]) rfl (by decide) (by decide) (fun u => k_X0 E q0 ((0 : Int32), u_1, u, u0.2.2.2.1, u0.2.2.2.2.1, u0.2.2.2.2.2.1, u0.2.2.2.2.2.2)) (fun u => rfl) (by decide) (fun u_3 H locs hw hP hD hS => ?_)
  refine lv_aload_n hx hb dX0_clear_21 rfl (lv_at hl 0 rfl) ?_
  refine va_get (D := zD E) (ci := 0) (v := .ref (q0 3)) (C := RX0) (T := TX0) (N := 7) hx hb hts uw_X0 hown hK hP 0 rfl rfl 3 (by decide) (hts _ wm_1_136) (fun _ h9 => h9) rfl dX0_clear_22 ?_
  refine lv_iconst (v := (-1)) hx hb dX0_clear_25 rfl ?_
  refine z_kv (z_rS (rest := []) hZ0 C0 hK hZ hA hP hD hS hl.1 (c_J7_fill_53178 l E Z hZ0 (fun k => q0 (k + 3)) H.size u0.2.2.2.1 (-1 : Int32) _ hw) yv_X0_35 [3] rfl (by decide) ⟨Nat.le_of_ble_eq_true rfl, Nat.le_of_ble_eq_true rfl⟩ ⟨rfl, rfl⟩ rfl rfl (Nat.le_of_ble_eq_true rfl) ⟨Nat.le_of_ble_eq_true rfl, Nat.le_of_ble_eq_true rfl⟩ dX0_clear_26) hP hD hS hA [3] [0, 1, 2, 4, 5, 6] [0, 1, 2, 6, 3, 4, 5] rfl (wr := [_, _, _, _, _, _]) rfl (by decide) (by decide) (fun u => k_X0 E q0 ((0 : Int32), u_1, u_3, u, u0.2.2.2.2.1, u0.2.2.2.2.2.1, u0.2.2.2.2.2.2)) (fun u => rfl) (by decide) (fun u_5 H locs hw hP hD hS => ?_)
  refine lv_aload_n hx hb dX0_clear_29 rfl (lv_at hl 0 rfl) ?_
  refine va_get (D := zD E) (ci := 0) (v := .ref (q0 4)) (C := RX0) (T := TX0) (N := 7) hx hb hts uw_X0 hown hK hP 0 rfl rfl 4 (by decide) (hts _ wm_1_138) (fun _ h9 => h9) rfl dX0_clear_30 ?_
  refine lv_iconst (v := 0) hx hb dX0_clear_33 rfl ?_
  refine z_kv (z_rS (rest := []) hZ0 C0 hK hZ hA hP hD hS hl.1 (c_J7_fill_53178 l E Z hZ0 (fun k => q0 (k + 4)) H.size u0.2.2.2.2.1 (0 : Int32) _ hw) yv_X0_35 [4] rfl (by decide) ⟨Nat.le_of_ble_eq_true rfl, Nat.le_of_ble_eq_true rfl⟩ ⟨rfl, rfl⟩ rfl rfl (Nat.le_of_ble_eq_true rfl) ⟨Nat.le_of_ble_eq_true rfl, Nat.le_of_ble_eq_true rfl⟩ dX0_clear_34) hP hD hS hA [4] [0, 1, 2, 3, 5, 6] [0, 1, 2, 3, 6, 4, 5] rfl (wr := [_, _, _, _, _, _]) rfl (by decide) (by decide) (fun u => k_X0 E q0 ((0 : Int32), u_1, u_3, u_5, u, u0.2.2.2.2.2.1, u0.2.2.2.2.2.2)) (fun u => rfl) (by decide) (fun u_7 H locs hw hP hD hS => ?_)
  refine lv_aload_n hx hb dX0_clear_37 rfl (lv_at hl 0 rfl) ?_
  refine va_get (D := zD E) (ci := 0) (v := .ref (q0 5)) (C := RX0) (T := TX0) (N := 7) hx hb hts uw_X0 hown hK hP 0 rfl rfl 5 (by decide) (hts _ wm_1_140) (fun _ h9 => h9) rfl dX0_clear_38 ?_
  refine lv_iconst (v := 0) hx hb dX0_clear_41 rfl ?_
  refine z_kv (z_rS (rest := []) hZ0 C0 hK hZ hA hP hD hS hl.1 (c_J7_fill_53178 l E Z hZ0 (fun k => q0 (k + 5)) H.size u0.2.2.2.2.2.1 (0 : Int32) _ hw) yv_X0_35 [5] rfl (by decide) ⟨Nat.le_of_ble_eq_true rfl, Nat.le_of_ble_eq_true rfl⟩ ⟨rfl, rfl⟩ rfl rfl (Nat.le_of_ble_eq_true rfl) ⟨Nat.le_of_ble_eq_true rfl, Nat.le_of_ble_eq_true rfl⟩ dX0_clear_42) hP hD hS hA [5] [0, 1, 2, 3, 4, 6] [0, 1, 2, 3, 4, 6, 5] rfl (wr := [_, _, _, _, _, _]) rfl (by decide) (by decide) (fun u => k_X0 E q0 ((0 : Int32), u_1, u_3, u_5, u_7, u, u0.2.2.2.2.2.2)) (fun u => rfl) (by decide) (fun u_9 H locs hw hP hD hS => ?_)
  refine lv_aload_n hx hb dX0_clear_45 rfl (lv_at hl 0 rfl) ?_
  refine va_get (D := zD E) (ci := 0) (v := .ref (q0 6)) (C := RX0) (T := TX0) (N := 7) hx hb hts uw_X0 hown hK hP 0 rfl rfl 6 (by decide) (hts _ wm_1_142) (fun _ h9 => h9) rfl dX0_clear_46 ?_
  refine lv_lconst (v := 0) hx hb dX0_clear_49 rfl ?_
  refine z_kv (z_rS (rest := []) hZ0 C0 hK hZ hA hP hD hS hl.1 (c_J7_fill_d0a16 l E Z hZ0 (fun k => q0 (k + 6)) H.size u0.2.2.2.2.2.2 (0 : Int64) _ hw) yv_X0_41 [6] rfl (by decide) ⟨Nat.le_of_ble_eq_true rfl, Nat.le_of_ble_eq_true rfl⟩ ⟨rfl, rfl⟩ rfl rfl (Nat.le_of_ble_eq_true rfl) ⟨Nat.le_of_ble_eq_true rfl, Nat.le_of_ble_eq_true rfl⟩ dX0_clear_50) hP hD hS hA [6] [0, 1, 2, 3, 4, 5] [0, 1, 2, 3, 4, 5, 6] rfl (wr := [_, _, _, _, _, _]) rfl (by decide) (by decide) (fun u => k_X0 E q0 ((0 : Int32), u_1, u_3, u_5, u_7, u_9, u)) (fun u => rfl) (by decide) (fun u_11 H locs hw hP hD hS => ?_)
  exact z_vret (k := (fun u => k_X0 E q0 u)) ((0 : Int32), u_1, u_3, u_5, u_7, u_9, u_11) C0 hP hD hS hw dX0_clear_53
