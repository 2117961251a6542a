abbrev r_X10_errorOffset : Room := { frames := 0, cells := 0, slots := 0, locals := 0 }
def wp_X10_errorOffset (u0 : S_X10) (post : Int32 → S_X10 → Prop) : Prop := post u0.2.2.2.2.2.2.2.1 ((0 : Int32), u0.2.1, u0.2.2.1, u0.2.2.2.1, u0.2.2.2.2.1, u0.2.2.2.2.2.1, u0.2.2.2.2.2.2.1, u0.2.2.2.2.2.2.2.1, u0.2.2.2.2.2.2.2.2.1, u0.2.2.2.2.2.2.2.2.2.1, u0.2.2.2.2.2.2.2.2.2.2.1, u0.2.2.2.2.2.2.2.2.2.2.2.1, u0.2.2.2.2.2.2.2.2.2.2.2.2.1, u0.2.2.2.2.2.2.2.2.2.2.2.2.2.1, u0.2.2.2.2.2.2.2.2.2.2.2.2.2.2.1, u0.2.2.2.2.2.2.2.2.2.2.2.2.2.2.2.1, u0.2.2.2.2.2.2.2.2.2.2.2.2.2.2.2.2.1, u0.2.2.2.2.2.2.2.2.2.2.2.2.2.2.2.2.2.1, u0.2.2.2.2.2.2.2.2.2.2.2.2.2.2.2.2.2.2.1, u0.2.2.2.2.2.2.2.2.2.2.2.2.2.2.2.2.2.2.2.1, u0.2.2.2.2.2.2.2.2.2.2.2.2.2.2.2.2.2.2.2.2.1, u0.2.2.2.2.2.2.2.2.2.2.2.2.2.2.2.2.2.2.2.2.2)
set_option maxHeartbeats 4000000 in
set_option maxRecDepth 100000 in
theorem c_X10_errorOffset (l : Launch) (E : zE) (Z : zZ) (hZ0 : zSt Z) (q0 : Nat → Nat) (sz : Nat) (u0 : S_X10) (post : Int32 → S_X10 → Prop) (hw : wp_X10_errorOffset u0 post) : Met l yX10_errorOffset (zws yX10_errorOffset cX10_errorOffset 1 (some .int)) r_X10_errorOffset (va_Pc [.ref (q0 0)] (zPre Z E (k_X10 E q0 u0) sz)) (va_Qi post (zAt E (va_A (k_X10 E q0 u0) sz) (fun u => k_X10 E q0 u)) (va_A (k_X10 E q0 u0) sz)) 0 0 (va_A (k_X10 E q0 u0) sz) := by
  refine z_ofW (Qf := fun A => va_Qi post (zAt E A (fun u => k_X10 E q0 u)) A) (by decide) (Nat.le_of_ble_eq_true rfl) ?_
  intro p e s m args below meth c A ls C0 hA hK hZ hP hD hS hl
  obtain ⟨hx, hb, hml, hr, hown, hts, hlocks, hin⟩ := id C0
  have hown : s.vm.findClass RX10 = some m.cls := hown
  have hl : lv_has ls 1 [(0, .ref (q0 0))] := hl
  refine lv_aload_n hx hb dX10_errorOffset_0 rfl (lv_at hl 0 rfl) ?_
  refine lv_iconst (v := 0) hx hb dX10_errorOffset_1 rfl ?_
  refine va_put (D := zD E) (ci := 10) (v := .int (0 : Int32)) (ty := .int) (C := RX10) (T := TX10) (N := 24) hx hb hts uw_X10 tyX10 tyX10_ok nmX10 hown hK hP hD hS 0 rfl rfl 0 (by decide) (hts _ wm_5_116) (fun _ h9 => h9) rfl (by decide +kernel) rfl rfl (Nat.le_of_ble_eq_true rfl) dX10_errorOffset_2 (fun H locs hP hD hS => ?_)
  have hP : va_P (zD E) vwCl (k_X10 E q0 ((0 : Int32), u0.2.1, u0.2.2.1, u0.2.2.2.1, u0.2.2.2.2.1, u0.2.2.2.2.2.1, u0.2.2.2.2.2.2.1, u0.2.2.2.2.2.2.2.1, u0.2.2.2.2.2.2.2.2.1, u0.2.2.2.2.2.2.2.2.2.1, u0.2.2.2.2.2.2.2.2.2.2.1, u0.2.2.2.2.2.2.2.2.2.2.2.1, u0.2.2.2.2.2.2.2.2.2.2.2.2.1, u0.2.2.2.2.2.2.2.2.2.2.2.2.2.1, u0.2.2.2.2.2.2.2.2.2.2.2.2.2.2.1, u0.2.2.2.2.2.2.2.2.2.2.2.2.2.2.2.1, u0.2.2.2.2.2.2.2.2.2.2.2.2.2.2.2.2.1, u0.2.2.2.2.2.2.2.2.2.2.2.2.2.2.2.2.2.1, u0.2.2.2.2.2.2.2.2.2.2.2.2.2.2.2.2.2.2.1, u0.2.2.2.2.2.2.2.2.2.2.2.2.2.2.2.2.2.2.2.1, u0.2.2.2.2.2.2.2.2.2.2.2.2.2.2.2.2.2.2.2.2.1, u0.2.2.2.2.2.2.2.2.2.2.2.2.2.2.2.2.2.2.2.2.2)) H := hP
  have hD : va_D A (k_X10 E q0 ((0 : Int32), u0.2.1, u0.2.2.1, u0.2.2.2.1, u0.2.2.2.2.1, u0.2.2.2.2.2.1, u0.2.2.2.2.2.2.1, u0.2.2.2.2.2.2.2.1, u0.2.2.2.2.2.2.2.2.1, u0.2.2.2.2.2.2.2.2.2.1, u0.2.2.2.2.2.2.2.2.2.2.1, u0.2.2.2.2.2.2.2.2.2.2.2.1, u0.2.2.2.2.2.2.2.2.2.2.2.2.1, u0.2.2.2.2.2.2.2.2.2.2.2.2.2.1, u0.2.2.2.2.2.2.2.2.2.2.2.2.2.2.1, u0.2.2.2.2.2.2.2.2.2.2.2.2.2.2.2.1, u0.2.2.2.2.2.2.2.2.2.2.2.2.2.2.2.2.1, u0.2.2.2.2.2.2.2.2.2.2.2.2.2.2.2.2.2.1, u0.2.2.2.2.2.2.2.2.2.2.2.2.2.2.2.2.2.2.1, u0.2.2.2.2.2.2.2.2.2.2.2.2.2.2.2.2.2.2.2.1, u0.2.2.2.2.2.2.2.2.2.2.2.2.2.2.2.2.2.2.2.2.1, u0.2.2.2.2.2.2.2.2.2.2.2.2.2.2.2.2.2.2.2.2.2)) := hD
  refine lv_aload_n hx hb dX10_errorOffset_5 rfl (lv_at hl 0 rfl) ?_
  refine va_get (D := zD E) (ci := 10) (v := .int u0.2.2.2.2.2.2.2.1) (C := RX10) (T := TX10) (N := 24) hx hb hts uw_X10 hown hK hP 0 rfl rfl 7 (by decide) (hts _ wm_5_123) (fun _ h9 => h9) rfl dX10_errorOffset_6 ?_
  exact z_iret (k := (fun u => k_X10 E q0 u)) ((0 : Int32), u0.2.1, u0.2.2.1, u0.2.2.2.1, u0.2.2.2.2.1, u0.2.2.2.2.2.1, u0.2.2.2.2.2.2.1, u0.2.2.2.2.2.2.2.1, u0.2.2.2.2.2.2.2.2.1, u0.2.2.2.2.2.2.2.2.2.1, u0.2.2.2.2.2.2.2.2.2.2.1, u0.2.2.2.2.2.2.2.2.2.2.2.1, u0.2.2.2.2.2.2.2.2.2.2.2.2.1, u0.2.2.2.2.2.2.2.2.2.2.2.2.2.1, u0.2.2.2.2.2.2.2.2.2.2.2.2.2.2.1, u0.2.2.2.2.2.2.2.2.2.2.2.2.2.2.2.1, u0.2.2.2.2.2.2.2.2.2.2.2.2.2.2.2.2.1, u0.2.2.2.2.2.2.2.2.2.2.2.2.2.2.2.2.2.1, u0.2.2.2.2.2.2.2.2.2.2.2.2.2.2.2.2.2.2.1, u0.2.2.2.2.2.2.2.2.2.2.2.2.2.2.2.2.2.2.2.1, u0.2.2.2.2.2.2.2.2.2.2.2.2.2.2.2.2.2.2.2.2.1, u0.2.2.2.2.2.2.2.2.2.2.2.2.2.2.2.2.2.2.2.2.2) C0 hP hD hS hw dX10_errorOffset_9
abbrev r_X10_bandOf : Room := { frames := 1, cells := 0, slots := 0, locals := 20 }
def j_X10_bandOf_2 (K2 : (Int32 × S_X10) → Prop) (x2 : Int32) (u0 : S_X10) (post : Int32 → S_X10 → Prop) : Prop := (x2 < 0 → (post (-1 : Int32) u0)) ∧ (¬ (x2 < 0) → (wp_X10_band x2 (fun r_3 u_2 => vp_in r_3 1728 ∧ ((¬ ((u0.2.2.2.2.2.2.2.2.1 r_3.toNatClampNeg) = (1 : Int32)) → (∀ x_6 : Int32, x_6 = x2 + (-1) → (K2 (x_6, u0)))) ∧ ((u0.2.2.2.2.2.2.2.2.1 r_3.toNatClampNeg) = (1 : Int32) → (post x2 u0))))))
def wp_X10_bandOf (u0 : S_X10) (p1 : Int32) (post : Int32 → S_X10 → Prop) : Prop := ∃ n, zl (fun K st => j_X10_bandOf_2 K st.1 st.2 post) n (p1, u0)
set_option maxHeartbeats 4000000 in
set_option maxRecDepth 100000 in
theorem t_X10_bandOf_2 {p : Program} {l : Launch} {e : Env} {s : State} {m : MethodId} {args : Array Value} {below : List Frame} {meth : Method} {c : Code} {Z : zZ} {E : zE} {A : Nat → Prop} {q0 : Nat → Nat} (hZ0 : zSt Z) (C0 : zC p s m args meth c yX10_bandOf cX10_bandOf 3 (some .int)) (hA : ∀ q : Nat, s.heap.size ≤ q → A q) (hK : va_K (zD E) vwCl (zT E) s) (hZ : Z A s s.heap) (post : Int32 → S_X10 → Prop) : ∀ (n : Nat) (x2 : Int32) (u0 : S_X10) (H : Heap) (locs : List Loc) (ls : Array Slot), zl (fun K st => j_X10_bandOf_2 K st.1 st.2 post) n (x2, u0) → va_P (zD E) vwCl (k_X10 E q0 u0) H → va_D A (k_X10 E q0 u0) → va_S A s.heap H locs → lv_has ls 3 [(0, .ref (q0 0)), (2, .int x2)] → W p l e r_X10_bandOf s m args below meth c H locs 0 0 (MQ below (va_Qi post (zAt E A (fun u => k_X10 E q0 u)) A) args s 0 0 A) (F0 m 2 ls []) := by
  obtain ⟨hx, hb, hml, hr, hown, hts, hlocks, hin⟩ := id C0
  have hown : s.vm.findClass RX10 = some m.cls := hown
  intro n
  induction n with
  | zero => intro x2 u0 H locs ls hw; exact hw.elim
  | succ n hk_2 =>
    intro x2 u0 H locs ls hw hP hD hS hl
    have hw : j_X10_bandOf_2 _ x2 u0 post := hw
    refine lv_iload_n hx hb dX10_bandOf_2 rfl (lv_at hl 1 rfl) ?_
    obtain ⟨hwt, hwf⟩ := hw
    refine lv_if_lt (tgt := 27) hx hb dX10_bandOf_3 (by decide) (fun c_1 => ?_) (fun c_1 => ?_)
    · have hw := hwt c_1
      refine lv_iconst (v := (-1)) hx hb dX10_bandOf_27 rfl ?_
      exact z_iret (k := (fun u => k_X10 E q0 u)) u0 C0 hP hD hS hw dX10_bandOf_28
    · have hw := hwf c_1
      refine lv_aload_n hx hb dX10_bandOf_6 rfl (lv_at hl 0 rfl) ?_
      refine va_get (D := zD E) (ci := 10) (v := .ref (q0 2)) (C := RX10) (T := TX10) (N := 24) hx hb hts uw_X10 hown hK hP 0 rfl rfl 8 (by decide) (hts _ wm_5_124) (fun _ h9 => h9) rfl dX10_bandOf_7 ?_
      refine lv_iload_n hx hb dX10_bandOf_10 rfl (lv_at hl 1 rfl) ?_
      refine z_ki (z_rS (rest := [.ref (q0 2)]) hZ0 C0 hK hZ hA hP hD hS hl.1 (c_X10_band l E Z hZ0 H.size x2 _ hw) yv_X10_150 [] rfl (by decide) ⟨Nat.le_of_ble_eq_true rfl, Nat.le_of_ble_eq_true rfl⟩ ⟨rfl, rfl⟩ rfl rfl (Nat.le_of_ble_eq_true rfl) ⟨Nat.le_of_ble_eq_true rfl, Nat.le_of_ble_eq_true rfl⟩ dX10_bandOf_11) hP hD hS hA [] [0, 1, 2, 3, 4, 5, 6, 7, 8, 9] [0, 1, 2, 3, 4, 5, 6, 7, 8, 9] rfl (wr := [_, _, _, _, _, _, _, _, _, _]) rfl (by decide) (by decide) (fun u => k_X10 E q0 u0) (fun u => rfl) (by decide) (fun r_3 u_2 H locs hw hP hD hS => ?_)
      obtain ⟨h_4, hw⟩ := hw
      refine va_iald hx hb hK hP 2 0 rfl rfl h_4 dX10_bandOf_14 ?_
      refine lv_iconst (v := 1) hx hb dX10_bandOf_15 rfl ?_
      obtain ⟨hwt, hwf⟩ := hw
      refine lv_icmp_ne (tgt := 21) hx hb dX10_bandOf_16 (by decide) (fun c_5 => ?_) (fun c_5 => ?_)
      · have hw := hwt c_5
        obtain ⟨x_6, ex_6⟩ : ∃ y : Int32, y = x2 + (-1) := ⟨_, rfl⟩
        have hw := hw x_6 ex_6
        refine lv_iinc (v := x_6) (lv' := [(2, .int x_6), (0, .ref (q0 0))]) hx hb dX10_bandOf_21 hl (k := 1) rfl (by rw [ex_6]; rfl) (by decide) rfl (fun ls hl => ?_)
        refine lv_goto (tgt := 2) hx hb dX10_bandOf_24 (by decide) ?_
        exact hk_2 x_6 u0 _ _ _ hw hP hD hS (lv_sub hl [1, 0] rfl)
      · have hw := hwf c_5
        refine lv_iload_n hx hb dX10_bandOf_19 rfl (lv_at hl 1 rfl) ?_
        exact z_iret (k := (fun u => k_X10 E q0 u)) u0 C0 hP hD hS hw dX10_bandOf_20
set_option maxHeartbeats 4000000 in
set_option maxRecDepth 100000 in
theorem c_X10_bandOf (l : Launch) (E : zE) (Z : zZ) (hZ0 : zSt Z) (q0 : Nat → Nat) (sz : Nat) (u0 : S_X10) (p1 : Int32) (post : Int32 → S_X10 → Prop) (hw : wp_X10_bandOf u0 p1 post) : Met l yX10_bandOf (zws yX10_bandOf cX10_bandOf 3 (some .int)) r_X10_bandOf (va_Pc [.ref (q0 0), .int p1] (zPre Z E (k_X10 E q0 u0) sz)) (va_Qi post (zAt E (va_A (k_X10 E q0 u0) sz) (fun u => k_X10 E q0 u)) (va_A (k_X10 E q0 u0) sz)) 0 0 (va_A (k_X10 E q0 u0) sz) := by
  refine z_ofW (Qf := fun A => va_Qi post (zAt E A (fun u => k_X10 E q0 u)) A) (by decide) (Nat.le_of_ble_eq_true rfl) ?_
  intro p e s m args below meth c A ls C0 hA hK hZ hP hD hS hl
  obtain ⟨hx, hb, hml, hr, hown, hts, hlocks, hin⟩ := id C0
  have hown : s.vm.findClass RX10 = some m.cls := hown
  have hl : lv_has ls 3 [(0, .ref (q0 0)), (1, .int p1)] := hl
  refine lv_iload_n hx hb dX10_bandOf_0 rfl (lv_at hl 1 rfl) ?_
  refine lv_istore_n (lv' := [(2, .int p1), (0, .ref (q0 0)), (1, .int p1)]) hx hb dX10_bandOf_1 rfl hl (by decide) rfl (fun ls hl => ?_)
  obtain ⟨n9, hw⟩ := hw
  exact t_X10_bandOf_2 (l := l) hZ0 C0 hA hK hZ post n9 p1 u0 _ _ _ hw hP hD hS (lv_sub hl [1, 0] rfl)
abbrev r_X10_bound : Room := { frames := 2, cells := 0, slots := 0, locals := 42 }
def wp_X10_bound (u0 : S_X10) (p1 : Int32) (p2 : Int32) (p3 : Int32) (post : Int32 → S_X10 → Prop) : Prop := wp_X10_bandOf u0 p1 (fun r_2 u_1 => (0 ≤ r_2 → ((p3 = 0 → (wp_X10_band r_2 (fun r_6 u_5 => vp_in (r_6 + (1 : Int32)) 1728 ∧ (post (p2 - ((p2 * (u_1.2.2.2.2.2.2.2.2.1 (r_6 + (1 : Int32)).toNatClampNeg)) / (100 : Int32))) u_1)))) ∧ (¬ (p3 = 0) → (wp_X10_band r_2 (fun r_9 u_8 => vp_in (r_9 + (2 : Int32)) 1728 ∧ (post (p2 + ((p2 * (u_1.2.2.2.2.2.2.2.2.1 (r_9 + (2 : Int32)).toNatClampNeg)) / (100 : Int32))) u_1)))))) ∧ (¬ (0 ≤ r_2) → ((p3 = 0 → (post (0 : Int32) u_1)) ∧ (¬ (p3 = 0) → (post (9999 : Int32) u_1)))))
set_option maxHeartbeats 4000000 in
set_option maxRecDepth 100000 in
theorem c_X10_bound (l : Launch) (E : zE) (Z : zZ) (hZ0 : zSt Z) (q0 : Nat → Nat) (sz : Nat) (u0 : S_X10) (p1 : Int32) (p2 : Int32) (p3 : Int32) (post : Int32 → S_X10 → Prop) (hw : wp_X10_bound u0 p1 p2 p3 post) : Met l yX10_bound (zws yX10_bound cX10_bound 5 (some .int)) r_X10_bound (va_Pc [.ref (q0 0), .int p1, .int p2, .int p3] (zPre Z E (k_X10 E q0 u0) sz)) (va_Qi post (zAt E (va_A (k_X10 E q0 u0) sz) (fun u => k_X10 E q0 u)) (va_A (k_X10 E q0 u0) sz)) 0 0 (va_A (k_X10 E q0 u0) sz) := by
  refine z_ofW (Qf := fun A => va_Qi post (zAt E A (fun u => k_X10 E q0 u)) A) (by decide) (Nat.le_of_ble_eq_true rfl) ?_
  intro p e s m args below meth c A ls C0 hA hK hZ hP hD hS hl
  obtain ⟨hx, hb, hml, hr, hown, hts, hlocks, hin⟩ := id C0
  have hown : s.vm.findClass RX10 = some m.cls := hown
  have hl : lv_has ls 5 [(0, .ref (q0 0)), (1, .int p1), (2, .int p2), (3, .int p3)] := hl
  refine lv_aload_n hx hb dX10_bound_0 rfl (lv_at hl 0 rfl) ?_
  refine lv_iload_n hx hb dX10_bound_1 rfl (lv_at hl 1 rfl) ?_
  refine z_ki (z_rV (rest := []) hZ0 C0 hK hZ hA hP hD hS hl.1 (c_X10_bandOf l E Z hZ0 q0 s.heap.size u0 p1 _ hw) yv_X10_210 [0, 1, 2, 3, 4, 5, 6, 7, 8, 9] rfl (by decide) (ci := 10) rfl rfl 0 rfl ⟨Nat.le_of_ble_eq_true rfl, Nat.le_of_ble_eq_true rfl⟩ ⟨rfl, rfl⟩ rfl rfl (Nat.le_of_ble_eq_true rfl) ⟨Nat.le_of_ble_eq_true rfl, Nat.le_of_ble_eq_true rfl⟩ dX10_bound_2) hP hD hS hA [0, 1, 2, 3, 4, 5, 6, 7, 8, 9] [] [0, 1, 2, 3, 4, 5, 6, 7, 8, 9] rfl (wr := []) rfl (by decide) (by decide) (fun u => k_X10 E q0 u) (fun u => rfl) (by decide) (fun r_2 u_1 H locs hw hP hD hS => ?_)
  refine lv_istore (lv' := [(4, .int r_2), (0, .ref (q0 0)), (1, .int p1), (2, .int p2), (3, .int p3)]) hx hb dX10_bound_5 hl (by decide) rfl (fun ls hl => ?_)
  refine lv_iload hx hb dX10_bound_7 (lv_at hl 0 rfl) ?_
  obtain ⟨hwt, hwf⟩ := hw
  refine lv_if_ge (tgt := 24) hx hb dX10_bound_9 (by decide) (fun c_3 => ?_) (fun c_3 => ?_)
  · have hw := hwt c_3
    refine lv_iload_n hx hb dX10_bound_24 rfl (lv_at hl 4 rfl) ?_
    obtain ⟨hwt, hwf⟩ := hw
    refine lv_if_eq (tgt := 50) hx hb dX10_bound_25 (by decide) (fun c_4 => ?_) (fun c_4 => ?_)
    · have hw := hwt c_4
      refine lv_iload_n hx hb dX10_bound_50 rfl (lv_at hl 3 rfl) ?_
      refine lv_iload_n hx hb dX10_bound_51 rfl (lv_at hl 3 rfl) ?_
      refine lv_aload_n hx hb dX10_bound_52 rfl (lv_at hl 1 rfl) ?_
      refine va_get (D := zD E) (ci := 10) (v := .ref (q0 2)) (C := RX10) (T := TX10) (N := 24) hx hb hts uw_X10 hown hK hP 0 rfl rfl 8 (by decide) (hts _ wm_5_124) (fun _ h9 => h9) rfl dX10_bound_53 ?_
      refine lv_iload hx hb dX10_bound_56 (lv_at hl 0 rfl) ?_
      refine z_ki (z_rS (rest := [.ref (q0 2), .int p2, .int p2]) hZ0 C0 hK hZ hA hP hD hS hl.1 (c_X10_band l E Z hZ0 H.size r_2 _ hw) yv_X10_150 [] rfl (by decide) ⟨Nat.le_of_ble_eq_true rfl, Nat.le_of_ble_eq_true rfl⟩ ⟨rfl, rfl⟩ rfl rfl (Nat.le_of_ble_eq_true rfl) ⟨Nat.le_of_ble_eq_true rfl, Nat.le_of_ble_eq_true rfl⟩ dX10_bound_58) hP hD hS hA [] [0, 1, 2, 3, 4, 5, 6, 7, 8, 9] [0, 1, 2, 3, 4, 5, 6, 7, 8, 9] rfl (wr := [_, _, _, _, _, _, _, _, _, _]) rfl (by decide) (by decide) (fun u => k_X10 E q0 u_1) (fun u => rfl) (by decide) (fun r_6 u_5 H locs hw hP hD hS => ?_)
      refine lv_iconst (v := 1) hx hb dX10_bound_61 rfl ?_
      refine lv_iadd hx hb dX10_bound_62 ?_
      obtain ⟨h_7, hw⟩ := hw
      refine va_iald hx hb hK hP 2 0 rfl rfl h_7 dX10_bound_63 ?_
      refine lv_imul hx hb dX10_bound_64 ?_
      refine lv_bipush (v := 100) hx hb dX10_bound_65 rfl ?_
      refine lv_idiv hx hb dX10_bound_67 (by decide) ?_
      refine lv_isub hx hb dX10_bound_68 ?_
      exact z_iret (k := (fun u => k_X10 E q0 u)) u_1 C0 hP hD hS hw dX10_bound_69
    · have hw := hwf c_4
      refine lv_iload_n hx hb dX10_bound_28 rfl (lv_at hl 3 rfl) ?_
      refine lv_iload_n hx hb dX10_bound_29 rfl (lv_at hl 3 rfl) ?_
      refine lv_aload_n hx hb dX10_bound_30 rfl (lv_at hl 1 rfl) ?_
      refine va_get (D := zD E) (ci := 10) (v := .ref (q0 2)) (C := RX10) (T := TX10) (N := 24) hx hb hts uw_X10 hown hK hP 0 rfl rfl 8 (by decide) (hts _ wm_5_124) (fun _ h9 => h9) rfl dX10_bound_31 ?_
      refine lv_iload hx hb dX10_bound_34 (lv_at hl 0 rfl) ?_
      refine z_ki (z_rS (rest := [.ref (q0 2), .int p2, .int p2]) hZ0 C0 hK hZ hA hP hD hS hl.1 (c_X10_band l E Z hZ0 H.size r_2 _ hw) yv_X10_150 [] rfl (by decide) ⟨Nat.le_of_ble_eq_true rfl, Nat.le_of_ble_eq_true rfl⟩ ⟨rfl, rfl⟩ rfl rfl (Nat.le_of_ble_eq_true rfl) ⟨Nat.le_of_ble_eq_true rfl, Nat.le_of_ble_eq_true rfl⟩ dX10_bound_36) hP hD hS hA [] [0, 1, 2, 3, 4, 5, 6, 7, 8, 9] [0, 1, 2, 3, 4, 5, 6, 7, 8, 9] rfl (wr := [_, _, _, _, _, _, _, _, _, _]) rfl (by decide) (by decide) (fun u => k_X10 E q0 u_1) (fun u => rfl) (by decide) (fun r_9 u_8 H locs hw hP hD hS => ?_)
      refine lv_iconst (v := 2) hx hb dX10_bound_39 rfl ?_
      refine lv_iadd hx hb dX10_bound_40 ?_
      obtain ⟨h_10, hw⟩ := hw
      refine va_iald hx hb hK hP 2 0 rfl rfl h_10 dX10_bound_41 ?_
      refine lv_imul hx hb dX10_bound_42 ?_
      refine lv_bipush (v := 100) hx hb dX10_bound_43 rfl ?_
      refine lv_idiv hx hb dX10_bound_45 (by decide) ?_
      refine lv_iadd hx hb dX10_bound_46 ?_
      refine lv_goto (tgt := 69) hx hb dX10_bound_47 (by decide) ?_
      exact z_iret (k := (fun u => k_X10 E q0 u)) u_1 C0 hP hD hS hw dX10_bound_69
  · have hw := hwf c_3
    refine lv_iload_n hx hb dX10_bound_12 rfl (lv_at hl 4 rfl) ?_
    obtain ⟨hwt, hwf⟩ := hw
    refine lv_if_eq (tgt := 22) hx hb dX10_bound_13 (by decide) (fun c_11 => ?_) (fun c_11 => ?_)
    · have hw := hwt c_11
      refine lv_iconst (v := 0) hx hb dX10_bound_22 rfl ?_
      exact z_iret (k := (fun u => k_X10 E q0 u)) u_1 C0 hP hD hS hw dX10_bound_23
    · have hw := hwf c_11
      refine lv_sipush (v := 9999) hx hb dX10_bound_16 rfl ?_
      refine lv_goto (tgt := 23) hx hb dX10_bound_19 (by decide) ?_
      exact z_iret (k := (fun u => k_X10 E q0 u)) u_1 C0 hP hD hS hw dX10_bound_23
abbrev r_X10_excessOf : Room := { frames := 3, cells := 0, slots := 0, locals := 66 }
def wp_X10_excessOf (u0 : S_X10) (p1 : Int32) (p2 : Int32) (p3 : Int32) (post : Int32 → S_X10 → Prop) : Prop := wp_X10_bound u0 p1 p2 (0 : Int32) (fun r_2 u_1 => wp_X10_bound u_1 p1 p2 (1 : Int32) (fun r_4 u_3 => wp_X10_max (r_2 - p3) (p3 - r_4) (fun r_6 u_5 => wp_X10_max (0 : Int32) r_6 (fun r_8 u_7 => post r_8 u_3))))
set_option maxHeartbeats 4000000 in
set_option maxRecDepth 100000 in
theorem c_X10_excessOf (l : Launch) (E : zE) (Z : zZ) (hZ0 : zSt Z) (q0 : Nat → Nat) (sz : Nat) (u0 : S_X10) (p1 : Int32) (p2 : Int32) (p3 : Int32) (post : Int32 → S_X10 → Prop) (hw : wp_X10_excessOf u0 p1 p2 p3 post) : Met l yX10_excessOf (zws yX10_excessOf cX10_excessOf 4 (some .int)) r_X10_excessOf (va_Pc [.ref (q0 0), .int p1, .int p2, .int p3] (zPre Z E (k_X10 E q0 u0) sz)) (va_Qi post (zAt E (va_A (k_X10 E q0 u0) sz) (fun u => k_X10 E q0 u)) (va_A (k_X10 E q0 u0) sz)) 0 0 (va_A (k_X10 E q0 u0) sz) := by
  refine z_ofW (Qf := fun A => va_Qi post (zAt E A (fun u => k_X10 E q0 u)) A) (by decide) (Nat.le_of_ble_eq_true rfl) ?_
  intro p e s m args below meth c A ls C0 hA hK hZ hP hD hS hl
  obtain ⟨hx, hb, hml, hr, hown, hts, hlocks, hin⟩ := id C0
  have hown : s.vm.findClass RX10 = some m.cls := hown
  have hl : lv_has ls 4 [(0, .ref (q0 0)), (1, .int p1), (2, .int p2), (3, .int p3)] := hl
  refine lv_iconst (v := 0) hx hb dX10_excessOf_0 rfl ?_
  refine lv_aload_n hx hb dX10_excessOf_1 rfl (lv_at hl 0 rfl) ?_
  refine lv_iload_n hx hb dX10_excessOf_2 rfl (lv_at hl 1 rfl) ?_
  refine lv_iload_n hx hb dX10_excessOf_3 rfl (lv_at hl 2 rfl) ?_
  refine lv_iconst (v := 0) hx hb dX10_excessOf_4 rfl ?_
  refine z_ki (z_rV (rest := [.int (0 : Int32)]) hZ0 C0 hK hZ hA hP hD hS hl.1 (c_X10_bound l E Z hZ0 q0 s.heap.size u0 p1 p2 (0 : Int32) _ hw) yv_X10_213 [0, 1, 2, 3, 4, 5, 6, 7, 8, 9] rfl (by decide) (ci := 10) rfl rfl 0 rfl ⟨Nat.le_of_ble_eq_true rfl, Nat.le_of_ble_eq_true rfl⟩ ⟨rfl, rfl⟩ rfl rfl (Nat.le_of_ble_eq_true rfl) ⟨Nat.le_of_ble_eq_true rfl, Nat.le_of_ble_eq_true rfl⟩ dX10_excessOf_5) hP hD hS hA [0, 1, 2, 3, 4, 5, 6, 7, 8, 9] [] [0, 1, 2, 3, 4, 5, 6, 7, 8, 9] rfl (wr := []) rfl (by decide) (by decide) (fun u => k_X10 E q0 u) (fun u => rfl) (by decide) (fun r_2 u_1 H locs hw hP hD hS => ?_)
  refine lv_iload_n hx hb dX10_excessOf_8 rfl (lv_at hl 3 rfl) ?_
  refine lv_isub hx hb dX10_excessOf_9 ?_
  refine lv_iload_n hx hb dX10_excessOf_10 rfl (lv_at hl 3 rfl) ?_
  refine lv_aload_n hx hb dX10_excessOf_11 rfl (lv_at hl 0 rfl) ?_
  refine lv_iload_n hx hb dX10_excessOf_12 rfl (lv_at hl 1 rfl) ?_
  refine lv_iload_n hx hb dX10_excessOf_13 rfl (lv_at hl 2 rfl) ?_
  refine lv_iconst (v := 1) hx hb dX10_excessOf_14 rfl ?_
  refine z_ki (z_rV (rest := [.int p3, .int (r_2 - p3), .int (0 : Int32)]) hZ0 C0 hK hZ hA hP hD hS hl.1 (c_X10_bound l E Z hZ0 q0 H.size u_1 p1 p2 (1 : Int32) _ hw) yv_X10_213 [0, 1, 2, 3, 4, 5, 6, 7, 8, 9] rfl (by decide) (ci := 10) rfl rfl 0 rfl ⟨Nat.le_of_ble_eq_true rfl, Nat.le_of_ble_eq_true rfl⟩ ⟨rfl, rfl⟩ rfl rfl (Nat.le_of_ble_eq_true rfl) ⟨Nat.le_of_ble_eq_true rfl, Nat.le_of_ble_eq_true rfl⟩ dX10_excessOf_15) hP hD hS hA [0, 1, 2, 3, 4, 5, 6, 7, 8, 9] [] [0, 1, 2, 3, 4, 5, 6, 7, 8, 9] rfl (wr := []) rfl (by decide) (by decide) (fun u => k_X10 E q0 u) (fun u => rfl) (by decide) (fun r_4 u_3 H locs hw hP hD hS => ?_)
  refine lv_isub hx hb dX10_excessOf_18 ?_
  refine z_ki (z_rS (rest := [.int (0 : Int32)]) hZ0 C0 hK hZ hA hP hD hS hl.1 (c_X10_max l E Z hZ0 H.size (r_2 - p3) (p3 - r_4) _ hw) yv_X10_217 [] rfl (by decide) ⟨Nat.le_of_ble_eq_true rfl, Nat.le_of_ble_eq_true rfl⟩ ⟨rfl, rfl⟩ rfl rfl (Nat.le_of_ble_eq_true rfl) ⟨Nat.le_of_ble_eq_true rfl, Nat.le_of_ble_eq_true rfl⟩ dX10_excessOf_19) hP hD hS hA [] [0, 1, 2, 3, 4, 5, 6, 7, 8, 9] [0, 1, 2, 3, 4, 5, 6, 7, 8, 9] rfl (wr := [_, _, _, _, _, _, _, _, _, _]) rfl (by decide) (by decide) (fun u => k_X10 E q0 u_3) (fun u => rfl) (by decide) (fun r_6 u_5 H locs hw hP hD hS => ?_)
  refine z_ki (z_rS (rest := []) hZ0 C0 hK hZ hA hP hD hS hl.1 (c_X10_max l E Z hZ0 H.size (0 : Int32) r_6 _ hw) yv_X10_217 [] rfl (by decide) ⟨Nat.le_of_ble_eq_true rfl, Nat.le_of_ble_eq_true rfl⟩ ⟨rfl, rfl⟩ rfl rfl (Nat.le_of_ble_eq_true rfl) ⟨Nat.le_of_ble_eq_true rfl, Nat.le_of_ble_eq_true rfl⟩ dX10_excessOf_22) hP hD hS hA [] [0, 1, 2, 3, 4, 5, 6, 7, 8, 9] [0, 1, 2, 3, 4, 5, 6, 7, 8, 9] rfl (wr := [_, _, _, _, _, _, _, _, _, _]) rfl (by decide) (by decide) (fun u => k_X10 E q0 u_3) (fun u => rfl) (by decide) (fun r_8 u_7 H locs hw hP hD hS => ?_)
  exact z_iret (k := (fun u => k_X10 E q0 u)) u_3 C0 hP hD hS hw dX10_excessOf_25
abbrev r_X10_penaltyOf : Room := { frames := 0, cells := 0, slots := 0, locals := 0 }
def j_X10_penaltyOf_73 (K24 : (Int32 × Int32 × Int32 × Int32 × S_X10) → Prop) (x1 : Int32) (x3 : Int32) (x5 : Int32) (y0 : Int32) (u0 : S_X10) (post : Int32 → S_X10 → Prop) : Prop := ∀ x_7 : Int32, x_7 = x5 + 1 → (K24 (x1, x3, y0, x_7, u0))
def j_X10_penaltyOf_24 (K24 : (Int32 × Int32 × Int32 × Int32 × S_X10) → Prop) (x1 : Int32) (x3 : Int32) (x4 : Int32) (x5 : Int32) (u0 : S_X10) (post : Int32 → S_X10 → Prop) : Prop := ((u0.2.2.2.2.2.2.2.2.1 11) ≤ x5 → (post (x1 * x4) u0)) ∧ (¬ ((u0.2.2.2.2.2.2.2.2.1 11) ≤ x5) → (vp_in ((136 : Int32) + ((2 : Int32) * x5)) 1728 ∧ ((x3 < (u0.2.2.2.2.2.2.2.2.1 ((136 : Int32) + ((2 : Int32) * x5)).toNatClampNeg) → (j_X10_penaltyOf_73 K24 x1 x3 x5 x4 u0 post)) ∧ (¬ (x3 < (u0.2.2.2.2.2.2.2.2.1 ((136 : Int32) + ((2 : Int32) * x5)).toNatClampNeg)) → (vp_in (((136 : Int32) + ((2 : Int32) * x5)) + (1 : Int32)) 1728 ∧ (j_X10_penaltyOf_73 K24 x1 x3 x5 (u0.2.2.2.2.2.2.2.2.1 (((136 : Int32) + ((2 : Int32) * x5)) + (1 : Int32)).toNatClampNeg) u0 post))))))
def j_X10_penaltyOf_17 (x1 : Int32) (y0 : Int32) (u0 : S_X10) (post : Int32 → S_X10 → Prop) : Prop := ∃ n, zl (fun K st => j_X10_penaltyOf_24 K st.1 st.2.1 st.2.2.1 st.2.2.2.1 st.2.2.2.2 post) n (x1, y0, (0 : Int32), (0 : Int32), u0)
def wp_X10_penaltyOf (u0 : S_X10) (p1 : Int32) (p2 : Int32) (post : Int32 → S_X10 → Prop) : Prop := (¬ (p2 = 0) → ((¬ p2 = 0) ∧ (j_X10_penaltyOf_17 p1 ((p1 * (100 : Int32)) / p2) u0 post))) ∧ (p2 = 0 → (j_X10_penaltyOf_17 p1 (p1 * (100 : Int32)) u0 post))
set_option maxHeartbeats 4000000 in
set_option maxRecDepth 100000 in
theorem t_X10_penaltyOf_73 {p : Program} {l : Launch} {e : Env} {s : State} {m : MethodId} {args : Array Value} {below : List Frame} {meth : Method} {c : Code} {Z : zZ} {E : zE} {A : Nat → Prop} {q0 : Nat → Nat} (hZ0 : zSt Z) (C0 : zC p s m args meth c yX10_penaltyOf cX10_penaltyOf 6 (some .int)) (hA : ∀ q : Nat, s.heap.size ≤ q → A q) (hK : va_K (zD E) vwCl (zT E) s) (hZ : Z A s s.heap) (post : Int32 → S_X10 → Prop) {K24 : (Int32 × Int32 × Int32 × Int32 × S_X10) → Prop} (hk_24 : ∀ (x1 : Int32) (x3 : Int32) (x4 : Int32) (x5 : Int32) (u0 : S_X10) (H : Heap) (locs : List Loc) (ls : Array Slot), K24 (x1, x3, x4, x5, u0) → va_P (zD E) vwCl (k_X10 E q0 u0) H → va_D A (k_X10 E q0 u0) → va_S A s.heap H locs → lv_has ls 6 [(0, .ref (q0 0)), (1, .int x1), (3, .int x3), (4, .int x4), (5, .int x5)] → W p l e r_X10_penaltyOf s m args below meth c H locs 0 0 (MQ below (va_Qi post (zAt E A (fun u => k_X10 E q0 u)) A) args s 0 0 A) (F0 m 24 ls [])) : ∀ (x1 : Int32) (x3 : Int32) (x5 : Int32) (y0 : Int32) (u0 : S_X10) (H : Heap) (locs : List Loc) (ls : Array Slot), j_X10_penaltyOf_73 K24 x1 x3 x5 y0 u0 post → va_P (zD E) vwCl (k_X10 E q0 u0) H → va_D A (k_X10 E q0 u0) → va_S A s.heap H locs → lv_has ls 6 [(0, .ref (q0 0)), (1, .int x1), (3, .int x3), (5, .int x5)] → W p l e r_X10_penaltyOf s m args below meth c H locs 0 0 (MQ below (va_Qi post (zAt E A (fun u => k_X10 E q0 u)) A) args s 0 0 A) (F0 m 73 ls [.int y0]) := by
  obtain ⟨hx, hb, hml, hr, hown, hts, hlocks, hin⟩ := id C0
  have hown : s.vm.findClass RX10 = some m.cls := hown
  intro x1 x3 x5 y0 u0 H locs ls hw hP hD hS hl
  refine lv_istore (lv' := [(4, .int y0), (0, .ref (q0 0)), (1, .int x1), (3, .int x3), (5, .int x5)]) hx hb dX10_penaltyOf_73 hl (by decide) rfl (fun ls hl => ?_)
  obtain ⟨x_7, ex_7⟩ : ∃ y : Int32, y = x5 + 1 := ⟨_, rfl⟩
  have hw := hw x_7 ex_7
  refine lv_iinc (v := x_7) (lv' := [(5, .int x_7), (4, .int y0), (0, .ref (q0 0)), (1, .int x1), (3, .int x3)]) hx hb dX10_penaltyOf_75 hl (k := 4) rfl (by rw [ex_7]; rfl) (by decide) rfl (fun ls hl => ?_)
  refine lv_goto (tgt := 24) hx hb dX10_penaltyOf_78 (by decide) ?_
  exact hk_24 x1 x3 y0 x_7 u0 _ _ _ hw hP hD hS (lv_sub hl [2, 3, 4, 1, 0] rfl)
set_option maxHeartbeats 4000000 in
set_option maxRecDepth 100000 in
theorem t_X10_penaltyOf_24 {p : Program} {l : Launch} {e : Env} {s : State} {m : MethodId} {args : Array Value} {below : List Frame} {meth : Method} {c : Code} {Z : zZ} {E : zE} {A : Nat → Prop} {q0 : Nat → Nat} (hZ0 : zSt Z) (C0 : zC p s m args meth c yX10_penaltyOf cX10_penaltyOf 6 (some .int)) (hA : ∀ q : Nat, s.heap.size ≤ q → A q) (hK : va_K (zD E) vwCl (zT E) s) (hZ : Z A s s.heap) (post : Int32 → S_X10 → Prop) : ∀ (n : Nat) (x1 : Int32) (x3 : Int32) (x4 : Int32) (x5 : Int32) (u0 : S_X10) (H : Heap) (locs : List Loc) (ls : Array Slot), zl (fun K st => j_X10_penaltyOf_24 K st.1 st.2.1 st.2.2.1 st.2.2.2.1 st.2.2.2.2 post) n (x1, x3, x4, x5, u0) → va_P (zD E) vwCl (k_X10 E q0 u0) H → va_D A (k_X10 E q0 u0) → va_S A s.heap H locs → lv_has ls 6 [(0, .ref (q0 0)), (1, .int x1), (3, .int x3), (4, .int x4), (5, .int x5)] → W p l e r_X10_penaltyOf s m args below meth c H locs 0 0 (MQ below (va_Qi post (zAt E A (fun u => k_X10 E q0 u)) A) args s 0 0 A) (F0 m 24 ls []) := by
  obtain ⟨hx, hb, hml, hr, hown, hts, hlocks, hin⟩ := id C0
  have hown : s.vm.findClass RX10 = some m.cls := hown
  intro n
  induction n with
  | zero => intro x1 x3 x4 x5 u0 H locs ls hw; exact hw.elim
  | succ n hk_24 =>
    intro x1 x3 x4 x5 u0 H locs ls hw hP hD hS hl
    have hw : j_X10_penaltyOf_24 _ x1 x3 x4 x5 u0 post := hw
    refine lv_iload hx hb dX10_penaltyOf_24 (lv_at hl 4 rfl) ?_
    refine lv_aload_n hx hb dX10_penaltyOf_26 rfl (lv_at hl 0 rfl) ?_
    refine va_get (D := zD E) (ci := 10) (v := .ref (q0 2)) (C := RX10) (T := TX10) (N := 24) hx hb hts uw_X10 hown hK hP 0 rfl rfl 8 (by decide) (hts _ wm_5_124) (fun _ h9 => h9) rfl dX10_penaltyOf_27 ?_
    refine lv_bipush (v := 11) hx hb dX10_penaltyOf_30 rfl ?_
    refine va_iald hx hb hK hP 2 0 rfl rfl (show ¬ ((11 : Int32) < 0 ∨ 1728 ≤ (11 : Int32).toNatClampNeg) by decide) dX10_penaltyOf_32 ?_
    refine W.eq (g2 := F0 m 33 ls ([.int (u0.2.2.2.2.2.2.2.2.1 11), .int x5])) rfl ?_
    obtain ⟨hwt, hwf⟩ := hw
    refine lv_icmp_ge (tgt := 81) hx hb dX10_penaltyOf_33 (by decide) (fun c_3 => ?_) (fun c_3 => ?_)
    · have hw := hwt c_3
      refine lv_iload_n hx hb dX10_penaltyOf_81 rfl (lv_at hl 1 rfl) ?_
      refine lv_iload hx hb dX10_penaltyOf_82 (lv_at hl 3 rfl) ?_
      refine lv_imul hx hb dX10_penaltyOf_84 ?_
      exact z_iret (k := (fun u => k_X10 E q0 u)) u0 C0 hP hD hS hw dX10_penaltyOf_85
    · have hw := hwf c_3
      refine lv_aload_n hx hb dX10_penaltyOf_36 rfl (lv_at hl 0 rfl) ?_
      refine va_get (D := zD E) (ci := 10) (v := .ref (q0 2)) (C := RX10) (T := TX10) (N := 24) hx hb hts uw_X10 hown hK hP 0 rfl rfl 8 (by decide) (hts _ wm_5_124) (fun _ h9 => h9) rfl dX10_penaltyOf_37 ?_
      refine lv_sipush (v := 136) hx hb dX10_penaltyOf_40 rfl ?_
      refine lv_iconst (v := 2) hx hb dX10_penaltyOf_43 rfl ?_
      refine lv_iload hx hb dX10_penaltyOf_44 (lv_at hl 4 rfl) ?_
      refine lv_imul hx hb dX10_penaltyOf_46 ?_
      refine lv_iadd hx hb dX10_penaltyOf_47 ?_
      obtain ⟨h_4, hw⟩ := hw
      refine va_iald hx hb hK hP 2 0 rfl rfl h_4 dX10_penaltyOf_48 ?_
      refine lv_iload_n hx hb dX10_penaltyOf_49 rfl (lv_at hl 2 rfl) ?_
      obtain ⟨hwt, hwf⟩ := hw
      refine lv_icmp_gt (tgt := 71) hx hb dX10_penaltyOf_50 (by decide) (fun c_5 => ?_) (fun c_5 => ?_)
      · have hw := hwt c_5
        refine lv_iload hx hb dX10_penaltyOf_71 (lv_at hl 3 rfl) ?_
        exact t_X10_penaltyOf_73 (l := l) hZ0 C0 hA hK hZ post hk_24 x1 x3 x5 x4 u0 _ _ _ hw hP hD hS (lv_sub hl [0, 1, 2, 4] rfl)
      · have hw := hwf c_5
        refine lv_aload_n hx hb dX10_penaltyOf_53 rfl (lv_at hl 0 rfl) ?_
        refine va_get (D := zD E) (ci := 10) (v := .ref (q0 2)) (C := RX10) (T := TX10) (N := 24) hx hb hts uw_X10 hown hK hP 0 rfl rfl 8 (by decide) (hts _ wm_5_124) (fun _ h9 => h9) rfl dX10_penaltyOf_54 ?_
        refine lv_sipush (v := 136) hx hb dX10_penaltyOf_57 rfl ?_
        refine lv_iconst (v := 2) hx hb dX10_penaltyOf_60 rfl ?_
        refine lv_iload hx hb dX10_penaltyOf_61 (lv_at hl 4 rfl) ?_
        refine lv_imul hx hb dX10_penaltyOf_63 ?_
        refine lv_iadd hx hb dX10_penaltyOf_64 ?_
        refine lv_iconst (v := 1) hx hb dX10_penaltyOf_65 rfl ?_
        refine lv_iadd hx hb dX10_penaltyOf_66 ?_
        obtain ⟨h_6, hw⟩ := hw
        refine va_iald hx hb hK hP 2 0 rfl rfl h_6 dX10_penaltyOf_67 ?_
        refine lv_goto (tgt := 73) hx hb dX10_penaltyOf_68 (by decide) ?_
        exact t_X10_penaltyOf_73 (l := l) hZ0 C0 hA hK hZ post hk_24 x1 x3 x5 (u0.2.2.2.2.2.2.2.2.1 (((136 : Int32) + ((2 : Int32) * x5)) + (1 : Int32)).toNatClampNeg) u0 _ _ _ hw hP hD hS (lv_sub hl [0, 1, 2, 4] rfl)
set_option maxHeartbeats 4000000 in
set_option maxRecDepth 100000 in
theorem t_X10_penaltyOf_17 {p : Program} {l : Launch} {e : Env} {s : State} {m : MethodId} {args : Array Value} {below : List Frame} {meth : Method} {c : Code} {Z : zZ} {E : zE} {A : Nat → Prop} {q0 : Nat → Nat} (hZ0 : zSt Z) (C0 : zC p s m args meth c yX10_penaltyOf cX10_penaltyOf 6 (some .int)) (hA : ∀ q : Nat, s.heap.size ≤ q → A q) (hK : va_K (zD E) vwCl (zT E) s) (hZ : Z A s s.heap) (post : Int32 → S_X10 → Prop) : ∀ (x1 : Int32) (y0 : Int32) (u0 : S_X10) (H : Heap) (locs : List Loc) (ls : Array Slot), j_X10_penaltyOf_17 x1 y0 u0 post → va_P (zD E) vwCl (k_X10 E q0 u0) H → va_D A (k_X10 E q0 u0) → va_S A s.heap H locs → lv_has ls 6 [(0, .ref (q0 0)), (1, .int x1)] → W p l e r_X10_penaltyOf s m args below meth c H locs 0 0 (MQ below (va_Qi post (zAt E A (fun u => k_X10 E q0 u)) A) args s 0 0 A) (F0 m 17 ls [.int y0]) := by
  obtain ⟨hx, hb, hml, hr, hown, hts, hlocks, hin⟩ := id C0
  have hown : s.vm.findClass RX10 = some m.cls := hown
  intro x1 y0 u0 H locs ls hw hP hD hS hl
  refine lv_istore_n (lv' := [(3, .int y0), (0, .ref (q0 0)), (1, .int x1)]) hx hb dX10_penaltyOf_17 rfl hl (by decide) rfl (fun ls hl => ?_)
  refine lv_iconst (v := 0) hx hb dX10_penaltyOf_18 rfl ?_
  refine lv_istore (lv' := [(4, .int (0 : Int32)), (3, .int y0), (0, .ref (q0 0)), (1, .int x1)]) hx hb dX10_penaltyOf_19 hl (by decide) rfl (fun ls hl => ?_)
  refine lv_iconst (v := 0) hx hb dX10_penaltyOf_21 rfl ?_
  refine lv_istore (lv' := [(5, .int (0 : Int32)), (4, .int (0 : Int32)), (3, .int y0), (0, .ref (q0 0)), (1, .int x1)]) hx hb dX10_penaltyOf_22 hl (by decide) rfl (fun ls hl => ?_)
  obtain ⟨n9, hw⟩ := hw
  exact t_X10_penaltyOf_24 (l := l) hZ0 C0 hA hK hZ post n9 x1 y0 (0 : Int32) (0 : Int32) u0 _ _ _ hw hP hD hS (lv_sub hl [3, 4, 2, 1, 0] rfl)
set_option maxHeartbeats 4000000 in
set_option maxRecDepth 100000 in
theorem c_X10_penaltyOf (l : Launch) (E : zE) (Z : zZ) (hZ0 : zSt Z) (q0 : Nat → Nat) (sz : Nat) (u0 : S_X10) (p1 : Int32) (p2 : Int32) (post : Int32 → S_X10 → Prop) (hw : wp_X10_penaltyOf u0 p1 p2 post) : Met l yX10_penaltyOf (zws yX10_penaltyOf cX10_penaltyOf 6 (some .int)) r_X10_penaltyOf (va_Pc [.ref (q0 0), .int p1, .int p2] (zPre Z E (k_X10 E q0 u0) sz)) (va_Qi post (zAt E (va_A (k_X10 E q0 u0) sz) (fun u => k_X10 E q0 u)) (va_A (k_X10 E q0 u0) sz)) 0 0 (va_A (k_X10 E q0 u0) sz) := by
  refine z_ofW (Qf := fun A => va_Qi post (zAt E A (fun u => k_X10 E q0 u)) A) (by decide) (Nat.le_of_ble_eq_true rfl) ?_
  intro p e s m args below meth c A ls C0 hA hK hZ hP hD hS hl
  obtain ⟨hx, hb, hml, hr, hown, hts, hlocks, hin⟩ := id C0
  have hown : s.vm.findClass RX10 = some m.cls := hown
  have hl : lv_has ls 6 [(0, .ref (q0 0)), (1, .int p1), (2, .int p2)] := hl
  refine lv_iload_n hx hb dX10_penaltyOf_0 rfl (lv_at hl 2 rfl) ?_
  obtain ⟨hwt, hwf⟩ := hw
  refine lv_if_ne (tgt := 11) hx hb dX10_penaltyOf_1 (by decide) (fun c_1 => ?_) (fun c_1 => ?_)
  · have hw := hwt c_1
    refine lv_iload_n hx hb dX10_penaltyOf_11 rfl (lv_at hl 1 rfl) ?_
    refine lv_bipush (v := 100) hx hb dX10_penaltyOf_12 rfl ?_
    refine lv_imul hx hb dX10_penaltyOf_14 ?_
    refine lv_iload_n hx hb dX10_penaltyOf_15 rfl (lv_at hl 2 rfl) ?_
    obtain ⟨h_2, hw⟩ := hw
    refine lv_idiv hx hb dX10_penaltyOf_16 h_2 ?_
    exact t_X10_penaltyOf_17 (l := l) hZ0 C0 hA hK hZ post p1 ((p1 * (100 : Int32)) / p2) u0 _ _ _ hw hP hD hS (lv_sub hl [0, 1] rfl)
  · have hw := hwf c_1
    refine lv_iload_n hx hb dX10_penaltyOf_4 rfl (lv_at hl 1 rfl) ?_
    refine lv_bipush (v := 100) hx hb dX10_penaltyOf_5 rfl ?_
    refine lv_imul hx hb dX10_penaltyOf_7 ?_
    refine lv_goto (tgt := 17) hx hb dX10_penaltyOf_8 (by decide) ?_
    exact t_X10_penaltyOf_17 (l := l) hZ0 C0 hA hK hZ post p1 (p1 * (100 : Int32)) u0 _ _ _ hw hP hD hS (lv_sub hl [0, 1] rfl)
abbrev r_X10_note : Room := { frames := 1, cells := 0, slots := 0, locals := 25 }
def wp_X10_note (u0 : S_X10) (p1 : Int32) (p2 : Int32) (p3 : Int32) (p4 : Int32) (post : Int32 → S_X10 → Prop) : Prop := (¬ (p3 = 0) → (∀ x_2 : Int32, x_2 = ((u0.2.2.2.2.2.2.2.2.1 13) + (1 : Int32)) → ((¬ (((upd u0.2.2.2.2.2.2.2.2.1 13 x_2) 12) = (20 : Int32)) → (wp_X10_breach ((upd u0.2.2.2.2.2.2.2.2.1 13 x_2) 12) (fun r_5 u_4 => ∀ x_6 : Int32, x_6 = (((upd u0.2.2.2.2.2.2.2.2.1 13 x_2) 12) + (1 : Int32)) → (vp_in r_5 1728 ∧ (vp_in (r_5 + (1 : Int32)) 1728 ∧ (wp_X10_penaltyOf (u0.1, u0.2.1, u0.2.2.1, u0.2.2.2.1, u0.2.2.2.2.1, u0.2.2.2.2.2.1, u0.2.2.2.2.2.2.1, u0.2.2.2.2.2.2.2.1, (upd (upd (upd (upd u0.2.2.2.2.2.2.2.2.1 13 x_2) 12 x_6) r_5.toNatClampNeg p1) (r_5 + (1 : Int32)).toNatClampNeg p2), u0.2.2.2.2.2.2.2.2.2.1, u0.2.2.2.2.2.2.2.2.2.2.1, u0.2.2.2.2.2.2.2.2.2.2.2.1, u0.2.2.2.2.2.2.2.2.2.2.2.2.1, u0.2.2.2.2.2.2.2.2.2.2.2.2.2.1, u0.2.2.2.2.2.2.2.2.2.2.2.2.2.2.1, u0.2.2.2.2.2.2.2.2.2.2.2.2.2.2.2.1, u0.2.2.2.2.2.2.2.2.2.2.2.2.2.2.2.2.1, u0.2.2.2.2.2.2.2.2.2.2.2.2.2.2.2.2.2.1, u0.2.2.2.2.2.2.2.2.2.2.2.2.2.2.2.2.2.2.1, u0.2.2.2.2.2.2.2.2.2.2.2.2.2.2.2.2.2.2.2.1, u0.2.2.2.2.2.2.2.2.2.2.2.2.2.2.2.2.2.2.2.2.1, u0.2.2.2.2.2.2.2.2.2.2.2.2.2.2.2.2.2.2.2.2.2) p3 p4 (fun r_10 u_9 => vp_in (r_5 + (2 : Int32)) 1728 ∧ (vp_in (r_5 + (3 : Int32)) 1728 ∧ (vp_in (r_5 + (2 : Int32)) 1728 ∧ (post ((upd (upd u_9.2.2.2.2.2.2.2.2.1 (r_5 + (2 : Int32)).toNatClampNeg r_10) (r_5 + (3 : Int32)).toNatClampNeg (0 : Int32)) (r_5 + (2 : Int32)).toNatClampNeg) (u_9.1, u_9.2.1, u_9.2.2.1, u_9.2.2.2.1, u_9.2.2.2.2.1, u_9.2.2.2.2.2.1, u_9.2.2.2.2.2.2.1, u_9.2.2.2.2.2.2.2.1, (upd (upd u_9.2.2.2.2.2.2.2.2.1 (r_5 + (2 : Int32)).toNatClampNeg r_10) (r_5 + (3 : Int32)).toNatClampNeg (0 : Int32)), u_9.2.2.2.2.2.2.2.2.2.1, u_9.2.2.2.2.2.2.2.2.2.2.1, u_9.2.2.2.2.2.2.2.2.2.2.2.1, u_9.2.2.2.2.2.2.2.2.2.2.2.2.1, u_9.2.2.2.2.2.2.2.2.2.2.2.2.2.1, u_9.2.2.2.2.2.2.2.2.2.2.2.2.2.2.1, u_9.2.2.2.2.2.2.2.2.2.2.2.2.2.2.2.1, u_9.2.2.2.2.2.2.2.2.2.2.2.2.2.2.2.2.1, u_9.2.2.2.2.2.2.2.2.2.2.2.2.2.2.2.2.2.1, u_9.2.2.2.2.2.2.2.2.2.2.2.2.2.2.2.2.2.2.1, u_9.2.2.2.2.2.2.2.2.2.2.2.2.2.2.2.2.2.2.2.1, u_9.2.2.2.2.2.2.2.2.2.2.2.2.2.2.2.2.2.2.2.2.1, u_9.2.2.2.2.2.2.2.2.2.2.2.2.2.2.2.2.2.2.2.2.2))))))))))) ∧ (((upd u0.2.2.2.2.2.2.2.2.1 13 x_2) 12) = (20 : Int32) → (post (0 : Int32) (u0.1, u0.2.1, u0.2.2.1, u0.2.2.2.1, u0.2.2.2.2.1, u0.2.2.2.2.2.1, u0.2.2.2.2.2.2.1, u0.2.2.2.2.2.2.2.1, (upd u0.2.2.2.2.2.2.2.2.1 13 x_2), u0.2.2.2.2.2.2.2.2.2.1, u0.2.2.2.2.2.2.2.2.2.2.1, u0.2.2.2.2.2.2.2.2.2.2.2.1, u0.2.2.2.2.2.2.2.2.2.2.2.2.1, u0.2.2.2.2.2.2.2.2.2.2.2.2.2.1, u0.2.2.2.2.2.2.2.2.2.2.2.2.2.2.1, u0.2.2.2.2.2.2.2.2.2.2.2.2.2.2.2.1, u0.2.2.2.2.2.2.2.2.2.2.2.2.2.2.2.2.1, u0.2.2.2.2.2.2.2.2.2.2.2.2.2.2.2.2.2.1, u0.2.2.2.2.2.2.2.2.2.2.2.2.2.2.2.2.2.2.1, u0.2.2.2.2.2.2.2.2.2.2.2.2.2.2.2.2.2.2.2.1, u0.2.2.2.2.2.2.2.2.2.2.2.2.2.2.2.2.2.2.2.2.1, u0.2.2.2.2.2.2.2.2.2.2.2.2.2.2.2.2.2.2.2.2.2)))))) ∧ (p3 = 0 → (post (0 : Int32) u0))
set_option maxHeartbeats 4000000 in
set_option maxRecDepth 100000 in
theorem c_X10_note (l : Launch) (E : zE) (Z : zZ) (hZ0 : zSt Z) (q0 : Nat → Nat) (sz : Nat) (u0 : S_X10) (p1 : Int32) (p2 : Int32) (p3 : Int32) (p4 : Int32) (post : Int32 → S_X10 → Prop) (hw : wp_X10_note u0 p1 p2 p3 p4 post) : Met l yX10_note (zws yX10_note cX10_note 6 (some .int)) r_X10_note (va_Pc [.ref (q0 0), .int p1, .int p2, .int p3, .int p4] (zPre Z E (k_X10 E q0 u0) sz)) (va_Qi post (zAt E (va_A (k_X10 E q0 u0) sz) (fun u => k_X10 E q0 u)) (va_A (k_X10 E q0 u0) sz)) 0 0 (va_A (k_X10 E q0 u0) sz) := by
  refine z_ofW (Qf := fun A => va_Qi post (zAt E A (fun u => k_X10 E q0 u)) A) (by decide) (Nat.le_of_ble_eq_true rfl) ?_
  intro p e s m args below meth c A ls C0 hA hK hZ hP hD hS hl
  obtain ⟨hx, hb, hml, hr, hown, hts, hlocks, hin⟩ := id C0
  have hown : s.vm.findClass RX10 = some m.cls := hown
  have hl : lv_has ls 6 [(0, .ref (q0 0)), (1, .int p1), (2, .int p2), (3, .int p3), (4, .int p4)] := hl
  refine lv_iload_n hx hb dX10_note_0 rfl (lv_at hl 3 rfl) ?_
  obtain ⟨hwt, hwf⟩ := hw
  refine lv_if_ne (tgt := 6) hx hb dX10_note_1 (by decide) (fun c_1 => ?_) (fun c_1 => ?_)
  · have hw := hwt c_1
    refine lv_aload_n hx hb dX10_note_6 rfl (lv_at hl 0 rfl) ?_
    refine va_get (D := zD E) (ci := 10) (v := .ref (q0 2)) (C := RX10) (T := TX10) (N := 24) hx hb hts uw_X10 hown hK hP 0 rfl rfl 8 (by decide) (hts _ wm_5_124) (fun _ h9 => h9) rfl dX10_note_7 ?_
    refine lv_bipush (v := 13) hx hb dX10_note_10 rfl ?_
    refine lv_dup2_11 hx hb dX10_note_12 rfl rfl ?_
    refine va_iald hx hb hK hP 2 0 rfl rfl (show ¬ ((13 : Int32) < 0 ∨ 1728 ≤ (13 : Int32).toNatClampNeg) by decide) dX10_note_13 ?_
    refine W.eq (g2 := F0 m 14 ls ([.int (u0.2.2.2.2.2.2.2.2.1 13), .int (13 : Int32), .ref (q0 2)])) rfl ?_
    refine lv_iconst (v := 1) hx hb dX10_note_14 rfl ?_
    refine lv_iadd hx hb dX10_note_15 ?_
    refine lv_topi (fun x_2 ex_2 => ?_)
    have hw := hw x_2 ex_2
    refine va_iast hx hb hK hP hD hS 2 0 rfl rfl (show ¬ ((13 : Int32) < 0 ∨ 1728 ≤ (13 : Int32).toNatClampNeg) by decide) dX10_note_16 (fun H locs hP hD hS => ?_)
    have hP : va_P (zD E) vwCl (k_X10 E q0 (u0.1, u0.2.1, u0.2.2.1, u0.2.2.2.1, u0.2.2.2.2.1, u0.2.2.2.2.2.1, u0.2.2.2.2.2.2.1, u0.2.2.2.2.2.2.2.1, (upd u0.2.2.2.2.2.2.2.2.1 13 x_2), u0.2.2.2.2.2.2.2.2.2.1, u0.2.2.2.2.2.2.2.2.2.2.1, u0.2.2.2.2.2.2.2.2.2.2.2.1, u0.2.2.2.2.2.2.2.2.2.2.2.2.1, u0.2.2.2.2.2.2.2.2.2.2.2.2.2.1, u0.2.2.2.2.2.2.2.2.2.2.2.2.2.2.1, u0.2.2.2.2.2.2.2.2.2.2.2.2.2.2.2.1, u0.2.2.2.2.2.2.2.2.2.2.2.2.2.2.2.2.1, u0.2.2.2.2.2.2.2.2.2.2.2.2.2.2.2.2.2.1, u0.2.2.2.2.2.2.2.2.2.2.2.2.2.2.2.2.2.2.1, u0.2.2.2.2.2.2.2.2.2.2.2.2.2.2.2.2.2.2.2.1, u0.2.2.2.2.2.2.2.2.2.2.2.2.2.2.2.2.2.2.2.2.1, u0.2.2.2.2.2.2.2.2.2.2.2.2.2.2.2.2.2.2.2.2.2)) H := hP
    have hD : va_D A (k_X10 E q0 (u0.1, u0.2.1, u0.2.2.1, u0.2.2.2.1, u0.2.2.2.2.1, u0.2.2.2.2.2.1, u0.2.2.2.2.2.2.1, u0.2.2.2.2.2.2.2.1, (upd u0.2.2.2.2.2.2.2.2.1 13 x_2), u0.2.2.2.2.2.2.2.2.2.1, u0.2.2.2.2.2.2.2.2.2.2.1, u0.2.2.2.2.2.2.2.2.2.2.2.1, u0.2.2.2.2.2.2.2.2.2.2.2.2.1, u0.2.2.2.2.2.2.2.2.2.2.2.2.2.1, u0.2.2.2.2.2.2.2.2.2.2.2.2.2.2.1, u0.2.2.2.2.2.2.2.2.2.2.2.2.2.2.2.1, u0.2.2.2.2.2.2.2.2.2.2.2.2.2.2.2.2.1, u0.2.2.2.2.2.2.2.2.2.2.2.2.2.2.2.2.2.1, u0.2.2.2.2.2.2.2.2.2.2.2.2.2.2.2.2.2.2.1, u0.2.2.2.2.2.2.2.2.2.2.2.2.2.2.2.2.2.2.2.1, u0.2.2.2.2.2.2.2.2.2.2.2.2.2.2.2.2.2.2.2.2.1, u0.2.2.2.2.2.2.2.2.2.2.2.2.2.2.2.2.2.2.2.2.2)) := hD
    refine lv_aload_n hx hb dX10_note_17 rfl (lv_at hl 0 rfl) ?_
    refine va_get (D := zD E) (ci := 10) (v := .ref (q0 2)) (C := RX10) (T := TX10) (N := 24) hx hb hts uw_X10 hown hK hP 0 rfl rfl 8 (by decide) (hts _ wm_5_124) (fun _ h9 => h9) rfl dX10_note_18 ?_
    refine lv_bipush (v := 12) hx hb dX10_note_21 rfl ?_
    refine va_iald hx hb hK hP 2 0 rfl rfl (show ¬ ((12 : Int32) < 0 ∨ 1728 ≤ (12 : Int32).toNatClampNeg) by decide) dX10_note_23 ?_
    refine W.eq (g2 := F0 m 24 ls ([.int ((upd u0.2.2.2.2.2.2.2.2.1 13 x_2) 12)])) rfl ?_
    refine lv_bipush (v := 20) hx hb dX10_note_24 rfl ?_
    obtain ⟨hwt, hwf⟩ := hw
    refine lv_icmp_ne (tgt := 31) hx hb dX10_note_26 (by decide) (fun c_3 => ?_) (fun c_3 => ?_)
    · have hw := hwt c_3
      refine lv_aload_n hx hb dX10_note_31 rfl (lv_at hl 0 rfl) ?_
      refine va_get (D := zD E) (ci := 10) (v := .ref (q0 2)) (C := RX10) (T := TX10) (N := 24) hx hb hts uw_X10 hown hK hP 0 rfl rfl 8 (by decide) (hts _ wm_5_124) (fun _ h9 => h9) rfl dX10_note_32 ?_
      refine lv_bipush (v := 12) hx hb dX10_note_35 rfl ?_
      refine va_iald hx hb hK hP 2 0 rfl rfl (show ¬ ((12 : Int32) < 0 ∨ 1728 ≤ (12 : Int32).toNatClampNeg) by decide) dX10_note_37 ?_
      refine W.eq (g2 := F0 m 38 ls ([.int ((upd u0.2.2.2.2.2.2.2.2.1 13 x_2) 12)])) rfl ?_
      refine z_ki (z_rS (rest := []) hZ0 C0 hK hZ hA hP hD hS hl.1 (c_X10_breach l E Z hZ0 H.size ((upd u0.2.2.2.2.2.2.2.2.1 13 x_2) 12) _ hw) yv_X10_220 [] rfl (by decide) ⟨Nat.le_of_ble_eq_true rfl, Nat.le_of_ble_eq_true rfl⟩ ⟨rfl, rfl⟩ rfl rfl (Nat.le_of_ble_eq_true rfl) ⟨Nat.le_of_ble_eq_true rfl, Nat.le_of_ble_eq_true rfl⟩ dX10_note_38) hP hD hS hA [] [0, 1, 2, 3, 4, 5, 6, 7, 8, 9] [0, 1, 2, 3, 4, 5, 6, 7, 8, 9] rfl (wr := [_, _, _, _, _, _, _, _, _, _]) rfl (by decide) (by decide) (fun u => k_X10 E q0 (u0.1, u0.2.1, u0.2.2.1, u0.2.2.2.1, u0.2.2.2.2.1, u0.2.2.2.2.2.1, u0.2.2.2.2.2.2.1, u0.2.2.2.2.2.2.2.1, (upd u0.2.2.2.2.2.2.2.2.1 13 x_2), u0.2.2.2.2.2.2.2.2.2.1, u0.2.2.2.2.2.2.2.2.2.2.1, u0.2.2.2.2.2.2.2.2.2.2.2.1, u0.2.2.2.2.2.2.2.2.2.2.2.2.1, u0.2.2.2.2.2.2.2.2.2.2.2.2.2.1, u0.2.2.2.2.2.2.2.2.2.2.2.2.2.2.1, u0.2.2.2.2.2.2.2.2.2.2.2.2.2.2.2.1, u0.2.2.2.2.2.2.2.2.2.2.2.2.2.2.2.2.1, u0.2.2.2.2.2.2.2.2.2.2.2.2.2.2.2.2.2.1, u0.2.2.2.2.2.2.2.2.2.2.2.2.2.2.2.2.2.2.1, u0.2.2.2.2.2.2.2.2.2.2.2.2.2.2.2.2.2.2.2.1, u0.2.2.2.2.2.2.2.2.2.2.2.2.2.2.2.2.2.2.2.2.1, u0.2.2.2.2.2.2.2.2.2.2.2.2.2.2.2.2.2.2.2.2.2)) (fun u => rfl) (by decide) (fun r_5 u_4 H locs hw hP hD hS => ?_)
      refine lv_istore (lv' := [(5, .int r_5), (0, .ref (q0 0)), (1, .int p1), (2, .int p2), (3, .int p3), (4, .int p4)]) hx hb dX10_note_41 hl (by decide) rfl (fun ls hl => ?_)
      refine lv_aload_n hx hb dX10_note_43 rfl (lv_at hl 1 rfl) ?_
      refine va_get (D := zD E) (ci := 10) (v := .ref (q0 2)) (C := RX10) (T := TX10) (N := 24) hx hb hts uw_X10 hown hK hP 0 rfl rfl 8 (by decide) (hts _ wm_5_124) (fun _ h9 => h9) rfl dX10_note_44 ?_
      refine lv_bipush (v := 12) hx hb dX10_note_47 rfl ?_
      refine lv_dup2_11 hx hb dX10_note_49 rfl rfl ?_
      refine va_iald hx hb hK hP 2 0 rfl rfl (show ¬ ((12 : Int32) < 0 ∨ 1728 ≤ (12 : Int32).toNatClampNeg) by decide) dX10_note_50 ?_
      refine W.eq (g2 := F0 m 51 ls ([.int ((upd u0.2.2.2.2.2.2.2.2.1 13 x_2) 12), .int (12 : Int32), .ref (q0 2)])) rfl ?_
      refine lv_iconst (v := 1) hx hb dX10_note_51 rfl ?_
      refine lv_iadd hx hb dX10_note_52 ?_
      refine lv_topi (fun x_6 ex_6 => ?_)
      have hw := hw x_6 ex_6
      refine va_iast hx hb hK hP hD hS 2 0 rfl rfl (show ¬ ((12 : Int32) < 0 ∨ 1728 ≤ (12 : Int32).toNatClampNeg) by decide) dX10_note_53 (fun H locs hP hD hS => ?_)
      have hP : va_P (zD E) vwCl (k_X10 E q0 (u0.1, u0.2.1, u0.2.2.1, u0.2.2.2.1, u0.2.2.2.2.1, u0.2.2.2.2.2.1, u0.2.2.2.2.2.2.1, u0.2.2.2.2.2.2.2.1, (upd (upd u0.2.2.2.2.2.2.2.2.1 13 x_2) 12 x_6), u0.2.2.2.2.2.2.2.2.2.1, u0.2.2.2.2.2.2.2.2.2.2.1, u0.2.2.2.2.2.2.2.2.2.2.2.1, u0.2.2.2.2.2.2.2.2.2.2.2.2.1, u0.2.2.2.2.2.2.2.2.2.2.2.2.2.1, u0.2.2.2.2.2.2.2.2.2.2.2.2.2.2.1, u0.2.2.2.2.2.2.2.2.2.2.2.2.2.2.2.1, u0.2.2.2.2.2.2.2.2.2.2.2.2.2.2.2.2.1, u0.2.2.2.2.2.2.2.2.2.2.2.2.2.2.2.2.2.1, u0.2.2.2.2.2.2.2.2.2.2.2.2.2.2.2.2.2.2.1, u0.2.2.2.2.2.2.2.2.2.2.2.2.2.2.2.2.2.2.2.1, u0.2.2.2.2.2.2.2.2.2.2.2.2.2.2.2.2.2.2.2.2.1, u0.2.2.2.2.2.2.2.2.2.2.2.2.2.2.2.2.2.2.2.2.2)) H := hP
      have hD : va_D A (k_X10 E q0 (u0.1, u0.2.1, u0.2.2.1, u0.2.2.2.1, u0.2.2.2.2.1, u0.2.2.2.2.2.1, u0.2.2.2.2.2.2.1, u0.2.2.2.2.2.2.2.1, (upd (upd u0.2.2.2.2.2.2.2.2.1 13 x_2) 12 x_6), u0.2.2.2.2.2.2.2.2.2.1, u0.2.2.2.2.2.2.2.2.2.2.1, u0.2.2.2.2.2.2.2.2.2.2.2.1, u0.2.2.2.2.2.2.2.2.2.2.2.2.1, u0.2.2.2.2.2.2.2.2.2.2.2.2.2.1, u0.2.2.2.2.2.2.2.2.2.2.2.2.2.2.1, u0.2.2.2.2.2.2.2.2.2.2.2.2.2.2.2.1, u0.2.2.2.2.2.2.2.2.2.2.2.2.2.2.2.2.1, u0.2.2.2.2.2.2.2.2.2.2.2.2.2.2.2.2.2.1, u0.2.2.2.2.2.2.2.2.2.2.2.2.2.2.2.2.2.2.1, u0.2.2.2.2.2.2.2.2.2.2.2.2.2.2.2.2.2.2.2.1, u0.2.2.2.2.2.2.2.2.2.2.2.2.2.2.2.2.2.2.2.2.1, u0.2.2.2.2.2.2.2.2.2.2.2.2.2.2.2.2.2.2.2.2.2)) := hD
      refine lv_aload_n hx hb dX10_note_54 rfl (lv_at hl 1 rfl) ?_
      refine va_get (D := zD E) (ci := 10) (v := .ref (q0 2)) (C := RX10) (T := TX10) (N := 24) hx hb hts uw_X10 hown hK hP 0 rfl rfl 8 (by decide) (hts _ wm_5_124) (fun _ h9 => h9) rfl dX10_note_55 ?_
      refine lv_iload hx hb dX10_note_58 (lv_at hl 0 rfl) ?_
      refine lv_iload_n hx hb dX10_note_60 rfl (lv_at hl 2 rfl) ?_
      obtain ⟨h_7, hw⟩ := hw
      refine va_iast hx hb hK hP hD hS 2 0 rfl rfl h_7 dX10_note_61 (fun H locs hP hD hS => ?_)
      have hP : va_P (zD E) vwCl (k_X10 E q0 (u0.1, u0.2.1, u0.2.2.1, u0.2.2.2.1, u0.2.2.2.2.1, u0.2.2.2.2.2.1, u0.2.2.2.2.2.2.1, u0.2.2.2.2.2.2.2.1, (upd (upd (upd u0.2.2.2.2.2.2.2.2.1 13 x_2) 12 x_6) r_5.toNatClampNeg p1), u0.2.2.2.2.2.2.2.2.2.1, u0.2.2.2.2.2.2.2.2.2.2.1, u0.2.2.2.2.2.2.2.2.2.2.2.1, u0.2.2.2.2.2.2.2.2.2.2.2.2.1, u0.2.2.2.2.2.2.2.2.2.2.2.2.2.1, u0.2.2.2.2.2.2.2.2.2.2.2.2.2.2.1, u0.2.2.2.2.2.2.2.2.2.2.2.2.2.2.2.1, u0.2.2.2.2.2.2.2.2.2.2.2.2.2.2.2.2.1, u0.2.2.2.2.2.2.2.2.2.2.2.2.2.2.2.2.2.1, u0.2.2.2.2.2.2.2.2.2.2.2.2.2.2.2.2.2.2.1, u0.2.2.2.2.2.2.2.2.2.2.2.2.2.2.2.2.2.2.2.1, u0.2.2.2.2.2.2.2.2.2.2.2.2.2.2.2.2.2.2.2.2.1, u0.2.2.2.2.2.2.2.2.2.2.2.2.2.2.2.2.2.2.2.2.2)) H := hP
      have hD : va_D A (k_X10 E q0 (u0.1, u0.2.1, u0.2.2.1, u0.2.2.2.1, u0.2.2.2.2.1, u0.2.2.2.2.2.1, u0.2.2.2.2.2.2.1, u0.2.2.2.2.2.2.2.1, (upd (upd (upd u0.2.2.2.2.2.2.2.2.1 13 x_2) 12 x_6) r_5.toNatClampNeg p1), u0.2.2.2.2.2.2.2.2.2.1, u0.2.2.2.2.2.2.2.2.2.2.1, u0.2.2.2.2.2.2.2.2.2.2.2.1, u0.2.2.2.2.2.2.2.2.2.2.2.2.1, u0.2.2.2.2.2.2.2.2.2.2.2.2.2.1, u0.2.2.2.2.2.2.2.2.2.2.2.2.2.2.1, u0.2.2.2.2.2.2.2.2.2.2.2.2.2.2.2.1, u0.2.2.2.2.2.2.2.2.2.2.2.2.2.2.2.2.1, u0.2.2.2.2.2.2.2.2.2.2.2.2.2.2.2.2.2.1, u0.2.2.2.2.2.2.2.2.2.2.2.2.2.2.2.2.2.2.1, u0.2.2.2.2.2.2.2.2.2.2.2.2.2.2.2.2.2.2.2.1, u0.2.2.2.2.2.2.2.2.2.2.2.2.2.2.2.2.2.2.2.2.1, u0.2.2.2.2.2.2.2.2.2.2.2.2.2.2.2.2.2.2.2.2.2)) := hD
      refine lv_aload_n hx hb dX10_note_62 rfl (lv_at hl 1 rfl) ?_
      refine va_get (D := zD E) (ci := 10) (v := .ref (q0 2)) (C := RX10) (T := TX10) (N := 24) hx hb hts uw_X10 hown hK hP 0 rfl rfl 8 (by decide) (hts _ wm_5_124) (fun _ h9 => h9) rfl dX10_note_63 ?_
      refine lv_iload hx hb dX10_note_66 (lv_at hl 0 rfl) ?_
      refine lv_iconst (v := 1) hx hb dX10_note_68 rfl ?_
      refine lv_iadd hx hb dX10_note_69 ?_
      refine lv_iload_n hx hb dX10_note_70 rfl (lv_at hl 3 rfl) ?_
      obtain ⟨h_8, hw⟩ := hw
      refine va_iast hx hb hK hP hD hS 2 0 rfl rfl h_8 dX10_note_71 (fun H locs hP hD hS => ?_)
      have hP : va_P (zD E) vwCl (k_X10 E q0 (u0.1, u0.2.1, u0.2.2.1, u0.2.2.2.1, u0.2.2.2.2.1, u0.2.2.2.2.2.1, u0.2.2.2.2.2.2.1, u0.2.2.2.2.2.2.2.1, (upd (upd (upd (upd u0.2.2.2.2.2.2.2.2.1 13 x_2) 12 x_6) r_5.toNatClampNeg p1) (r_5 + (1 : Int32)).toNatClampNeg p2), u0.2.2.2.2.2.2.2.2.2.1, u0.2.2.2.2.2.2.2.2.2.2.1, u0.2.2.2.2.2.2.2.2.2.2.2.1, u0.2.2.2.2.2.2.2.2.2.2.2.2.1, u0.2.2.2.2.2.2.2.2.2.2.2.2.2.1, u0.2.2.2.2.2.2.2.2.2.2.2.2.2.2.1, u0.2.2.2.2.2.2.2.2.2.2.2.2.2.2.2.1, u0.2.2.2.2.2.2.2.2.2.2.2.2.2.2.2.2.1, u0.2.2.2.2.2.2.2.2.2.2.2.2.2.2.2.2.2.1, u0.2.2.2.2.2.2.2.2.2.2.2.2.2.2.2.2.2.2.1, u0.2.2.2.2.2.2.2.2.2.2.2.2.2.2.2.2.2.2.2.1, u0.2.2.2.2.2.2.2.2.2.2.2.2.2.2.2.2.2.2.2.2.1, u0.2.2.2.2.2.2.2.2.2.2.2.2.2.2.2.2.2.2.2.2.2)) H := hP
      have hD : va_D A (k_X10 E q0 (u0.1, u0.2.1, u0.2.2.1, u0.2.2.2.1, u0.2.2.2.2.1, u0.2.2.2.2.2.1, u0.2.2.2.2.2.2.1, u0.2.2.2.2.2.2.2.1, (upd (upd (upd (upd u0.2.2.2.2.2.2.2.2.1 13 x_2) 12 x_6) r_5.toNatClampNeg p1) (r_5 + (1 : Int32)).toNatClampNeg p2), u0.2.2.2.2.2.2.2.2.2.1, u0.2.2.2.2.2.2.2.2.2.2.1, u0.2.2.2.2.2.2.2.2.2.2.2.1, u0.2.2.2.2.2.2.2.2.2.2.2.2.1, u0.2.2.2.2.2.2.2.2.2.2.2.2.2.1, u0.2.2.2.2.2.2.2.2.2.2.2.2.2.2.1, u0.2.2.2.2.2.2.2.2.2.2.2.2.2.2.2.1, u0.2.2.2.2.2.2.2.2.2.2.2.2.2.2.2.2.1, u0.2.2.2.2.2.2.2.2.2.2.2.2.2.2.2.2.2.1, u0.2.2.2.2.2.2.2.2.2.2.2.2.2.2.2.2.2.2.1, u0.2.2.2.2.2.2.2.2.2.2.2.2.2.2.2.2.2.2.2.1, u0.2.2.2.2.2.2.2.2.2.2.2.2.2.2.2.2.2.2.2.2.1, u0.2.2.2.2.2.2.2.2.2.2.2.2.2.2.2.2.2.2.2.2.2)) := hD
      refine lv_aload_n hx hb dX10_note_72 rfl (lv_at hl 1 rfl) ?_
      refine va_get (D := zD E) (ci := 10) (v := .ref (q0 2)) (C := RX10) (T := TX10) (N := 24) hx hb hts uw_X10 hown hK hP 0 rfl rfl 8 (by decide) (hts _ wm_5_124) (fun _ h9 => h9) rfl dX10_note_73 ?_
      refine lv_iload hx hb dX10_note_76 (lv_at hl 0 rfl) ?_
      refine lv_iconst (v := 2) hx hb dX10_note_78 rfl ?_
      refine lv_iadd hx hb dX10_note_79 ?_
      refine lv_aload_n hx hb dX10_note_80 rfl (lv_at hl 1 rfl) ?_
      refine lv_iload_n hx hb dX10_note_81 rfl (lv_at hl 4 rfl) ?_
      refine lv_iload hx hb dX10_note_82 (lv_at hl 5 rfl) ?_
      refine z_ki (z_rV (rest := [.int (r_5 + (2 : Int32)), .ref (q0 2)]) hZ0 C0 hK hZ hA hP hD hS hl.1 (c_X10_penaltyOf l E Z hZ0 q0 H.size (u0.1, u0.2.1, u0.2.2.1, u0.2.2.2.1, u0.2.2.2.2.1, u0.2.2.2.2.2.1, u0.2.2.2.2.2.2.1, u0.2.2.2.2.2.2.2.1, (upd (upd (upd (upd u0.2.2.2.2.2.2.2.2.1 13 x_2) 12 x_6) r_5.toNatClampNeg p1) (r_5 + (1 : Int32)).toNatClampNeg p2), u0.2.2.2.2.2.2.2.2.2.1, u0.2.2.2.2.2.2.2.2.2.2.1, u0.2.2.2.2.2.2.2.2.2.2.2.1, u0.2.2.2.2.2.2.2.2.2.2.2.2.1, u0.2.2.2.2.2.2.2.2.2.2.2.2.2.1, u0.2.2.2.2.2.2.2.2.2.2.2.2.2.2.1, u0.2.2.2.2.2.2.2.2.2.2.2.2.2.2.2.1, u0.2.2.2.2.2.2.2.2.2.2.2.2.2.2.2.2.1, u0.2.2.2.2.2.2.2.2.2.2.2.2.2.2.2.2.2.1, u0.2.2.2.2.2.2.2.2.2.2.2.2.2.2.2.2.2.2.1, u0.2.2.2.2.2.2.2.2.2.2.2.2.2.2.2.2.2.2.2.1, u0.2.2.2.2.2.2.2.2.2.2.2.2.2.2.2.2.2.2.2.2.1, u0.2.2.2.2.2.2.2.2.2.2.2.2.2.2.2.2.2.2.2.2.2) p3 p4 _ hw) yv_X10_223 [0, 1, 2, 3, 4, 5, 6, 7, 8, 9] rfl (by decide) (ci := 10) rfl rfl 0 rfl ⟨Nat.le_of_ble_eq_true rfl, Nat.le_of_ble_eq_true rfl⟩ ⟨rfl, rfl⟩ rfl rfl (Nat.le_of_ble_eq_true rfl) ⟨Nat.le_of_ble_eq_true rfl, Nat.le_of_ble_eq_true rfl⟩ dX10_note_84) hP hD hS hA [0, 1, 2, 3, 4, 5, 6, 7, 8, 9] [] [0, 1, 2, 3, 4, 5, 6, 7, 8, 9] rfl (wr := []) rfl (by decide) (by decide) (fun u => k_X10 E q0 u) (fun u => rfl) (by decide) (fun r_10 u_9 H locs hw hP hD hS => ?_)
      obtain ⟨h_11, hw⟩ := hw
      refine va_iast hx hb hK hP hD hS 2 0 rfl rfl h_11 dX10_note_87 (fun H locs hP hD hS => ?_)
      have hP : va_P (zD E) vwCl (k_X10 E q0 (u_9.1, u_9.2.1, u_9.2.2.1, u_9.2.2.2.1, u_9.2.2.2.2.1, u_9.2.2.2.2.2.1, u_9.2.2.2.2.2.2.1, u_9.2.2.2.2.2.2.2.1, (upd u_9.2.2.2.2.2.2.2.2.1 (r_5 + (2 : Int32)).toNatClampNeg r_10), u_9.2.2.2.2.2.2.2.2.2.1, u_9.2.2.2.2.2.2.2.2.2.2.1, u_9.2.2.2.2.2.2.2.2.2.2.2.1, u_9.2.2.2.2.2.2.2.2.2.2.2.2.1, u_9.2.2.2.2.2.2.2.2.2.2.2.2.2.1, u_9.2.2.2.2.2.2.2.2.2.2.2.2.2.2.1, u_9.2.2.2.2.2.2.2.2.2.2.2.2.2.2.2.1, u_9.2.2.2.2.2.2.2.2.2.2.2.2.2.2.2.2.1, u_9.2.2.2.2.2.2.2.2.2.2.2.2.2.2.2.2.2.1, u_9.2.2.2.2.2.2.2.2.2.2.2.2.2.2.2.2.2.2.1, u_9.2.2.2.2.2.2.2.2.2.2.2.2.2.2.2.2.2.2.2.1, u_9.2.2.2.2.2.2.2.2.2.2.2.2.2.2.2.2.2.2.2.2.1, u_9.2.2.2.2.2.2.2.2.2.2.2.2.2.2.2.2.2.2.2.2.2)) H := hP
      have hD : va_D A (k_X10 E q0 (u_9.1, u_9.2.1, u_9.2.2.1, u_9.2.2.2.1, u_9.2.2.2.2.1, u_9.2.2.2.2.2.1, u_9.2.2.2.2.2.2.1, u_9.2.2.2.2.2.2.2.1, (upd u_9.2.2.2.2.2.2.2.2.1 (r_5 + (2 : Int32)).toNatClampNeg r_10), u_9.2.2.2.2.2.2.2.2.2.1, u_9.2.2.2.2.2.2.2.2.2.2.1, u_9.2.2.2.2.2.2.2.2.2.2.2.1, u_9.2.2.2.2.2.2.2.2.2.2.2.2.1, u_9.2.2.2.2.2.2.2.2.2.2.2.2.2.1, u_9.2.2.2.2.2.2.2.2.2.2.2.2.2.2.1, u_9.2.2.2.2.2.2.2.2.2.2.2.2.2.2.2.1, u_9.2.2.2.2.2.2.2.2.2.2.2.2.2.2.2.2.1, u_9.2.2.2.2.2.2.2.2.2.2.2.2.2.2.2.2.2.1, u_9.2.2.2.2.2.2.2.2.2.2.2.2.2.2.2.2.2.2.1, u_9.2.2.2.2.2.2.2.2.2.2.2.2.2.2.2.2.2.2.2.1, u_9.2.2.2.2.2.2.2.2.2.2.2.2.2.2.2.2.2.2.2.2.1, u_9.2.2.2.2.2.2.2.2.2.2.2.2.2.2.2.2.2.2.2.2.2)) := hD
      refine lv_aload_n hx hb dX10_note_88 rfl (lv_at hl 1 rfl) ?_
      refine va_get (D := zD E) (ci := 10) (v := .ref (q0 2)) (C := RX10) (T := TX10) (N := 24) hx hb hts uw_X10 hown hK hP 0 rfl rfl 8 (by decide) (hts _ wm_5_124) (fun _ h9 => h9) rfl dX10_note_89 ?_
      refine lv_iload hx hb dX10_note_92 (lv_at hl 0 rfl) ?_
      refine lv_iconst (v := 3) hx hb dX10_note_94 rfl ?_
      refine lv_iadd hx hb dX10_note_95 ?_
      refine lv_iconst (v := 0) hx hb dX10_note_96 rfl ?_
      obtain ⟨h_12, hw⟩ := hw
      refine va_iast hx hb hK hP hD hS 2 0 rfl rfl h_12 dX10_note_97 (fun H locs hP hD hS => ?_)
      have hP : va_P (zD E) vwCl (k_X10 E q0 (u_9.1, u_9.2.1, u_9.2.2.1, u_9.2.2.2.1, u_9.2.2.2.2.1, u_9.2.2.2.2.2.1, u_9.2.2.2.2.2.2.1, u_9.2.2.2.2.2.2.2.1, (upd (upd u_9.2.2.2.2.2.2.2.2.1 (r_5 + (2 : Int32)).toNatClampNeg r_10) (r_5 + (3 : Int32)).toNatClampNeg (0 : Int32)), u_9.2.2.2.2.2.2.2.2.2.1, u_9.2.2.2.2.2.2.2.2.2.2.1, u_9.2.2.2.2.2.2.2.2.2.2.2.1, u_9.2.2.2.2.2.2.2.2.2.2.2.2.1, u_9.2.2.2.2.2.2.2.2.2.2.2.2.2.1, u_9.2.2.2.2.2.2.2.2.2.2.2.2.2.2.1, u_9.2.2.2.2.2.2.2.2.2.2.2.2.2.2.2.1, u_9.2.2.2.2.2.2.2.2.2.2.2.2.2.2.2.2.1, u_9.2.2.2.2.2.2.2.2.2.2.2.2.2.2.2.2.2.1, u_9.2.2.2.2.2.2.2.2.2.2.2.2.2.2.2.2.2.2.1, u_9.2.2.2.2.2.2.2.2.2.2.2.2.2.2.2.2.2.2.2.1, u_9.2.2.2.2.2.2.2.2.2.2.2.2.2.2.2.2.2.2.2.2.1, u_9.2.2.2.2.2.2.2.2.2.2.2.2.2.2.2.2.2.2.2.2.2)) H := hP
      have hD : va_D A (k_X10 E q0 (u_9.1, u_9.2.1, u_9.2.2.1, u_9.2.2.2.1, u_9.2.2.2.2.1, u_9.2.2.2.2.2.1, u_9.2.2.2.2.2.2.1, u_9.2.2.2.2.2.2.2.1, (upd (upd u_9.2.2.2.2.2.2.2.2.1 (r_5 + (2 : Int32)).toNatClampNeg r_10) (r_5 + (3 : Int32)).toNatClampNeg (0 : Int32)), u_9.2.2.2.2.2.2.2.2.2.1, u_9.2.2.2.2.2.2.2.2.2.2.1, u_9.2.2.2.2.2.2.2.2.2.2.2.1, u_9.2.2.2.2.2.2.2.2.2.2.2.2.1, u_9.2.2.2.2.2.2.2.2.2.2.2.2.2.1, u_9.2.2.2.2.2.2.2.2.2.2.2.2.2.2.1, u_9.2.2.2.2.2.2.2.2.2.2.2.2.2.2.2.1, u_9.2.2.2.2.2.2.2.2.2.2.2.2.2.2.2.2.1, u_9.2.2.2.2.2.2.2.2.2.2.2.2.2.2.2.2.2.1, u_9.2.2.2.2.2.2.2.2.2.2.2.2.2.2.2.2.2.2.1, u_9.2.2.2.2.2.2.2.2.2.2.2.2.2.2.2.2.2.2.2.1, u_9.2.2.2.2.2.2.2.2.2.2.2.2.2.2.2.2.2.2.2.2.1, u_9.2.2.2.2.2.2.2.2.2.2.2.2.2.2.2.2.2.2.2.2.2)) := hD
      refine lv_aload_n hx hb dX10_note_98 rfl (lv_at hl 1 rfl) ?_
      refine va_get (D := zD E) (ci := 10) (v := .ref (q0 2)) (C := RX10) (T := TX10) (N := 24) hx hb hts uw_X10 hown hK hP 0 rfl rfl 8 (by decide) (hts _ wm_5_124) (fun _ h9 => h9) rfl dX10_note_99 ?_
      refine lv_iload hx hb dX10_note_102 (lv_at hl 0 rfl) ?_
      refine lv_iconst (v := 2) hx hb dX10_note_104 rfl ?_
      refine lv_iadd hx hb dX10_note_105 ?_
      obtain ⟨h_13, hw⟩ := hw
      refine va_iald hx hb hK hP 2 0 rfl rfl h_13 dX10_note_106 ?_
      exact z_iret (k := (fun u => k_X10 E q0 u)) (u_9.1, u_9.2.1, u_9.2.2.1, u_9.2.2.2.1, u_9.2.2.2.2.1, u_9.2.2.2.2.2.1, u_9.2.2.2.2.2.2.1, u_9.2.2.2.2.2.2.2.1, (upd (upd u_9.2.2.2.2.2.2.2.2.1 (r_5 + (2 : Int32)).toNatClampNeg r_10) (r_5 + (3 : Int32)).toNatClampNeg (0 : Int32)), u_9.2.2.2.2.2.2.2.2.2.1, u_9.2.2.2.2.2.2.2.2.2.2.1, u_9.2.2.2.2.2.2.2.2.2.2.2.1, u_9.2.2.2.2.2.2.2.2.2.2.2.2.1, u_9.2.2.2.2.2.2.2.2.2.2.2.2.2.1, u_9.2.2.2.2.2.2.2.2.2.2.2.2.2.2.1, u_9.2.2.2.2.2.2.2.2.2.2.2.2.2.2.2.1, u_9.2.2.2.2.2.2.2.2.2.2.2.2.2.2.2.2.1, u_9.2.2.2.2.2.2.2.2.2.2.2.2.2.2.2.2.2.1, u_9.2.2.2.2.2.2.2.2.2.2.2.2.2.2.2.2.2.2.1, u_9.2.2.2.2.2.2.2.2.2.2.2.2.2.2.2.2.2.2.2.1, u_9.2.2.2.2.2.2.2.2.2.2.2.2.2.2.2.2.2.2.2.2.1, u_9.2.2.2.2.2.2.2.2.2.2.2.2.2.2.2.2.2.2.2.2.2) C0 hP hD hS hw dX10_note_107
    · have hw := hwf c_3
      refine lv_iconst (v := 0) hx hb dX10_note_29 rfl ?_
      exact z_iret (k := (fun u => k_X10 E q0 u)) (u0.1, u0.2.1, u0.2.2.1, u0.2.2.2.1, u0.2.2.2.2.1, u0.2.2.2.2.2.1, u0.2.2.2.2.2.2.1, u0.2.2.2.2.2.2.2.1, (upd u0.2.2.2.2.2.2.2.2.1 13 x_2), u0.2.2.2.2.2.2.2.2.2.1, u0.2.2.2.2.2.2.2.2.2.2.1, u0.2.2.2.2.2.2.2.2.2.2.2.1, u0.2.2.2.2.2.2.2.2.2.2.2.2.1, u0.2.2.2.2.2.2.2.2.2.2.2.2.2.1, u0.2.2.2.2.2.2.2.2.2.2.2.2.2.2.1, u0.2.2.2.2.2.2.2.2.2.2.2.2.2.2.2.1, u0.2.2.2.2.2.2.2.2.2.2.2.2.2.2.2.2.1, u0.2.2.2.2.2.2.2.2.2.2.2.2.2.2.2.2.2.1, u0.2.2.2.2.2.2.2.2.2.2.2.2.2.2.2.2.2.2.1, u0.2.2.2.2.2.2.2.2.2.2.2.2.2.2.2.2.2.2.2.1, u0.2.2.2.2.2.2.2.2.2.2.2.2.2.2.2.2.2.2.2.2.1, u0.2.2.2.2.2.2.2.2.2.2.2.2.2.2.2.2.2.2.2.2.2) C0 hP hD hS hw dX10_note_30
  · have hw := hwf c_1
    refine lv_iconst (v := 0) hx hb dX10_note_4 rfl ?_
    exact z_iret (k := (fun u => k_X10 E q0 u)) u0 C0 hP hD hS hw dX10_note_5
abbrev r_X10_noPeriod : Room := { frames := 1, cells := 0, slots := 0, locals := 22 }
def j_X10_noPeriod_22 (y0 : Int32) (u0 : S_X10) (post : Int32 → S_X10 → Prop) : Prop := wp_X10_fails u0 y0 (1 : Int32) (fun r_5 u_4 => (narrow .boolean (.int r_5) = .int r_5) ∧ (post r_5 u_4))
def wp_X10_noPeriod (u0 : S_X10) (p1 : Int32) (post : Int32 → S_X10 → Prop) : Prop := wp_X10_in p1 (0 : Int32) ((u0.2.2.2.2.2.2.2.2.1 0) - (1 : Int32)) (fun r_2 u_1 => (¬ (r_2 = 0) → (j_X10_noPeriod_22 (0 : Int32) u0 post)) ∧ (r_2 = 0 → (j_X10_noPeriod_22 (1 : Int32) u0 post)))
set_option maxHeartbeats 4000000 in
set_option maxRecDepth 100000 in
theorem t_X10_noPeriod_22 {p : Program} {l : Launch} {e : Env} {s : State} {m : MethodId} {args : Array Value} {below : List Frame} {meth : Method} {c : Code} {Z : zZ} {E : zE} {A : Nat → Prop} {q0 : Nat → Nat} (hZ0 : zSt Z) (C0 : zC p s m args meth c yX10_noPeriod cX10_noPeriod 2 (some .boolean)) (hA : ∀ q : Nat, s.heap.size ≤ q → A q) (hK : va_K (zD E) vwCl (zT E) s) (hZ : Z A s s.heap) (post : Int32 → S_X10 → Prop) : ∀ (y0 : Int32) (u0 : S_X10) (H : Heap) (locs : List Loc) (ls : Array Slot), j_X10_noPeriod_22 y0 u0 post → va_P (zD E) vwCl (k_X10 E q0 u0) H → va_D A (k_X10 E q0 u0) → va_S A s.heap H locs → lv_has ls 2 [] → W p l e r_X10_noPeriod s m args below meth c H locs 0 0 (MQ below (va_Qi post (zAt E A (fun u => k_X10 E q0 u)) A) args s 0 0 A) (F0 m 22 ls [.int y0, .ref (q0 0)]) := by
  obtain ⟨hx, hb, hml, hr, hown, hts, hlocks, hin⟩ := id C0
  have hown : s.vm.findClass RX10 = some m.cls := hown
  intro y0 u0 H locs ls hw hP hD hS hl
  refine lv_iconst (v := 1) hx hb dX10_noPeriod_22 rfl ?_
  refine z_ki (z_rV (rest := []) hZ0 C0 hK hZ hA hP hD hS hl.1 (c_X10_fails l E Z hZ0 q0 H.size u0 y0 (1 : Int32) _ hw) yv_X10_177 [0, 1, 2, 3, 4, 5, 6, 7, 8, 9] rfl (by decide) (ci := 10) rfl rfl 0 rfl ⟨Nat.le_of_ble_eq_true rfl, Nat.le_of_ble_eq_true rfl⟩ ⟨rfl, rfl⟩ rfl rfl (Nat.le_of_ble_eq_true rfl) ⟨Nat.le_of_ble_eq_true rfl, Nat.le_of_ble_eq_true rfl⟩ dX10_noPeriod_23) hP hD hS hA [0, 1, 2, 3, 4, 5, 6, 7, 8, 9] [] [0, 1, 2, 3, 4, 5, 6, 7, 8, 9] rfl (wr := []) rfl (by decide) (by decide) (fun u => k_X10 E q0 u) (fun u => rfl) (by decide) (fun r_5 u_4 H locs hw hP hD hS => ?_)
  obtain ⟨h_6, hw⟩ := hw
  exact z_zret (k := (fun u => k_X10 E q0 u)) u_4 C0 h_6 hP hD hS hw dX10_noPeriod_26
set_option maxHeartbeats 4000000 in
set_option maxRecDepth 100000 in
theorem c_X10_noPeriod (l : Launch) (E : zE) (Z : zZ) (hZ0 : zSt Z) (q0 : Nat → Nat) (sz : Nat) (u0 : S_X10) (p1 : Int32) (post : Int32 → S_X10 → Prop) (hw : wp_X10_noPeriod u0 p1 post) : Met l yX10_noPeriod (zws yX10_noPeriod cX10_noPeriod 2 (some .boolean)) r_X10_noPeriod (va_Pc [.ref (q0 0), .int p1] (zPre Z E (k_X10 E q0 u0) sz)) (va_Qi post (zAt E (va_A (k_X10 E q0 u0) sz) (fun u => k_X10 E q0 u)) (va_A (k_X10 E q0 u0) sz)) 0 0 (va_A (k_X10 E q0 u0) sz) := by
  refine z_ofW (Qf := fun A => va_Qi post (zAt E A (fun u => k_X10 E q0 u)) A) (by decide) (Nat.le_of_ble_eq_true rfl) ?_
  intro p e s m args below meth c A ls C0 hA hK hZ hP hD hS hl
  obtain ⟨hx, hb, hml, hr, hown, hts, hlocks, hin⟩ := id C0
  have hown : s.vm.findClass RX10 = some m.cls := hown
  have hl : lv_has ls 2 [(0, .ref (q0 0)), (1, .int p1)] := hl
  refine lv_aload_n hx hb dX10_noPeriod_0 rfl (lv_at hl 0 rfl) ?_
  refine lv_iload_n hx hb dX10_noPeriod_1 rfl (lv_at hl 1 rfl) ?_
  refine lv_iconst (v := 0) hx hb dX10_noPeriod_2 rfl ?_
  refine lv_aload_n hx hb dX10_noPeriod_3 rfl (lv_at hl 0 rfl) ?_
  refine va_get (D := zD E) (ci := 10) (v := .ref (q0 2)) (C := RX10) (T := TX10) (N := 24) hx hb hts uw_X10 hown hK hP 0 rfl rfl 8 (by decide) (hts _ wm_5_124) (fun _ h9 => h9) rfl dX10_noPeriod_4 ?_
  refine lv_iconst (v := 0) hx hb dX10_noPeriod_7 rfl ?_
  refine va_iald hx hb hK hP 2 0 rfl rfl (show ¬ ((0 : Int32) < 0 ∨ 1728 ≤ (0 : Int32).toNatClampNeg) by decide) dX10_noPeriod_8 ?_
  refine W.eq (g2 := F0 m 9 ls ([.int (u0.2.2.2.2.2.2.2.2.1 0), .int (0 : Int32), .int p1, .ref (q0 0)])) rfl ?_
  refine lv_iconst (v := 1) hx hb dX10_noPeriod_9 rfl ?_
  refine lv_isub hx hb dX10_noPeriod_10 ?_
  refine z_ki (z_rS (rest := [.ref (q0 0)]) hZ0 C0 hK hZ hA hP hD hS hl.1 (c_X10_in l E Z hZ0 s.heap.size p1 (0 : Int32) ((u0.2.2.2.2.2.2.2.2.1 0) - (1 : Int32)) _ hw) yv_X10_74 [] rfl (by decide) ⟨Nat.le_of_ble_eq_true rfl, Nat.le_of_ble_eq_true rfl⟩ ⟨rfl, rfl⟩ rfl rfl (Nat.le_of_ble_eq_true rfl) ⟨Nat.le_of_ble_eq_true rfl, Nat.le_of_ble_eq_true rfl⟩ dX10_noPeriod_11) hP hD hS hA [] [0, 1, 2, 3, 4, 5, 6, 7, 8, 9] [0, 1, 2, 3, 4, 5, 6, 7, 8, 9] rfl (wr := [_, _, _, _, _, _, _, _, _, _]) rfl (by decide) (by decide) (fun u => k_X10 E q0 u0) (fun u => rfl) (by decide) (fun r_2 u_1 H locs hw hP hD hS => ?_)
  obtain ⟨hwt, hwf⟩ := hw
  refine lv_if_ne (tgt := 21) hx hb dX10_noPeriod_14 (by decide) (fun c_3 => ?_) (fun c_3 => ?_)
  · have hw := hwt c_3
    refine lv_iconst (v := 0) hx hb dX10_noPeriod_21 rfl ?_
    exact t_X10_noPeriod_22 (l := l) hZ0 C0 hA hK hZ post (0 : Int32) u0 _ _ _ hw hP hD hS (lv_sub hl [] rfl)
  · have hw := hwf c_3
    refine lv_iconst (v := 1) hx hb dX10_noPeriod_17 rfl ?_
    refine lv_goto (tgt := 22) hx hb dX10_noPeriod_18 (by decide) ?_
    exact t_X10_noPeriod_22 (l := l) hZ0 C0 hA hK hZ post (1 : Int32) u0 _ _ _ hw hP hD hS (lv_sub hl [] rfl)
abbrev r_X10_noBreach : Room := { frames := 1, cells := 0, slots := 0, locals := 22 }
def j_X10_noBreach_23 (y0 : Int32) (u0 : S_X10) (post : Int32 → S_X10 → Prop) : Prop := wp_X10_fails u0 y0 (1 : Int32) (fun r_5 u_4 => (narrow .boolean (.int r_5) = .int r_5) ∧ (post r_5 u_4))
def wp_X10_noBreach (u0 : S_X10) (p1 : Int32) (post : Int32 → S_X10 → Prop) : Prop := wp_X10_in p1 (0 : Int32) ((u0.2.2.2.2.2.2.2.2.1 12) - (1 : Int32)) (fun r_2 u_1 => (¬ (r_2 = 0) → (j_X10_noBreach_23 (0 : Int32) u0 post)) ∧ (r_2 = 0 → (j_X10_noBreach_23 (1 : Int32) u0 post)))
set_option maxHeartbeats 4000000 in
set_option maxRecDepth 100000 in
theorem t_X10_noBreach_23 {p : Program} {l : Launch} {e : Env} {s : State} {m : MethodId} {args : Array Value} {below : List Frame} {meth : Method} {c : Code} {Z : zZ} {E : zE} {A : Nat → Prop} {q0 : Nat → Nat} (hZ0 : zSt Z) (C0 : zC p s m args meth c yX10_noBreach cX10_noBreach 2 (some .boolean)) (hA : ∀ q : Nat, s.heap.size ≤ q → A q) (hK : va_K (zD E) vwCl (zT E) s) (hZ : Z A s s.heap) (post : Int32 → S_X10 → Prop) : ∀ (y0 : Int32) (u0 : S_X10) (H : Heap) (locs : List Loc) (ls : Array Slot), j_X10_noBreach_23 y0 u0 post → va_P (zD E) vwCl (k_X10 E q0 u0) H → va_D A (k_X10 E q0 u0) → va_S A s.heap H locs → lv_has ls 2 [] → W p l e r_X10_noBreach s m args below meth c H locs 0 0 (MQ below (va_Qi post (zAt E A (fun u => k_X10 E q0 u)) A) args s 0 0 A) (F0 m 23 ls [.int y0, .ref (q0 0)]) := by
  obtain ⟨hx, hb, hml, hr, hown, hts, hlocks, hin⟩ := id C0
  have hown : s.vm.findClass RX10 = some m.cls := hown
  intro y0 u0 H locs ls hw hP hD hS hl
  refine lv_iconst (v := 1) hx hb dX10_noBreach_23 rfl ?_
  refine z_ki (z_rV (rest := []) hZ0 C0 hK hZ hA hP hD hS hl.1 (c_X10_fails l E Z hZ0 q0 H.size u0 y0 (1 : Int32) _ hw) yv_X10_177 [0, 1, 2, 3, 4, 5, 6, 7, 8, 9] rfl (by decide) (ci := 10) rfl rfl 0 rfl ⟨Nat.le_of_ble_eq_true rfl, Nat.le_of_ble_eq_true rfl⟩ ⟨rfl, rfl⟩ rfl rfl (Nat.le_of_ble_eq_true rfl) ⟨Nat.le_of_ble_eq_true rfl, Nat.le_of_ble_eq_true rfl⟩ dX10_noBreach_24) hP hD hS hA [0, 1, 2, 3, 4, 5, 6, 7, 8, 9] [] [0, 1, 2, 3, 4, 5, 6, 7, 8, 9] rfl (wr := []) rfl (by decide) (by decide) (fun u => k_X10 E q0 u) (fun u => rfl) (by decide) (fun r_5 u_4 H locs hw hP hD hS => ?_)
  obtain ⟨h_6, hw⟩ := hw
  exact z_zret (k := (fun u => k_X10 E q0 u)) u_4 C0 h_6 hP hD hS hw dX10_noBreach_27
set_option maxHeartbeats 4000000 in
set_option maxRecDepth 100000 in
theorem c_X10_noBreach (l : Launch) (E : zE) (Z : zZ) (hZ0 : zSt Z) (q0 : Nat → Nat) (sz : Nat) (u0 : S_X10) (p1 : Int32) (post : Int32 → S_X10 → Prop) (hw : wp_X10_noBreach u0 p1 post) : Met l yX10_noBreach (zws yX10_noBreach cX10_noBreach 2 (some .boolean)) r_X10_noBreach (va_Pc [.ref (q0 0), .int p1] (zPre Z E (k_X10 E q0 u0) sz)) (va_Qi post (zAt E (va_A (k_X10 E q0 u0) sz) (fun u => k_X10 E q0 u)) (va_A (k_X10 E q0 u0) sz)) 0 0 (va_A (k_X10 E q0 u0) sz) := by
  refine z_ofW (Qf := fun A => va_Qi post (zAt E A (fun u => k_X10 E q0 u)) A) (by decide) (Nat.le_of_ble_eq_true rfl) ?_
  intro p e s m args below meth c A ls C0 hA hK hZ hP hD hS hl
  obtain ⟨hx, hb, hml, hr, hown, hts, hlocks, hin⟩ := id C0
  have hown : s.vm.findClass RX10 = some m.cls := hown
  have hl : lv_has ls 2 [(0, .ref (q0 0)), (1, .int p1)] := hl
  refine lv_aload_n hx hb dX10_noBreach_0 rfl (lv_at hl 0 rfl) ?_
  refine lv_iload_n hx hb dX10_noBreach_1 rfl (lv_at hl 1 rfl) ?_
  refine lv_iconst (v := 0) hx hb dX10_noBreach_2 rfl ?_
  refine lv_aload_n hx hb dX10_noBreach_3 rfl (lv_at hl 0 rfl) ?_
  refine va_get (D := zD E) (ci := 10) (v := .ref (q0 2)) (C := RX10) (T := TX10) (N := 24) hx hb hts uw_X10 hown hK hP 0 rfl rfl 8 (by decide) (hts _ wm_5_124) (fun _ h9 => h9) rfl dX10_noBreach_4 ?_
  refine lv_bipush (v := 12) hx hb dX10_noBreach_7 rfl ?_
  refine va_iald hx hb hK hP 2 0 rfl rfl (show ¬ ((12 : Int32) < 0 ∨ 1728 ≤ (12 : Int32).toNatClampNeg) by decide) dX10_noBreach_9 ?_
  refine W.eq (g2 := F0 m 10 ls ([.int (u0.2.2.2.2.2.2.2.2.1 12), .int (0 : Int32), .int p1, .ref (q0 0)])) rfl ?_
  refine lv_iconst (v := 1) hx hb dX10_noBreach_10 rfl ?_
  refine lv_isub hx hb dX10_noBreach_11 ?_
  refine z_ki (z_rS (rest := [.ref (q0 0)]) hZ0 C0 hK hZ hA hP hD hS hl.1 (c_X10_in l E Z hZ0 s.heap.size p1 (0 : Int32) ((u0.2.2.2.2.2.2.2.2.1 12) - (1 : Int32)) _ hw) yv_X10_74 [] rfl (by decide) ⟨Nat.le_of_ble_eq_true rfl, Nat.le_of_ble_eq_true rfl⟩ ⟨rfl, rfl⟩ rfl rfl (Nat.le_of_ble_eq_true rfl) ⟨Nat.le_of_ble_eq_true rfl, Nat.le_of_ble_eq_true rfl⟩ dX10_noBreach_12) hP hD hS hA [] [0, 1, 2, 3, 4, 5, 6, 7, 8, 9] [0, 1, 2, 3, 4, 5, 6, 7, 8, 9] rfl (wr := [_, _, _, _, _, _, _, _, _, _]) rfl (by decide) (by decide) (fun u => k_X10 E q0 u0) (fun u => rfl) (by decide) (fun r_2 u_1 H locs hw hP hD hS => ?_)
  obtain ⟨hwt, hwf⟩ := hw
  refine lv_if_ne (tgt := 22) hx hb dX10_noBreach_15 (by decide) (fun c_3 => ?_) (fun c_3 => ?_)
  · have hw := hwt c_3
    refine lv_iconst (v := 0) hx hb dX10_noBreach_22 rfl ?_
    exact t_X10_noBreach_23 (l := l) hZ0 C0 hA hK hZ post (0 : Int32) u0 _ _ _ hw hP hD hS (lv_sub hl [] rfl)
  · have hw := hwf c_3
    refine lv_iconst (v := 1) hx hb dX10_noBreach_18 rfl ?_
    refine lv_goto (tgt := 23) hx hb dX10_noBreach_19 (by decide) ?_
    exact t_X10_noBreach_23 (l := l) hZ0 C0 hA hK hZ post (1 : Int32) u0 _ _ _ hw hP hD hS (lv_sub hl [] rfl)
abbrev r_X10_periodCount : Room := { frames := 0, cells := 0, slots := 0, locals := 0 }
def wp_X10_periodCount (u0 : S_X10) (post : Int32 → S_X10 → Prop) : Prop := post (u0.2.2.2.2.2.2.2.2.1 0) ((0 : Int32), u0.2.1, u0.2.2.1, u0.2.2.2.1, u0.2.2.2.2.1, u0.2.2.2.2.2.1, u0.2.2.2.2.2.2.1, u0.2.2.2.2.2.2.2.1, u0.2.2.2.2.2.2.2.2.1, u0.2.2.2.2.2.2.2.2.2.1, u0.2.2.2.2.2.2.2.2.2.2.1, u0.2.2.2.2.2.2.2.2.2.2.2.1, u0.2.2.2.2.2.2.2.2.2.2.2.2.1, u0.2.2.2.2.2.2.2.2.2.2.2.2.2.1, u0.2.2.2.2.2.2.2.2.2.2.2.2.2.2.1, u0.2.2.2.2.2.2.2.2.2.2.2.2.2.2.2.1, u0.2.2.2.2.2.2.2.2.2.2.2.2.2.2.2.2.1, u0.2.2.2.2.2.2.2.2.2.2.2.2.2.2.2.2.2.1, u0.2.2.2.2.2.2.2.2.2.2.2.2.2.2.2.2.2.2.1, u0.2.2.2.2.2.2.2.2.2.2.2.2.2.2.2.2.2.2.2.1, u0.2.2.2.2.2.2.2.2.2.2.2.2.2.2.2.2.2.2.2.2.1, u0.2.2.2.2.2.2.2.2.2.2.2.2.2.2.2.2.2.2.2.2.2)
set_option maxHeartbeats 4000000 in
set_option maxRecDepth 100000 in
theorem c_X10_periodCount (l : Launch) (E : zE) (Z : zZ) (hZ0 : zSt Z) (q0 : Nat → Nat) (sz : Nat) (u0 : S_X10) (post : Int32 → S_X10 → Prop) (hw : wp_X10_periodCount u0 post) : Met l yX10_periodCount (zws yX10_periodCount cX10_periodCount 1 (some .int)) r_X10_periodCount (va_Pc [.ref (q0 0)] (zPre Z E (k_X10 E q0 u0) sz)) (va_Qi post (zAt E (va_A (k_X10 E q0 u0) sz) (fun u => k_X10 E q0 u)) (va_A (k_X10 E q0 u0) sz)) 0 0 (va_A (k_X10 E q0 u0) sz) := by
  refine z_ofW (Qf := fun A => va_Qi post (zAt E A (fun u => k_X10 E q0 u)) A) (by decide) (Nat.le_of_ble_eq_true rfl) ?_
  intro p e s m args below meth c A ls C0 hA hK hZ hP hD hS hl
  obtain ⟨hx, hb, hml, hr, hown, hts, hlocks, hin⟩ := id C0
  have hown : s.vm.findClass RX10 = some m.cls := hown
  have hl : lv_has ls 1 [(0, .ref (q0 0))] := hl
  refine lv_aload_n hx hb dX10_periodCount_0 rfl (lv_at hl 0 rfl) ?_
  refine lv_iconst (v := 0) hx hb dX10_periodCount_1 rfl ?_
  refine va_put (D := zD E) (ci := 10) (v := .int (0 : Int32)) (ty := .int) (C := RX10) (T := TX10) (N := 24) hx hb hts uw_X10 tyX10 tyX10_ok nmX10 hown hK hP hD hS 0 rfl rfl 0 (by decide) (hts _ wm_5_116) (fun _ h9 => h9) rfl (by decide +kernel) rfl rfl (Nat.le_of_ble_eq_true rfl) dX10_periodCount_2 (fun H locs hP hD hS => ?_)
  have hP : va_P (zD E) vwCl (k_X10 E q0 ((0 : Int32), u0.2.1, u0.2.2.1, u0.2.2.2.1, u0.2.2.2.2.1, u0.2.2.2.2.2.1, u0.2.2.2.2.2.2.1, u0.2.2.2.2.2.2.2.1, u0.2.2.2.2.2.2.2.2.1, u0.2.2.2.2.2.2.2.2.2.1, u0.2.2.2.2.2.2.2.2.2.2.1, u0.2.2.2.2.2.2.2.2.2.2.2.1, u0.2.2.2.2.2.2.2.2.2.2.2.2.1, u0.2.2.2.2.2.2.2.2.2.2.2.2.2.1, u0.2.2.2.2.2.2.2.2.2.2.2.2.2.2.1, u0.2.2.2.2.2.2.2.2.2.2.2.2.2.2.2.1, u0.2.2.2.2.2.2.2.2.2.2.2.2.2.2.2.2.1, u0.2.2.2.2.2.2.2.2.2.2.2.2.2.2.2.2.2.1, u0.2.2.2.2.2.2.2.2.2.2.2.2.2.2.2.2.2.2.1, u0.2.2.2.2.2.2.2.2.2.2.2.2.2.2.2.2.2.2.2.1, u0.2.2.2.2.2.2.2.2.2.2.2.2.2.2.2.2.2.2.2.2.1, u0.2.2.2.2.2.2.2.2.2.2.2.2.2.2.2.2.2.2.2.2.2)) H := hP
  have hD : va_D A (k_X10 E q0 ((0 : Int32), u0.2.1, u0.2.2.1, u0.2.2.2.1, u0.2.2.2.2.1, u0.2.2.2.2.2.1, u0.2.2.2.2.2.2.1, u0.2.2.2.2.2.2.2.1, u0.2.2.2.2.2.2.2.2.1, u0.2.2.2.2.2.2.2.2.2.1, u0.2.2.2.2.2.2.2.2.2.2.1, u0.2.2.2.2.2.2.2.2.2.2.2.1, u0.2.2.2.2.2.2.2.2.2.2.2.2.1, u0.2.2.2.2.2.2.2.2.2.2.2.2.2.1, u0.2.2.2.2.2.2.2.2.2.2.2.2.2.2.1, u0.2.2.2.2.2.2.2.2.2.2.2.2.2.2.2.1, u0.2.2.2.2.2.2.2.2.2.2.2.2.2.2.2.2.1, u0.2.2.2.2.2.2.2.2.2.2.2.2.2.2.2.2.2.1, u0.2.2.2.2.2.2.2.2.2.2.2.2.2.2.2.2.2.2.1, u0.2.2.2.2.2.2.2.2.2.2.2.2.2.2.2.2.2.2.2.1, u0.2.2.2.2.2.2.2.2.2.2.2.2.2.2.2.2.2.2.2.2.1, u0.2.2.2.2.2.2.2.2.2.2.2.2.2.2.2.2.2.2.2.2.2)) := hD
  refine lv_aload_n hx hb dX10_periodCount_5 rfl (lv_at hl 0 rfl) ?_
  refine va_get (D := zD E) (ci := 10) (v := .ref (q0 2)) (C := RX10) (T := TX10) (N := 24) hx hb hts uw_X10 hown hK hP 0 rfl rfl 8 (by decide) (hts _ wm_5_124) (fun _ h9 => h9) rfl dX10_periodCount_6 ?_
  refine lv_iconst (v := 0) hx hb dX10_periodCount_9 rfl ?_
  refine va_iald hx hb hK hP 2 0 rfl rfl (show ¬ ((0 : Int32) < 0 ∨ 1728 ≤ (0 : Int32).toNatClampNeg) by decide) dX10_periodCount_10 ?_
  refine W.eq (g2 := F0 m 11 ls ([.int (u0.2.2.2.2.2.2.2.2.1 0)])) rfl ?_
  exact z_iret (k := (fun u => k_X10 E q0 u)) ((0 : Int32), u0.2.1, u0.2.2.1, u0.2.2.2.1, u0.2.2.2.2.1, u0.2.2.2.2.2.1, u0.2.2.2.2.2.2.1, u0.2.2.2.2.2.2.2.1, u0.2.2.2.2.2.2.2.2.1, u0.2.2.2.2.2.2.2.2.2.1, u0.2.2.2.2.2.2.2.2.2.2.1, u0.2.2.2.2.2.2.2.2.2.2.2.1, u0.2.2.2.2.2.2.2.2.2.2.2.2.1, u0.2.2.2.2.2.2.2.2.2.2.2.2.2.1, u0.2.2.2.2.2.2.2.2.2.2.2.2.2.2.1, u0.2.2.2.2.2.2.2.2.2.2.2.2.2.2.2.1, u0.2.2.2.2.2.2.2.2.2.2.2.2.2.2.2.2.1, u0.2.2.2.2.2.2.2.2.2.2.2.2.2.2.2.2.2.1, u0.2.2.2.2.2.2.2.2.2.2.2.2.2.2.2.2.2.2.1, u0.2.2.2.2.2.2.2.2.2.2.2.2.2.2.2.2.2.2.2.1, u0.2.2.2.2.2.2.2.2.2.2.2.2.2.2.2.2.2.2.2.2.1, u0.2.2.2.2.2.2.2.2.2.2.2.2.2.2.2.2.2.2.2.2.2) C0 hP hD hS hw dX10_periodCount_11
abbrev r_X10_clock : Room := { frames := 0, cells := 0, slots := 0, locals := 0 }
def wp_X10_clock (u0 : S_X10) (post : Int32 → S_X10 → Prop) : Prop := post (u0.2.2.2.2.2.2.2.2.1 1) ((0 : Int32), u0.2.1, u0.2.2.1, u0.2.2.2.1, u0.2.2.2.2.1, u0.2.2.2.2.2.1, u0.2.2.2.2.2.2.1, u0.2.2.2.2.2.2.2.1, u0.2.2.2.2.2.2.2.2.1, u0.2.2.2.2.2.2.2.2.2.1, u0.2.2.2.2.2.2.2.2.2.2.1, u0.2.2.2.2.2.2.2.2.2.2.2.1, u0.2.2.2.2.2.2.2.2.2.2.2.2.1, u0.2.2.2.2.2.2.2.2.2.2.2.2.2.1, u0.2.2.2.2.2.2.2.2.2.2.2.2.2.2.1, u0.2.2.2.2.2.2.2.2.2.2.2.2.2.2.2.1, u0.2.2.2.2.2.2.2.2.2.2.2.2.2.2.2.2.1, u0.2.2.2.2.2.2.2.2.2.2.2.2.2.2.2.2.2.1, u0.2.2.2.2.2.2.2.2.2.2.2.2.2.2.2.2.2.2.1, u0.2.2.2.2.2.2.2.2.2.2.2.2.2.2.2.2.2.2.2.1, u0.2.2.2.2.2.2.2.2.2.2.2.2.2.2.2.2.2.2.2.2.1, u0.2.2.2.2.2.2.2.2.2.2.2.2.2.2.2.2.2.2.2.2.2)
set_option maxHeartbeats 4000000 in
set_option maxRecDepth 100000 in
theorem c_X10_clock (l : Launch) (E : zE) (Z : zZ) (hZ0 : zSt Z) (q0 : Nat → Nat) (sz : Nat) (u0 : S_X10) (post : Int32 → S_X10 → Prop) (hw : wp_X10_clock u0 post) : Met l yX10_clock (zws yX10_clock cX10_clock 1 (some .int)) r_X10_clock (va_Pc [.ref (q0 0)] (zPre Z E (k_X10 E q0 u0) sz)) (va_Qi post (zAt E (va_A (k_X10 E q0 u0) sz) (fun u => k_X10 E q0 u)) (va_A (k_X10 E q0 u0) sz)) 0 0 (va_A (k_X10 E q0 u0) sz) := by
  refine z_ofW (Qf := fun A => va_Qi post (zAt E A (fun u => k_X10 E q0 u)) A) (by decide) (Nat.le_of_ble_eq_true rfl) ?_
  intro p e s m args below meth c A ls C0 hA hK hZ hP hD hS hl
  obtain ⟨hx, hb, hml, hr, hown, hts, hlocks, hin⟩ := id C0
  have hown : s.vm.findClass RX10 = some m.cls := hown
  have hl : lv_has ls 1 [(0, .ref (q0 0))] := hl
  refine lv_aload_n hx hb dX10_clock_0 rfl (lv_at hl 0 rfl) ?_
  refine lv_iconst (v := 0) hx hb dX10_clock_1 rfl ?_
  refine va_put (D := zD E) (ci := 10) (v := .int (0 : Int32)) (ty := .int) (C := RX10) (T := TX10) (N := 24) hx hb hts uw_X10 tyX10 tyX10_ok nmX10 hown hK hP hD hS 0 rfl rfl 0 (by decide) (hts _ wm_5_116) (fun _ h9 => h9) rfl (by decide +kernel) rfl rfl (Nat.le_of_ble_eq_true rfl) dX10_clock_2 (fun H locs hP hD hS => ?_)
  have hP : va_P (zD E) vwCl (k_X10 E q0 ((0 : Int32), u0.2.1, u0.2.2.1, u0.2.2.2.1, u0.2.2.2.2.1, u0.2.2.2.2.2.1, u0.2.2.2.2.2.2.1, u0.2.2.2.2.2.2.2.1, u0.2.2.2.2.2.2.2.2.1, u0.2.2.2.2.2.2.2.2.2.1, u0.2.2.2.2.2.2.2.2.2.2.1, u0.2.2.2.2.2.2.2.2.2.2.2.1, u0.2.2.2.2.2.2.2.2.2.2.2.2.1, u0.2.2.2.2.2.2.2.2.2.2.2.2.2.1, u0.2.2.2.2.2.2.2.2.2.2.2.2.2.2.1, u0.2.2.2.2.2.2.2.2.2.2.2.2.2.2.2.1, u0.2.2.2.2.2.2.2.2.2.2.2.2.2.2.2.2.1, u0.2.2.2.2.2.2.2.2.2.2.2.2.2.2.2.2.2.1, u0.2.2.2.2.2.2.2.2.2.2.2.2.2.2.2.2.2.2.1, u0.2.2.2.2.2.2.2.2.2.2.2.2.2.2.2.2.2.2.2.1, u0.2.2.2.2.2.2.2.2.2.2.2.2.2.2.2.2.2.2.2.2.1, u0.2.2.2.2.2.2.2.2.2.2.2.2.2.2.2.2.2.2.2.2.2)) H := hP
  have hD : va_D A (k_X10 E q0 ((0 : Int32), u0.2.1, u0.2.2.1, u0.2.2.2.1, u0.2.2.2.2.1, u0.2.2.2.2.2.1, u0.2.2.2.2.2.2.1, u0.2.2.2.2.2.2.2.1, u0.2.2.2.2.2.2.2.2.1, u0.2.2.2.2.2.2.2.2.2.1, u0.2.2.2.2.2.2.2.2.2.2.1, u0.2.2.2.2.2.2.2.2.2.2.2.1, u0.2.2.2.2.2.2.2.2.2.2.2.2.1, u0.2.2.2.2.2.2.2.2.2.2.2.2.2.1, u0.2.2.2.2.2.2.2.2.2.2.2.2.2.2.1, u0.2.2.2.2.2.2.2.2.2.2.2.2.2.2.2.1, u0.2.2.2.2.2.2.2.2.2.2.2.2.2.2.2.2.1, u0.2.2.2.2.2.2.2.2.2.2.2.2.2.2.2.2.2.1, u0.2.2.2.2.2.2.2.2.2.2.2.2.2.2.2.2.2.2.1, u0.2.2.2.2.2.2.2.2.2.2.2.2.2.2.2.2.2.2.2.1, u0.2.2.2.2.2.2.2.2.2.2.2.2.2.2.2.2.2.2.2.2.1, u0.2.2.2.2.2.2.2.2.2.2.2.2.2.2.2.2.2.2.2.2.2)) := hD
  refine lv_aload_n hx hb dX10_clock_5 rfl (lv_at hl 0 rfl) ?_
  refine va_get (D := zD E) (ci := 10) (v := .ref (q0 2)) (C := RX10) (T := TX10) (N := 24) hx hb hts uw_X10 hown hK hP 0 rfl rfl 8 (by decide) (hts _ wm_5_124) (fun _ h9 => h9) rfl dX10_clock_6 ?_
  refine lv_iconst (v := 1) hx hb dX10_clock_9 rfl ?_
  refine va_iald hx hb hK hP 2 0 rfl rfl (show ¬ ((1 : Int32) < 0 ∨ 1728 ≤ (1 : Int32).toNatClampNeg) by decide) dX10_clock_10 ?_
  refine W.eq (g2 := F0 m 11 ls ([.int (u0.2.2.2.2.2.2.2.2.1 1)])) rfl ?_
  exact z_iret (k := (fun u => k_X10 E q0 u)) ((0 : Int32), u0.2.1, u0.2.2.1, u0.2.2.2.1, u0.2.2.2.2.1, u0.2.2.2.2.2.1, u0.2.2.2.2.2.2.1, u0.2.2.2.2.2.2.2.1, u0.2.2.2.2.2.2.2.2.1, u0.2.2.2.2.2.2.2.2.2.1, u0.2.2.2.2.2.2.2.2.2.2.1, u0.2.2.2.2.2.2.2.2.2.2.2.1, u0.2.2.2.2.2.2.2.2.2.2.2.2.1, u0.2.2.2.2.2.2.2.2.2.2.2.2.2.1, u0.2.2.2.2.2.2.2.2.2.2.2.2.2.2.1, u0.2.2.2.2.2.2.2.2.2.2.2.2.2.2.2.1, u0.2.2.2.2.2.2.2.2.2.2.2.2.2.2.2.2.1, u0.2.2.2.2.2.2.2.2.2.2.2.2.2.2.2.2.2.1, u0.2.2.2.2.2.2.2.2.2.2.2.2.2.2.2.2.2.2.1, u0.2.2.2.2.2.2.2.2.2.2.2.2.2.2.2.2.2.2.2.1, u0.2.2.2.2.2.2.2.2.2.2.2.2.2.2.2.2.2.2.2.2.1, u0.2.2.2.2.2.2.2.2.2.2.2.2.2.2.2.2.2.2.2.2.2) C0 hP hD hS hw dX10_clock_11
abbrev r_X10_reservedIn : Room := { frames := 2, cells := 0, slots := 0, locals := 43 }
def wp_X10_reservedIn (u0 : S_X10) (p1 : Int32) (post : Int32 → S_X10 → Prop) : Prop := wp_X10_noPeriod ((0 : Int32), u0.2.1, u0.2.2.1, u0.2.2.2.1, u0.2.2.2.2.1, u0.2.2.2.2.2.1, u0.2.2.2.2.2.2.1, u0.2.2.2.2.2.2.2.1, u0.2.2.2.2.2.2.2.2.1, u0.2.2.2.2.2.2.2.2.2.1, u0.2.2.2.2.2.2.2.2.2.2.1, u0.2.2.2.2.2.2.2.2.2.2.2.1, u0.2.2.2.2.2.2.2.2.2.2.2.2.1, u0.2.2.2.2.2.2.2.2.2.2.2.2.2.1, u0.2.2.2.2.2.2.2.2.2.2.2.2.2.2.1, u0.2.2.2.2.2.2.2.2.2.2.2.2.2.2.2.1, u0.2.2.2.2.2.2.2.2.2.2.2.2.2.2.2.2.1, u0.2.2.2.2.2.2.2.2.2.2.2.2.2.2.2.2.2.1, u0.2.2.2.2.2.2.2.2.2.2.2.2.2.2.2.2.2.2.1, u0.2.2.2.2.2.2.2.2.2.2.2.2.2.2.2.2.2.2.2.1, u0.2.2.2.2.2.2.2.2.2.2.2.2.2.2.2.2.2.2.2.2.1, u0.2.2.2.2.2.2.2.2.2.2.2.2.2.2.2.2.2.2.2.2.2) p1 (fun r_2 u_1 => (r_2 = 0 → (wp_X10_period p1 (fun r_5 u_4 => vp_in r_5 1728 ∧ (post (u_1.2.2.2.2.2.2.2.2.1 r_5.toNatClampNeg) u_1)))) ∧ (¬ (r_2 = 0) → (post (0 : Int32) u_1)))
set_option maxHeartbeats 4000000 in
set_option maxRecDepth 100000 in
theorem c_X10_reservedIn (l : Launch) (E : zE) (Z : zZ) (hZ0 : zSt Z) (q0 : Nat → Nat) (sz : Nat) (u0 : S_X10) (p1 : Int32) (post : Int32 → S_X10 → Prop) (hw : wp_X10_reservedIn u0 p1 post) : Met l yX10_reservedIn (zws yX10_reservedIn cX10_reservedIn 2 (some .int)) r_X10_reservedIn (va_Pc [.ref (q0 0), .int p1] (zPre Z E (k_X10 E q0 u0) sz)) (va_Qi post (zAt E (va_A (k_X10 E q0 u0) sz) (fun u => k_X10 E q0 u)) (va_A (k_X10 E q0 u0) sz)) 0 0 (va_A (k_X10 E q0 u0) sz) := by
  refine z_ofW (Qf := fun A => va_Qi post (zAt E A (fun u => k_X10 E q0 u)) A) (by decide) (Nat.le_of_ble_eq_true rfl) ?_
  intro p e s m args below meth c A ls C0 hA hK hZ hP hD hS hl
  obtain ⟨hx, hb, hml, hr, hown, hts, hlocks, hin⟩ := id C0
  have hown : s.vm.findClass RX10 = some m.cls := hown
  have hl : lv_has ls 2 [(0, .ref (q0 0)), (1, .int p1)] := hl
  refine lv_aload_n hx hb dX10_reservedIn_0 rfl (lv_at hl 0 rfl) ?_
  refine lv_iconst (v := 0) hx hb dX10_reservedIn_1 rfl ?_
  refine va_put (D := zD E) (ci := 10) (v := .int (0 : Int32)) (ty := .int) (C := RX10) (T := TX10) (N := 24) hx hb hts uw_X10 tyX10 tyX10_ok nmX10 hown hK hP hD hS 0 rfl rfl 0 (by decide) (hts _ wm_5_116) (fun _ h9 => h9) rfl (by decide +kernel) rfl rfl (Nat.le_of_ble_eq_true rfl) dX10_reservedIn_2 (fun H locs hP hD hS => ?_)
  have hP : va_P (zD E) vwCl (k_X10 E q0 ((0 : Int32), u0.2.1, u0.2.2.1, u0.2.2.2.1, u0.2.2.2.2.1, u0.2.2.2.2.2.1, u0.2.2.2.2.2.2.1, u0.2.2.2.2.2.2.2.1, u0.2.2.2.2.2.2.2.2.1, u0.2.2.2.2.2.2.2.2.2.1, u0.2.2.2.2.2.2.2.2.2.2.1, u0.2.2.2.2.2.2.2.2.2.2.2.1, u0.2.2.2.2.2.2.2.2.2.2.2.2.1, u0.2.2.2.2.2.2.2.2.2.2.2.2.2.1, u0.2.2.2.2.2.2.2.2.2.2.2.2.2.2.1, u0.2.2.2.2.2.2.2.2.2.2.2.2.2.2.2.1, u0.2.2.2.2.2.2.2.2.2.2.2.2.2.2.2.2.1, u0.2.2.2.2.2.2.2.2.2.2.2.2.2.2.2.2.2.1, u0.2.2.2.2.2.2.2.2.2.2.2.2.2.2.2.2.2.2.1, u0.2.2.2.2.2.2.2.2.2.2.2.2.2.2.2.2.2.2.2.1, u0.2.2.2.2.2.2.2.2.2.2.2.2.2.2.2.2.2.2.2.2.1, u0.2.2.2.2.2.2.2.2.2.2.2.2.2.2.2.2.2.2.2.2.2)) H := hP
  have hD : va_D A (k_X10 E q0 ((0 : Int32), u0.2.1, u0.2.2.1, u0.2.2.2.1, u0.2.2.2.2.1, u0.2.2.2.2.2.1, u0.2.2.2.2.2.2.1, u0.2.2.2.2.2.2.2.1, u0.2.2.2.2.2.2.2.2.1, u0.2.2.2.2.2.2.2.2.2.1, u0.2.2.2.2.2.2.2.2.2.2.1, u0.2.2.2.2.2.2.2.2.2.2.2.1, u0.2.2.2.2.2.2.2.2.2.2.2.2.1, u0.2.2.2.2.2.2.2.2.2.2.2.2.2.1, u0.2.2.2.2.2.2.2.2.2.2.2.2.2.2.1, u0.2.2.2.2.2.2.2.2.2.2.2.2.2.2.2.1, u0.2.2.2.2.2.2.2.2.2.2.2.2.2.2.2.2.1, u0.2.2.2.2.2.2.2.2.2.2.2.2.2.2.2.2.2.1, u0.2.2.2.2.2.2.2.2.2.2.2.2.2.2.2.2.2.2.1, u0.2.2.2.2.2.2.2.2.2.2.2.2.2.2.2.2.2.2.2.1, u0.2.2.2.2.2.2.2.2.2.2.2.2.2.2.2.2.2.2.2.2.1, u0.2.2.2.2.2.2.2.2.2.2.2.2.2.2.2.2.2.2.2.2.2)) := hD
  refine lv_aload_n hx hb dX10_reservedIn_5 rfl (lv_at hl 0 rfl) ?_
  refine lv_iload_n hx hb dX10_reservedIn_6 rfl (lv_at hl 1 rfl) ?_
  refine z_ki (z_rV (rest := []) hZ0 C0 hK hZ hA hP hD hS hl.1 (c_X10_noPeriod l E Z hZ0 q0 H.size ((0 : Int32), u0.2.1, u0.2.2.1, u0.2.2.2.1, u0.2.2.2.2.1, u0.2.2.2.2.2.1, u0.2.2.2.2.2.2.1, u0.2.2.2.2.2.2.2.1, u0.2.2.2.2.2.2.2.2.1, u0.2.2.2.2.2.2.2.2.2.1, u0.2.2.2.2.2.2.2.2.2.2.1, u0.2.2.2.2.2.2.2.2.2.2.2.1, u0.2.2.2.2.2.2.2.2.2.2.2.2.1, u0.2.2.2.2.2.2.2.2.2.2.2.2.2.1, u0.2.2.2.2.2.2.2.2.2.2.2.2.2.2.1, u0.2.2.2.2.2.2.2.2.2.2.2.2.2.2.2.1, u0.2.2.2.2.2.2.2.2.2.2.2.2.2.2.2.2.1, u0.2.2.2.2.2.2.2.2.2.2.2.2.2.2.2.2.2.1, u0.2.2.2.2.2.2.2.2.2.2.2.2.2.2.2.2.2.2.1, u0.2.2.2.2.2.2.2.2.2.2.2.2.2.2.2.2.2.2.2.1, u0.2.2.2.2.2.2.2.2.2.2.2.2.2.2.2.2.2.2.2.2.1, u0.2.2.2.2.2.2.2.2.2.2.2.2.2.2.2.2.2.2.2.2.2) p1 _ hw) yv_X10_237 [0, 1, 2, 3, 4, 5, 6, 7, 8, 9] rfl (by decide) (ci := 10) rfl rfl 0 rfl ⟨Nat.le_of_ble_eq_true rfl, Nat.le_of_ble_eq_true rfl⟩ ⟨rfl, rfl⟩ rfl rfl (Nat.le_of_ble_eq_true rfl) ⟨Nat.le_of_ble_eq_true rfl, Nat.le_of_ble_eq_true rfl⟩ dX10_reservedIn_7) hP hD hS hA [0, 1, 2, 3, 4, 5, 6, 7, 8, 9] [] [0, 1, 2, 3, 4, 5, 6, 7, 8, 9] rfl (wr := []) rfl (by decide) (by decide) (fun u => k_X10 E q0 u) (fun u => rfl) (by decide) (fun r_2 u_1 H locs hw hP hD hS => ?_)
  obtain ⟨hwt, hwf⟩ := hw
  refine lv_if_eq (tgt := 17) hx hb dX10_reservedIn_10 (by decide) (fun c_3 => ?_) (fun c_3 => ?_)
  · have hw := hwt c_3
    refine lv_aload_n hx hb dX10_reservedIn_17 rfl (lv_at hl 0 rfl) ?_
    refine va_get (D := zD E) (ci := 10) (v := .ref (q0 2)) (C := RX10) (T := TX10) (N := 24) hx hb hts uw_X10 hown hK hP 0 rfl rfl 8 (by decide) (hts _ wm_5_124) (fun _ h9 => h9) rfl dX10_reservedIn_18 ?_
    refine lv_iload_n hx hb dX10_reservedIn_21 rfl (lv_at hl 1 rfl) ?_
    refine z_ki (z_rS (rest := [.ref (q0 2)]) hZ0 C0 hK hZ hA hP hD hS hl.1 (c_X10_period l E Z hZ0 H.size p1 _ hw) yv_X10_148 [] rfl (by decide) ⟨Nat.le_of_ble_eq_true rfl, Nat.le_of_ble_eq_true rfl⟩ ⟨rfl, rfl⟩ rfl rfl (Nat.le_of_ble_eq_true rfl) ⟨Nat.le_of_ble_eq_true rfl, Nat.le_of_ble_eq_true rfl⟩ dX10_reservedIn_22) hP hD hS hA [] [0, 1, 2, 3, 4, 5, 6, 7, 8, 9] [0, 1, 2, 3, 4, 5, 6, 7, 8, 9] rfl (wr := [_, _, _, _, _, _, _, _, _, _]) rfl (by decide) (by decide) (fun u => k_X10 E q0 u_1) (fun u => rfl) (by decide) (fun r_5 u_4 H locs hw hP hD hS => ?_)
    obtain ⟨h_6, hw⟩ := hw
    refine va_iald hx hb hK hP 2 0 rfl rfl h_6 dX10_reservedIn_25 ?_
    exact z_iret (k := (fun u => k_X10 E q0 u)) u_1 C0 hP hD hS hw dX10_reservedIn_26
  · have hw := hwf c_3
    refine lv_iconst (v := 0) hx hb dX10_reservedIn_13 rfl ?_
    refine lv_goto (tgt := 26) hx hb dX10_reservedIn_14 (by decide) ?_
    exact z_iret (k := (fun u => k_X10 E q0 u)) u_1 C0 hP hD hS hw dX10_reservedIn_26
abbrev r_X10_forecastOf : Room := { frames := 2, cells := 0, slots := 0, locals := 43 }
def wp_X10_forecastOf (u0 : S_X10) (p1 : Int32) (post : Int32 → S_X10 → Prop) : Prop := wp_X10_noPeriod ((0 : Int32), u0.2.1, u0.2.2.1, u0.2.2.2.1, u0.2.2.2.2.1, u0.2.2.2.2.2.1, u0.2.2.2.2.2.2.1, u0.2.2.2.2.2.2.2.1, u0.2.2.2.2.2.2.2.2.1, u0.2.2.2.2.2.2.2.2.2.1, u0.2.2.2.2.2.2.2.2.2.2.1, u0.2.2.2.2.2.2.2.2.2.2.2.1, u0.2.2.2.2.2.2.2.2.2.2.2.2.1, u0.2.2.2.2.2.2.2.2.2.2.2.2.2.1, u0.2.2.2.2.2.2.2.2.2.2.2.2.2.2.1, u0.2.2.2.2.2.2.2.2.2.2.2.2.2.2.2.1, u0.2.2.2.2.2.2.2.2.2.2.2.2.2.2.2.2.1, u0.2.2.2.2.2.2.2.2.2.2.2.2.2.2.2.2.2.1, u0.2.2.2.2.2.2.2.2.2.2.2.2.2.2.2.2.2.2.1, u0.2.2.2.2.2.2.2.2.2.2.2.2.2.2.2.2.2.2.2.1, u0.2.2.2.2.2.2.2.2.2.2.2.2.2.2.2.2.2.2.2.2.1, u0.2.2.2.2.2.2.2.2.2.2.2.2.2.2.2.2.2.2.2.2.2) p1 (fun r_2 u_1 => (r_2 = 0 → (wp_X10_period p1 (fun r_5 u_4 => vp_in (r_5 + (1 : Int32)) 1728 ∧ (post (u_1.2.2.2.2.2.2.2.2.1 (r_5 + (1 : Int32)).toNatClampNeg) u_1)))) ∧ (¬ (r_2 = 0) → (post (0 : Int32) u_1)))
set_option maxHeartbeats 4000000 in
set_option maxRecDepth 100000 in
theorem c_X10_forecastOf (l : Launch) (E : zE) (Z : zZ) (hZ0 : zSt Z) (q0 : Nat → Nat) (sz : Nat) (u0 : S_X10) (p1 : Int32) (post : Int32 → S_X10 → Prop) (hw : wp_X10_forecastOf u0 p1 post) : Met l yX10_forecastOf (zws yX10_forecastOf cX10_forecastOf 2 (some .int)) r_X10_forecastOf (va_Pc [.ref (q0 0), .int p1] (zPre Z E (k_X10 E q0 u0) sz)) (va_Qi post (zAt E (va_A (k_X10 E q0 u0) sz) (fun u => k_X10 E q0 u)) (va_A (k_X10 E q0 u0) sz)) 0 0 (va_A (k_X10 E q0 u0) sz) := by
  refine z_ofW (Qf := fun A => va_Qi post (zAt E A (fun u => k_X10 E q0 u)) A) (by decide) (Nat.le_of_ble_eq_true rfl) ?_
  intro p e s m args below meth c A ls C0 hA hK hZ hP hD hS hl
  obtain ⟨hx, hb, hml, hr, hown, hts, hlocks, hin⟩ := id C0
  have hown : s.vm.findClass RX10 = some m.cls := hown
  have hl : lv_has ls 2 [(0, .ref (q0 0)), (1, .int p1)] := hl
  refine lv_aload_n hx hb dX10_forecastOf_0 rfl (lv_at hl 0 rfl) ?_
  refine lv_iconst (v := 0) hx hb dX10_forecastOf_1 rfl ?_
  refine va_put (D := zD E) (ci := 10) (v := .int (0 : Int32)) (ty := .int) (C := RX10) (T := TX10) (N := 24) hx hb hts uw_X10 tyX10 tyX10_ok nmX10 hown hK hP hD hS 0 rfl rfl 0 (by decide) (hts _ wm_5_116) (fun _ h9 => h9) rfl (by decide +kernel) rfl rfl (Nat.le_of_ble_eq_true rfl) dX10_forecastOf_2 (fun H locs hP hD hS => ?_)
  have hP : va_P (zD E) vwCl (k_X10 E q0 ((0 : Int32), u0.2.1, u0.2.2.1, u0.2.2.2.1, u0.2.2.2.2.1, u0.2.2.2.2.2.1, u0.2.2.2.2.2.2.1, u0.2.2.2.2.2.2.2.1, u0.2.2.2.2.2.2.2.2.1, u0.2.2.2.2.2.2.2.2.2.1, u0.2.2.2.2.2.2.2.2.2.2.1, u0.2.2.2.2.2.2.2.2.2.2.2.1, u0.2.2.2.2.2.2.2.2.2.2.2.2.1, u0.2.2.2.2.2.2.2.2.2.2.2.2.2.1, u0.2.2.2.2.2.2.2.2.2.2.2.2.2.2.1, u0.2.2.2.2.2.2.2.2.2.2.2.2.2.2.2.1, u0.2.2.2.2.2.2.2.2.2.2.2.2.2.2.2.2.1, u0.2.2.2.2.2.2.2.2.2.2.2.2.2.2.2.2.2.1, u0.2.2.2.2.2.2.2.2.2.2.2.2.2.2.2.2.2.2.1, u0.2.2.2.2.2.2.2.2.2.2.2.2.2.2.2.2.2.2.2.1, u0.2.2.2.2.2.2.2.2.2.2.2.2.2.2.2.2.2.2.2.2.1, u0.2.2.2.2.2.2.2.2.2.2.2.2.2.2.2.2.2.2.2.2.2)) H := hP
  have hD : va_D A (k_X10 E q0 ((0 : Int32), u0.2.1, u0.2.2.1, u0.2.2.2.1, u0.2.2.2.2.1, u0.2.2.2.2.2.1, u0.2.2.2.2.2.2.1, u0.2.2.2.2.2.2.2.1, u0.2.2.2.2.2.2.2.2.1, u0.2.2.2.2.2.2.2.2.2.1, u0.2.2.2.2.2.2.2.2.2.2.1, u0.2.2.2.2.2.2.2.2.2.2.2.1, u0.2.2.2.2.2.2.2.2.2.2.2.2.1, u0.2.2.2.2.2.2.2.2.2.2.2.2.2.1, u0.2.2.2.2.2.2.2.2.2.2.2.2.2.2.1, u0.2.2.2.2.2.2.2.2.2.2.2.2.2.2.2.1, u0.2.2.2.2.2.2.2.2.2.2.2.2.2.2.2.2.1, u0.2.2.2.2.2.2.2.2.2.2.2.2.2.2.2.2.2.1, u0.2.2.2.2.2.2.2.2.2.2.2.2.2.2.2.2.2.2.1, u0.2.2.2.2.2.2.2.2.2.2.2.2.2.2.2.2.2.2.2.1, u0.2.2.2.2.2.2.2.2.2.2.2.2.2.2.2.2.2.2.2.2.1, u0.2.2.2.2.2.2.2.2.2.2.2.2.2.2.2.2.2.2.2.2.2)) := hD
  refine lv_aload_n hx hb dX10_forecastOf_5 rfl (lv_at hl 0 rfl) ?_
  refine lv_iload_n hx hb dX10_forecastOf_6 rfl (lv_at hl 1 rfl) ?_
  refine z_ki (z_rV (rest := []) hZ0 C0 hK hZ hA hP hD hS hl.1 (c_X10_noPeriod l E Z hZ0 q0 H.size ((0 : Int32), u0.2.1, u0.2.2.1, u0.2.2.2.1, u0.2.2.2.2.1, u0.2.2.2.2.2.1, u0.2.2.2.2.2.2.1, u0.2.2.2.2.2.2.2.1, u0.2.2.2.2.2.2.2.2.1, u0.2.2.2.2.2.2.2.2.2.1, u0.2.2.2.2.2.2.2.2.2.2.1, u0.2.2.2.2.2.2.2.2.2.2.2.1, u0.2.2.2.2.2.2.2.2.2.2.2.2.1, u0.2.2.2.2.2.2.2.2.2.2.2.2.2.1, u0.2.2.2.2.2.2.2.2.2.2.2.2.2.2.1, u0.2.2.2.2.2.2.2.2.2.2.2.2.2.2.2.1, u0.2.2.2.2.2.2.2.2.2.2.2.2.2.2.2.2.1, u0.2.2.2.2.2.2.2.2.2.2.2.2.2.2.2.2.2.1, u0.2.2.2.2.2.2.2.2.2.2.2.2.2.2.2.2.2.2.1, u0.2.2.2.2.2.2.2.2.2.2.2.2.2.2.2.2.2.2.2.1, u0.2.2.2.2.2.2.2.2.2.2.2.2.2.2.2.2.2.2.2.2.1, u0.2.2.2.2.2.2.2.2.2.2.2.2.2.2.2.2.2.2.2.2.2) p1 _ hw) yv_X10_237 [0, 1, 2, 3, 4, 5, 6, 7, 8, 9] rfl (by decide) (ci := 10) rfl rfl 0 rfl ⟨Nat.le_of_ble_eq_true rfl, Nat.le_of_ble_eq_true rfl⟩ ⟨rfl, rfl⟩ rfl rfl (Nat.le_of_ble_eq_true rfl) ⟨Nat.le_of_ble_eq_true rfl, Nat.le_of_ble_eq_true rfl⟩ dX10_forecastOf_7) hP hD hS hA [0, 1, 2, 3, 4, 5, 6, 7, 8, 9] [] [0, 1, 2, 3, 4, 5, 6, 7, 8, 9] rfl (wr := []) rfl (by decide) (by decide) (fun u => k_X10 E q0 u) (fun u => rfl) (by decide) (fun r_2 u_1 H locs hw hP hD hS => ?_)
  obtain ⟨hwt, hwf⟩ := hw
  refine lv_if_eq (tgt := 17) hx hb dX10_forecastOf_10 (by decide) (fun c_3 => ?_) (fun c_3 => ?_)
  · have hw := hwt c_3
    refine lv_aload_n hx hb dX10_forecastOf_17 rfl (lv_at hl 0 rfl) ?_
    refine va_get (D := zD E) (ci := 10) (v := .ref (q0 2)) (C := RX10) (T := TX10) (N := 24) hx hb hts uw_X10 hown hK hP 0 rfl rfl 8 (by decide) (hts _ wm_5_124) (fun _ h9 => h9) rfl dX10_forecastOf_18 ?_
    refine lv_iload_n hx hb dX10_forecastOf_21 rfl (lv_at hl 1 rfl) ?_
    refine z_ki (z_rS (rest := [.ref (q0 2)]) hZ0 C0 hK hZ hA hP hD hS hl.1 (c_X10_period l E Z hZ0 H.size p1 _ hw) yv_X10_148 [] rfl (by decide) ⟨Nat.le_of_ble_eq_true rfl, Nat.le_of_ble_eq_true rfl⟩ ⟨rfl, rfl⟩ rfl rfl (Nat.le_of_ble_eq_true rfl) ⟨Nat.le_of_ble_eq_true rfl, Nat.le_of_ble_eq_true rfl⟩ dX10_forecastOf_22) hP hD hS hA [] [0, 1, 2, 3, 4, 5, 6, 7, 8, 9] [0, 1, 2, 3, 4, 5, 6, 7, 8, 9] rfl (wr := [_, _, _, _, _, _, _, _, _, _]) rfl (by decide) (by decide) (fun u => k_X10 E q0 u_1) (fun u => rfl) (by decide) (fun r_5 u_4 H locs hw hP hD hS => ?_)
    refine lv_iconst (v := 1) hx hb dX10_forecastOf_25 rfl ?_
    refine lv_iadd hx hb dX10_forecastOf_26 ?_
    obtain ⟨h_6, hw⟩ := hw
    refine va_iald hx hb hK hP 2 0 rfl rfl h_6 dX10_forecastOf_27 ?_
    exact z_iret (k := (fun u => k_X10 E q0 u)) u_1 C0 hP hD hS hw dX10_forecastOf_28
  · have hw := hwf c_3
    refine lv_iconst (v := 0) hx hb dX10_forecastOf_13 rfl ?_
    refine lv_goto (tgt := 28) hx hb dX10_forecastOf_14 (by decide) ?_
    exact z_iret (k := (fun u => k_X10 E q0 u)) u_1 C0 hP hD hS hw dX10_forecastOf_28
abbrev r_X10_orderOf : Room := { frames := 2, cells := 0, slots := 0, locals := 43 }
def wp_X10_orderOf (u0 : S_X10) (p1 : Int32) (post : Int32 → S_X10 → Prop) : Prop := wp_X10_noPeriod ((0 : Int32), u0.2.1, u0.2.2.1, u0.2.2.2.1, u0.2.2.2.2.1, u0.2.2.2.2.2.1, u0.2.2.2.2.2.2.1, u0.2.2.2.2.2.2.2.1, u0.2.2.2.2.2.2.2.2.1, u0.2.2.2.2.2.2.2.2.2.1, u0.2.2.2.2.2.2.2.2.2.2.1, u0.2.2.2.2.2.2.2.2.2.2.2.1, u0.2.2.2.2.2.2.2.2.2.2.2.2.1, u0.2.2.2.2.2.2.2.2.2.2.2.2.2.1, u0.2.2.2.2.2.2.2.2.2.2.2.2.2.2.1, u0.2.2.2.2.2.2.2.2.2.2.2.2.2.2.2.1, u0.2.2.2.2.2.2.2.2.2.2.2.2.2.2.2.2.1, u0.2.2.2.2.2.2.2.2.2.2.2.2.2.2.2.2.2.1, u0.2.2.2.2.2.2.2.2.2.2.2.2.2.2.2.2.2.2.1, u0.2.2.2.2.2.2.2.2.2.2.2.2.2.2.2.2.2.2.2.1, u0.2.2.2.2.2.2.2.2.2.2.2.2.2.2.2.2.2.2.2.2.1, u0.2.2.2.2.2.2.2.2.2.2.2.2.2.2.2.2.2.2.2.2.2) p1 (fun r_2 u_1 => (r_2 = 0 → (wp_X10_period p1 (fun r_5 u_4 => vp_in (r_5 + (2 : Int32)) 1728 ∧ (post (u_1.2.2.2.2.2.2.2.2.1 (r_5 + (2 : Int32)).toNatClampNeg) u_1)))) ∧ (¬ (r_2 = 0) → (post (0 : Int32) u_1)))
set_option maxHeartbeats 4000000 in
set_option maxRecDepth 100000 in
theorem c_X10_orderOf (l : Launch) (E : zE) (Z : zZ) (hZ0 : zSt Z) (q0 : Nat → Nat) (sz : Nat) (u0 : S_X10) (p1 : Int32) (post : Int32 → S_X10 → Prop) (hw : wp_X10_orderOf u0 p1 post) : Met l yX10_orderOf (zws yX10_orderOf cX10_orderOf 2 (some .int)) r_X10_orderOf (va_Pc [.ref (q0 0), .int p1] (zPre Z E (k_X10 E q0 u0) sz)) (va_Qi post (zAt E (va_A (k_X10 E q0 u0) sz) (fun u => k_X10 E q0 u)) (va_A (k_X10 E q0 u0) sz)) 0 0 (va_A (k_X10 E q0 u0) sz) := by
  refine z_ofW (Qf := fun A => va_Qi post (zAt E A (fun u => k_X10 E q0 u)) A) (by decide) (Nat.le_of_ble_eq_true rfl) ?_
  intro p e s m args below meth c A ls C0 hA hK hZ hP hD hS hl
  obtain ⟨hx, hb, hml, hr, hown, hts, hlocks, hin⟩ := id C0
  have hown : s.vm.findClass RX10 = some m.cls := hown
  have hl : lv_has ls 2 [(0, .ref (q0 0)), (1, .int p1)] := hl
  refine lv_aload_n hx hb dX10_orderOf_0 rfl (lv_at hl 0 rfl) ?_
  refine lv_iconst (v := 0) hx hb dX10_orderOf_1 rfl ?_
  refine va_put (D := zD E) (ci := 10) (v := .int (0 : Int32)) (ty := .int) (C := RX10) (T := TX10) (N := 24) hx hb hts uw_X10 tyX10 tyX10_ok nmX10 hown hK hP hD hS 0 rfl rfl 0 (by decide) (hts _ wm_5_116) (fun _ h9 => h9) rfl (by decide +kernel) rfl rfl (Nat.le_of_ble_eq_true rfl) dX10_orderOf_2 (fun H locs hP hD hS => ?_)
  have hP : va_P (zD E) vwCl (k_X10 E q0 ((0 : Int32), u0.2.1, u0.2.2.1, u0.2.2.2.1, u0.2.2.2.2.1, u0.2.2.2.2.2.1, u0.2.2.2.2.2.2.1, u0.2.2.2.2.2.2.2.1, u0.2.2.2.2.2.2.2.2.1, u0.2.2.2.2.2.2.2.2.2.1, u0.2.2.2.2.2.2.2.2.2.2.1, u0.2.2.2.2.2.2.2.2.2.2.2.1, u0.2.2.2.2.2.2.2.2.2.2.2.2.1, u0.2.2.2.2.2.2.2.2.2.2.2.2.2.1, u0.2.2.2.2.2.2.2.2.2.2.2.2.2.2.1, u0.2.2.2.2.2.2.2.2.2.2.2.2.2.2.2.1, u0.2.2.2.2.2.2.2.2.2.2.2.2.2.2.2.2.1, u0.2.2.2.2.2.2.2.2.2.2.2.2.2.2.2.2.2.1, u0.2.2.2.2.2.2.2.2.2.2.2.2.2.2.2.2.2.2.1, u0.2.2.2.2.2.2.2.2.2.2.2.2.2.2.2.2.2.2.2.1, u0.2.2.2.2.2.2.2.2.2.2.2.2.2.2.2.2.2.2.2.2.1, u0.2.2.2.2.2.2.2.2.2.2.2.2.2.2.2.2.2.2.2.2.2)) H := hP
  have hD : va_D A (k_X10 E q0 ((0 : Int32), u0.2.1, u0.2.2.1, u0.2.2.2.1, u0.2.2.2.2.1, u0.2.2.2.2.2.1, u0.2.2.2.2.2.2.1, u0.2.2.2.2.2.2.2.1, u0.2.2.2.2.2.2.2.2.1, u0.2.2.2.2.2.2.2.2.2.1, u0.2.2.2.2.2.2.2.2.2.2.1, u0.2.2.2.2.2.2.2.2.2.2.2.1, u0.2.2.2.2.2.2.2.2.2.2.2.2.1, u0.2.2.2.2.2.2.2.2.2.2.2.2.2.1, u0.2.2.2.2.2.2.2.2.2.2.2.2.2.2.1, u0.2.2.2.2.2.2.2.2.2.2.2.2.2.2.2.1, u0.2.2.2.2.2.2.2.2.2.2.2.2.2.2.2.2.1, u0.2.2.2.2.2.2.2.2.2.2.2.2.2.2.2.2.2.1, u0.2.2.2.2.2.2.2.2.2.2.2.2.2.2.2.2.2.2.1, u0.2.2.2.2.2.2.2.2.2.2.2.2.2.2.2.2.2.2.2.1, u0.2.2.2.2.2.2.2.2.2.2.2.2.2.2.2.2.2.2.2.2.1, u0.2.2.2.2.2.2.2.2.2.2.2.2.2.2.2.2.2.2.2.2.2)) := hD
  refine lv_aload_n hx hb dX10_orderOf_5 rfl (lv_at hl 0 rfl) ?_
  refine lv_iload_n hx hb dX10_orderOf_6 rfl (lv_at hl 1 rfl) ?_
  refine z_ki (z_rV (rest := []) hZ0 C0 hK hZ hA hP hD hS hl.1 (c_X10_noPeriod l E Z hZ0 q0 H.size ((0 : Int32), u0.2.1, u0.2.2.1, u0.2.2.2.1, u0.2.2.2.2.1, u0.2.2.2.2.2.1, u0.2.2.2.2.2.2.1, u0.2.2.2.2.2.2.2.1, u0.2.2.2.2.2.2.2.2.1, u0.2.2.2.2.2.2.2.2.2.1, u0.2.2.2.2.2.2.2.2.2.2.1, u0.2.2.2.2.2.2.2.2.2.2.2.1, u0.2.2.2.2.2.2.2.2.2.2.2.2.1, u0.2.2.2.2.2.2.2.2.2.2.2.2.2.1, u0.2.2.2.2.2.2.2.2.2.2.2.2.2.2.1, u0.2.2.2.2.2.2.2.2.2.2.2.2.2.2.2.1, u0.2.2.2.2.2.2.2.2.2.2.2.2.2.2.2.2.1, u0.2.2.2.2.2.2.2.2.2.2.2.2.2.2.2.2.2.1, u0.2.2.2.2.2.2.2.2.2.2.2.2.2.2.2.2.2.2.1, u0.2.2.2.2.2.2.2.2.2.2.2.2.2.2.2.2.2.2.2.1, u0.2.2.2.2.2.2.2.2.2.2.2.2.2.2.2.2.2.2.2.2.1, u0.2.2.2.2.2.2.2.2.2.2.2.2.2.2.2.2.2.2.2.2.2) p1 _ hw) yv_X10_237 [0, 1, 2, 3, 4, 5, 6, 7, 8, 9] rfl (by decide) (ci := 10) rfl rfl 0 rfl ⟨Nat.le_of_ble_eq_true rfl, Nat.le_of_ble_eq_true rfl⟩ ⟨rfl, rfl⟩ rfl rfl (Nat.le_of_ble_eq_true rfl) ⟨Nat.le_of_ble_eq_true rfl, Nat.le_of_ble_eq_true rfl⟩ dX10_orderOf_7) hP hD hS hA [0, 1, 2, 3, 4, 5, 6, 7, 8, 9] [] [0, 1, 2, 3, 4, 5, 6, 7, 8, 9] rfl (wr := []) rfl (by decide) (by decide) (fun u => k_X10 E q0 u) (fun u => rfl) (by decide) (fun r_2 u_1 H locs hw hP hD hS => ?_)
  obtain ⟨hwt, hwf⟩ := hw
  refine lv_if_eq (tgt := 17) hx hb dX10_orderOf_10 (by decide) (fun c_3 => ?_) (fun c_3 => ?_)
  · have hw := hwt c_3
    refine lv_aload_n hx hb dX10_orderOf_17 rfl (lv_at hl 0 rfl) ?_
    refine va_get (D := zD E) (ci := 10) (v := .ref (q0 2)) (C := RX10) (T := TX10) (N := 24) hx hb hts uw_X10 hown hK hP 0 rfl rfl 8 (by decide) (hts _ wm_5_124) (fun _ h9 => h9) rfl dX10_orderOf_18 ?_
    refine lv_iload_n hx hb dX10_orderOf_21 rfl (lv_at hl 1 rfl) ?_
    refine z_ki (z_rS (rest := [.ref (q0 2)]) hZ0 C0 hK hZ hA hP hD hS hl.1 (c_X10_period l E Z hZ0 H.size p1 _ hw) yv_X10_148 [] rfl (by decide) ⟨Nat.le_of_ble_eq_true rfl, Nat.le_of_ble_eq_true rfl⟩ ⟨rfl, rfl⟩ rfl rfl (Nat.le_of_ble_eq_true rfl) ⟨Nat.le_of_ble_eq_true rfl, Nat.le_of_ble_eq_true rfl⟩ dX10_orderOf_22) hP hD hS hA [] [0, 1, 2, 3, 4, 5, 6, 7, 8, 9] [0, 1, 2, 3, 4, 5, 6, 7, 8, 9] rfl (wr := [_, _, _, _, _, _, _, _, _, _]) rfl (by decide) (by decide) (fun u => k_X10 E q0 u_1) (fun u => rfl) (by decide) (fun r_5 u_4 H locs hw hP hD hS => ?_)
    refine lv_iconst (v := 2) hx hb dX10_orderOf_25 rfl ?_
    refine lv_iadd hx hb dX10_orderOf_26 ?_
    obtain ⟨h_6, hw⟩ := hw
    refine va_iald hx hb hK hP 2 0 rfl rfl h_6 dX10_orderOf_27 ?_
    exact z_iret (k := (fun u => k_X10 E q0 u)) u_1 C0 hP hD hS hw dX10_orderOf_28
  · have hw := hwf c_3
    refine lv_iconst (v := 0) hx hb dX10_orderOf_13 rfl ?_
    refine lv_goto (tgt := 28) hx hb dX10_orderOf_14 (by decide) ?_
    exact z_iret (k := (fun u => k_X10 E q0 u)) u_1 C0 hP hD hS hw dX10_orderOf_28
abbrev r_X10_openUnits : Room := { frames := 2, cells := 0, slots := 0, locals := 43 }
def wp_X10_openUnits (u0 : S_X10) (p1 : Int32) (post : Int32 → S_X10 → Prop) : Prop := wp_X10_noPeriod ((0 : Int32), u0.2.1, u0.2.2.1, u0.2.2.2.1, u0.2.2.2.2.1, u0.2.2.2.2.2.1, u0.2.2.2.2.2.2.1, u0.2.2.2.2.2.2.2.1, u0.2.2.2.2.2.2.2.2.1, u0.2.2.2.2.2.2.2.2.2.1, u0.2.2.2.2.2.2.2.2.2.2.1, u0.2.2.2.2.2.2.2.2.2.2.2.1, u0.2.2.2.2.2.2.2.2.2.2.2.2.1, u0.2.2.2.2.2.2.2.2.2.2.2.2.2.1, u0.2.2.2.2.2.2.2.2.2.2.2.2.2.2.1, u0.2.2.2.2.2.2.2.2.2.2.2.2.2.2.2.1, u0.2.2.2.2.2.2.2.2.2.2.2.2.2.2.2.2.1, u0.2.2.2.2.2.2.2.2.2.2.2.2.2.2.2.2.2.1, u0.2.2.2.2.2.2.2.2.2.2.2.2.2.2.2.2.2.2.1, u0.2.2.2.2.2.2.2.2.2.2.2.2.2.2.2.2.2.2.2.1, u0.2.2.2.2.2.2.2.2.2.2.2.2.2.2.2.2.2.2.2.2.1, u0.2.2.2.2.2.2.2.2.2.2.2.2.2.2.2.2.2.2.2.2.2) p1 (fun r_2 u_1 => (r_2 = 0 → (wp_X10_period p1 (fun r_5 u_4 => vp_in (r_5 + (3 : Int32)) 1728 ∧ (post (u_1.2.2.2.2.2.2.2.2.1 (r_5 + (3 : Int32)).toNatClampNeg) u_1)))) ∧ (¬ (r_2 = 0) → (post (0 : Int32) u_1)))
set_option maxHeartbeats 4000000 in
set_option maxRecDepth 100000 in
theorem c_X10_openUnits (l : Launch) (E : zE) (Z : zZ) (hZ0 : zSt Z) (q0 : Nat → Nat) (sz : Nat) (u0 : S_X10) (p1 : Int32) (post : Int32 → S_X10 → Prop) (hw : wp_X10_openUnits u0 p1 post) : Met l yX10_openUnits (zws yX10_openUnits cX10_openUnits 2 (some .int)) r_X10_openUnits (va_Pc [.ref (q0 0), .int p1] (zPre Z E (k_X10 E q0 u0) sz)) (va_Qi post (zAt E (va_A (k_X10 E q0 u0) sz) (fun u => k_X10 E q0 u)) (va_A (k_X10 E q0 u0) sz)) 0 0 (va_A (k_X10 E q0 u0) sz) := by
  refine z_ofW (Qf := fun A => va_Qi post (zAt E A (fun u => k_X10 E q0 u)) A) (by decide) (Nat.le_of_ble_eq_true rfl) ?_
  intro p e s m args below meth c A ls C0 hA hK hZ hP hD hS hl
  obtain ⟨hx, hb, hml, hr, hown, hts, hlocks, hin⟩ := id C0
  have hown : s.vm.findClass RX10 = some m.cls := hown
  have hl : lv_has ls 2 [(0, .ref (q0 0)), (1, .int p1)] := hl
  refine lv_aload_n hx hb dX10_openUnits_0 rfl (lv_at hl 0 rfl) ?_
  refine lv_iconst (v := 0) hx hb dX10_openUnits_1 rfl ?_
  refine va_put (D := zD E) (ci := 10) (v := .int (0 : Int32)) (ty := .int) (C := RX10) (T := TX10) (N := 24) hx hb hts uw_X10 tyX10 tyX10_ok nmX10 hown hK hP hD hS 0 rfl rfl 0 (by decide) (hts _ wm_5_116) (fun _ h9 => h9) rfl (by decide +kernel) rfl rfl (Nat.le_of_ble_eq_true rfl) dX10_openUnits_2 (fun H locs hP hD hS => ?_)
  have hP : va_P (zD E) vwCl (k_X10 E q0 ((0 : Int32), u0.2.1, u0.2.2.1, u0.2.2.2.1, u0.2.2.2.2.1, u0.2.2.2.2.2.1, u0.2.2.2.2.2.2.1, u0.2.2.2.2.2.2.2.1, u0.2.2.2.2.2.2.2.2.1, u0.2.2.2.2.2.2.2.2.2.1, u0.2.2.2.2.2.2.2.2.2.2.1, u0.2.2.2.2.2.2.2.2.2.2.2.1, u0.2.2.2.2.2.2.2.2.2.2.2.2.1, u0.2.2.2.2.2.2.2.2.2.2.2.2.2.1, u0.2.2.2.2.2.2.2.2.2.2.2.2.2.2.1, u0.2.2.2.2.2.2.2.2.2.2.2.2.2.2.2.1, u0.2.2.2.2.2.2.2.2.2.2.2.2.2.2.2.2.1, u0.2.2.2.2.2.2.2.2.2.2.2.2.2.2.2.2.2.1, u0.2.2.2.2.2.2.2.2.2.2.2.2.2.2.2.2.2.2.1, u0.2.2.2.2.2.2.2.2.2.2.2.2.2.2.2.2.2.2.2.1, u0.2.2.2.2.2.2.2.2.2.2.2.2.2.2.2.2.2.2.2.2.1, u0.2.2.2.2.2.2.2.2.2.2.2.2.2.2.2.2.2.2.2.2.2)) H := hP
  have hD : va_D A (k_X10 E q0 ((0 : Int32), u0.2.1, u0.2.2.1, u0.2.2.2.1, u0.2.2.2.2.1, u0.2.2.2.2.2.1, u0.2.2.2.2.2.2.1, u0.2.2.2.2.2.2.2.1, u0.2.2.2.2.2.2.2.2.1, u0.2.2.2.2.2.2.2.2.2.1, u0.2.2.2.2.2.2.2.2.2.2.1, u0.2.2.2.2.2.2.2.2.2.2.2.1, u0.2.2.2.2.2.2.2.2.2.2.2.2.1, u0.2.2.2.2.2.2.2.2.2.2.2.2.2.1, u0.2.2.2.2.2.2.2.2.2.2.2.2.2.2.1, u0.2.2.2.2.2.2.2.2.2.2.2.2.2.2.2.1, u0.2.2.2.2.2.2.2.2.2.2.2.2.2.2.2.2.1, u0.2.2.2.2.2.2.2.2.2.2.2.2.2.2.2.2.2.1, u0.2.2.2.2.2.2.2.2.2.2.2.2.2.2.2.2.2.2.1, u0.2.2.2.2.2.2.2.2.2.2.2.2.2.2.2.2.2.2.2.1, u0.2.2.2.2.2.2.2.2.2.2.2.2.2.2.2.2.2.2.2.2.1, u0.2.2.2.2.2.2.2.2.2.2.2.2.2.2.2.2.2.2.2.2.2)) := hD
  refine lv_aload_n hx hb dX10_openUnits_5 rfl (lv_at hl 0 rfl) ?_
  refine lv_iload_n hx hb dX10_openUnits_6 rfl (lv_at hl 1 rfl) ?_
  refine z_ki (z_rV (rest := []) hZ0 C0 hK hZ hA hP hD hS hl.1 (c_X10_noPeriod l E Z hZ0 q0 H.size ((0 : Int32), u0.2.1, u0.2.2.1, u0.2.2.2.1, u0.2.2.2.2.1, u0.2.2.2.2.2.1, u0.2.2.2.2.2.2.1, u0.2.2.2.2.2.2.2.1, u0.2.2.2.2.2.2.2.2.1, u0.2.2.2.2.2.2.2.2.2.1, u0.2.2.2.2.2.2.2.2.2.2.1, u0.2.2.2.2.2.2.2.2.2.2.2.1, u0.2.2.2.2.2.2.2.2.2.2.2.2.1, u0.2.2.2.2.2.2.2.2.2.2.2.2.2.1, u0.2.2.2.2.2.2.2.2.2.2.2.2.2.2.1, u0.2.2.2.2.2.2.2.2.2.2.2.2.2.2.2.1, u0.2.2.2.2.2.2.2.2.2.2.2.2.2.2.2.2.1, u0.2.2.2.2.2.2.2.2.2.2.2.2.2.2.2.2.2.1, u0.2.2.2.2.2.2.2.2.2.2.2.2.2.2.2.2.2.2.1, u0.2.2.2.2.2.2.2.2.2.2.2.2.2.2.2.2.2.2.2.1, u0.2.2.2.2.2.2.2.2.2.2.2.2.2.2.2.2.2.2.2.2.1, u0.2.2.2.2.2.2.2.2.2.2.2.2.2.2.2.2.2.2.2.2.2) p1 _ hw) yv_X10_237 [0, 1, 2, 3, 4, 5, 6, 7, 8, 9] rfl (by decide) (ci := 10) rfl rfl 0 rfl ⟨Nat.le_of_ble_eq_true rfl, Nat.le_of_ble_eq_true rfl⟩ ⟨rfl, rfl⟩ rfl rfl (Nat.le_of_ble_eq_true rfl) ⟨Nat.le_of_ble_eq_true rfl, Nat.le_of_ble_eq_true rfl⟩ dX10_openUnits_7) hP hD hS hA [0, 1, 2, 3, 4, 5, 6, 7, 8, 9] [] [0, 1, 2, 3, 4, 5, 6, 7, 8, 9] rfl (wr := []) rfl (by decide) (by decide) (fun u => k_X10 E q0 u) (fun u => rfl) (by decide) (fun r_2 u_1 H locs hw hP hD hS => ?_)
  obtain ⟨hwt, hwf⟩ := hw
  refine lv_if_eq (tgt := 17) hx hb dX10_openUnits_10 (by decide) (fun c_3 => ?_) (fun c_3 => ?_)
  · have hw := hwt c_3
    refine lv_aload_n hx hb dX10_openUnits_17 rfl (lv_at hl 0 rfl) ?_
    refine va_get (D := zD E) (ci := 10) (v := .ref (q0 2)) (C := RX10) (T := TX10) (N := 24) hx hb hts uw_X10 hown hK hP 0 rfl rfl 8 (by decide) (hts _ wm_5_124) (fun _ h9 => h9) rfl dX10_openUnits_18 ?_
    refine lv_iload_n hx hb dX10_openUnits_21 rfl (lv_at hl 1 rfl) ?_
    refine z_ki (z_rS (rest := [.ref (q0 2)]) hZ0 C0 hK hZ hA hP hD hS hl.1 (c_X10_period l E Z hZ0 H.size p1 _ hw) yv_X10_148 [] rfl (by decide) ⟨Nat.le_of_ble_eq_true rfl, Nat.le_of_ble_eq_true rfl⟩ ⟨rfl, rfl⟩ rfl rfl (Nat.le_of_ble_eq_true rfl) ⟨Nat.le_of_ble_eq_true rfl, Nat.le_of_ble_eq_true rfl⟩ dX10_openUnits_22) hP hD hS hA [] [0, 1, 2, 3, 4, 5, 6, 7, 8, 9] [0, 1, 2, 3, 4, 5, 6, 7, 8, 9] rfl (wr := [_, _, _, _, _, _, _, _, _, _]) rfl (by decide) (by decide) (fun u => k_X10 E q0 u_1) (fun u => rfl) (by decide) (fun r_5 u_4 H locs hw hP hD hS => ?_)
    refine lv_iconst (v := 3) hx hb dX10_openUnits_25 rfl ?_
    refine lv_iadd hx hb dX10_openUnits_26 ?_
    obtain ⟨h_6, hw⟩ := hw
    refine va_iald hx hb hK hP 2 0 rfl rfl h_6 dX10_openUnits_27 ?_
    exact z_iret (k := (fun u => k_X10 E q0 u)) u_1 C0 hP hD hS hw dX10_openUnits_28
  · have hw := hwf c_3
    refine lv_iconst (v := 0) hx hb dX10_openUnits_13 rfl ?_
    refine lv_goto (tgt := 28) hx hb dX10_openUnits_14 (by decide) ?_
    exact z_iret (k := (fun u => k_X10 E q0 u)) u_1 C0 hP hD hS hw dX10_openUnits_28
abbrev r_X10_missedUnits : Room := { frames := 2, cells := 0, slots := 0, locals := 43 }
def wp_X10_missedUnits (u0 : S_X10) (p1 : Int32) (post : Int32 → S_X10 → Prop) : Prop := wp_X10_noPeriod ((0 : Int32), u0.2.1, u0.2.2.1, u0.2.2.2.1, u0.2.2.2.2.1, u0.2.2.2.2.2.1, u0.2.2.2.2.2.2.1, u0.2.2.2.2.2.2.2.1, u0.2.2.2.2.2.2.2.2.1, u0.2.2.2.2.2.2.2.2.2.1, u0.2.2.2.2.2.2.2.2.2.2.1, u0.2.2.2.2.2.2.2.2.2.2.2.1, u0.2.2.2.2.2.2.2.2.2.2.2.2.1, u0.2.2.2.2.2.2.2.2.2.2.2.2.2.1, u0.2.2.2.2.2.2.2.2.2.2.2.2.2.2.1, u0.2.2.2.2.2.2.2.2.2.2.2.2.2.2.2.1, u0.2.2.2.2.2.2.2.2.2.2.2.2.2.2.2.2.1, u0.2.2.2.2.2.2.2.2.2.2.2.2.2.2.2.2.2.1, u0.2.2.2.2.2.2.2.2.2.2.2.2.2.2.2.2.2.2.1, u0.2.2.2.2.2.2.2.2.2.2.2.2.2.2.2.2.2.2.2.1, u0.2.2.2.2.2.2.2.2.2.2.2.2.2.2.2.2.2.2.2.2.1, u0.2.2.2.2.2.2.2.2.2.2.2.2.2.2.2.2.2.2.2.2.2) p1 (fun r_2 u_1 => (r_2 = 0 → (wp_X10_period p1 (fun r_5 u_4 => vp_in (r_5 + (4 : Int32)) 1728 ∧ (post (u_1.2.2.2.2.2.2.2.2.1 (r_5 + (4 : Int32)).toNatClampNeg) u_1)))) ∧ (¬ (r_2 = 0) → (post (0 : Int32) u_1)))
set_option maxHeartbeats 4000000 in
set_option maxRecDepth 100000 in
theorem c_X10_missedUnits (l : Launch) (E : zE) (Z : zZ) (hZ0 : zSt Z) (q0 : Nat → Nat) (sz : Nat) (u0 : S_X10) (p1 : Int32) (post : Int32 → S_X10 → Prop) (hw : wp_X10_missedUnits u0 p1 post) : Met l yX10_missedUnits (zws yX10_missedUnits cX10_missedUnits 2 (some .int)) r_X10_missedUnits (va_Pc [.ref (q0 0), .int p1] (zPre Z E (k_X10 E q0 u0) sz)) (va_Qi post (zAt E (va_A (k_X10 E q0 u0) sz) (fun u => k_X10 E q0 u)) (va_A (k_X10 E q0 u0) sz)) 0 0 (va_A (k_X10 E q0 u0) sz) := by
  refine z_ofW (Qf := fun A => va_Qi post (zAt E A (fun u => k_X10 E q0 u)) A) (by decide) (Nat.le_of_ble_eq_true rfl) ?_
  intro p e s m args below meth c A ls C0 hA hK hZ hP hD hS hl
  obtain ⟨hx, hb, hml, hr, hown, hts, hlocks, hin⟩ := id C0
  have hown : s.vm.findClass RX10 = some m.cls := hown
  have hl : lv_has ls 2 [(0, .ref (q0 0)), (1, .int p1)] := hl
  refine lv_aload_n hx hb dX10_missedUnits_0 rfl (lv_at hl 0 rfl) ?_
  refine lv_iconst (v := 0) hx hb dX10_missedUnits_1 rfl ?_
  refine va_put (D := zD E) (ci := 10) (v := .int (0 : Int32)) (ty := .int) (C := RX10) (T := TX10) (N := 24) hx hb hts uw_X10 tyX10 tyX10_ok nmX10 hown hK hP hD hS 0 rfl rfl 0 (by decide) (hts _ wm_5_116) (fun _ h9 => h9) rfl (by decide +kernel) rfl rfl (Nat.le_of_ble_eq_true rfl) dX10_missedUnits_2 (fun H locs hP hD hS => ?_)
  have hP : va_P (zD E) vwCl (k_X10 E q0 ((0 : Int32), u0.2.1, u0.2.2.1, u0.2.2.2.1, u0.2.2.2.2.1, u0.2.2.2.2.2.1, u0.2.2.2.2.2.2.1, u0.2.2.2.2.2.2.2.1, u0.2.2.2.2.2.2.2.2.1, u0.2.2.2.2.2.2.2.2.2.1, u0.2.2.2.2.2.2.2.2.2.2.1, u0.2.2.2.2.2.2.2.2.2.2.2.1, u0.2.2.2.2.2.2.2.2.2.2.2.2.1, u0.2.2.2.2.2.2.2.2.2.2.2.2.2.1, u0.2.2.2.2.2.2.2.2.2.2.2.2.2.2.1, u0.2.2.2.2.2.2.2.2.2.2.2.2.2.2.2.1, u0.2.2.2.2.2.2.2.2.2.2.2.2.2.2.2.2.1, u0.2.2.2.2.2.2.2.2.2.2.2.2.2.2.2.2.2.1, u0.2.2.2.2.2.2.2.2.2.2.2.2.2.2.2.2.2.2.1, u0.2.2.2.2.2.2.2.2.2.2.2.2.2.2.2.2.2.2.2.1, u0.2.2.2.2.2.2.2.2.2.2.2.2.2.2.2.2.2.2.2.2.1, u0.2.2.2.2.2.2.2.2.2.2.2.2.2.2.2.2.2.2.2.2.2)) H := hP
  have hD : va_D A (k_X10 E q0 ((0 : Int32), u0.2.1, u0.2.2.1, u0.2.2.2.1, u0.2.2.2.2.1, u0.2.2.2.2.2.1, u0.2.2.2.2.2.2.1, u0.2.2.2.2.2.2.2.1, u0.2.2.2.2.2.2.2.2.1, u0.2.2.2.2.2.2.2.2.2.1, u0.2.2.2.2.2.2.2.2.2.2.1, u0.2.2.2.2.2.2.2.2.2.2.2.1, u0.2.2.2.2.2.2.2.2.2.2.2.2.1, u0.2.2.2.2.2.2.2.2.2.2.2.2.2.1, u0.2.2.2.2.2.2.2.2.2.2.2.2.2.2.1, u0.2.2.2.2.2.2.2.2.2.2.2.2.2.2.2.1, u0.2.2.2.2.2.2.2.2.2.2.2.2.2.2.2.2.1, u0.2.2.2.2.2.2.2.2.2.2.2.2.2.2.2.2.2.1, u0.2.2.2.2.2.2.2.2.2.2.2.2.2.2.2.2.2.2.1, u0.2.2.2.2.2.2.2.2.2.2.2.2.2.2.2.2.2.2.2.1, u0.2.2.2.2.2.2.2.2.2.2.2.2.2.2.2.2.2.2.2.2.1, u0.2.2.2.2.2.2.2.2.2.2.2.2.2.2.2.2.2.2.2.2.2)) := hD
  refine lv_aload_n hx hb dX10_missedUnits_5 rfl (lv_at hl 0 rfl) ?_
  refine lv_iload_n hx hb dX10_missedUnits_6 rfl (lv_at hl 1 rfl) ?_
  refine z_ki (z_rV (rest := []) hZ0 C0 hK hZ hA hP hD hS hl.1 (c_X10_noPeriod l E Z hZ0 q0 H.size ((0 : Int32), u0.2.1, u0.2.2.1, u0.2.2.2.1, u0.2.2.2.2.1, u0.2.2.2.2.2.1, u0.2.2.2.2.2.2.1, u0.2.2.2.2.2.2.2.1, u0.2.2.2.2.2.2.2.2.1, u0.2.2.2.2.2.2.2.2.2.1, u0.2.2.2.2.2.2.2.2.2.2.1, u0.2.2.2.2.2.2.2.2.2.2.2.1, u0.2.2.2.2.2.2.2.2.2.2.2.2.1, u0.2.2.2.2.2.2.2.2.2.2.2.2.2.1, u0.2.2.2.2.2.2.2.2.2.2.2.2.2.2.1, u0.2.2.2.2.2.2.2.2.2.2.2.2.2.2.2.1, u0.2.2.2.2.2.2.2.2.2.2.2.2.2.2.2.2.1, u0.2.2.2.2.2.2.2.2.2.2.2.2.2.2.2.2.2.1, u0.2.2.2.2.2.2.2.2.2.2.2.2.2.2.2.2.2.2.1, u0.2.2.2.2.2.2.2.2.2.2.2.2.2.2.2.2.2.2.2.1, u0.2.2.2.2.2.2.2.2.2.2.2.2.2.2.2.2.2.2.2.2.1, u0.2.2.2.2.2.2.2.2.2.2.2.2.2.2.2.2.2.2.2.2.2) p1 _ hw) yv_X10_237 [0, 1, 2, 3, 4, 5, 6, 7, 8, 9] rfl (by decide) (ci := 10) rfl rfl 0 rfl ⟨Nat.le_of_ble_eq_true rfl, Nat.le_of_ble_eq_true rfl⟩ ⟨rfl, rfl⟩ rfl rfl (Nat.le_of_ble_eq_true rfl) ⟨Nat.le_of_ble_eq_true rfl, Nat.le_of_ble_eq_true rfl⟩ dX10_missedUnits_7) hP hD hS hA [0, 1, 2, 3, 4, 5, 6, 7, 8, 9] [] [0, 1, 2, 3, 4, 5, 6, 7, 8, 9] rfl (wr := []) rfl (by decide) (by decide) (fun u => k_X10 E q0 u) (fun u => rfl) (by decide) (fun r_2 u_1 H locs hw hP hD hS => ?_)
  obtain ⟨hwt, hwf⟩ := hw
  refine lv_if_eq (tgt := 17) hx hb dX10_missedUnits_10 (by decide) (fun c_3 => ?_) (fun c_3 => ?_)
  · have hw := hwt c_3
    refine lv_aload_n hx hb dX10_missedUnits_17 rfl (lv_at hl 0 rfl) ?_
    refine va_get (D := zD E) (ci := 10) (v := .ref (q0 2)) (C := RX10) (T := TX10) (N := 24) hx hb hts uw_X10 hown hK hP 0 rfl rfl 8 (by decide) (hts _ wm_5_124) (fun _ h9 => h9) rfl dX10_missedUnits_18 ?_
    refine lv_iload_n hx hb dX10_missedUnits_21 rfl (lv_at hl 1 rfl) ?_
    refine z_ki (z_rS (rest := [.ref (q0 2)]) hZ0 C0 hK hZ hA hP hD hS hl.1 (c_X10_period l E Z hZ0 H.size p1 _ hw) yv_X10_148 [] rfl (by decide) ⟨Nat.le_of_ble_eq_true rfl, Nat.le_of_ble_eq_true rfl⟩ ⟨rfl, rfl⟩ rfl rfl (Nat.le_of_ble_eq_true rfl) ⟨Nat.le_of_ble_eq_true rfl, Nat.le_of_ble_eq_true rfl⟩ dX10_missedUnits_22) hP hD hS hA [] [0, 1, 2, 3, 4, 5, 6, 7, 8, 9] [0, 1, 2, 3, 4, 5, 6, 7, 8, 9] rfl (wr := [_, _, _, _, _, _, _, _, _, _]) rfl (by decide) (by decide) (fun u => k_X10 E q0 u_1) (fun u => rfl) (by decide) (fun r_5 u_4 H locs hw hP hD hS => ?_)
    refine lv_iconst (v := 4) hx hb dX10_missedUnits_25 rfl ?_
    refine lv_iadd hx hb dX10_missedUnits_26 ?_
    obtain ⟨h_6, hw⟩ := hw
    refine va_iald hx hb hK hP 2 0 rfl rfl h_6 dX10_missedUnits_27 ?_
    exact z_iret (k := (fun u => k_X10 E q0 u)) u_1 C0 hP hD hS hw dX10_missedUnits_28
  · have hw := hwf c_3
    refine lv_iconst (v := 0) hx hb dX10_missedUnits_13 rfl ?_
    refine lv_goto (tgt := 28) hx hb dX10_missedUnits_14 (by decide) ?_
    exact z_iret (k := (fun u => k_X10 E q0 u)) u_1 C0 hP hD hS hw dX10_missedUnits_28
abbrev r_X10_invoice : Room := { frames := 2, cells := 0, slots := 0, locals := 43 }
def wp_X10_invoice (u0 : S_X10) (p1 : Int32) (post : Int64 → S_X10 → Prop) : Prop := wp_X10_noPeriod ((0 : Int32), u0.2.1, u0.2.2.1, u0.2.2.2.1, u0.2.2.2.2.1, u0.2.2.2.2.2.1, u0.2.2.2.2.2.2.1, u0.2.2.2.2.2.2.2.1, u0.2.2.2.2.2.2.2.2.1, u0.2.2.2.2.2.2.2.2.2.1, u0.2.2.2.2.2.2.2.2.2.2.1, u0.2.2.2.2.2.2.2.2.2.2.2.1, u0.2.2.2.2.2.2.2.2.2.2.2.2.1, u0.2.2.2.2.2.2.2.2.2.2.2.2.2.1, u0.2.2.2.2.2.2.2.2.2.2.2.2.2.2.1, u0.2.2.2.2.2.2.2.2.2.2.2.2.2.2.2.1, u0.2.2.2.2.2.2.2.2.2.2.2.2.2.2.2.2.1, u0.2.2.2.2.2.2.2.2.2.2.2.2.2.2.2.2.2.1, u0.2.2.2.2.2.2.2.2.2.2.2.2.2.2.2.2.2.2.1, u0.2.2.2.2.2.2.2.2.2.2.2.2.2.2.2.2.2.2.2.1, u0.2.2.2.2.2.2.2.2.2.2.2.2.2.2.2.2.2.2.2.2.1, u0.2.2.2.2.2.2.2.2.2.2.2.2.2.2.2.2.2.2.2.2.2) p1 (fun r_2 u_1 => (r_2 = 0 → (vp_in p1 40 ∧ (post (u_1.2.2.2.2.2.2.2.2.2.2.2.1 p1.toNatClampNeg) u_1))) ∧ (¬ (r_2 = 0) → (post (0 : Int64) u_1)))
set_option maxHeartbeats 4000000 in
set_option maxRecDepth 100000 in
theorem c_X10_invoice (l : Launch) (E : zE) (Z : zZ) (hZ0 : zSt Z) (q0 : Nat → Nat) (sz : Nat) (u0 : S_X10) (p1 : Int32) (post : Int64 → S_X10 → Prop) (hw : wp_X10_invoice u0 p1 post) : Met l yX10_invoice (zws yX10_invoice cX10_invoice 2 (some .long)) r_X10_invoice (va_Pc [.ref (q0 0), .int p1] (zPre Z E (k_X10 E q0 u0) sz)) (va_Ql post (zAt E (va_A (k_X10 E q0 u0) sz) (fun u => k_X10 E q0 u)) (va_A (k_X10 E q0 u0) sz)) 0 0 (va_A (k_X10 E q0 u0) sz) := by
  refine z_ofW (Qf := fun A => va_Ql post (zAt E A (fun u => k_X10 E q0 u)) A) (by decide) (Nat.le_of_ble_eq_true rfl) ?_
  intro p e s m args below meth c A ls C0 hA hK hZ hP hD hS hl
  obtain ⟨hx, hb, hml, hr, hown, hts, hlocks, hin⟩ := id C0
  have hown : s.vm.findClass RX10 = some m.cls := hown
  have hl : lv_has ls 2 [(0, .ref (q0 0)), (1, .int p1)] := hl
  refine lv_aload_n hx hb dX10_invoice_0 rfl (lv_at hl 0 rfl) ?_
  refine lv_iconst (v := 0) hx hb dX10_invoice_1 rfl ?_
  refine va_put (D := zD E) (ci := 10) (v := .int (0 : Int32)) (ty := .int) (C := RX10) (T := TX10) (N := 24) hx hb hts uw_X10 tyX10 tyX10_ok nmX10 hown hK hP hD hS 0 rfl rfl 0 (by decide) (hts _ wm_5_116) (fun _ h9 => h9) rfl (by decide +kernel) rfl rfl (Nat.le_of_ble_eq_true rfl) dX10_invoice_2 (fun H locs hP hD hS => ?_)
  have hP : va_P (zD E) vwCl (k_X10 E q0 ((0 : Int32), u0.2.1, u0.2.2.1, u0.2.2.2.1, u0.2.2.2.2.1, u0.2.2.2.2.2.1, u0.2.2.2.2.2.2.1, u0.2.2.2.2.2.2.2.1, u0.2.2.2.2.2.2.2.2.1, u0.2.2.2.2.2.2.2.2.2.1, u0.2.2.2.2.2.2.2.2.2.2.1, u0.2.2.2.2.2.2.2.2.2.2.2.1, u0.2.2.2.2.2.2.2.2.2.2.2.2.1, u0.2.2.2.2.2.2.2.2.2.2.2.2.2.1, u0.2.2.2.2.2.2.2.2.2.2.2.2.2.2.1, u0.2.2.2.2.2.2.2.2.2.2.2.2.2.2.2.1, u0.2.2.2.2.2.2.2.2.2.2.2.2.2.2.2.2.1, u0.2.2.2.2.2.2.2.2.2.2.2.2.2.2.2.2.2.1, u0.2.2.2.2.2.2.2.2.2.2.2.2.2.2.2.2.2.2.1, u0.2.2.2.2.2.2.2.2.2.2.2.2.2.2.2.2.2.2.2.1, u0.2.2.2.2.2.2.2.2.2.2.2.2.2.2.2.2.2.2.2.2.1, u0.2.2.2.2.2.2.2.2.2.2.2.2.2.2.2.2.2.2.2.2.2)) H := hP
  have hD : va_D A (k_X10 E q0 ((0 : Int32), u0.2.1, u0.2.2.1, u0.2.2.2.1, u0.2.2.2.2.1, u0.2.2.2.2.2.1, u0.2.2.2.2.2.2.1, u0.2.2.2.2.2.2.2.1, u0.2.2.2.2.2.2.2.2.1, u0.2.2.2.2.2.2.2.2.2.1, u0.2.2.2.2.2.2.2.2.2.2.1, u0.2.2.2.2.2.2.2.2.2.2.2.1, u0.2.2.2.2.2.2.2.2.2.2.2.2.1, u0.2.2.2.2.2.2.2.2.2.2.2.2.2.1, u0.2.2.2.2.2.2.2.2.2.2.2.2.2.2.1, u0.2.2.2.2.2.2.2.2.2.2.2.2.2.2.2.1, u0.2.2.2.2.2.2.2.2.2.2.2.2.2.2.2.2.1, u0.2.2.2.2.2.2.2.2.2.2.2.2.2.2.2.2.2.1, u0.2.2.2.2.2.2.2.2.2.2.2.2.2.2.2.2.2.2.1, u0.2.2.2.2.2.2.2.2.2.2.2.2.2.2.2.2.2.2.2.1, u0.2.2.2.2.2.2.2.2.2.2.2.2.2.2.2.2.2.2.2.2.1, u0.2.2.2.2.2.2.2.2.2.2.2.2.2.2.2.2.2.2.2.2.2)) := hD
  refine lv_aload_n hx hb dX10_invoice_5 rfl (lv_at hl 0 rfl) ?_
  refine lv_iload_n hx hb dX10_invoice_6 rfl (lv_at hl 1 rfl) ?_
  refine z_ki (z_rV (rest := []) hZ0 C0 hK hZ hA hP hD hS hl.1 (c_X10_noPeriod l E Z hZ0 q0 H.size ((0 : Int32), u0.2.1, u0.2.2.1, u0.2.2.2.1, u0.2.2.2.2.1, u0.2.2.2.2.2.1, u0.2.2.2.2.2.2.1, u0.2.2.2.2.2.2.2.1, u0.2.2.2.2.2.2.2.2.1, u0.2.2.2.2.2.2.2.2.2.1, u0.2.2.2.2.2.2.2.2.2.2.1, u0.2.2.2.2.2.2.2.2.2.2.2.1, u0.2.2.2.2.2.2.2.2.2.2.2.2.1, u0.2.2.2.2.2.2.2.2.2.2.2.2.2.1, u0.2.2.2.2.2.2.2.2.2.2.2.2.2.2.1, u0.2.2.2.2.2.2.2.2.2.2.2.2.2.2.2.1, u0.2.2.2.2.2.2.2.2.2.2.2.2.2.2.2.2.1, u0.2.2.2.2.2.2.2.2.2.2.2.2.2.2.2.2.2.1, u0.2.2.2.2.2.2.2.2.2.2.2.2.2.2.2.2.2.2.1, u0.2.2.2.2.2.2.2.2.2.2.2.2.2.2.2.2.2.2.2.1, u0.2.2.2.2.2.2.2.2.2.2.2.2.2.2.2.2.2.2.2.2.1, u0.2.2.2.2.2.2.2.2.2.2.2.2.2.2.2.2.2.2.2.2.2) p1 _ hw) yv_X10_237 [0, 1, 2, 3, 4, 5, 6, 7, 8, 9] rfl (by decide) (ci := 10) rfl rfl 0 rfl ⟨Nat.le_of_ble_eq_true rfl, Nat.le_of_ble_eq_true rfl⟩ ⟨rfl, rfl⟩ rfl rfl (Nat.le_of_ble_eq_true rfl) ⟨Nat.le_of_ble_eq_true rfl, Nat.le_of_ble_eq_true rfl⟩ dX10_invoice_7) hP hD hS hA [0, 1, 2, 3, 4, 5, 6, 7, 8, 9] [] [0, 1, 2, 3, 4, 5, 6, 7, 8, 9] rfl (wr := []) rfl (by decide) (by decide) (fun u => k_X10 E q0 u) (fun u => rfl) (by decide) (fun r_2 u_1 H locs hw hP hD hS => ?_)
  obtain ⟨hwt, hwf⟩ := hw
  refine lv_if_eq (tgt := 17) hx hb dX10_invoice_10 (by decide) (fun c_3 => ?_) (fun c_3 => ?_)
  · have hw := hwt c_3
    refine lv_aload_n hx hb dX10_invoice_17 rfl (lv_at hl 0 rfl) ?_
    refine va_get (D := zD E) (ci := 10) (v := .ref (q0 6)) (C := RX10) (T := TX10) (N := 24) hx hb hts uw_X10 hown hK hP 0 rfl rfl 12 (by decide) (hts _ wm_5_128) (fun _ h9 => h9) rfl dX10_invoice_18 ?_
    refine lv_iload_n hx hb dX10_invoice_21 rfl (lv_at hl 1 rfl) ?_
    obtain ⟨h_4, hw⟩ := hw
    refine va_lald hx hb hK hP 5 1 rfl rfl h_4 dX10_invoice_22 ?_
    exact z_lret (k := (fun u => k_X10 E q0 u)) u_1 C0 hP hD hS hw dX10_invoice_23
  · have hw := hwf c_3
    refine lv_lconst (v := 0) hx hb dX10_invoice_13 rfl ?_
    refine lv_goto (tgt := 23) hx hb dX10_invoice_14 (by decide) ?_
    exact z_lret (k := (fun u => k_X10 E q0 u)) u_1 C0 hP hD hS hw dX10_invoice_23
abbrev r_X10_balanceNow : Room := { frames := 1, cells := 0, slots := 0, locals := 20 }
def j_X10_balanceNow_74 (K31 : (Int64 × Int32 × S_X10) → Prop) (x3 : Int32) (y0 : Int64) (y1 : Int64) (u0 : S_X10) (post : Int64 → S_X10 → Prop) : Prop := ∀ x_13 : Int64, x_13 = (y1 + y0) → (∀ x_14 : Int32, x_14 = x3 + 1 → (K31 (x_13, x_14, u0)))
def j_X10_balanceNow_31 (K31 : (Int64 × Int32 × S_X10) → Prop) (x1 : Int64) (x3 : Int32) (u0 : S_X10) (post : Int64 → S_X10 → Prop) : Prop := ((u0.2.2.2.2.2.2.2.2.1 12) ≤ x3 → (post x1 u0)) ∧ (¬ ((u0.2.2.2.2.2.2.2.2.1 12) ≤ x3) → (wp_X10_breach x3 (fun r_7 u_6 => vp_in (r_7 + (3 : Int32)) 1728 ∧ ((¬ ((u0.2.2.2.2.2.2.2.2.1 (r_7 + (3 : Int32)).toNatClampNeg) = (1 : Int32)) → (wp_X10_breach x3 (fun r_11 u_10 => vp_in (r_11 + (2 : Int32)) 1728 ∧ (j_X10_balanceNow_74 K31 x3 ((u0.2.2.2.2.2.2.2.2.1 (r_11 + (2 : Int32)).toNatClampNeg).toInt64) x1 u0 post)))) ∧ ((u0.2.2.2.2.2.2.2.2.1 (r_7 + (3 : Int32)).toNatClampNeg) = (1 : Int32) → (j_X10_balanceNow_74 K31 x3 (0 : Int64) x1 u0 post))))))
def j_X10_balanceNow_4 (K4 : (Int64 × Int32 × S_X10) → Prop) (x1 : Int64) (x3 : Int32) (u0 : S_X10) (post : Int64 → S_X10 → Prop) : Prop := ((u0.2.2.2.2.2.2.2.2.1 0) ≤ x3 → (∃ n, zl (fun K st => j_X10_balanceNow_31 K st.1 st.2.1 st.2.2 post) n (x1, (0 : Int32), u0))) ∧ (¬ ((u0.2.2.2.2.2.2.2.2.1 0) ≤ x3) → (vp_in x3 40 ∧ (∀ x_3 : Int64, x_3 = (x1 + (u0.2.2.2.2.2.2.2.2.2.2.2.1 x3.toNatClampNeg)) → (∀ x_4 : Int32, x_4 = x3 + 1 → (K4 (x_3, x_4, u0))))))
def wp_X10_balanceNow (u0 : S_X10) (post : Int64 → S_X10 → Prop) : Prop := ∃ n, zl (fun K st => j_X10_balanceNow_4 K st.1 st.2.1 st.2.2 post) n ((0 : Int64), (0 : Int32), u0)
set_option maxHeartbeats 4000000 in
set_option maxRecDepth 100000 in
theorem t_X10_balanceNow_74 {p : Program} {l : Launch} {e : Env} {s : State} {m : MethodId} {args : Array Value} {below : List Frame} {meth : Method} {c : Code} {Z : zZ} {E : zE} {A : Nat → Prop} {q0 : Nat → Nat} (hZ0 : zSt Z) (C0 : zC p s m args meth c yX10_balanceNow cX10_balanceNow 4 (some .long)) (hA : ∀ q : Nat, s.heap.size ≤ q → A q) (hK : va_K (zD E) vwCl (zT E) s) (hZ : Z A s s.heap) (post : Int64 → S_X10 → Prop) {K31 : (Int64 × Int32 × S_X10) → Prop} (hk_31 : ∀ (x1 : Int64) (x3 : Int32) (u0 : S_X10) (H : Heap) (locs : List Loc) (ls : Array Slot), K31 (x1, x3, u0) → va_P (zD E) vwCl (k_X10 E q0 u0) H → va_D A (k_X10 E q0 u0) → va_S A s.heap H locs → lv_has ls 4 [(0, .ref (q0 0)), (1, .long x1), (3, .int x3)] → W p l e r_X10_balanceNow s m args below meth c H locs 0 0 (MQ below (va_Ql post (zAt E A (fun u => k_X10 E q0 u)) A) args s 0 0 A) (F0 m 31 ls [])) : ∀ (x3 : Int32) (y0 : Int64) (y1 : Int64) (u0 : S_X10) (H : Heap) (locs : List Loc) (ls : Array Slot), j_X10_balanceNow_74 K31 x3 y0 y1 u0 post → va_P (zD E) vwCl (k_X10 E q0 u0) H → va_D A (k_X10 E q0 u0) → va_S A s.heap H locs → lv_has ls 4 [(0, .ref (q0 0)), (3, .int x3)] → W p l e r_X10_balanceNow s m args below meth c H locs 0 0 (MQ below (va_Ql post (zAt E A (fun u => k_X10 E q0 u)) A) args s 0 0 A) (F0 m 74 ls [.long y0, .long y1]) := by
  obtain ⟨hx, hb, hml, hr, hown, hts, hlocks, hin⟩ := id C0
  have hown : s.vm.findClass RX10 = some m.cls := hown
  intro x3 y0 y1 u0 H locs ls hw hP hD hS hl
  refine lv_ladd hx hb dX10_balanceNow_74 ?_
  refine lv_topl (fun x_13 ex_13 => ?_)
  have hw := hw x_13 ex_13
  refine lv_lstore_n (lv' := [(1, .long x_13), (0, .ref (q0 0)), (3, .int x3)]) hx hb dX10_balanceNow_75 rfl hl (by decide) rfl (fun ls hl => ?_)
  obtain ⟨x_14, ex_14⟩ : ∃ y : Int32, y = x3 + 1 := ⟨_, rfl⟩
  have hw := hw x_14 ex_14
  refine lv_iinc (v := x_14) (lv' := [(3, .int x_14), (1, .long x_13), (0, .ref (q0 0))]) hx hb dX10_balanceNow_76 hl (k := 2) rfl (by rw [ex_14]; rfl) (by decide) rfl (fun ls hl => ?_)
  refine lv_goto (tgt := 31) hx hb dX10_balanceNow_79 (by decide) ?_
  exact hk_31 x_13 x_14 u0 _ _ _ hw hP hD hS (lv_sub hl [2, 1, 0] rfl)
set_option maxHeartbeats 4000000 in
set_option maxRecDepth 100000 in
theorem t_X10_balanceNow_31 {p : Program} {l : Launch} {e : Env} {s : State} {m : MethodId} {args : Array Value} {below : List Frame} {meth : Method} {c : Code} {Z : zZ} {E : zE} {A : Nat → Prop} {q0 : Nat → Nat} (hZ0 : zSt Z) (C0 : zC p s m args meth c yX10_balanceNow cX10_balanceNow 4 (some .long)) (hA : ∀ q : Nat, s.heap.size ≤ q → A q) (hK : va_K (zD E) vwCl (zT E) s) (hZ : Z A s s.heap) (post : Int64 → S_X10 → Prop) : ∀ (n : Nat) (x1 : Int64) (x3 : Int32) (u0 : S_X10) (H : Heap) (locs : List Loc) (ls : Array Slot), zl (fun K st => j_X10_balanceNow_31 K st.1 st.2.1 st.2.2 post) n (x1, x3, u0) → va_P (zD E) vwCl (k_X10 E q0 u0) H → va_D A (k_X10 E q0 u0) → va_S A s.heap H locs → lv_has ls 4 [(0, .ref (q0 0)), (1, .long x1), (3, .int x3)] → W p l e r_X10_balanceNow s m args below meth c H locs 0 0 (MQ below (va_Ql post (zAt E A (fun u => k_X10 E q0 u)) A) args s 0 0 A) (F0 m 31 ls []) := by
  obtain ⟨hx, hb, hml, hr, hown, hts, hlocks, hin⟩ := id C0
  have hown : s.vm.findClass RX10 = some m.cls := hown
  intro n
  induction n with
  | zero => intro x1 x3 u0 H locs ls hw; exact hw.elim
  | succ n hk_31 =>
    intro x1 x3 u0 H locs ls hw hP hD hS hl
    have hw : j_X10_balanceNow_31 _ x1 x3 u0 post := hw
    refine lv_iload_n hx hb dX10_balanceNow_31 rfl (lv_at hl 2 rfl) ?_
    refine lv_aload_n hx hb dX10_balanceNow_32 rfl (lv_at hl 0 rfl) ?_
    refine va_get (D := zD E) (ci := 10) (v := .ref (q0 2)) (C := RX10) (T := TX10) (N := 24) hx hb hts uw_X10 hown hK hP 0 rfl rfl 8 (by decide) (hts _ wm_5_124) (fun _ h9 => h9) rfl dX10_balanceNow_33 ?_
    refine lv_bipush (v := 12) hx hb dX10_balanceNow_36 rfl ?_
    refine va_iald hx hb hK hP 2 0 rfl rfl (show ¬ ((12 : Int32) < 0 ∨ 1728 ≤ (12 : Int32).toNatClampNeg) by decide) dX10_balanceNow_38 ?_
    refine W.eq (g2 := F0 m 39 ls ([.int (u0.2.2.2.2.2.2.2.2.1 12), .int x3])) rfl ?_
    obtain ⟨hwt, hwf⟩ := hw
    refine lv_icmp_ge (tgt := 82) hx hb dX10_balanceNow_39 (by decide) (fun c_5 => ?_) (fun c_5 => ?_)
    · have hw := hwt c_5
      refine lv_lload_n hx hb dX10_balanceNow_82 rfl (lv_at hl 1 rfl) ?_
      exact z_lret (k := (fun u => k_X10 E q0 u)) u0 C0 hP hD hS hw dX10_balanceNow_83
    · have hw := hwf c_5
      refine lv_lload_n hx hb dX10_balanceNow_42 rfl (lv_at hl 1 rfl) ?_
      refine lv_aload_n hx hb dX10_balanceNow_43 rfl (lv_at hl 0 rfl) ?_
      refine va_get (D := zD E) (ci := 10) (v := .ref (q0 2)) (C := RX10) (T := TX10) (N := 24) hx hb hts uw_X10 hown hK hP 0 rfl rfl 8 (by decide) (hts _ wm_5_124) (fun _ h9 => h9) rfl dX10_balanceNow_44 ?_
      refine lv_iload_n hx hb dX10_balanceNow_47 rfl (lv_at hl 2 rfl) ?_
      refine z_ki (z_rS (rest := [.ref (q0 2), .long x1]) hZ0 C0 hK hZ hA hP hD hS hl.1 (c_X10_breach l E Z hZ0 H.size x3 _ hw) yv_X10_220 [] rfl (by decide) ⟨Nat.le_of_ble_eq_true rfl, Nat.le_of_ble_eq_true rfl⟩ ⟨rfl, rfl⟩ rfl rfl (Nat.le_of_ble_eq_true rfl) ⟨Nat.le_of_ble_eq_true rfl, Nat.le_of_ble_eq_true rfl⟩ dX10_balanceNow_48) hP hD hS hA [] [0, 1, 2, 3, 4, 5, 6, 7, 8, 9] [0, 1, 2, 3, 4, 5, 6, 7, 8, 9] rfl (wr := [_, _, _, _, _, _, _, _, _, _]) rfl (by decide) (by decide) (fun u => k_X10 E q0 u0) (fun u => rfl) (by decide) (fun r_7 u_6 H locs hw hP hD hS => ?_)
      refine lv_iconst (v := 3) hx hb dX10_balanceNow_51 rfl ?_
      refine lv_iadd hx hb dX10_balanceNow_52 ?_
      obtain ⟨h_8, hw⟩ := hw
      refine va_iald hx hb hK hP 2 0 rfl rfl h_8 dX10_balanceNow_53 ?_
      refine lv_iconst (v := 1) hx hb dX10_balanceNow_54 rfl ?_
      obtain ⟨hwt, hwf⟩ := hw
      refine lv_icmp_ne (tgt := 62) hx hb dX10_balanceNow_55 (by decide) (fun c_9 => ?_) (fun c_9 => ?_)
      · have hw := hwt c_9
        refine lv_aload_n hx hb dX10_balanceNow_62 rfl (lv_at hl 0 rfl) ?_
        refine va_get (D := zD E) (ci := 10) (v := .ref (q0 2)) (C := RX10) (T := TX10) (N := 24) hx hb hts uw_X10 hown hK hP 0 rfl rfl 8 (by decide) (hts _ wm_5_124) (fun _ h9 => h9) rfl dX10_balanceNow_63 ?_
        refine lv_iload_n hx hb dX10_balanceNow_66 rfl (lv_at hl 2 rfl) ?_
        refine z_ki (z_rS (rest := [.ref (q0 2), .long x1]) hZ0 C0 hK hZ hA hP hD hS hl.1 (c_X10_breach l E Z hZ0 H.size x3 _ hw) yv_X10_220 [] rfl (by decide) ⟨Nat.le_of_ble_eq_true rfl, Nat.le_of_ble_eq_true rfl⟩ ⟨rfl, rfl⟩ rfl rfl (Nat.le_of_ble_eq_true rfl) ⟨Nat.le_of_ble_eq_true rfl, Nat.le_of_ble_eq_true rfl⟩ dX10_balanceNow_67) hP hD hS hA [] [0, 1, 2, 3, 4, 5, 6, 7, 8, 9] [0, 1, 2, 3, 4, 5, 6, 7, 8, 9] rfl (wr := [_, _, _, _, _, _, _, _, _, _]) rfl (by decide) (by decide) (fun u => k_X10 E q0 u0) (fun u => rfl) (by decide) (fun r_11 u_10 H locs hw hP hD hS => ?_)
        refine lv_iconst (v := 2) hx hb dX10_balanceNow_70 rfl ?_
        refine lv_iadd hx hb dX10_balanceNow_71 ?_
        obtain ⟨h_12, hw⟩ := hw
        refine va_iald hx hb hK hP 2 0 rfl rfl h_12 dX10_balanceNow_72 ?_
        refine lv_i2l hx hb dX10_balanceNow_73 rfl ?_
        exact t_X10_balanceNow_74 (l := l) hZ0 C0 hA hK hZ post hk_31 x3 ((u0.2.2.2.2.2.2.2.2.1 (r_11 + (2 : Int32)).toNatClampNeg).toInt64) x1 u0 _ _ _ hw hP hD hS (lv_sub hl [0, 2] rfl)
      · have hw := hwf c_9
        refine lv_lconst (v := 0) hx hb dX10_balanceNow_58 rfl ?_
        refine lv_goto (tgt := 74) hx hb dX10_balanceNow_59 (by decide) ?_
        exact t_X10_balanceNow_74 (l := l) hZ0 C0 hA hK hZ post hk_31 x3 (0 : Int64) x1 u0 _ _ _ hw hP hD hS (lv_sub hl [0, 2] rfl)
set_option maxHeartbeats 4000000 in
set_option maxRecDepth 100000 in
theorem t_X10_balanceNow_4 {p : Program} {l : Launch} {e : Env} {s : State} {m : MethodId} {args : Array Value} {below : List Frame} {meth : Method} {c : Code} {Z : zZ} {E : zE} {A : Nat → Prop} {q0 : Nat → Nat} (hZ0 : zSt Z) (C0 : zC p s m args meth c yX10_balanceNow cX10_balanceNow 4 (some .long)) (hA : ∀ q : Nat, s.heap.size ≤ q → A q) (hK : va_K (zD E) vwCl (zT E) s) (hZ : Z A s s.heap) (post : Int64 → S_X10 → Prop) : ∀ (n : Nat) (x1 : Int64) (x3 : Int32) (u0 : S_X10) (H : Heap) (locs : List Loc) (ls : Array Slot), zl (fun K st => j_X10_balanceNow_4 K st.1 st.2.1 st.2.2 post) n (x1, x3, u0) → va_P (zD E) vwCl (k_X10 E q0 u0) H → va_D A (k_X10 E q0 u0) → va_S A s.heap H locs → lv_has ls 4 [(0, .ref (q0 0)), (1, .long x1), (3, .int x3)] → W p l e r_X10_balanceNow s m args below meth c H locs 0 0 (MQ below (va_Ql post (zAt E A (fun u => k_X10 E q0 u)) A) args s 0 0 A) (F0 m 4 ls []) := by
  obtain ⟨hx, hb, hml, hr, hown, hts, hlocks, hin⟩ := id C0
  have hown : s.vm.findClass RX10 = some m.cls := hown
  intro n
  induction n with
  | zero => intro x1 x3 u0 H locs ls hw; exact hw.elim
  | succ n hk_4 =>
    intro x1 x3 u0 H locs ls hw hP hD hS hl
    have hw : j_X10_balanceNow_4 _ x1 x3 u0 post := hw
    refine lv_iload_n hx hb dX10_balanceNow_4 rfl (lv_at hl 2 rfl) ?_
    refine lv_aload_n hx hb dX10_balanceNow_5 rfl (lv_at hl 0 rfl) ?_
    refine va_get (D := zD E) (ci := 10) (v := .ref (q0 2)) (C := RX10) (T := TX10) (N := 24) hx hb hts uw_X10 hown hK hP 0 rfl rfl 8 (by decide) (hts _ wm_5_124) (fun _ h9 => h9) rfl dX10_balanceNow_6 ?_
    refine lv_iconst (v := 0) hx hb dX10_balanceNow_9 rfl ?_
    refine va_iald hx hb hK hP 2 0 rfl rfl (show ¬ ((0 : Int32) < 0 ∨ 1728 ≤ (0 : Int32).toNatClampNeg) by decide) dX10_balanceNow_10 ?_
    refine W.eq (g2 := F0 m 11 ls ([.int (u0.2.2.2.2.2.2.2.2.1 0), .int x3])) rfl ?_
    obtain ⟨hwt, hwf⟩ := hw
    refine lv_icmp_ge (tgt := 29) hx hb dX10_balanceNow_11 (by decide) (fun c_1 => ?_) (fun c_1 => ?_)
    · have hw := hwt c_1
      refine lv_iconst (v := 0) hx hb dX10_balanceNow_29 rfl ?_
      refine lv_istore_n (lv' := [(3, .int (0 : Int32)), (0, .ref (q0 0)), (1, .long x1)]) hx hb dX10_balanceNow_30 rfl hl (by decide) rfl (fun ls hl => ?_)
      obtain ⟨n9, hw⟩ := hw
      exact t_X10_balanceNow_31 (l := l) hZ0 C0 hA hK hZ post n9 x1 (0 : Int32) u0 _ _ _ hw hP hD hS (lv_sub hl [1, 2, 0] rfl)
    · have hw := hwf c_1
      refine lv_lload_n hx hb dX10_balanceNow_14 rfl (lv_at hl 1 rfl) ?_
      refine lv_aload_n hx hb dX10_balanceNow_15 rfl (lv_at hl 0 rfl) ?_
      refine va_get (D := zD E) (ci := 10) (v := .ref (q0 6)) (C := RX10) (T := TX10) (N := 24) hx hb hts uw_X10 hown hK hP 0 rfl rfl 12 (by decide) (hts _ wm_5_128) (fun _ h9 => h9) rfl dX10_balanceNow_16 ?_
      refine lv_iload_n hx hb dX10_balanceNow_19 rfl (lv_at hl 2 rfl) ?_
      obtain ⟨h_2, hw⟩ := hw
      refine va_lald hx hb hK hP 5 1 rfl rfl h_2 dX10_balanceNow_20 ?_
      refine lv_ladd hx hb dX10_balanceNow_21 ?_
      refine lv_topl (fun x_3 ex_3 => ?_)
      have hw := hw x_3 ex_3
      refine lv_lstore_n (lv' := [(1, .long x_3), (0, .ref (q0 0)), (3, .int x3)]) hx hb dX10_balanceNow_22 rfl hl (by decide) rfl (fun ls hl => ?_)
      obtain ⟨x_4, ex_4⟩ : ∃ y : Int32, y = x3 + 1 := ⟨_, rfl⟩
      have hw := hw x_4 ex_4
      refine lv_iinc (v := x_4) (lv' := [(3, .int x_4), (1, .long x_3), (0, .ref (q0 0))]) hx hb dX10_balanceNow_23 hl (k := 2) rfl (by rw [ex_4]; rfl) (by decide) rfl (fun ls hl => ?_)
      refine lv_goto (tgt := 4) hx hb dX10_balanceNow_26 (by decide) ?_
      exact hk_4 x_3 x_4 u0 _ _ _ hw hP hD hS (lv_sub hl [2, 1, 0] rfl)
set_option maxHeartbeats 4000000 in
set_option maxRecDepth 100000 in
theorem c_X10_balanceNow (l : Launch) (E : zE) (Z : zZ) (hZ0 : zSt Z) (q0 : Nat → Nat) (sz : Nat) (u0 : S_X10) (post : Int64 → S_X10 → Prop) (hw : wp_X10_balanceNow u0 post) : Met l yX10_balanceNow (zws yX10_balanceNow cX10_balanceNow 4 (some .long)) r_X10_balanceNow (va_Pc [.ref (q0 0)] (zPre Z E (k_X10 E q0 u0) sz)) (va_Ql post (zAt E (va_A (k_X10 E q0 u0) sz) (fun u => k_X10 E q0 u)) (va_A (k_X10 E q0 u0) sz)) 0 0 (va_A (k_X10 E q0 u0) sz) := by
  refine z_ofW (Qf := fun A => va_Ql post (zAt E A (fun u => k_X10 E q0 u)) A) (by decide) (Nat.le_of_ble_eq_true rfl) ?_
  intro p e s m args below meth c A ls C0 hA hK hZ hP hD hS hl
  obtain ⟨hx, hb, hml, hr, hown, hts, hlocks, hin⟩ := id C0
  have hown : s.vm.findClass RX10 = some m.cls := hown
  have hl : lv_has ls 4 [(0, .ref (q0 0))] := hl
  refine lv_lconst (v := 0) hx hb dX10_balanceNow_0 rfl ?_
  refine lv_lstore_n (lv' := [(1, .long (0 : Int64)), (0, .ref (q0 0))]) hx hb dX10_balanceNow_1 rfl hl (by decide) rfl (fun ls hl => ?_)
  refine lv_iconst (v := 0) hx hb dX10_balanceNow_2 rfl ?_
  refine lv_istore_n (lv' := [(3, .int (0 : Int32)), (1, .long (0 : Int64)), (0, .ref (q0 0))]) hx hb dX10_balanceNow_3 rfl hl (by decide) rfl (fun ls hl => ?_)
  obtain ⟨n9, hw⟩ := hw
  exact t_X10_balanceNow_4 (l := l) hZ0 C0 hA hK hZ post n9 (0 : Int64) (0 : Int32) u0 _ _ _ hw hP hD hS (lv_sub hl [2, 1, 0] rfl)
abbrev r_X10_balance : Room := { frames := 2, cells := 0, slots := 0, locals := 43 }
def wp_X10_balance (u0 : S_X10) (post : Int64 → S_X10 → Prop) : Prop := wp_X10_balanceNow ((0 : Int32), u0.2.1, u0.2.2.1, u0.2.2.2.1, u0.2.2.2.2.1, u0.2.2.2.2.2.1, u0.2.2.2.2.2.2.1, u0.2.2.2.2.2.2.2.1, u0.2.2.2.2.2.2.2.2.1, u0.2.2.2.2.2.2.2.2.2.1, u0.2.2.2.2.2.2.2.2.2.2.1, u0.2.2.2.2.2.2.2.2.2.2.2.1, u0.2.2.2.2.2.2.2.2.2.2.2.2.1, u0.2.2.2.2.2.2.2.2.2.2.2.2.2.1, u0.2.2.2.2.2.2.2.2.2.2.2.2.2.2.1, u0.2.2.2.2.2.2.2.2.2.2.2.2.2.2.2.1, u0.2.2.2.2.2.2.2.2.2.2.2.2.2.2.2.2.1, u0.2.2.2.2.2.2.2.2.2.2.2.2.2.2.2.2.2.1, u0.2.2.2.2.2.2.2.2.2.2.2.2.2.2.2.2.2.2.1, u0.2.2.2.2.2.2.2.2.2.2.2.2.2.2.2.2.2.2.2.1, u0.2.2.2.2.2.2.2.2.2.2.2.2.2.2.2.2.2.2.2.2.1, u0.2.2.2.2.2.2.2.2.2.2.2.2.2.2.2.2.2.2.2.2.2) (fun r_2 u_1 => post r_2 u_1)
set_option maxHeartbeats 4000000 in
set_option maxRecDepth 100000 in
theorem c_X10_balance (l : Launch) (E : zE) (Z : zZ) (hZ0 : zSt Z) (q0 : Nat → Nat) (sz : Nat) (u0 : S_X10) (post : Int64 → S_X10 → Prop) (hw : wp_X10_balance u0 post) : Met l yX10_balance (zws yX10_balance cX10_balance 1 (some .long)) r_X10_balance (va_Pc [.ref (q0 0)] (zPre Z E (k_X10 E q0 u0) sz)) (va_Ql post (zAt E (va_A (k_X10 E q0 u0) sz) (fun u => k_X10 E q0 u)) (va_A (k_X10 E q0 u0) sz)) 0 0 (va_A (k_X10 E q0 u0) sz) := by
  refine z_ofW (Qf := fun A => va_Ql post (zAt E A (fun u => k_X10 E q0 u)) A) (by decide) (Nat.le_of_ble_eq_true rfl) ?_
  intro p e s m args below meth c A ls C0 hA hK hZ hP hD hS hl
  obtain ⟨hx, hb, hml, hr, hown, hts, hlocks, hin⟩ := id C0
  have hown : s.vm.findClass RX10 = some m.cls := hown
  have hl : lv_has ls 1 [(0, .ref (q0 0))] := hl
  refine lv_aload_n hx hb dX10_balance_0 rfl (lv_at hl 0 rfl) ?_
  refine lv_iconst (v := 0) hx hb dX10_balance_1 rfl ?_
  refine va_put (D := zD E) (ci := 10) (v := .int (0 : Int32)) (ty := .int) (C := RX10) (T := TX10) (N := 24) hx hb hts uw_X10 tyX10 tyX10_ok nmX10 hown hK hP hD hS 0 rfl rfl 0 (by decide) (hts _ wm_5_116) (fun _ h9 => h9) rfl (by decide +kernel) rfl rfl (Nat.le_of_ble_eq_true rfl) dX10_balance_2 (fun H locs hP hD hS => ?_)
  have hP : va_P (zD E) vwCl (k_X10 E q0 ((0 : Int32), u0.2.1, u0.2.2.1, u0.2.2.2.1, u0.2.2.2.2.1, u0.2.2.2.2.2.1, u0.2.2.2.2.2.2.1, u0.2.2.2.2.2.2.2.1, u0.2.2.2.2.2.2.2.2.1, u0.2.2.2.2.2.2.2.2.2.1, u0.2.2.2.2.2.2.2.2.2.2.1, u0.2.2.2.2.2.2.2.2.2.2.2.1, u0.2.2.2.2.2.2.2.2.2.2.2.2.1, u0.2.2.2.2.2.2.2.2.2.2.2.2.2.1, u0.2.2.2.2.2.2.2.2.2.2.2.2.2.2.1, u0.2.2.2.2.2.2.2.2.2.2.2.2.2.2.2.1, u0.2.2.2.2.2.2.2.2.2.2.2.2.2.2.2.2.1, u0.2.2.2.2.2.2.2.2.2.2.2.2.2.2.2.2.2.1, u0.2.2.2.2.2.2.2.2.2.2.2.2.2.2.2.2.2.2.1, u0.2.2.2.2.2.2.2.2.2.2.2.2.2.2.2.2.2.2.2.1, u0.2.2.2.2.2.2.2.2.2.2.2.2.2.2.2.2.2.2.2.2.1, u0.2.2.2.2.2.2.2.2.2.2.2.2.2.2.2.2.2.2.2.2.2)) H := hP
  have hD : va_D A (k_X10 E q0 ((0 : Int32), u0.2.1, u0.2.2.1, u0.2.2.2.1, u0.2.2.2.2.1, u0.2.2.2.2.2.1, u0.2.2.2.2.2.2.1, u0.2.2.2.2.2.2.2.1, u0.2.2.2.2.2.2.2.2.1, u0.2.2.2.2.2.2.2.2.2.1, u0.2.2.2.2.2.2.2.2.2.2.1, u0.2.2.2.2.2.2.2.2.2.2.2.1, u0.2.2.2.2.2.2.2.2.2.2.2.2.1, u0.2.2.2.2.2.2.2.2.2.2.2.2.2.1, u0.2.2.2.2.2.2.2.2.2.2.2.2.2.2.1, u0.2.2.2.2.2.2.2.2.2.2.2.2.2.2.2.1, u0.2.2.2.2.2.2.2.2.2.2.2.2.2.2.2.2.1, u0.2.2.2.2.2.2.2.2.2.2.2.2.2.2.2.2.2.1, u0.2.2.2.2.2.2.2.2.2.2.2.2.2.2.2.2.2.2.1, u0.2.2.2.2.2.2.2.2.2.2.2.2.2.2.2.2.2.2.2.1, u0.2.2.2.2.2.2.2.2.2.2.2.2.2.2.2.2.2.2.2.2.1, u0.2.2.2.2.2.2.2.2.2.2.2.2.2.2.2.2.2.2.2.2.2)) := hD
  refine lv_aload_n hx hb dX10_balance_5 rfl (lv_at hl 0 rfl) ?_
  refine z_kl (z_rV (rest := []) hZ0 C0 hK hZ hA hP hD hS hl.1 (c_X10_balanceNow l E Z hZ0 q0 H.size ((0 : Int32), u0.2.1, u0.2.2.1, u0.2.2.2.1, u0.2.2.2.2.1, u0.2.2.2.2.2.1, u0.2.2.2.2.2.2.1, u0.2.2.2.2.2.2.2.1, u0.2.2.2.2.2.2.2.2.1, u0.2.2.2.2.2.2.2.2.2.1, u0.2.2.2.2.2.2.2.2.2.2.1, u0.2.2.2.2.2.2.2.2.2.2.2.1, u0.2.2.2.2.2.2.2.2.2.2.2.2.1, u0.2.2.2.2.2.2.2.2.2.2.2.2.2.1, u0.2.2.2.2.2.2.2.2.2.2.2.2.2.2.1, u0.2.2.2.2.2.2.2.2.2.2.2.2.2.2.2.1, u0.2.2.2.2.2.2.2.2.2.2.2.2.2.2.2.2.1, u0.2.2.2.2.2.2.2.2.2.2.2.2.2.2.2.2.2.1, u0.2.2.2.2.2.2.2.2.2.2.2.2.2.2.2.2.2.2.1, u0.2.2.2.2.2.2.2.2.2.2.2.2.2.2.2.2.2.2.2.1, u0.2.2.2.2.2.2.2.2.2.2.2.2.2.2.2.2.2.2.2.2.1, u0.2.2.2.2.2.2.2.2.2.2.2.2.2.2.2.2.2.2.2.2.2) _ hw) yv_X10_240 [0, 1, 2, 3, 4, 5, 6, 7, 8, 9] rfl (by decide) (ci := 10) rfl rfl 0 rfl ⟨Nat.le_of_ble_eq_true rfl, Nat.le_of_ble_eq_true rfl⟩ ⟨rfl, rfl⟩ rfl rfl (Nat.le_of_ble_eq_true rfl) ⟨Nat.le_of_ble_eq_true rfl, Nat.le_of_ble_eq_true rfl⟩ dX10_balance_6) hP hD hS hA [0, 1, 2, 3, 4, 5, 6, 7, 8, 9] [] [0, 1, 2, 3, 4, 5, 6, 7, 8, 9] rfl (wr := []) rfl (by decide) (by decide) (fun u => k_X10 E q0 u) (fun u => rfl) (by decide) (fun r_2 u_1 H locs hw hP hD hS => ?_)
  exact z_lret (k := (fun u => k_X10 E q0 u)) u_1 C0 hP hD hS hw dX10_balance_9
abbrev r_X10_bandFor : Room := { frames := 2, cells := 0, slots := 0, locals := 42 }
def j_X10_bandFor_21 (x1 : Int32) (y0 : Int32) (u0 : S_X10) (post : Int32 → S_X10 → Prop) : Prop := wp_X10_fails u0 y0 (1 : Int32) (fun r_5 u_4 => (r_5 = 0 → (wp_X10_bandOf u_4 x1 (fun r_8 u_7 => post r_8 u_7))) ∧ (¬ (r_5 = 0) → (post (0 : Int32) u_4)))
def wp_X10_bandFor (u0 : S_X10) (p1 : Int32) (post : Int32 → S_X10 → Prop) : Prop := wp_X10_in p1 (0 : Int32) (39 : Int32) (fun r_2 u_1 => (¬ (r_2 = 0) → (j_X10_bandFor_21 p1 (0 : Int32) ((0 : Int32), u0.2.1, u0.2.2.1, u0.2.2.2.1, u0.2.2.2.2.1, u0.2.2.2.2.2.1, u0.2.2.2.2.2.2.1, u0.2.2.2.2.2.2.2.1, u0.2.2.2.2.2.2.2.2.1, u0.2.2.2.2.2.2.2.2.2.1, u0.2.2.2.2.2.2.2.2.2.2.1, u0.2.2.2.2.2.2.2.2.2.2.2.1, u0.2.2.2.2.2.2.2.2.2.2.2.2.1, u0.2.2.2.2.2.2.2.2.2.2.2.2.2.1, u0.2.2.2.2.2.2.2.2.2.2.2.2.2.2.1, u0.2.2.2.2.2.2.2.2.2.2.2.2.2.2.2.1, u0.2.2.2.2.2.2.2.2.2.2.2.2.2.2.2.2.1, u0.2.2.2.2.2.2.2.2.2.2.2.2.2.2.2.2.2.1, u0.2.2.2.2.2.2.2.2.2.2.2.2.2.2.2.2.2.2.1, u0.2.2.2.2.2.2.2.2.2.2.2.2.2.2.2.2.2.2.2.1, u0.2.2.2.2.2.2.2.2.2.2.2.2.2.2.2.2.2.2.2.2.1, u0.2.2.2.2.2.2.2.2.2.2.2.2.2.2.2.2.2.2.2.2.2) post)) ∧ (r_2 = 0 → (j_X10_bandFor_21 p1 (1 : Int32) ((0 : Int32), u0.2.1, u0.2.2.1, u0.2.2.2.1, u0.2.2.2.2.1, u0.2.2.2.2.2.1, u0.2.2.2.2.2.2.1, u0.2.2.2.2.2.2.2.1, u0.2.2.2.2.2.2.2.2.1, u0.2.2.2.2.2.2.2.2.2.1, u0.2.2.2.2.2.2.2.2.2.2.1, u0.2.2.2.2.2.2.2.2.2.2.2.1, u0.2.2.2.2.2.2.2.2.2.2.2.2.1, u0.2.2.2.2.2.2.2.2.2.2.2.2.2.1, u0.2.2.2.2.2.2.2.2.2.2.2.2.2.2.1, u0.2.2.2.2.2.2.2.2.2.2.2.2.2.2.2.1, u0.2.2.2.2.2.2.2.2.2.2.2.2.2.2.2.2.1, u0.2.2.2.2.2.2.2.2.2.2.2.2.2.2.2.2.2.1, u0.2.2.2.2.2.2.2.2.2.2.2.2.2.2.2.2.2.2.1, u0.2.2.2.2.2.2.2.2.2.2.2.2.2.2.2.2.2.2.2.1, u0.2.2.2.2.2.2.2.2.2.2.2.2.2.2.2.2.2.2.2.2.1, u0.2.2.2.2.2.2.2.2.2.2.2.2.2.2.2.2.2.2.2.2.2) post)))
set_option maxHeartbeats 4000000 in
set_option maxRecDepth 100000 in
theorem t_X10_bandFor_21 {p : Program} {l : Launch} {e : Env} {s : State} {m : MethodId} {args : Array Value} {below : List Frame} {meth : Method} {c : Code} {Z : zZ} {E : zE} {A : Nat → Prop} {q0 : Nat → Nat} (hZ0 : zSt Z) (C0 : zC p s m args meth c yX10_bandFor cX10_bandFor 2 (some .int)) (hA : ∀ q : Nat, s.heap.size ≤ q → A q) (hK : va_K (zD E) vwCl (zT E) s) (hZ : Z A s s.heap) (post : Int32 → S_X10 → Prop) : ∀ (x1 : Int32) (y0 : Int32) (u0 : S_X10) (H : Heap) (locs : List Loc) (ls : Array Slot), j_X10_bandFor_21 x1 y0 u0 post → va_P (zD E) vwCl (k_X10 E q0 u0) H → va_D A (k_X10 E q0 u0) → va_S A s.heap H locs → lv_has ls 2 [(0, .ref (q0 0)), (1, .int x1)] → W p l e r_X10_bandFor s m args below meth c H locs 0 0 (MQ below (va_Qi post (zAt E A (fun u => k_X10 E q0 u)) A) args s 0 0 A) (F0 m 21 ls [.int y0, .ref (q0 0)]) := by
  obtain ⟨hx, hb, hml, hr, hown, hts, hlocks, hin⟩ := id C0
  have hown : s.vm.findClass RX10 = some m.cls := hown
  intro x1 y0 u0 H locs ls hw hP hD hS hl
  refine lv_iconst (v := 1) hx hb dX10_bandFor_21 rfl ?_
  refine z_ki (z_rV (rest := []) hZ0 C0 hK hZ hA hP hD hS hl.1 (c_X10_fails l E Z hZ0 q0 H.size u0 y0 (1 : Int32) _ hw) yv_X10_177 [0, 1, 2, 3, 4, 5, 6, 7, 8, 9] rfl (by decide) (ci := 10) rfl rfl 0 rfl ⟨Nat.le_of_ble_eq_true rfl, Nat.le_of_ble_eq_true rfl⟩ ⟨rfl, rfl⟩ rfl rfl (Nat.le_of_ble_eq_true rfl) ⟨Nat.le_of_ble_eq_true rfl, Nat.le_of_ble_eq_true rfl⟩ dX10_bandFor_22) hP hD hS hA [0, 1, 2, 3, 4, 5, 6, 7, 8, 9] [] [0, 1, 2, 3, 4, 5, 6, 7, 8, 9] rfl (wr := []) rfl (by decide) (by decide) (fun u => k_X10 E q0 u) (fun u => rfl) (by decide) (fun r_5 u_4 H locs hw hP hD hS => ?_)
  obtain ⟨hwt, hwf⟩ := hw
  refine lv_if_eq (tgt := 32) hx hb dX10_bandFor_25 (by decide) (fun c_6 => ?_) (fun c_6 => ?_)
  · have hw := hwt c_6
    refine lv_aload_n hx hb dX10_bandFor_32 rfl (lv_at hl 0 rfl) ?_
    refine lv_iload_n hx hb dX10_bandFor_33 rfl (lv_at hl 1 rfl) ?_
    refine z_ki (z_rV (rest := []) hZ0 C0 hK hZ hA hP hD hS hl.1 (c_X10_bandOf l E Z hZ0 q0 H.size u_4 x1 _ hw) yv_X10_210 [0, 1, 2, 3, 4, 5, 6, 7, 8, 9] rfl (by decide) (ci := 10) rfl rfl 0 rfl ⟨Nat.le_of_ble_eq_true rfl, Nat.le_of_ble_eq_true rfl⟩ ⟨rfl, rfl⟩ rfl rfl (Nat.le_of_ble_eq_true rfl) ⟨Nat.le_of_ble_eq_true rfl, Nat.le_of_ble_eq_true rfl⟩ dX10_bandFor_34) hP hD hS hA [0, 1, 2, 3, 4, 5, 6, 7, 8, 9] [] [0, 1, 2, 3, 4, 5, 6, 7, 8, 9] rfl (wr := []) rfl (by decide) (by decide) (fun u => k_X10 E q0 u) (fun u => rfl) (by decide) (fun r_8 u_7 H locs hw hP hD hS => ?_)
    exact z_iret (k := (fun u => k_X10 E q0 u)) u_7 C0 hP hD hS hw dX10_bandFor_37
  · have hw := hwf c_6
    refine lv_iconst (v := 0) hx hb dX10_bandFor_28 rfl ?_
    refine lv_goto (tgt := 37) hx hb dX10_bandFor_29 (by decide) ?_
    exact z_iret (k := (fun u => k_X10 E q0 u)) u_4 C0 hP hD hS hw dX10_bandFor_37
set_option maxHeartbeats 4000000 in
set_option maxRecDepth 100000 in
theorem c_X10_bandFor (l : Launch) (E : zE) (Z : zZ) (hZ0 : zSt Z) (q0 : Nat → Nat) (sz : Nat) (u0 : S_X10) (p1 : Int32) (post : Int32 → S_X10 → Prop) (hw : wp_X10_bandFor u0 p1 post) : Met l yX10_bandFor (zws yX10_bandFor cX10_bandFor 2 (some .int)) r_X10_bandFor (va_Pc [.ref (q0 0), .int p1] (zPre Z E (k_X10 E q0 u0) sz)) (va_Qi post (zAt E (va_A (k_X10 E q0 u0) sz) (fun u => k_X10 E q0 u)) (va_A (k_X10 E q0 u0) sz)) 0 0 (va_A (k_X10 E q0 u0) sz) := by
  refine z_ofW (Qf := fun A => va_Qi post (zAt E A (fun u => k_X10 E q0 u)) A) (by decide) (Nat.le_of_ble_eq_true rfl) ?_
  intro p e s m args below meth c A ls C0 hA hK hZ hP hD hS hl
  obtain ⟨hx, hb, hml, hr, hown, hts, hlocks, hin⟩ := id C0
  have hown : s.vm.findClass RX10 = some m.cls := hown
  have hl : lv_has ls 2 [(0, .ref (q0 0)), (1, .int p1)] := hl
  refine lv_aload_n hx hb dX10_bandFor_0 rfl (lv_at hl 0 rfl) ?_
  refine lv_iconst (v := 0) hx hb dX10_bandFor_1 rfl ?_
  refine va_put (D := zD E) (ci := 10) (v := .int (0 : Int32)) (ty := .int) (C := RX10) (T := TX10) (N := 24) hx hb hts uw_X10 tyX10 tyX10_ok nmX10 hown hK hP hD hS 0 rfl rfl 0 (by decide) (hts _ wm_5_116) (fun _ h9 => h9) rfl (by decide +kernel) rfl rfl (Nat.le_of_ble_eq_true rfl) dX10_bandFor_2 (fun H locs hP hD hS => ?_)
  have hP : va_P (zD E) vwCl (k_X10 E q0 ((0 : Int32), u0.2.1, u0.2.2.1, u0.2.2.2.1, u0.2.2.2.2.1, u0.2.2.2.2.2.1, u0.2.2.2.2.2.2.1, u0.2.2.2.2.2.2.2.1, u0.2.2.2.2.2.2.2.2.1, u0.2.2.2.2.2.2.2.2.2.1, u0.2.2.2.2.2.2.2.2.2.2.1, u0.2.2.2.2.2.2.2.2.2.2.2.1, u0.2.2.2.2.2.2.2.2.2.2.2.2.1, u0.2.2.2.2.2.2.2.2.2.2.2.2.2.1, u0.2.2.2.2.2.2.2.2.2.2.2.2.2.2.1, u0.2.2.2.2.2.2.2.2.2.2.2.2.2.2.2.1, u0.2.2.2.2.2.2.2.2.2.2.2.2.2.2.2.2.1, u0.2.2.2.2.2.2.2.2.2.2.2.2.2.2.2.2.2.1, u0.2.2.2.2.2.2.2.2.2.2.2.2.2.2.2.2.2.2.1, u0.2.2.2.2.2.2.2.2.2.2.2.2.2.2.2.2.2.2.2.1, u0.2.2.2.2.2.2.2.2.2.2.2.2.2.2.2.2.2.2.2.2.1, u0.2.2.2.2.2.2.2.2.2.2.2.2.2.2.2.2.2.2.2.2.2)) H := hP
  have hD : va_D A (k_X10 E q0 ((0 : Int32), u0.2.1, u0.2.2.1, u0.2.2.2.1, u0.2.2.2.2.1, u0.2.2.2.2.2.1, u0.2.2.2.2.2.2.1, u0.2.2.2.2.2.2.2.1, u0.2.2.2.2.2.2.2.2.1, u0.2.2.2.2.2.2.2.2.2.1, u0.2.2.2.2.2.2.2.2.2.2.1, u0.2.2.2.2.2.2.2.2.2.2.2.1, u0.2.2.2.2.2.2.2.2.2.2.2.2.1, u0.2.2.2.2.2.2.2.2.2.2.2.2.2.1, u0.2.2.2.2.2.2.2.2.2.2.2.2.2.2.1, u0.2.2.2.2.2.2.2.2.2.2.2.2.2.2.2.1, u0.2.2.2.2.2.2.2.2.2.2.2.2.2.2.2.2.1, u0.2.2.2.2.2.2.2.2.2.2.2.2.2.2.2.2.2.1, u0.2.2.2.2.2.2.2.2.2.2.2.2.2.2.2.2.2.2.1, u0.2.2.2.2.2.2.2.2.2.2.2.2.2.2.2.2.2.2.2.1, u0.2.2.2.2.2.2.2.2.2.2.2.2.2.2.2.2.2.2.2.2.1, u0.2.2.2.2.2.2.2.2.2.2.2.2.2.2.2.2.2.2.2.2.2)) := hD
  refine lv_aload_n hx hb dX10_bandFor_5 rfl (lv_at hl 0 rfl) ?_
  refine lv_iload_n hx hb dX10_bandFor_6 rfl (lv_at hl 1 rfl) ?_
  refine lv_iconst (v := 0) hx hb dX10_bandFor_7 rfl ?_
  refine lv_bipush (v := 39) hx hb dX10_bandFor_8 rfl ?_
  refine z_ki (z_rS (rest := [.ref (q0 0)]) hZ0 C0 hK hZ hA hP hD hS hl.1 (c_X10_in l E Z hZ0 H.size p1 (0 : Int32) (39 : Int32) _ hw) yv_X10_74 [] rfl (by decide) ⟨Nat.le_of_ble_eq_true rfl, Nat.le_of_ble_eq_true rfl⟩ ⟨rfl, rfl⟩ rfl rfl (Nat.le_of_ble_eq_true rfl) ⟨Nat.le_of_ble_eq_true rfl, Nat.le_of_ble_eq_true rfl⟩ dX10_bandFor_10) hP hD hS hA [] [0, 1, 2, 3, 4, 5, 6, 7, 8, 9] [0, 1, 2, 3, 4, 5, 6, 7, 8, 9] rfl (wr := [_, _, _, _, _, _, _, _, _, _]) rfl (by decide) (by decide) (fun u => k_X10 E q0 ((0 : Int32), u0.2.1, u0.2.2.1, u0.2.2.2.1, u0.2.2.2.2.1, u0.2.2.2.2.2.1, u0.2.2.2.2.2.2.1, u0.2.2.2.2.2.2.2.1, u0.2.2.2.2.2.2.2.2.1, u0.2.2.2.2.2.2.2.2.2.1, u0.2.2.2.2.2.2.2.2.2.2.1, u0.2.2.2.2.2.2.2.2.2.2.2.1, u0.2.2.2.2.2.2.2.2.2.2.2.2.1, u0.2.2.2.2.2.2.2.2.2.2.2.2.2.1, u0.2.2.2.2.2.2.2.2.2.2.2.2.2.2.1, u0.2.2.2.2.2.2.2.2.2.2.2.2.2.2.2.1, u0.2.2.2.2.2.2.2.2.2.2.2.2.2.2.2.2.1, u0.2.2.2.2.2.2.2.2.2.2.2.2.2.2.2.2.2.1, u0.2.2.2.2.2.2.2.2.2.2.2.2.2.2.2.2.2.2.1, u0.2.2.2.2.2.2.2.2.2.2.2.2.2.2.2.2.2.2.2.1, u0.2.2.2.2.2.2.2.2.2.2.2.2.2.2.2.2.2.2.2.2.1, u0.2.2.2.2.2.2.2.2.2.2.2.2.2.2.2.2.2.2.2.2.2)) (fun u => rfl) (by decide) (fun r_2 u_1 H locs hw hP hD hS => ?_)
  obtain ⟨hwt, hwf⟩ := hw
  refine lv_if_ne (tgt := 20) hx hb dX10_bandFor_13 (by decide) (fun c_3 => ?_) (fun c_3 => ?_)
  · have hw := hwt c_3
    refine lv_iconst (v := 0) hx hb dX10_bandFor_20 rfl ?_
    exact t_X10_bandFor_21 (l := l) hZ0 C0 hA hK hZ post p1 (0 : Int32) ((0 : Int32), u0.2.1, u0.2.2.1, u0.2.2.2.1, u0.2.2.2.2.1, u0.2.2.2.2.2.1, u0.2.2.2.2.2.2.1, u0.2.2.2.2.2.2.2.1, u0.2.2.2.2.2.2.2.2.1, u0.2.2.2.2.2.2.2.2.2.1, u0.2.2.2.2.2.2.2.2.2.2.1, u0.2.2.2.2.2.2.2.2.2.2.2.1, u0.2.2.2.2.2.2.2.2.2.2.2.2.1, u0.2.2.2.2.2.2.2.2.2.2.2.2.2.1, u0.2.2.2.2.2.2.2.2.2.2.2.2.2.2.1, u0.2.2.2.2.2.2.2.2.2.2.2.2.2.2.2.1, u0.2.2.2.2.2.2.2.2.2.2.2.2.2.2.2.2.1, u0.2.2.2.2.2.2.2.2.2.2.2.2.2.2.2.2.2.1, u0.2.2.2.2.2.2.2.2.2.2.2.2.2.2.2.2.2.2.1, u0.2.2.2.2.2.2.2.2.2.2.2.2.2.2.2.2.2.2.2.1, u0.2.2.2.2.2.2.2.2.2.2.2.2.2.2.2.2.2.2.2.2.1, u0.2.2.2.2.2.2.2.2.2.2.2.2.2.2.2.2.2.2.2.2.2) _ _ _ hw hP hD hS (lv_sub hl [0, 1] rfl)
  · have hw := hwf c_3
    refine lv_iconst (v := 1) hx hb dX10_bandFor_16 rfl ?_
    refine lv_goto (tgt := 21) hx hb dX10_bandFor_17 (by decide) ?_
    exact t_X10_bandFor_21 (l := l) hZ0 C0 hA hK hZ post p1 (1 : Int32) ((0 : Int32), u0.2.1, u0.2.2.1, u0.2.2.2.1, u0.2.2.2.2.1, u0.2.2.2.2.2.1, u0.2.2.2.2.2.2.1, u0.2.2.2.2.2.2.2.1, u0.2.2.2.2.2.2.2.2.1, u0.2.2.2.2.2.2.2.2.2.1, u0.2.2.2.2.2.2.2.2.2.2.1, u0.2.2.2.2.2.2.2.2.2.2.2.1, u0.2.2.2.2.2.2.2.2.2.2.2.2.1, u0.2.2.2.2.2.2.2.2.2.2.2.2.2.1, u0.2.2.2.2.2.2.2.2.2.2.2.2.2.2.1, u0.2.2.2.2.2.2.2.2.2.2.2.2.2.2.2.1, u0.2.2.2.2.2.2.2.2.2.2.2.2.2.2.2.2.1, u0.2.2.2.2.2.2.2.2.2.2.2.2.2.2.2.2.2.1, u0.2.2.2.2.2.2.2.2.2.2.2.2.2.2.2.2.2.2.1, u0.2.2.2.2.2.2.2.2.2.2.2.2.2.2.2.2.2.2.2.1, u0.2.2.2.2.2.2.2.2.2.2.2.2.2.2.2.2.2.2.2.2.1, u0.2.2.2.2.2.2.2.2.2.2.2.2.2.2.2.2.2.2.2.2.2) _ _ _ hw hP hD hS (lv_sub hl [0, 1] rfl)
abbrev r_X10_allowed : Room := { frames := 3, cells := 0, slots := 0, locals := 66 }
def j_X10_allowed_32 (x1 : Int32) (x2 : Int32) (x3 : Int32) (y0 : Int32) (u0 : S_X10) (post : Int32 → S_X10 → Prop) : Prop := wp_X10_fails u0 y0 (1 : Int32) (fun r_8 u_7 => (r_8 = 0 → (wp_X10_bound u_7 x1 x2 x3 (fun r_11 u_10 => post r_11 u_10))) ∧ (¬ (r_8 = 0) → (post (0 : Int32) u_7)))
def j_X10_allowed_27 (x1 : Int32) (x2 : Int32) (x3 : Int32) (u0 : S_X10) (post : Int32 → S_X10 → Prop) : Prop := j_X10_allowed_32 x1 x2 x3 (1 : Int32) u0 post
def wp_X10_allowed (u0 : S_X10) (p1 : Int32) (p2 : Int32) (p3 : Int32) (post : Int32 → S_X10 → Prop) : Prop := wp_X10_in p1 (0 : Int32) (39 : Int32) (fun r_2 u_1 => (r_2 = 0 → (j_X10_allowed_27 p1 p2 p3 ((0 : Int32), u0.2.1, u0.2.2.1, u0.2.2.2.1, u0.2.2.2.2.1, u0.2.2.2.2.2.1, u0.2.2.2.2.2.2.1, u0.2.2.2.2.2.2.2.1, u0.2.2.2.2.2.2.2.2.1, u0.2.2.2.2.2.2.2.2.2.1, u0.2.2.2.2.2.2.2.2.2.2.1, u0.2.2.2.2.2.2.2.2.2.2.2.1, u0.2.2.2.2.2.2.2.2.2.2.2.2.1, u0.2.2.2.2.2.2.2.2.2.2.2.2.2.1, u0.2.2.2.2.2.2.2.2.2.2.2.2.2.2.1, u0.2.2.2.2.2.2.2.2.2.2.2.2.2.2.2.1, u0.2.2.2.2.2.2.2.2.2.2.2.2.2.2.2.2.1, u0.2.2.2.2.2.2.2.2.2.2.2.2.2.2.2.2.2.1, u0.2.2.2.2.2.2.2.2.2.2.2.2.2.2.2.2.2.2.1, u0.2.2.2.2.2.2.2.2.2.2.2.2.2.2.2.2.2.2.2.1, u0.2.2.2.2.2.2.2.2.2.2.2.2.2.2.2.2.2.2.2.2.1, u0.2.2.2.2.2.2.2.2.2.2.2.2.2.2.2.2.2.2.2.2.2) post)) ∧ (¬ (r_2 = 0) → (wp_X10_in p2 (0 : Int32) (9999 : Int32) (fun r_5 u_4 => (¬ (r_5 = 0) → (j_X10_allowed_32 p1 p2 p3 (0 : Int32) ((0 : Int32), u0.2.1, u0.2.2.1, u0.2.2.2.1, u0.2.2.2.2.1, u0.2.2.2.2.2.1, u0.2.2.2.2.2.2.1, u0.2.2.2.2.2.2.2.1, u0.2.2.2.2.2.2.2.2.1, u0.2.2.2.2.2.2.2.2.2.1, u0.2.2.2.2.2.2.2.2.2.2.1, u0.2.2.2.2.2.2.2.2.2.2.2.1, u0.2.2.2.2.2.2.2.2.2.2.2.2.1, u0.2.2.2.2.2.2.2.2.2.2.2.2.2.1, u0.2.2.2.2.2.2.2.2.2.2.2.2.2.2.1, u0.2.2.2.2.2.2.2.2.2.2.2.2.2.2.2.1, u0.2.2.2.2.2.2.2.2.2.2.2.2.2.2.2.2.1, u0.2.2.2.2.2.2.2.2.2.2.2.2.2.2.2.2.2.1, u0.2.2.2.2.2.2.2.2.2.2.2.2.2.2.2.2.2.2.1, u0.2.2.2.2.2.2.2.2.2.2.2.2.2.2.2.2.2.2.2.1, u0.2.2.2.2.2.2.2.2.2.2.2.2.2.2.2.2.2.2.2.2.1, u0.2.2.2.2.2.2.2.2.2.2.2.2.2.2.2.2.2.2.2.2.2) post)) ∧ (r_5 = 0 → (j_X10_allowed_27 p1 p2 p3 ((0 : Int32), u0.2.1, u0.2.2.1, u0.2.2.2.1, u0.2.2.2.2.1, u0.2.2.2.2.2.1, u0.2.2.2.2.2.2.1, u0.2.2.2.2.2.2.2.1, u0.2.2.2.2.2.2.2.2.1, u0.2.2.2.2.2.2.2.2.2.1, u0.2.2.2.2.2.2.2.2.2.2.1, u0.2.2.2.2.2.2.2.2.2.2.2.1, u0.2.2.2.2.2.2.2.2.2.2.2.2.1, u0.2.2.2.2.2.2.2.2.2.2.2.2.2.1, u0.2.2.2.2.2.2.2.2.2.2.2.2.2.2.1, u0.2.2.2.2.2.2.2.2.2.2.2.2.2.2.2.1, u0.2.2.2.2.2.2.2.2.2.2.2.2.2.2.2.2.1, u0.2.2.2.2.2.2.2.2.2.2.2.2.2.2.2.2.2.1, u0.2.2.2.2.2.2.2.2.2.2.2.2.2.2.2.2.2.2.1, u0.2.2.2.2.2.2.2.2.2.2.2.2.2.2.2.2.2.2.2.1, u0.2.2.2.2.2.2.2.2.2.2.2.2.2.2.2.2.2.2.2.2.1, u0.2.2.2.2.2.2.2.2.2.2.2.2.2.2.2.2.2.2.2.2.2) post))))))
set_option maxHeartbeats 4000000 in
set_option maxRecDepth 100000 in
theorem t_X10_allowed_32 {p : Program} {l : Launch} {e : Env} {s : State} {m : MethodId} {args : Array Value} {below : List Frame} {meth : Method} {c : Code} {Z : zZ} {E : zE} {A : Nat → Prop} {q0 : Nat → Nat} (hZ0 : zSt Z) (C0 : zC p s m args meth c yX10_allowed cX10_allowed 4 (some .int)) (hA : ∀ q : Nat, s.heap.size ≤ q → A q) (hK : va_K (zD E) vwCl (zT E) s) (hZ : Z A s s.heap) (post : Int32 → S_X10 → Prop) : ∀ (x1 : Int32) (x2 : Int32) (x3 : Int32) (y0 : Int32) (u0 : S_X10) (H : Heap) (locs : List Loc) (ls : Array Slot), j_X10_allowed_32 x1 x2 x3 y0 u0 post → va_P (zD E) vwCl (k_X10 E q0 u0) H → va_D A (k_X10 E q0 u0) → va_S A s.heap H locs → lv_has ls 4 [(0, .ref (q0 0)), (1, .int x1), (2, .int x2), (3, .int x3)] → W p l e r_X10_allowed s m args below meth c H locs 0 0 (MQ below (va_Qi post (zAt E A (fun u => k_X10 E q0 u)) A) args s 0 0 A) (F0 m 32 ls [.int y0, .ref (q0 0)]) := by
  obtain ⟨hx, hb, hml, hr, hown, hts, hlocks, hin⟩ := id C0
  have hown : s.vm.findClass RX10 = some m.cls := hown
  intro x1 x2 x3 y0 u0 H locs ls hw hP hD hS hl
  refine lv_iconst (v := 1) hx hb dX10_allowed_32 rfl ?_
  refine z_ki (z_rV (rest := []) hZ0 C0 hK hZ hA hP hD hS hl.1 (c_X10_fails l E Z hZ0 q0 H.size u0 y0 (1 : Int32) _ hw) yv_X10_177 [0, 1, 2, 3, 4, 5, 6, 7, 8, 9] rfl (by decide) (ci := 10) rfl rfl 0 rfl ⟨Nat.le_of_ble_eq_true rfl, Nat.le_of_ble_eq_true rfl⟩ ⟨rfl, rfl⟩ rfl rfl (Nat.le_of_ble_eq_true rfl) ⟨Nat.le_of_ble_eq_true rfl, Nat.le_of_ble_eq_true rfl⟩ dX10_allowed_33) hP hD hS hA [0, 1, 2, 3, 4, 5, 6, 7, 8, 9] [] [0, 1, 2, 3, 4, 5, 6, 7, 8, 9] rfl (wr := []) rfl (by decide) (by decide) (fun u => k_X10 E q0 u) (fun u => rfl) (by decide) (fun r_8 u_7 H locs hw hP hD hS => ?_)
  obtain ⟨hwt, hwf⟩ := hw
  refine lv_if_eq (tgt := 43) hx hb dX10_allowed_36 (by decide) (fun c_9 => ?_) (fun c_9 => ?_)
  · have hw := hwt c_9
    refine lv_aload_n hx hb dX10_allowed_43 rfl (lv_at hl 0 rfl) ?_
    refine lv_iload_n hx hb dX10_allowed_44 rfl (lv_at hl 1 rfl) ?_
    refine lv_iload_n hx hb dX10_allowed_45 rfl (lv_at hl 2 rfl) ?_
    refine lv_iload_n hx hb dX10_allowed_46 rfl (lv_at hl 3 rfl) ?_
    refine z_ki (z_rV (rest := []) hZ0 C0 hK hZ hA hP hD hS hl.1 (c_X10_bound l E Z hZ0 q0 H.size u_7 x1 x2 x3 _ hw) yv_X10_213 [0, 1, 2, 3, 4, 5, 6, 7, 8, 9] rfl (by decide) (ci := 10) rfl rfl 0 rfl ⟨Nat.le_of_ble_eq_true rfl, Nat.le_of_ble_eq_true rfl⟩ ⟨rfl, rfl⟩ rfl rfl (Nat.le_of_ble_eq_true rfl) ⟨Nat.le_of_ble_eq_true rfl, Nat.le_of_ble_eq_true rfl⟩ dX10_allowed_47) hP hD hS hA [0, 1, 2, 3, 4, 5, 6, 7, 8, 9] [] [0, 1, 2, 3, 4, 5, 6, 7, 8, 9] rfl (wr := []) rfl (by decide) (by decide) (fun u => k_X10 E q0 u) (fun u => rfl) (by decide) (fun r_11 u_10 H locs hw hP hD hS => ?_)
    exact z_iret (k := (fun u => k_X10 E q0 u)) u_10 C0 hP hD hS hw dX10_allowed_50
  · have hw := hwf c_9
    refine lv_iconst (v := 0) hx hb dX10_allowed_39 rfl ?_
    refine lv_goto (tgt := 50) hx hb dX10_allowed_40 (by decide) ?_
    exact z_iret (k := (fun u => k_X10 E q0 u)) u_7 C0 hP hD hS hw dX10_allowed_50
set_option maxHeartbeats 4000000 in
set_option maxRecDepth 100000 in
theorem t_X10_allowed_27 {p : Program} {l : Launch} {e : Env} {s : State} {m : MethodId} {args : Array Value} {below : List Frame} {meth : Method} {c : Code} {Z : zZ} {E : zE} {A : Nat → Prop} {q0 : Nat → Nat} (hZ0 : zSt Z) (C0 : zC p s m args meth c yX10_allowed cX10_allowed 4 (some .int)) (hA : ∀ q : Nat, s.heap.size ≤ q → A q) (hK : va_K (zD E) vwCl (zT E) s) (hZ : Z A s s.heap) (post : Int32 → S_X10 → Prop) : ∀ (x1 : Int32) (x2 : Int32) (x3 : Int32) (u0 : S_X10) (H : Heap) (locs : List Loc) (ls : Array Slot), j_X10_allowed_27 x1 x2 x3 u0 post → va_P (zD E) vwCl (k_X10 E q0 u0) H → va_D A (k_X10 E q0 u0) → va_S A s.heap H locs → lv_has ls 4 [(0, .ref (q0 0)), (1, .int x1), (2, .int x2), (3, .int x3)] → W p l e r_X10_allowed s m args below meth c H locs 0 0 (MQ below (va_Qi post (zAt E A (fun u => k_X10 E q0 u)) A) args s 0 0 A) (F0 m 27 ls [.ref (q0 0)]) := by
  obtain ⟨hx, hb, hml, hr, hown, hts, hlocks, hin⟩ := id C0
  have hown : s.vm.findClass RX10 = some m.cls := hown
  intro x1 x2 x3 u0 H locs ls hw hP hD hS hl
  refine lv_iconst (v := 1) hx hb dX10_allowed_27 rfl ?_
  refine lv_goto (tgt := 32) hx hb dX10_allowed_28 (by decide) ?_
  exact t_X10_allowed_32 (l := l) hZ0 C0 hA hK hZ post x1 x2 x3 (1 : Int32) u0 _ _ _ hw hP hD hS (lv_sub hl [0, 1, 2, 3] rfl)
set_option maxHeartbeats 4000000 in
set_option maxRecDepth 100000 in
theorem c_X10_allowed (l : Launch) (E : zE) (Z : zZ) (hZ0 : zSt Z) (q0 : Nat → Nat) (sz : Nat) (u0 : S_X10) (p1 : Int32) (p2 : Int32) (p3 : Int32) (post : Int32 → S_X10 → Prop) (hw : wp_X10_allowed u0 p1 p2 p3 post) : Met l yX10_allowed (zws yX10_allowed cX10_allowed 4 (some .int)) r_X10_allowed (va_Pc [.ref (q0 0), .int p1, .int p2, .int p3] (zPre Z E (k_X10 E q0 u0) sz)) (va_Qi post (zAt E (va_A (k_X10 E q0 u0) sz) (fun u => k_X10 E q0 u)) (va_A (k_X10 E q0 u0) sz)) 0 0 (va_A (k_X10 E q0 u0) sz) := by
  refine z_ofW (Qf := fun A => va_Qi post (zAt E A (fun u => k_X10 E q0 u)) A) (by decide) (Nat.le_of_ble_eq_true rfl) ?_
  intro p e s m args below meth c A ls C0 hA hK hZ hP hD hS hl
  obtain ⟨hx, hb, hml, hr, hown, hts, hlocks, hin⟩ := id C0
  have hown : s.vm.findClass RX10 = some m.cls := hown
  have hl : lv_has ls 4 [(0, .ref (q0 0)), (1, .int p1), (2, .int p2), (3, .int p3)] := hl
  refine lv_aload_n hx hb dX10_allowed_0 rfl (lv_at hl 0 rfl) ?_
  refine lv_iconst (v := 0) hx hb dX10_allowed_1 rfl ?_
  refine va_put (D := zD E) (ci := 10) (v := .int (0 : Int32)) (ty := .int) (C := RX10) (T := TX10) (N := 24) hx hb hts uw_X10 tyX10 tyX10_ok nmX10 hown hK hP hD hS 0 rfl rfl 0 (by decide) (hts _ wm_5_116) (fun _ h9 => h9) rfl (by decide +kernel) rfl rfl (Nat.le_of_ble_eq_true rfl) dX10_allowed_2 (fun H locs hP hD hS => ?_)
  have hP : va_P (zD E) vwCl (k_X10 E q0 ((0 : Int32), u0.2.1, u0.2.2.1, u0.2.2.2.1, u0.2.2.2.2.1, u0.2.2.2.2.2.1, u0.2.2.2.2.2.2.1, u0.2.2.2.2.2.2.2.1, u0.2.2.2.2.2.2.2.2.1, u0.2.2.2.2.2.2.2.2.2.1, u0.2.2.2.2.2.2.2.2.2.2.1, u0.2.2.2.2.2.2.2.2.2.2.2.1, u0.2.2.2.2.2.2.2.2.2.2.2.2.1, u0.2.2.2.2.2.2.2.2.2.2.2.2.2.1, u0.2.2.2.2.2.2.2.2.2.2.2.2.2.2.1, u0.2.2.2.2.2.2.2.2.2.2.2.2.2.2.2.1, u0.2.2.2.2.2.2.2.2.2.2.2.2.2.2.2.2.1, u0.2.2.2.2.2.2.2.2.2.2.2.2.2.2.2.2.2.1, u0.2.2.2.2.2.2.2.2.2.2.2.2.2.2.2.2.2.2.1, u0.2.2.2.2.2.2.2.2.2.2.2.2.2.2.2.2.2.2.2.1, u0.2.2.2.2.2.2.2.2.2.2.2.2.2.2.2.2.2.2.2.2.1, u0.2.2.2.2.2.2.2.2.2.2.2.2.2.2.2.2.2.2.2.2.2)) H := hP
  have hD : va_D A (k_X10 E q0 ((0 : Int32), u0.2.1, u0.2.2.1, u0.2.2.2.1, u0.2.2.2.2.1, u0.2.2.2.2.2.1, u0.2.2.2.2.2.2.1, u0.2.2.2.2.2.2.2.1, u0.2.2.2.2.2.2.2.2.1, u0.2.2.2.2.2.2.2.2.2.1, u0.2.2.2.2.2.2.2.2.2.2.1, u0.2.2.2.2.2.2.2.2.2.2.2.1, u0.2.2.2.2.2.2.2.2.2.2.2.2.1, u0.2.2.2.2.2.2.2.2.2.2.2.2.2.1, u0.2.2.2.2.2.2.2.2.2.2.2.2.2.2.1, u0.2.2.2.2.2.2.2.2.2.2.2.2.2.2.2.1, u0.2.2.2.2.2.2.2.2.2.2.2.2.2.2.2.2.1, u0.2.2.2.2.2.2.2.2.2.2.2.2.2.2.2.2.2.1, u0.2.2.2.2.2.2.2.2.2.2.2.2.2.2.2.2.2.2.1, u0.2.2.2.2.2.2.2.2.2.2.2.2.2.2.2.2.2.2.2.1, u0.2.2.2.2.2.2.2.2.2.2.2.2.2.2.2.2.2.2.2.2.1, u0.2.2.2.2.2.2.2.2.2.2.2.2.2.2.2.2.2.2.2.2.2)) := hD
  refine lv_aload_n hx hb dX10_allowed_5 rfl (lv_at hl 0 rfl) ?_
  refine lv_iload_n hx hb dX10_allowed_6 rfl (lv_at hl 1 rfl) ?_
  refine lv_iconst (v := 0) hx hb dX10_allowed_7 rfl ?_
  refine lv_bipush (v := 39) hx hb dX10_allowed_8 rfl ?_
  refine z_ki (z_rS (rest := [.ref (q0 0)]) hZ0 C0 hK hZ hA hP hD hS hl.1 (c_X10_in l E Z hZ0 H.size p1 (0 : Int32) (39 : Int32) _ hw) yv_X10_74 [] rfl (by decide) ⟨Nat.le_of_ble_eq_true rfl, Nat.le_of_ble_eq_true rfl⟩ ⟨rfl, rfl⟩ rfl rfl (Nat.le_of_ble_eq_true rfl) ⟨Nat.le_of_ble_eq_true rfl, Nat.le_of_ble_eq_true rfl⟩ dX10_allowed_10) hP hD hS hA [] [0, 1, 2, 3, 4, 5, 6, 7, 8, 9] [0, 1, 2, 3, 4, 5, 6, 7, 8, 9] rfl (wr := [_, _, _, _, _, _, _, _, _, _]) rfl (by decide) (by decide) (fun u => k_X10 E q0 ((0 : Int32), u0.2.1, u0.2.2.1, u0.2.2.2.1, u0.2.2.2.2.1, u0.2.2.2.2.2.1, u0.2.2.2.2.2.2.1, u0.2.2.2.2.2.2.2.1, u0.2.2.2.2.2.2.2.2.1, u0.2.2.2.2.2.2.2.2.2.1, u0.2.2.2.2.2.2.2.2.2.2.1, u0.2.2.2.2.2.2.2.2.2.2.2.1, u0.2.2.2.2.2.2.2.2.2.2.2.2.1, u0.2.2.2.2.2.2.2.2.2.2.2.2.2.1, u0.2.2.2.2.2.2.2.2.2.2.2.2.2.2.1, u0.2.2.2.2.2.2.2.2.2.2.2.2.2.2.2.1, u0.2.2.2.2.2.2.2.2.2.2.2.2.2.2.2.2.1, u0.2.2.2.2.2.2.2.2.2.2.2.2.2.2.2.2.2.1, u0.2.2.2.2.2.2.2.2.2.2.2.2.2.2.2.2.2.2.1, u0.2.2.2.2.2.2.2.2.2.2.2.2.2.2.2.2.2.2.2.1, u0.2.2.2.2.2.2.2.2.2.2.2.2.2.2.2.2.2.2.2.2.1, u0.2.2.2.2.2.2.2.2.2.2.2.2.2.2.2.2.2.2.2.2.2)) (fun u => rfl) (by decide) (fun r_2 u_1 H locs hw hP hD hS => ?_)
  obtain ⟨hwt, hwf⟩ := hw
  refine lv_if_eq (tgt := 27) hx hb dX10_allowed_13 (by decide) (fun c_3 => ?_) (fun c_3 => ?_)
  · have hw := hwt c_3
    exact t_X10_allowed_27 (l := l) hZ0 C0 hA hK hZ post p1 p2 p3 ((0 : Int32), u0.2.1, u0.2.2.1, u0.2.2.2.1, u0.2.2.2.2.1, u0.2.2.2.2.2.1, u0.2.2.2.2.2.2.1, u0.2.2.2.2.2.2.2.1, u0.2.2.2.2.2.2.2.2.1, u0.2.2.2.2.2.2.2.2.2.1, u0.2.2.2.2.2.2.2.2.2.2.1, u0.2.2.2.2.2.2.2.2.2.2.2.1, u0.2.2.2.2.2.2.2.2.2.2.2.2.1, u0.2.2.2.2.2.2.2.2.2.2.2.2.2.1, u0.2.2.2.2.2.2.2.2.2.2.2.2.2.2.1, u0.2.2.2.2.2.2.2.2.2.2.2.2.2.2.2.1, u0.2.2.2.2.2.2.2.2.2.2.2.2.2.2.2.2.1, u0.2.2.2.2.2.2.2.2.2.2.2.2.2.2.2.2.2.1, u0.2.2.2.2.2.2.2.2.2.2.2.2.2.2.2.2.2.2.1, u0.2.2.2.2.2.2.2.2.2.2.2.2.2.2.2.2.2.2.2.1, u0.2.2.2.2.2.2.2.2.2.2.2.2.2.2.2.2.2.2.2.2.1, u0.2.2.2.2.2.2.2.2.2.2.2.2.2.2.2.2.2.2.2.2.2) _ _ _ hw hP hD hS (lv_sub hl [0, 1, 2, 3] rfl)
  · have hw := hwf c_3
    refine lv_iload_n hx hb dX10_allowed_16 rfl (lv_at hl 2 rfl) ?_
    refine lv_iconst (v := 0) hx hb dX10_allowed_17 rfl ?_
    refine lv_sipush (v := 9999) hx hb dX10_allowed_18 rfl ?_
    refine z_ki (z_rS (rest := [.ref (q0 0)]) hZ0 C0 hK hZ hA hP hD hS hl.1 (c_X10_in l E Z hZ0 H.size p2 (0 : Int32) (9999 : Int32) _ hw) yv_X10_74 [] rfl (by decide) ⟨Nat.le_of_ble_eq_true rfl, Nat.le_of_ble_eq_true rfl⟩ ⟨rfl, rfl⟩ rfl rfl (Nat.le_of_ble_eq_true rfl) ⟨Nat.le_of_ble_eq_true rfl, Nat.le_of_ble_eq_true rfl⟩ dX10_allowed_21) hP hD hS hA [] [0, 1, 2, 3, 4, 5, 6, 7, 8, 9] [0, 1, 2, 3, 4, 5, 6, 7, 8, 9] rfl (wr := [_, _, _, _, _, _, _, _, _, _]) rfl (by decide) (by decide) (fun u => k_X10 E q0 ((0 : Int32), u0.2.1, u0.2.2.1, u0.2.2.2.1, u0.2.2.2.2.1, u0.2.2.2.2.2.1, u0.2.2.2.2.2.2.1, u0.2.2.2.2.2.2.2.1, u0.2.2.2.2.2.2.2.2.1, u0.2.2.2.2.2.2.2.2.2.1, u0.2.2.2.2.2.2.2.2.2.2.1, u0.2.2.2.2.2.2.2.2.2.2.2.1, u0.2.2.2.2.2.2.2.2.2.2.2.2.1, u0.2.2.2.2.2.2.2.2.2.2.2.2.2.1, u0.2.2.2.2.2.2.2.2.2.2.2.2.2.2.1, u0.2.2.2.2.2.2.2.2.2.2.2.2.2.2.2.1, u0.2.2.2.2.2.2.2.2.2.2.2.2.2.2.2.2.1, u0.2.2.2.2.2.2.2.2.2.2.2.2.2.2.2.2.2.1, u0.2.2.2.2.2.2.2.2.2.2.2.2.2.2.2.2.2.2.1, u0.2.2.2.2.2.2.2.2.2.2.2.2.2.2.2.2.2.2.2.1, u0.2.2.2.2.2.2.2.2.2.2.2.2.2.2.2.2.2.2.2.2.1, u0.2.2.2.2.2.2.2.2.2.2.2.2.2.2.2.2.2.2.2.2.2)) (fun u => rfl) (by decide) (fun r_5 u_4 H locs hw hP hD hS => ?_)
    obtain ⟨hwt, hwf⟩ := hw
    refine lv_if_ne (tgt := 31) hx hb dX10_allowed_24 (by decide) (fun c_6 => ?_) (fun c_6 => ?_)
    · have hw := hwt c_6
      refine lv_iconst (v := 0) hx hb dX10_allowed_31 rfl ?_
      exact t_X10_allowed_32 (l := l) hZ0 C0 hA hK hZ post p1 p2 p3 (0 : Int32) ((0 : Int32), u0.2.1, u0.2.2.1, u0.2.2.2.1, u0.2.2.2.2.1, u0.2.2.2.2.2.1, u0.2.2.2.2.2.2.1, u0.2.2.2.2.2.2.2.1, u0.2.2.2.2.2.2.2.2.1, u0.2.2.2.2.2.2.2.2.2.1, u0.2.2.2.2.2.2.2.2.2.2.1, u0.2.2.2.2.2.2.2.2.2.2.2.1, u0.2.2.2.2.2.2.2.2.2.2.2.2.1, u0.2.2.2.2.2.2.2.2.2.2.2.2.2.1, u0.2.2.2.2.2.2.2.2.2.2.2.2.2.2.1, u0.2.2.2.2.2.2.2.2.2.2.2.2.2.2.2.1, u0.2.2.2.2.2.2.2.2.2.2.2.2.2.2.2.2.1, u0.2.2.2.2.2.2.2.2.2.2.2.2.2.2.2.2.2.1, u0.2.2.2.2.2.2.2.2.2.2.2.2.2.2.2.2.2.2.1, u0.2.2.2.2.2.2.2.2.2.2.2.2.2.2.2.2.2.2.2.1, u0.2.2.2.2.2.2.2.2.2.2.2.2.2.2.2.2.2.2.2.2.1, u0.2.2.2.2.2.2.2.2.2.2.2.2.2.2.2.2.2.2.2.2.2) _ _ _ hw hP hD hS (lv_sub hl [0, 1, 2, 3] rfl)
    · have hw := hwf c_6
      exact t_X10_allowed_27 (l := l) hZ0 C0 hA hK hZ post p1 p2 p3 ((0 : Int32), u0.2.1, u0.2.2.1, u0.2.2.2.1, u0.2.2.2.2.1, u0.2.2.2.2.2.1, u0.2.2.2.2.2.2.1, u0.2.2.2.2.2.2.2.1, u0.2.2.2.2.2.2.2.2.1, u0.2.2.2.2.2.2.2.2.2.1, u0.2.2.2.2.2.2.2.2.2.2.1, u0.2.2.2.2.2.2.2.2.2.2.2.1, u0.2.2.2.2.2.2.2.2.2.2.2.2.1, u0.2.2.2.2.2.2.2.2.2.2.2.2.2.1, u0.2.2.2.2.2.2.2.2.2.2.2.2.2.2.1, u0.2.2.2.2.2.2.2.2.2.2.2.2.2.2.2.1, u0.2.2.2.2.2.2.2.2.2.2.2.2.2.2.2.2.1, u0.2.2.2.2.2.2.2.2.2.2.2.2.2.2.2.2.2.1, u0.2.2.2.2.2.2.2.2.2.2.2.2.2.2.2.2.2.2.1, u0.2.2.2.2.2.2.2.2.2.2.2.2.2.2.2.2.2.2.2.1, u0.2.2.2.2.2.2.2.2.2.2.2.2.2.2.2.2.2.2.2.2.1, u0.2.2.2.2.2.2.2.2.2.2.2.2.2.2.2.2.2.2.2.2.2) _ _ _ hw hP hD hS (lv_sub hl [0, 1, 2, 3] rfl)
abbrev r_X10_penaltyFor : Room := { frames := 1, cells := 0, slots := 0, locals := 25 }
def j_X10_penaltyFor_33 (x1 : Int32) (x2 : Int32) (y0 : Int32) (u0 : S_X10) (post : Int32 → S_X10 → Prop) : Prop := wp_X10_fails u0 y0 (1 : Int32) (fun r_8 u_7 => (r_8 = 0 → (wp_X10_penaltyOf u_7 x1 x2 (fun r_11 u_10 => post r_11 u_10))) ∧ (¬ (r_8 = 0) → (post (0 : Int32) u_7)))
def j_X10_penaltyFor_28 (x1 : Int32) (x2 : Int32) (u0 : S_X10) (post : Int32 → S_X10 → Prop) : Prop := j_X10_penaltyFor_33 x1 x2 (1 : Int32) u0 post
def wp_X10_penaltyFor (u0 : S_X10) (p1 : Int32) (p2 : Int32) (post : Int32 → S_X10 → Prop) : Prop := wp_X10_in p1 (0 : Int32) (9999 : Int32) (fun r_2 u_1 => (r_2 = 0 → (j_X10_penaltyFor_28 p1 p2 ((0 : Int32), u0.2.1, u0.2.2.1, u0.2.2.2.1, u0.2.2.2.2.1, u0.2.2.2.2.2.1, u0.2.2.2.2.2.2.1, u0.2.2.2.2.2.2.2.1, u0.2.2.2.2.2.2.2.2.1, u0.2.2.2.2.2.2.2.2.2.1, u0.2.2.2.2.2.2.2.2.2.2.1, u0.2.2.2.2.2.2.2.2.2.2.2.1, u0.2.2.2.2.2.2.2.2.2.2.2.2.1, u0.2.2.2.2.2.2.2.2.2.2.2.2.2.1, u0.2.2.2.2.2.2.2.2.2.2.2.2.2.2.1, u0.2.2.2.2.2.2.2.2.2.2.2.2.2.2.2.1, u0.2.2.2.2.2.2.2.2.2.2.2.2.2.2.2.2.1, u0.2.2.2.2.2.2.2.2.2.2.2.2.2.2.2.2.2.1, u0.2.2.2.2.2.2.2.2.2.2.2.2.2.2.2.2.2.2.1, u0.2.2.2.2.2.2.2.2.2.2.2.2.2.2.2.2.2.2.2.1, u0.2.2.2.2.2.2.2.2.2.2.2.2.2.2.2.2.2.2.2.2.1, u0.2.2.2.2.2.2.2.2.2.2.2.2.2.2.2.2.2.2.2.2.2) post)) ∧ (¬ (r_2 = 0) → (wp_X10_in p2 (0 : Int32) (9999 : Int32) (fun r_5 u_4 => (¬ (r_5 = 0) → (j_X10_penaltyFor_33 p1 p2 (0 : Int32) ((0 : Int32), u0.2.1, u0.2.2.1, u0.2.2.2.1, u0.2.2.2.2.1, u0.2.2.2.2.2.1, u0.2.2.2.2.2.2.1, u0.2.2.2.2.2.2.2.1, u0.2.2.2.2.2.2.2.2.1, u0.2.2.2.2.2.2.2.2.2.1, u0.2.2.2.2.2.2.2.2.2.2.1, u0.2.2.2.2.2.2.2.2.2.2.2.1, u0.2.2.2.2.2.2.2.2.2.2.2.2.1, u0.2.2.2.2.2.2.2.2.2.2.2.2.2.1, u0.2.2.2.2.2.2.2.2.2.2.2.2.2.2.1, u0.2.2.2.2.2.2.2.2.2.2.2.2.2.2.2.1, u0.2.2.2.2.2.2.2.2.2.2.2.2.2.2.2.2.1, u0.2.2.2.2.2.2.2.2.2.2.2.2.2.2.2.2.2.1, u0.2.2.2.2.2.2.2.2.2.2.2.2.2.2.2.2.2.2.1, u0.2.2.2.2.2.2.2.2.2.2.2.2.2.2.2.2.2.2.2.1, u0.2.2.2.2.2.2.2.2.2.2.2.2.2.2.2.2.2.2.2.2.1, u0.2.2.2.2.2.2.2.2.2.2.2.2.2.2.2.2.2.2.2.2.2) post)) ∧ (r_5 = 0 → (j_X10_penaltyFor_28 p1 p2 ((0 : Int32), u0.2.1, u0.2.2.1, u0.2.2.2.1, u0.2.2.2.2.1, u0.2.2.2.2.2.1, u0.2.2.2.2.2.2.1, u0.2.2.2.2.2.2.2.1, u0.2.2.2.2.2.2.2.2.1, u0.2.2.2.2.2.2.2.2.2.1, u0.2.2.2.2.2.2.2.2.2.2.1, u0.2.2.2.2.2.2.2.2.2.2.2.1, u0.2.2.2.2.2.2.2.2.2.2.2.2.1, u0.2.2.2.2.2.2.2.2.2.2.2.2.2.1, u0.2.2.2.2.2.2.2.2.2.2.2.2.2.2.1, u0.2.2.2.2.2.2.2.2.2.2.2.2.2.2.2.1, u0.2.2.2.2.2.2.2.2.2.2.2.2.2.2.2.2.1, u0.2.2.2.2.2.2.2.2.2.2.2.2.2.2.2.2.2.1, u0.2.2.2.2.2.2.2.2.2.2.2.2.2.2.2.2.2.2.1, u0.2.2.2.2.2.2.2.2.2.2.2.2.2.2.2.2.2.2.2.1, u0.2.2.2.2.2.2.2.2.2.2.2.2.2.2.2.2.2.2.2.2.1, u0.2.2.2.2.2.2.2.2.2.2.2.2.2.2.2.2.2.2.2.2.2) post))))))
set_option maxHeartbeats 4000000 in
set_option maxRecDepth 100000 in
theorem t_X10_penaltyFor_33 {p : Program} {l : Launch} {e : Env} {s : State} {m : MethodId} {args : Array Value} {below : List Frame} {meth : Method} {c : Code} {Z : zZ} {E : zE} {A : Nat → Prop} {q0 : Nat → Nat} (hZ0 : zSt Z) (C0 : zC p s m args meth c yX10_penaltyFor cX10_penaltyFor 3 (some .int)) (hA : ∀ q : Nat, s.heap.size ≤ q → A q) (hK : va_K (zD E) vwCl (zT E) s) (hZ : Z A s s.heap) (post : Int32 → S_X10 → Prop) : ∀ (x1 : Int32) (x2 : Int32) (y0 : Int32) (u0 : S_X10) (H : Heap) (locs : List Loc) (ls : Array Slot), j_X10_penaltyFor_33 x1 x2 y0 u0 post → va_P (zD E) vwCl (k_X10 E q0 u0) H → va_D A (k_X10 E q0 u0) → va_S A s.heap H locs → lv_has ls 3 [(0, .ref (q0 0)), (1, .int x1), (2, .int x2)] → W p l e r_X10_penaltyFor s m args below meth c H locs 0 0 (MQ below (va_Qi post (zAt E A (fun u => k_X10 E q0 u)) A) args s 0 0 A) (F0 m 33 ls [.int y0, .ref (q0 0)]) := by
  obtain ⟨hx, hb, hml, hr, hown, hts, hlocks, hin⟩ := id C0
  have hown : s.vm.findClass RX10 = some m.cls := hown
  intro x1 x2 y0 u0 H locs ls hw hP hD hS hl
  refine lv_iconst (v := 1) hx hb dX10_penaltyFor_33 rfl ?_
  refine z_ki (z_rV (rest := []) hZ0 C0 hK hZ hA hP hD hS hl.1 (c_X10_fails l E Z hZ0 q0 H.size u0 y0 (1 : Int32) _ hw) yv_X10_177 [0, 1, 2, 3, 4, 5, 6, 7, 8, 9] rfl (by decide) (ci := 10) rfl rfl 0 rfl ⟨Nat.le_of_ble_eq_true rfl, Nat.le_of_ble_eq_true rfl⟩ ⟨rfl, rfl⟩ rfl rfl (Nat.le_of_ble_eq_true rfl) ⟨Nat.le_of_ble_eq_true rfl, Nat.le_of_ble_eq_true rfl⟩ dX10_penaltyFor_34) hP hD hS hA [0, 1, 2, 3, 4, 5, 6, 7, 8, 9] [] [0, 1, 2, 3, 4, 5, 6, 7, 8, 9] rfl (wr := []) rfl (by decide) (by decide) (fun u => k_X10 E q0 u) (fun u => rfl) (by decide) (fun r_8 u_7 H locs hw hP hD hS => ?_)
  obtain ⟨hwt, hwf⟩ := hw
  refine lv_if_eq (tgt := 44) hx hb dX10_penaltyFor_37 (by decide) (fun c_9 => ?_) (fun c_9 => ?_)
  · have hw := hwt c_9
    refine lv_aload_n hx hb dX10_penaltyFor_44 rfl (lv_at hl 0 rfl) ?_
    refine lv_iload_n hx hb dX10_penaltyFor_45 rfl (lv_at hl 1 rfl) ?_
    refine lv_iload_n hx hb dX10_penaltyFor_46 rfl (lv_at hl 2 rfl) ?_
    refine z_ki (z_rV (rest := []) hZ0 C0 hK hZ hA hP hD hS hl.1 (c_X10_penaltyOf l E Z hZ0 q0 H.size u_7 x1 x2 _ hw) yv_X10_223 [0, 1, 2, 3, 4, 5, 6, 7, 8, 9] rfl (by decide) (ci := 10) rfl rfl 0 rfl ⟨Nat.le_of_ble_eq_true rfl, Nat.le_of_ble_eq_true rfl⟩ ⟨rfl, rfl⟩ rfl rfl (Nat.le_of_ble_eq_true rfl) ⟨Nat.le_of_ble_eq_true rfl, Nat.le_of_ble_eq_true rfl⟩ dX10_penaltyFor_47) hP hD hS hA [0, 1, 2, 3, 4, 5, 6, 7, 8, 9] [] [0, 1, 2, 3, 4, 5, 6, 7, 8, 9] rfl (wr := []) rfl (by decide) (by decide) (fun u => k_X10 E q0 u) (fun u => rfl) (by decide) (fun r_11 u_10 H locs hw hP hD hS => ?_)
    exact z_iret (k := (fun u => k_X10 E q0 u)) u_10 C0 hP hD hS hw dX10_penaltyFor_50
  · have hw := hwf c_9
    refine lv_iconst (v := 0) hx hb dX10_penaltyFor_40 rfl ?_
    refine lv_goto (tgt := 50) hx hb dX10_penaltyFor_41 (by decide) ?_
    exact z_iret (k := (fun u => k_X10 E q0 u)) u_7 C0 hP hD hS hw dX10_penaltyFor_50
set_option maxHeartbeats 4000000 in
set_option maxRecDepth 100000 in
theorem t_X10_penaltyFor_28 {p : Program} {l : Launch} {e : Env} {s : State} {m : MethodId} {args : Array Value} {below : List Frame} {meth : Method} {c : Code} {Z : zZ} {E : zE} {A : Nat → Prop} {q0 : Nat → Nat} (hZ0 : zSt Z) (C0 : zC p s m args meth c yX10_penaltyFor cX10_penaltyFor 3 (some .int)) (hA : ∀ q : Nat, s.heap.size ≤ q → A q) (hK : va_K (zD E) vwCl (zT E) s) (hZ : Z A s s.heap) (post : Int32 → S_X10 → Prop) : ∀ (x1 : Int32) (x2 : Int32) (u0 : S_X10) (H : Heap) (locs : List Loc) (ls : Array Slot), j_X10_penaltyFor_28 x1 x2 u0 post → va_P (zD E) vwCl (k_X10 E q0 u0) H → va_D A (k_X10 E q0 u0) → va_S A s.heap H locs → lv_has ls 3 [(0, .ref (q0 0)), (1, .int x1), (2, .int x2)] → W p l e r_X10_penaltyFor s m args below meth c H locs 0 0 (MQ below (va_Qi post (zAt E A (fun u => k_X10 E q0 u)) A) args s 0 0 A) (F0 m 28 ls [.ref (q0 0)]) := by
  obtain ⟨hx, hb, hml, hr, hown, hts, hlocks, hin⟩ := id C0
  have hown : s.vm.findClass RX10 = some m.cls := hown
  intro x1 x2 u0 H locs ls hw hP hD hS hl
  refine lv_iconst (v := 1) hx hb dX10_penaltyFor_28 rfl ?_
  refine lv_goto (tgt := 33) hx hb dX10_penaltyFor_29 (by decide) ?_
  exact t_X10_penaltyFor_33 (l := l) hZ0 C0 hA hK hZ post x1 x2 (1 : Int32) u0 _ _ _ hw hP hD hS (lv_sub hl [0, 1, 2] rfl)
set_option maxHeartbeats 4000000 in
set_option maxRecDepth 100000 in
theorem c_X10_penaltyFor (l : Launch) (E : zE) (Z : zZ) (hZ0 : zSt Z) (q0 : Nat → Nat) (sz : Nat) (u0 : S_X10) (p1 : Int32) (p2 : Int32) (post : Int32 → S_X10 → Prop) (hw : wp_X10_penaltyFor u0 p1 p2 post) : Met l yX10_penaltyFor (zws yX10_penaltyFor cX10_penaltyFor 3 (some .int)) r_X10_penaltyFor (va_Pc [.ref (q0 0), .int p1, .int p2] (zPre Z E (k_X10 E q0 u0) sz)) (va_Qi post (zAt E (va_A (k_X10 E q0 u0) sz) (fun u => k_X10 E q0 u)) (va_A (k_X10 E q0 u0) sz)) 0 0 (va_A (k_X10 E q0 u0) sz) := by
  refine z_ofW (Qf := fun A => va_Qi post (zAt E A (fun u => k_X10 E q0 u)) A) (by decide) (Nat.le_of_ble_eq_true rfl) ?_
  intro p e s m args below meth c A ls C0 hA hK hZ hP hD hS hl
  obtain ⟨hx, hb, hml, hr, hown, hts, hlocks, hin⟩ := id C0
  have hown : s.vm.findClass RX10 = some m.cls := hown
  have hl : lv_has ls 3 [(0, .ref (q0 0)), (1, .int p1), (2, .int p2)] := hl
  refine lv_aload_n hx hb dX10_penaltyFor_0 rfl (lv_at hl 0 rfl) ?_
  refine lv_iconst (v := 0) hx hb dX10_penaltyFor_1 rfl ?_
  refine va_put (D := zD E) (ci := 10) (v := .int (0 : Int32)) (ty := .int) (C := RX10) (T := TX10) (N := 24) hx hb hts uw_X10 tyX10 tyX10_ok nmX10 hown hK hP hD hS 0 rfl rfl 0 (by decide) (hts _ wm_5_116) (fun _ h9 => h9) rfl (by decide +kernel) rfl rfl (Nat.le_of_ble_eq_true rfl) dX10_penaltyFor_2 (fun H locs hP hD hS => ?_)
  have hP : va_P (zD E) vwCl (k_X10 E q0 ((0 : Int32), u0.2.1, u0.2.2.1, u0.2.2.2.1, u0.2.2.2.2.1, u0.2.2.2.2.2.1, u0.2.2.2.2.2.2.1, u0.2.2.2.2.2.2.2.1, u0.2.2.2.2.2.2.2.2.1, u0.2.2.2.2.2.2.2.2.2.1, u0.2.2.2.2.2.2.2.2.2.2.1, u0.2.2.2.2.2.2.2.2.2.2.2.1, u0.2.2.2.2.2.2.2.2.2.2.2.2.1, u0.2.2.2.2.2.2.2.2.2.2.2.2.2.1, u0.2.2.2.2.2.2.2.2.2.2.2.2.2.2.1, u0.2.2.2.2.2.2.2.2.2.2.2.2.2.2.2.1, u0.2.2.2.2.2.2.2.2.2.2.2.2.2.2.2.2.1, u0.2.2.2.2.2.2.2.2.2.2.2.2.2.2.2.2.2.1, u0.2.2.2.2.2.2.2.2.2.2.2.2.2.2.2.2.2.2.1, u0.2.2.2.2.2.2.2.2.2.2.2.2.2.2.2.2.2.2.2.1, u0.2.2.2.2.2.2.2.2.2.2.2.2.2.2.2.2.2.2.2.2.1, u0.2.2.2.2.2.2.2.2.2.2.2.2.2.2.2.2.2.2.2.2.2)) H := hP
  have hD : va_D A (k_X10 E q0 ((0 : Int32), u0.2.1, u0.2.2.1, u0.2.2.2.1, u0.2.2.2.2.1, u0.2.2.2.2.2.1, u0.2.2.2.2.2.2.1, u0.2.2.2.2.2.2.2.1, u0.2.2.2.2.2.2.2.2.1, u0.2.2.2.2.2.2.2.2.2.1, u0.2.2.2.2.2.2.2.2.2.2.1, u0.2.2.2.2.2.2.2.2.2.2.2.1, u0.2.2.2.2.2.2.2.2.2.2.2.2.1, u0.2.2.2.2.2.2.2.2.2.2.2.2.2.1, u0.2.2.2.2.2.2.2.2.2.2.2.2.2.2.1, u0.2.2.2.2.2.2.2.2.2.2.2.2.2.2.2.1, u0.2.2.2.2.2.2.2.2.2.2.2.2.2.2.2.2.1, u0.2.2.2.2.2.2.2.2.2.2.2.2.2.2.2.2.2.1, u0.2.2.2.2.2.2.2.2.2.2.2.2.2.2.2.2.2.2.1, u0.2.2.2.2.2.2.2.2.2.2.2.2.2.2.2.2.2.2.2.1, u0.2.2.2.2.2.2.2.2.2.2.2.2.2.2.2.2.2.2.2.2.1, u0.2.2.2.2.2.2.2.2.2.2.2.2.2.2.2.2.2.2.2.2.2)) := hD
  refine lv_aload_n hx hb dX10_penaltyFor_5 rfl (lv_at hl 0 rfl) ?_
  refine lv_iload_n hx hb dX10_penaltyFor_6 rfl (lv_at hl 1 rfl) ?_
  refine lv_iconst (v := 0) hx hb dX10_penaltyFor_7 rfl ?_
  refine lv_sipush (v := 9999) hx hb dX10_penaltyFor_8 rfl ?_
  refine z_ki (z_rS (rest := [.ref (q0 0)]) hZ0 C0 hK hZ hA hP hD hS hl.1 (c_X10_in l E Z hZ0 H.size p1 (0 : Int32) (9999 : Int32) _ hw) yv_X10_74 [] rfl (by decide) ⟨Nat.le_of_ble_eq_true rfl, Nat.le_of_ble_eq_true rfl⟩ ⟨rfl, rfl⟩ rfl rfl (Nat.le_of_ble_eq_true rfl) ⟨Nat.le_of_ble_eq_true rfl, Nat.le_of_ble_eq_true rfl⟩ dX10_penaltyFor_11) hP hD hS hA [] [0, 1, 2, 3, 4, 5, 6, 7, 8, 9] [0, 1, 2, 3, 4, 5, 6, 7, 8, 9] rfl (wr := [_, _, _, _, _, _, _, _, _, _]) rfl (by decide) (by decide) (fun u => k_X10 E q0 ((0 : Int32), u0.2.1, u0.2.2.1, u0.2.2.2.1, u0.2.2.2.2.1, u0.2.2.2.2.2.1, u0.2.2.2.2.2.2.1, u0.2.2.2.2.2.2.2.1, u0.2.2.2.2.2.2.2.2.1, u0.2.2.2.2.2.2.2.2.2.1, u0.2.2.2.2.2.2.2.2.2.2.1, u0.2.2.2.2.2.2.2.2.2.2.2.1, u0.2.2.2.2.2.2.2.2.2.2.2.2.1, u0.2.2.2.2.2.2.2.2.2.2.2.2.2.1, u0.2.2.2.2.2.2.2.2.2.2.2.2.2.2.1, u0.2.2.2.2.2.2.2.2.2.2.2.2.2.2.2.1, u0.2.2.2.2.2.2.2.2.2.2.2.2.2.2.2.2.1, u0.2.2.2.2.2.2.2.2.2.2.2.2.2.2.2.2.2.1, u0.2.2.2.2.2.2.2.2.2.2.2.2.2.2.2.2.2.2.1, u0.2.2.2.2.2.2.2.2.2.2.2.2.2.2.2.2.2.2.2.1, u0.2.2.2.2.2.2.2.2.2.2.2.2.2.2.2.2.2.2.2.2.1, u0.2.2.2.2.2.2.2.2.2.2.2.2.2.2.2.2.2.2.2.2.2)) (fun u => rfl) (by decide) (fun r_2 u_1 H locs hw hP hD hS => ?_)
  obtain ⟨hwt, hwf⟩ := hw
  refine lv_if_eq (tgt := 28) hx hb dX10_penaltyFor_14 (by decide) (fun c_3 => ?_) (fun c_3 => ?_)
  · have hw := hwt c_3
    exact t_X10_penaltyFor_28 (l := l) hZ0 C0 hA hK hZ post p1 p2 ((0 : Int32), u0.2.1, u0.2.2.1, u0.2.2.2.1, u0.2.2.2.2.1, u0.2.2.2.2.2.1, u0.2.2.2.2.2.2.1, u0.2.2.2.2.2.2.2.1, u0.2.2.2.2.2.2.2.2.1, u0.2.2.2.2.2.2.2.2.2.1, u0.2.2.2.2.2.2.2.2.2.2.1, u0.2.2.2.2.2.2.2.2.2.2.2.1, u0.2.2.2.2.2.2.2.2.2.2.2.2.1, u0.2.2.2.2.2.2.2.2.2.2.2.2.2.1, u0.2.2.2.2.2.2.2.2.2.2.2.2.2.2.1, u0.2.2.2.2.2.2.2.2.2.2.2.2.2.2.2.1, u0.2.2.2.2.2.2.2.2.2.2.2.2.2.2.2.2.1, u0.2.2.2.2.2.2.2.2.2.2.2.2.2.2.2.2.2.1, u0.2.2.2.2.2.2.2.2.2.2.2.2.2.2.2.2.2.2.1, u0.2.2.2.2.2.2.2.2.2.2.2.2.2.2.2.2.2.2.2.1, u0.2.2.2.2.2.2.2.2.2.2.2.2.2.2.2.2.2.2.2.2.1, u0.2.2.2.2.2.2.2.2.2.2.2.2.2.2.2.2.2.2.2.2.2) _ _ _ hw hP hD hS (lv_sub hl [0, 1, 2] rfl)
  · have hw := hwf c_3
    refine lv_iload_n hx hb dX10_penaltyFor_17 rfl (lv_at hl 2 rfl) ?_
    refine lv_iconst (v := 0) hx hb dX10_penaltyFor_18 rfl ?_
    refine lv_sipush (v := 9999) hx hb dX10_penaltyFor_19 rfl ?_
    refine z_ki (z_rS (rest := [.ref (q0 0)]) hZ0 C0 hK hZ hA hP hD hS hl.1 (c_X10_in l E Z hZ0 H.size p2 (0 : Int32) (9999 : Int32) _ hw) yv_X10_74 [] rfl (by decide) ⟨Nat.le_of_ble_eq_true rfl, Nat.le_of_ble_eq_true rfl⟩ ⟨rfl, rfl⟩ rfl rfl (Nat.le_of_ble_eq_true rfl) ⟨Nat.le_of_ble_eq_true rfl, Nat.le_of_ble_eq_true rfl⟩ dX10_penaltyFor_22) hP hD hS hA [] [0, 1, 2, 3, 4, 5, 6, 7, 8, 9] [0, 1, 2, 3, 4, 5, 6, 7, 8, 9] rfl (wr := [_, _, _, _, _, _, _, _, _, _]) rfl (by decide) (by decide) (fun u => k_X10 E q0 ((0 : Int32), u0.2.1, u0.2.2.1, u0.2.2.2.1, u0.2.2.2.2.1, u0.2.2.2.2.2.1, u0.2.2.2.2.2.2.1, u0.2.2.2.2.2.2.2.1, u0.2.2.2.2.2.2.2.2.1, u0.2.2.2.2.2.2.2.2.2.1, u0.2.2.2.2.2.2.2.2.2.2.1, u0.2.2.2.2.2.2.2.2.2.2.2.1, u0.2.2.2.2.2.2.2.2.2.2.2.2.1, u0.2.2.2.2.2.2.2.2.2.2.2.2.2.1, u0.2.2.2.2.2.2.2.2.2.2.2.2.2.2.1, u0.2.2.2.2.2.2.2.2.2.2.2.2.2.2.2.1, u0.2.2.2.2.2.2.2.2.2.2.2.2.2.2.2.2.1, u0.2.2.2.2.2.2.2.2.2.2.2.2.2.2.2.2.2.1, u0.2.2.2.2.2.2.2.2.2.2.2.2.2.2.2.2.2.2.1, u0.2.2.2.2.2.2.2.2.2.2.2.2.2.2.2.2.2.2.2.1, u0.2.2.2.2.2.2.2.2.2.2.2.2.2.2.2.2.2.2.2.2.1, u0.2.2.2.2.2.2.2.2.2.2.2.2.2.2.2.2.2.2.2.2.2)) (fun u => rfl) (by decide) (fun r_5 u_4 H locs hw hP hD hS => ?_)
    obtain ⟨hwt, hwf⟩ := hw
    refine lv_if_ne (tgt := 32) hx hb dX10_penaltyFor_25 (by decide) (fun c_6 => ?_) (fun c_6 => ?_)
    · have hw := hwt c_6
      refine lv_iconst (v := 0) hx hb dX10_penaltyFor_32 rfl ?_
      exact t_X10_penaltyFor_33 (l := l) hZ0 C0 hA hK hZ post p1 p2 (0 : Int32) ((0 : Int32), u0.2.1, u0.2.2.1, u0.2.2.2.1, u0.2.2.2.2.1, u0.2.2.2.2.2.1, u0.2.2.2.2.2.2.1, u0.2.2.2.2.2.2.2.1, u0.2.2.2.2.2.2.2.2.1, u0.2.2.2.2.2.2.2.2.2.1, u0.2.2.2.2.2.2.2.2.2.2.1, u0.2.2.2.2.2.2.2.2.2.2.2.1, u0.2.2.2.2.2.2.2.2.2.2.2.2.1, u0.2.2.2.2.2.2.2.2.2.2.2.2.2.1, u0.2.2.2.2.2.2.2.2.2.2.2.2.2.2.1, u0.2.2.2.2.2.2.2.2.2.2.2.2.2.2.2.1, u0.2.2.2.2.2.2.2.2.2.2.2.2.2.2.2.2.1, u0.2.2.2.2.2.2.2.2.2.2.2.2.2.2.2.2.2.1, u0.2.2.2.2.2.2.2.2.2.2.2.2.2.2.2.2.2.2.1, u0.2.2.2.2.2.2.2.2.2.2.2.2.2.2.2.2.2.2.2.1, u0.2.2.2.2.2.2.2.2.2.2.2.2.2.2.2.2.2.2.2.2.1, u0.2.2.2.2.2.2.2.2.2.2.2.2.2.2.2.2.2.2.2.2.2) _ _ _ hw hP hD hS (lv_sub hl [0, 1, 2] rfl)
    · have hw := hwf c_6
      exact t_X10_penaltyFor_28 (l := l) hZ0 C0 hA hK hZ post p1 p2 ((0 : Int32), u0.2.1, u0.2.2.1, u0.2.2.2.1, u0.2.2.2.2.1, u0.2.2.2.2.2.1, u0.2.2.2.2.2.2.1, u0.2.2.2.2.2.2.2.1, u0.2.2.2.2.2.2.2.2.1, u0.2.2.2.2.2.2.2.2.2.1, u0.2.2.2.2.2.2.2.2.2.2.1, u0.2.2.2.2.2.2.2.2.2.2.2.1, u0.2.2.2.2.2.2.2.2.2.2.2.2.1, u0.2.2.2.2.2.2.2.2.2.2.2.2.2.1, u0.2.2.2.2.2.2.2.2.2.2.2.2.2.2.1, u0.2.2.2.2.2.2.2.2.2.2.2.2.2.2.2.1, u0.2.2.2.2.2.2.2.2.2.2.2.2.2.2.2.2.1, u0.2.2.2.2.2.2.2.2.2.2.2.2.2.2.2.2.2.1, u0.2.2.2.2.2.2.2.2.2.2.2.2.2.2.2.2.2.2.1, u0.2.2.2.2.2.2.2.2.2.2.2.2.2.2.2.2.2.2.2.1, u0.2.2.2.2.2.2.2.2.2.2.2.2.2.2.2.2.2.2.2.2.1, u0.2.2.2.2.2.2.2.2.2.2.2.2.2.2.2.2.2.2.2.2.2) _ _ _ hw hP hD hS (lv_sub hl [0, 1, 2] rfl)
abbrev r_X10_breachCount : Room := { frames := 0, cells := 0, slots := 0, locals := 0 }
def wp_X10_breachCount (u0 : S_X10) (post : Int32 → S_X10 → Prop) : Prop := post (u0.2.2.2.2.2.2.2.2.1 12) ((0 : Int32), u0.2.1, u0.2.2.1, u0.2.2.2.1, u0.2.2.2.2.1, u0.2.2.2.2.2.1, u0.2.2.2.2.2.2.1, u0.2.2.2.2.2.2.2.1, u0.2.2.2.2.2.2.2.2.1, u0.2.2.2.2.2.2.2.2.2.1, u0.2.2.2.2.2.2.2.2.2.2.1, u0.2.2.2.2.2.2.2.2.2.2.2.1, u0.2.2.2.2.2.2.2.2.2.2.2.2.1, u0.2.2.2.2.2.2.2.2.2.2.2.2.2.1, u0.2.2.2.2.2.2.2.2.2.2.2.2.2.2.1, u0.2.2.2.2.2.2.2.2.2.2.2.2.2.2.2.1, u0.2.2.2.2.2.2.2.2.2.2.2.2.2.2.2.2.1, u0.2.2.2.2.2.2.2.2.2.2.2.2.2.2.2.2.2.1, u0.2.2.2.2.2.2.2.2.2.2.2.2.2.2.2.2.2.2.1, u0.2.2.2.2.2.2.2.2.2.2.2.2.2.2.2.2.2.2.2.1, u0.2.2.2.2.2.2.2.2.2.2.2.2.2.2.2.2.2.2.2.2.1, u0.2.2.2.2.2.2.2.2.2.2.2.2.2.2.2.2.2.2.2.2.2)
set_option maxHeartbeats 4000000 in
set_option maxRecDepth 100000 in
theorem c_X10_breachCount (l : Launch) (E : zE) (Z : zZ) (hZ0 : zSt Z) (q0 : Nat → Nat) (sz : Nat) (u0 : S_X10) (post : Int32 → S_X10 → Prop) (hw : wp_X10_breachCount u0 post) : Met l yX10_breachCount (zws yX10_breachCount cX10_breachCount 1 (some .int)) r_X10_breachCount (va_Pc [.ref (q0 0)] (zPre Z E (k_X10 E q0 u0) sz)) (va_Qi post (zAt E (va_A (k_X10 E q0 u0) sz) (fun u => k_X10 E q0 u)) (va_A (k_X10 E q0 u0) sz)) 0 0 (va_A (k_X10 E q0 u0) sz) := by
  refine z_ofW (Qf := fun A => va_Qi post (zAt E A (fun u => k_X10 E q0 u)) A) (by decide) (Nat.le_of_ble_eq_true rfl) ?_
  intro p e s m args below meth c A ls C0 hA hK hZ hP hD hS hl
  obtain ⟨hx, hb, hml, hr, hown, hts, hlocks, hin⟩ := id C0
  have hown : s.vm.findClass RX10 = some m.cls := hown
  have hl : lv_has ls 1 [(0, .ref (q0 0))] := hl
  refine lv_aload_n hx hb dX10_breachCount_0 rfl (lv_at hl 0 rfl) ?_
  refine lv_iconst (v := 0) hx hb dX10_breachCount_1 rfl ?_
  refine va_put (D := zD E) (ci := 10) (v := .int (0 : Int32)) (ty := .int) (C := RX10) (T := TX10) (N := 24) hx hb hts uw_X10 tyX10 tyX10_ok nmX10 hown hK hP hD hS 0 rfl rfl 0 (by decide) (hts _ wm_5_116) (fun _ h9 => h9) rfl (by decide +kernel) rfl rfl (Nat.le_of_ble_eq_true rfl) dX10_breachCount_2 (fun H locs hP hD hS => ?_)
  have hP : va_P (zD E) vwCl (k_X10 E q0 ((0 : Int32), u0.2.1, u0.2.2.1, u0.2.2.2.1, u0.2.2.2.2.1, u0.2.2.2.2.2.1, u0.2.2.2.2.2.2.1, u0.2.2.2.2.2.2.2.1, u0.2.2.2.2.2.2.2.2.1, u0.2.2.2.2.2.2.2.2.2.1, u0.2.2.2.2.2.2.2.2.2.2.1, u0.2.2.2.2.2.2.2.2.2.2.2.1, u0.2.2.2.2.2.2.2.2.2.2.2.2.1, u0.2.2.2.2.2.2.2.2.2.2.2.2.2.1, u0.2.2.2.2.2.2.2.2.2.2.2.2.2.2.1, u0.2.2.2.2.2.2.2.2.2.2.2.2.2.2.2.1, u0.2.2.2.2.2.2.2.2.2.2.2.2.2.2.2.2.1, u0.2.2.2.2.2.2.2.2.2.2.2.2.2.2.2.2.2.1, u0.2.2.2.2.2.2.2.2.2.2.2.2.2.2.2.2.2.2.1, u0.2.2.2.2.2.2.2.2.2.2.2.2.2.2.2.2.2.2.2.1, u0.2.2.2.2.2.2.2.2.2.2.2.2.2.2.2.2.2.2.2.2.1, u0.2.2.2.2.2.2.2.2.2.2.2.2.2.2.2.2.2.2.2.2.2)) H := hP
  have hD : va_D A (k_X10 E q0 ((0 : Int32), u0.2.1, u0.2.2.1, u0.2.2.2.1, u0.2.2.2.2.1, u0.2.2.2.2.2.1, u0.2.2.2.2.2.2.1, u0.2.2.2.2.2.2.2.1, u0.2.2.2.2.2.2.2.2.1, u0.2.2.2.2.2.2.2.2.2.1, u0.2.2.2.2.2.2.2.2.2.2.1, u0.2.2.2.2.2.2.2.2.2.2.2.1, u0.2.2.2.2.2.2.2.2.2.2.2.2.1, u0.2.2.2.2.2.2.2.2.2.2.2.2.2.1, u0.2.2.2.2.2.2.2.2.2.2.2.2.2.2.1, u0.2.2.2.2.2.2.2.2.2.2.2.2.2.2.2.1, u0.2.2.2.2.2.2.2.2.2.2.2.2.2.2.2.2.1, u0.2.2.2.2.2.2.2.2.2.2.2.2.2.2.2.2.2.1, u0.2.2.2.2.2.2.2.2.2.2.2.2.2.2.2.2.2.2.1, u0.2.2.2.2.2.2.2.2.2.2.2.2.2.2.2.2.2.2.2.1, u0.2.2.2.2.2.2.2.2.2.2.2.2.2.2.2.2.2.2.2.2.1, u0.2.2.2.2.2.2.2.2.2.2.2.2.2.2.2.2.2.2.2.2.2)) := hD
  refine lv_aload_n hx hb dX10_breachCount_5 rfl (lv_at hl 0 rfl) ?_
  refine va_get (D := zD E) (ci := 10) (v := .ref (q0 2)) (C := RX10) (T := TX10) (N := 24) hx hb hts uw_X10 hown hK hP 0 rfl rfl 8 (by decide) (hts _ wm_5_124) (fun _ h9 => h9) rfl dX10_breachCount_6 ?_
  refine lv_bipush (v := 12) hx hb dX10_breachCount_9 rfl ?_
  refine va_iald hx hb hK hP 2 0 rfl rfl (show ¬ ((12 : Int32) < 0 ∨ 1728 ≤ (12 : Int32).toNatClampNeg) by decide) dX10_breachCount_11 ?_
  refine W.eq (g2 := F0 m 12 ls ([.int (u0.2.2.2.2.2.2.2.2.1 12)])) rfl ?_
  exact z_iret (k := (fun u => k_X10 E q0 u)) ((0 : Int32), u0.2.1, u0.2.2.1, u0.2.2.2.1, u0.2.2.2.2.1, u0.2.2.2.2.2.1, u0.2.2.2.2.2.2.1, u0.2.2.2.2.2.2.2.1, u0.2.2.2.2.2.2.2.2.1, u0.2.2.2.2.2.2.2.2.2.1, u0.2.2.2.2.2.2.2.2.2.2.1, u0.2.2.2.2.2.2.2.2.2.2.2.1, u0.2.2.2.2.2.2.2.2.2.2.2.2.1, u0.2.2.2.2.2.2.2.2.2.2.2.2.2.1, u0.2.2.2.2.2.2.2.2.2.2.2.2.2.2.1, u0.2.2.2.2.2.2.2.2.2.2.2.2.2.2.2.1, u0.2.2.2.2.2.2.2.2.2.2.2.2.2.2.2.2.1, u0.2.2.2.2.2.2.2.2.2.2.2.2.2.2.2.2.2.1, u0.2.2.2.2.2.2.2.2.2.2.2.2.2.2.2.2.2.2.1, u0.2.2.2.2.2.2.2.2.2.2.2.2.2.2.2.2.2.2.2.1, u0.2.2.2.2.2.2.2.2.2.2.2.2.2.2.2.2.2.2.2.2.1, u0.2.2.2.2.2.2.2.2.2.2.2.2.2.2.2.2.2.2.2.2.2) C0 hP hD hS hw dX10_breachCount_12
