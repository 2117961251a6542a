abbrev r_X10_takeWord : Room := { frames := 4, cells := 0, slots := 0, locals := 141 }
def j_X10_takeWord_48 (b1 : List Int32) (x2 : Int32) (u0 : S_X10) (post : Int32 → S_X10 → Prop) : Prop := (x2 < (Int32.ofNat b1.length) → (post (0 : Int32) u0)) ∧ (¬ (x2 < (Int32.ofNat b1.length)) → (wp_X10_byteAt u0 (u0.2.2.2.2.1 + x2) (fun r_20 u_19 => wp_X10_in r_20 (97 : Int32) (122 : Int32) (fun r_22 u_21 => (r_22 = 0 → (∀ x_24 : Int32, x_24 = (u_19.2.2.2.2.1 + x2) → (post (1 : Int32) (u_19.1, u_19.2.1, u_19.2.2.1, u_19.2.2.2.1, x_24, u_19.2.2.2.2.2.1, u_19.2.2.2.2.2.2.1, u_19.2.2.2.2.2.2.2.1, u_19.2.2.2.2.2.2.2.2.1, u_19.2.2.2.2.2.2.2.2.2.1, u_19.2.2.2.2.2.2.2.2.2.2.1, u_19.2.2.2.2.2.2.2.2.2.2.2.1, u_19.2.2.2.2.2.2.2.2.2.2.2.2.1, u_19.2.2.2.2.2.2.2.2.2.2.2.2.2.1, u_19.2.2.2.2.2.2.2.2.2.2.2.2.2.2.1, u_19.2.2.2.2.2.2.2.2.2.2.2.2.2.2.2.1, u_19.2.2.2.2.2.2.2.2.2.2.2.2.2.2.2.2.1, u_19.2.2.2.2.2.2.2.2.2.2.2.2.2.2.2.2.2.1, u_19.2.2.2.2.2.2.2.2.2.2.2.2.2.2.2.2.2.2.1, u_19.2.2.2.2.2.2.2.2.2.2.2.2.2.2.2.2.2.2.2.1, u_19.2.2.2.2.2.2.2.2.2.2.2.2.2.2.2.2.2.2.2.2.1, u_19.2.2.2.2.2.2.2.2.2.2.2.2.2.2.2.2.2.2.2.2.2)))) ∧ (¬ (r_22 = 0) → (post (0 : Int32) u_19))))))
def j_X10_takeWord_16 (K16 : (Int32 × S_X10) → Prop) (b1 : List Int32) (x2 : Int32) (u0 : S_X10) (post : Int32 → S_X10 → Prop) : Prop := ((Int32.ofNat b1.length) ≤ x2 → (j_X10_takeWord_48 b1 x2 u0 post)) ∧ (¬ ((Int32.ofNat b1.length) ≤ x2) → (wp_X10_byteAt u0 (u0.2.2.2.2.1 + x2) (fun r_10 u_9 => vp_in x2 b1.length ∧ ((¬ (r_10 = (b1.getD x2.toNatClampNeg 0 &&& 255)) → (j_X10_takeWord_48 b1 x2 u_9 post)) ∧ (r_10 = (b1.getD x2.toNatClampNeg 0 &&& 255) → (∀ x_15 : Int32, x_15 = x2 + 1 → (K16 (x_15, u_9))))))))
def wp_X10_takeWord (b1 : List Int32) (u0 : S_X10) (post : Int32 → S_X10 → Prop) : Prop := wp_X10_isGood u0 (fun r_2 u_1 => (¬ (r_2 = 0) → (wp_X10_next u_1 (fun r_5 u_4 => ∃ n, zl (fun K st => j_X10_takeWord_16 K b1 st.1 st.2 post) n ((0 : Int32), u_4)))) ∧ (r_2 = 0 → (post (0 : Int32) u_1)))
set_option maxHeartbeats 4000000 in
set_option maxRecDepth 100000 in
theorem t_X10_takeWord_48 {p : Program} {l : Launch} {e : Env} {s : State} {m : MethodId} {args : Array Value} {below : List Frame} {meth : Method} {c : Code} {Z : zZ} {E : zE} {A : Nat → Prop} {q0 : Nat → Nat} (hZ0 : zSt Z) (a1 : Nat) (b1 : List Int32) (hb1 : b1.length < 2 ^ 31) (hs1 : ∀ A U H, Z A U H → zStr a1 b1 A U H) (C0 : zC p s m args meth c yX10_takeWord cX10_takeWord 3 (some .boolean)) (hA : ∀ q : Nat, s.heap.size ≤ q → A q) (hK : va_K (zD E) vwCl (zT E) s) (hZ : Z A s s.heap) (post : Int32 → S_X10 → Prop) : ∀ (x2 : Int32) (u0 : S_X10) (H : Heap) (locs : List Loc) (ls : Array Slot), j_X10_takeWord_48 b1 x2 u0 post → va_P (zD E) vwCl (k_X10 E q0 u0) H → va_D A (k_X10 E q0 u0) → va_S A s.heap H locs → lv_has ls 3 [(0, .ref (q0 0)), (1, .ref a1), (2, .int x2)] → W p l e r_X10_takeWord s m args below meth c H locs 0 0 (MQ below (va_Qi post (zAt E A (fun u => k_X10 E q0 u)) A) args s 0 0 A) (F0 m 48 ls []) := by
  obtain ⟨hx, hb, hml, hr, hown, hts, hlocks, hin⟩ := id C0
  have hown : s.vm.findClass RX10 = some m.cls := hown
  intro x2 u0 H locs ls hw hP hD hS hl
  refine lv_iload_n hx hb dX10_takeWord_48 rfl (lv_at hl 2 rfl) ?_
  refine lv_aload_n hx hb dX10_takeWord_49 rfl (lv_at hl 1 rfl) ?_
  refine z_ki (z_rT (rest := [.int x2]) hZ0 C0 hK hZ hA hP hD hS hl.1 (c_J0_length l E Z hZ0 a1 b1 hs1 H.size (fun r _ => r = Int32.ofNat b1.length) rfl) yv_X10_86 [] rfl (by decide) (hs1 _ _ _ hZ).1 ⟨Nat.le_of_ble_eq_true rfl, Nat.le_of_ble_eq_true rfl⟩ ⟨rfl, rfl⟩ rfl rfl (Nat.le_of_ble_eq_true rfl) ⟨Nat.le_of_ble_eq_true rfl, Nat.le_of_ble_eq_true rfl⟩ dX10_takeWord_50) hP hD hS hA [] [0, 1, 2, 3, 4, 5, 6, 7, 8, 9] [0, 1, 2, 3, 4, 5, 6, 7, 8, 9] rfl (wr := [_, _, _, _, _, _, _, _, _, _]) rfl (by decide) (by decide) (fun _ => k_X10 E q0 u0) (fun _ => rfl) (by decide) (fun r_16 u_17 H locs er_16 hP hD hS => ?_)
  subst er_16
  obtain ⟨hwt, hwf⟩ := hw
  refine lv_icmp_lt (tgt := 76) hx hb dX10_takeWord_53 (by decide) (fun c_18 => ?_) (fun c_18 => ?_)
  · have hw := hwt c_18
    refine lv_iconst (v := 0) hx hb dX10_takeWord_76 rfl ?_
    exact z_zret (k := (fun u => k_X10 E q0 u)) u0 C0 rfl hP hD hS hw dX10_takeWord_77
  · have hw := hwf c_18
    refine lv_aload_n hx hb dX10_takeWord_56 rfl (lv_at hl 0 rfl) ?_
    refine lv_aload_n hx hb dX10_takeWord_57 rfl (lv_at hl 0 rfl) ?_
    refine va_get (D := zD E) (ci := 10) (v := .int u0.2.2.2.2.1) (C := RX10) (T := TX10) (N := 24) hx hb hts uw_X10 hown hK hP 0 rfl rfl 4 (by decide) (hts _ wm_5_120) (fun _ h9 => h9) rfl dX10_takeWord_58 ?_
    refine lv_iload_n hx hb dX10_takeWord_61 rfl (lv_at hl 2 rfl) ?_
    refine lv_iadd hx hb dX10_takeWord_62 ?_
    refine z_ki (z_rV (rest := []) hZ0 C0 hK hZ hA hP hD hS hl.1 (c_X10_byteAt l E Z hZ0 q0 H.size u0 (u0.2.2.2.2.1 + x2) _ hw) yv_X10_64 [0, 1, 2, 3, 4, 5, 6, 7, 8, 9] rfl (by decide) (ci := 10) rfl rfl 0 rfl ⟨Nat.le_of_ble_eq_true rfl, Nat.le_of_ble_eq_true rfl⟩ ⟨rfl, rfl⟩ rfl rfl (Nat.le_of_ble_eq_true rfl) ⟨Nat.le_of_ble_eq_true rfl, Nat.le_of_ble_eq_true rfl⟩ dX10_takeWord_63) hP hD hS hA [0, 1, 2, 3, 4, 5, 6, 7, 8, 9] [] [0, 1, 2, 3, 4, 5, 6, 7, 8, 9] rfl (wr := []) rfl (by decide) (by decide) (fun u => k_X10 E q0 u) (fun u => rfl) (by decide) (fun r_20 u_19 H locs hw hP hD hS => ?_)
    refine lv_bipush (v := 97) hx hb dX10_takeWord_66 rfl ?_
    refine lv_bipush (v := 122) hx hb dX10_takeWord_68 rfl ?_
    refine z_ki (z_rS (rest := []) hZ0 C0 hK hZ hA hP hD hS hl.1 (c_X10_in l E Z hZ0 H.size r_20 (97 : Int32) (122 : Int32) _ hw) yv_X10_74 [] rfl (by decide) ⟨Nat.le_of_ble_eq_true rfl, Nat.le_of_ble_eq_true rfl⟩ ⟨rfl, rfl⟩ rfl rfl (Nat.le_of_ble_eq_true rfl) ⟨Nat.le_of_ble_eq_true rfl, Nat.le_of_ble_eq_true rfl⟩ dX10_takeWord_70) hP hD hS hA [] [0, 1, 2, 3, 4, 5, 6, 7, 8, 9] [0, 1, 2, 3, 4, 5, 6, 7, 8, 9] rfl (wr := [_, _, _, _, _, _, _, _, _, _]) rfl (by decide) (by decide) (fun u => k_X10 E q0 u_19) (fun u => rfl) (by decide) (fun r_22 u_21 H locs hw hP hD hS => ?_)
    obtain ⟨hwt, hwf⟩ := hw
    refine lv_if_eq (tgt := 78) hx hb dX10_takeWord_73 (by decide) (fun c_23 => ?_) (fun c_23 => ?_)
    · have hw := hwt c_23
      refine lv_aload_n hx hb dX10_takeWord_78 rfl (lv_at hl 0 rfl) ?_
      refine lv_dup hx hb dX10_takeWord_79 rfl ?_
      refine va_get (D := zD E) (ci := 10) (v := .int u_19.2.2.2.2.1) (C := RX10) (T := TX10) (N := 24) hx hb hts uw_X10 hown hK hP 0 rfl rfl 4 (by decide) (hts _ wm_5_120) (fun _ h9 => h9) rfl dX10_takeWord_80 ?_
      refine lv_iload_n hx hb dX10_takeWord_83 rfl (lv_at hl 2 rfl) ?_
      refine lv_iadd hx hb dX10_takeWord_84 ?_
      refine lv_topi (fun x_24 ex_24 => ?_)
      have hw := hw x_24 ex_24
      refine va_put (D := zD E) (ci := 10) (v := .int x_24) (ty := .int) (C := RX10) (T := TX10) (N := 24) hx hb hts uw_X10 tyX10 tyX10_ok nmX10 hown hK hP hD hS 0 rfl rfl 4 (by decide) (hts _ wm_5_120) (fun _ h9 => h9) rfl (by decide +kernel) rfl rfl (Nat.le_of_ble_eq_true rfl) dX10_takeWord_85 (fun H locs hP hD hS => ?_)
      have hP : va_P (zD E) vwCl (k_X10 E q0 (u_19.1, u_19.2.1, u_19.2.2.1, u_19.2.2.2.1, x_24, u_19.2.2.2.2.2.1, u_19.2.2.2.2.2.2.1, u_19.2.2.2.2.2.2.2.1, u_19.2.2.2.2.2.2.2.2.1, u_19.2.2.2.2.2.2.2.2.2.1, u_19.2.2.2.2.2.2.2.2.2.2.1, u_19.2.2.2.2.2.2.2.2.2.2.2.1, u_19.2.2.2.2.2.2.2.2.2.2.2.2.1, u_19.2.2.2.2.2.2.2.2.2.2.2.2.2.1, u_19.2.2.2.2.2.2.2.2.2.2.2.2.2.2.1, u_19.2.2.2.2.2.2.2.2.2.2.2.2.2.2.2.1, u_19.2.2.2.2.2.2.2.2.2.2.2.2.2.2.2.2.1, u_19.2.2.2.2.2.2.2.2.2.2.2.2.2.2.2.2.2.1, u_19.2.2.2.2.2.2.2.2.2.2.2.2.2.2.2.2.2.2.1, u_19.2.2.2.2.2.2.2.2.2.2.2.2.2.2.2.2.2.2.2.1, u_19.2.2.2.2.2.2.2.2.2.2.2.2.2.2.2.2.2.2.2.2.1, u_19.2.2.2.2.2.2.2.2.2.2.2.2.2.2.2.2.2.2.2.2.2)) H := hP
      have hD : va_D A (k_X10 E q0 (u_19.1, u_19.2.1, u_19.2.2.1, u_19.2.2.2.1, x_24, u_19.2.2.2.2.2.1, u_19.2.2.2.2.2.2.1, u_19.2.2.2.2.2.2.2.1, u_19.2.2.2.2.2.2.2.2.1, u_19.2.2.2.2.2.2.2.2.2.1, u_19.2.2.2.2.2.2.2.2.2.2.1, u_19.2.2.2.2.2.2.2.2.2.2.2.1, u_19.2.2.2.2.2.2.2.2.2.2.2.2.1, u_19.2.2.2.2.2.2.2.2.2.2.2.2.2.1, u_19.2.2.2.2.2.2.2.2.2.2.2.2.2.2.1, u_19.2.2.2.2.2.2.2.2.2.2.2.2.2.2.2.1, u_19.2.2.2.2.2.2.2.2.2.2.2.2.2.2.2.2.1, u_19.2.2.2.2.2.2.2.2.2.2.2.2.2.2.2.2.2.1, u_19.2.2.2.2.2.2.2.2.2.2.2.2.2.2.2.2.2.2.1, u_19.2.2.2.2.2.2.2.2.2.2.2.2.2.2.2.2.2.2.2.1, u_19.2.2.2.2.2.2.2.2.2.2.2.2.2.2.2.2.2.2.2.2.1, u_19.2.2.2.2.2.2.2.2.2.2.2.2.2.2.2.2.2.2.2.2.2)) := hD
      refine lv_iconst (v := 1) hx hb dX10_takeWord_88 rfl ?_
      exact z_zret (k := (fun u => k_X10 E q0 u)) (u_19.1, u_19.2.1, u_19.2.2.1, u_19.2.2.2.1, x_24, u_19.2.2.2.2.2.1, u_19.2.2.2.2.2.2.1, u_19.2.2.2.2.2.2.2.1, u_19.2.2.2.2.2.2.2.2.1, u_19.2.2.2.2.2.2.2.2.2.1, u_19.2.2.2.2.2.2.2.2.2.2.1, u_19.2.2.2.2.2.2.2.2.2.2.2.1, u_19.2.2.2.2.2.2.2.2.2.2.2.2.1, u_19.2.2.2.2.2.2.2.2.2.2.2.2.2.1, u_19.2.2.2.2.2.2.2.2.2.2.2.2.2.2.1, u_19.2.2.2.2.2.2.2.2.2.2.2.2.2.2.2.1, u_19.2.2.2.2.2.2.2.2.2.2.2.2.2.2.2.2.1, u_19.2.2.2.2.2.2.2.2.2.2.2.2.2.2.2.2.2.1, u_19.2.2.2.2.2.2.2.2.2.2.2.2.2.2.2.2.2.2.1, u_19.2.2.2.2.2.2.2.2.2.2.2.2.2.2.2.2.2.2.2.1, u_19.2.2.2.2.2.2.2.2.2.2.2.2.2.2.2.2.2.2.2.2.1, u_19.2.2.2.2.2.2.2.2.2.2.2.2.2.2.2.2.2.2.2.2.2) C0 rfl hP hD hS hw dX10_takeWord_89
    · have hw := hwf c_23
      refine lv_iconst (v := 0) hx hb dX10_takeWord_76 rfl ?_
      exact z_zret (k := (fun u => k_X10 E q0 u)) u_19 C0 rfl hP hD hS hw dX10_takeWord_77
set_option maxHeartbeats 4000000 in
set_option maxRecDepth 100000 in
theorem t_X10_takeWord_16 {p : Program} {l : Launch} {e : Env} {s : State} {m : MethodId} {args : Array Value} {below : List Frame} {meth : Method} {c : Code} {Z : zZ} {E : zE} {A : Nat → Prop} {q0 : Nat → Nat} (hZ0 : zSt Z) (a1 : Nat) (b1 : List Int32) (hb1 : b1.length < 2 ^ 31) (hs1 : ∀ A U H, Z A U H → zStr a1 b1 A U H) (C0 : zC p s m args meth c yX10_takeWord cX10_takeWord 3 (some .boolean)) (hA : ∀ q : Nat, s.heap.size ≤ q → A q) (hK : va_K (zD E) vwCl (zT E) s) (hZ : Z A s s.heap) (post : Int32 → S_X10 → Prop) : ∀ (n : Nat) (x2 : Int32) (u0 : S_X10) (H : Heap) (locs : List Loc) (ls : Array Slot), zl (fun K st => j_X10_takeWord_16 K b1 st.1 st.2 post) n (x2, u0) → va_P (zD E) vwCl (k_X10 E q0 u0) H → va_D A (k_X10 E q0 u0) → va_S A s.heap H locs → lv_has ls 3 [(0, .ref (q0 0)), (1, .ref a1), (2, .int x2)] → W p l e r_X10_takeWord s m args below meth c H locs 0 0 (MQ below (va_Qi post (zAt E A (fun u => k_X10 E q0 u)) A) args s 0 0 A) (F0 m 16 ls []) := by
  obtain ⟨hx, hb, hml, hr, hown, hts, hlocks, hin⟩ := id C0
  have hown : s.vm.findClass RX10 = some m.cls := hown
  intro n
  induction n with
  | zero => intro x2 u0 H locs ls hw; exact hw.elim
  | succ n hk_16 =>
    intro x2 u0 H locs ls hw hP hD hS hl
    have hw : j_X10_takeWord_16 _ b1 x2 u0 post := hw
    refine lv_iload_n hx hb dX10_takeWord_16 rfl (lv_at hl 2 rfl) ?_
    refine lv_aload_n hx hb dX10_takeWord_17 rfl (lv_at hl 1 rfl) ?_
    refine z_ki (z_rT (rest := [.int x2]) hZ0 C0 hK hZ hA hP hD hS hl.1 (c_J0_length l E Z hZ0 a1 b1 hs1 H.size (fun r _ => r = Int32.ofNat b1.length) rfl) yv_X10_86 [] rfl (by decide) (hs1 _ _ _ hZ).1 ⟨Nat.le_of_ble_eq_true rfl, Nat.le_of_ble_eq_true rfl⟩ ⟨rfl, rfl⟩ rfl rfl (Nat.le_of_ble_eq_true rfl) ⟨Nat.le_of_ble_eq_true rfl, Nat.le_of_ble_eq_true rfl⟩ dX10_takeWord_18) hP hD hS hA [] [0, 1, 2, 3, 4, 5, 6, 7, 8, 9] [0, 1, 2, 3, 4, 5, 6, 7, 8, 9] rfl (wr := [_, _, _, _, _, _, _, _, _, _]) rfl (by decide) (by decide) (fun _ => k_X10 E q0 u0) (fun _ => rfl) (by decide) (fun r_6 u_7 H locs er_6 hP hD hS => ?_)
    subst er_6
    obtain ⟨hwt, hwf⟩ := hw
    refine lv_icmp_ge (tgt := 48) hx hb dX10_takeWord_21 (by decide) (fun c_8 => ?_) (fun c_8 => ?_)
    · have hw := hwt c_8
      exact t_X10_takeWord_48 (l := l) hZ0 a1 b1 hb1 hs1 C0 hA hK hZ post x2 u0 _ _ _ hw hP hD hS (lv_sub hl [0, 1, 2] rfl)
    · have hw := hwf c_8
      refine lv_aload_n hx hb dX10_takeWord_24 rfl (lv_at hl 0 rfl) ?_
      refine lv_aload_n hx hb dX10_takeWord_25 rfl (lv_at hl 0 rfl) ?_
      refine va_get (D := zD E) (ci := 10) (v := .int u0.2.2.2.2.1) (C := RX10) (T := TX10) (N := 24) hx hb hts uw_X10 hown hK hP 0 rfl rfl 4 (by decide) (hts _ wm_5_120) (fun _ h9 => h9) rfl dX10_takeWord_26 ?_
      refine lv_iload_n hx hb dX10_takeWord_29 rfl (lv_at hl 2 rfl) ?_
      refine lv_iadd hx hb dX10_takeWord_30 ?_
      refine z_ki (z_rV (rest := []) hZ0 C0 hK hZ hA hP hD hS hl.1 (c_X10_byteAt l E Z hZ0 q0 H.size u0 (u0.2.2.2.2.1 + x2) _ hw) yv_X10_64 [0, 1, 2, 3, 4, 5, 6, 7, 8, 9] rfl (by decide) (ci := 10) rfl rfl 0 rfl ⟨Nat.le_of_ble_eq_true rfl, Nat.le_of_ble_eq_true rfl⟩ ⟨rfl, rfl⟩ rfl rfl (Nat.le_of_ble_eq_true rfl) ⟨Nat.le_of_ble_eq_true rfl, Nat.le_of_ble_eq_true rfl⟩ dX10_takeWord_31) hP hD hS hA [0, 1, 2, 3, 4, 5, 6, 7, 8, 9] [] [0, 1, 2, 3, 4, 5, 6, 7, 8, 9] rfl (wr := []) rfl (by decide) (by decide) (fun u => k_X10 E q0 u) (fun u => rfl) (by decide) (fun r_10 u_9 H locs hw hP hD hS => ?_)
      refine lv_aload_n hx hb dX10_takeWord_34 rfl (lv_at hl 1 rfl) ?_
      refine lv_iload_n hx hb dX10_takeWord_35 rfl (lv_at hl 2 rfl) ?_
      obtain ⟨h_13, hw⟩ := hw
      refine z_ki (z_rT (rest := [.int r_10]) hZ0 C0 hK hZ hA hP hD hS hl.1 (c_J0_charAt l E Z hZ0 a1 b1 hb1 hs1 H.size x2 (fun r _ => r = b1.getD x2.toNatClampNeg 0 &&& 255) h_13 rfl) yv_X10_91 [] rfl (by decide) (hs1 _ _ _ hZ).1 ⟨Nat.le_of_ble_eq_true rfl, Nat.le_of_ble_eq_true rfl⟩ ⟨rfl, rfl⟩ rfl rfl (Nat.le_of_ble_eq_true rfl) ⟨Nat.le_of_ble_eq_true rfl, Nat.le_of_ble_eq_true rfl⟩ dX10_takeWord_36) hP hD hS hA [] [0, 1, 2, 3, 4, 5, 6, 7, 8, 9] [0, 1, 2, 3, 4, 5, 6, 7, 8, 9] rfl (wr := [_, _, _, _, _, _, _, _, _, _]) rfl (by decide) (by decide) (fun _ => k_X10 E q0 u_9) (fun _ => rfl) (by decide) (fun r_11 u_12 H locs er_11 hP hD hS => ?_)
      subst er_11
      obtain ⟨hwt, hwf⟩ := hw
      refine lv_icmp_ne (tgt := 48) hx hb dX10_takeWord_39 (by decide) (fun c_14 => ?_) (fun c_14 => ?_)
      · have hw := hwt c_14
        exact t_X10_takeWord_48 (l := l) hZ0 a1 b1 hb1 hs1 C0 hA hK hZ post x2 u_9 _ _ _ hw hP hD hS (lv_sub hl [0, 1, 2] rfl)
      · have hw := hwf c_14
        obtain ⟨x_15, ex_15⟩ : ∃ y : Int32, y = x2 + 1 := ⟨_, rfl⟩
        have hw := hw x_15 ex_15
        refine lv_iinc (v := x_15) (lv' := [(2, .int x_15), (0, .ref (q0 0)), (1, .ref a1)]) hx hb dX10_takeWord_42 hl (k := 2) rfl (by rw [ex_15]; rfl) (by decide) rfl (fun ls hl => ?_)
        refine lv_goto (tgt := 16) hx hb dX10_takeWord_45 (by decide) ?_
        exact hk_16 x_15 u_9 _ _ _ hw hP hD hS (lv_sub hl [1, 2, 0] rfl)
set_option maxHeartbeats 4000000 in
set_option maxRecDepth 100000 in
theorem c_X10_takeWord (l : Launch) (E : zE) (Z : zZ) (hZ0 : zSt Z) (a1 : Nat) (b1 : List Int32) (hb1 : b1.length < 2 ^ 31) (hs1 : ∀ A U H, Z A U H → zStr a1 b1 A U H) (q0 : Nat → Nat) (sz : Nat) (u0 : S_X10) (post : Int32 → S_X10 → Prop) (hw : wp_X10_takeWord b1 u0 post) : Met l yX10_takeWord (zws yX10_takeWord cX10_takeWord 3 (some .boolean)) r_X10_takeWord (va_Pc [.ref (q0 0), .ref a1] (zPre Z E (k_X10 E q0 u0) sz)) (va_Qi post (zAt E (va_A (k_X10 E q0 u0) sz) (fun u => k_X10 E q0 u)) (va_A (k_X10 E q0 u0) sz)) 0 0 (va_A (k_X10 E q0 u0) sz) := by
  refine z_ofW (Qf := fun A => va_Qi post (zAt E A (fun u => k_X10 E q0 u)) A) (by decide) (Nat.le_of_ble_eq_true rfl) ?_
  intro p e s m args below meth c A ls C0 hA hK hZ hP hD hS hl
  obtain ⟨hx, hb, hml, hr, hown, hts, hlocks, hin⟩ := id C0
  have hown : s.vm.findClass RX10 = some m.cls := hown
  have hl : lv_has ls 3 [(0, .ref (q0 0)), (1, .ref a1)] := hl
  refine lv_aload_n hx hb dX10_takeWord_0 rfl (lv_at hl 0 rfl) ?_
  refine z_ki (z_rV (rest := []) hZ0 C0 hK hZ hA hP hD hS hl.1 (c_X10_isGood l E Z hZ0 q0 s.heap.size u0 _ hw) yv_X10_78 [0, 1, 2, 3, 4, 5, 6, 7, 8, 9] rfl (by decide) (ci := 10) rfl rfl 0 rfl ⟨Nat.le_of_ble_eq_true rfl, Nat.le_of_ble_eq_true rfl⟩ ⟨rfl, rfl⟩ rfl rfl (Nat.le_of_ble_eq_true rfl) ⟨Nat.le_of_ble_eq_true rfl, Nat.le_of_ble_eq_true rfl⟩ dX10_takeWord_1) hP hD hS hA [0, 1, 2, 3, 4, 5, 6, 7, 8, 9] [] [0, 1, 2, 3, 4, 5, 6, 7, 8, 9] rfl (wr := []) rfl (by decide) (by decide) (fun u => k_X10 E q0 u) (fun u => rfl) (by decide) (fun r_2 u_1 H locs hw hP hD hS => ?_)
  obtain ⟨hwt, hwf⟩ := hw
  refine lv_if_ne (tgt := 9) hx hb dX10_takeWord_4 (by decide) (fun c_3 => ?_) (fun c_3 => ?_)
  · have hw := hwt c_3
    refine lv_aload_n hx hb dX10_takeWord_9 rfl (lv_at hl 0 rfl) ?_
    refine z_ki (z_rV (rest := []) hZ0 C0 hK hZ hA hP hD hS hl.1 (c_X10_next l E Z hZ0 q0 H.size u_1 _ hw) yv_X10_82 [0, 1, 2, 3, 4, 5, 6, 7, 8, 9] rfl (by decide) (ci := 10) rfl rfl 0 rfl ⟨Nat.le_of_ble_eq_true rfl, Nat.le_of_ble_eq_true rfl⟩ ⟨rfl, rfl⟩ rfl rfl (Nat.le_of_ble_eq_true rfl) ⟨Nat.le_of_ble_eq_true rfl, Nat.le_of_ble_eq_true rfl⟩ dX10_takeWord_10) hP hD hS hA [0, 1, 2, 3, 4, 5, 6, 7, 8, 9] [] [0, 1, 2, 3, 4, 5, 6, 7, 8, 9] rfl (wr := []) rfl (by decide) (by decide) (fun u => k_X10 E q0 u) (fun u => rfl) (by decide) (fun r_5 u_4 H locs hw hP hD hS => ?_)
    refine lv_pop hx hb dX10_takeWord_13 rfl ?_
    refine lv_iconst (v := 0) hx hb dX10_takeWord_14 rfl ?_
    refine lv_istore_n (lv' := [(2, .int (0 : Int32)), (0, .ref (q0 0)), (1, .ref a1)]) hx hb dX10_takeWord_15 rfl hl (by decide) rfl (fun ls hl => ?_)
    obtain ⟨n9, hw⟩ := hw
    exact t_X10_takeWord_16 (l := l) hZ0 a1 b1 hb1 hs1 C0 hA hK hZ post n9 (0 : Int32) u_4 _ _ _ hw hP hD hS (lv_sub hl [1, 2, 0] rfl)
  · have hw := hwf c_3
    refine lv_iconst (v := 0) hx hb dX10_takeWord_7 rfl ?_
    exact z_zret (k := (fun u => k_X10 E q0 u)) u_1 C0 rfl hP hD hS hw dX10_takeWord_8
abbrev r_X10_readContract : Room := { frames := 5, cells := 0, slots := 0, locals := 163 }
def j_X10_readContract_84 (K84 : (Int32 × Int32 × S_X10) → Prop) (x1 : Int32) (x2 : Int32) (u0 : S_X10) (post : S_X10 → Prop) : Prop := ((u0.2.2.2.2.2.2.2.2.2.1 0) ≤ x2 → (post u0)) ∧ (¬ ((u0.2.2.2.2.2.2.2.2.2.1 0) ≤ x2) → (wp_X10_period x2 (fun r_21 u_20 => vp_in r_21 1728 ∧ (wp_X10_period x2 (fun r_24 u_23 => vp_in (r_24 + (2 : Int32)) 1728 ∧ (∀ x_26 : Int32, x_26 = x2 + 1 → (K84 (x1, x_26, (u0.1, u0.2.1, u0.2.2.1, u0.2.2.2.1, u0.2.2.2.2.1, u0.2.2.2.2.2.1, u0.2.2.2.2.2.2.1, u0.2.2.2.2.2.2.2.1, u0.2.2.2.2.2.2.2.2.1, (upd (upd u0.2.2.2.2.2.2.2.2.2.1 r_21.toNatClampNeg x1) (r_24 + (2 : Int32)).toNatClampNeg (-1 : Int32)), u0.2.2.2.2.2.2.2.2.2.2.1, u0.2.2.2.2.2.2.2.2.2.2.2.1, u0.2.2.2.2.2.2.2.2.2.2.2.2.1, u0.2.2.2.2.2.2.2.2.2.2.2.2.2.1, u0.2.2.2.2.2.2.2.2.2.2.2.2.2.2.1, u0.2.2.2.2.2.2.2.2.2.2.2.2.2.2.2.1, u0.2.2.2.2.2.2.2.2.2.2.2.2.2.2.2.2.1, u0.2.2.2.2.2.2.2.2.2.2.2.2.2.2.2.2.2.1, u0.2.2.2.2.2.2.2.2.2.2.2.2.2.2.2.2.2.2.1, u0.2.2.2.2.2.2.2.2.2.2.2.2.2.2.2.2.2.2.2.1, u0.2.2.2.2.2.2.2.2.2.2.2.2.2.2.2.2.2.2.2.2.1, u0.2.2.2.2.2.2.2.2.2.2.2.2.2.2.2.2.2.2.2.2.2)))))))))
def j_X10_readContract_19 (u0 : S_X10) (post : S_X10 → Prop) : Prop := wp_X10_number u0 (2 : Int32) (40 : Int32) (fun r_7 u_6 => wp_X10_number (u_6.1, u_6.2.1, u_6.2.2.1, u_6.2.2.2.1, u_6.2.2.2.2.1, u_6.2.2.2.2.2.1, u_6.2.2.2.2.2.2.1, u_6.2.2.2.2.2.2.2.1, u_6.2.2.2.2.2.2.2.2.1, (upd u_6.2.2.2.2.2.2.2.2.2.1 0 r_7), u_6.2.2.2.2.2.2.2.2.2.2.1, u_6.2.2.2.2.2.2.2.2.2.2.2.1, u_6.2.2.2.2.2.2.2.2.2.2.2.2.1, u_6.2.2.2.2.2.2.2.2.2.2.2.2.2.1, u_6.2.2.2.2.2.2.2.2.2.2.2.2.2.2.1, u_6.2.2.2.2.2.2.2.2.2.2.2.2.2.2.2.1, u_6.2.2.2.2.2.2.2.2.2.2.2.2.2.2.2.2.1, u_6.2.2.2.2.2.2.2.2.2.2.2.2.2.2.2.2.2.1, u_6.2.2.2.2.2.2.2.2.2.2.2.2.2.2.2.2.2.2.1, u_6.2.2.2.2.2.2.2.2.2.2.2.2.2.2.2.2.2.2.2.1, u_6.2.2.2.2.2.2.2.2.2.2.2.2.2.2.2.2.2.2.2.2.1, u_6.2.2.2.2.2.2.2.2.2.2.2.2.2.2.2.2.2.2.2.2.2) (0 : Int32) (9999 : Int32) (fun r_9 u_8 => wp_X10_number u_8 (0 : Int32) (999 : Int32) (fun r_11 u_10 => wp_X10_number (u_10.1, u_10.2.1, u_10.2.2.1, u_10.2.2.2.1, u_10.2.2.2.2.1, u_10.2.2.2.2.2.1, u_10.2.2.2.2.2.2.1, u_10.2.2.2.2.2.2.2.1, u_10.2.2.2.2.2.2.2.2.1, (upd u_10.2.2.2.2.2.2.2.2.2.1 2 r_11), u_10.2.2.2.2.2.2.2.2.2.2.1, u_10.2.2.2.2.2.2.2.2.2.2.2.1, u_10.2.2.2.2.2.2.2.2.2.2.2.2.1, u_10.2.2.2.2.2.2.2.2.2.2.2.2.2.1, u_10.2.2.2.2.2.2.2.2.2.2.2.2.2.2.1, u_10.2.2.2.2.2.2.2.2.2.2.2.2.2.2.2.1, u_10.2.2.2.2.2.2.2.2.2.2.2.2.2.2.2.2.1, u_10.2.2.2.2.2.2.2.2.2.2.2.2.2.2.2.2.2.1, u_10.2.2.2.2.2.2.2.2.2.2.2.2.2.2.2.2.2.2.1, u_10.2.2.2.2.2.2.2.2.2.2.2.2.2.2.2.2.2.2.2.1, u_10.2.2.2.2.2.2.2.2.2.2.2.2.2.2.2.2.2.2.2.2.1, u_10.2.2.2.2.2.2.2.2.2.2.2.2.2.2.2.2.2.2.2.2.2) (0 : Int32) (99 : Int32) (fun r_13 u_12 => wp_X10_expect (u_12.1, u_12.2.1, u_12.2.2.1, u_12.2.2.2.1, u_12.2.2.2.2.1, u_12.2.2.2.2.2.1, u_12.2.2.2.2.2.2.1, u_12.2.2.2.2.2.2.2.1, u_12.2.2.2.2.2.2.2.2.1, (upd u_12.2.2.2.2.2.2.2.2.2.1 3 r_13), u_12.2.2.2.2.2.2.2.2.2.2.1, u_12.2.2.2.2.2.2.2.2.2.2.2.1, u_12.2.2.2.2.2.2.2.2.2.2.2.2.1, u_12.2.2.2.2.2.2.2.2.2.2.2.2.2.1, u_12.2.2.2.2.2.2.2.2.2.2.2.2.2.2.1, u_12.2.2.2.2.2.2.2.2.2.2.2.2.2.2.2.1, u_12.2.2.2.2.2.2.2.2.2.2.2.2.2.2.2.2.1, u_12.2.2.2.2.2.2.2.2.2.2.2.2.2.2.2.2.2.1, u_12.2.2.2.2.2.2.2.2.2.2.2.2.2.2.2.2.2.2.1, u_12.2.2.2.2.2.2.2.2.2.2.2.2.2.2.2.2.2.2.2.1, u_12.2.2.2.2.2.2.2.2.2.2.2.2.2.2.2.2.2.2.2.2.1, u_12.2.2.2.2.2.2.2.2.2.2.2.2.2.2.2.2.2.2.2.2.2) (59 : Int32) (fun u_14 => wp_X10_isGood u_14 (fun r_17 u_16 => (¬ (r_17 = 0) → (∃ n, zl (fun K st => j_X10_readContract_84 K st.1 st.2.1 st.2.2 post) n (r_9, (0 : Int32), u_16))) ∧ (r_17 = 0 → (post u_16))))))))
def wp_X10_readContract (u0 : S_X10) (post : S_X10 → Prop) : Prop := wp_X10_takeWord (zsb 27) u0 (fun r_2 u_1 => (¬ (r_2 = 0) → (j_X10_readContract_19 u_1 post)) ∧ (r_2 = 0 → (wp_X10_report u_1 (-2 : Int32) u_1.2.2.2.2.1 (fun u_4 => j_X10_readContract_19 u_4 post))))
set_option maxHeartbeats 4000000 in
set_option maxRecDepth 100000 in
theorem t_X10_readContract_84 {p : Program} {l : Launch} {e : Env} {s : State} {m : MethodId} {args : Array Value} {below : List Frame} {meth : Method} {c : Code} {Z : zZ} {E : zE} {A : Nat → Prop} {q0 : Nat → Nat} (hZ0 : zSt Z) {sa : Nat → Nat} (hZs : zSS Z sa) (C0 : zC p s m args meth c yX10_readContract cX10_readContract 3 none) (hA : ∀ q : Nat, s.heap.size ≤ q → A q) (hK : va_K (zD E) vwCl (zT E) s) (hZ : Z A s s.heap) (post : S_X10 → Prop) : ∀ (n : Nat) (x1 : Int32) (x2 : Int32) (u0 : S_X10) (H : Heap) (locs : List Loc) (ls : Array Slot), zl (fun K st => j_X10_readContract_84 K st.1 st.2.1 st.2.2 post) n (x1, x2, u0) → va_P (zD E) vwCl (k_X10 E q0 u0) H → va_D A (k_X10 E q0 u0) → va_S A s.heap H locs → lv_has ls 3 [(0, .ref (q0 0)), (1, .int x1), (2, .int x2)] → W p l e r_X10_readContract s m args below meth c H locs 0 0 (MQ below (va_Qv post (zAt E A (fun u => k_X10 E q0 u)) A) args s 0 0 A) (F0 m 84 ls []) := by
  obtain ⟨hx, hb, hml, hr, hown, hts, hlocks, hin⟩ := id C0
  have hown : s.vm.findClass RX10 = some m.cls := hown
  intro n
  induction n with
  | zero => intro x1 x2 u0 H locs ls hw; exact hw.elim
  | succ n hk_84 =>
    intro x1 x2 u0 H locs ls hw hP hD hS hl
    have hw : j_X10_readContract_84 _ x1 x2 u0 post := hw
    refine lv_iload_n hx hb dX10_readContract_84 rfl (lv_at hl 2 rfl) ?_
    refine lv_aload_n hx hb dX10_readContract_85 rfl (lv_at hl 0 rfl) ?_
    refine va_get (D := zD E) (ci := 10) (v := .ref (q0 3)) (C := RX10) (T := TX10) (N := 24) hx hb hts uw_X10 hown hK hP 0 rfl rfl 9 (by decide) (hts _ wm_5_125) (fun _ h9 => h9) rfl dX10_readContract_86 ?_
    refine lv_iconst (v := 0) hx hb dX10_readContract_89 rfl ?_
    refine va_iald hx hb hK hP 3 0 rfl rfl (show ¬ ((0 : Int32) < 0 ∨ 1728 ≤ (0 : Int32).toNatClampNeg) by decide) dX10_readContract_90 ?_
    refine W.eq (g2 := F0 m 91 ls ([.int (u0.2.2.2.2.2.2.2.2.2.1 0), .int x2])) rfl ?_
    obtain ⟨hwt, hwf⟩ := hw
    refine lv_icmp_ge (tgt := 122) hx hb dX10_readContract_91 (by decide) (fun c_19 => ?_) (fun c_19 => ?_)
    · have hw := hwt c_19
      exact z_vret (k := (fun u => k_X10 E q0 u)) u0 C0 hP hD hS hw dX10_readContract_122
    · have hw := hwf c_19
      refine lv_aload_n hx hb dX10_readContract_94 rfl (lv_at hl 0 rfl) ?_
      refine va_get (D := zD E) (ci := 10) (v := .ref (q0 3)) (C := RX10) (T := TX10) (N := 24) hx hb hts uw_X10 hown hK hP 0 rfl rfl 9 (by decide) (hts _ wm_5_125) (fun _ h9 => h9) rfl dX10_readContract_95 ?_
      refine lv_iload_n hx hb dX10_readContract_98 rfl (lv_at hl 2 rfl) ?_
      refine z_ki (z_rS (rest := [.ref (q0 3)]) hZ0 C0 hK hZ hA hP hD hS hl.1 (c_X10_period l E Z hZ0 H.size x2 _ hw) yv_X10_148 [] rfl (by decide) ⟨Nat.le_of_ble_eq_true rfl, Nat.le_of_ble_eq_true rfl⟩ ⟨rfl, rfl⟩ rfl rfl (Nat.le_of_ble_eq_true rfl) ⟨Nat.le_of_ble_eq_true rfl, Nat.le_of_ble_eq_true rfl⟩ dX10_readContract_99) hP hD hS hA [] [0, 1, 2, 3, 4, 5, 6, 7, 8, 9] [0, 1, 2, 3, 4, 5, 6, 7, 8, 9] rfl (wr := [_, _, _, _, _, _, _, _, _, _]) rfl (by decide) (by decide) (fun u => k_X10 E q0 u0) (fun u => rfl) (by decide) (fun r_21 u_20 H locs hw hP hD hS => ?_)
      refine lv_iload_n hx hb dX10_readContract_102 rfl (lv_at hl 1 rfl) ?_
      obtain ⟨h_22, hw⟩ := hw
      refine va_iast hx hb hK hP hD hS 3 0 rfl rfl h_22 dX10_readContract_103 (fun H locs hP hD hS => ?_)
      have hP : va_P (zD E) vwCl (k_X10 E q0 (u0.1, u0.2.1, u0.2.2.1, u0.2.2.2.1, u0.2.2.2.2.1, u0.2.2.2.2.2.1, u0.2.2.2.2.2.2.1, u0.2.2.2.2.2.2.2.1, u0.2.2.2.2.2.2.2.2.1, (upd u0.2.2.2.2.2.2.2.2.2.1 r_21.toNatClampNeg x1), u0.2.2.2.2.2.2.2.2.2.2.1, u0.2.2.2.2.2.2.2.2.2.2.2.1, u0.2.2.2.2.2.2.2.2.2.2.2.2.1, u0.2.2.2.2.2.2.2.2.2.2.2.2.2.1, u0.2.2.2.2.2.2.2.2.2.2.2.2.2.2.1, u0.2.2.2.2.2.2.2.2.2.2.2.2.2.2.2.1, u0.2.2.2.2.2.2.2.2.2.2.2.2.2.2.2.2.1, u0.2.2.2.2.2.2.2.2.2.2.2.2.2.2.2.2.2.1, u0.2.2.2.2.2.2.2.2.2.2.2.2.2.2.2.2.2.2.1, u0.2.2.2.2.2.2.2.2.2.2.2.2.2.2.2.2.2.2.2.1, u0.2.2.2.2.2.2.2.2.2.2.2.2.2.2.2.2.2.2.2.2.1, u0.2.2.2.2.2.2.2.2.2.2.2.2.2.2.2.2.2.2.2.2.2)) H := hP
      have hD : va_D A (k_X10 E q0 (u0.1, u0.2.1, u0.2.2.1, u0.2.2.2.1, u0.2.2.2.2.1, u0.2.2.2.2.2.1, u0.2.2.2.2.2.2.1, u0.2.2.2.2.2.2.2.1, u0.2.2.2.2.2.2.2.2.1, (upd u0.2.2.2.2.2.2.2.2.2.1 r_21.toNatClampNeg x1), u0.2.2.2.2.2.2.2.2.2.2.1, u0.2.2.2.2.2.2.2.2.2.2.2.1, u0.2.2.2.2.2.2.2.2.2.2.2.2.1, u0.2.2.2.2.2.2.2.2.2.2.2.2.2.1, u0.2.2.2.2.2.2.2.2.2.2.2.2.2.2.1, u0.2.2.2.2.2.2.2.2.2.2.2.2.2.2.2.1, u0.2.2.2.2.2.2.2.2.2.2.2.2.2.2.2.2.1, u0.2.2.2.2.2.2.2.2.2.2.2.2.2.2.2.2.2.1, u0.2.2.2.2.2.2.2.2.2.2.2.2.2.2.2.2.2.2.1, u0.2.2.2.2.2.2.2.2.2.2.2.2.2.2.2.2.2.2.2.1, u0.2.2.2.2.2.2.2.2.2.2.2.2.2.2.2.2.2.2.2.2.1, u0.2.2.2.2.2.2.2.2.2.2.2.2.2.2.2.2.2.2.2.2.2)) := hD
      refine lv_aload_n hx hb dX10_readContract_104 rfl (lv_at hl 0 rfl) ?_
      refine va_get (D := zD E) (ci := 10) (v := .ref (q0 3)) (C := RX10) (T := TX10) (N := 24) hx hb hts uw_X10 hown hK hP 0 rfl rfl 9 (by decide) (hts _ wm_5_125) (fun _ h9 => h9) rfl dX10_readContract_105 ?_
      refine lv_iload_n hx hb dX10_readContract_108 rfl (lv_at hl 2 rfl) ?_
      refine z_ki (z_rS (rest := [.ref (q0 3)]) hZ0 C0 hK hZ hA hP hD hS hl.1 (c_X10_period l E Z hZ0 H.size x2 _ hw) yv_X10_148 [] rfl (by decide) ⟨Nat.le_of_ble_eq_true rfl, Nat.le_of_ble_eq_true rfl⟩ ⟨rfl, rfl⟩ rfl rfl (Nat.le_of_ble_eq_true rfl) ⟨Nat.le_of_ble_eq_true rfl, Nat.le_of_ble_eq_true rfl⟩ dX10_readContract_109) hP hD hS hA [] [0, 1, 2, 3, 4, 5, 6, 7, 8, 9] [0, 1, 2, 3, 4, 5, 6, 7, 8, 9] rfl (wr := [_, _, _, _, _, _, _, _, _, _]) rfl (by decide) (by decide) (fun u => k_X10 E q0 (u0.1, u0.2.1, u0.2.2.1, u0.2.2.2.1, u0.2.2.2.2.1, u0.2.2.2.2.2.1, u0.2.2.2.2.2.2.1, u0.2.2.2.2.2.2.2.1, u0.2.2.2.2.2.2.2.2.1, (upd u0.2.2.2.2.2.2.2.2.2.1 r_21.toNatClampNeg x1), u0.2.2.2.2.2.2.2.2.2.2.1, u0.2.2.2.2.2.2.2.2.2.2.2.1, u0.2.2.2.2.2.2.2.2.2.2.2.2.1, u0.2.2.2.2.2.2.2.2.2.2.2.2.2.1, u0.2.2.2.2.2.2.2.2.2.2.2.2.2.2.1, u0.2.2.2.2.2.2.2.2.2.2.2.2.2.2.2.1, u0.2.2.2.2.2.2.2.2.2.2.2.2.2.2.2.2.1, u0.2.2.2.2.2.2.2.2.2.2.2.2.2.2.2.2.2.1, u0.2.2.2.2.2.2.2.2.2.2.2.2.2.2.2.2.2.2.1, u0.2.2.2.2.2.2.2.2.2.2.2.2.2.2.2.2.2.2.2.1, u0.2.2.2.2.2.2.2.2.2.2.2.2.2.2.2.2.2.2.2.2.1, u0.2.2.2.2.2.2.2.2.2.2.2.2.2.2.2.2.2.2.2.2.2)) (fun u => rfl) (by decide) (fun r_24 u_23 H locs hw hP hD hS => ?_)
      refine lv_iconst (v := 2) hx hb dX10_readContract_112 rfl ?_
      refine lv_iadd hx hb dX10_readContract_113 ?_
      refine lv_iconst (v := (-1)) hx hb dX10_readContract_114 rfl ?_
      obtain ⟨h_25, hw⟩ := hw
      refine va_iast hx hb hK hP hD hS 3 0 rfl rfl h_25 dX10_readContract_115 (fun H locs hP hD hS => ?_)
      have hP : va_P (zD E) vwCl (k_X10 E q0 (u0.1, u0.2.1, u0.2.2.1, u0.2.2.2.1, u0.2.2.2.2.1, u0.2.2.2.2.2.1, u0.2.2.2.2.2.2.1, u0.2.2.2.2.2.2.2.1, u0.2.2.2.2.2.2.2.2.1, (upd (upd u0.2.2.2.2.2.2.2.2.2.1 r_21.toNatClampNeg x1) (r_24 + (2 : Int32)).toNatClampNeg (-1 : Int32)), u0.2.2.2.2.2.2.2.2.2.2.1, u0.2.2.2.2.2.2.2.2.2.2.2.1, u0.2.2.2.2.2.2.2.2.2.2.2.2.1, u0.2.2.2.2.2.2.2.2.2.2.2.2.2.1, u0.2.2.2.2.2.2.2.2.2.2.2.2.2.2.1, u0.2.2.2.2.2.2.2.2.2.2.2.2.2.2.2.1, u0.2.2.2.2.2.2.2.2.2.2.2.2.2.2.2.2.1, u0.2.2.2.2.2.2.2.2.2.2.2.2.2.2.2.2.2.1, u0.2.2.2.2.2.2.2.2.2.2.2.2.2.2.2.2.2.2.1, u0.2.2.2.2.2.2.2.2.2.2.2.2.2.2.2.2.2.2.2.1, u0.2.2.2.2.2.2.2.2.2.2.2.2.2.2.2.2.2.2.2.2.1, u0.2.2.2.2.2.2.2.2.2.2.2.2.2.2.2.2.2.2.2.2.2)) H := hP
      have hD : va_D A (k_X10 E q0 (u0.1, u0.2.1, u0.2.2.1, u0.2.2.2.1, u0.2.2.2.2.1, u0.2.2.2.2.2.1, u0.2.2.2.2.2.2.1, u0.2.2.2.2.2.2.2.1, u0.2.2.2.2.2.2.2.2.1, (upd (upd u0.2.2.2.2.2.2.2.2.2.1 r_21.toNatClampNeg x1) (r_24 + (2 : Int32)).toNatClampNeg (-1 : Int32)), u0.2.2.2.2.2.2.2.2.2.2.1, u0.2.2.2.2.2.2.2.2.2.2.2.1, u0.2.2.2.2.2.2.2.2.2.2.2.2.1, u0.2.2.2.2.2.2.2.2.2.2.2.2.2.1, u0.2.2.2.2.2.2.2.2.2.2.2.2.2.2.1, u0.2.2.2.2.2.2.2.2.2.2.2.2.2.2.2.1, u0.2.2.2.2.2.2.2.2.2.2.2.2.2.2.2.2.1, u0.2.2.2.2.2.2.2.2.2.2.2.2.2.2.2.2.2.1, u0.2.2.2.2.2.2.2.2.2.2.2.2.2.2.2.2.2.2.1, u0.2.2.2.2.2.2.2.2.2.2.2.2.2.2.2.2.2.2.2.1, u0.2.2.2.2.2.2.2.2.2.2.2.2.2.2.2.2.2.2.2.2.1, u0.2.2.2.2.2.2.2.2.2.2.2.2.2.2.2.2.2.2.2.2.2)) := hD
      obtain ⟨x_26, ex_26⟩ : ∃ y : Int32, y = x2 + 1 := ⟨_, rfl⟩
      have hw := hw x_26 ex_26
      refine lv_iinc (v := x_26) (lv' := [(2, .int x_26), (0, .ref (q0 0)), (1, .int x1)]) hx hb dX10_readContract_116 hl (k := 2) rfl (by rw [ex_26]; rfl) (by decide) rfl (fun ls hl => ?_)
      refine lv_goto (tgt := 84) hx hb dX10_readContract_119 (by decide) ?_
      exact hk_84 x1 x_26 (u0.1, u0.2.1, u0.2.2.1, u0.2.2.2.1, u0.2.2.2.2.1, u0.2.2.2.2.2.1, u0.2.2.2.2.2.2.1, u0.2.2.2.2.2.2.2.1, u0.2.2.2.2.2.2.2.2.1, (upd (upd u0.2.2.2.2.2.2.2.2.2.1 r_21.toNatClampNeg x1) (r_24 + (2 : Int32)).toNatClampNeg (-1 : Int32)), u0.2.2.2.2.2.2.2.2.2.2.1, u0.2.2.2.2.2.2.2.2.2.2.2.1, u0.2.2.2.2.2.2.2.2.2.2.2.2.1, u0.2.2.2.2.2.2.2.2.2.2.2.2.2.1, u0.2.2.2.2.2.2.2.2.2.2.2.2.2.2.1, u0.2.2.2.2.2.2.2.2.2.2.2.2.2.2.2.1, u0.2.2.2.2.2.2.2.2.2.2.2.2.2.2.2.2.1, u0.2.2.2.2.2.2.2.2.2.2.2.2.2.2.2.2.2.1, u0.2.2.2.2.2.2.2.2.2.2.2.2.2.2.2.2.2.2.1, u0.2.2.2.2.2.2.2.2.2.2.2.2.2.2.2.2.2.2.2.1, u0.2.2.2.2.2.2.2.2.2.2.2.2.2.2.2.2.2.2.2.2.1, u0.2.2.2.2.2.2.2.2.2.2.2.2.2.2.2.2.2.2.2.2.2) _ _ _ hw hP hD hS (lv_sub hl [1, 2, 0] rfl)
set_option maxHeartbeats 4000000 in
set_option maxRecDepth 100000 in
theorem t_X10_readContract_19 {p : Program} {l : Launch} {e : Env} {s : State} {m : MethodId} {args : Array Value} {below : List Frame} {meth : Method} {c : Code} {Z : zZ} {E : zE} {A : Nat → Prop} {q0 : Nat → Nat} (hZ0 : zSt Z) {sa : Nat → Nat} (hZs : zSS Z sa) (C0 : zC p s m args meth c yX10_readContract cX10_readContract 3 none) (hA : ∀ q : Nat, s.heap.size ≤ q → A q) (hK : va_K (zD E) vwCl (zT E) s) (hZ : Z A s s.heap) (post : S_X10 → Prop) : ∀ (u0 : S_X10) (H : Heap) (locs : List Loc) (ls : Array Slot), j_X10_readContract_19 u0 post → va_P (zD E) vwCl (k_X10 E q0 u0) H → va_D A (k_X10 E q0 u0) → va_S A s.heap H locs → lv_has ls 3 [(0, .ref (q0 0))] → W p l e r_X10_readContract s m args below meth c H locs 0 0 (MQ below (va_Qv post (zAt E A (fun u => k_X10 E q0 u)) A) args s 0 0 A) (F0 m 19 ls []) := by
  obtain ⟨hx, hb, hml, hr, hown, hts, hlocks, hin⟩ := id C0
  have hown : s.vm.findClass RX10 = some m.cls := hown
  intro u0 H locs ls hw hP hD hS hl
  refine lv_aload_n hx hb dX10_readContract_19 rfl (lv_at hl 0 rfl) ?_
  refine va_get (D := zD E) (ci := 10) (v := .ref (q0 3)) (C := RX10) (T := TX10) (N := 24) hx hb hts uw_X10 hown hK hP 0 rfl rfl 9 (by decide) (hts _ wm_5_125) (fun _ h9 => h9) rfl dX10_readContract_20 ?_
  refine lv_iconst (v := 0) hx hb dX10_readContract_23 rfl ?_
  refine lv_aload_n hx hb dX10_readContract_24 rfl (lv_at hl 0 rfl) ?_
  refine lv_iconst (v := 2) hx hb dX10_readContract_25 rfl ?_
  refine lv_bipush (v := 40) hx hb dX10_readContract_26 rfl ?_
  refine z_ki (z_rV (rest := [.int (0 : Int32), .ref (q0 3)]) hZ0 C0 hK hZ hA hP hD hS hl.1 (c_X10_number l E Z hZ0 q0 H.size u0 (2 : Int32) (40 : Int32) _ hw) yv_X10_131 [0, 1, 2, 3, 4, 5, 6, 7, 8, 9] rfl (by decide) (ci := 10) rfl rfl 0 rfl ⟨Nat.le_of_ble_eq_true rfl, Nat.le_of_ble_eq_true rfl⟩ ⟨rfl, rfl⟩ rfl rfl (Nat.le_of_ble_eq_true rfl) ⟨Nat.le_of_ble_eq_true rfl, Nat.le_of_ble_eq_true rfl⟩ dX10_readContract_28) hP hD hS hA [0, 1, 2, 3, 4, 5, 6, 7, 8, 9] [] [0, 1, 2, 3, 4, 5, 6, 7, 8, 9] rfl (wr := []) rfl (by decide) (by decide) (fun u => k_X10 E q0 u) (fun u => rfl) (by decide) (fun r_7 u_6 H locs hw hP hD hS => ?_)
  refine va_iast hx hb hK hP hD hS 3 0 rfl rfl (show ¬ ((0 : Int32) < 0 ∨ 1728 ≤ (0 : Int32).toNatClampNeg) by decide) dX10_readContract_31 (fun H locs hP hD hS => ?_)
  have hP : va_P (zD E) vwCl (k_X10 E q0 (u_6.1, u_6.2.1, u_6.2.2.1, u_6.2.2.2.1, u_6.2.2.2.2.1, u_6.2.2.2.2.2.1, u_6.2.2.2.2.2.2.1, u_6.2.2.2.2.2.2.2.1, u_6.2.2.2.2.2.2.2.2.1, (upd u_6.2.2.2.2.2.2.2.2.2.1 0 r_7), u_6.2.2.2.2.2.2.2.2.2.2.1, u_6.2.2.2.2.2.2.2.2.2.2.2.1, u_6.2.2.2.2.2.2.2.2.2.2.2.2.1, u_6.2.2.2.2.2.2.2.2.2.2.2.2.2.1, u_6.2.2.2.2.2.2.2.2.2.2.2.2.2.2.1, u_6.2.2.2.2.2.2.2.2.2.2.2.2.2.2.2.1, u_6.2.2.2.2.2.2.2.2.2.2.2.2.2.2.2.2.1, u_6.2.2.2.2.2.2.2.2.2.2.2.2.2.2.2.2.2.1, u_6.2.2.2.2.2.2.2.2.2.2.2.2.2.2.2.2.2.2.1, u_6.2.2.2.2.2.2.2.2.2.2.2.2.2.2.2.2.2.2.2.1, u_6.2.2.2.2.2.2.2.2.2.2.2.2.2.2.2.2.2.2.2.2.1, u_6.2.2.2.2.2.2.2.2.2.2.2.2.2.2.2.2.2.2.2.2.2)) H := hP
  have hD : va_D A (k_X10 E q0 (u_6.1, u_6.2.1, u_6.2.2.1, u_6.2.2.2.1, u_6.2.2.2.2.1, u_6.2.2.2.2.2.1, u_6.2.2.2.2.2.2.1, u_6.2.2.2.2.2.2.2.1, u_6.2.2.2.2.2.2.2.2.1, (upd u_6.2.2.2.2.2.2.2.2.2.1 0 r_7), u_6.2.2.2.2.2.2.2.2.2.2.1, u_6.2.2.2.2.2.2.2.2.2.2.2.1, u_6.2.2.2.2.2.2.2.2.2.2.2.2.1, u_6.2.2.2.2.2.2.2.2.2.2.2.2.2.1, u_6.2.2.2.2.2.2.2.2.2.2.2.2.2.2.1, u_6.2.2.2.2.2.2.2.2.2.2.2.2.2.2.2.1, u_6.2.2.2.2.2.2.2.2.2.2.2.2.2.2.2.2.1, u_6.2.2.2.2.2.2.2.2.2.2.2.2.2.2.2.2.2.1, u_6.2.2.2.2.2.2.2.2.2.2.2.2.2.2.2.2.2.2.1, u_6.2.2.2.2.2.2.2.2.2.2.2.2.2.2.2.2.2.2.2.1, u_6.2.2.2.2.2.2.2.2.2.2.2.2.2.2.2.2.2.2.2.2.1, u_6.2.2.2.2.2.2.2.2.2.2.2.2.2.2.2.2.2.2.2.2.2)) := hD
  refine lv_aload_n hx hb dX10_readContract_32 rfl (lv_at hl 0 rfl) ?_
  refine lv_iconst (v := 0) hx hb dX10_readContract_33 rfl ?_
  refine lv_sipush (v := 9999) hx hb dX10_readContract_34 rfl ?_
  refine z_ki (z_rV (rest := []) hZ0 C0 hK hZ hA hP hD hS hl.1 (c_X10_number l E Z hZ0 q0 H.size (u_6.1, u_6.2.1, u_6.2.2.1, u_6.2.2.2.1, u_6.2.2.2.2.1, u_6.2.2.2.2.2.1, u_6.2.2.2.2.2.2.1, u_6.2.2.2.2.2.2.2.1, u_6.2.2.2.2.2.2.2.2.1, (upd u_6.2.2.2.2.2.2.2.2.2.1 0 r_7), u_6.2.2.2.2.2.2.2.2.2.2.1, u_6.2.2.2.2.2.2.2.2.2.2.2.1, u_6.2.2.2.2.2.2.2.2.2.2.2.2.1, u_6.2.2.2.2.2.2.2.2.2.2.2.2.2.1, u_6.2.2.2.2.2.2.2.2.2.2.2.2.2.2.1, u_6.2.2.2.2.2.2.2.2.2.2.2.2.2.2.2.1, u_6.2.2.2.2.2.2.2.2.2.2.2.2.2.2.2.2.1, u_6.2.2.2.2.2.2.2.2.2.2.2.2.2.2.2.2.2.1, u_6.2.2.2.2.2.2.2.2.2.2.2.2.2.2.2.2.2.2.1, u_6.2.2.2.2.2.2.2.2.2.2.2.2.2.2.2.2.2.2.2.1, u_6.2.2.2.2.2.2.2.2.2.2.2.2.2.2.2.2.2.2.2.2.1, u_6.2.2.2.2.2.2.2.2.2.2.2.2.2.2.2.2.2.2.2.2.2) (0 : Int32) (9999 : Int32) _ hw) yv_X10_131 [0, 1, 2, 3, 4, 5, 6, 7, 8, 9] rfl (by decide) (ci := 10) rfl rfl 0 rfl ⟨Nat.le_of_ble_eq_true rfl, Nat.le_of_ble_eq_true rfl⟩ ⟨rfl, rfl⟩ rfl rfl (Nat.le_of_ble_eq_true rfl) ⟨Nat.le_of_ble_eq_true rfl, Nat.le_of_ble_eq_true rfl⟩ dX10_readContract_37) hP hD hS hA [0, 1, 2, 3, 4, 5, 6, 7, 8, 9] [] [0, 1, 2, 3, 4, 5, 6, 7, 8, 9] rfl (wr := []) rfl (by decide) (by decide) (fun u => k_X10 E q0 u) (fun u => rfl) (by decide) (fun r_9 u_8 H locs hw hP hD hS => ?_)
  refine lv_istore_n (lv' := [(1, .int r_9), (0, .ref (q0 0))]) hx hb dX10_readContract_40 rfl hl (by decide) rfl (fun ls hl => ?_)
  refine lv_aload_n hx hb dX10_readContract_41 rfl (lv_at hl 1 rfl) ?_
  refine va_get (D := zD E) (ci := 10) (v := .ref (q0 3)) (C := RX10) (T := TX10) (N := 24) hx hb hts uw_X10 hown hK hP 0 rfl rfl 9 (by decide) (hts _ wm_5_125) (fun _ h9 => h9) rfl dX10_readContract_42 ?_
  refine lv_iconst (v := 2) hx hb dX10_readContract_45 rfl ?_
  refine lv_aload_n hx hb dX10_readContract_46 rfl (lv_at hl 1 rfl) ?_
  refine lv_iconst (v := 0) hx hb dX10_readContract_47 rfl ?_
  refine lv_sipush (v := 999) hx hb dX10_readContract_48 rfl ?_
  refine z_ki (z_rV (rest := [.int (2 : Int32), .ref (q0 3)]) hZ0 C0 hK hZ hA hP hD hS hl.1 (c_X10_number l E Z hZ0 q0 H.size u_8 (0 : Int32) (999 : Int32) _ hw) yv_X10_131 [0, 1, 2, 3, 4, 5, 6, 7, 8, 9] rfl (by decide) (ci := 10) rfl rfl 0 rfl ⟨Nat.le_of_ble_eq_true rfl, Nat.le_of_ble_eq_true rfl⟩ ⟨rfl, rfl⟩ rfl rfl (Nat.le_of_ble_eq_true rfl) ⟨Nat.le_of_ble_eq_true rfl, Nat.le_of_ble_eq_true rfl⟩ dX10_readContract_51) hP hD hS hA [0, 1, 2, 3, 4, 5, 6, 7, 8, 9] [] [0, 1, 2, 3, 4, 5, 6, 7, 8, 9] rfl (wr := []) rfl (by decide) (by decide) (fun u => k_X10 E q0 u) (fun u => rfl) (by decide) (fun r_11 u_10 H locs hw hP hD hS => ?_)
  refine va_iast hx hb hK hP hD hS 3 0 rfl rfl (show ¬ ((2 : Int32) < 0 ∨ 1728 ≤ (2 : Int32).toNatClampNeg) by decide) dX10_readContract_54 (fun H locs hP hD hS => ?_)
  have hP : va_P (zD E) vwCl (k_X10 E q0 (u_10.1, u_10.2.1, u_10.2.2.1, u_10.2.2.2.1, u_10.2.2.2.2.1, u_10.2.2.2.2.2.1, u_10.2.2.2.2.2.2.1, u_10.2.2.2.2.2.2.2.1, u_10.2.2.2.2.2.2.2.2.1, (upd u_10.2.2.2.2.2.2.2.2.2.1 2 r_11), u_10.2.2.2.2.2.2.2.2.2.2.1, u_10.2.2.2.2.2.2.2.2.2.2.2.1, u_10.2.2.2.2.2.2.2.2.2.2.2.2.1, u_10.2.2.2.2.2.2.2.2.2.2.2.2.2.1, u_10.2.2.2.2.2.2.2.2.2.2.2.2.2.2.1, u_10.2.2.2.2.2.2.2.2.2.2.2.2.2.2.2.1, u_10.2.2.2.2.2.2.2.2.2.2.2.2.2.2.2.2.1, u_10.2.2.2.2.2.2.2.2.2.2.2.2.2.2.2.2.2.1, u_10.2.2.2.2.2.2.2.2.2.2.2.2.2.2.2.2.2.2.1, u_10.2.2.2.2.2.2.2.2.2.2.2.2.2.2.2.2.2.2.2.1, u_10.2.2.2.2.2.2.2.2.2.2.2.2.2.2.2.2.2.2.2.2.1, u_10.2.2.2.2.2.2.2.2.2.2.2.2.2.2.2.2.2.2.2.2.2)) H := hP
  have hD : va_D A (k_X10 E q0 (u_10.1, u_10.2.1, u_10.2.2.1, u_10.2.2.2.1, u_10.2.2.2.2.1, u_10.2.2.2.2.2.1, u_10.2.2.2.2.2.2.1, u_10.2.2.2.2.2.2.2.1, u_10.2.2.2.2.2.2.2.2.1, (upd u_10.2.2.2.2.2.2.2.2.2.1 2 r_11), u_10.2.2.2.2.2.2.2.2.2.2.1, u_10.2.2.2.2.2.2.2.2.2.2.2.1, u_10.2.2.2.2.2.2.2.2.2.2.2.2.1, u_10.2.2.2.2.2.2.2.2.2.2.2.2.2.1, u_10.2.2.2.2.2.2.2.2.2.2.2.2.2.2.1, u_10.2.2.2.2.2.2.2.2.2.2.2.2.2.2.2.1, u_10.2.2.2.2.2.2.2.2.2.2.2.2.2.2.2.2.1, u_10.2.2.2.2.2.2.2.2.2.2.2.2.2.2.2.2.2.1, u_10.2.2.2.2.2.2.2.2.2.2.2.2.2.2.2.2.2.2.1, u_10.2.2.2.2.2.2.2.2.2.2.2.2.2.2.2.2.2.2.2.1, u_10.2.2.2.2.2.2.2.2.2.2.2.2.2.2.2.2.2.2.2.2.1, u_10.2.2.2.2.2.2.2.2.2.2.2.2.2.2.2.2.2.2.2.2.2)) := hD
  refine lv_aload_n hx hb dX10_readContract_55 rfl (lv_at hl 1 rfl) ?_
  refine va_get (D := zD E) (ci := 10) (v := .ref (q0 3)) (C := RX10) (T := TX10) (N := 24) hx hb hts uw_X10 hown hK hP 0 rfl rfl 9 (by decide) (hts _ wm_5_125) (fun _ h9 => h9) rfl dX10_readContract_56 ?_
  refine lv_iconst (v := 3) hx hb dX10_readContract_59 rfl ?_
  refine lv_aload_n hx hb dX10_readContract_60 rfl (lv_at hl 1 rfl) ?_
  refine lv_iconst (v := 0) hx hb dX10_readContract_61 rfl ?_
  refine lv_bipush (v := 99) hx hb dX10_readContract_62 rfl ?_
  refine z_ki (z_rV (rest := [.int (3 : Int32), .ref (q0 3)]) hZ0 C0 hK hZ hA hP hD hS hl.1 (c_X10_number l E Z hZ0 q0 H.size (u_10.1, u_10.2.1, u_10.2.2.1, u_10.2.2.2.1, u_10.2.2.2.2.1, u_10.2.2.2.2.2.1, u_10.2.2.2.2.2.2.1, u_10.2.2.2.2.2.2.2.1, u_10.2.2.2.2.2.2.2.2.1, (upd u_10.2.2.2.2.2.2.2.2.2.1 2 r_11), u_10.2.2.2.2.2.2.2.2.2.2.1, u_10.2.2.2.2.2.2.2.2.2.2.2.1, u_10.2.2.2.2.2.2.2.2.2.2.2.2.1, u_10.2.2.2.2.2.2.2.2.2.2.2.2.2.1, u_10.2.2.2.2.2.2.2.2.2.2.2.2.2.2.1, u_10.2.2.2.2.2.2.2.2.2.2.2.2.2.2.2.1, u_10.2.2.2.2.2.2.2.2.2.2.2.2.2.2.2.2.1, u_10.2.2.2.2.2.2.2.2.2.2.2.2.2.2.2.2.2.1, u_10.2.2.2.2.2.2.2.2.2.2.2.2.2.2.2.2.2.2.1, u_10.2.2.2.2.2.2.2.2.2.2.2.2.2.2.2.2.2.2.2.1, u_10.2.2.2.2.2.2.2.2.2.2.2.2.2.2.2.2.2.2.2.2.1, u_10.2.2.2.2.2.2.2.2.2.2.2.2.2.2.2.2.2.2.2.2.2) (0 : Int32) (99 : Int32) _ hw) yv_X10_131 [0, 1, 2, 3, 4, 5, 6, 7, 8, 9] rfl (by decide) (ci := 10) rfl rfl 0 rfl ⟨Nat.le_of_ble_eq_true rfl, Nat.le_of_ble_eq_true rfl⟩ ⟨rfl, rfl⟩ rfl rfl (Nat.le_of_ble_eq_true rfl) ⟨Nat.le_of_ble_eq_true rfl, Nat.le_of_ble_eq_true rfl⟩ dX10_readContract_64) hP hD hS hA [0, 1, 2, 3, 4, 5, 6, 7, 8, 9] [] [0, 1, 2, 3, 4, 5, 6, 7, 8, 9] rfl (wr := []) rfl (by decide) (by decide) (fun u => k_X10 E q0 u) (fun u => rfl) (by decide) (fun r_13 u_12 H locs hw hP hD hS => ?_)
  refine va_iast hx hb hK hP hD hS 3 0 rfl rfl (show ¬ ((3 : Int32) < 0 ∨ 1728 ≤ (3 : Int32).toNatClampNeg) by decide) dX10_readContract_67 (fun H locs hP hD hS => ?_)
  have hP : va_P (zD E) vwCl (k_X10 E q0 (u_12.1, u_12.2.1, u_12.2.2.1, u_12.2.2.2.1, u_12.2.2.2.2.1, u_12.2.2.2.2.2.1, u_12.2.2.2.2.2.2.1, u_12.2.2.2.2.2.2.2.1, u_12.2.2.2.2.2.2.2.2.1, (upd u_12.2.2.2.2.2.2.2.2.2.1 3 r_13), u_12.2.2.2.2.2.2.2.2.2.2.1, u_12.2.2.2.2.2.2.2.2.2.2.2.1, u_12.2.2.2.2.2.2.2.2.2.2.2.2.1, u_12.2.2.2.2.2.2.2.2.2.2.2.2.2.1, u_12.2.2.2.2.2.2.2.2.2.2.2.2.2.2.1, u_12.2.2.2.2.2.2.2.2.2.2.2.2.2.2.2.1, u_12.2.2.2.2.2.2.2.2.2.2.2.2.2.2.2.2.1, u_12.2.2.2.2.2.2.2.2.2.2.2.2.2.2.2.2.2.1, u_12.2.2.2.2.2.2.2.2.2.2.2.2.2.2.2.2.2.2.1, u_12.2.2.2.2.2.2.2.2.2.2.2.2.2.2.2.2.2.2.2.1, u_12.2.2.2.2.2.2.2.2.2.2.2.2.2.2.2.2.2.2.2.2.1, u_12.2.2.2.2.2.2.2.2.2.2.2.2.2.2.2.2.2.2.2.2.2)) H := hP
  have hD : va_D A (k_X10 E q0 (u_12.1, u_12.2.1, u_12.2.2.1, u_12.2.2.2.1, u_12.2.2.2.2.1, u_12.2.2.2.2.2.1, u_12.2.2.2.2.2.2.1, u_12.2.2.2.2.2.2.2.1, u_12.2.2.2.2.2.2.2.2.1, (upd u_12.2.2.2.2.2.2.2.2.2.1 3 r_13), u_12.2.2.2.2.2.2.2.2.2.2.1, u_12.2.2.2.2.2.2.2.2.2.2.2.1, u_12.2.2.2.2.2.2.2.2.2.2.2.2.1, u_12.2.2.2.2.2.2.2.2.2.2.2.2.2.1, u_12.2.2.2.2.2.2.2.2.2.2.2.2.2.2.1, u_12.2.2.2.2.2.2.2.2.2.2.2.2.2.2.2.1, u_12.2.2.2.2.2.2.2.2.2.2.2.2.2.2.2.2.1, u_12.2.2.2.2.2.2.2.2.2.2.2.2.2.2.2.2.2.1, u_12.2.2.2.2.2.2.2.2.2.2.2.2.2.2.2.2.2.2.1, u_12.2.2.2.2.2.2.2.2.2.2.2.2.2.2.2.2.2.2.2.1, u_12.2.2.2.2.2.2.2.2.2.2.2.2.2.2.2.2.2.2.2.2.1, u_12.2.2.2.2.2.2.2.2.2.2.2.2.2.2.2.2.2.2.2.2.2)) := hD
  refine lv_aload_n hx hb dX10_readContract_68 rfl (lv_at hl 1 rfl) ?_
  refine lv_bipush (v := 59) hx hb dX10_readContract_69 rfl ?_
  refine z_kv (z_rV (rest := []) hZ0 C0 hK hZ hA hP hD hS hl.1 (c_X10_expect l E Z hZ0 q0 H.size (u_12.1, u_12.2.1, u_12.2.2.1, u_12.2.2.2.1, u_12.2.2.2.2.1, u_12.2.2.2.2.2.1, u_12.2.2.2.2.2.2.1, u_12.2.2.2.2.2.2.2.1, u_12.2.2.2.2.2.2.2.2.1, (upd u_12.2.2.2.2.2.2.2.2.2.1 3 r_13), u_12.2.2.2.2.2.2.2.2.2.2.1, u_12.2.2.2.2.2.2.2.2.2.2.2.1, u_12.2.2.2.2.2.2.2.2.2.2.2.2.1, u_12.2.2.2.2.2.2.2.2.2.2.2.2.2.1, u_12.2.2.2.2.2.2.2.2.2.2.2.2.2.2.1, u_12.2.2.2.2.2.2.2.2.2.2.2.2.2.2.2.1, u_12.2.2.2.2.2.2.2.2.2.2.2.2.2.2.2.2.1, u_12.2.2.2.2.2.2.2.2.2.2.2.2.2.2.2.2.2.1, u_12.2.2.2.2.2.2.2.2.2.2.2.2.2.2.2.2.2.2.1, u_12.2.2.2.2.2.2.2.2.2.2.2.2.2.2.2.2.2.2.2.1, u_12.2.2.2.2.2.2.2.2.2.2.2.2.2.2.2.2.2.2.2.2.1, u_12.2.2.2.2.2.2.2.2.2.2.2.2.2.2.2.2.2.2.2.2.2) (59 : Int32) _ hw) yv_X10_117 [0, 1, 2, 3, 4, 5, 6, 7, 8, 9] rfl (by decide) (ci := 10) rfl rfl 0 rfl ⟨Nat.le_of_ble_eq_true rfl, Nat.le_of_ble_eq_true rfl⟩ ⟨rfl, rfl⟩ rfl rfl (Nat.le_of_ble_eq_true rfl) ⟨Nat.le_of_ble_eq_true rfl, Nat.le_of_ble_eq_true rfl⟩ dX10_readContract_71) hP hD hS hA [0, 1, 2, 3, 4, 5, 6, 7, 8, 9] [] [0, 1, 2, 3, 4, 5, 6, 7, 8, 9] rfl (wr := []) rfl (by decide) (by decide) (fun u => k_X10 E q0 u) (fun u => rfl) (by decide) (fun u_14 H locs hw hP hD hS => ?_)
  refine lv_aload_n hx hb dX10_readContract_74 rfl (lv_at hl 1 rfl) ?_
  refine z_ki (z_rV (rest := []) hZ0 C0 hK hZ hA hP hD hS hl.1 (c_X10_isGood l E Z hZ0 q0 H.size u_14 _ hw) yv_X10_78 [0, 1, 2, 3, 4, 5, 6, 7, 8, 9] rfl (by decide) (ci := 10) rfl rfl 0 rfl ⟨Nat.le_of_ble_eq_true rfl, Nat.le_of_ble_eq_true rfl⟩ ⟨rfl, rfl⟩ rfl rfl (Nat.le_of_ble_eq_true rfl) ⟨Nat.le_of_ble_eq_true rfl, Nat.le_of_ble_eq_true rfl⟩ dX10_readContract_75) hP hD hS hA [0, 1, 2, 3, 4, 5, 6, 7, 8, 9] [] [0, 1, 2, 3, 4, 5, 6, 7, 8, 9] rfl (wr := []) rfl (by decide) (by decide) (fun u => k_X10 E q0 u) (fun u => rfl) (by decide) (fun r_17 u_16 H locs hw hP hD hS => ?_)
  obtain ⟨hwt, hwf⟩ := hw
  refine lv_if_ne (tgt := 82) hx hb dX10_readContract_78 (by decide) (fun c_18 => ?_) (fun c_18 => ?_)
  · have hw := hwt c_18
    refine lv_iconst (v := 0) hx hb dX10_readContract_82 rfl ?_
    refine lv_istore_n (lv' := [(2, .int (0 : Int32)), (1, .int r_9), (0, .ref (q0 0))]) hx hb dX10_readContract_83 rfl hl (by decide) rfl (fun ls hl => ?_)
    obtain ⟨n9, hw⟩ := hw
    exact t_X10_readContract_84 (l := l) hZ0 hZs C0 hA hK hZ post n9 r_9 (0 : Int32) u_16 _ _ _ hw hP hD hS (lv_sub hl [2, 1, 0] rfl)
  · have hw := hwf c_18
    exact z_vret (k := (fun u => k_X10 E q0 u)) u_16 C0 hP hD hS hw dX10_readContract_81
set_option maxHeartbeats 4000000 in
set_option maxRecDepth 100000 in
theorem c_X10_readContract (l : Launch) (E : zE) (Z : zZ) (hZ0 : zSt Z) {sa : Nat → Nat} (hZs : zSS Z sa) (q0 : Nat → Nat) (sz : Nat) (u0 : S_X10) (post : S_X10 → Prop) (hw : wp_X10_readContract u0 post) : Met l yX10_readContract (zws yX10_readContract cX10_readContract 3 none) r_X10_readContract (va_Pc [.ref (q0 0)] (zPre Z E (k_X10 E q0 u0) sz)) (va_Qv post (zAt E (va_A (k_X10 E q0 u0) sz) (fun u => k_X10 E q0 u)) (va_A (k_X10 E q0 u0) sz)) 0 0 (va_A (k_X10 E q0 u0) sz) := by
  refine z_ofW (Qf := fun A => va_Qv post (zAt E A (fun u => k_X10 E q0 u)) A) (by decide) (Nat.le_of_ble_eq_true rfl) ?_
  intro p e s m args below meth c A ls C0 hA hK hZ hP hD hS hl
  obtain ⟨hx, hb, hml, hr, hown, hts, hlocks, hin⟩ := id C0
  have hown : s.vm.findClass RX10 = some m.cls := hown
  have hl : lv_has ls 3 [(0, .ref (q0 0))] := hl
  refine lv_aload_n hx hb dX10_readContract_0 rfl (lv_at hl 0 rfl) ?_
  refine va_ldcS hx hb hown (zsk_27 hZs hZ) dX10_readContract_1 ?_
  refine z_ki (z_rV (rest := []) hZ0 C0 hK hZ hA hP hD hS hl.1 (c_X10_takeWord l E Z hZ0 (sa 27) (zsb 27) zsb_27 (zsh_27 hZs) q0 s.heap.size u0 _ hw) yv_X10_123 [0, 1, 2, 3, 4, 5, 6, 7, 8, 9] rfl (by decide) (ci := 10) rfl rfl 0 rfl ⟨Nat.le_of_ble_eq_true rfl, Nat.le_of_ble_eq_true rfl⟩ ⟨rfl, rfl⟩ rfl rfl (Nat.le_of_ble_eq_true rfl) ⟨Nat.le_of_ble_eq_true rfl, Nat.le_of_ble_eq_true rfl⟩ dX10_readContract_3) hP hD hS hA [0, 1, 2, 3, 4, 5, 6, 7, 8, 9] [] [0, 1, 2, 3, 4, 5, 6, 7, 8, 9] rfl (wr := []) rfl (by decide) (by decide) (fun u => k_X10 E q0 u) (fun u => rfl) (by decide) (fun r_2 u_1 H locs hw hP hD hS => ?_)
  obtain ⟨hwt, hwf⟩ := hw
  refine lv_if_ne (tgt := 19) hx hb dX10_readContract_6 (by decide) (fun c_3 => ?_) (fun c_3 => ?_)
  · have hw := hwt c_3
    exact t_X10_readContract_19 (l := l) hZ0 hZs C0 hA hK hZ post u_1 _ _ _ hw hP hD hS (lv_sub hl [0] rfl)
  · have hw := hwf c_3
    refine lv_aload_n hx hb dX10_readContract_9 rfl (lv_at hl 0 rfl) ?_
    refine lv_bipush (v := (-2)) hx hb dX10_readContract_10 rfl ?_
    refine lv_aload_n hx hb dX10_readContract_12 rfl (lv_at hl 0 rfl) ?_
    refine va_get (D := zD E) (ci := 10) (v := .int u_1.2.2.2.2.1) (C := RX10) (T := TX10) (N := 24) hx hb hts uw_X10 hown hK hP 0 rfl rfl 4 (by decide) (hts _ wm_5_120) (fun _ h9 => h9) rfl dX10_readContract_13 ?_
    refine z_kv (z_rV (rest := []) hZ0 C0 hK hZ hA hP hD hS hl.1 (c_X10_report l E Z hZ0 q0 H.size u_1 (-2 : Int32) u_1.2.2.2.2.1 _ hw) yv_X10_95 [0, 1, 2, 3, 4, 5, 6, 7, 8, 9] rfl (by decide) (ci := 10) rfl rfl 0 rfl ⟨Nat.le_of_ble_eq_true rfl, Nat.le_of_ble_eq_true rfl⟩ ⟨rfl, rfl⟩ rfl rfl (Nat.le_of_ble_eq_true rfl) ⟨Nat.le_of_ble_eq_true rfl, Nat.le_of_ble_eq_true rfl⟩ dX10_readContract_16) hP hD hS hA [0, 1, 2, 3, 4, 5, 6, 7, 8, 9] [] [0, 1, 2, 3, 4, 5, 6, 7, 8, 9] rfl (wr := []) rfl (by decide) (by decide) (fun u => k_X10 E q0 u) (fun u => rfl) (by decide) (fun u_4 H locs hw hP hD hS => ?_)
    exact t_X10_readContract_19 (l := l) hZ0 hZs C0 hA hK hZ post u_4 _ _ _ hw hP hD hS (lv_sub hl [0] rfl)
abbrev r_X10_readBand : Room := { frames := 3, cells := 0, slots := 0, locals := 65 }
def j_X10_readBand_38 (x1 : Int32) (u0 : S_X10) (post : S_X10 → Prop) : Prop := wp_X10_number u0 (0 : Int32) (100 : Int32) (fun r_13 u_12 => wp_X10_number u_12 (0 : Int32) (100 : Int32) (fun r_15 u_14 => wp_X10_isGood u_14 (fun r_17 u_16 => (¬ (r_17 = 0) → (wp_X10_band x1 (fun r_20 u_19 => vp_in r_20 1728 ∧ (wp_X10_band x1 (fun r_23 u_22 => vp_in (r_23 + (1 : Int32)) 1728 ∧ (wp_X10_band x1 (fun r_26 u_25 => vp_in (r_26 + (2 : Int32)) 1728 ∧ (post (u_16.1, u_16.2.1, u_16.2.2.1, u_16.2.2.2.1, u_16.2.2.2.2.1, u_16.2.2.2.2.2.1, u_16.2.2.2.2.2.2.1, u_16.2.2.2.2.2.2.2.1, u_16.2.2.2.2.2.2.2.2.1, (upd (upd (upd u_16.2.2.2.2.2.2.2.2.2.1 r_20.toNatClampNeg (1 : Int32)) (r_23 + (1 : Int32)).toNatClampNeg r_13) (r_26 + (2 : Int32)).toNatClampNeg r_15), u_16.2.2.2.2.2.2.2.2.2.2.1, u_16.2.2.2.2.2.2.2.2.2.2.2.1, u_16.2.2.2.2.2.2.2.2.2.2.2.2.1, u_16.2.2.2.2.2.2.2.2.2.2.2.2.2.1, u_16.2.2.2.2.2.2.2.2.2.2.2.2.2.2.1, u_16.2.2.2.2.2.2.2.2.2.2.2.2.2.2.2.1, u_16.2.2.2.2.2.2.2.2.2.2.2.2.2.2.2.2.1, u_16.2.2.2.2.2.2.2.2.2.2.2.2.2.2.2.2.2.1, u_16.2.2.2.2.2.2.2.2.2.2.2.2.2.2.2.2.2.2.1, u_16.2.2.2.2.2.2.2.2.2.2.2.2.2.2.2.2.2.2.2.1, u_16.2.2.2.2.2.2.2.2.2.2.2.2.2.2.2.2.2.2.2.2.1, u_16.2.2.2.2.2.2.2.2.2.2.2.2.2.2.2.2.2.2.2.2.2))))))))) ∧ (r_17 = 0 → (post u_16)))))
def wp_X10_readBand (u0 : S_X10) (post : S_X10 → Prop) : Prop := wp_X10_number u0 (0 : Int32) (39 : Int32) (fun r_2 u_1 => wp_X10_isGood u_1 (fun r_4 u_3 => (r_4 = 0 → (j_X10_readBand_38 r_2 u_3 post)) ∧ (¬ (r_4 = 0) → (wp_X10_band r_2 (fun r_7 u_6 => vp_in r_7 1728 ∧ ((¬ ((u_3.2.2.2.2.2.2.2.2.2.1 r_7.toNatClampNeg) = (1 : Int32)) → (j_X10_readBand_38 r_2 u_3 post)) ∧ ((u_3.2.2.2.2.2.2.2.2.2.1 r_7.toNatClampNeg) = (1 : Int32) → (wp_X10_report u_3 (-3 : Int32) u_3.2.2.2.2.2.2.2.2.2.2.2.2.2.2.1 (fun u_10 => j_X10_readBand_38 r_2 u_10 post)))))))))
set_option maxHeartbeats 4000000 in
set_option maxRecDepth 100000 in
theorem t_X10_readBand_38 {p : Program} {l : Launch} {e : Env} {s : State} {m : MethodId} {args : Array Value} {below : List Frame} {meth : Method} {c : Code} {Z : zZ} {E : zE} {A : Nat → Prop} {q0 : Nat → Nat} (hZ0 : zSt Z) (C0 : zC p s m args meth c yX10_readBand cX10_readBand 4 none) (hA : ∀ q : Nat, s.heap.size ≤ q → A q) (hK : va_K (zD E) vwCl (zT E) s) (hZ : Z A s s.heap) (post : S_X10 → Prop) : ∀ (x1 : Int32) (u0 : S_X10) (H : Heap) (locs : List Loc) (ls : Array Slot), j_X10_readBand_38 x1 u0 post → va_P (zD E) vwCl (k_X10 E q0 u0) H → va_D A (k_X10 E q0 u0) → va_S A s.heap H locs → lv_has ls 4 [(0, .ref (q0 0)), (1, .int x1)] → W p l e r_X10_readBand s m args below meth c H locs 0 0 (MQ below (va_Qv post (zAt E A (fun u => k_X10 E q0 u)) A) args s 0 0 A) (F0 m 38 ls []) := by
  obtain ⟨hx, hb, hml, hr, hown, hts, hlocks, hin⟩ := id C0
  have hown : s.vm.findClass RX10 = some m.cls := hown
  intro x1 u0 H locs ls hw hP hD hS hl
  refine lv_aload_n hx hb dX10_readBand_38 rfl (lv_at hl 0 rfl) ?_
  refine lv_iconst (v := 0) hx hb dX10_readBand_39 rfl ?_
  refine lv_bipush (v := 100) hx hb dX10_readBand_40 rfl ?_
  refine z_ki (z_rV (rest := []) hZ0 C0 hK hZ hA hP hD hS hl.1 (c_X10_number l E Z hZ0 q0 H.size u0 (0 : Int32) (100 : Int32) _ hw) yv_X10_131 [0, 1, 2, 3, 4, 5, 6, 7, 8, 9] rfl (by decide) (ci := 10) rfl rfl 0 rfl ⟨Nat.le_of_ble_eq_true rfl, Nat.le_of_ble_eq_true rfl⟩ ⟨rfl, rfl⟩ rfl rfl (Nat.le_of_ble_eq_true rfl) ⟨Nat.le_of_ble_eq_true rfl, Nat.le_of_ble_eq_true rfl⟩ dX10_readBand_42) hP hD hS hA [0, 1, 2, 3, 4, 5, 6, 7, 8, 9] [] [0, 1, 2, 3, 4, 5, 6, 7, 8, 9] rfl (wr := []) rfl (by decide) (by decide) (fun u => k_X10 E q0 u) (fun u => rfl) (by decide) (fun r_13 u_12 H locs hw hP hD hS => ?_)
  refine lv_istore_n (lv' := [(2, .int r_13), (0, .ref (q0 0)), (1, .int x1)]) hx hb dX10_readBand_45 rfl hl (by decide) rfl (fun ls hl => ?_)
  refine lv_aload_n hx hb dX10_readBand_46 rfl (lv_at hl 1 rfl) ?_
  refine lv_iconst (v := 0) hx hb dX10_readBand_47 rfl ?_
  refine lv_bipush (v := 100) hx hb dX10_readBand_48 rfl ?_
  refine z_ki (z_rV (rest := []) hZ0 C0 hK hZ hA hP hD hS hl.1 (c_X10_number l E Z hZ0 q0 H.size u_12 (0 : Int32) (100 : Int32) _ hw) yv_X10_131 [0, 1, 2, 3, 4, 5, 6, 7, 8, 9] rfl (by decide) (ci := 10) rfl rfl 0 rfl ⟨Nat.le_of_ble_eq_true rfl, Nat.le_of_ble_eq_true rfl⟩ ⟨rfl, rfl⟩ rfl rfl (Nat.le_of_ble_eq_true rfl) ⟨Nat.le_of_ble_eq_true rfl, Nat.le_of_ble_eq_true rfl⟩ dX10_readBand_50) hP hD hS hA [0, 1, 2, 3, 4, 5, 6, 7, 8, 9] [] [0, 1, 2, 3, 4, 5, 6, 7, 8, 9] rfl (wr := []) rfl (by decide) (by decide) (fun u => k_X10 E q0 u) (fun u => rfl) (by decide) (fun r_15 u_14 H locs hw hP hD hS => ?_)
  refine lv_istore_n (lv' := [(3, .int r_15), (2, .int r_13), (0, .ref (q0 0)), (1, .int x1)]) hx hb dX10_readBand_53 rfl hl (by decide) rfl (fun ls hl => ?_)
  refine lv_aload_n hx hb dX10_readBand_54 rfl (lv_at hl 2 rfl) ?_
  refine z_ki (z_rV (rest := []) hZ0 C0 hK hZ hA hP hD hS hl.1 (c_X10_isGood l E Z hZ0 q0 H.size u_14 _ hw) yv_X10_78 [0, 1, 2, 3, 4, 5, 6, 7, 8, 9] rfl (by decide) (ci := 10) rfl rfl 0 rfl ⟨Nat.le_of_ble_eq_true rfl, Nat.le_of_ble_eq_true rfl⟩ ⟨rfl, rfl⟩ rfl rfl (Nat.le_of_ble_eq_true rfl) ⟨Nat.le_of_ble_eq_true rfl, Nat.le_of_ble_eq_true rfl⟩ dX10_readBand_55) hP hD hS hA [0, 1, 2, 3, 4, 5, 6, 7, 8, 9] [] [0, 1, 2, 3, 4, 5, 6, 7, 8, 9] rfl (wr := []) rfl (by decide) (by decide) (fun u => k_X10 E q0 u) (fun u => rfl) (by decide) (fun r_17 u_16 H locs hw hP hD hS => ?_)
  obtain ⟨hwt, hwf⟩ := hw
  refine lv_if_ne (tgt := 62) hx hb dX10_readBand_58 (by decide) (fun c_18 => ?_) (fun c_18 => ?_)
  · have hw := hwt c_18
    refine lv_aload_n hx hb dX10_readBand_62 rfl (lv_at hl 2 rfl) ?_
    refine va_get (D := zD E) (ci := 10) (v := .ref (q0 3)) (C := RX10) (T := TX10) (N := 24) hx hb hts uw_X10 hown hK hP 0 rfl rfl 9 (by decide) (hts _ wm_5_125) (fun _ h9 => h9) rfl dX10_readBand_63 ?_
    refine lv_iload_n hx hb dX10_readBand_66 rfl (lv_at hl 3 rfl) ?_
    refine z_ki (z_rS (rest := [.ref (q0 3)]) hZ0 C0 hK hZ hA hP hD hS hl.1 (c_X10_band l E Z hZ0 H.size x1 _ hw) yv_X10_150 [] rfl (by decide) ⟨Nat.le_of_ble_eq_true rfl, Nat.le_of_ble_eq_true rfl⟩ ⟨rfl, rfl⟩ rfl rfl (Nat.le_of_ble_eq_true rfl) ⟨Nat.le_of_ble_eq_true rfl, Nat.le_of_ble_eq_true rfl⟩ dX10_readBand_67) hP hD hS hA [] [0, 1, 2, 3, 4, 5, 6, 7, 8, 9] [0, 1, 2, 3, 4, 5, 6, 7, 8, 9] rfl (wr := [_, _, _, _, _, _, _, _, _, _]) rfl (by decide) (by decide) (fun u => k_X10 E q0 u_16) (fun u => rfl) (by decide) (fun r_20 u_19 H locs hw hP hD hS => ?_)
    refine lv_iconst (v := 1) hx hb dX10_readBand_70 rfl ?_
    obtain ⟨h_21, hw⟩ := hw
    refine va_iast hx hb hK hP hD hS 3 0 rfl rfl h_21 dX10_readBand_71 (fun H locs hP hD hS => ?_)
    have hP : va_P (zD E) vwCl (k_X10 E q0 (u_16.1, u_16.2.1, u_16.2.2.1, u_16.2.2.2.1, u_16.2.2.2.2.1, u_16.2.2.2.2.2.1, u_16.2.2.2.2.2.2.1, u_16.2.2.2.2.2.2.2.1, u_16.2.2.2.2.2.2.2.2.1, (upd u_16.2.2.2.2.2.2.2.2.2.1 r_20.toNatClampNeg (1 : Int32)), u_16.2.2.2.2.2.2.2.2.2.2.1, u_16.2.2.2.2.2.2.2.2.2.2.2.1, u_16.2.2.2.2.2.2.2.2.2.2.2.2.1, u_16.2.2.2.2.2.2.2.2.2.2.2.2.2.1, u_16.2.2.2.2.2.2.2.2.2.2.2.2.2.2.1, u_16.2.2.2.2.2.2.2.2.2.2.2.2.2.2.2.1, u_16.2.2.2.2.2.2.2.2.2.2.2.2.2.2.2.2.1, u_16.2.2.2.2.2.2.2.2.2.2.2.2.2.2.2.2.2.1, u_16.2.2.2.2.2.2.2.2.2.2.2.2.2.2.2.2.2.2.1, u_16.2.2.2.2.2.2.2.2.2.2.2.2.2.2.2.2.2.2.2.1, u_16.2.2.2.2.2.2.2.2.2.2.2.2.2.2.2.2.2.2.2.2.1, u_16.2.2.2.2.2.2.2.2.2.2.2.2.2.2.2.2.2.2.2.2.2)) H := hP
    have hD : va_D A (k_X10 E q0 (u_16.1, u_16.2.1, u_16.2.2.1, u_16.2.2.2.1, u_16.2.2.2.2.1, u_16.2.2.2.2.2.1, u_16.2.2.2.2.2.2.1, u_16.2.2.2.2.2.2.2.1, u_16.2.2.2.2.2.2.2.2.1, (upd u_16.2.2.2.2.2.2.2.2.2.1 r_20.toNatClampNeg (1 : Int32)), u_16.2.2.2.2.2.2.2.2.2.2.1, u_16.2.2.2.2.2.2.2.2.2.2.2.1, u_16.2.2.2.2.2.2.2.2.2.2.2.2.1, u_16.2.2.2.2.2.2.2.2.2.2.2.2.2.1, u_16.2.2.2.2.2.2.2.2.2.2.2.2.2.2.1, u_16.2.2.2.2.2.2.2.2.2.2.2.2.2.2.2.1, u_16.2.2.2.2.2.2.2.2.2.2.2.2.2.2.2.2.1, u_16.2.2.2.2.2.2.2.2.2.2.2.2.2.2.2.2.2.1, u_16.2.2.2.2.2.2.2.2.2.2.2.2.2.2.2.2.2.2.1, u_16.2.2.2.2.2.2.2.2.2.2.2.2.2.2.2.2.2.2.2.1, u_16.2.2.2.2.2.2.2.2.2.2.2.2.2.2.2.2.2.2.2.2.1, u_16.2.2.2.2.2.2.2.2.2.2.2.2.2.2.2.2.2.2.2.2.2)) := hD
    refine lv_aload_n hx hb dX10_readBand_72 rfl (lv_at hl 2 rfl) ?_
    refine va_get (D := zD E) (ci := 10) (v := .ref (q0 3)) (C := RX10) (T := TX10) (N := 24) hx hb hts uw_X10 hown hK hP 0 rfl rfl 9 (by decide) (hts _ wm_5_125) (fun _ h9 => h9) rfl dX10_readBand_73 ?_
    refine lv_iload_n hx hb dX10_readBand_76 rfl (lv_at hl 3 rfl) ?_
    refine z_ki (z_rS (rest := [.ref (q0 3)]) hZ0 C0 hK hZ hA hP hD hS hl.1 (c_X10_band l E Z hZ0 H.size x1 _ hw) yv_X10_150 [] rfl (by decide) ⟨Nat.le_of_ble_eq_true rfl, Nat.le_of_ble_eq_true rfl⟩ ⟨rfl, rfl⟩ rfl rfl (Nat.le_of_ble_eq_true rfl) ⟨Nat.le_of_ble_eq_true rfl, Nat.le_of_ble_eq_true rfl⟩ dX10_readBand_77) hP hD hS hA [] [0, 1, 2, 3, 4, 5, 6, 7, 8, 9] [0, 1, 2, 3, 4, 5, 6, 7, 8, 9] rfl (wr := [_, _, _, _, _, _, _, _, _, _]) rfl (by decide) (by decide) (fun u => k_X10 E q0 (u_16.1, u_16.2.1, u_16.2.2.1, u_16.2.2.2.1, u_16.2.2.2.2.1, u_16.2.2.2.2.2.1, u_16.2.2.2.2.2.2.1, u_16.2.2.2.2.2.2.2.1, u_16.2.2.2.2.2.2.2.2.1, (upd u_16.2.2.2.2.2.2.2.2.2.1 r_20.toNatClampNeg (1 : Int32)), u_16.2.2.2.2.2.2.2.2.2.2.1, u_16.2.2.2.2.2.2.2.2.2.2.2.1, u_16.2.2.2.2.2.2.2.2.2.2.2.2.1, u_16.2.2.2.2.2.2.2.2.2.2.2.2.2.1, u_16.2.2.2.2.2.2.2.2.2.2.2.2.2.2.1, u_16.2.2.2.2.2.2.2.2.2.2.2.2.2.2.2.1, u_16.2.2.2.2.2.2.2.2.2.2.2.2.2.2.2.2.1, u_16.2.2.2.2.2.2.2.2.2.2.2.2.2.2.2.2.2.1, u_16.2.2.2.2.2.2.2.2.2.2.2.2.2.2.2.2.2.2.1, u_16.2.2.2.2.2.2.2.2.2.2.2.2.2.2.2.2.2.2.2.1, u_16.2.2.2.2.2.2.2.2.2.2.2.2.2.2.2.2.2.2.2.2.1, u_16.2.2.2.2.2.2.2.2.2.2.2.2.2.2.2.2.2.2.2.2.2)) (fun u => rfl) (by decide) (fun r_23 u_22 H locs hw hP hD hS => ?_)
    refine lv_iconst (v := 1) hx hb dX10_readBand_80 rfl ?_
    refine lv_iadd hx hb dX10_readBand_81 ?_
    refine lv_iload_n hx hb dX10_readBand_82 rfl (lv_at hl 1 rfl) ?_
    obtain ⟨h_24, hw⟩ := hw
    refine va_iast hx hb hK hP hD hS 3 0 rfl rfl h_24 dX10_readBand_83 (fun H locs hP hD hS => ?_)
    have hP : va_P (zD E) vwCl (k_X10 E q0 (u_16.1, u_16.2.1, u_16.2.2.1, u_16.2.2.2.1, u_16.2.2.2.2.1, u_16.2.2.2.2.2.1, u_16.2.2.2.2.2.2.1, u_16.2.2.2.2.2.2.2.1, u_16.2.2.2.2.2.2.2.2.1, (upd (upd u_16.2.2.2.2.2.2.2.2.2.1 r_20.toNatClampNeg (1 : Int32)) (r_23 + (1 : Int32)).toNatClampNeg r_13), u_16.2.2.2.2.2.2.2.2.2.2.1, u_16.2.2.2.2.2.2.2.2.2.2.2.1, u_16.2.2.2.2.2.2.2.2.2.2.2.2.1, u_16.2.2.2.2.2.2.2.2.2.2.2.2.2.1, u_16.2.2.2.2.2.2.2.2.2.2.2.2.2.2.1, u_16.2.2.2.2.2.2.2.2.2.2.2.2.2.2.2.1, u_16.2.2.2.2.2.2.2.2.2.2.2.2.2.2.2.2.1, u_16.2.2.2.2.2.2.2.2.2.2.2.2.2.2.2.2.2.1, u_16.2.2.2.2.2.2.2.2.2.2.2.2.2.2.2.2.2.2.1, u_16.2.2.2.2.2.2.2.2.2.2.2.2.2.2.2.2.2.2.2.1, u_16.2.2.2.2.2.2.2.2.2.2.2.2.2.2.2.2.2.2.2.2.1, u_16.2.2.2.2.2.2.2.2.2.2.2.2.2.2.2.2.2.2.2.2.2)) H := hP
    have hD : va_D A (k_X10 E q0 (u_16.1, u_16.2.1, u_16.2.2.1, u_16.2.2.2.1, u_16.2.2.2.2.1, u_16.2.2.2.2.2.1, u_16.2.2.2.2.2.2.1, u_16.2.2.2.2.2.2.2.1, u_16.2.2.2.2.2.2.2.2.1, (upd (upd u_16.2.2.2.2.2.2.2.2.2.1 r_20.toNatClampNeg (1 : Int32)) (r_23 + (1 : Int32)).toNatClampNeg r_13), u_16.2.2.2.2.2.2.2.2.2.2.1, u_16.2.2.2.2.2.2.2.2.2.2.2.1, u_16.2.2.2.2.2.2.2.2.2.2.2.2.1, u_16.2.2.2.2.2.2.2.2.2.2.2.2.2.1, u_16.2.2.2.2.2.2.2.2.2.2.2.2.2.2.1, u_16.2.2.2.2.2.2.2.2.2.2.2.2.2.2.2.1, u_16.2.2.2.2.2.2.2.2.2.2.2.2.2.2.2.2.1, u_16.2.2.2.2.2.2.2.2.2.2.2.2.2.2.2.2.2.1, u_16.2.2.2.2.2.2.2.2.2.2.2.2.2.2.2.2.2.2.1, u_16.2.2.2.2.2.2.2.2.2.2.2.2.2.2.2.2.2.2.2.1, u_16.2.2.2.2.2.2.2.2.2.2.2.2.2.2.2.2.2.2.2.2.1, u_16.2.2.2.2.2.2.2.2.2.2.2.2.2.2.2.2.2.2.2.2.2)) := hD
    refine lv_aload_n hx hb dX10_readBand_84 rfl (lv_at hl 2 rfl) ?_
    refine va_get (D := zD E) (ci := 10) (v := .ref (q0 3)) (C := RX10) (T := TX10) (N := 24) hx hb hts uw_X10 hown hK hP 0 rfl rfl 9 (by decide) (hts _ wm_5_125) (fun _ h9 => h9) rfl dX10_readBand_85 ?_
    refine lv_iload_n hx hb dX10_readBand_88 rfl (lv_at hl 3 rfl) ?_
    refine z_ki (z_rS (rest := [.ref (q0 3)]) hZ0 C0 hK hZ hA hP hD hS hl.1 (c_X10_band l E Z hZ0 H.size x1 _ hw) yv_X10_150 [] rfl (by decide) ⟨Nat.le_of_ble_eq_true rfl, Nat.le_of_ble_eq_true rfl⟩ ⟨rfl, rfl⟩ rfl rfl (Nat.le_of_ble_eq_true rfl) ⟨Nat.le_of_ble_eq_true rfl, Nat.le_of_ble_eq_true rfl⟩ dX10_readBand_89) hP hD hS hA [] [0, 1, 2, 3, 4, 5, 6, 7, 8, 9] [0, 1, 2, 3, 4, 5, 6, 7, 8, 9] rfl (wr := [_, _, _, _, _, _, _, _, _, _]) rfl (by decide) (by decide) (fun u => k_X10 E q0 (u_16.1, u_16.2.1, u_16.2.2.1, u_16.2.2.2.1, u_16.2.2.2.2.1, u_16.2.2.2.2.2.1, u_16.2.2.2.2.2.2.1, u_16.2.2.2.2.2.2.2.1, u_16.2.2.2.2.2.2.2.2.1, (upd (upd u_16.2.2.2.2.2.2.2.2.2.1 r_20.toNatClampNeg (1 : Int32)) (r_23 + (1 : Int32)).toNatClampNeg r_13), u_16.2.2.2.2.2.2.2.2.2.2.1, u_16.2.2.2.2.2.2.2.2.2.2.2.1, u_16.2.2.2.2.2.2.2.2.2.2.2.2.1, u_16.2.2.2.2.2.2.2.2.2.2.2.2.2.1, u_16.2.2.2.2.2.2.2.2.2.2.2.2.2.2.1, u_16.2.2.2.2.2.2.2.2.2.2.2.2.2.2.2.1, u_16.2.2.2.2.2.2.2.2.2.2.2.2.2.2.2.2.1, u_16.2.2.2.2.2.2.2.2.2.2.2.2.2.2.2.2.2.1, u_16.2.2.2.2.2.2.2.2.2.2.2.2.2.2.2.2.2.2.1, u_16.2.2.2.2.2.2.2.2.2.2.2.2.2.2.2.2.2.2.2.1, u_16.2.2.2.2.2.2.2.2.2.2.2.2.2.2.2.2.2.2.2.2.1, u_16.2.2.2.2.2.2.2.2.2.2.2.2.2.2.2.2.2.2.2.2.2)) (fun u => rfl) (by decide) (fun r_26 u_25 H locs hw hP hD hS => ?_)
    refine lv_iconst (v := 2) hx hb dX10_readBand_92 rfl ?_
    refine lv_iadd hx hb dX10_readBand_93 ?_
    refine lv_iload_n hx hb dX10_readBand_94 rfl (lv_at hl 0 rfl) ?_
    obtain ⟨h_27, hw⟩ := hw
    refine va_iast hx hb hK hP hD hS 3 0 rfl rfl h_27 dX10_readBand_95 (fun H locs hP hD hS => ?_)
    have hP : va_P (zD E) vwCl (k_X10 E q0 (u_16.1, u_16.2.1, u_16.2.2.1, u_16.2.2.2.1, u_16.2.2.2.2.1, u_16.2.2.2.2.2.1, u_16.2.2.2.2.2.2.1, u_16.2.2.2.2.2.2.2.1, u_16.2.2.2.2.2.2.2.2.1, (upd (upd (upd u_16.2.2.2.2.2.2.2.2.2.1 r_20.toNatClampNeg (1 : Int32)) (r_23 + (1 : Int32)).toNatClampNeg r_13) (r_26 + (2 : Int32)).toNatClampNeg r_15), u_16.2.2.2.2.2.2.2.2.2.2.1, u_16.2.2.2.2.2.2.2.2.2.2.2.1, u_16.2.2.2.2.2.2.2.2.2.2.2.2.1, u_16.2.2.2.2.2.2.2.2.2.2.2.2.2.1, u_16.2.2.2.2.2.2.2.2.2.2.2.2.2.2.1, u_16.2.2.2.2.2.2.2.2.2.2.2.2.2.2.2.1, u_16.2.2.2.2.2.2.2.2.2.2.2.2.2.2.2.2.1, u_16.2.2.2.2.2.2.2.2.2.2.2.2.2.2.2.2.2.1, u_16.2.2.2.2.2.2.2.2.2.2.2.2.2.2.2.2.2.2.1, u_16.2.2.2.2.2.2.2.2.2.2.2.2.2.2.2.2.2.2.2.1, u_16.2.2.2.2.2.2.2.2.2.2.2.2.2.2.2.2.2.2.2.2.1, u_16.2.2.2.2.2.2.2.2.2.2.2.2.2.2.2.2.2.2.2.2.2)) H := hP
    have hD : va_D A (k_X10 E q0 (u_16.1, u_16.2.1, u_16.2.2.1, u_16.2.2.2.1, u_16.2.2.2.2.1, u_16.2.2.2.2.2.1, u_16.2.2.2.2.2.2.1, u_16.2.2.2.2.2.2.2.1, u_16.2.2.2.2.2.2.2.2.1, (upd (upd (upd u_16.2.2.2.2.2.2.2.2.2.1 r_20.toNatClampNeg (1 : Int32)) (r_23 + (1 : Int32)).toNatClampNeg r_13) (r_26 + (2 : Int32)).toNatClampNeg r_15), u_16.2.2.2.2.2.2.2.2.2.2.1, u_16.2.2.2.2.2.2.2.2.2.2.2.1, u_16.2.2.2.2.2.2.2.2.2.2.2.2.1, u_16.2.2.2.2.2.2.2.2.2.2.2.2.2.1, u_16.2.2.2.2.2.2.2.2.2.2.2.2.2.2.1, u_16.2.2.2.2.2.2.2.2.2.2.2.2.2.2.2.1, u_16.2.2.2.2.2.2.2.2.2.2.2.2.2.2.2.2.1, u_16.2.2.2.2.2.2.2.2.2.2.2.2.2.2.2.2.2.1, u_16.2.2.2.2.2.2.2.2.2.2.2.2.2.2.2.2.2.2.1, u_16.2.2.2.2.2.2.2.2.2.2.2.2.2.2.2.2.2.2.2.1, u_16.2.2.2.2.2.2.2.2.2.2.2.2.2.2.2.2.2.2.2.2.1, u_16.2.2.2.2.2.2.2.2.2.2.2.2.2.2.2.2.2.2.2.2.2)) := hD
    exact z_vret (k := (fun u => k_X10 E q0 u)) (u_16.1, u_16.2.1, u_16.2.2.1, u_16.2.2.2.1, u_16.2.2.2.2.1, u_16.2.2.2.2.2.1, u_16.2.2.2.2.2.2.1, u_16.2.2.2.2.2.2.2.1, u_16.2.2.2.2.2.2.2.2.1, (upd (upd (upd u_16.2.2.2.2.2.2.2.2.2.1 r_20.toNatClampNeg (1 : Int32)) (r_23 + (1 : Int32)).toNatClampNeg r_13) (r_26 + (2 : Int32)).toNatClampNeg r_15), u_16.2.2.2.2.2.2.2.2.2.2.1, u_16.2.2.2.2.2.2.2.2.2.2.2.1, u_16.2.2.2.2.2.2.2.2.2.2.2.2.1, u_16.2.2.2.2.2.2.2.2.2.2.2.2.2.1, u_16.2.2.2.2.2.2.2.2.2.2.2.2.2.2.1, u_16.2.2.2.2.2.2.2.2.2.2.2.2.2.2.2.1, u_16.2.2.2.2.2.2.2.2.2.2.2.2.2.2.2.2.1, u_16.2.2.2.2.2.2.2.2.2.2.2.2.2.2.2.2.2.1, u_16.2.2.2.2.2.2.2.2.2.2.2.2.2.2.2.2.2.2.1, u_16.2.2.2.2.2.2.2.2.2.2.2.2.2.2.2.2.2.2.2.1, u_16.2.2.2.2.2.2.2.2.2.2.2.2.2.2.2.2.2.2.2.2.1, u_16.2.2.2.2.2.2.2.2.2.2.2.2.2.2.2.2.2.2.2.2.2) C0 hP hD hS hw dX10_readBand_96
  · have hw := hwf c_18
    exact z_vret (k := (fun u => k_X10 E q0 u)) u_16 C0 hP hD hS hw dX10_readBand_61
set_option maxHeartbeats 4000000 in
set_option maxRecDepth 100000 in
theorem c_X10_readBand (l : Launch) (E : zE) (Z : zZ) (hZ0 : zSt Z) (q0 : Nat → Nat) (sz : Nat) (u0 : S_X10) (post : S_X10 → Prop) (hw : wp_X10_readBand u0 post) : Met l yX10_readBand (zws yX10_readBand cX10_readBand 4 none) r_X10_readBand (va_Pc [.ref (q0 0)] (zPre Z E (k_X10 E q0 u0) sz)) (va_Qv post (zAt E (va_A (k_X10 E q0 u0) sz) (fun u => k_X10 E q0 u)) (va_A (k_X10 E q0 u0) sz)) 0 0 (va_A (k_X10 E q0 u0) sz) := by
  refine z_ofW (Qf := fun A => va_Qv post (zAt E A (fun u => k_X10 E q0 u)) A) (by decide) (Nat.le_of_ble_eq_true rfl) ?_
  intro p e s m args below meth c A ls C0 hA hK hZ hP hD hS hl
  obtain ⟨hx, hb, hml, hr, hown, hts, hlocks, hin⟩ := id C0
  have hown : s.vm.findClass RX10 = some m.cls := hown
  have hl : lv_has ls 4 [(0, .ref (q0 0))] := hl
  refine lv_aload_n hx hb dX10_readBand_0 rfl (lv_at hl 0 rfl) ?_
  refine lv_iconst (v := 0) hx hb dX10_readBand_1 rfl ?_
  refine lv_bipush (v := 39) hx hb dX10_readBand_2 rfl ?_
  refine z_ki (z_rV (rest := []) hZ0 C0 hK hZ hA hP hD hS hl.1 (c_X10_number l E Z hZ0 q0 s.heap.size u0 (0 : Int32) (39 : Int32) _ hw) yv_X10_131 [0, 1, 2, 3, 4, 5, 6, 7, 8, 9] rfl (by decide) (ci := 10) rfl rfl 0 rfl ⟨Nat.le_of_ble_eq_true rfl, Nat.le_of_ble_eq_true rfl⟩ ⟨rfl, rfl⟩ rfl rfl (Nat.le_of_ble_eq_true rfl) ⟨Nat.le_of_ble_eq_true rfl, Nat.le_of_ble_eq_true rfl⟩ dX10_readBand_4) hP hD hS hA [0, 1, 2, 3, 4, 5, 6, 7, 8, 9] [] [0, 1, 2, 3, 4, 5, 6, 7, 8, 9] rfl (wr := []) rfl (by decide) (by decide) (fun u => k_X10 E q0 u) (fun u => rfl) (by decide) (fun r_2 u_1 H locs hw hP hD hS => ?_)
  refine lv_istore_n (lv' := [(1, .int r_2), (0, .ref (q0 0))]) hx hb dX10_readBand_7 rfl hl (by decide) rfl (fun ls hl => ?_)
  refine lv_aload_n hx hb dX10_readBand_8 rfl (lv_at hl 1 rfl) ?_
  refine z_ki (z_rV (rest := []) hZ0 C0 hK hZ hA hP hD hS hl.1 (c_X10_isGood l E Z hZ0 q0 H.size u_1 _ hw) yv_X10_78 [0, 1, 2, 3, 4, 5, 6, 7, 8, 9] rfl (by decide) (ci := 10) rfl rfl 0 rfl ⟨Nat.le_of_ble_eq_true rfl, Nat.le_of_ble_eq_true rfl⟩ ⟨rfl, rfl⟩ rfl rfl (Nat.le_of_ble_eq_true rfl) ⟨Nat.le_of_ble_eq_true rfl, Nat.le_of_ble_eq_true rfl⟩ dX10_readBand_9) hP hD hS hA [0, 1, 2, 3, 4, 5, 6, 7, 8, 9] [] [0, 1, 2, 3, 4, 5, 6, 7, 8, 9] rfl (wr := []) rfl (by decide) (by decide) (fun u => k_X10 E q0 u) (fun u => rfl) (by decide) (fun r_4 u_3 H locs hw hP hD hS => ?_)
  obtain ⟨hwt, hwf⟩ := hw
  refine lv_if_eq (tgt := 38) hx hb dX10_readBand_12 (by decide) (fun c_5 => ?_) (fun c_5 => ?_)
  · have hw := hwt c_5
    exact t_X10_readBand_38 (l := l) hZ0 C0 hA hK hZ post r_2 u_3 _ _ _ hw hP hD hS (lv_sub hl [1, 0] rfl)
  · have hw := hwf c_5
    refine lv_aload_n hx hb dX10_readBand_15 rfl (lv_at hl 1 rfl) ?_
    refine va_get (D := zD E) (ci := 10) (v := .ref (q0 3)) (C := RX10) (T := TX10) (N := 24) hx hb hts uw_X10 hown hK hP 0 rfl rfl 9 (by decide) (hts _ wm_5_125) (fun _ h9 => h9) rfl dX10_readBand_16 ?_
    refine lv_iload_n hx hb dX10_readBand_19 rfl (lv_at hl 0 rfl) ?_
    refine z_ki (z_rS (rest := [.ref (q0 3)]) hZ0 C0 hK hZ hA hP hD hS hl.1 (c_X10_band l E Z hZ0 H.size r_2 _ hw) yv_X10_150 [] rfl (by decide) ⟨Nat.le_of_ble_eq_true rfl, Nat.le_of_ble_eq_true rfl⟩ ⟨rfl, rfl⟩ rfl rfl (Nat.le_of_ble_eq_true rfl) ⟨Nat.le_of_ble_eq_true rfl, Nat.le_of_ble_eq_true rfl⟩ dX10_readBand_20) hP hD hS hA [] [0, 1, 2, 3, 4, 5, 6, 7, 8, 9] [0, 1, 2, 3, 4, 5, 6, 7, 8, 9] rfl (wr := [_, _, _, _, _, _, _, _, _, _]) rfl (by decide) (by decide) (fun u => k_X10 E q0 u_3) (fun u => rfl) (by decide) (fun r_7 u_6 H locs hw hP hD hS => ?_)
    obtain ⟨h_8, hw⟩ := hw
    refine va_iald hx hb hK hP 3 0 rfl rfl h_8 dX10_readBand_23 ?_
    refine lv_iconst (v := 1) hx hb dX10_readBand_24 rfl ?_
    obtain ⟨hwt, hwf⟩ := hw
    refine lv_icmp_ne (tgt := 38) hx hb dX10_readBand_25 (by decide) (fun c_9 => ?_) (fun c_9 => ?_)
    · have hw := hwt c_9
      exact t_X10_readBand_38 (l := l) hZ0 C0 hA hK hZ post r_2 u_3 _ _ _ hw hP hD hS (lv_sub hl [1, 0] rfl)
    · have hw := hwf c_9
      refine lv_aload_n hx hb dX10_readBand_28 rfl (lv_at hl 1 rfl) ?_
      refine lv_bipush (v := (-3)) hx hb dX10_readBand_29 rfl ?_
      refine lv_aload_n hx hb dX10_readBand_31 rfl (lv_at hl 1 rfl) ?_
      refine va_get (D := zD E) (ci := 10) (v := .int u_3.2.2.2.2.2.2.2.2.2.2.2.2.2.2.1) (C := RX10) (T := TX10) (N := 24) hx hb hts uw_X10 hown hK hP 0 rfl rfl 16 (by decide) (hts _ wm_5_132) (fun _ h9 => h9) rfl dX10_readBand_32 ?_
      refine z_kv (z_rV (rest := []) hZ0 C0 hK hZ hA hP hD hS hl.1 (c_X10_report l E Z hZ0 q0 H.size u_3 (-3 : Int32) u_3.2.2.2.2.2.2.2.2.2.2.2.2.2.2.1 _ hw) yv_X10_95 [0, 1, 2, 3, 4, 5, 6, 7, 8, 9] rfl (by decide) (ci := 10) rfl rfl 0 rfl ⟨Nat.le_of_ble_eq_true rfl, Nat.le_of_ble_eq_true rfl⟩ ⟨rfl, rfl⟩ rfl rfl (Nat.le_of_ble_eq_true rfl) ⟨Nat.le_of_ble_eq_true rfl, Nat.le_of_ble_eq_true rfl⟩ dX10_readBand_35) hP hD hS hA [0, 1, 2, 3, 4, 5, 6, 7, 8, 9] [] [0, 1, 2, 3, 4, 5, 6, 7, 8, 9] rfl (wr := []) rfl (by decide) (by decide) (fun u => k_X10 E q0 u) (fun u => rfl) (by decide) (fun u_10 H locs hw hP hD hS => ?_)
      exact t_X10_readBand_38 (l := l) hZ0 C0 hA hK hZ post r_2 u_10 _ _ _ hw hP hD hS (lv_sub hl [1, 0] rfl)
abbrev r_X10_readLadder : Room := { frames := 3, cells := 0, slots := 0, locals := 65 }
def j_X10_readLadder_55 (K2 : (Int32 × S_X10) → Prop) (x2 : Int32) (u0 : S_X10) (post : S_X10 → Prop) : Prop := wp_X10_number u0 (0 : Int32) (999 : Int32) (fun r_13 u_12 => wp_X10_isGood u_12 (fun r_15 u_14 => (¬ (r_15 = 0) → (vp_in ((136 : Int32) + ((2 : Int32) * (u_14.2.2.2.2.2.2.2.2.2.1 11))) 1728 ∧ (vp_in (((136 : Int32) + ((2 : Int32) * ((upd u_14.2.2.2.2.2.2.2.2.2.1 ((136 : Int32) + ((2 : Int32) * (u_14.2.2.2.2.2.2.2.2.2.1 11))).toNatClampNeg x2) 11))) + (1 : Int32)) 1728 ∧ (∀ x_19 : Int32, x_19 = (((upd (upd u_14.2.2.2.2.2.2.2.2.2.1 ((136 : Int32) + ((2 : Int32) * (u_14.2.2.2.2.2.2.2.2.2.1 11))).toNatClampNeg x2) (((136 : Int32) + ((2 : Int32) * ((upd u_14.2.2.2.2.2.2.2.2.2.1 ((136 : Int32) + ((2 : Int32) * (u_14.2.2.2.2.2.2.2.2.2.1 11))).toNatClampNeg x2) 11))) + (1 : Int32)).toNatClampNeg r_13) 11) + (1 : Int32)) → (wp_X10_next (u_14.1, u_14.2.1, u_14.2.2.1, u_14.2.2.2.1, u_14.2.2.2.2.1, u_14.2.2.2.2.2.1, u_14.2.2.2.2.2.2.1, u_14.2.2.2.2.2.2.2.1, u_14.2.2.2.2.2.2.2.2.1, (upd (upd (upd u_14.2.2.2.2.2.2.2.2.2.1 ((136 : Int32) + ((2 : Int32) * (u_14.2.2.2.2.2.2.2.2.2.1 11))).toNatClampNeg x2) (((136 : Int32) + ((2 : Int32) * ((upd u_14.2.2.2.2.2.2.2.2.2.1 ((136 : Int32) + ((2 : Int32) * (u_14.2.2.2.2.2.2.2.2.2.1 11))).toNatClampNeg x2) 11))) + (1 : Int32)).toNatClampNeg r_13) 11 x_19), u_14.2.2.2.2.2.2.2.2.2.2.1, u_14.2.2.2.2.2.2.2.2.2.2.2.1, u_14.2.2.2.2.2.2.2.2.2.2.2.2.1, u_14.2.2.2.2.2.2.2.2.2.2.2.2.2.1, u_14.2.2.2.2.2.2.2.2.2.2.2.2.2.2.1, u_14.2.2.2.2.2.2.2.2.2.2.2.2.2.2.2.1, u_14.2.2.2.2.2.2.2.2.2.2.2.2.2.2.2.2.1, u_14.2.2.2.2.2.2.2.2.2.2.2.2.2.2.2.2.2.1, u_14.2.2.2.2.2.2.2.2.2.2.2.2.2.2.2.2.2.2.1, u_14.2.2.2.2.2.2.2.2.2.2.2.2.2.2.2.2.2.2.2.1, u_14.2.2.2.2.2.2.2.2.2.2.2.2.2.2.2.2.2.2.2.2.1, u_14.2.2.2.2.2.2.2.2.2.2.2.2.2.2.2.2.2.2.2.2.2) (fun r_21 u_20 => wp_X10_isDigit r_21 (fun r_23 u_22 => (¬ (r_23 = 0) → (K2 (x2, u_20))) ∧ (r_23 = 0 → (post u_20))))))))) ∧ (r_15 = 0 → (post u_14))))
def j_X10_readLadder_33 (K2 : (Int32 × S_X10) → Prop) (x2 : Int32) (u0 : S_X10) (post : S_X10 → Prop) : Prop := (¬ ((u0.2.2.2.2.2.2.2.2.2.1 11) = (6 : Int32)) → (j_X10_readLadder_55 K2 x2 u0 post)) ∧ ((u0.2.2.2.2.2.2.2.2.2.1 11) = (6 : Int32) → (wp_X10_report u0 (-4 : Int32) u0.2.2.2.2.2.2.2.2.2.2.2.2.2.2.1 (fun u_10 => j_X10_readLadder_55 K2 x2 u_10 post)))
def j_X10_readLadder_2 (K2 : (Int32 × S_X10) → Prop) (x1 : Int32) (u0 : S_X10) (post : S_X10 → Prop) : Prop := wp_X10_number u0 (0 : Int32) (999 : Int32) (fun r_2 u_1 => wp_X10_isGood u_1 (fun r_4 u_3 => (r_4 = 0 → (j_X10_readLadder_33 K2 r_2 u_3 post)) ∧ (¬ (r_4 = 0) → ((x1 < r_2 → (j_X10_readLadder_33 K2 r_2 u_3 post)) ∧ (¬ (x1 < r_2) → (wp_X10_report u_3 (-3 : Int32) u_3.2.2.2.2.2.2.2.2.2.2.2.2.2.2.1 (fun u_7 => j_X10_readLadder_33 K2 r_2 u_7 post)))))))
def wp_X10_readLadder (u0 : S_X10) (post : S_X10 → Prop) : Prop := ∃ n, zl (fun K st => j_X10_readLadder_2 K st.1 st.2 post) n ((-1 : Int32), u0)
set_option maxHeartbeats 4000000 in
set_option maxRecDepth 100000 in
theorem t_X10_readLadder_55 {p : Program} {l : Launch} {e : Env} {s : State} {m : MethodId} {args : Array Value} {below : List Frame} {meth : Method} {c : Code} {Z : zZ} {E : zE} {A : Nat → Prop} {q0 : Nat → Nat} (hZ0 : zSt Z) (C0 : zC p s m args meth c yX10_readLadder cX10_readLadder 4 none) (hA : ∀ q : Nat, s.heap.size ≤ q → A q) (hK : va_K (zD E) vwCl (zT E) s) (hZ : Z A s s.heap) (post : S_X10 → Prop) {K2 : (Int32 × S_X10) → Prop} (hk_2 : ∀ (x1 : Int32) (u0 : S_X10) (H : Heap) (locs : List Loc) (ls : Array Slot), K2 (x1, u0) → va_P (zD E) vwCl (k_X10 E q0 u0) H → va_D A (k_X10 E q0 u0) → va_S A s.heap H locs → lv_has ls 4 [(0, .ref (q0 0)), (1, .int x1)] → W p l e r_X10_readLadder s m args below meth c H locs 0 0 (MQ below (va_Qv post (zAt E A (fun u => k_X10 E q0 u)) A) args s 0 0 A) (F0 m 2 ls [])) : ∀ (x2 : Int32) (u0 : S_X10) (H : Heap) (locs : List Loc) (ls : Array Slot), j_X10_readLadder_55 K2 x2 u0 post → va_P (zD E) vwCl (k_X10 E q0 u0) H → va_D A (k_X10 E q0 u0) → va_S A s.heap H locs → lv_has ls 4 [(0, .ref (q0 0)), (2, .int x2)] → W p l e r_X10_readLadder s m args below meth c H locs 0 0 (MQ below (va_Qv post (zAt E A (fun u => k_X10 E q0 u)) A) args s 0 0 A) (F0 m 55 ls []) := by
  obtain ⟨hx, hb, hml, hr, hown, hts, hlocks, hin⟩ := id C0
  have hown : s.vm.findClass RX10 = some m.cls := hown
  intro x2 u0 H locs ls hw hP hD hS hl
  refine lv_aload_n hx hb dX10_readLadder_55 rfl (lv_at hl 0 rfl) ?_
  refine lv_iconst (v := 0) hx hb dX10_readLadder_56 rfl ?_
  refine lv_sipush (v := 999) hx hb dX10_readLadder_57 rfl ?_
  refine z_ki (z_rV (rest := []) hZ0 C0 hK hZ hA hP hD hS hl.1 (c_X10_number l E Z hZ0 q0 H.size u0 (0 : Int32) (999 : Int32) _ hw) yv_X10_131 [0, 1, 2, 3, 4, 5, 6, 7, 8, 9] rfl (by decide) (ci := 10) rfl rfl 0 rfl ⟨Nat.le_of_ble_eq_true rfl, Nat.le_of_ble_eq_true rfl⟩ ⟨rfl, rfl⟩ rfl rfl (Nat.le_of_ble_eq_true rfl) ⟨Nat.le_of_ble_eq_true rfl, Nat.le_of_ble_eq_true rfl⟩ dX10_readLadder_60) hP hD hS hA [0, 1, 2, 3, 4, 5, 6, 7, 8, 9] [] [0, 1, 2, 3, 4, 5, 6, 7, 8, 9] rfl (wr := []) rfl (by decide) (by decide) (fun u => k_X10 E q0 u) (fun u => rfl) (by decide) (fun r_13 u_12 H locs hw hP hD hS => ?_)
  refine lv_istore_n (lv' := [(3, .int r_13), (0, .ref (q0 0)), (2, .int x2)]) hx hb dX10_readLadder_63 rfl hl (by decide) rfl (fun ls hl => ?_)
  refine lv_aload_n hx hb dX10_readLadder_64 rfl (lv_at hl 1 rfl) ?_
  refine z_ki (z_rV (rest := []) hZ0 C0 hK hZ hA hP hD hS hl.1 (c_X10_isGood l E Z hZ0 q0 H.size u_12 _ hw) yv_X10_78 [0, 1, 2, 3, 4, 5, 6, 7, 8, 9] rfl (by decide) (ci := 10) rfl rfl 0 rfl ⟨Nat.le_of_ble_eq_true rfl, Nat.le_of_ble_eq_true rfl⟩ ⟨rfl, rfl⟩ rfl rfl (Nat.le_of_ble_eq_true rfl) ⟨Nat.le_of_ble_eq_true rfl, Nat.le_of_ble_eq_true rfl⟩ dX10_readLadder_65) hP hD hS hA [0, 1, 2, 3, 4, 5, 6, 7, 8, 9] [] [0, 1, 2, 3, 4, 5, 6, 7, 8, 9] rfl (wr := []) rfl (by decide) (by decide) (fun u => k_X10 E q0 u) (fun u => rfl) (by decide) (fun r_15 u_14 H locs hw hP hD hS => ?_)
  obtain ⟨hwt, hwf⟩ := hw
  refine lv_if_ne (tgt := 72) hx hb dX10_readLadder_68 (by decide) (fun c_16 => ?_) (fun c_16 => ?_)
  · have hw := hwt c_16
    refine lv_aload_n hx hb dX10_readLadder_72 rfl (lv_at hl 1 rfl) ?_
    refine va_get (D := zD E) (ci := 10) (v := .ref (q0 3)) (C := RX10) (T := TX10) (N := 24) hx hb hts uw_X10 hown hK hP 0 rfl rfl 9 (by decide) (hts _ wm_5_125) (fun _ h9 => h9) rfl dX10_readLadder_73 ?_
    refine lv_sipush (v := 136) hx hb dX10_readLadder_76 rfl ?_
    refine lv_iconst (v := 2) hx hb dX10_readLadder_79 rfl ?_
    refine lv_aload_n hx hb dX10_readLadder_80 rfl (lv_at hl 1 rfl) ?_
    refine va_get (D := zD E) (ci := 10) (v := .ref (q0 3)) (C := RX10) (T := TX10) (N := 24) hx hb hts uw_X10 hown hK hP 0 rfl rfl 9 (by decide) (hts _ wm_5_125) (fun _ h9 => h9) rfl dX10_readLadder_81 ?_
    refine lv_bipush (v := 11) hx hb dX10_readLadder_84 rfl ?_
    refine va_iald hx hb hK hP 3 0 rfl rfl (show ¬ ((11 : Int32) < 0 ∨ 1728 ≤ (11 : Int32).toNatClampNeg) by decide) dX10_readLadder_86 ?_
    refine W.eq (g2 := F0 m 87 ls ([.int (u_14.2.2.2.2.2.2.2.2.2.1 11), .int (2 : Int32), .int (136 : Int32), .ref (q0 3)])) rfl ?_
    refine lv_imul hx hb dX10_readLadder_87 ?_
    refine lv_iadd hx hb dX10_readLadder_88 ?_
    refine lv_iload_n hx hb dX10_readLadder_89 rfl (lv_at hl 2 rfl) ?_
    obtain ⟨h_17, hw⟩ := hw
    refine va_iast hx hb hK hP hD hS 3 0 rfl rfl h_17 dX10_readLadder_90 (fun H locs hP hD hS => ?_)
    have hP : va_P (zD E) vwCl (k_X10 E q0 (u_14.1, u_14.2.1, u_14.2.2.1, u_14.2.2.2.1, u_14.2.2.2.2.1, u_14.2.2.2.2.2.1, u_14.2.2.2.2.2.2.1, u_14.2.2.2.2.2.2.2.1, u_14.2.2.2.2.2.2.2.2.1, (upd u_14.2.2.2.2.2.2.2.2.2.1 ((136 : Int32) + ((2 : Int32) * (u_14.2.2.2.2.2.2.2.2.2.1 11))).toNatClampNeg x2), u_14.2.2.2.2.2.2.2.2.2.2.1, u_14.2.2.2.2.2.2.2.2.2.2.2.1, u_14.2.2.2.2.2.2.2.2.2.2.2.2.1, u_14.2.2.2.2.2.2.2.2.2.2.2.2.2.1, u_14.2.2.2.2.2.2.2.2.2.2.2.2.2.2.1, u_14.2.2.2.2.2.2.2.2.2.2.2.2.2.2.2.1, u_14.2.2.2.2.2.2.2.2.2.2.2.2.2.2.2.2.1, u_14.2.2.2.2.2.2.2.2.2.2.2.2.2.2.2.2.2.1, u_14.2.2.2.2.2.2.2.2.2.2.2.2.2.2.2.2.2.2.1, u_14.2.2.2.2.2.2.2.2.2.2.2.2.2.2.2.2.2.2.2.1, u_14.2.2.2.2.2.2.2.2.2.2.2.2.2.2.2.2.2.2.2.2.1, u_14.2.2.2.2.2.2.2.2.2.2.2.2.2.2.2.2.2.2.2.2.2)) H := hP
    have hD : va_D A (k_X10 E q0 (u_14.1, u_14.2.1, u_14.2.2.1, u_14.2.2.2.1, u_14.2.2.2.2.1, u_14.2.2.2.2.2.1, u_14.2.2.2.2.2.2.1, u_14.2.2.2.2.2.2.2.1, u_14.2.2.2.2.2.2.2.2.1, (upd u_14.2.2.2.2.2.2.2.2.2.1 ((136 : Int32) + ((2 : Int32) * (u_14.2.2.2.2.2.2.2.2.2.1 11))).toNatClampNeg x2), u_14.2.2.2.2.2.2.2.2.2.2.1, u_14.2.2.2.2.2.2.2.2.2.2.2.1, u_14.2.2.2.2.2.2.2.2.2.2.2.2.1, u_14.2.2.2.2.2.2.2.2.2.2.2.2.2.1, u_14.2.2.2.2.2.2.2.2.2.2.2.2.2.2.1, u_14.2.2.2.2.2.2.2.2.2.2.2.2.2.2.2.1, u_14.2.2.2.2.2.2.2.2.2.2.2.2.2.2.2.2.1, u_14.2.2.2.2.2.2.2.2.2.2.2.2.2.2.2.2.2.1, u_14.2.2.2.2.2.2.2.2.2.2.2.2.2.2.2.2.2.2.1, u_14.2.2.2.2.2.2.2.2.2.2.2.2.2.2.2.2.2.2.2.1, u_14.2.2.2.2.2.2.2.2.2.2.2.2.2.2.2.2.2.2.2.2.1, u_14.2.2.2.2.2.2.2.2.2.2.2.2.2.2.2.2.2.2.2.2.2)) := hD
    refine lv_aload_n hx hb dX10_readLadder_91 rfl (lv_at hl 1 rfl) ?_
    refine va_get (D := zD E) (ci := 10) (v := .ref (q0 3)) (C := RX10) (T := TX10) (N := 24) hx hb hts uw_X10 hown hK hP 0 rfl rfl 9 (by decide) (hts _ wm_5_125) (fun _ h9 => h9) rfl dX10_readLadder_92 ?_
    refine lv_sipush (v := 136) hx hb dX10_readLadder_95 rfl ?_
    refine lv_iconst (v := 2) hx hb dX10_readLadder_98 rfl ?_
    refine lv_aload_n hx hb dX10_readLadder_99 rfl (lv_at hl 1 rfl) ?_
    refine va_get (D := zD E) (ci := 10) (v := .ref (q0 3)) (C := RX10) (T := TX10) (N := 24) hx hb hts uw_X10 hown hK hP 0 rfl rfl 9 (by decide) (hts _ wm_5_125) (fun _ h9 => h9) rfl dX10_readLadder_100 ?_
    refine lv_bipush (v := 11) hx hb dX10_readLadder_103 rfl ?_
    refine va_iald hx hb hK hP 3 0 rfl rfl (show ¬ ((11 : Int32) < 0 ∨ 1728 ≤ (11 : Int32).toNatClampNeg) by decide) dX10_readLadder_105 ?_
    refine W.eq (g2 := F0 m 106 ls ([.int ((upd u_14.2.2.2.2.2.2.2.2.2.1 ((136 : Int32) + ((2 : Int32) * (u_14.2.2.2.2.2.2.2.2.2.1 11))).toNatClampNeg x2) 11), .int (2 : Int32), .int (136 : Int32), .ref (q0 3)])) rfl ?_
    refine lv_imul hx hb dX10_readLadder_106 ?_
    refine lv_iadd hx hb dX10_readLadder_107 ?_
    refine lv_iconst (v := 1) hx hb dX10_readLadder_108 rfl ?_
    refine lv_iadd hx hb dX10_readLadder_109 ?_
    refine lv_iload_n hx hb dX10_readLadder_110 rfl (lv_at hl 0 rfl) ?_
    obtain ⟨h_18, hw⟩ := hw
    refine va_iast hx hb hK hP hD hS 3 0 rfl rfl h_18 dX10_readLadder_111 (fun H locs hP hD hS => ?_)
    have hP : va_P (zD E) vwCl (k_X10 E q0 (u_14.1, u_14.2.1, u_14.2.2.1, u_14.2.2.2.1, u_14.2.2.2.2.1, u_14.2.2.2.2.2.1, u_14.2.2.2.2.2.2.1, u_14.2.2.2.2.2.2.2.1, u_14.2.2.2.2.2.2.2.2.1, (upd (upd u_14.2.2.2.2.2.2.2.2.2.1 ((136 : Int32) + ((2 : Int32) * (u_14.2.2.2.2.2.2.2.2.2.1 11))).toNatClampNeg x2) (((136 : Int32) + ((2 : Int32) * ((upd u_14.2.2.2.2.2.2.2.2.2.1 ((136 : Int32) + ((2 : Int32) * (u_14.2.2.2.2.2.2.2.2.2.1 11))).toNatClampNeg x2) 11))) + (1 : Int32)).toNatClampNeg r_13), u_14.2.2.2.2.2.2.2.2.2.2.1, u_14.2.2.2.2.2.2.2.2.2.2.2.1, u_14.2.2.2.2.2.2.2.2.2.2.2.2.1, u_14.2.2.2.2.2.2.2.2.2.2.2.2.2.1, u_14.2.2.2.2.2.2.2.2.2.2.2.2.2.2.1, u_14.2.2.2.2.2.2.2.2.2.2.2.2.2.2.2.1, u_14.2.2.2.2.2.2.2.2.2.2.2.2.2.2.2.2.1, u_14.2.2.2.2.2.2.2.2.2.2.2.2.2.2.2.2.2.1, u_14.2.2.2.2.2.2.2.2.2.2.2.2.2.2.2.2.2.2.1, u_14.2.2.2.2.2.2.2.2.2.2.2.2.2.2.2.2.2.2.2.1, u_14.2.2.2.2.2.2.2.2.2.2.2.2.2.2.2.2.2.2.2.2.1, u_14.2.2.2.2.2.2.2.2.2.2.2.2.2.2.2.2.2.2.2.2.2)) H := hP
    have hD : va_D A (k_X10 E q0 (u_14.1, u_14.2.1, u_14.2.2.1, u_14.2.2.2.1, u_14.2.2.2.2.1, u_14.2.2.2.2.2.1, u_14.2.2.2.2.2.2.1, u_14.2.2.2.2.2.2.2.1, u_14.2.2.2.2.2.2.2.2.1, (upd (upd u_14.2.2.2.2.2.2.2.2.2.1 ((136 : Int32) + ((2 : Int32) * (u_14.2.2.2.2.2.2.2.2.2.1 11))).toNatClampNeg x2) (((136 : Int32) + ((2 : Int32) * ((upd u_14.2.2.2.2.2.2.2.2.2.1 ((136 : Int32) + ((2 : Int32) * (u_14.2.2.2.2.2.2.2.2.2.1 11))).toNatClampNeg x2) 11))) + (1 : Int32)).toNatClampNeg r_13), u_14.2.2.2.2.2.2.2.2.2.2.1, u_14.2.2.2.2.2.2.2.2.2.2.2.1, u_14.2.2.2.2.2.2.2.2.2.2.2.2.1, u_14.2.2.2.2.2.2.2.2.2.2.2.2.2.1, u_14.2.2.2.2.2.2.2.2.2.2.2.2.2.2.1, u_14.2.2.2.2.2.2.2.2.2.2.2.2.2.2.2.1, u_14.2.2.2.2.2.2.2.2.2.2.2.2.2.2.2.2.1, u_14.2.2.2.2.2.2.2.2.2.2.2.2.2.2.2.2.2.1, u_14.2.2.2.2.2.2.2.2.2.2.2.2.2.2.2.2.2.2.1, u_14.2.2.2.2.2.2.2.2.2.2.2.2.2.2.2.2.2.2.2.1, u_14.2.2.2.2.2.2.2.2.2.2.2.2.2.2.2.2.2.2.2.2.1, u_14.2.2.2.2.2.2.2.2.2.2.2.2.2.2.2.2.2.2.2.2.2)) := hD
    refine lv_aload_n hx hb dX10_readLadder_112 rfl (lv_at hl 1 rfl) ?_
    refine va_get (D := zD E) (ci := 10) (v := .ref (q0 3)) (C := RX10) (T := TX10) (N := 24) hx hb hts uw_X10 hown hK hP 0 rfl rfl 9 (by decide) (hts _ wm_5_125) (fun _ h9 => h9) rfl dX10_readLadder_113 ?_
    refine lv_bipush (v := 11) hx hb dX10_readLadder_116 rfl ?_
    refine lv_dup2_11 hx hb dX10_readLadder_118 rfl rfl ?_
    refine va_iald hx hb hK hP 3 0 rfl rfl (show ¬ ((11 : Int32) < 0 ∨ 1728 ≤ (11 : Int32).toNatClampNeg) by decide) dX10_readLadder_119 ?_
    refine W.eq (g2 := F0 m 120 ls ([.int ((upd (upd u_14.2.2.2.2.2.2.2.2.2.1 ((136 : Int32) + ((2 : Int32) * (u_14.2.2.2.2.2.2.2.2.2.1 11))).toNatClampNeg x2) (((136 : Int32) + ((2 : Int32) * ((upd u_14.2.2.2.2.2.2.2.2.2.1 ((136 : Int32) + ((2 : Int32) * (u_14.2.2.2.2.2.2.2.2.2.1 11))).toNatClampNeg x2) 11))) + (1 : Int32)).toNatClampNeg r_13) 11), .int (11 : Int32), .ref (q0 3)])) rfl ?_
    refine lv_iconst (v := 1) hx hb dX10_readLadder_120 rfl ?_
    refine lv_iadd hx hb dX10_readLadder_121 ?_
    refine lv_topi (fun x_19 ex_19 => ?_)
    have hw := hw x_19 ex_19
    refine va_iast hx hb hK hP hD hS 3 0 rfl rfl (show ¬ ((11 : Int32) < 0 ∨ 1728 ≤ (11 : Int32).toNatClampNeg) by decide) dX10_readLadder_122 (fun H locs hP hD hS => ?_)
    have hP : va_P (zD E) vwCl (k_X10 E q0 (u_14.1, u_14.2.1, u_14.2.2.1, u_14.2.2.2.1, u_14.2.2.2.2.1, u_14.2.2.2.2.2.1, u_14.2.2.2.2.2.2.1, u_14.2.2.2.2.2.2.2.1, u_14.2.2.2.2.2.2.2.2.1, (upd (upd (upd u_14.2.2.2.2.2.2.2.2.2.1 ((136 : Int32) + ((2 : Int32) * (u_14.2.2.2.2.2.2.2.2.2.1 11))).toNatClampNeg x2) (((136 : Int32) + ((2 : Int32) * ((upd u_14.2.2.2.2.2.2.2.2.2.1 ((136 : Int32) + ((2 : Int32) * (u_14.2.2.2.2.2.2.2.2.2.1 11))).toNatClampNeg x2) 11))) + (1 : Int32)).toNatClampNeg r_13) 11 x_19), u_14.2.2.2.2.2.2.2.2.2.2.1, u_14.2.2.2.2.2.2.2.2.2.2.2.1, u_14.2.2.2.2.2.2.2.2.2.2.2.2.1, u_14.2.2.2.2.2.2.2.2.2.2.2.2.2.1, u_14.2.2.2.2.2.2.2.2.2.2.2.2.2.2.1, u_14.2.2.2.2.2.2.2.2.2.2.2.2.2.2.2.1, u_14.2.2.2.2.2.2.2.2.2.2.2.2.2.2.2.2.1, u_14.2.2.2.2.2.2.2.2.2.2.2.2.2.2.2.2.2.1, u_14.2.2.2.2.2.2.2.2.2.2.2.2.2.2.2.2.2.2.1, u_14.2.2.2.2.2.2.2.2.2.2.2.2.2.2.2.2.2.2.2.1, u_14.2.2.2.2.2.2.2.2.2.2.2.2.2.2.2.2.2.2.2.2.1, u_14.2.2.2.2.2.2.2.2.2.2.2.2.2.2.2.2.2.2.2.2.2)) H := hP
    have hD : va_D A (k_X10 E q0 (u_14.1, u_14.2.1, u_14.2.2.1, u_14.2.2.2.1, u_14.2.2.2.2.1, u_14.2.2.2.2.2.1, u_14.2.2.2.2.2.2.1, u_14.2.2.2.2.2.2.2.1, u_14.2.2.2.2.2.2.2.2.1, (upd (upd (upd u_14.2.2.2.2.2.2.2.2.2.1 ((136 : Int32) + ((2 : Int32) * (u_14.2.2.2.2.2.2.2.2.2.1 11))).toNatClampNeg x2) (((136 : Int32) + ((2 : Int32) * ((upd u_14.2.2.2.2.2.2.2.2.2.1 ((136 : Int32) + ((2 : Int32) * (u_14.2.2.2.2.2.2.2.2.2.1 11))).toNatClampNeg x2) 11))) + (1 : Int32)).toNatClampNeg r_13) 11 x_19), u_14.2.2.2.2.2.2.2.2.2.2.1, u_14.2.2.2.2.2.2.2.2.2.2.2.1, u_14.2.2.2.2.2.2.2.2.2.2.2.2.1, u_14.2.2.2.2.2.2.2.2.2.2.2.2.2.1, u_14.2.2.2.2.2.2.2.2.2.2.2.2.2.2.1, u_14.2.2.2.2.2.2.2.2.2.2.2.2.2.2.2.1, u_14.2.2.2.2.2.2.2.2.2.2.2.2.2.2.2.2.1, u_14.2.2.2.2.2.2.2.2.2.2.2.2.2.2.2.2.2.1, u_14.2.2.2.2.2.2.2.2.2.2.2.2.2.2.2.2.2.2.1, u_14.2.2.2.2.2.2.2.2.2.2.2.2.2.2.2.2.2.2.2.1, u_14.2.2.2.2.2.2.2.2.2.2.2.2.2.2.2.2.2.2.2.2.1, u_14.2.2.2.2.2.2.2.2.2.2.2.2.2.2.2.2.2.2.2.2.2)) := hD
    refine lv_iload_n hx hb dX10_readLadder_123 rfl (lv_at hl 2 rfl) ?_
    refine lv_istore_n (lv' := [(1, .int x2), (3, .int r_13), (0, .ref (q0 0)), (2, .int x2)]) hx hb dX10_readLadder_124 rfl hl (by decide) rfl (fun ls hl => ?_)
    refine lv_aload_n hx hb dX10_readLadder_125 rfl (lv_at hl 2 rfl) ?_
    refine z_ki (z_rV (rest := []) hZ0 C0 hK hZ hA hP hD hS hl.1 (c_X10_next l E Z hZ0 q0 H.size (u_14.1, u_14.2.1, u_14.2.2.1, u_14.2.2.2.1, u_14.2.2.2.2.1, u_14.2.2.2.2.2.1, u_14.2.2.2.2.2.2.1, u_14.2.2.2.2.2.2.2.1, u_14.2.2.2.2.2.2.2.2.1, (upd (upd (upd u_14.2.2.2.2.2.2.2.2.2.1 ((136 : Int32) + ((2 : Int32) * (u_14.2.2.2.2.2.2.2.2.2.1 11))).toNatClampNeg x2) (((136 : Int32) + ((2 : Int32) * ((upd u_14.2.2.2.2.2.2.2.2.2.1 ((136 : Int32) + ((2 : Int32) * (u_14.2.2.2.2.2.2.2.2.2.1 11))).toNatClampNeg x2) 11))) + (1 : Int32)).toNatClampNeg r_13) 11 x_19), u_14.2.2.2.2.2.2.2.2.2.2.1, u_14.2.2.2.2.2.2.2.2.2.2.2.1, u_14.2.2.2.2.2.2.2.2.2.2.2.2.1, u_14.2.2.2.2.2.2.2.2.2.2.2.2.2.1, u_14.2.2.2.2.2.2.2.2.2.2.2.2.2.2.1, u_14.2.2.2.2.2.2.2.2.2.2.2.2.2.2.2.1, u_14.2.2.2.2.2.2.2.2.2.2.2.2.2.2.2.2.1, u_14.2.2.2.2.2.2.2.2.2.2.2.2.2.2.2.2.2.1, u_14.2.2.2.2.2.2.2.2.2.2.2.2.2.2.2.2.2.2.1, u_14.2.2.2.2.2.2.2.2.2.2.2.2.2.2.2.2.2.2.2.1, u_14.2.2.2.2.2.2.2.2.2.2.2.2.2.2.2.2.2.2.2.2.1, u_14.2.2.2.2.2.2.2.2.2.2.2.2.2.2.2.2.2.2.2.2.2) _ hw) yv_X10_82 [0, 1, 2, 3, 4, 5, 6, 7, 8, 9] rfl (by decide) (ci := 10) rfl rfl 0 rfl ⟨Nat.le_of_ble_eq_true rfl, Nat.le_of_ble_eq_true rfl⟩ ⟨rfl, rfl⟩ rfl rfl (Nat.le_of_ble_eq_true rfl) ⟨Nat.le_of_ble_eq_true rfl, Nat.le_of_ble_eq_true rfl⟩ dX10_readLadder_126) hP hD hS hA [0, 1, 2, 3, 4, 5, 6, 7, 8, 9] [] [0, 1, 2, 3, 4, 5, 6, 7, 8, 9] rfl (wr := []) rfl (by decide) (by decide) (fun u => k_X10 E q0 u) (fun u => rfl) (by decide) (fun r_21 u_20 H locs hw hP hD hS => ?_)
    refine z_ki (z_rS (rest := []) hZ0 C0 hK hZ hA hP hD hS hl.1 (c_X10_isDigit l E Z hZ0 H.size r_21 _ hw) yv_X10_99 [] rfl (by decide) ⟨Nat.le_of_ble_eq_true rfl, Nat.le_of_ble_eq_true rfl⟩ ⟨rfl, rfl⟩ rfl rfl (Nat.le_of_ble_eq_true rfl) ⟨Nat.le_of_ble_eq_true rfl, Nat.le_of_ble_eq_true rfl⟩ dX10_readLadder_129) hP hD hS hA [] [0, 1, 2, 3, 4, 5, 6, 7, 8, 9] [0, 1, 2, 3, 4, 5, 6, 7, 8, 9] rfl (wr := [_, _, _, _, _, _, _, _, _, _]) rfl (by decide) (by decide) (fun u => k_X10 E q0 u_20) (fun u => rfl) (by decide) (fun r_23 u_22 H locs hw hP hD hS => ?_)
    obtain ⟨hwt, hwf⟩ := hw
    refine lv_if_ne (tgt := 2) hx hb dX10_readLadder_132 (by decide) (fun c_24 => ?_) (fun c_24 => ?_)
    · have hw := hwt c_24
      exact hk_2 x2 u_20 _ _ _ hw hP hD hS (lv_sub hl [2, 0] rfl)
    · have hw := hwf c_24
      exact z_vret (k := (fun u => k_X10 E q0 u)) u_20 C0 hP hD hS hw dX10_readLadder_135
  · have hw := hwf c_16
    exact z_vret (k := (fun u => k_X10 E q0 u)) u_14 C0 hP hD hS hw dX10_readLadder_71
set_option maxHeartbeats 4000000 in
set_option maxRecDepth 100000 in
theorem t_X10_readLadder_33 {p : Program} {l : Launch} {e : Env} {s : State} {m : MethodId} {args : Array Value} {below : List Frame} {meth : Method} {c : Code} {Z : zZ} {E : zE} {A : Nat → Prop} {q0 : Nat → Nat} (hZ0 : zSt Z) (C0 : zC p s m args meth c yX10_readLadder cX10_readLadder 4 none) (hA : ∀ q : Nat, s.heap.size ≤ q → A q) (hK : va_K (zD E) vwCl (zT E) s) (hZ : Z A s s.heap) (post : S_X10 → Prop) {K2 : (Int32 × S_X10) → Prop} (hk_2 : ∀ (x1 : Int32) (u0 : S_X10) (H : Heap) (locs : List Loc) (ls : Array Slot), K2 (x1, u0) → va_P (zD E) vwCl (k_X10 E q0 u0) H → va_D A (k_X10 E q0 u0) → va_S A s.heap H locs → lv_has ls 4 [(0, .ref (q0 0)), (1, .int x1)] → W p l e r_X10_readLadder s m args below meth c H locs 0 0 (MQ below (va_Qv post (zAt E A (fun u => k_X10 E q0 u)) A) args s 0 0 A) (F0 m 2 ls [])) : ∀ (x2 : Int32) (u0 : S_X10) (H : Heap) (locs : List Loc) (ls : Array Slot), j_X10_readLadder_33 K2 x2 u0 post → va_P (zD E) vwCl (k_X10 E q0 u0) H → va_D A (k_X10 E q0 u0) → va_S A s.heap H locs → lv_has ls 4 [(0, .ref (q0 0)), (2, .int x2)] → W p l e r_X10_readLadder s m args below meth c H locs 0 0 (MQ below (va_Qv post (zAt E A (fun u => k_X10 E q0 u)) A) args s 0 0 A) (F0 m 33 ls []) := by
  obtain ⟨hx, hb, hml, hr, hown, hts, hlocks, hin⟩ := id C0
  have hown : s.vm.findClass RX10 = some m.cls := hown
  intro x2 u0 H locs ls hw hP hD hS hl
  refine lv_aload_n hx hb dX10_readLadder_33 rfl (lv_at hl 0 rfl) ?_
  refine va_get (D := zD E) (ci := 10) (v := .ref (q0 3)) (C := RX10) (T := TX10) (N := 24) hx hb hts uw_X10 hown hK hP 0 rfl rfl 9 (by decide) (hts _ wm_5_125) (fun _ h9 => h9) rfl dX10_readLadder_34 ?_
  refine lv_bipush (v := 11) hx hb dX10_readLadder_37 rfl ?_
  refine va_iald hx hb hK hP 3 0 rfl rfl (show ¬ ((11 : Int32) < 0 ∨ 1728 ≤ (11 : Int32).toNatClampNeg) by decide) dX10_readLadder_39 ?_
  refine W.eq (g2 := F0 m 40 ls ([.int (u0.2.2.2.2.2.2.2.2.2.1 11)])) rfl ?_
  refine lv_bipush (v := 6) hx hb dX10_readLadder_40 rfl ?_
  obtain ⟨hwt, hwf⟩ := hw
  refine lv_icmp_ne (tgt := 55) hx hb dX10_readLadder_42 (by decide) (fun c_9 => ?_) (fun c_9 => ?_)
  · have hw := hwt c_9
    exact t_X10_readLadder_55 (l := l) hZ0 C0 hA hK hZ post hk_2 x2 u0 _ _ _ hw hP hD hS (lv_sub hl [0, 1] rfl)
  · have hw := hwf c_9
    refine lv_aload_n hx hb dX10_readLadder_45 rfl (lv_at hl 0 rfl) ?_
    refine lv_bipush (v := (-4)) hx hb dX10_readLadder_46 rfl ?_
    refine lv_aload_n hx hb dX10_readLadder_48 rfl (lv_at hl 0 rfl) ?_
    refine va_get (D := zD E) (ci := 10) (v := .int u0.2.2.2.2.2.2.2.2.2.2.2.2.2.2.1) (C := RX10) (T := TX10) (N := 24) hx hb hts uw_X10 hown hK hP 0 rfl rfl 16 (by decide) (hts _ wm_5_132) (fun _ h9 => h9) rfl dX10_readLadder_49 ?_
    refine z_kv (z_rV (rest := []) hZ0 C0 hK hZ hA hP hD hS hl.1 (c_X10_report l E Z hZ0 q0 H.size u0 (-4 : Int32) u0.2.2.2.2.2.2.2.2.2.2.2.2.2.2.1 _ hw) yv_X10_95 [0, 1, 2, 3, 4, 5, 6, 7, 8, 9] rfl (by decide) (ci := 10) rfl rfl 0 rfl ⟨Nat.le_of_ble_eq_true rfl, Nat.le_of_ble_eq_true rfl⟩ ⟨rfl, rfl⟩ rfl rfl (Nat.le_of_ble_eq_true rfl) ⟨Nat.le_of_ble_eq_true rfl, Nat.le_of_ble_eq_true rfl⟩ dX10_readLadder_52) hP hD hS hA [0, 1, 2, 3, 4, 5, 6, 7, 8, 9] [] [0, 1, 2, 3, 4, 5, 6, 7, 8, 9] rfl (wr := []) rfl (by decide) (by decide) (fun u => k_X10 E q0 u) (fun u => rfl) (by decide) (fun u_10 H locs hw hP hD hS => ?_)
    exact t_X10_readLadder_55 (l := l) hZ0 C0 hA hK hZ post hk_2 x2 u_10 _ _ _ hw hP hD hS (lv_sub hl [0, 1] rfl)
set_option maxHeartbeats 4000000 in
set_option maxRecDepth 100000 in
theorem t_X10_readLadder_2 {p : Program} {l : Launch} {e : Env} {s : State} {m : MethodId} {args : Array Value} {below : List Frame} {meth : Method} {c : Code} {Z : zZ} {E : zE} {A : Nat → Prop} {q0 : Nat → Nat} (hZ0 : zSt Z) (C0 : zC p s m args meth c yX10_readLadder cX10_readLadder 4 none) (hA : ∀ q : Nat, s.heap.size ≤ q → A q) (hK : va_K (zD E) vwCl (zT E) s) (hZ : Z A s s.heap) (post : S_X10 → Prop) : ∀ (n : Nat) (x1 : Int32) (u0 : S_X10) (H : Heap) (locs : List Loc) (ls : Array Slot), zl (fun K st => j_X10_readLadder_2 K st.1 st.2 post) n (x1, u0) → va_P (zD E) vwCl (k_X10 E q0 u0) H → va_D A (k_X10 E q0 u0) → va_S A s.heap H locs → lv_has ls 4 [(0, .ref (q0 0)), (1, .int x1)] → W p l e r_X10_readLadder s m args below meth c H locs 0 0 (MQ below (va_Qv post (zAt E A (fun u => k_X10 E q0 u)) A) args s 0 0 A) (F0 m 2 ls []) := by
  obtain ⟨hx, hb, hml, hr, hown, hts, hlocks, hin⟩ := id C0
  have hown : s.vm.findClass RX10 = some m.cls := hown
  intro n
  induction n with
  | zero => intro x1 u0 H locs ls hw; exact hw.elim
  | succ n hk_2 =>
    intro x1 u0 H locs ls hw hP hD hS hl
    have hw : j_X10_readLadder_2 _ x1 u0 post := hw
    refine lv_aload_n hx hb dX10_readLadder_2 rfl (lv_at hl 0 rfl) ?_
    refine lv_iconst (v := 0) hx hb dX10_readLadder_3 rfl ?_
    refine lv_sipush (v := 999) hx hb dX10_readLadder_4 rfl ?_
    refine z_ki (z_rV (rest := []) hZ0 C0 hK hZ hA hP hD hS hl.1 (c_X10_number l E Z hZ0 q0 H.size u0 (0 : Int32) (999 : Int32) _ hw) yv_X10_131 [0, 1, 2, 3, 4, 5, 6, 7, 8, 9] rfl (by decide) (ci := 10) rfl rfl 0 rfl ⟨Nat.le_of_ble_eq_true rfl, Nat.le_of_ble_eq_true rfl⟩ ⟨rfl, rfl⟩ rfl rfl (Nat.le_of_ble_eq_true rfl) ⟨Nat.le_of_ble_eq_true rfl, Nat.le_of_ble_eq_true rfl⟩ dX10_readLadder_7) hP hD hS hA [0, 1, 2, 3, 4, 5, 6, 7, 8, 9] [] [0, 1, 2, 3, 4, 5, 6, 7, 8, 9] rfl (wr := []) rfl (by decide) (by decide) (fun u => k_X10 E q0 u) (fun u => rfl) (by decide) (fun r_2 u_1 H locs hw hP hD hS => ?_)
    refine lv_istore_n (lv' := [(2, .int r_2), (0, .ref (q0 0)), (1, .int x1)]) hx hb dX10_readLadder_10 rfl hl (by decide) rfl (fun ls hl => ?_)
    refine lv_aload_n hx hb dX10_readLadder_11 rfl (lv_at hl 1 rfl) ?_
    refine z_ki (z_rV (rest := []) hZ0 C0 hK hZ hA hP hD hS hl.1 (c_X10_isGood l E Z hZ0 q0 H.size u_1 _ hw) yv_X10_78 [0, 1, 2, 3, 4, 5, 6, 7, 8, 9] rfl (by decide) (ci := 10) rfl rfl 0 rfl ⟨Nat.le_of_ble_eq_true rfl, Nat.le_of_ble_eq_true rfl⟩ ⟨rfl, rfl⟩ rfl rfl (Nat.le_of_ble_eq_true rfl) ⟨Nat.le_of_ble_eq_true rfl, Nat.le_of_ble_eq_true rfl⟩ dX10_readLadder_12) hP hD hS hA [0, 1, 2, 3, 4, 5, 6, 7, 8, 9] [] [0, 1, 2, 3, 4, 5, 6, 7, 8, 9] rfl (wr := []) rfl (by decide) (by decide) (fun u => k_X10 E q0 u) (fun u => rfl) (by decide) (fun r_4 u_3 H locs hw hP hD hS => ?_)
    obtain ⟨hwt, hwf⟩ := hw
    refine lv_if_eq (tgt := 33) hx hb dX10_readLadder_15 (by decide) (fun c_5 => ?_) (fun c_5 => ?_)
    · have hw := hwt c_5
      exact t_X10_readLadder_33 (l := l) hZ0 C0 hA hK hZ post hk_2 r_2 u_3 _ _ _ hw hP hD hS (lv_sub hl [1, 0] rfl)
    · have hw := hwf c_5
      refine lv_iload_n hx hb dX10_readLadder_18 rfl (lv_at hl 0 rfl) ?_
      refine lv_iload_n hx hb dX10_readLadder_19 rfl (lv_at hl 2 rfl) ?_
      obtain ⟨hwt, hwf⟩ := hw
      refine lv_icmp_gt (tgt := 33) hx hb dX10_readLadder_20 (by decide) (fun c_6 => ?_) (fun c_6 => ?_)
      · have hw := hwt c_6
        exact t_X10_readLadder_33 (l := l) hZ0 C0 hA hK hZ post hk_2 r_2 u_3 _ _ _ hw hP hD hS (lv_sub hl [1, 0] rfl)
      · have hw := hwf c_6
        refine lv_aload_n hx hb dX10_readLadder_23 rfl (lv_at hl 1 rfl) ?_
        refine lv_bipush (v := (-3)) hx hb dX10_readLadder_24 rfl ?_
        refine lv_aload_n hx hb dX10_readLadder_26 rfl (lv_at hl 1 rfl) ?_
        refine va_get (D := zD E) (ci := 10) (v := .int u_3.2.2.2.2.2.2.2.2.2.2.2.2.2.2.1) (C := RX10) (T := TX10) (N := 24) hx hb hts uw_X10 hown hK hP 0 rfl rfl 16 (by decide) (hts _ wm_5_132) (fun _ h9 => h9) rfl dX10_readLadder_27 ?_
        refine z_kv (z_rV (rest := []) hZ0 C0 hK hZ hA hP hD hS hl.1 (c_X10_report l E Z hZ0 q0 H.size u_3 (-3 : Int32) u_3.2.2.2.2.2.2.2.2.2.2.2.2.2.2.1 _ hw) yv_X10_95 [0, 1, 2, 3, 4, 5, 6, 7, 8, 9] rfl (by decide) (ci := 10) rfl rfl 0 rfl ⟨Nat.le_of_ble_eq_true rfl, Nat.le_of_ble_eq_true rfl⟩ ⟨rfl, rfl⟩ rfl rfl (Nat.le_of_ble_eq_true rfl) ⟨Nat.le_of_ble_eq_true rfl, Nat.le_of_ble_eq_true rfl⟩ dX10_readLadder_30) hP hD hS hA [0, 1, 2, 3, 4, 5, 6, 7, 8, 9] [] [0, 1, 2, 3, 4, 5, 6, 7, 8, 9] rfl (wr := []) rfl (by decide) (by decide) (fun u => k_X10 E q0 u) (fun u => rfl) (by decide) (fun u_7 H locs hw hP hD hS => ?_)
        exact t_X10_readLadder_33 (l := l) hZ0 C0 hA hK hZ post hk_2 r_2 u_7 _ _ _ hw hP hD hS (lv_sub hl [1, 0] rfl)
set_option maxHeartbeats 4000000 in
set_option maxRecDepth 100000 in
theorem c_X10_readLadder (l : Launch) (E : zE) (Z : zZ) (hZ0 : zSt Z) (q0 : Nat → Nat) (sz : Nat) (u0 : S_X10) (post : S_X10 → Prop) (hw : wp_X10_readLadder u0 post) : Met l yX10_readLadder (zws yX10_readLadder cX10_readLadder 4 none) r_X10_readLadder (va_Pc [.ref (q0 0)] (zPre Z E (k_X10 E q0 u0) sz)) (va_Qv post (zAt E (va_A (k_X10 E q0 u0) sz) (fun u => k_X10 E q0 u)) (va_A (k_X10 E q0 u0) sz)) 0 0 (va_A (k_X10 E q0 u0) sz) := by
  refine z_ofW (Qf := fun A => va_Qv post (zAt E A (fun u => k_X10 E q0 u)) A) (by decide) (Nat.le_of_ble_eq_true rfl) ?_
  intro p e s m args below meth c A ls C0 hA hK hZ hP hD hS hl
  obtain ⟨hx, hb, hml, hr, hown, hts, hlocks, hin⟩ := id C0
  have hown : s.vm.findClass RX10 = some m.cls := hown
  have hl : lv_has ls 4 [(0, .ref (q0 0))] := hl
  refine lv_iconst (v := (-1)) hx hb dX10_readLadder_0 rfl ?_
  refine lv_istore_n (lv' := [(1, .int (-1 : Int32)), (0, .ref (q0 0))]) hx hb dX10_readLadder_1 rfl hl (by decide) rfl (fun ls hl => ?_)
  obtain ⟨n9, hw⟩ := hw
  exact t_X10_readLadder_2 (l := l) hZ0 C0 hA hK hZ post n9 (-1 : Int32) u0 _ _ _ hw hP hD hS (lv_sub hl [1, 0] rfl)
abbrev r_X10_demand : Room := { frames := 2, cells := 0, slots := 0, locals := 45 }
def j_X10_demand_152 (K27 : (Int32 × Int32 × Int32 × Int32 × S_X10) → Prop) (x1 : Int32) (x2 : Int32) (x3 : Int32) (x4 : Int32) (u0 : S_X10) (post : Int32 → S_X10 → Prop) : Prop := ∀ x_24 : Int32, x_24 = x4 + 1 → (K27 (x1, x2, x3, x_24, u0))
def j_X10_demand_115 (K27 : (Int32 × Int32 × Int32 × Int32 × S_X10) → Prop) (x1 : Int32) (x2 : Int32) (x3 : Int32) (x4 : Int32) (y0 : Int64) (y1 : Int32) (u0 : S_X10) (post : Int32 → S_X10 → Prop) : Prop := vp_in y1 1300 ∧ (∀ x_26 : Int32, x_26 = x3 + 1 → (j_X10_demand_152 K27 x1 x2 x_26 x4 (u0.1, u0.2.1, u0.2.2.1, u0.2.2.2.1, u0.2.2.2.2.1, u0.2.2.2.2.2.1, u0.2.2.2.2.2.2.1, u0.2.2.2.2.2.2.2.1, u0.2.2.2.2.2.2.2.2.1, u0.2.2.2.2.2.2.2.2.2.1, u0.2.2.2.2.2.2.2.2.2.2.1, u0.2.2.2.2.2.2.2.2.2.2.2.1, u0.2.2.2.2.2.2.2.2.2.2.2.2.1, u0.2.2.2.2.2.2.2.2.2.2.2.2.2.1, u0.2.2.2.2.2.2.2.2.2.2.2.2.2.2.1, u0.2.2.2.2.2.2.2.2.2.2.2.2.2.2.2.1, u0.2.2.2.2.2.2.2.2.2.2.2.2.2.2.2.2.1, (vp_updL u0.2.2.2.2.2.2.2.2.2.2.2.2.2.2.2.2.2.1 y1.toNatClampNeg y0), u0.2.2.2.2.2.2.2.2.2.2.2.2.2.2.2.2.2.2.1, u0.2.2.2.2.2.2.2.2.2.2.2.2.2.2.2.2.2.2.2.1, u0.2.2.2.2.2.2.2.2.2.2.2.2.2.2.2.2.2.2.2.2.1, u0.2.2.2.2.2.2.2.2.2.2.2.2.2.2.2.2.2.2.2.2.2) post))
def j_X10_demand_27 (K27 : (Int32 × Int32 × Int32 × Int32 × S_X10) → Prop) (x1 : Int32) (x2 : Int32) (x3 : Int32) (x4 : Int32) (u0 : S_X10) (post : Int32 → S_X10 → Prop) : Prop := ((u0.2.2.2.2.2.2.2.2.2.1 14) ≤ x4 → ((0 ≤ (lg_cmp (u0.2.2.2.2.2.2.2.2.2.2.2.2.2.2.2.2.2.1 0) (0 : Int64)) → (((lg_cmp (u0.2.2.2.2.2.2.2.2.2.2.2.2.2.2.2.2.2.1 0) (9999 : Int64)) ≤ 0 → (post ((u0.2.2.2.2.2.2.2.2.2.2.2.2.2.2.2.2.2.1 0).toInt32) u0)) ∧ (¬ ((lg_cmp (u0.2.2.2.2.2.2.2.2.2.2.2.2.2.2.2.2.2.1 0) (9999 : Int64)) ≤ 0) → (post (9999 : Int32) u0)))) ∧ (¬ (0 ≤ (lg_cmp (u0.2.2.2.2.2.2.2.2.2.2.2.2.2.2.2.2.2.1 0) (0 : Int64))) → (post (0 : Int32) u0)))) ∧ (¬ ((u0.2.2.2.2.2.2.2.2.2.1 14) ≤ x4) → (vp_in ((428 : Int32) + x4) 1728 ∧ (∀ x_10 : Int32, x_10 = (u0.2.2.2.2.2.2.2.2.2.1 ((428 : Int32) + x4).toNatClampNeg) → (((1 : Int32) < x_10 → (∀ x_12 : Int32, x_12 = x3 + (-1) → (vp_in (x_12 - (1 : Int32)) 1300 ∧ (vp_in x_12 1300 ∧ (wp_X10_operate x_10 (u0.2.2.2.2.2.2.2.2.2.2.2.2.2.2.2.2.2.1 (x_12 - (1 : Int32)).toNatClampNeg) (u0.2.2.2.2.2.2.2.2.2.2.2.2.2.2.2.2.2.1 x_12.toNatClampNeg) (fun r_16 u_15 => vp_in (x_12 - (1 : Int32)) 1300 ∧ (j_X10_demand_152 K27 x1 x2 x_12 x4 (u0.1, u0.2.1, u0.2.2.1, u0.2.2.2.1, u0.2.2.2.2.1, u0.2.2.2.2.2.1, u0.2.2.2.2.2.2.1, u0.2.2.2.2.2.2.2.1, u0.2.2.2.2.2.2.2.2.1, u0.2.2.2.2.2.2.2.2.2.1, u0.2.2.2.2.2.2.2.2.2.2.1, u0.2.2.2.2.2.2.2.2.2.2.2.1, u0.2.2.2.2.2.2.2.2.2.2.2.2.1, u0.2.2.2.2.2.2.2.2.2.2.2.2.2.1, u0.2.2.2.2.2.2.2.2.2.2.2.2.2.2.1, u0.2.2.2.2.2.2.2.2.2.2.2.2.2.2.2.1, u0.2.2.2.2.2.2.2.2.2.2.2.2.2.2.2.2.1, (vp_updL u0.2.2.2.2.2.2.2.2.2.2.2.2.2.2.2.2.2.1 (x_12 - (1 : Int32)).toNatClampNeg r_16), u0.2.2.2.2.2.2.2.2.2.2.2.2.2.2.2.2.2.2.1, u0.2.2.2.2.2.2.2.2.2.2.2.2.2.2.2.2.2.2.2.1, u0.2.2.2.2.2.2.2.2.2.2.2.2.2.2.2.2.2.2.2.2.1, u0.2.2.2.2.2.2.2.2.2.2.2.2.2.2.2.2.2.2.2.2.2) post))))))) ∧ (¬ ((1 : Int32) < x_10) → (∀ x_18 : Int32, x_18 = x4 + 1 → (vp_in ((428 : Int32) + x_18) 1728 ∧ (∀ x_20 : Int32, x_20 = (u0.2.2.2.2.2.2.2.2.2.1 ((428 : Int32) + x_18).toNatClampNeg) → ((¬ (x_10 = 0) → ((¬ (x_20 = 0) → ((¬ (x_20 = (1 : Int32)) → (j_X10_demand_115 K27 x1 x2 x3 x_18 x2.toInt64 x3 u0 post)) ∧ (x_20 = (1 : Int32) → (j_X10_demand_115 K27 x1 x2 x3 x_18 ((x1 - x1 / (4 : Int32) * (4 : Int32)).toInt64) x3 u0 post)))) ∧ (x_20 = 0 → (j_X10_demand_115 K27 x1 x2 x3 x_18 x1.toInt64 x3 u0 post)))) ∧ (x_10 = 0 → (j_X10_demand_115 K27 x1 x2 x3 x_18 x_20.toInt64 x3 u0 post)))))))))))
def wp_X10_demand (u0 : S_X10) (p1 : Int32) (post : Int32 → S_X10 → Prop) : Prop := wp_X10_period p1 (fun r_2 u_1 => vp_in r_2 1728 ∧ (∀ x_4 : Int32, x_4 = (u0.2.2.2.2.2.2.2.2.2.1 r_2.toNatClampNeg) → ((¬ ((u0.2.2.2.2.2.2.2.2.2.1 15) = 0) → (∃ n, zl (fun K st => j_X10_demand_27 K st.1 st.2.1 st.2.2.1 st.2.2.2.1 st.2.2.2.2 post) n (p1, x_4, (0 : Int32), (0 : Int32), u0))) ∧ ((u0.2.2.2.2.2.2.2.2.2.1 15) = 0 → (post x_4 u0)))))
set_option maxHeartbeats 4000000 in
set_option maxRecDepth 100000 in
theorem t_X10_demand_152 {p : Program} {l : Launch} {e : Env} {s : State} {m : MethodId} {args : Array Value} {below : List Frame} {meth : Method} {c : Code} {Z : zZ} {E : zE} {A : Nat → Prop} {q0 : Nat → Nat} (hZ0 : zSt Z) (C0 : zC p s m args meth c yX10_demand cX10_demand 7 (some .int)) (hA : ∀ q : Nat, s.heap.size ≤ q → A q) (hK : va_K (zD E) vwCl (zT E) s) (hZ : Z A s s.heap) (post : Int32 → S_X10 → Prop) {K27 : (Int32 × Int32 × Int32 × Int32 × S_X10) → Prop} (hk_27 : ∀ (x1 : Int32) (x2 : Int32) (x3 : Int32) (x4 : Int32) (u0 : S_X10) (H : Heap) (locs : List Loc) (ls : Array Slot), K27 (x1, x2, x3, x4, u0) → va_P (zD E) vwCl (k_X10 E q0 u0) H → va_D A (k_X10 E q0 u0) → va_S A s.heap H locs → lv_has ls 7 [(0, .ref (q0 0)), (1, .int x1), (2, .int x2), (3, .int x3), (4, .int x4)] → W p l e r_X10_demand s m args below meth c H locs 0 0 (MQ below (va_Qi post (zAt E A (fun u => k_X10 E q0 u)) A) args s 0 0 A) (F0 m 27 ls [])) : ∀ (x1 : Int32) (x2 : Int32) (x3 : Int32) (x4 : Int32) (u0 : S_X10) (H : Heap) (locs : List Loc) (ls : Array Slot), j_X10_demand_152 K27 x1 x2 x3 x4 u0 post → va_P (zD E) vwCl (k_X10 E q0 u0) H → va_D A (k_X10 E q0 u0) → va_S A s.heap H locs → lv_has ls 7 [(0, .ref (q0 0)), (1, .int x1), (2, .int x2), (3, .int x3), (4, .int x4)] → W p l e r_X10_demand s m args below meth c H locs 0 0 (MQ below (va_Qi post (zAt E A (fun u => k_X10 E q0 u)) A) args s 0 0 A) (F0 m 152 ls []) := by
  obtain ⟨hx, hb, hml, hr, hown, hts, hlocks, hin⟩ := id C0
  have hown : s.vm.findClass RX10 = some m.cls := hown
  intro x1 x2 x3 x4 u0 H locs ls hw hP hD hS hl
  obtain ⟨x_24, ex_24⟩ : ∃ y : Int32, y = x4 + 1 := ⟨_, rfl⟩
  have hw := hw x_24 ex_24
  refine lv_iinc (v := x_24) (lv' := [(4, .int x_24), (0, .ref (q0 0)), (1, .int x1), (2, .int x2), (3, .int x3)]) hx hb dX10_demand_152 hl (k := 4) rfl (by rw [ex_24]; rfl) (by decide) rfl (fun ls hl => ?_)
  refine lv_goto (tgt := 27) hx hb dX10_demand_155 (by decide) ?_
  exact hk_27 x1 x2 x3 x_24 u0 _ _ _ hw hP hD hS (lv_sub hl [1, 2, 3, 4, 0] rfl)
set_option maxHeartbeats 4000000 in
set_option maxRecDepth 100000 in
theorem t_X10_demand_115 {p : Program} {l : Launch} {e : Env} {s : State} {m : MethodId} {args : Array Value} {below : List Frame} {meth : Method} {c : Code} {Z : zZ} {E : zE} {A : Nat → Prop} {q0 : Nat → Nat} (hZ0 : zSt Z) (C0 : zC p s m args meth c yX10_demand cX10_demand 7 (some .int)) (hA : ∀ q : Nat, s.heap.size ≤ q → A q) (hK : va_K (zD E) vwCl (zT E) s) (hZ : Z A s s.heap) (post : Int32 → S_X10 → Prop) {K27 : (Int32 × Int32 × Int32 × Int32 × S_X10) → Prop} (hk_27 : ∀ (x1 : Int32) (x2 : Int32) (x3 : Int32) (x4 : Int32) (u0 : S_X10) (H : Heap) (locs : List Loc) (ls : Array Slot), K27 (x1, x2, x3, x4, u0) → va_P (zD E) vwCl (k_X10 E q0 u0) H → va_D A (k_X10 E q0 u0) → va_S A s.heap H locs → lv_has ls 7 [(0, .ref (q0 0)), (1, .int x1), (2, .int x2), (3, .int x3), (4, .int x4)] → W p l e r_X10_demand s m args below meth c H locs 0 0 (MQ below (va_Qi post (zAt E A (fun u => k_X10 E q0 u)) A) args s 0 0 A) (F0 m 27 ls [])) : ∀ (x1 : Int32) (x2 : Int32) (x3 : Int32) (x4 : Int32) (y0 : Int64) (y1 : Int32) (u0 : S_X10) (H : Heap) (locs : List Loc) (ls : Array Slot), j_X10_demand_115 K27 x1 x2 x3 x4 y0 y1 u0 post → va_P (zD E) vwCl (k_X10 E q0 u0) H → va_D A (k_X10 E q0 u0) → va_S A s.heap H locs → lv_has ls 7 [(0, .ref (q0 0)), (1, .int x1), (2, .int x2), (3, .int x3), (4, .int x4)] → W p l e r_X10_demand s m args below meth c H locs 0 0 (MQ below (va_Qi post (zAt E A (fun u => k_X10 E q0 u)) A) args s 0 0 A) (F0 m 115 ls [.long y0, .int y1, .ref (q0 9)]) := by
  obtain ⟨hx, hb, hml, hr, hown, hts, hlocks, hin⟩ := id C0
  have hown : s.vm.findClass RX10 = some m.cls := hown
  intro x1 x2 x3 x4 y0 y1 u0 H locs ls hw hP hD hS hl
  obtain ⟨h_25, hw⟩ := hw
  refine va_last hx hb hK hP hD hS 7 1 rfl rfl h_25 dX10_demand_115 (fun H locs hP hD hS => ?_)
  have hP : va_P (zD E) vwCl (k_X10 E q0 (u0.1, u0.2.1, u0.2.2.1, u0.2.2.2.1, u0.2.2.2.2.1, u0.2.2.2.2.2.1, u0.2.2.2.2.2.2.1, u0.2.2.2.2.2.2.2.1, u0.2.2.2.2.2.2.2.2.1, u0.2.2.2.2.2.2.2.2.2.1, u0.2.2.2.2.2.2.2.2.2.2.1, u0.2.2.2.2.2.2.2.2.2.2.2.1, u0.2.2.2.2.2.2.2.2.2.2.2.2.1, u0.2.2.2.2.2.2.2.2.2.2.2.2.2.1, u0.2.2.2.2.2.2.2.2.2.2.2.2.2.2.1, u0.2.2.2.2.2.2.2.2.2.2.2.2.2.2.2.1, u0.2.2.2.2.2.2.2.2.2.2.2.2.2.2.2.2.1, (vp_updL u0.2.2.2.2.2.2.2.2.2.2.2.2.2.2.2.2.2.1 y1.toNatClampNeg y0), u0.2.2.2.2.2.2.2.2.2.2.2.2.2.2.2.2.2.2.1, u0.2.2.2.2.2.2.2.2.2.2.2.2.2.2.2.2.2.2.2.1, u0.2.2.2.2.2.2.2.2.2.2.2.2.2.2.2.2.2.2.2.2.1, u0.2.2.2.2.2.2.2.2.2.2.2.2.2.2.2.2.2.2.2.2.2)) H := hP
  have hD : va_D A (k_X10 E q0 (u0.1, u0.2.1, u0.2.2.1, u0.2.2.2.1, u0.2.2.2.2.1, u0.2.2.2.2.2.1, u0.2.2.2.2.2.2.1, u0.2.2.2.2.2.2.2.1, u0.2.2.2.2.2.2.2.2.1, u0.2.2.2.2.2.2.2.2.2.1, u0.2.2.2.2.2.2.2.2.2.2.1, u0.2.2.2.2.2.2.2.2.2.2.2.1, u0.2.2.2.2.2.2.2.2.2.2.2.2.1, u0.2.2.2.2.2.2.2.2.2.2.2.2.2.1, u0.2.2.2.2.2.2.2.2.2.2.2.2.2.2.1, u0.2.2.2.2.2.2.2.2.2.2.2.2.2.2.2.1, u0.2.2.2.2.2.2.2.2.2.2.2.2.2.2.2.2.1, (vp_updL u0.2.2.2.2.2.2.2.2.2.2.2.2.2.2.2.2.2.1 y1.toNatClampNeg y0), u0.2.2.2.2.2.2.2.2.2.2.2.2.2.2.2.2.2.2.1, u0.2.2.2.2.2.2.2.2.2.2.2.2.2.2.2.2.2.2.2.1, u0.2.2.2.2.2.2.2.2.2.2.2.2.2.2.2.2.2.2.2.2.1, u0.2.2.2.2.2.2.2.2.2.2.2.2.2.2.2.2.2.2.2.2.2)) := hD
  obtain ⟨x_26, ex_26⟩ : ∃ y : Int32, y = x3 + 1 := ⟨_, rfl⟩
  have hw := hw x_26 ex_26
  refine lv_iinc (v := x_26) (lv' := [(3, .int x_26), (0, .ref (q0 0)), (1, .int x1), (2, .int x2), (4, .int x4)]) hx hb dX10_demand_116 hl (k := 3) rfl (by rw [ex_26]; rfl) (by decide) rfl (fun ls hl => ?_)
  refine lv_goto (tgt := 152) hx hb dX10_demand_119 (by decide) ?_
  exact t_X10_demand_152 (l := l) hZ0 C0 hA hK hZ post hk_27 x1 x2 x_26 x4 (u0.1, u0.2.1, u0.2.2.1, u0.2.2.2.1, u0.2.2.2.2.1, u0.2.2.2.2.2.1, u0.2.2.2.2.2.2.1, u0.2.2.2.2.2.2.2.1, u0.2.2.2.2.2.2.2.2.1, u0.2.2.2.2.2.2.2.2.2.1, u0.2.2.2.2.2.2.2.2.2.2.1, u0.2.2.2.2.2.2.2.2.2.2.2.1, u0.2.2.2.2.2.2.2.2.2.2.2.2.1, u0.2.2.2.2.2.2.2.2.2.2.2.2.2.1, u0.2.2.2.2.2.2.2.2.2.2.2.2.2.2.1, u0.2.2.2.2.2.2.2.2.2.2.2.2.2.2.2.1, u0.2.2.2.2.2.2.2.2.2.2.2.2.2.2.2.2.1, (vp_updL u0.2.2.2.2.2.2.2.2.2.2.2.2.2.2.2.2.2.1 y1.toNatClampNeg y0), u0.2.2.2.2.2.2.2.2.2.2.2.2.2.2.2.2.2.2.1, u0.2.2.2.2.2.2.2.2.2.2.2.2.2.2.2.2.2.2.2.1, u0.2.2.2.2.2.2.2.2.2.2.2.2.2.2.2.2.2.2.2.2.1, u0.2.2.2.2.2.2.2.2.2.2.2.2.2.2.2.2.2.2.2.2.2) _ _ _ hw hP hD hS (lv_sub hl [1, 2, 3, 0, 4] rfl)
set_option maxHeartbeats 4000000 in
set_option maxRecDepth 100000 in
theorem t_X10_demand_27 {p : Program} {l : Launch} {e : Env} {s : State} {m : MethodId} {args : Array Value} {below : List Frame} {meth : Method} {c : Code} {Z : zZ} {E : zE} {A : Nat → Prop} {q0 : Nat → Nat} (hZ0 : zSt Z) (C0 : zC p s m args meth c yX10_demand cX10_demand 7 (some .int)) (hA : ∀ q : Nat, s.heap.size ≤ q → A q) (hK : va_K (zD E) vwCl (zT E) s) (hZ : Z A s s.heap) (post : Int32 → S_X10 → Prop) : ∀ (n : Nat) (x1 : Int32) (x2 : Int32) (x3 : Int32) (x4 : Int32) (u0 : S_X10) (H : Heap) (locs : List Loc) (ls : Array Slot), zl (fun K st => j_X10_demand_27 K st.1 st.2.1 st.2.2.1 st.2.2.2.1 st.2.2.2.2 post) n (x1, x2, x3, x4, u0) → va_P (zD E) vwCl (k_X10 E q0 u0) H → va_D A (k_X10 E q0 u0) → va_S A s.heap H locs → lv_has ls 7 [(0, .ref (q0 0)), (1, .int x1), (2, .int x2), (3, .int x3), (4, .int x4)] → W p l e r_X10_demand s m args below meth c H locs 0 0 (MQ below (va_Qi post (zAt E A (fun u => k_X10 E q0 u)) A) args s 0 0 A) (F0 m 27 ls []) := by
  obtain ⟨hx, hb, hml, hr, hown, hts, hlocks, hin⟩ := id C0
  have hown : s.vm.findClass RX10 = some m.cls := hown
  intro n
  induction n with
  | zero => intro x1 x2 x3 x4 u0 H locs ls hw; exact hw.elim
  | succ n hk_27 =>
    intro x1 x2 x3 x4 u0 H locs ls hw hP hD hS hl
    have hw : j_X10_demand_27 _ x1 x2 x3 x4 u0 post := hw
    refine lv_iload hx hb dX10_demand_27 (lv_at hl 4 rfl) ?_
    refine lv_aload_n hx hb dX10_demand_29 rfl (lv_at hl 0 rfl) ?_
    refine va_get (D := zD E) (ci := 10) (v := .ref (q0 3)) (C := RX10) (T := TX10) (N := 24) hx hb hts uw_X10 hown hK hP 0 rfl rfl 9 (by decide) (hts _ wm_5_125) (fun _ h9 => h9) rfl dX10_demand_30 ?_
    refine lv_bipush (v := 14) hx hb dX10_demand_33 rfl ?_
    refine va_iald hx hb hK hP 3 0 rfl rfl (show ¬ ((14 : Int32) < 0 ∨ 1728 ≤ (14 : Int32).toNatClampNeg) by decide) dX10_demand_35 ?_
    refine W.eq (g2 := F0 m 36 ls ([.int (u0.2.2.2.2.2.2.2.2.2.1 14), .int x4])) rfl ?_
    obtain ⟨hwt, hwf⟩ := hw
    refine lv_icmp_ge (tgt := 158) hx hb dX10_demand_36 (by decide) (fun c_6 => ?_) (fun c_6 => ?_)
    · have hw := hwt c_6
      refine lv_aload_n hx hb dX10_demand_158 rfl (lv_at hl 0 rfl) ?_
      refine va_get (D := zD E) (ci := 10) (v := .ref (q0 9)) (C := RX10) (T := TX10) (N := 24) hx hb hts uw_X10 hown hK hP 0 rfl rfl 19 (by decide) (hts _ wm_5_135) (fun _ h9 => h9) rfl dX10_demand_159 ?_
      refine lv_iconst (v := 0) hx hb dX10_demand_162 rfl ?_
      refine va_lald hx hb hK hP 7 1 rfl rfl (show ¬ ((0 : Int32) < 0 ∨ 1300 ≤ (0 : Int32).toNatClampNeg) by decide) dX10_demand_163 ?_
      refine W.eq (g2 := F0 m 164 ls ([.long (u0.2.2.2.2.2.2.2.2.2.2.2.2.2.2.2.2.2.1 0)])) rfl ?_
      refine lv_lconst (v := 0) hx hb dX10_demand_164 rfl ?_
      refine W.lcmp hx hb dX10_demand_165 ?_
      obtain ⟨hwt, hwf⟩ := hw
      refine lv_if_ge (tgt := 173) hx hb dX10_demand_166 (by decide) (fun c_7 => ?_) (fun c_7 => ?_)
      · have hw := hwt c_7
        refine lv_aload_n hx hb dX10_demand_173 rfl (lv_at hl 0 rfl) ?_
        refine va_get (D := zD E) (ci := 10) (v := .ref (q0 9)) (C := RX10) (T := TX10) (N := 24) hx hb hts uw_X10 hown hK hP 0 rfl rfl 19 (by decide) (hts _ wm_5_135) (fun _ h9 => h9) rfl dX10_demand_174 ?_
        refine lv_iconst (v := 0) hx hb dX10_demand_177 rfl ?_
        refine va_lald hx hb hK hP 7 1 rfl rfl (show ¬ ((0 : Int32) < 0 ∨ 1300 ≤ (0 : Int32).toNatClampNeg) by decide) dX10_demand_178 ?_
        refine W.eq (g2 := F0 m 179 ls ([.long (u0.2.2.2.2.2.2.2.2.2.2.2.2.2.2.2.2.2.1 0)])) rfl ?_
        refine lv_ldc2 hx hb hown (hts _ wm_6_71) dX10_demand_179 ?_
        refine W.lcmp hx hb dX10_demand_182 ?_
        obtain ⟨hwt, hwf⟩ := hw
        refine lv_if_le (tgt := 192) hx hb dX10_demand_183 (by decide) (fun c_8 => ?_) (fun c_8 => ?_)
        · have hw := hwt c_8
          refine lv_aload_n hx hb dX10_demand_192 rfl (lv_at hl 0 rfl) ?_
          refine va_get (D := zD E) (ci := 10) (v := .ref (q0 9)) (C := RX10) (T := TX10) (N := 24) hx hb hts uw_X10 hown hK hP 0 rfl rfl 19 (by decide) (hts _ wm_5_135) (fun _ h9 => h9) rfl dX10_demand_193 ?_
          refine lv_iconst (v := 0) hx hb dX10_demand_196 rfl ?_
          refine va_lald hx hb hK hP 7 1 rfl rfl (show ¬ ((0 : Int32) < 0 ∨ 1300 ≤ (0 : Int32).toNatClampNeg) by decide) dX10_demand_197 ?_
          refine W.eq (g2 := F0 m 198 ls ([.long (u0.2.2.2.2.2.2.2.2.2.2.2.2.2.2.2.2.2.1 0)])) rfl ?_
          refine lv_l2i hx hb dX10_demand_198 rfl ?_
          exact z_iret (k := (fun u => k_X10 E q0 u)) u0 C0 hP hD hS hw dX10_demand_199
        · have hw := hwf c_8
          refine lv_sipush (v := 9999) hx hb dX10_demand_186 rfl ?_
          refine lv_goto (tgt := 199) hx hb dX10_demand_189 (by decide) ?_
          exact z_iret (k := (fun u => k_X10 E q0 u)) u0 C0 hP hD hS hw dX10_demand_199
      · have hw := hwf c_7
        refine lv_iconst (v := 0) hx hb dX10_demand_169 rfl ?_
        refine lv_goto (tgt := 199) hx hb dX10_demand_170 (by decide) ?_
        exact z_iret (k := (fun u => k_X10 E q0 u)) u0 C0 hP hD hS hw dX10_demand_199
    · have hw := hwf c_6
      refine lv_aload_n hx hb dX10_demand_39 rfl (lv_at hl 0 rfl) ?_
      refine va_get (D := zD E) (ci := 10) (v := .ref (q0 3)) (C := RX10) (T := TX10) (N := 24) hx hb hts uw_X10 hown hK hP 0 rfl rfl 9 (by decide) (hts _ wm_5_125) (fun _ h9 => h9) rfl dX10_demand_40 ?_
      refine lv_sipush (v := 428) hx hb dX10_demand_43 rfl ?_
      refine lv_iload hx hb dX10_demand_46 (lv_at hl 4 rfl) ?_
      refine lv_iadd hx hb dX10_demand_48 ?_
      obtain ⟨h_9, hw⟩ := hw
      refine va_iald hx hb hK hP 3 0 rfl rfl h_9 dX10_demand_49 ?_
      refine lv_topi (fun x_10 ex_10 => ?_)
      have hw := hw x_10 ex_10
      refine lv_istore (lv' := [(5, .int x_10), (0, .ref (q0 0)), (1, .int x1), (2, .int x2), (3, .int x3), (4, .int x4)]) hx hb dX10_demand_50 hl (by decide) rfl (fun ls hl => ?_)
      refine lv_iload hx hb dX10_demand_52 (lv_at hl 0 rfl) ?_
      refine lv_iconst (v := 1) hx hb dX10_demand_54 rfl ?_
      obtain ⟨hwt, hwf⟩ := hw
      refine lv_icmp_gt (tgt := 122) hx hb dX10_demand_55 (by decide) (fun c_11 => ?_) (fun c_11 => ?_)
      · have hw := hwt c_11
        obtain ⟨x_12, ex_12⟩ : ∃ y : Int32, y = x3 + (-1) := ⟨_, rfl⟩
        have hw := hw x_12 ex_12
        refine lv_iinc (v := x_12) (lv' := [(3, .int x_12), (5, .int x_10), (0, .ref (q0 0)), (1, .int x1), (2, .int x2), (4, .int x4)]) hx hb dX10_demand_122 hl (k := 4) rfl (by rw [ex_12]; rfl) (by decide) rfl (fun ls hl => ?_)
        refine lv_aload_n hx hb dX10_demand_125 rfl (lv_at hl 2 rfl) ?_
        refine va_get (D := zD E) (ci := 10) (v := .ref (q0 9)) (C := RX10) (T := TX10) (N := 24) hx hb hts uw_X10 hown hK hP 0 rfl rfl 19 (by decide) (hts _ wm_5_135) (fun _ h9 => h9) rfl dX10_demand_126 ?_
        refine lv_iload_n hx hb dX10_demand_129 rfl (lv_at hl 0 rfl) ?_
        refine lv_iconst (v := 1) hx hb dX10_demand_130 rfl ?_
        refine lv_isub hx hb dX10_demand_131 ?_
        refine lv_iload hx hb dX10_demand_132 (lv_at hl 1 rfl) ?_
        refine lv_aload_n hx hb dX10_demand_134 rfl (lv_at hl 2 rfl) ?_
        refine va_get (D := zD E) (ci := 10) (v := .ref (q0 9)) (C := RX10) (T := TX10) (N := 24) hx hb hts uw_X10 hown hK hP 0 rfl rfl 19 (by decide) (hts _ wm_5_135) (fun _ h9 => h9) rfl dX10_demand_135 ?_
        refine lv_iload_n hx hb dX10_demand_138 rfl (lv_at hl 0 rfl) ?_
        refine lv_iconst (v := 1) hx hb dX10_demand_139 rfl ?_
        refine lv_isub hx hb dX10_demand_140 ?_
        obtain ⟨h_13, hw⟩ := hw
        refine va_lald hx hb hK hP 7 1 rfl rfl h_13 dX10_demand_141 ?_
        refine lv_aload_n hx hb dX10_demand_142 rfl (lv_at hl 2 rfl) ?_
        refine va_get (D := zD E) (ci := 10) (v := .ref (q0 9)) (C := RX10) (T := TX10) (N := 24) hx hb hts uw_X10 hown hK hP 0 rfl rfl 19 (by decide) (hts _ wm_5_135) (fun _ h9 => h9) rfl dX10_demand_143 ?_
        refine lv_iload_n hx hb dX10_demand_146 rfl (lv_at hl 0 rfl) ?_
        obtain ⟨h_14, hw⟩ := hw
        refine va_lald hx hb hK hP 7 1 rfl rfl h_14 dX10_demand_147 ?_
        refine z_kl (z_rS (rest := [.int (x_12 - (1 : Int32)), .ref (q0 9)]) hZ0 C0 hK hZ hA hP hD hS hl.1 (c_X10_operate l E Z hZ0 H.size x_10 (u0.2.2.2.2.2.2.2.2.2.2.2.2.2.2.2.2.2.1 (x_12 - (1 : Int32)).toNatClampNeg) (u0.2.2.2.2.2.2.2.2.2.2.2.2.2.2.2.2.2.1 x_12.toNatClampNeg) _ hw) yv_X10_204 [] rfl (by decide) ⟨Nat.le_of_ble_eq_true rfl, Nat.le_of_ble_eq_true rfl⟩ ⟨rfl, rfl⟩ rfl rfl (Nat.le_of_ble_eq_true rfl) ⟨Nat.le_of_ble_eq_true rfl, Nat.le_of_ble_eq_true rfl⟩ dX10_demand_148) hP hD hS hA [] [0, 1, 2, 3, 4, 5, 6, 7, 8, 9] [0, 1, 2, 3, 4, 5, 6, 7, 8, 9] rfl (wr := [_, _, _, _, _, _, _, _, _, _]) rfl (by decide) (by decide) (fun u => k_X10 E q0 u0) (fun u => rfl) (by decide) (fun r_16 u_15 H locs hw hP hD hS => ?_)
        obtain ⟨h_17, hw⟩ := hw
        refine va_last hx hb hK hP hD hS 7 1 rfl rfl h_17 dX10_demand_151 (fun H locs hP hD hS => ?_)
        have hP : va_P (zD E) vwCl (k_X10 E q0 (u0.1, u0.2.1, u0.2.2.1, u0.2.2.2.1, u0.2.2.2.2.1, u0.2.2.2.2.2.1, u0.2.2.2.2.2.2.1, u0.2.2.2.2.2.2.2.1, u0.2.2.2.2.2.2.2.2.1, u0.2.2.2.2.2.2.2.2.2.1, u0.2.2.2.2.2.2.2.2.2.2.1, u0.2.2.2.2.2.2.2.2.2.2.2.1, u0.2.2.2.2.2.2.2.2.2.2.2.2.1, u0.2.2.2.2.2.2.2.2.2.2.2.2.2.1, u0.2.2.2.2.2.2.2.2.2.2.2.2.2.2.1, u0.2.2.2.2.2.2.2.2.2.2.2.2.2.2.2.1, u0.2.2.2.2.2.2.2.2.2.2.2.2.2.2.2.2.1, (vp_updL u0.2.2.2.2.2.2.2.2.2.2.2.2.2.2.2.2.2.1 (x_12 - (1 : Int32)).toNatClampNeg r_16), u0.2.2.2.2.2.2.2.2.2.2.2.2.2.2.2.2.2.2.1, u0.2.2.2.2.2.2.2.2.2.2.2.2.2.2.2.2.2.2.2.1, u0.2.2.2.2.2.2.2.2.2.2.2.2.2.2.2.2.2.2.2.2.1, u0.2.2.2.2.2.2.2.2.2.2.2.2.2.2.2.2.2.2.2.2.2)) H := hP
        have hD : va_D A (k_X10 E q0 (u0.1, u0.2.1, u0.2.2.1, u0.2.2.2.1, u0.2.2.2.2.1, u0.2.2.2.2.2.1, u0.2.2.2.2.2.2.1, u0.2.2.2.2.2.2.2.1, u0.2.2.2.2.2.2.2.2.1, u0.2.2.2.2.2.2.2.2.2.1, u0.2.2.2.2.2.2.2.2.2.2.1, u0.2.2.2.2.2.2.2.2.2.2.2.1, u0.2.2.2.2.2.2.2.2.2.2.2.2.1, u0.2.2.2.2.2.2.2.2.2.2.2.2.2.1, u0.2.2.2.2.2.2.2.2.2.2.2.2.2.2.1, u0.2.2.2.2.2.2.2.2.2.2.2.2.2.2.2.1, u0.2.2.2.2.2.2.2.2.2.2.2.2.2.2.2.2.1, (vp_updL u0.2.2.2.2.2.2.2.2.2.2.2.2.2.2.2.2.2.1 (x_12 - (1 : Int32)).toNatClampNeg r_16), u0.2.2.2.2.2.2.2.2.2.2.2.2.2.2.2.2.2.2.1, u0.2.2.2.2.2.2.2.2.2.2.2.2.2.2.2.2.2.2.2.1, u0.2.2.2.2.2.2.2.2.2.2.2.2.2.2.2.2.2.2.2.2.1, u0.2.2.2.2.2.2.2.2.2.2.2.2.2.2.2.2.2.2.2.2.2)) := hD
        exact t_X10_demand_152 (l := l) hZ0 C0 hA hK hZ post hk_27 x1 x2 x_12 x4 (u0.1, u0.2.1, u0.2.2.1, u0.2.2.2.1, u0.2.2.2.2.1, u0.2.2.2.2.2.1, u0.2.2.2.2.2.2.1, u0.2.2.2.2.2.2.2.1, u0.2.2.2.2.2.2.2.2.1, u0.2.2.2.2.2.2.2.2.2.1, u0.2.2.2.2.2.2.2.2.2.2.1, u0.2.2.2.2.2.2.2.2.2.2.2.1, u0.2.2.2.2.2.2.2.2.2.2.2.2.1, u0.2.2.2.2.2.2.2.2.2.2.2.2.2.1, u0.2.2.2.2.2.2.2.2.2.2.2.2.2.2.1, u0.2.2.2.2.2.2.2.2.2.2.2.2.2.2.2.1, u0.2.2.2.2.2.2.2.2.2.2.2.2.2.2.2.2.1, (vp_updL u0.2.2.2.2.2.2.2.2.2.2.2.2.2.2.2.2.2.1 (x_12 - (1 : Int32)).toNatClampNeg r_16), u0.2.2.2.2.2.2.2.2.2.2.2.2.2.2.2.2.2.2.1, u0.2.2.2.2.2.2.2.2.2.2.2.2.2.2.2.2.2.2.2.1, u0.2.2.2.2.2.2.2.2.2.2.2.2.2.2.2.2.2.2.2.2.1, u0.2.2.2.2.2.2.2.2.2.2.2.2.2.2.2.2.2.2.2.2.2) _ _ _ hw hP hD hS (lv_sub hl [2, 3, 4, 0, 5] rfl)
      · have hw := hwf c_11
        obtain ⟨x_18, ex_18⟩ : ∃ y : Int32, y = x4 + 1 := ⟨_, rfl⟩
        have hw := hw x_18 ex_18
        refine lv_iinc (v := x_18) (lv' := [(4, .int x_18), (5, .int x_10), (0, .ref (q0 0)), (1, .int x1), (2, .int x2), (3, .int x3)]) hx hb dX10_demand_58 hl (k := 5) rfl (by rw [ex_18]; rfl) (by decide) rfl (fun ls hl => ?_)
        refine lv_aload_n hx hb dX10_demand_61 rfl (lv_at hl 2 rfl) ?_
        refine va_get (D := zD E) (ci := 10) (v := .ref (q0 3)) (C := RX10) (T := TX10) (N := 24) hx hb hts uw_X10 hown hK hP 0 rfl rfl 9 (by decide) (hts _ wm_5_125) (fun _ h9 => h9) rfl dX10_demand_62 ?_
        refine lv_sipush (v := 428) hx hb dX10_demand_65 rfl ?_
        refine lv_iload hx hb dX10_demand_68 (lv_at hl 0 rfl) ?_
        refine lv_iadd hx hb dX10_demand_70 ?_
        obtain ⟨h_19, hw⟩ := hw
        refine va_iald hx hb hK hP 3 0 rfl rfl h_19 dX10_demand_71 ?_
        refine lv_topi (fun x_20 ex_20 => ?_)
        have hw := hw x_20 ex_20
        refine lv_istore (lv' := [(6, .int x_20), (4, .int x_18), (5, .int x_10), (0, .ref (q0 0)), (1, .int x1), (2, .int x2), (3, .int x3)]) hx hb dX10_demand_72 hl (by decide) rfl (fun ls hl => ?_)
        refine lv_aload_n hx hb dX10_demand_74 rfl (lv_at hl 3 rfl) ?_
        refine va_get (D := zD E) (ci := 10) (v := .ref (q0 9)) (C := RX10) (T := TX10) (N := 24) hx hb hts uw_X10 hown hK hP 0 rfl rfl 19 (by decide) (hts _ wm_5_135) (fun _ h9 => h9) rfl dX10_demand_75 ?_
        refine lv_iload_n hx hb dX10_demand_78 rfl (lv_at hl 6 rfl) ?_
        refine lv_iload hx hb dX10_demand_79 (lv_at hl 2 rfl) ?_
        obtain ⟨hwt, hwf⟩ := hw
        refine lv_if_ne (tgt := 90) hx hb dX10_demand_81 (by decide) (fun c_21 => ?_) (fun c_21 => ?_)
        · have hw := hwt c_21
          refine lv_iload hx hb dX10_demand_90 (lv_at hl 0 rfl) ?_
          obtain ⟨hwt, hwf⟩ := hw
          refine lv_if_ne (tgt := 100) hx hb dX10_demand_92 (by decide) (fun c_22 => ?_) (fun c_22 => ?_)
          · have hw := hwt c_22
            refine lv_iload hx hb dX10_demand_100 (lv_at hl 0 rfl) ?_
            refine lv_iconst (v := 1) hx hb dX10_demand_102 rfl ?_
            obtain ⟨hwt, hwf⟩ := hw
            refine lv_icmp_ne (tgt := 113) hx hb dX10_demand_103 (by decide) (fun c_23 => ?_) (fun c_23 => ?_)
            · have hw := hwt c_23
              refine lv_iload_n hx hb dX10_demand_113 rfl (lv_at hl 5 rfl) ?_
              refine lv_i2l hx hb dX10_demand_114 rfl ?_
              exact t_X10_demand_115 (l := l) hZ0 C0 hA hK hZ post hk_27 x1 x2 x3 x_18 x2.toInt64 x3 u0 _ _ _ hw hP hD hS (lv_sub hl [3, 4, 5, 6, 1] rfl)
            · have hw := hwf c_23
              refine lv_iload_n hx hb dX10_demand_106 rfl (lv_at hl 4 rfl) ?_
              refine lv_iconst (v := 4) hx hb dX10_demand_107 rfl ?_
              refine lv_irem hx hb dX10_demand_108 (by decide) ?_
              refine lv_i2l hx hb dX10_demand_109 rfl ?_
              refine lv_goto (tgt := 115) hx hb dX10_demand_110 (by decide) ?_
              exact t_X10_demand_115 (l := l) hZ0 C0 hA hK hZ post hk_27 x1 x2 x3 x_18 ((x1 - x1 / (4 : Int32) * (4 : Int32)).toInt64) x3 u0 _ _ _ hw hP hD hS (lv_sub hl [3, 4, 5, 6, 1] rfl)
          · have hw := hwf c_22
            refine lv_iload_n hx hb dX10_demand_95 rfl (lv_at hl 4 rfl) ?_
            refine lv_i2l hx hb dX10_demand_96 rfl ?_
            refine lv_goto (tgt := 115) hx hb dX10_demand_97 (by decide) ?_
            exact t_X10_demand_115 (l := l) hZ0 C0 hA hK hZ post hk_27 x1 x2 x3 x_18 x1.toInt64 x3 u0 _ _ _ hw hP hD hS (lv_sub hl [3, 4, 5, 6, 1] rfl)
        · have hw := hwf c_21
          refine lv_iload hx hb dX10_demand_84 (lv_at hl 0 rfl) ?_
          refine lv_i2l hx hb dX10_demand_86 rfl ?_
          refine lv_goto (tgt := 115) hx hb dX10_demand_87 (by decide) ?_
          exact t_X10_demand_115 (l := l) hZ0 C0 hA hK hZ post hk_27 x1 x2 x3 x_18 x_20.toInt64 x3 u0 _ _ _ hw hP hD hS (lv_sub hl [3, 4, 5, 6, 1] rfl)
set_option maxHeartbeats 4000000 in
set_option maxRecDepth 100000 in
theorem c_X10_demand (l : Launch) (E : zE) (Z : zZ) (hZ0 : zSt Z) (q0 : Nat → Nat) (sz : Nat) (u0 : S_X10) (p1 : Int32) (post : Int32 → S_X10 → Prop) (hw : wp_X10_demand u0 p1 post) : Met l yX10_demand (zws yX10_demand cX10_demand 7 (some .int)) r_X10_demand (va_Pc [.ref (q0 0), .int p1] (zPre Z E (k_X10 E q0 u0) sz)) (va_Qi post (zAt E (va_A (k_X10 E q0 u0) sz) (fun u => k_X10 E q0 u)) (va_A (k_X10 E q0 u0) sz)) 0 0 (va_A (k_X10 E q0 u0) sz) := by
  refine z_ofW (Qf := fun A => va_Qi post (zAt E A (fun u => k_X10 E q0 u)) A) (by decide) (Nat.le_of_ble_eq_true rfl) ?_
  intro p e s m args below meth c A ls C0 hA hK hZ hP hD hS hl
  obtain ⟨hx, hb, hml, hr, hown, hts, hlocks, hin⟩ := id C0
  have hown : s.vm.findClass RX10 = some m.cls := hown
  have hl : lv_has ls 7 [(0, .ref (q0 0)), (1, .int p1)] := hl
  refine lv_aload_n hx hb dX10_demand_0 rfl (lv_at hl 0 rfl) ?_
  refine va_get (D := zD E) (ci := 10) (v := .ref (q0 3)) (C := RX10) (T := TX10) (N := 24) hx hb hts uw_X10 hown hK hP 0 rfl rfl 9 (by decide) (hts _ wm_5_125) (fun _ h9 => h9) rfl dX10_demand_1 ?_
  refine lv_iload_n hx hb dX10_demand_4 rfl (lv_at hl 1 rfl) ?_
  refine z_ki (z_rS (rest := [.ref (q0 3)]) hZ0 C0 hK hZ hA hP hD hS hl.1 (c_X10_period l E Z hZ0 s.heap.size p1 _ hw) yv_X10_148 [] rfl (by decide) ⟨Nat.le_of_ble_eq_true rfl, Nat.le_of_ble_eq_true rfl⟩ ⟨rfl, rfl⟩ rfl rfl (Nat.le_of_ble_eq_true rfl) ⟨Nat.le_of_ble_eq_true rfl, Nat.le_of_ble_eq_true rfl⟩ dX10_demand_5) hP hD hS hA [] [0, 1, 2, 3, 4, 5, 6, 7, 8, 9] [0, 1, 2, 3, 4, 5, 6, 7, 8, 9] rfl (wr := [_, _, _, _, _, _, _, _, _, _]) rfl (by decide) (by decide) (fun u => k_X10 E q0 u0) (fun u => rfl) (by decide) (fun r_2 u_1 H locs hw hP hD hS => ?_)
  obtain ⟨h_3, hw⟩ := hw
  refine va_iald hx hb hK hP 3 0 rfl rfl h_3 dX10_demand_8 ?_
  refine lv_topi (fun x_4 ex_4 => ?_)
  have hw := hw x_4 ex_4
  refine lv_istore_n (lv' := [(2, .int x_4), (0, .ref (q0 0)), (1, .int p1)]) hx hb dX10_demand_9 rfl hl (by decide) rfl (fun ls hl => ?_)
  refine lv_aload_n hx hb dX10_demand_10 rfl (lv_at hl 1 rfl) ?_
  refine va_get (D := zD E) (ci := 10) (v := .ref (q0 3)) (C := RX10) (T := TX10) (N := 24) hx hb hts uw_X10 hown hK hP 0 rfl rfl 9 (by decide) (hts _ wm_5_125) (fun _ h9 => h9) rfl dX10_demand_11 ?_
  refine lv_bipush (v := 15) hx hb dX10_demand_14 rfl ?_
  refine va_iald hx hb hK hP 3 0 rfl rfl (show ¬ ((15 : Int32) < 0 ∨ 1728 ≤ (15 : Int32).toNatClampNeg) by decide) dX10_demand_16 ?_
  refine W.eq (g2 := F0 m 17 ls ([.int (u0.2.2.2.2.2.2.2.2.2.1 15)])) rfl ?_
  obtain ⟨hwt, hwf⟩ := hw
  refine lv_if_ne (tgt := 22) hx hb dX10_demand_17 (by decide) (fun c_5 => ?_) (fun c_5 => ?_)
  · have hw := hwt c_5
    refine lv_iconst (v := 0) hx hb dX10_demand_22 rfl ?_
    refine lv_istore_n (lv' := [(3, .int (0 : Int32)), (2, .int x_4), (0, .ref (q0 0)), (1, .int p1)]) hx hb dX10_demand_23 rfl hl (by decide) rfl (fun ls hl => ?_)
    refine lv_iconst (v := 0) hx hb dX10_demand_24 rfl ?_
    refine lv_istore (lv' := [(4, .int (0 : Int32)), (3, .int (0 : Int32)), (2, .int x_4), (0, .ref (q0 0)), (1, .int p1)]) hx hb dX10_demand_25 hl (by decide) rfl (fun ls hl => ?_)
    obtain ⟨n9, hw⟩ := hw
    exact t_X10_demand_27 (l := l) hZ0 C0 hA hK hZ post n9 p1 x_4 (0 : Int32) (0 : Int32) u0 _ _ _ hw hP hD hS (lv_sub hl [3, 4, 2, 1, 0] rfl)
  · have hw := hwf c_5
    refine lv_iload_n hx hb dX10_demand_20 rfl (lv_at hl 0 rfl) ?_
    exact z_iret (k := (fun u => k_X10 E q0 u)) u0 C0 hP hD hS hw dX10_demand_21
