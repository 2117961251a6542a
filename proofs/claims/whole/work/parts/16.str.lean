/-! Texts: a String's cell a with the bytes bs; String.length and charAt. -/
def zStr (a : Nat) (bs : List Int32) (A : Nat → Prop) (U : State) (H : Heap) : Prop := va_O "java/lang/String" a A U H ∧ va_OF "java/lang/String" "coder" "B" (.int 0) a A U H ∧ (∃ v : Nat, va_OF "java/lang/String" "value" "[B" (.ref v) a A U H ∧ va_T .byte v bs.length (fun j => .int (bs.getD j 0)) A U H) ∧ va_Z "java/lang/String" "COMPACT_STRINGS" "Z" (.int 1) A U H ∧ va_Zq "jdk/internal/util/Preconditions" "SIOOBE_FORMATTER" "Ljava/util/function/BiFunction;" A U H
section ZS
variable {p : Program} {l : Launch} {e : Env} {R : Room} {s : State} {m : MethodId} {args : Array Value} {below : List Frame} {meth : Method} {c : Code} {H : Heap} {locs : List Loc} {cells slots : Nat} {Q : State → Prop}
variable {pc : Nat} {ls : Array Slot} {rest st0 : List Value} {Z : zZ} {E : zE} {A : Nat → Prop} {ws wc wr : va_W} {mc ms : Nat}
/-- a virtual call whose receiver isn't of the world -/
theorem z_rT {y0 y : MethodName} {cc b : ByteArray} {nL n : Nat} {ret0 r : Option FieldType} {k idx : Nat} {rm : Room} {Qc : Array Value → State → Outcome → State → Prop} {As : List Value} {a : Nat} (hZ0 : zSt Z) (C0 : zC p s m args meth c y0 cc nL ret0) (hK : va_K (zD E) vwCl (zT E) s) (hZ : Z A s s.heap) (hA : ∀ q : Nat, s.heap.size ≤ q → A q) (hP : va_P (zD E) vwCl ws H) (hD : va_D A ws) (hS : va_S A s.heap H locs) (hls : ls.size = nL)
    (hM : Met l y (zws y b n r) rm (va_Pc (.ref a :: As) (zPre Z E wc H.size)) Qc mc ms (va_A wc H.size)) (hY : zYV y0.cls idx y b n r k) (isC : List Nat) (hC : isC.map (fun i => ws[i]?) = wc.map some) (hn : va_nd isC = true) (he : va_O y.cls a A s s.heap)
    (hR : rm.frames + 1 ≤ R.frames ∧ 8 + (n + 11) + rm.locals ≤ R.locals) (hrm : rm.cells = mc ∧ rm.slots = ms) (hl : As.length = k) (hst : st0 = As.reverse ++ .ref a :: rest) (hw : (rest.map fun v => v.category).sum ≤ 8) (hf : cells + mc ≤ R.cells ∧ slots + ms ≤ R.slots) (hdg : decode cc pc = .ok (.invokevirtual idx, 3)) : zRn p l e R s m args below meth c H locs cells slots pc ls st0 rest mc ms Qc (Value.ref a :: As).toArray wc := by
  obtain ⟨hx, hb, hml, hr, hown, hts, hlocks, hin⟩ := C0
  obtain ⟨h1, h2, h3, h4, h5, h6⟩ := hY
  obtain ⟨cell, r1, r2, r3, -⟩ := he.kept hS.2.1
  exact va_runV (As := As) (rest := rest) ⟨hx, hb, hml, hown, hts⟩ hM ⟨z_cB hts hrm.1 hrm.2 hR h1 h2 h3 h4, hts _ h5, hts _ h6⟩ ⟨zPre_blind hZ0, ⟨cell, r1, r2, r3⟩, z_pre hZ0 hK hZ hP hD hS hA isC hC hn⟩ rfl hl hls hst (lv_room hw) hdg hf
end ZS
abbrev r_J0_0 : Room := { frames := 0, cells := 0, slots := 0, locals := 0 }
abbrev r_J0_1 : Room := { frames := 1, cells := 0, slots := 0, locals := 40 }
abbrev r_J0_2 : Room := { frames := 2, cells := 0, slots := 0, locals := 80 }
abbrev r_J0_3 : Room := { frames := 3, cells := 0, slots := 0, locals := 120 }
set_option maxHeartbeats 4000000 in
set_option maxRecDepth 100000 in
theorem c_J0_coder (l : Launch) (E : zE) (Z : zZ) (hZ0 : zSt Z) (a : Nat) (bs : List Int32) (hs : ∀ A U H, Z A U H → zStr a bs A U H) (sz : Nat) (post : Int32 → Unit → Prop) (hw : post 0 ()) : Met l yJ0_coder_7d493 (zws yJ0_coder_7d493 cJ0_coder_7d493 1 (some .byte)) r_J0_0 (va_Pc [.ref a] (zPre Z E [] sz)) (va_Qi post (zAt E (va_A [] sz) (fun _ => [])) (va_A [] sz)) 0 0 (va_A [] sz) := by
  refine z_ofW (Qf := fun A => va_Qi post (zAt E A (fun _ => [])) A) (by decide) (Nat.le_of_ble_eq_true rfl) ?_
  intro p e s m args below meth c A ls C0 hA hK hZ hP hD hS hl
  obtain ⟨hx, hb, hml, hr, hown, hts, hlocks, hin⟩ := id C0
  have hown : s.vm.findClass RJ0 = some m.cls := hown
  have hl : lv_has ls 1 [(0, .ref a)] := hl
  obtain ⟨s1, s2, ⟨v, s3, s4⟩, s5, s6⟩ := hs _ _ _ hZ
  refine va_gets hx hb s5 hS hown (hts _ wm_3_171) (fun _ h9 => h9) dJ0_coder_7d493_0 ?_
  refine lv_if_eq (tgt := 13) hx hb dJ0_coder_7d493_3 (by decide) (fun c_1 => absurd c_1 (by decide)) (fun c_1 => ?_)
  refine lv_aload_n hx hb dJ0_coder_7d493_6 rfl (lv_at hl 0 rfl) ?_
  refine vk_getf hx hb s2 hS hown (hts _ wm_7_49) (fun _ h9 => h9) dJ0_coder_7d493_7 ?_
  refine lv_goto (tgt := 14) hx hb dJ0_coder_7d493_10 (by decide) ?_
  exact z_zret (k := fun _ => []) () C0 rfl hP hD hS hw dJ0_coder_7d493_14
set_option maxHeartbeats 4000000 in
set_option maxRecDepth 100000 in
theorem c_J0_isLatin1 (l : Launch) (E : zE) (Z : zZ) (hZ0 : zSt Z) (a : Nat) (bs : List Int32) (hs : ∀ A U H, Z A U H → zStr a bs A U H) (sz : Nat) (post : Int32 → Unit → Prop) (hw : post 1 ()) : Met l yJ0_isLatin1_aae02 (zws yJ0_isLatin1_aae02 cJ0_isLatin1_aae02 1 (some .boolean)) r_J0_0 (va_Pc [.ref a] (zPre Z E [] sz)) (va_Qi post (zAt E (va_A [] sz) (fun _ => [])) (va_A [] sz)) 0 0 (va_A [] sz) := by
  refine z_ofW (Qf := fun A => va_Qi post (zAt E A (fun _ => [])) A) (by decide) (Nat.le_of_ble_eq_true rfl) ?_
  intro p e s m args below meth c A ls C0 hA hK hZ hP hD hS hl
  obtain ⟨hx, hb, hml, hr, hown, hts, hlocks, hin⟩ := id C0
  have hown : s.vm.findClass RJ0 = some m.cls := hown
  have hl : lv_has ls 1 [(0, .ref a)] := hl
  obtain ⟨s1, s2, ⟨v, s3, s4⟩, s5, s6⟩ := hs _ _ _ hZ
  refine va_gets hx hb s5 hS hown (hts _ wm_3_171) (fun _ h9 => h9) dJ0_isLatin1_aae02_0 ?_
  refine lv_if_eq (tgt := 17) hx hb dJ0_isLatin1_aae02_3 (by decide) (fun c_1 => absurd c_1 (by decide)) (fun c_1 => ?_)
  refine lv_aload_n hx hb dJ0_isLatin1_aae02_6 rfl (lv_at hl 0 rfl) ?_
  refine vk_getf hx hb s2 hS hown (hts _ wm_7_49) (fun _ h9 => h9) dJ0_isLatin1_aae02_7 ?_
  refine lv_if_ne (tgt := 17) hx hb dJ0_isLatin1_aae02_10 (by decide) (fun c_2 => absurd rfl c_2) (fun c_2 => ?_)
  refine lv_iconst (v := 1) hx hb dJ0_isLatin1_aae02_13 rfl ?_
  refine lv_goto (tgt := 18) hx hb dJ0_isLatin1_aae02_14 (by decide) ?_
  exact z_zret (k := fun _ => []) () C0 rfl hP hD hS hw dJ0_isLatin1_aae02_18
set_option maxHeartbeats 4000000 in
set_option maxRecDepth 100000 in
theorem c_J0_length (l : Launch) (E : zE) (Z : zZ) (hZ0 : zSt Z) (a : Nat) (bs : List Int32) (hs : ∀ A U H, Z A U H → zStr a bs A U H) (sz : Nat) (post : Int32 → Unit → Prop) (hw : post (Int32.ofNat bs.length) ()) : Met l yJ0_length_8abf5 (zws yJ0_length_8abf5 cJ0_length_8abf5 1 (some .int)) r_J0_1 (va_Pc [.ref a] (zPre Z E [] sz)) (va_Qi post (zAt E (va_A [] sz) (fun _ => [])) (va_A [] sz)) 0 0 (va_A [] sz) := by
  refine z_ofW (Qf := fun A => va_Qi post (zAt E A (fun _ => [])) A) (by decide) (Nat.le_of_ble_eq_true rfl) ?_
  intro p e s m args below meth c A ls C0 hA hK hZ hP hD hS hl
  obtain ⟨hx, hb, hml, hr, hown, hts, hlocks, hin⟩ := id C0
  have hown : s.vm.findClass RJ0 = some m.cls := hown
  have hl : lv_has ls 1 [(0, .ref a)] := hl
  obtain ⟨s1, s2, ⟨v, s3, s4⟩, s5, s6⟩ := hs _ _ _ hZ
  refine lv_aload_n hx hb dJ0_length_8abf5_0 rfl (lv_at hl 0 rfl) ?_
  refine vk_getf hx hb s3 hS hown (hts _ wm_7_48) (fun _ h9 => h9) dJ0_length_8abf5_1 ?_
  refine va_tlen hx hb s4 hS (v := Int32.ofNat bs.length) rfl dJ0_length_8abf5_4 ?_
  refine lv_aload_n hx hb dJ0_length_8abf5_5 rfl (lv_at hl 0 rfl) ?_
  refine z_ki (z_rT (rest := [.int (Int32.ofNat bs.length)]) hZ0 C0 hK hZ hA hP hD hS hl.1 (c_J0_coder l E Z hZ0 a bs hs s.heap.size (fun r _ => post (Int32.ofNat bs.length >>> (r &&& 31)) ()) (by rw [sb_shr0]; exact hw)) yv_J0_335 [] rfl (by decide) s1 ⟨Nat.le_of_ble_eq_true rfl, Nat.le_of_ble_eq_true rfl⟩ ⟨rfl, rfl⟩ rfl rfl (Nat.le_of_ble_eq_true rfl) ⟨Nat.le_of_ble_eq_true rfl, Nat.le_of_ble_eq_true rfl⟩ dJ0_length_8abf5_6) hP hD hS hA [] [] [] rfl (wr := []) rfl (by decide) (by decide) (fun _ => []) (fun _ => rfl) (by decide) (fun r_1 u_1 H locs hw hP hD hS => ?_)
  refine lv_ishr hx hb dJ0_length_8abf5_9 ?_
  exact z_iret (k := fun _ => []) () C0 hP hD hS hw dJ0_length_8abf5_10
set_option maxHeartbeats 4000000 in
set_option maxRecDepth 100000 in
theorem c_J3_checkIndex (l : Launch) (E : zE) (Z : zZ) (hZ0 : zSt Z) (x n : Int32) (v : Value) (hv : v = .null ∨ ∃ t : Nat, v = .ref t) (sz : Nat) (post : Int32 → Unit → Prop) (h1 : ¬ x < 0) (h2 : x < n) (hw : post x ()) : Met l yJ3_checkIndex_8e157 (zws yJ3_checkIndex_8e157 cJ3_checkIndex_8e157 3 (some .int)) r_J0_0 (va_Pc [.int x, .int n, v] (zPre Z E [] sz)) (va_Qi post (zAt E (va_A [] sz) (fun _ => [])) (va_A [] sz)) 0 0 (va_A [] sz) := by
  refine z_ofW (Qf := fun A => va_Qi post (zAt E A (fun _ => [])) A) (by decide) (by rcases hv with rfl | ⟨t, rfl⟩ <;> exact Nat.le_of_ble_eq_true rfl) ?_
  intro p e s m args below meth c A ls C0 hA hK hZ hP hD hS hl
  obtain ⟨hx, hb, hml, hr, hown, hts, hlocks, hin⟩ := id C0
  have hl : lv_has ls 3 [(0, .int x), (1, .int n), (2, v)] := hl
  refine lv_iload_n hx hb dJ3_checkIndex_8e157_0 rfl (lv_at hl 0 rfl) ?_
  refine lv_if_lt (tgt := 9) hx hb dJ3_checkIndex_8e157_1 (by decide) (fun c_1 => absurd c_1 h1) (fun c_1 => ?_)
  refine lv_iload_n hx hb dJ3_checkIndex_8e157_4 rfl (lv_at hl 0 rfl) ?_
  refine lv_iload_n hx hb dJ3_checkIndex_8e157_5 rfl (lv_at hl 1 rfl) ?_
  refine lv_icmp_lt (tgt := 16) hx hb dJ3_checkIndex_8e157_6 (by decide) (fun c_2 => ?_) (fun c_2 => absurd h2 c_2)
  refine lv_iload_n hx hb dJ3_checkIndex_8e157_16 rfl (lv_at hl 0 rfl) ?_
  exact z_iret (k := fun _ => []) () C0 hP hD hS hw dJ3_checkIndex_8e157_17
set_option maxHeartbeats 4000000 in
set_option maxRecDepth 100000 in
theorem c_J0_checkIndex (l : Launch) (E : zE) (Z : zZ) (hZ0 : zSt Z) (x n : Int32) (hs : ∀ A U H, Z A U H → va_Zq "jdk/internal/util/Preconditions" "SIOOBE_FORMATTER" "Ljava/util/function/BiFunction;" A U H) (sz : Nat) (post : Unit → Prop) (h1 : ¬ x < 0) (h2 : x < n) (hw : post ()) : Met l yJ0_checkIndex_df160 (zws yJ0_checkIndex_df160 cJ0_checkIndex_df160 2 none) r_J0_1 (va_Pc [.int x, .int n] (zPre Z E [] sz)) (va_Qv post (zAt E (va_A [] sz) (fun _ => [])) (va_A [] sz)) 0 0 (va_A [] sz) := by
  refine z_ofW (Qf := fun A => va_Qv post (zAt E A (fun _ => [])) A) (by decide) (Nat.le_of_ble_eq_true rfl) ?_
  intro p e s m args below meth c A ls C0 hA hK hZ hP hD hS hl
  obtain ⟨hx, hb, hml, hr, hown, hts, hlocks, hin⟩ := id C0
  have hown : s.vm.findClass RJ0 = some m.cls := hown
  have hl : lv_has ls 2 [(0, .int x), (1, .int n)] := hl
  have key : ∃ v : Value, (v = .null ∨ ∃ t : Nat, v = .ref t) ∧ va_Z "jdk/internal/util/Preconditions" "SIOOBE_FORMATTER" "Ljava/util/function/BiFunction;" v A s s.heap := by
    rcases hs _ _ _ hZ with h | ⟨t, h⟩
    · exact ⟨_, Or.inl rfl, h⟩
    · exact ⟨_, Or.inr ⟨t, rfl⟩, h⟩
  obtain ⟨v, hv, s6⟩ := key
  refine lv_iload_n hx hb dJ0_checkIndex_df160_0 rfl (lv_at hl 0 rfl) ?_
  refine lv_iload_n hx hb dJ0_checkIndex_df160_1 rfl (lv_at hl 1 rfl) ?_
  refine va_gets hx hb s6 hS hown (hts _ wm_3_187) (fun _ h9 => h9) dJ0_checkIndex_df160_2 ?_
  refine z_ki (z_rS (rest := []) hZ0 C0 hK hZ hA hP hD hS hl.1 (c_J3_checkIndex l E Z hZ0 x n v hv s.heap.size (fun _ _ => post ()) h1 h2 hw) yv_J0_1059 [] rfl (by decide) ⟨Nat.le_of_ble_eq_true rfl, Nat.le_of_ble_eq_true rfl⟩ ⟨rfl, rfl⟩ rfl rfl (Nat.le_of_ble_eq_true rfl) ⟨Nat.le_of_ble_eq_true rfl, Nat.le_of_ble_eq_true rfl⟩ dJ0_checkIndex_df160_5) hP hD hS hA [] [] [] rfl (wr := []) rfl (by decide) (by decide) (fun _ => []) (fun _ => rfl) (by decide) (fun r_1 u_1 H locs hw hP hD hS => ?_)
  refine lv_pop hx hb dJ0_checkIndex_df160_8 rfl ?_
  exact z_vret (k := fun _ => []) () C0 hP hD hS hw dJ0_checkIndex_df160_9
theorem zs_lt {x : Int32} {n : Nat} (h : vp_in x n) (hn : n < 2 ^ 31) : ¬ x < 0 ∧ x < Int32.ofNat n := by
  obtain ⟨j, hj, rfl⟩ := vp_in_of h hn
  exact ⟨nI_pos (by omega), nI_lt hj hn⟩
set_option maxHeartbeats 4000000 in
set_option maxRecDepth 100000 in
theorem c_J1_charAt (l : Launch) (E : zE) (Z : zZ) (hZ0 : zSt Z) (v : Nat) (bs : List Int32) (hbs : bs.length < 2 ^ 31) (hs : ∀ A U H, Z A U H → va_Zq "jdk/internal/util/Preconditions" "SIOOBE_FORMATTER" "Ljava/util/function/BiFunction;" A U H) (sz : Nat) (x : Int32) (post : Int32 → Unit → Prop) (hi : vp_in x bs.length) (hw : post (bs.getD x.toNatClampNeg 0 &&& 255) ()) : Met l yJ1_charAt_3b067 (zws yJ1_charAt_3b067 cJ1_charAt_3b067 2 (some .char)) r_J0_2 (va_Pc [.ref v, .int x] (zPre (fun A U H => Z A U H ∧ va_T .byte v bs.length (fun j => .int (bs.getD j 0)) A U H) E [] sz)) (va_Qi post (zAt E (va_A [] sz) (fun _ => [])) (va_A [] sz)) 0 0 (va_A [] sz) := by
  have hZ1 : zSt (fun A U H => Z A U H ∧ va_T .byte v bs.length (fun j => .int (bs.getD j 0)) A U H) := ⟨fun A B U H h q => ⟨hZ0.1 A B U H h q.1, q.2.narrow h⟩, fun A U H H1 h q => ⟨hZ0.2.1 A U H H1 h q.1, q.2.kept h⟩, fun A u U H h q => ⟨hZ0.2.2 A u U H h q.1, va_T.moved h.alike q.2⟩⟩
  refine z_ofW (Qf := fun A => va_Qi post (zAt E A (fun _ => [])) A) (by decide) (Nat.le_of_ble_eq_true rfl) ?_
  intro p e s m args below meth c A ls C0 hA hK hZ hP hD hS hl
  obtain ⟨hx, hb, hml, hr, hown, hts, hlocks, hin⟩ := id C0
  have hl : lv_has ls 2 [(0, .ref v), (1, .int x)] := hl
  have s4 : va_T .byte v bs.length (fun j => .int (bs.getD j 0)) A s s.heap := hZ.2
  refine lv_iload_n hx hb dJ1_charAt_3b067_0 rfl (lv_at hl 1 rfl) ?_
  refine lv_aload_n hx hb dJ1_charAt_3b067_1 rfl (lv_at hl 0 rfl) ?_
  refine va_tlen hx hb s4 hS (v := Int32.ofNat bs.length) rfl dJ1_charAt_3b067_2 ?_
  refine z_kv (z_rS (rest := []) hZ1 C0 hK hZ hA hP hD hS hl.1 (c_J0_checkIndex l E _ hZ1 x (Int32.ofNat bs.length) (fun A U H h => hs A U H h.1) s.heap.size (fun _ => post (bs.getD x.toNatClampNeg 0 &&& 255) ()) (zs_lt hi hbs).1 (zs_lt hi hbs).2 hw) yv_J1_9 [] rfl (by decide) ⟨Nat.le_of_ble_eq_true rfl, Nat.le_of_ble_eq_true rfl⟩ ⟨rfl, rfl⟩ rfl rfl (Nat.le_of_ble_eq_true rfl) ⟨Nat.le_of_ble_eq_true rfl, Nat.le_of_ble_eq_true rfl⟩ dJ1_charAt_3b067_3) hP hD hS hA [] [] [] rfl (wr := []) rfl (by decide) (by decide) (fun _ => []) (fun _ => rfl) (by decide) (fun u_1 H locs hw hP hD hS => ?_)
  refine lv_aload_n hx hb dJ1_charAt_3b067_6 rfl (lv_at hl 0 rfl) ?_
  refine lv_iload_n hx hb dJ1_charAt_3b067_7 rfl (lv_at hl 1 rfl) ?_
  refine va_tb hx hb s4 hS hi (v := .int (bs.getD x.toNatClampNeg 0)) rfl dJ1_charAt_3b067_8 ?_
  refine lv_sipush (v := 255) hx hb dJ1_charAt_3b067_9 rfl ?_
  refine lv_iand hx hb dJ1_charAt_3b067_12 ?_
  refine lv_i2c (v := bs.getD x.toNatClampNeg 0 &&& 255) hx hb dJ1_charAt_3b067_13 (sc_c2 _) ?_
  exact z_zret (k := fun _ => []) () C0 (sc_nar _) hP hD hS hw dJ1_charAt_3b067_14
set_option maxHeartbeats 4000000 in
set_option maxRecDepth 100000 in
theorem c_J0_charAt (l : Launch) (E : zE) (Z : zZ) (hZ0 : zSt Z) (a : Nat) (bs : List Int32) (hbs : bs.length < 2 ^ 31) (hs : ∀ A U H, Z A U H → zStr a bs A U H) (sz : Nat) (x : Int32) (post : Int32 → Unit → Prop) (hi : vp_in x bs.length) (hw : post (bs.getD x.toNatClampNeg 0 &&& 255) ()) : Met l yJ0_charAt_5068e (zws yJ0_charAt_5068e cJ0_charAt_5068e 2 (some .char)) r_J0_3 (va_Pc [.ref a, .int x] (zPre Z E [] sz)) (va_Qi post (zAt E (va_A [] sz) (fun _ => [])) (va_A [] sz)) 0 0 (va_A [] sz) := by
  refine z_ofW (Qf := fun A => va_Qi post (zAt E A (fun _ => [])) A) (by decide) (Nat.le_of_ble_eq_true rfl) ?_
  intro p e s m args below meth c A ls C0 hA hK hZ hP hD hS hl
  obtain ⟨hx, hb, hml, hr, hown, hts, hlocks, hin⟩ := id C0
  have hown : s.vm.findClass RJ0 = some m.cls := hown
  have hl : lv_has ls 2 [(0, .ref a), (1, .int x)] := hl
  obtain ⟨s1, s2, ⟨v, s3, s4⟩, s5, s6⟩ := hs _ _ _ hZ
  refine lv_aload_n hx hb dJ0_charAt_5068e_0 rfl (lv_at hl 0 rfl) ?_
  refine z_ki (z_rT (rest := []) hZ0 C0 hK hZ hA hP hD hS hl.1 (c_J0_isLatin1 l E Z hZ0 a bs hs s.heap.size (fun r _ => r = 1) rfl) yv_J0_492 [] rfl (by decide) s1 ⟨Nat.le_of_ble_eq_true rfl, Nat.le_of_ble_eq_true rfl⟩ ⟨rfl, rfl⟩ rfl rfl (Nat.le_of_ble_eq_true rfl) ⟨Nat.le_of_ble_eq_true rfl, Nat.le_of_ble_eq_true rfl⟩ dJ0_charAt_5068e_1) hP hD hS hA [] [] [] rfl (wr := []) rfl (by decide) (by decide) (fun _ => []) (fun _ => rfl) (by decide) (fun r_1 u_1 H locs hr1 hP hD hS => ?_)
  refine lv_if_eq (tgt := 16) hx hb dJ0_charAt_5068e_4 (by decide) (fun c_1 => absurd c_1 (by rw [hr1]; decide)) (fun c_1 => ?_)
  refine lv_aload_n hx hb dJ0_charAt_5068e_7 rfl (lv_at hl 0 rfl) ?_
  refine vk_getf hx hb s3 hS hown (hts _ wm_7_48) (fun _ h9 => h9) dJ0_charAt_5068e_8 ?_
  refine lv_iload_n hx hb dJ0_charAt_5068e_11 rfl (lv_at hl 1 rfl) ?_
  have hZ1 : zSt (fun A U H => Z A U H ∧ va_T .byte v bs.length (fun j => .int (bs.getD j 0)) A U H) := ⟨fun A B U H h q => ⟨hZ0.1 A B U H h q.1, q.2.narrow h⟩, fun A U H H1 h q => ⟨hZ0.2.1 A U H H1 h q.1, q.2.kept h⟩, fun A u U H h q => ⟨hZ0.2.2 A u U H h q.1, va_T.moved h.alike q.2⟩⟩
  refine z_ki (z_rS (Z := fun A U H => Z A U H ∧ va_T .byte v bs.length (fun j => .int (bs.getD j 0)) A U H) (rest := []) hZ1 C0 hK ⟨hZ, s4⟩ hA hP hD hS hl.1 (c_J1_charAt l E Z hZ0 v bs hbs (fun A U H h => (hs A U H h).2.2.2.2) H.size x (fun r u => narrow .char (.int r) = .int r ∧ post r u) hi ⟨sc_nar _, hw⟩) yv_J0_495 [] rfl (by decide) ⟨Nat.le_of_ble_eq_true rfl, Nat.le_of_ble_eq_true rfl⟩ ⟨rfl, rfl⟩ rfl rfl (Nat.le_of_ble_eq_true rfl) ⟨Nat.le_of_ble_eq_true rfl, Nat.le_of_ble_eq_true rfl⟩ dJ0_charAt_5068e_12) hP hD hS hA [] [] [] rfl (wr := []) rfl (by decide) (by decide) (fun _ => []) (fun _ => rfl) (by decide) (fun r_2 u_2 H locs hw hP hD hS => ?_)
  exact z_zret (k := fun _ => []) u_2 C0 hw.1 hP hD hS hw.2 dJ0_charAt_5068e_15
