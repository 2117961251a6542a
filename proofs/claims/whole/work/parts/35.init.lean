/-! History's part of a world: the array of kept states and the states that it keeps, by their addresses. -/
abbrev S_H : Type := Nat → Option ((Nat → Nat) × S_X2)
def k_Hs (E : zE) (u : S_H) (i : Nat) : va_W := match u i with
  | none => []
  | some z => k_X2 E z.1 z.2
abbrev k_H (E : zE) (q : Nat → Nat) (u : S_H) : va_W := (q 0, .inl (E.2.2 4, 8, .inr (.inr (.inr (.inr (fun i => (u i).map (fun z => z.1 0))))))) :: (List.range 8).flatMap (k_Hs E u)
section ZN
variable {p : Program} {l : Launch} {e : Env} {R : Room} {s : State} {m : MethodId} {args : Array Value} {below : List Frame} {meth : Method} {c : Code} {H : Heap} {locs : List Loc} {cells slots : Nat} {Q : State → Prop}
variable {pc : Nat} {ls : Array Slot} {rest : List Value} {E : zE} {A : Nat → Prop} {ws : va_W} {H0 : Heap} {cc : ByteArray} {n : Int32} {N' : Nat}
theorem z_new_int (hexec : p.tables.exec = Jvm.exec) (hb : c.code = cc) (harr : (Cond.arrayClass .int).before args s = true) (hK : va_K (zD E) vwCl (zT E) s) (hP : va_P (zD E) vwCl ws H) (hD : va_D A ws) (hS : va_S A H0 H locs) (hA : ∀ q, H0.size ≤ q → A q) (hn : ¬ n < 0) (hN : n.toNatClampNeg = N') (hbytes : N' * componentBytes .int ≤ 536870912) (hcells : cells + 1 ≤ R.cells) (hslots : slots + N' ≤ R.slots) (hdg : decode cc pc = .ok (.newarray .int, 2))
    (kk : ∀ (q : Nat) (H1 : Heap), va_P (zD E) vwCl (ws ++ [(q, .inl (E.2.2 0, N', .inl (fun _ => 0)))]) H1 → va_D A (ws ++ [(q, .inl (E.2.2 0, N', .inl (fun _ => 0)))]) → va_S A H0 H1 locs → W p l e R s m args below meth c H1 locs (cells + 1) (slots + N') Q (F0 m (pc + 2) ls (.ref q :: rest))) : W p l e R s m args below meth c H locs cells slots Q (F0 m pc ls (.int n :: rest)) := by
  refine va_newa (atype := .int) (ty := .int) hexec hb harr rfl hK hP hD hS hA (a0 := (N', .inl (fun _ => 0))) (fun cA => rfl) hn hN hbytes hcells hslots hdg (fun q cA H1 hK1 hP1 hD1 hS1 => ?_)
  have h1 := (hK1.2 7 (cA, .int) rfl).2
  have h2 := (hK.2 0 (E.2.2 0, .int) rfl).2
  have e : cA = E.2.2 0 := Option.some.inj (h1.symm.trans h2)
  subst e
  exact kk q H1 hP1 hD1 hS1
theorem z_new_long (hexec : p.tables.exec = Jvm.exec) (hb : c.code = cc) (harr : (Cond.arrayClass .long).before args s = true) (hK : va_K (zD E) vwCl (zT E) s) (hP : va_P (zD E) vwCl ws H) (hD : va_D A ws) (hS : va_S A H0 H locs) (hA : ∀ q, H0.size ≤ q → A q) (hn : ¬ n < 0) (hN : n.toNatClampNeg = N') (hbytes : N' * componentBytes .long ≤ 536870912) (hcells : cells + 1 ≤ R.cells) (hslots : slots + N' ≤ R.slots) (hdg : decode cc pc = .ok (.newarray .long, 2))
    (kk : ∀ (q : Nat) (H1 : Heap), va_P (zD E) vwCl (ws ++ [(q, .inl (E.2.2 1, N', .inr (.inl (fun _ => 0))))]) H1 → va_D A (ws ++ [(q, .inl (E.2.2 1, N', .inr (.inl (fun _ => 0))))]) → va_S A H0 H1 locs → W p l e R s m args below meth c H1 locs (cells + 1) (slots + N') Q (F0 m (pc + 2) ls (.ref q :: rest))) : W p l e R s m args below meth c H locs cells slots Q (F0 m pc ls (.int n :: rest)) := by
  refine va_newa (atype := .long) (ty := .long) hexec hb harr rfl hK hP hD hS hA (a0 := (N', .inr (.inl (fun _ => 0)))) (fun cA => rfl) hn hN hbytes hcells hslots hdg (fun q cA H1 hK1 hP1 hD1 hS1 => ?_)
  have h1 := (hK1.2 7 (cA, .long) rfl).2
  have h2 := (hK.2 1 (E.2.2 1, .long) rfl).2
  have e : cA = E.2.2 1 := Option.some.inj (h1.symm.trans h2)
  subst e
  exact kk q H1 hP1 hD1 hS1
theorem z_new_boolean (hexec : p.tables.exec = Jvm.exec) (hb : c.code = cc) (harr : (Cond.arrayClass .boolean).before args s = true) (hK : va_K (zD E) vwCl (zT E) s) (hP : va_P (zD E) vwCl ws H) (hD : va_D A ws) (hS : va_S A H0 H locs) (hA : ∀ q, H0.size ≤ q → A q) (hn : ¬ n < 0) (hN : n.toNatClampNeg = N') (hbytes : N' * componentBytes .boolean ≤ 536870912) (hcells : cells + 1 ≤ R.cells) (hslots : slots + N' ≤ R.slots) (hdg : decode cc pc = .ok (.newarray .boolean, 2))
    (kk : ∀ (q : Nat) (H1 : Heap), va_P (zD E) vwCl (ws ++ [(q, .inl (E.2.2 2, N', .inl (fun _ => 0)))]) H1 → va_D A (ws ++ [(q, .inl (E.2.2 2, N', .inl (fun _ => 0)))]) → va_S A H0 H1 locs → W p l e R s m args below meth c H1 locs (cells + 1) (slots + N') Q (F0 m (pc + 2) ls (.ref q :: rest))) : W p l e R s m args below meth c H locs cells slots Q (F0 m pc ls (.int n :: rest)) := by
  refine va_newa (atype := .boolean) (ty := .boolean) hexec hb harr rfl hK hP hD hS hA (a0 := (N', .inl (fun _ => 0))) (fun cA => rfl) hn hN hbytes hcells hslots hdg (fun q cA H1 hK1 hP1 hD1 hS1 => ?_)
  have h1 := (hK1.2 7 (cA, .boolean) rfl).2
  have h2 := (hK.2 2 (E.2.2 2, .boolean) rfl).2
  have e : cA = E.2.2 2 := Option.some.inj (h1.symm.trans h2)
  subst e
  exact kk q H1 hP1 hD1 hS1
theorem z_new_byte (hexec : p.tables.exec = Jvm.exec) (hb : c.code = cc) (harr : (Cond.arrayClass .byte).before args s = true) (hK : va_K (zD E) vwCl (zT E) s) (hP : va_P (zD E) vwCl ws H) (hD : va_D A ws) (hS : va_S A H0 H locs) (hA : ∀ q, H0.size ≤ q → A q) (hn : ¬ n < 0) (hN : n.toNatClampNeg = N') (hbytes : N' * componentBytes .byte ≤ 536870912) (hcells : cells + 1 ≤ R.cells) (hslots : slots + N' ≤ R.slots) (hdg : decode cc pc = .ok (.newarray .byte, 2))
    (kk : ∀ (q : Nat) (H1 : Heap), va_P (zD E) vwCl (ws ++ [(q, .inl (E.2.2 3, N', .inl (fun _ => 0)))]) H1 → va_D A (ws ++ [(q, .inl (E.2.2 3, N', .inl (fun _ => 0)))]) → va_S A H0 H1 locs → W p l e R s m args below meth c H1 locs (cells + 1) (slots + N') Q (F0 m (pc + 2) ls (.ref q :: rest))) : W p l e R s m args below meth c H locs cells slots Q (F0 m pc ls (.int n :: rest)) := by
  refine va_newa (atype := .byte) (ty := .byte) hexec hb harr rfl hK hP hD hS hA (a0 := (N', .inl (fun _ => 0))) (fun cA => rfl) hn hN hbytes hcells hslots hdg (fun q cA H1 hK1 hP1 hD1 hS1 => ?_)
  have h1 := (hK1.2 7 (cA, .byte) rfl).2
  have h2 := (hK.2 3 (E.2.2 3, .byte) rfl).2
  have e : cA = E.2.2 3 := Option.some.inj (h1.symm.trans h2)
  subst e
  exact kk q H1 hP1 hD1 hS1
theorem z_newC {own : String} {index : Nat} (hexec : p.tables.exec = Jvm.exec) (hb : c.code = cc) (hown : s.vm.findClass own = some m.cls) (hclink : (Cond.classLink own index RX2).before args s = true) (hover : (Cond.arrayOver (.object RX2)).before args s = true) (hK : va_K (zD E) vwCl (zT E) s) (hP : va_P (zD E) vwCl ws H) (hD : va_D A ws) (hS : va_S A H0 H locs) (hA : ∀ q, H0.size ≤ q → A q) (hn : ¬ n < 0) (hN : n.toNatClampNeg = N') (hbytes : N' * 4 ≤ 536870912) (hcells : cells + 1 ≤ R.cells) (hslots : slots + N' ≤ R.slots) (hdg : decode cc pc = .ok (.anewarray index, 3))
    (kk : ∀ (q : Nat) (H1 : Heap), va_P (zD E) vwCl (ws ++ [(q, .inl (E.2.2 4, N', .inr (.inr (.inr (.inr (fun _ => none))))))]) H1 → va_D A (ws ++ [(q, .inl (E.2.2 4, N', .inr (.inr (.inr (.inr (fun _ => none))))))]) → va_S A H0 H1 locs → W p l e R s m args below meth c H1 locs (cells + 1) (slots + N') Q (F0 m (pc + 3) ls (.ref q :: rest))) : W p l e R s m args below meth c H locs cells slots Q (F0 m pc ls (.int n :: rest)) := by
  refine va_newq hexec hb hown hclink (va_AO.of hover) hK hP hD hS hA hn hN hbytes hcells hslots hdg (fun q cA H1 hK1 hP1 hD1 hS1 => ?_)
  obtain ⟨-, -, -, -, -, h1⟩ := (hK1.2 7 (cA, .object RX2) rfl).2
  obtain ⟨-, -, -, -, -, h2⟩ := (hK.2 4 (E.2.2 4, .object RX2) rfl).2
  have e : cA = E.2.2 4 := Option.some.inj (h1.symm.trans h2)
  subst e
  exact kk q H1 hP1 hD1 hS1
end ZN
abbrev i_X0 : S_X0 := (0, fun _ => 0, fun _ => 0, fun _ => 0, fun _ => 0, fun _ => 0, fun _ => 0)
abbrev r_X0_init : Room := { frames := 1, cells := 6, slots := 240, locals := 30 }
set_option maxHeartbeats 4000000 in
set_option maxRecDepth 100000 in
theorem c_X0_init (l : Launch) (E : zE) (Z : zZ) (hZ0 : zSt Z) (h0 sz : Nat) (post : (Nat → Nat) → Prop) (hw : ∀ q : Nat → Nat, q 0 = h0 → post q) : Met l yX0_init (zws yX0_init cX0_init 1 none) r_X0_init (va_Pc [.ref h0] (zPre Z E ([(h0, .inr (0, [.int 0, .null, .null, .null, .null, .null, .null]))]) sz)) (va_Qv post (zAt E (va_A ([(h0, .inr (0, [.int 0, .null, .null, .null, .null, .null, .null]))]) sz) (fun q => k_X0 E q i_X0)) (va_A ([(h0, .inr (0, [.int 0, .null, .null, .null, .null, .null, .null]))]) sz)) 6 240 (va_A ([(h0, .inr (0, [.int 0, .null, .null, .null, .null, .null, .null]))]) sz) := by
  refine z_ofW (Qf := fun A => va_Qv post (zAt E A (fun q => k_X0 E q i_X0)) A) (by decide) (Nat.le_of_ble_eq_true rfl) ?_
  intro p e s m args below meth c A ls C0 hA hK hZ hP hD hS hl
  obtain ⟨hx, hb, hml, hr, hown, hts, hlocks, hin⟩ := id C0
  have hown : s.vm.findClass RX0 = some m.cls := hown
  have hl : lv_has ls 1 [(0, .ref h0)] := hl
  refine lv_aload_n hx hb dX0_init_0 rfl (lv_at hl 0 rfl) ?_
  refine W.objInit hx hb hown (hts _ wm_1_127) (hts _ wm_1_31) (hts _ wm_1_32) rfl (by rw [hml]; exact hl.1) rfl dX0_init_1 (Nat.le_of_ble_eq_true rfl) (Nat.le_of_ble_eq_true rfl) ?_
  refine W.eq (g2 := F0 m 4 ls []) rfl ?_
  refine lv_aload_n hx hb dX0_init_4 rfl (lv_at hl 0 rfl) ?_
  refine lv_iconst (v := 0) hx hb dX0_init_5 rfl ?_
  refine va_put (D := zD E) (ci := 0) (v := .int 0) (ty := .int) (C := RX0) (T := TX0) (N := 7) hx hb hts uw_X0 tyX0 tyX0_ok nmX0 hown hK hP hD hS 0 rfl rfl 0 (by decide) (hts _ wm_1_128) (fun _ h9 => h9) rfl (by decide +kernel) rfl rfl (Nat.le_of_ble_eq_true rfl) dX0_init_6 (fun H locs hP hD hS => ?_)
  have hP : va_P (zD E) vwCl ([(h0, .inr (0, [.int 0, .null, .null, .null, .null, .null, .null]))]) H := hP
  have hD : va_D A ([(h0, .inr (0, [.int 0, .null, .null, .null, .null, .null, .null]))]) := hD
  refine lv_aload_n hx hb dX0_init_9 rfl (lv_at hl 0 rfl) ?_
  refine lv_bipush (v := 40) hx hb dX0_init_10 rfl ?_
  refine z_new_int (N' := 40) hx hb (hts _ wm_1_121) hK hP hD hS hA (by decide) rfl (by decide) (by decide) (by decide) dX0_init_12 (fun q12 H hP hD hS => ?_)
  have hP : va_P (zD E) vwCl ([(h0, .inr (0, [.int 0, .null, .null, .null, .null, .null, .null]))] ++ ([(q12, .inl (E.2.2 0, 40, .inl (fun _ => 0)))])) H := hP
  have hD : va_D A ([(h0, .inr (0, [.int 0, .null, .null, .null, .null, .null, .null]))] ++ ([(q12, .inl (E.2.2 0, 40, .inl (fun _ => 0)))])) := hD
  refine va_putF (D := zD E) (ci := 0) (v := .ref q12) (ty := .array .int) (C := RX0) (T := TX0) (N := 7) hx hb hts uw_X0 tyX0 tyX0_ok nmX0 hown hK hP hD hS 0 rfl rfl 1 (by decide) (hts _ wm_1_130) (fun _ h9 => h9) rfl hin rfl (by decide +kernel) rfl rfl (Nat.le_of_ble_eq_true rfl) dX0_init_14 (fun H locs hP hD hS => ?_)
  have hP : va_P (zD E) vwCl ([(h0, .inr (0, [.int 0, .ref q12, .null, .null, .null, .null, .null]))] ++ ([(q12, .inl (E.2.2 0, 40, .inl (fun _ => 0)))])) H := hP
  have hD : va_D A ([(h0, .inr (0, [.int 0, .ref q12, .null, .null, .null, .null, .null]))] ++ ([(q12, .inl (E.2.2 0, 40, .inl (fun _ => 0)))])) := hD
  refine lv_aload_n hx hb dX0_init_17 rfl (lv_at hl 0 rfl) ?_
  refine lv_bipush (v := 40) hx hb dX0_init_18 rfl ?_
  refine z_new_int (N' := 40) hx hb (hts _ wm_1_121) hK hP hD hS hA (by decide) rfl (by decide) (by decide) (by decide) dX0_init_20 (fun q20 H hP hD hS => ?_)
  have hP : va_P (zD E) vwCl ([(h0, .inr (0, [.int 0, .ref q12, .null, .null, .null, .null, .null]))] ++ ([(q12, .inl (E.2.2 0, 40, .inl (fun _ => 0)))] ++ ([(q20, .inl (E.2.2 0, 40, .inl (fun _ => 0)))]))) H := hP
  have hD : va_D A ([(h0, .inr (0, [.int 0, .ref q12, .null, .null, .null, .null, .null]))] ++ ([(q12, .inl (E.2.2 0, 40, .inl (fun _ => 0)))] ++ ([(q20, .inl (E.2.2 0, 40, .inl (fun _ => 0)))]))) := hD
  refine va_putF (D := zD E) (ci := 0) (v := .ref q20) (ty := .array .int) (C := RX0) (T := TX0) (N := 7) hx hb hts uw_X0 tyX0 tyX0_ok nmX0 hown hK hP hD hS 0 rfl rfl 2 (by decide) (hts _ wm_1_133) (fun _ h9 => h9) rfl hin rfl (by decide +kernel) rfl rfl (Nat.le_of_ble_eq_true rfl) dX0_init_22 (fun H locs hP hD hS => ?_)
  have hP : va_P (zD E) vwCl ([(h0, .inr (0, [.int 0, .ref q12, .ref q20, .null, .null, .null, .null]))] ++ ([(q12, .inl (E.2.2 0, 40, .inl (fun _ => 0)))] ++ ([(q20, .inl (E.2.2 0, 40, .inl (fun _ => 0)))]))) H := hP
  have hD : va_D A ([(h0, .inr (0, [.int 0, .ref q12, .ref q20, .null, .null, .null, .null]))] ++ ([(q12, .inl (E.2.2 0, 40, .inl (fun _ => 0)))] ++ ([(q20, .inl (E.2.2 0, 40, .inl (fun _ => 0)))]))) := hD
  refine lv_aload_n hx hb dX0_init_25 rfl (lv_at hl 0 rfl) ?_
  refine lv_bipush (v := 40) hx hb dX0_init_26 rfl ?_
  refine z_new_int (N' := 40) hx hb (hts _ wm_1_121) hK hP hD hS hA (by decide) rfl (by decide) (by decide) (by decide) dX0_init_28 (fun q28 H hP hD hS => ?_)
  have hP : va_P (zD E) vwCl ([(h0, .inr (0, [.int 0, .ref q12, .ref q20, .null, .null, .null, .null]))] ++ ([(q12, .inl (E.2.2 0, 40, .inl (fun _ => 0)))] ++ ([(q20, .inl (E.2.2 0, 40, .inl (fun _ => 0)))] ++ ([(q28, .inl (E.2.2 0, 40, .inl (fun _ => 0)))])))) H := hP
  have hD : va_D A ([(h0, .inr (0, [.int 0, .ref q12, .ref q20, .null, .null, .null, .null]))] ++ ([(q12, .inl (E.2.2 0, 40, .inl (fun _ => 0)))] ++ ([(q20, .inl (E.2.2 0, 40, .inl (fun _ => 0)))] ++ ([(q28, .inl (E.2.2 0, 40, .inl (fun _ => 0)))])))) := hD
  refine va_putF (D := zD E) (ci := 0) (v := .ref q28) (ty := .array .int) (C := RX0) (T := TX0) (N := 7) hx hb hts uw_X0 tyX0 tyX0_ok nmX0 hown hK hP hD hS 0 rfl rfl 3 (by decide) (hts _ wm_1_136) (fun _ h9 => h9) rfl hin rfl (by decide +kernel) rfl rfl (Nat.le_of_ble_eq_true rfl) dX0_init_30 (fun H locs hP hD hS => ?_)
  have hP : va_P (zD E) vwCl ([(h0, .inr (0, [.int 0, .ref q12, .ref q20, .ref q28, .null, .null, .null]))] ++ ([(q12, .inl (E.2.2 0, 40, .inl (fun _ => 0)))] ++ ([(q20, .inl (E.2.2 0, 40, .inl (fun _ => 0)))] ++ ([(q28, .inl (E.2.2 0, 40, .inl (fun _ => 0)))])))) H := hP
  have hD : va_D A ([(h0, .inr (0, [.int 0, .ref q12, .ref q20, .ref q28, .null, .null, .null]))] ++ ([(q12, .inl (E.2.2 0, 40, .inl (fun _ => 0)))] ++ ([(q20, .inl (E.2.2 0, 40, .inl (fun _ => 0)))] ++ ([(q28, .inl (E.2.2 0, 40, .inl (fun _ => 0)))])))) := hD
  refine lv_aload_n hx hb dX0_init_33 rfl (lv_at hl 0 rfl) ?_
  refine lv_bipush (v := 40) hx hb dX0_init_34 rfl ?_
  refine z_new_int (N' := 40) hx hb (hts _ wm_1_121) hK hP hD hS hA (by decide) rfl (by decide) (by decide) (by decide) dX0_init_36 (fun q36 H hP hD hS => ?_)
  have hP : va_P (zD E) vwCl ([(h0, .inr (0, [.int 0, .ref q12, .ref q20, .ref q28, .null, .null, .null]))] ++ ([(q12, .inl (E.2.2 0, 40, .inl (fun _ => 0)))] ++ ([(q20, .inl (E.2.2 0, 40, .inl (fun _ => 0)))] ++ ([(q28, .inl (E.2.2 0, 40, .inl (fun _ => 0)))] ++ ([(q36, .inl (E.2.2 0, 40, .inl (fun _ => 0)))]))))) H := hP
  have hD : va_D A ([(h0, .inr (0, [.int 0, .ref q12, .ref q20, .ref q28, .null, .null, .null]))] ++ ([(q12, .inl (E.2.2 0, 40, .inl (fun _ => 0)))] ++ ([(q20, .inl (E.2.2 0, 40, .inl (fun _ => 0)))] ++ ([(q28, .inl (E.2.2 0, 40, .inl (fun _ => 0)))] ++ ([(q36, .inl (E.2.2 0, 40, .inl (fun _ => 0)))]))))) := hD
  refine va_putF (D := zD E) (ci := 0) (v := .ref q36) (ty := .array .int) (C := RX0) (T := TX0) (N := 7) hx hb hts uw_X0 tyX0 tyX0_ok nmX0 hown hK hP hD hS 0 rfl rfl 4 (by decide) (hts _ wm_1_138) (fun _ h9 => h9) rfl hin rfl (by decide +kernel) rfl rfl (Nat.le_of_ble_eq_true rfl) dX0_init_38 (fun H locs hP hD hS => ?_)
  have hP : va_P (zD E) vwCl ([(h0, .inr (0, [.int 0, .ref q12, .ref q20, .ref q28, .ref q36, .null, .null]))] ++ ([(q12, .inl (E.2.2 0, 40, .inl (fun _ => 0)))] ++ ([(q20, .inl (E.2.2 0, 40, .inl (fun _ => 0)))] ++ ([(q28, .inl (E.2.2 0, 40, .inl (fun _ => 0)))] ++ ([(q36, .inl (E.2.2 0, 40, .inl (fun _ => 0)))]))))) H := hP
  have hD : va_D A ([(h0, .inr (0, [.int 0, .ref q12, .ref q20, .ref q28, .ref q36, .null, .null]))] ++ ([(q12, .inl (E.2.2 0, 40, .inl (fun _ => 0)))] ++ ([(q20, .inl (E.2.2 0, 40, .inl (fun _ => 0)))] ++ ([(q28, .inl (E.2.2 0, 40, .inl (fun _ => 0)))] ++ ([(q36, .inl (E.2.2 0, 40, .inl (fun _ => 0)))]))))) := hD
  refine lv_aload_n hx hb dX0_init_41 rfl (lv_at hl 0 rfl) ?_
  refine lv_bipush (v := 40) hx hb dX0_init_42 rfl ?_
  refine z_new_int (N' := 40) hx hb (hts _ wm_1_121) hK hP hD hS hA (by decide) rfl (by decide) (by decide) (by decide) dX0_init_44 (fun q44 H hP hD hS => ?_)
  have hP : va_P (zD E) vwCl ([(h0, .inr (0, [.int 0, .ref q12, .ref q20, .ref q28, .ref q36, .null, .null]))] ++ ([(q12, .inl (E.2.2 0, 40, .inl (fun _ => 0)))] ++ ([(q20, .inl (E.2.2 0, 40, .inl (fun _ => 0)))] ++ ([(q28, .inl (E.2.2 0, 40, .inl (fun _ => 0)))] ++ ([(q36, .inl (E.2.2 0, 40, .inl (fun _ => 0)))] ++ ([(q44, .inl (E.2.2 0, 40, .inl (fun _ => 0)))])))))) H := hP
  have hD : va_D A ([(h0, .inr (0, [.int 0, .ref q12, .ref q20, .ref q28, .ref q36, .null, .null]))] ++ ([(q12, .inl (E.2.2 0, 40, .inl (fun _ => 0)))] ++ ([(q20, .inl (E.2.2 0, 40, .inl (fun _ => 0)))] ++ ([(q28, .inl (E.2.2 0, 40, .inl (fun _ => 0)))] ++ ([(q36, .inl (E.2.2 0, 40, .inl (fun _ => 0)))] ++ ([(q44, .inl (E.2.2 0, 40, .inl (fun _ => 0)))])))))) := hD
  refine va_putF (D := zD E) (ci := 0) (v := .ref q44) (ty := .array .int) (C := RX0) (T := TX0) (N := 7) hx hb hts uw_X0 tyX0 tyX0_ok nmX0 hown hK hP hD hS 0 rfl rfl 5 (by decide) (hts _ wm_1_140) (fun _ h9 => h9) rfl hin rfl (by decide +kernel) rfl rfl (Nat.le_of_ble_eq_true rfl) dX0_init_46 (fun H locs hP hD hS => ?_)
  have hP : va_P (zD E) vwCl ([(h0, .inr (0, [.int 0, .ref q12, .ref q20, .ref q28, .ref q36, .ref q44, .null]))] ++ ([(q12, .inl (E.2.2 0, 40, .inl (fun _ => 0)))] ++ ([(q20, .inl (E.2.2 0, 40, .inl (fun _ => 0)))] ++ ([(q28, .inl (E.2.2 0, 40, .inl (fun _ => 0)))] ++ ([(q36, .inl (E.2.2 0, 40, .inl (fun _ => 0)))] ++ ([(q44, .inl (E.2.2 0, 40, .inl (fun _ => 0)))])))))) H := hP
  have hD : va_D A ([(h0, .inr (0, [.int 0, .ref q12, .ref q20, .ref q28, .ref q36, .ref q44, .null]))] ++ ([(q12, .inl (E.2.2 0, 40, .inl (fun _ => 0)))] ++ ([(q20, .inl (E.2.2 0, 40, .inl (fun _ => 0)))] ++ ([(q28, .inl (E.2.2 0, 40, .inl (fun _ => 0)))] ++ ([(q36, .inl (E.2.2 0, 40, .inl (fun _ => 0)))] ++ ([(q44, .inl (E.2.2 0, 40, .inl (fun _ => 0)))])))))) := hD
  refine lv_aload_n hx hb dX0_init_49 rfl (lv_at hl 0 rfl) ?_
  refine lv_bipush (v := 40) hx hb dX0_init_50 rfl ?_
  refine z_new_long (N' := 40) hx hb (hts _ wm_1_159) hK hP hD hS hA (by decide) rfl (by decide) (by decide) (by decide) dX0_init_52 (fun q52 H hP hD hS => ?_)
  have hP : va_P (zD E) vwCl ([(h0, .inr (0, [.int 0, .ref q12, .ref q20, .ref q28, .ref q36, .ref q44, .null]))] ++ ([(q12, .inl (E.2.2 0, 40, .inl (fun _ => 0)))] ++ ([(q20, .inl (E.2.2 0, 40, .inl (fun _ => 0)))] ++ ([(q28, .inl (E.2.2 0, 40, .inl (fun _ => 0)))] ++ ([(q36, .inl (E.2.2 0, 40, .inl (fun _ => 0)))] ++ ([(q44, .inl (E.2.2 0, 40, .inl (fun _ => 0)))] ++ ([(q52, .inl (E.2.2 1, 40, .inr (.inl (fun _ => 0))))]))))))) H := hP
  have hD : va_D A ([(h0, .inr (0, [.int 0, .ref q12, .ref q20, .ref q28, .ref q36, .ref q44, .null]))] ++ ([(q12, .inl (E.2.2 0, 40, .inl (fun _ => 0)))] ++ ([(q20, .inl (E.2.2 0, 40, .inl (fun _ => 0)))] ++ ([(q28, .inl (E.2.2 0, 40, .inl (fun _ => 0)))] ++ ([(q36, .inl (E.2.2 0, 40, .inl (fun _ => 0)))] ++ ([(q44, .inl (E.2.2 0, 40, .inl (fun _ => 0)))] ++ ([(q52, .inl (E.2.2 1, 40, .inr (.inl (fun _ => 0))))]))))))) := hD
  refine va_putF (D := zD E) (ci := 0) (v := .ref q52) (ty := .array .long) (C := RX0) (T := TX0) (N := 7) hx hb hts uw_X0 tyX0 tyX0_ok nmX0 hown hK hP hD hS 0 rfl rfl 6 (by decide) (hts _ wm_1_142) (fun _ h9 => h9) rfl hin rfl (by decide +kernel) rfl rfl (Nat.le_of_ble_eq_true rfl) dX0_init_54 (fun H locs hP hD hS => ?_)
  have hP : va_P (zD E) vwCl ([(h0, .inr (0, [.int 0, .ref q12, .ref q20, .ref q28, .ref q36, .ref q44, .ref q52]))] ++ ([(q12, .inl (E.2.2 0, 40, .inl (fun _ => 0)))] ++ ([(q20, .inl (E.2.2 0, 40, .inl (fun _ => 0)))] ++ ([(q28, .inl (E.2.2 0, 40, .inl (fun _ => 0)))] ++ ([(q36, .inl (E.2.2 0, 40, .inl (fun _ => 0)))] ++ ([(q44, .inl (E.2.2 0, 40, .inl (fun _ => 0)))] ++ ([(q52, .inl (E.2.2 1, 40, .inr (.inl (fun _ => 0))))]))))))) H := hP
  have hD : va_D A ([(h0, .inr (0, [.int 0, .ref q12, .ref q20, .ref q28, .ref q36, .ref q44, .ref q52]))] ++ ([(q12, .inl (E.2.2 0, 40, .inl (fun _ => 0)))] ++ ([(q20, .inl (E.2.2 0, 40, .inl (fun _ => 0)))] ++ ([(q28, .inl (E.2.2 0, 40, .inl (fun _ => 0)))] ++ ([(q36, .inl (E.2.2 0, 40, .inl (fun _ => 0)))] ++ ([(q44, .inl (E.2.2 0, 40, .inl (fun _ => 0)))] ++ ([(q52, .inl (E.2.2 1, 40, .inr (.inl (fun _ => 0))))]))))))) := hD
  have hw := hw (fun i => if i < 1 then h0 else if i < 2 then q12 else if i < 3 then q20 else if i < 4 then q28 else if i < 5 then q36 else if i < 6 then q44 else if i < 7 then q52 else 0) rfl
  refine W.widen (k := 6) (n := 240) (by decide) (by decide) ?_
  exact z_vret (k := (fun q => k_X0 E q i_X0)) (fun i => if i < 1 then h0 else if i < 2 then q12 else if i < 3 then q20 else if i < 4 then q28 else if i < 5 then q36 else if i < 6 then q44 else if i < 7 then q52 else 0) C0 hP hD hS hw dX0_init_57
abbrev i_X1 : S_X1 := (0, 0, 0, fun _ => 0, fun _ => 0, fun _ => 0, fun _ => 0)
abbrev r_X1_init : Room := { frames := 1, cells := 4, slots := 80, locals := 30 }
set_option maxHeartbeats 4000000 in
set_option maxRecDepth 100000 in
theorem c_X1_init (l : Launch) (E : zE) (Z : zZ) (hZ0 : zSt Z) (h0 sz : Nat) (post : (Nat → Nat) → Prop) (hw : ∀ q : Nat → Nat, q 0 = h0 → post q) : Met l yX1_init (zws yX1_init cX1_init 1 none) r_X1_init (va_Pc [.ref h0] (zPre Z E ([(h0, .inr (1, [.int 0, .int 0, .int 0, .null, .null, .null, .null]))]) sz)) (va_Qv post (zAt E (va_A ([(h0, .inr (1, [.int 0, .int 0, .int 0, .null, .null, .null, .null]))]) sz) (fun q => k_X1 E q i_X1)) (va_A ([(h0, .inr (1, [.int 0, .int 0, .int 0, .null, .null, .null, .null]))]) sz)) 4 80 (va_A ([(h0, .inr (1, [.int 0, .int 0, .int 0, .null, .null, .null, .null]))]) sz) := by
  refine z_ofW (Qf := fun A => va_Qv post (zAt E A (fun q => k_X1 E q i_X1)) A) (by decide) (Nat.le_of_ble_eq_true rfl) ?_
  intro p e s m args below meth c A ls C0 hA hK hZ hP hD hS hl
  obtain ⟨hx, hb, hml, hr, hown, hts, hlocks, hin⟩ := id C0
  have hown : s.vm.findClass RX1 = some m.cls := hown
  have hl : lv_has ls 1 [(0, .ref h0)] := hl
  refine lv_aload_n hx hb dX1_init_0 rfl (lv_at hl 0 rfl) ?_
  refine W.objInit hx hb hown (hts _ wm_1_165) (hts _ wm_1_31) (hts _ wm_1_32) rfl (by rw [hml]; exact hl.1) rfl dX1_init_1 (Nat.le_of_ble_eq_true rfl) (Nat.le_of_ble_eq_true rfl) ?_
  refine W.eq (g2 := F0 m 4 ls []) rfl ?_
  refine lv_aload_n hx hb dX1_init_4 rfl (lv_at hl 0 rfl) ?_
  refine lv_iconst (v := 0) hx hb dX1_init_5 rfl ?_
  refine va_put (D := zD E) (ci := 1) (v := .int 0) (ty := .int) (C := RX1) (T := TX1) (N := 7) hx hb hts uw_X1 tyX1 tyX1_ok nmX1 hown hK hP hD hS 0 rfl rfl 0 (by decide) (hts _ wm_1_166) (fun _ h9 => h9) rfl (by decide +kernel) rfl rfl (Nat.le_of_ble_eq_true rfl) dX1_init_6 (fun H locs hP hD hS => ?_)
  have hP : va_P (zD E) vwCl ([(h0, .inr (1, [.int 0, .int 0, .int 0, .null, .null, .null, .null]))]) H := hP
  have hD : va_D A ([(h0, .inr (1, [.int 0, .int 0, .int 0, .null, .null, .null, .null]))]) := hD
  refine lv_aload_n hx hb dX1_init_9 rfl (lv_at hl 0 rfl) ?_
  refine lv_iconst (v := 0) hx hb dX1_init_10 rfl ?_
  refine va_put (D := zD E) (ci := 1) (v := .int 0) (ty := .int) (C := RX1) (T := TX1) (N := 7) hx hb hts uw_X1 tyX1 tyX1_ok nmX1 hown hK hP hD hS 0 rfl rfl 1 (by decide) (hts _ wm_1_169) (fun _ h9 => h9) rfl (by decide +kernel) rfl rfl (Nat.le_of_ble_eq_true rfl) dX1_init_11 (fun H locs hP hD hS => ?_)
  have hP : va_P (zD E) vwCl ([(h0, .inr (1, [.int 0, .int 0, .int 0, .null, .null, .null, .null]))]) H := hP
  have hD : va_D A ([(h0, .inr (1, [.int 0, .int 0, .int 0, .null, .null, .null, .null]))]) := hD
  refine lv_aload_n hx hb dX1_init_14 rfl (lv_at hl 0 rfl) ?_
  refine lv_iconst (v := 0) hx hb dX1_init_15 rfl ?_
  refine va_put (D := zD E) (ci := 1) (v := .int 0) (ty := .int) (C := RX1) (T := TX1) (N := 7) hx hb hts uw_X1 tyX1 tyX1_ok nmX1 hown hK hP hD hS 0 rfl rfl 2 (by decide) (hts _ wm_1_171) (fun _ h9 => h9) rfl (by decide +kernel) rfl rfl (Nat.le_of_ble_eq_true rfl) dX1_init_16 (fun H locs hP hD hS => ?_)
  have hP : va_P (zD E) vwCl ([(h0, .inr (1, [.int 0, .int 0, .int 0, .null, .null, .null, .null]))]) H := hP
  have hD : va_D A ([(h0, .inr (1, [.int 0, .int 0, .int 0, .null, .null, .null, .null]))]) := hD
  refine lv_aload_n hx hb dX1_init_19 rfl (lv_at hl 0 rfl) ?_
  refine lv_bipush (v := 20) hx hb dX1_init_20 rfl ?_
  refine z_new_int (N' := 20) hx hb (hts _ wm_1_121) hK hP hD hS hA (by decide) rfl (by decide) (by decide) (by decide) dX1_init_22 (fun q22 H hP hD hS => ?_)
  have hP : va_P (zD E) vwCl ([(h0, .inr (1, [.int 0, .int 0, .int 0, .null, .null, .null, .null]))] ++ ([(q22, .inl (E.2.2 0, 20, .inl (fun _ => 0)))])) H := hP
  have hD : va_D A ([(h0, .inr (1, [.int 0, .int 0, .int 0, .null, .null, .null, .null]))] ++ ([(q22, .inl (E.2.2 0, 20, .inl (fun _ => 0)))])) := hD
  refine va_putF (D := zD E) (ci := 1) (v := .ref q22) (ty := .array .int) (C := RX1) (T := TX1) (N := 7) hx hb hts uw_X1 tyX1 tyX1_ok nmX1 hown hK hP hD hS 0 rfl rfl 3 (by decide) (hts _ wm_1_174) (fun _ h9 => h9) rfl hin rfl (by decide +kernel) rfl rfl (Nat.le_of_ble_eq_true rfl) dX1_init_24 (fun H locs hP hD hS => ?_)
  have hP : va_P (zD E) vwCl ([(h0, .inr (1, [.int 0, .int 0, .int 0, .ref q22, .null, .null, .null]))] ++ ([(q22, .inl (E.2.2 0, 20, .inl (fun _ => 0)))])) H := hP
  have hD : va_D A ([(h0, .inr (1, [.int 0, .int 0, .int 0, .ref q22, .null, .null, .null]))] ++ ([(q22, .inl (E.2.2 0, 20, .inl (fun _ => 0)))])) := hD
  refine lv_aload_n hx hb dX1_init_27 rfl (lv_at hl 0 rfl) ?_
  refine lv_bipush (v := 20) hx hb dX1_init_28 rfl ?_
  refine z_new_int (N' := 20) hx hb (hts _ wm_1_121) hK hP hD hS hA (by decide) rfl (by decide) (by decide) (by decide) dX1_init_30 (fun q30 H hP hD hS => ?_)
  have hP : va_P (zD E) vwCl ([(h0, .inr (1, [.int 0, .int 0, .int 0, .ref q22, .null, .null, .null]))] ++ ([(q22, .inl (E.2.2 0, 20, .inl (fun _ => 0)))] ++ ([(q30, .inl (E.2.2 0, 20, .inl (fun _ => 0)))]))) H := hP
  have hD : va_D A ([(h0, .inr (1, [.int 0, .int 0, .int 0, .ref q22, .null, .null, .null]))] ++ ([(q22, .inl (E.2.2 0, 20, .inl (fun _ => 0)))] ++ ([(q30, .inl (E.2.2 0, 20, .inl (fun _ => 0)))]))) := hD
  refine va_putF (D := zD E) (ci := 1) (v := .ref q30) (ty := .array .int) (C := RX1) (T := TX1) (N := 7) hx hb hts uw_X1 tyX1 tyX1_ok nmX1 hown hK hP hD hS 0 rfl rfl 4 (by decide) (hts _ wm_1_176) (fun _ h9 => h9) rfl hin rfl (by decide +kernel) rfl rfl (Nat.le_of_ble_eq_true rfl) dX1_init_32 (fun H locs hP hD hS => ?_)
  have hP : va_P (zD E) vwCl ([(h0, .inr (1, [.int 0, .int 0, .int 0, .ref q22, .ref q30, .null, .null]))] ++ ([(q22, .inl (E.2.2 0, 20, .inl (fun _ => 0)))] ++ ([(q30, .inl (E.2.2 0, 20, .inl (fun _ => 0)))]))) H := hP
  have hD : va_D A ([(h0, .inr (1, [.int 0, .int 0, .int 0, .ref q22, .ref q30, .null, .null]))] ++ ([(q22, .inl (E.2.2 0, 20, .inl (fun _ => 0)))] ++ ([(q30, .inl (E.2.2 0, 20, .inl (fun _ => 0)))]))) := hD
  refine lv_aload_n hx hb dX1_init_35 rfl (lv_at hl 0 rfl) ?_
  refine lv_bipush (v := 20) hx hb dX1_init_36 rfl ?_
  refine z_new_int (N' := 20) hx hb (hts _ wm_1_121) hK hP hD hS hA (by decide) rfl (by decide) (by decide) (by decide) dX1_init_38 (fun q38 H hP hD hS => ?_)
  have hP : va_P (zD E) vwCl ([(h0, .inr (1, [.int 0, .int 0, .int 0, .ref q22, .ref q30, .null, .null]))] ++ ([(q22, .inl (E.2.2 0, 20, .inl (fun _ => 0)))] ++ ([(q30, .inl (E.2.2 0, 20, .inl (fun _ => 0)))] ++ ([(q38, .inl (E.2.2 0, 20, .inl (fun _ => 0)))])))) H := hP
  have hD : va_D A ([(h0, .inr (1, [.int 0, .int 0, .int 0, .ref q22, .ref q30, .null, .null]))] ++ ([(q22, .inl (E.2.2 0, 20, .inl (fun _ => 0)))] ++ ([(q30, .inl (E.2.2 0, 20, .inl (fun _ => 0)))] ++ ([(q38, .inl (E.2.2 0, 20, .inl (fun _ => 0)))])))) := hD
  refine va_putF (D := zD E) (ci := 1) (v := .ref q38) (ty := .array .int) (C := RX1) (T := TX1) (N := 7) hx hb hts uw_X1 tyX1 tyX1_ok nmX1 hown hK hP hD hS 0 rfl rfl 5 (by decide) (hts _ wm_1_178) (fun _ h9 => h9) rfl hin rfl (by decide +kernel) rfl rfl (Nat.le_of_ble_eq_true rfl) dX1_init_40 (fun H locs hP hD hS => ?_)
  have hP : va_P (zD E) vwCl ([(h0, .inr (1, [.int 0, .int 0, .int 0, .ref q22, .ref q30, .ref q38, .null]))] ++ ([(q22, .inl (E.2.2 0, 20, .inl (fun _ => 0)))] ++ ([(q30, .inl (E.2.2 0, 20, .inl (fun _ => 0)))] ++ ([(q38, .inl (E.2.2 0, 20, .inl (fun _ => 0)))])))) H := hP
  have hD : va_D A ([(h0, .inr (1, [.int 0, .int 0, .int 0, .ref q22, .ref q30, .ref q38, .null]))] ++ ([(q22, .inl (E.2.2 0, 20, .inl (fun _ => 0)))] ++ ([(q30, .inl (E.2.2 0, 20, .inl (fun _ => 0)))] ++ ([(q38, .inl (E.2.2 0, 20, .inl (fun _ => 0)))])))) := hD
  refine lv_aload_n hx hb dX1_init_43 rfl (lv_at hl 0 rfl) ?_
  refine lv_bipush (v := 20) hx hb dX1_init_44 rfl ?_
  refine z_new_boolean (N' := 20) hx hb (hts _ wm_1_198) hK hP hD hS hA (by decide) rfl (by decide) (by decide) (by decide) dX1_init_46 (fun q46 H hP hD hS => ?_)
  have hP : va_P (zD E) vwCl ([(h0, .inr (1, [.int 0, .int 0, .int 0, .ref q22, .ref q30, .ref q38, .null]))] ++ ([(q22, .inl (E.2.2 0, 20, .inl (fun _ => 0)))] ++ ([(q30, .inl (E.2.2 0, 20, .inl (fun _ => 0)))] ++ ([(q38, .inl (E.2.2 0, 20, .inl (fun _ => 0)))] ++ ([(q46, .inl (E.2.2 2, 20, .inl (fun _ => 0)))]))))) H := hP
  have hD : va_D A ([(h0, .inr (1, [.int 0, .int 0, .int 0, .ref q22, .ref q30, .ref q38, .null]))] ++ ([(q22, .inl (E.2.2 0, 20, .inl (fun _ => 0)))] ++ ([(q30, .inl (E.2.2 0, 20, .inl (fun _ => 0)))] ++ ([(q38, .inl (E.2.2 0, 20, .inl (fun _ => 0)))] ++ ([(q46, .inl (E.2.2 2, 20, .inl (fun _ => 0)))]))))) := hD
  refine va_putF (D := zD E) (ci := 1) (v := .ref q46) (ty := .array .boolean) (C := RX1) (T := TX1) (N := 7) hx hb hts uw_X1 tyX1 tyX1_ok nmX1 hown hK hP hD hS 0 rfl rfl 6 (by decide) (hts _ wm_1_181) (fun _ h9 => h9) rfl hin rfl (by decide +kernel) rfl rfl (Nat.le_of_ble_eq_true rfl) dX1_init_48 (fun H locs hP hD hS => ?_)
  have hP : va_P (zD E) vwCl ([(h0, .inr (1, [.int 0, .int 0, .int 0, .ref q22, .ref q30, .ref q38, .ref q46]))] ++ ([(q22, .inl (E.2.2 0, 20, .inl (fun _ => 0)))] ++ ([(q30, .inl (E.2.2 0, 20, .inl (fun _ => 0)))] ++ ([(q38, .inl (E.2.2 0, 20, .inl (fun _ => 0)))] ++ ([(q46, .inl (E.2.2 2, 20, .inl (fun _ => 0)))]))))) H := hP
  have hD : va_D A ([(h0, .inr (1, [.int 0, .int 0, .int 0, .ref q22, .ref q30, .ref q38, .ref q46]))] ++ ([(q22, .inl (E.2.2 0, 20, .inl (fun _ => 0)))] ++ ([(q30, .inl (E.2.2 0, 20, .inl (fun _ => 0)))] ++ ([(q38, .inl (E.2.2 0, 20, .inl (fun _ => 0)))] ++ ([(q46, .inl (E.2.2 2, 20, .inl (fun _ => 0)))]))))) := hD
  have hw := hw (fun i => if i < 1 then h0 else if i < 2 then q22 else if i < 3 then q30 else if i < 4 then q38 else if i < 5 then q46 else 0) rfl
  refine W.widen (k := 4) (n := 80) (by decide) (by decide) ?_
  exact z_vret (k := (fun q => k_X1 E q i_X1)) (fun i => if i < 1 then h0 else if i < 2 then q22 else if i < 3 then q30 else if i < 4 then q38 else if i < 5 then q46 else 0) C0 hP hD hS hw dX1_init_51
abbrev i_X7 : S_X7 := (0, 0, 0, 0, 0, 0, 0, 0, 0, 0, 0, fun _ => 0, fun _ => 0, 0, fun _ => 0, fun _ => 0)
abbrev r_X7_init : Room := { frames := 1, cells := 4, slots := 92, locals := 30 }
set_option maxHeartbeats 4000000 in
set_option maxRecDepth 100000 in
theorem c_X7_init (l : Launch) (E : zE) (Z : zZ) (hZ0 : zSt Z) (h0 sz : Nat) (post : (Nat → Nat) → Prop) (hw : ∀ q : Nat → Nat, q 0 = h0 → post q) : Met l yX7_init (zws yX7_init cX7_init 1 none) r_X7_init (va_Pc [.ref h0] (zPre Z E ([(h0, .inr (7, [.int 0, .int 0, .int 0, .int 0, .int 0, .int 0, .int 0, .int 0, .int 0, .int 0, .int 0, .null, .null, .long 0, .null, .null]))]) sz)) (va_Qv post (zAt E (va_A ([(h0, .inr (7, [.int 0, .int 0, .int 0, .int 0, .int 0, .int 0, .int 0, .int 0, .int 0, .int 0, .int 0, .null, .null, .long 0, .null, .null]))]) sz) (fun q => k_X7 E q i_X7)) (va_A ([(h0, .inr (7, [.int 0, .int 0, .int 0, .int 0, .int 0, .int 0, .int 0, .int 0, .int 0, .int 0, .int 0, .null, .null, .long 0, .null, .null]))]) sz)) 4 92 (va_A ([(h0, .inr (7, [.int 0, .int 0, .int 0, .int 0, .int 0, .int 0, .int 0, .int 0, .int 0, .int 0, .int 0, .null, .null, .long 0, .null, .null]))]) sz) := by
  refine z_ofW (Qf := fun A => va_Qv post (zAt E A (fun q => k_X7 E q i_X7)) A) (by decide) (Nat.le_of_ble_eq_true rfl) ?_
  intro p e s m args below meth c A ls C0 hA hK hZ hP hD hS hl
  obtain ⟨hx, hb, hml, hr, hown, hts, hlocks, hin⟩ := id C0
  have hown : s.vm.findClass RX7 = some m.cls := hown
  have hl : lv_has ls 1 [(0, .ref h0)] := hl
  refine lv_aload_n hx hb dX7_init_0 rfl (lv_at hl 0 rfl) ?_
  refine W.objInit hx hb hown (hts _ wm_1_44) (hts _ wm_1_31) (hts _ wm_1_32) rfl (by rw [hml]; exact hl.1) rfl dX7_init_1 (Nat.le_of_ble_eq_true rfl) (Nat.le_of_ble_eq_true rfl) ?_
  refine W.eq (g2 := F0 m 4 ls []) rfl ?_
  refine lv_aload_n hx hb dX7_init_4 rfl (lv_at hl 0 rfl) ?_
  refine lv_iconst (v := 0) hx hb dX7_init_5 rfl ?_
  refine va_put (D := zD E) (ci := 7) (v := .int 0) (ty := .int) (C := RX7) (T := TX7) (N := 16) hx hb hts uw_X7 tyX7 tyX7_ok nmX7 hown hK hP hD hS 0 rfl rfl 0 (by decide) (hts _ wm_1_45) (fun _ h9 => h9) rfl (by decide +kernel) rfl rfl (Nat.le_of_ble_eq_true rfl) dX7_init_6 (fun H locs hP hD hS => ?_)
  have hP : va_P (zD E) vwCl ([(h0, .inr (7, [.int 0, .int 0, .int 0, .int 0, .int 0, .int 0, .int 0, .int 0, .int 0, .int 0, .int 0, .null, .null, .long 0, .null, .null]))]) H := hP
  have hD : va_D A ([(h0, .inr (7, [.int 0, .int 0, .int 0, .int 0, .int 0, .int 0, .int 0, .int 0, .int 0, .int 0, .int 0, .null, .null, .long 0, .null, .null]))]) := hD
  refine lv_aload_n hx hb dX7_init_9 rfl (lv_at hl 0 rfl) ?_
  refine lv_iconst (v := 0) hx hb dX7_init_10 rfl ?_
  refine va_put (D := zD E) (ci := 7) (v := .int 0) (ty := .int) (C := RX7) (T := TX7) (N := 16) hx hb hts uw_X7 tyX7 tyX7_ok nmX7 hown hK hP hD hS 0 rfl rfl 1 (by decide) (hts _ wm_1_49) (fun _ h9 => h9) rfl (by decide +kernel) rfl rfl (Nat.le_of_ble_eq_true rfl) dX7_init_11 (fun H locs hP hD hS => ?_)
  have hP : va_P (zD E) vwCl ([(h0, .inr (7, [.int 0, .int 0, .int 0, .int 0, .int 0, .int 0, .int 0, .int 0, .int 0, .int 0, .int 0, .null, .null, .long 0, .null, .null]))]) H := hP
  have hD : va_D A ([(h0, .inr (7, [.int 0, .int 0, .int 0, .int 0, .int 0, .int 0, .int 0, .int 0, .int 0, .int 0, .int 0, .null, .null, .long 0, .null, .null]))]) := hD
  refine lv_aload_n hx hb dX7_init_14 rfl (lv_at hl 0 rfl) ?_
  refine lv_iconst (v := 0) hx hb dX7_init_15 rfl ?_
  refine va_put (D := zD E) (ci := 7) (v := .int 0) (ty := .int) (C := RX7) (T := TX7) (N := 16) hx hb hts uw_X7 tyX7 tyX7_ok nmX7 hown hK hP hD hS 0 rfl rfl 2 (by decide) (hts _ wm_1_52) (fun _ h9 => h9) rfl (by decide +kernel) rfl rfl (Nat.le_of_ble_eq_true rfl) dX7_init_16 (fun H locs hP hD hS => ?_)
  have hP : va_P (zD E) vwCl ([(h0, .inr (7, [.int 0, .int 0, .int 0, .int 0, .int 0, .int 0, .int 0, .int 0, .int 0, .int 0, .int 0, .null, .null, .long 0, .null, .null]))]) H := hP
  have hD : va_D A ([(h0, .inr (7, [.int 0, .int 0, .int 0, .int 0, .int 0, .int 0, .int 0, .int 0, .int 0, .int 0, .int 0, .null, .null, .long 0, .null, .null]))]) := hD
  refine lv_aload_n hx hb dX7_init_19 rfl (lv_at hl 0 rfl) ?_
  refine lv_iconst (v := 0) hx hb dX7_init_20 rfl ?_
  refine va_put (D := zD E) (ci := 7) (v := .int 0) (ty := .int) (C := RX7) (T := TX7) (N := 16) hx hb hts uw_X7 tyX7 tyX7_ok nmX7 hown hK hP hD hS 0 rfl rfl 3 (by decide) (hts _ wm_1_55) (fun _ h9 => h9) rfl (by decide +kernel) rfl rfl (Nat.le_of_ble_eq_true rfl) dX7_init_21 (fun H locs hP hD hS => ?_)
  have hP : va_P (zD E) vwCl ([(h0, .inr (7, [.int 0, .int 0, .int 0, .int 0, .int 0, .int 0, .int 0, .int 0, .int 0, .int 0, .int 0, .null, .null, .long 0, .null, .null]))]) H := hP
  have hD : va_D A ([(h0, .inr (7, [.int 0, .int 0, .int 0, .int 0, .int 0, .int 0, .int 0, .int 0, .int 0, .int 0, .int 0, .null, .null, .long 0, .null, .null]))]) := hD
  refine lv_aload_n hx hb dX7_init_24 rfl (lv_at hl 0 rfl) ?_
  refine lv_iconst (v := 0) hx hb dX7_init_25 rfl ?_
  refine va_put (D := zD E) (ci := 7) (v := .int 0) (ty := .int) (C := RX7) (T := TX7) (N := 16) hx hb hts uw_X7 tyX7 tyX7_ok nmX7 hown hK hP hD hS 0 rfl rfl 4 (by decide) (hts _ wm_1_58) (fun _ h9 => h9) rfl (by decide +kernel) rfl rfl (Nat.le_of_ble_eq_true rfl) dX7_init_26 (fun H locs hP hD hS => ?_)
  have hP : va_P (zD E) vwCl ([(h0, .inr (7, [.int 0, .int 0, .int 0, .int 0, .int 0, .int 0, .int 0, .int 0, .int 0, .int 0, .int 0, .null, .null, .long 0, .null, .null]))]) H := hP
  have hD : va_D A ([(h0, .inr (7, [.int 0, .int 0, .int 0, .int 0, .int 0, .int 0, .int 0, .int 0, .int 0, .int 0, .int 0, .null, .null, .long 0, .null, .null]))]) := hD
  refine lv_aload_n hx hb dX7_init_29 rfl (lv_at hl 0 rfl) ?_
  refine lv_iconst (v := 0) hx hb dX7_init_30 rfl ?_
  refine va_put (D := zD E) (ci := 7) (v := .int 0) (ty := .int) (C := RX7) (T := TX7) (N := 16) hx hb hts uw_X7 tyX7 tyX7_ok nmX7 hown hK hP hD hS 0 rfl rfl 5 (by decide) (hts _ wm_1_61) (fun _ h9 => h9) rfl (by decide +kernel) rfl rfl (Nat.le_of_ble_eq_true rfl) dX7_init_31 (fun H locs hP hD hS => ?_)
  have hP : va_P (zD E) vwCl ([(h0, .inr (7, [.int 0, .int 0, .int 0, .int 0, .int 0, .int 0, .int 0, .int 0, .int 0, .int 0, .int 0, .null, .null, .long 0, .null, .null]))]) H := hP
  have hD : va_D A ([(h0, .inr (7, [.int 0, .int 0, .int 0, .int 0, .int 0, .int 0, .int 0, .int 0, .int 0, .int 0, .int 0, .null, .null, .long 0, .null, .null]))]) := hD
  refine lv_aload_n hx hb dX7_init_34 rfl (lv_at hl 0 rfl) ?_
  refine lv_iconst (v := 0) hx hb dX7_init_35 rfl ?_
  refine va_put (D := zD E) (ci := 7) (v := .int 0) (ty := .int) (C := RX7) (T := TX7) (N := 16) hx hb hts uw_X7 tyX7 tyX7_ok nmX7 hown hK hP hD hS 0 rfl rfl 6 (by decide) (hts _ wm_1_64) (fun _ h9 => h9) rfl (by decide +kernel) rfl rfl (Nat.le_of_ble_eq_true rfl) dX7_init_36 (fun H locs hP hD hS => ?_)
  have hP : va_P (zD E) vwCl ([(h0, .inr (7, [.int 0, .int 0, .int 0, .int 0, .int 0, .int 0, .int 0, .int 0, .int 0, .int 0, .int 0, .null, .null, .long 0, .null, .null]))]) H := hP
  have hD : va_D A ([(h0, .inr (7, [.int 0, .int 0, .int 0, .int 0, .int 0, .int 0, .int 0, .int 0, .int 0, .int 0, .int 0, .null, .null, .long 0, .null, .null]))]) := hD
  refine lv_aload_n hx hb dX7_init_39 rfl (lv_at hl 0 rfl) ?_
  refine lv_iconst (v := 0) hx hb dX7_init_40 rfl ?_
  refine va_put (D := zD E) (ci := 7) (v := .int 0) (ty := .int) (C := RX7) (T := TX7) (N := 16) hx hb hts uw_X7 tyX7 tyX7_ok nmX7 hown hK hP hD hS 0 rfl rfl 7 (by decide) (hts _ wm_1_67) (fun _ h9 => h9) rfl (by decide +kernel) rfl rfl (Nat.le_of_ble_eq_true rfl) dX7_init_41 (fun H locs hP hD hS => ?_)
  have hP : va_P (zD E) vwCl ([(h0, .inr (7, [.int 0, .int 0, .int 0, .int 0, .int 0, .int 0, .int 0, .int 0, .int 0, .int 0, .int 0, .null, .null, .long 0, .null, .null]))]) H := hP
  have hD : va_D A ([(h0, .inr (7, [.int 0, .int 0, .int 0, .int 0, .int 0, .int 0, .int 0, .int 0, .int 0, .int 0, .int 0, .null, .null, .long 0, .null, .null]))]) := hD
  refine lv_aload_n hx hb dX7_init_44 rfl (lv_at hl 0 rfl) ?_
  refine lv_iconst (v := 0) hx hb dX7_init_45 rfl ?_
  refine va_put (D := zD E) (ci := 7) (v := .int 0) (ty := .int) (C := RX7) (T := TX7) (N := 16) hx hb hts uw_X7 tyX7 tyX7_ok nmX7 hown hK hP hD hS 0 rfl rfl 8 (by decide) (hts _ wm_1_70) (fun _ h9 => h9) rfl (by decide +kernel) rfl rfl (Nat.le_of_ble_eq_true rfl) dX7_init_46 (fun H locs hP hD hS => ?_)
  have hP : va_P (zD E) vwCl ([(h0, .inr (7, [.int 0, .int 0, .int 0, .int 0, .int 0, .int 0, .int 0, .int 0, .int 0, .int 0, .int 0, .null, .null, .long 0, .null, .null]))]) H := hP
  have hD : va_D A ([(h0, .inr (7, [.int 0, .int 0, .int 0, .int 0, .int 0, .int 0, .int 0, .int 0, .int 0, .int 0, .int 0, .null, .null, .long 0, .null, .null]))]) := hD
  refine lv_aload_n hx hb dX7_init_49 rfl (lv_at hl 0 rfl) ?_
  refine lv_iconst (v := 0) hx hb dX7_init_50 rfl ?_
  refine va_put (D := zD E) (ci := 7) (v := .int 0) (ty := .int) (C := RX7) (T := TX7) (N := 16) hx hb hts uw_X7 tyX7 tyX7_ok nmX7 hown hK hP hD hS 0 rfl rfl 9 (by decide) (hts _ wm_1_75) (fun _ h9 => h9) rfl (by decide +kernel) rfl rfl (Nat.le_of_ble_eq_true rfl) dX7_init_51 (fun H locs hP hD hS => ?_)
  have hP : va_P (zD E) vwCl ([(h0, .inr (7, [.int 0, .int 0, .int 0, .int 0, .int 0, .int 0, .int 0, .int 0, .int 0, .int 0, .int 0, .null, .null, .long 0, .null, .null]))]) H := hP
  have hD : va_D A ([(h0, .inr (7, [.int 0, .int 0, .int 0, .int 0, .int 0, .int 0, .int 0, .int 0, .int 0, .int 0, .int 0, .null, .null, .long 0, .null, .null]))]) := hD
  refine lv_aload_n hx hb dX7_init_54 rfl (lv_at hl 0 rfl) ?_
  refine lv_iconst (v := 0) hx hb dX7_init_55 rfl ?_
  refine va_put (D := zD E) (ci := 7) (v := .int 0) (ty := .int) (C := RX7) (T := TX7) (N := 16) hx hb hts uw_X7 tyX7 tyX7_ok nmX7 hown hK hP hD hS 0 rfl rfl 10 (by decide) (hts _ wm_1_79) (fun _ h9 => h9) rfl (by decide +kernel) rfl rfl (Nat.le_of_ble_eq_true rfl) dX7_init_56 (fun H locs hP hD hS => ?_)
  have hP : va_P (zD E) vwCl ([(h0, .inr (7, [.int 0, .int 0, .int 0, .int 0, .int 0, .int 0, .int 0, .int 0, .int 0, .int 0, .int 0, .null, .null, .long 0, .null, .null]))]) H := hP
  have hD : va_D A ([(h0, .inr (7, [.int 0, .int 0, .int 0, .int 0, .int 0, .int 0, .int 0, .int 0, .int 0, .int 0, .int 0, .null, .null, .long 0, .null, .null]))]) := hD
  refine lv_aload_n hx hb dX7_init_59 rfl (lv_at hl 0 rfl) ?_
  refine lv_bipush (v := 6) hx hb dX7_init_60 rfl ?_
  refine z_new_int (N' := 6) hx hb (hts _ wm_1_121) hK hP hD hS hA (by decide) rfl (by decide) (by decide) (by decide) dX7_init_62 (fun q62 H hP hD hS => ?_)
  have hP : va_P (zD E) vwCl ([(h0, .inr (7, [.int 0, .int 0, .int 0, .int 0, .int 0, .int 0, .int 0, .int 0, .int 0, .int 0, .int 0, .null, .null, .long 0, .null, .null]))] ++ ([(q62, .inl (E.2.2 0, 6, .inl (fun _ => 0)))])) H := hP
  have hD : va_D A ([(h0, .inr (7, [.int 0, .int 0, .int 0, .int 0, .int 0, .int 0, .int 0, .int 0, .int 0, .int 0, .int 0, .null, .null, .long 0, .null, .null]))] ++ ([(q62, .inl (E.2.2 0, 6, .inl (fun _ => 0)))])) := hD
  refine va_putF (D := zD E) (ci := 7) (v := .ref q62) (ty := .array .int) (C := RX7) (T := TX7) (N := 16) hx hb hts uw_X7 tyX7 tyX7_ok nmX7 hown hK hP hD hS 0 rfl rfl 11 (by decide) (hts _ wm_1_81) (fun _ h9 => h9) rfl hin rfl (by decide +kernel) rfl rfl (Nat.le_of_ble_eq_true rfl) dX7_init_64 (fun H locs hP hD hS => ?_)
  have hP : va_P (zD E) vwCl ([(h0, .inr (7, [.int 0, .int 0, .int 0, .int 0, .int 0, .int 0, .int 0, .int 0, .int 0, .int 0, .int 0, .ref q62, .null, .long 0, .null, .null]))] ++ ([(q62, .inl (E.2.2 0, 6, .inl (fun _ => 0)))])) H := hP
  have hD : va_D A ([(h0, .inr (7, [.int 0, .int 0, .int 0, .int 0, .int 0, .int 0, .int 0, .int 0, .int 0, .int 0, .int 0, .ref q62, .null, .long 0, .null, .null]))] ++ ([(q62, .inl (E.2.2 0, 6, .inl (fun _ => 0)))])) := hD
  refine lv_aload_n hx hb dX7_init_67 rfl (lv_at hl 0 rfl) ?_
  refine lv_bipush (v := 6) hx hb dX7_init_68 rfl ?_
  refine z_new_int (N' := 6) hx hb (hts _ wm_1_121) hK hP hD hS hA (by decide) rfl (by decide) (by decide) (by decide) dX7_init_70 (fun q70 H hP hD hS => ?_)
  have hP : va_P (zD E) vwCl ([(h0, .inr (7, [.int 0, .int 0, .int 0, .int 0, .int 0, .int 0, .int 0, .int 0, .int 0, .int 0, .int 0, .ref q62, .null, .long 0, .null, .null]))] ++ ([(q62, .inl (E.2.2 0, 6, .inl (fun _ => 0)))] ++ ([(q70, .inl (E.2.2 0, 6, .inl (fun _ => 0)))]))) H := hP
  have hD : va_D A ([(h0, .inr (7, [.int 0, .int 0, .int 0, .int 0, .int 0, .int 0, .int 0, .int 0, .int 0, .int 0, .int 0, .ref q62, .null, .long 0, .null, .null]))] ++ ([(q62, .inl (E.2.2 0, 6, .inl (fun _ => 0)))] ++ ([(q70, .inl (E.2.2 0, 6, .inl (fun _ => 0)))]))) := hD
  refine va_putF (D := zD E) (ci := 7) (v := .ref q70) (ty := .array .int) (C := RX7) (T := TX7) (N := 16) hx hb hts uw_X7 tyX7 tyX7_ok nmX7 hown hK hP hD hS 0 rfl rfl 12 (by decide) (hts _ wm_1_83) (fun _ h9 => h9) rfl hin rfl (by decide +kernel) rfl rfl (Nat.le_of_ble_eq_true rfl) dX7_init_72 (fun H locs hP hD hS => ?_)
  have hP : va_P (zD E) vwCl ([(h0, .inr (7, [.int 0, .int 0, .int 0, .int 0, .int 0, .int 0, .int 0, .int 0, .int 0, .int 0, .int 0, .ref q62, .ref q70, .long 0, .null, .null]))] ++ ([(q62, .inl (E.2.2 0, 6, .inl (fun _ => 0)))] ++ ([(q70, .inl (E.2.2 0, 6, .inl (fun _ => 0)))]))) H := hP
  have hD : va_D A ([(h0, .inr (7, [.int 0, .int 0, .int 0, .int 0, .int 0, .int 0, .int 0, .int 0, .int 0, .int 0, .int 0, .ref q62, .ref q70, .long 0, .null, .null]))] ++ ([(q62, .inl (E.2.2 0, 6, .inl (fun _ => 0)))] ++ ([(q70, .inl (E.2.2 0, 6, .inl (fun _ => 0)))]))) := hD
  refine lv_aload_n hx hb dX7_init_75 rfl (lv_at hl 0 rfl) ?_
  refine lv_lconst (v := 0) hx hb dX7_init_76 rfl ?_
  refine va_put (D := zD E) (ci := 7) (v := .long 0) (ty := .long) (C := RX7) (T := TX7) (N := 16) hx hb hts uw_X7 tyX7 tyX7_ok nmX7 hown hK hP hD hS 0 rfl rfl 13 (by decide) (hts _ wm_1_85) (fun _ h9 => h9) rfl (by decide +kernel) rfl rfl (Nat.le_of_ble_eq_true rfl) dX7_init_77 (fun H locs hP hD hS => ?_)
  have hP : va_P (zD E) vwCl ([(h0, .inr (7, [.int 0, .int 0, .int 0, .int 0, .int 0, .int 0, .int 0, .int 0, .int 0, .int 0, .int 0, .ref q62, .ref q70, .long 0, .null, .null]))] ++ ([(q62, .inl (E.2.2 0, 6, .inl (fun _ => 0)))] ++ ([(q70, .inl (E.2.2 0, 6, .inl (fun _ => 0)))]))) H := hP
  have hD : va_D A ([(h0, .inr (7, [.int 0, .int 0, .int 0, .int 0, .int 0, .int 0, .int 0, .int 0, .int 0, .int 0, .int 0, .ref q62, .ref q70, .long 0, .null, .null]))] ++ ([(q62, .inl (E.2.2 0, 6, .inl (fun _ => 0)))] ++ ([(q70, .inl (E.2.2 0, 6, .inl (fun _ => 0)))]))) := hD
  refine lv_aload_n hx hb dX7_init_80 rfl (lv_at hl 0 rfl) ?_
  refine lv_bipush (v := 40) hx hb dX7_init_81 rfl ?_
  refine z_new_int (N' := 40) hx hb (hts _ wm_1_121) hK hP hD hS hA (by decide) rfl (by decide) (by decide) (by decide) dX7_init_83 (fun q83 H hP hD hS => ?_)
  have hP : va_P (zD E) vwCl ([(h0, .inr (7, [.int 0, .int 0, .int 0, .int 0, .int 0, .int 0, .int 0, .int 0, .int 0, .int 0, .int 0, .ref q62, .ref q70, .long 0, .null, .null]))] ++ ([(q62, .inl (E.2.2 0, 6, .inl (fun _ => 0)))] ++ ([(q70, .inl (E.2.2 0, 6, .inl (fun _ => 0)))] ++ ([(q83, .inl (E.2.2 0, 40, .inl (fun _ => 0)))])))) H := hP
  have hD : va_D A ([(h0, .inr (7, [.int 0, .int 0, .int 0, .int 0, .int 0, .int 0, .int 0, .int 0, .int 0, .int 0, .int 0, .ref q62, .ref q70, .long 0, .null, .null]))] ++ ([(q62, .inl (E.2.2 0, 6, .inl (fun _ => 0)))] ++ ([(q70, .inl (E.2.2 0, 6, .inl (fun _ => 0)))] ++ ([(q83, .inl (E.2.2 0, 40, .inl (fun _ => 0)))])))) := hD
  refine va_putF (D := zD E) (ci := 7) (v := .ref q83) (ty := .array .int) (C := RX7) (T := TX7) (N := 16) hx hb hts uw_X7 tyX7 tyX7_ok nmX7 hown hK hP hD hS 0 rfl rfl 14 (by decide) (hts _ wm_1_86) (fun _ h9 => h9) rfl hin rfl (by decide +kernel) rfl rfl (Nat.le_of_ble_eq_true rfl) dX7_init_85 (fun H locs hP hD hS => ?_)
  have hP : va_P (zD E) vwCl ([(h0, .inr (7, [.int 0, .int 0, .int 0, .int 0, .int 0, .int 0, .int 0, .int 0, .int 0, .int 0, .int 0, .ref q62, .ref q70, .long 0, .ref q83, .null]))] ++ ([(q62, .inl (E.2.2 0, 6, .inl (fun _ => 0)))] ++ ([(q70, .inl (E.2.2 0, 6, .inl (fun _ => 0)))] ++ ([(q83, .inl (E.2.2 0, 40, .inl (fun _ => 0)))])))) H := hP
  have hD : va_D A ([(h0, .inr (7, [.int 0, .int 0, .int 0, .int 0, .int 0, .int 0, .int 0, .int 0, .int 0, .int 0, .int 0, .ref q62, .ref q70, .long 0, .ref q83, .null]))] ++ ([(q62, .inl (E.2.2 0, 6, .inl (fun _ => 0)))] ++ ([(q70, .inl (E.2.2 0, 6, .inl (fun _ => 0)))] ++ ([(q83, .inl (E.2.2 0, 40, .inl (fun _ => 0)))])))) := hD
  refine lv_aload_n hx hb dX7_init_88 rfl (lv_at hl 0 rfl) ?_
  refine lv_bipush (v := 40) hx hb dX7_init_89 rfl ?_
  refine z_new_int (N' := 40) hx hb (hts _ wm_1_121) hK hP hD hS hA (by decide) rfl (by decide) (by decide) (by decide) dX7_init_91 (fun q91 H hP hD hS => ?_)
  have hP : va_P (zD E) vwCl ([(h0, .inr (7, [.int 0, .int 0, .int 0, .int 0, .int 0, .int 0, .int 0, .int 0, .int 0, .int 0, .int 0, .ref q62, .ref q70, .long 0, .ref q83, .null]))] ++ ([(q62, .inl (E.2.2 0, 6, .inl (fun _ => 0)))] ++ ([(q70, .inl (E.2.2 0, 6, .inl (fun _ => 0)))] ++ ([(q83, .inl (E.2.2 0, 40, .inl (fun _ => 0)))] ++ ([(q91, .inl (E.2.2 0, 40, .inl (fun _ => 0)))]))))) H := hP
  have hD : va_D A ([(h0, .inr (7, [.int 0, .int 0, .int 0, .int 0, .int 0, .int 0, .int 0, .int 0, .int 0, .int 0, .int 0, .ref q62, .ref q70, .long 0, .ref q83, .null]))] ++ ([(q62, .inl (E.2.2 0, 6, .inl (fun _ => 0)))] ++ ([(q70, .inl (E.2.2 0, 6, .inl (fun _ => 0)))] ++ ([(q83, .inl (E.2.2 0, 40, .inl (fun _ => 0)))] ++ ([(q91, .inl (E.2.2 0, 40, .inl (fun _ => 0)))]))))) := hD
  refine va_putF (D := zD E) (ci := 7) (v := .ref q91) (ty := .array .int) (C := RX7) (T := TX7) (N := 16) hx hb hts uw_X7 tyX7 tyX7_ok nmX7 hown hK hP hD hS 0 rfl rfl 15 (by decide) (hts _ wm_1_87) (fun _ h9 => h9) rfl hin rfl (by decide +kernel) rfl rfl (Nat.le_of_ble_eq_true rfl) dX7_init_93 (fun H locs hP hD hS => ?_)
  have hP : va_P (zD E) vwCl ([(h0, .inr (7, [.int 0, .int 0, .int 0, .int 0, .int 0, .int 0, .int 0, .int 0, .int 0, .int 0, .int 0, .ref q62, .ref q70, .long 0, .ref q83, .ref q91]))] ++ ([(q62, .inl (E.2.2 0, 6, .inl (fun _ => 0)))] ++ ([(q70, .inl (E.2.2 0, 6, .inl (fun _ => 0)))] ++ ([(q83, .inl (E.2.2 0, 40, .inl (fun _ => 0)))] ++ ([(q91, .inl (E.2.2 0, 40, .inl (fun _ => 0)))]))))) H := hP
  have hD : va_D A ([(h0, .inr (7, [.int 0, .int 0, .int 0, .int 0, .int 0, .int 0, .int 0, .int 0, .int 0, .int 0, .int 0, .ref q62, .ref q70, .long 0, .ref q83, .ref q91]))] ++ ([(q62, .inl (E.2.2 0, 6, .inl (fun _ => 0)))] ++ ([(q70, .inl (E.2.2 0, 6, .inl (fun _ => 0)))] ++ ([(q83, .inl (E.2.2 0, 40, .inl (fun _ => 0)))] ++ ([(q91, .inl (E.2.2 0, 40, .inl (fun _ => 0)))]))))) := hD
  have hw := hw (fun i => if i < 1 then h0 else if i < 2 then q62 else if i < 3 then q70 else if i < 4 then q83 else if i < 5 then q91 else 0) rfl
  refine W.widen (k := 4) (n := 92) (by decide) (by decide) ?_
  exact z_vret (k := (fun q => k_X7 E q i_X7)) (fun i => if i < 1 then h0 else if i < 2 then q62 else if i < 3 then q70 else if i < 4 then q83 else if i < 5 then q91 else 0) C0 hP hD hS hw dX7_init_96
abbrev i_X8 : S_X8 := (fun _ => 0, 0, 0, 0, fun _ => 0, fun _ => 0, 0, 0)
abbrev r_X8_init : Room := { frames := 1, cells := 3, slots := 28, locals := 30 }
set_option maxHeartbeats 4000000 in
set_option maxRecDepth 100000 in
theorem c_X8_init (l : Launch) (E : zE) (Z : zZ) (hZ0 : zSt Z) (h0 sz : Nat) (post : (Nat → Nat) → Prop) (hw : ∀ q : Nat → Nat, q 0 = h0 → post q) : Met l yX8_init (zws yX8_init cX8_init 1 none) r_X8_init (va_Pc [.ref h0] (zPre Z E ([(h0, .inr (8, [.null, .int 0, .int 0, .int 0, .null, .null, .int 0, .int 0]))]) sz)) (va_Qv post (zAt E (va_A ([(h0, .inr (8, [.null, .int 0, .int 0, .int 0, .null, .null, .int 0, .int 0]))]) sz) (fun q => k_X8 E q i_X8)) (va_A ([(h0, .inr (8, [.null, .int 0, .int 0, .int 0, .null, .null, .int 0, .int 0]))]) sz)) 3 28 (va_A ([(h0, .inr (8, [.null, .int 0, .int 0, .int 0, .null, .null, .int 0, .int 0]))]) sz) := by
  refine z_ofW (Qf := fun A => va_Qv post (zAt E A (fun q => k_X8 E q i_X8)) A) (by decide) (Nat.le_of_ble_eq_true rfl) ?_
  intro p e s m args below meth c A ls C0 hA hK hZ hP hD hS hl
  obtain ⟨hx, hb, hml, hr, hown, hts, hlocks, hin⟩ := id C0
  have hown : s.vm.findClass RX8 = some m.cls := hown
  have hl : lv_has ls 1 [(0, .ref h0)] := hl
  refine lv_aload_n hx hb dX8_init_0 rfl (lv_at hl 0 rfl) ?_
  refine W.objInit hx hb hown (hts _ wm_2_80) (hts _ wm_1_31) (hts _ wm_1_32) rfl (by rw [hml]; exact hl.1) rfl dX8_init_1 (Nat.le_of_ble_eq_true rfl) (Nat.le_of_ble_eq_true rfl) ?_
  refine W.eq (g2 := F0 m 4 ls []) rfl ?_
  refine lv_aload_n hx hb dX8_init_4 rfl (lv_at hl 0 rfl) ?_
  refine lv_bipush (v := 20) hx hb dX8_init_5 rfl ?_
  refine z_new_int (N' := 20) hx hb (hts _ wm_1_121) hK hP hD hS hA (by decide) rfl (by decide) (by decide) (by decide) dX8_init_7 (fun q7 H hP hD hS => ?_)
  have hP : va_P (zD E) vwCl ([(h0, .inr (8, [.null, .int 0, .int 0, .int 0, .null, .null, .int 0, .int 0]))] ++ ([(q7, .inl (E.2.2 0, 20, .inl (fun _ => 0)))])) H := hP
  have hD : va_D A ([(h0, .inr (8, [.null, .int 0, .int 0, .int 0, .null, .null, .int 0, .int 0]))] ++ ([(q7, .inl (E.2.2 0, 20, .inl (fun _ => 0)))])) := hD
  refine va_putF (D := zD E) (ci := 8) (v := .ref q7) (ty := .array .int) (C := RX8) (T := TX8) (N := 8) hx hb hts uw_X8 tyX8 tyX8_ok nmX8 hown hK hP hD hS 0 rfl rfl 0 (by decide) (hts _ wm_2_81) (fun _ h9 => h9) rfl hin rfl (by decide +kernel) rfl rfl (Nat.le_of_ble_eq_true rfl) dX8_init_9 (fun H locs hP hD hS => ?_)
  have hP : va_P (zD E) vwCl ([(h0, .inr (8, [.ref q7, .int 0, .int 0, .int 0, .null, .null, .int 0, .int 0]))] ++ ([(q7, .inl (E.2.2 0, 20, .inl (fun _ => 0)))])) H := hP
  have hD : va_D A ([(h0, .inr (8, [.ref q7, .int 0, .int 0, .int 0, .null, .null, .int 0, .int 0]))] ++ ([(q7, .inl (E.2.2 0, 20, .inl (fun _ => 0)))])) := hD
  refine lv_aload_n hx hb dX8_init_12 rfl (lv_at hl 0 rfl) ?_
  refine lv_iconst (v := 0) hx hb dX8_init_13 rfl ?_
  refine va_put (D := zD E) (ci := 8) (v := .int 0) (ty := .int) (C := RX8) (T := TX8) (N := 8) hx hb hts uw_X8 tyX8 tyX8_ok nmX8 hown hK hP hD hS 0 rfl rfl 1 (by decide) (hts _ wm_2_82) (fun _ h9 => h9) rfl (by decide +kernel) rfl rfl (Nat.le_of_ble_eq_true rfl) dX8_init_14 (fun H locs hP hD hS => ?_)
  have hP : va_P (zD E) vwCl ([(h0, .inr (8, [.ref q7, .int 0, .int 0, .int 0, .null, .null, .int 0, .int 0]))] ++ ([(q7, .inl (E.2.2 0, 20, .inl (fun _ => 0)))])) H := hP
  have hD : va_D A ([(h0, .inr (8, [.ref q7, .int 0, .int 0, .int 0, .null, .null, .int 0, .int 0]))] ++ ([(q7, .inl (E.2.2 0, 20, .inl (fun _ => 0)))])) := hD
  refine lv_aload_n hx hb dX8_init_17 rfl (lv_at hl 0 rfl) ?_
  refine lv_iconst (v := 0) hx hb dX8_init_18 rfl ?_
  refine va_put (D := zD E) (ci := 8) (v := .int 0) (ty := .int) (C := RX8) (T := TX8) (N := 8) hx hb hts uw_X8 tyX8 tyX8_ok nmX8 hown hK hP hD hS 0 rfl rfl 2 (by decide) (hts _ wm_2_83) (fun _ h9 => h9) rfl (by decide +kernel) rfl rfl (Nat.le_of_ble_eq_true rfl) dX8_init_19 (fun H locs hP hD hS => ?_)
  have hP : va_P (zD E) vwCl ([(h0, .inr (8, [.ref q7, .int 0, .int 0, .int 0, .null, .null, .int 0, .int 0]))] ++ ([(q7, .inl (E.2.2 0, 20, .inl (fun _ => 0)))])) H := hP
  have hD : va_D A ([(h0, .inr (8, [.ref q7, .int 0, .int 0, .int 0, .null, .null, .int 0, .int 0]))] ++ ([(q7, .inl (E.2.2 0, 20, .inl (fun _ => 0)))])) := hD
  refine lv_aload_n hx hb dX8_init_22 rfl (lv_at hl 0 rfl) ?_
  refine lv_iconst (v := 0) hx hb dX8_init_23 rfl ?_
  refine va_put (D := zD E) (ci := 8) (v := .int 0) (ty := .int) (C := RX8) (T := TX8) (N := 8) hx hb hts uw_X8 tyX8 tyX8_ok nmX8 hown hK hP hD hS 0 rfl rfl 3 (by decide) (hts _ wm_2_84) (fun _ h9 => h9) rfl (by decide +kernel) rfl rfl (Nat.le_of_ble_eq_true rfl) dX8_init_24 (fun H locs hP hD hS => ?_)
  have hP : va_P (zD E) vwCl ([(h0, .inr (8, [.ref q7, .int 0, .int 0, .int 0, .null, .null, .int 0, .int 0]))] ++ ([(q7, .inl (E.2.2 0, 20, .inl (fun _ => 0)))])) H := hP
  have hD : va_D A ([(h0, .inr (8, [.ref q7, .int 0, .int 0, .int 0, .null, .null, .int 0, .int 0]))] ++ ([(q7, .inl (E.2.2 0, 20, .inl (fun _ => 0)))])) := hD
  refine lv_aload_n hx hb dX8_init_27 rfl (lv_at hl 0 rfl) ?_
  refine lv_iconst (v := 4) hx hb dX8_init_28 rfl ?_
  refine z_new_int (N' := 4) hx hb (hts _ wm_1_121) hK hP hD hS hA (by decide) rfl (by decide) (by decide) (by decide) dX8_init_29 (fun q29 H hP hD hS => ?_)
  have hP : va_P (zD E) vwCl ([(h0, .inr (8, [.ref q7, .int 0, .int 0, .int 0, .null, .null, .int 0, .int 0]))] ++ ([(q7, .inl (E.2.2 0, 20, .inl (fun _ => 0)))] ++ ([(q29, .inl (E.2.2 0, 4, .inl (fun _ => 0)))]))) H := hP
  have hD : va_D A ([(h0, .inr (8, [.ref q7, .int 0, .int 0, .int 0, .null, .null, .int 0, .int 0]))] ++ ([(q7, .inl (E.2.2 0, 20, .inl (fun _ => 0)))] ++ ([(q29, .inl (E.2.2 0, 4, .inl (fun _ => 0)))]))) := hD
  refine va_putF (D := zD E) (ci := 8) (v := .ref q29) (ty := .array .int) (C := RX8) (T := TX8) (N := 8) hx hb hts uw_X8 tyX8 tyX8_ok nmX8 hown hK hP hD hS 0 rfl rfl 4 (by decide) (hts _ wm_2_85) (fun _ h9 => h9) rfl hin rfl (by decide +kernel) rfl rfl (Nat.le_of_ble_eq_true rfl) dX8_init_31 (fun H locs hP hD hS => ?_)
  have hP : va_P (zD E) vwCl ([(h0, .inr (8, [.ref q7, .int 0, .int 0, .int 0, .ref q29, .null, .int 0, .int 0]))] ++ ([(q7, .inl (E.2.2 0, 20, .inl (fun _ => 0)))] ++ ([(q29, .inl (E.2.2 0, 4, .inl (fun _ => 0)))]))) H := hP
  have hD : va_D A ([(h0, .inr (8, [.ref q7, .int 0, .int 0, .int 0, .ref q29, .null, .int 0, .int 0]))] ++ ([(q7, .inl (E.2.2 0, 20, .inl (fun _ => 0)))] ++ ([(q29, .inl (E.2.2 0, 4, .inl (fun _ => 0)))]))) := hD
  refine lv_aload_n hx hb dX8_init_34 rfl (lv_at hl 0 rfl) ?_
  refine lv_iconst (v := 4) hx hb dX8_init_35 rfl ?_
  refine z_new_int (N' := 4) hx hb (hts _ wm_1_121) hK hP hD hS hA (by decide) rfl (by decide) (by decide) (by decide) dX8_init_36 (fun q36 H hP hD hS => ?_)
  have hP : va_P (zD E) vwCl ([(h0, .inr (8, [.ref q7, .int 0, .int 0, .int 0, .ref q29, .null, .int 0, .int 0]))] ++ ([(q7, .inl (E.2.2 0, 20, .inl (fun _ => 0)))] ++ ([(q29, .inl (E.2.2 0, 4, .inl (fun _ => 0)))] ++ ([(q36, .inl (E.2.2 0, 4, .inl (fun _ => 0)))])))) H := hP
  have hD : va_D A ([(h0, .inr (8, [.ref q7, .int 0, .int 0, .int 0, .ref q29, .null, .int 0, .int 0]))] ++ ([(q7, .inl (E.2.2 0, 20, .inl (fun _ => 0)))] ++ ([(q29, .inl (E.2.2 0, 4, .inl (fun _ => 0)))] ++ ([(q36, .inl (E.2.2 0, 4, .inl (fun _ => 0)))])))) := hD
  refine va_putF (D := zD E) (ci := 8) (v := .ref q36) (ty := .array .int) (C := RX8) (T := TX8) (N := 8) hx hb hts uw_X8 tyX8 tyX8_ok nmX8 hown hK hP hD hS 0 rfl rfl 5 (by decide) (hts _ wm_2_86) (fun _ h9 => h9) rfl hin rfl (by decide +kernel) rfl rfl (Nat.le_of_ble_eq_true rfl) dX8_init_38 (fun H locs hP hD hS => ?_)
  have hP : va_P (zD E) vwCl ([(h0, .inr (8, [.ref q7, .int 0, .int 0, .int 0, .ref q29, .ref q36, .int 0, .int 0]))] ++ ([(q7, .inl (E.2.2 0, 20, .inl (fun _ => 0)))] ++ ([(q29, .inl (E.2.2 0, 4, .inl (fun _ => 0)))] ++ ([(q36, .inl (E.2.2 0, 4, .inl (fun _ => 0)))])))) H := hP
  have hD : va_D A ([(h0, .inr (8, [.ref q7, .int 0, .int 0, .int 0, .ref q29, .ref q36, .int 0, .int 0]))] ++ ([(q7, .inl (E.2.2 0, 20, .inl (fun _ => 0)))] ++ ([(q29, .inl (E.2.2 0, 4, .inl (fun _ => 0)))] ++ ([(q36, .inl (E.2.2 0, 4, .inl (fun _ => 0)))])))) := hD
  refine lv_aload_n hx hb dX8_init_41 rfl (lv_at hl 0 rfl) ?_
  refine lv_iconst (v := 0) hx hb dX8_init_42 rfl ?_
  refine va_put (D := zD E) (ci := 8) (v := .int 0) (ty := .int) (C := RX8) (T := TX8) (N := 8) hx hb hts uw_X8 tyX8 tyX8_ok nmX8 hown hK hP hD hS 0 rfl rfl 6 (by decide) (hts _ wm_2_87) (fun _ h9 => h9) rfl (by decide +kernel) rfl rfl (Nat.le_of_ble_eq_true rfl) dX8_init_43 (fun H locs hP hD hS => ?_)
  have hP : va_P (zD E) vwCl ([(h0, .inr (8, [.ref q7, .int 0, .int 0, .int 0, .ref q29, .ref q36, .int 0, .int 0]))] ++ ([(q7, .inl (E.2.2 0, 20, .inl (fun _ => 0)))] ++ ([(q29, .inl (E.2.2 0, 4, .inl (fun _ => 0)))] ++ ([(q36, .inl (E.2.2 0, 4, .inl (fun _ => 0)))])))) H := hP
  have hD : va_D A ([(h0, .inr (8, [.ref q7, .int 0, .int 0, .int 0, .ref q29, .ref q36, .int 0, .int 0]))] ++ ([(q7, .inl (E.2.2 0, 20, .inl (fun _ => 0)))] ++ ([(q29, .inl (E.2.2 0, 4, .inl (fun _ => 0)))] ++ ([(q36, .inl (E.2.2 0, 4, .inl (fun _ => 0)))])))) := hD
  refine lv_aload_n hx hb dX8_init_46 rfl (lv_at hl 0 rfl) ?_
  refine lv_iconst (v := 0) hx hb dX8_init_47 rfl ?_
  refine va_put (D := zD E) (ci := 8) (v := .int 0) (ty := .int) (C := RX8) (T := TX8) (N := 8) hx hb hts uw_X8 tyX8 tyX8_ok nmX8 hown hK hP hD hS 0 rfl rfl 7 (by decide) (hts _ wm_2_88) (fun _ h9 => h9) rfl (by decide +kernel) rfl rfl (Nat.le_of_ble_eq_true rfl) dX8_init_48 (fun H locs hP hD hS => ?_)
  have hP : va_P (zD E) vwCl ([(h0, .inr (8, [.ref q7, .int 0, .int 0, .int 0, .ref q29, .ref q36, .int 0, .int 0]))] ++ ([(q7, .inl (E.2.2 0, 20, .inl (fun _ => 0)))] ++ ([(q29, .inl (E.2.2 0, 4, .inl (fun _ => 0)))] ++ ([(q36, .inl (E.2.2 0, 4, .inl (fun _ => 0)))])))) H := hP
  have hD : va_D A ([(h0, .inr (8, [.ref q7, .int 0, .int 0, .int 0, .ref q29, .ref q36, .int 0, .int 0]))] ++ ([(q7, .inl (E.2.2 0, 20, .inl (fun _ => 0)))] ++ ([(q29, .inl (E.2.2 0, 4, .inl (fun _ => 0)))] ++ ([(q36, .inl (E.2.2 0, 4, .inl (fun _ => 0)))])))) := hD
  have hw := hw (fun i => if i < 1 then h0 else if i < 2 then q7 else if i < 3 then q29 else if i < 4 then q36 else 0) rfl
  refine W.widen (k := 3) (n := 28) (by decide) (by decide) ?_
  exact z_vret (k := (fun q => k_X8 E q i_X8)) (fun i => if i < 1 then h0 else if i < 2 then q7 else if i < 3 then q29 else if i < 4 then q36 else 0) C0 hP hD hS hw dX8_init_51
abbrev i_X5 : S_X5 := (fun _ => 0, 0, 0, 0, (-1), 0, 0, 0, (-1))
abbrev r_X5_init : Room := { frames := 1, cells := 1, slots := 800, locals := 30 }
set_option maxHeartbeats 4000000 in
set_option maxRecDepth 100000 in
theorem c_X5_init (l : Launch) (E : zE) (Z : zZ) (hZ0 : zSt Z) (h0 sz : Nat) (post : (Nat → Nat) → Prop) (hw : ∀ q : Nat → Nat, q 0 = h0 → post q) : Met l yX5_init (zws yX5_init cX5_init 1 none) r_X5_init (va_Pc [.ref h0] (zPre Z E ([(h0, .inr (5, [.null, .int 0, .int 0, .int 0, .int 0, .int 0, .int 0, .int 0, .int 0]))]) sz)) (va_Qv post (zAt E (va_A ([(h0, .inr (5, [.null, .int 0, .int 0, .int 0, .int 0, .int 0, .int 0, .int 0, .int 0]))]) sz) (fun q => k_X5 E q i_X5)) (va_A ([(h0, .inr (5, [.null, .int 0, .int 0, .int 0, .int 0, .int 0, .int 0, .int 0, .int 0]))]) sz)) 1 800 (va_A ([(h0, .inr (5, [.null, .int 0, .int 0, .int 0, .int 0, .int 0, .int 0, .int 0, .int 0]))]) sz) := by
  refine z_ofW (Qf := fun A => va_Qv post (zAt E A (fun q => k_X5 E q i_X5)) A) (by decide) (Nat.le_of_ble_eq_true rfl) ?_
  intro p e s m args below meth c A ls C0 hA hK hZ hP hD hS hl
  obtain ⟨hx, hb, hml, hr, hown, hts, hlocks, hin⟩ := id C0
  have hown : s.vm.findClass RX5 = some m.cls := hown
  have hl : lv_has ls 1 [(0, .ref h0)] := hl
  refine lv_aload_n hx hb dX5_init_0 rfl (lv_at hl 0 rfl) ?_
  refine W.objInit hx hb hown (hts _ wm_2_3) (hts _ wm_1_31) (hts _ wm_1_32) rfl (by rw [hml]; exact hl.1) rfl dX5_init_1 (Nat.le_of_ble_eq_true rfl) (Nat.le_of_ble_eq_true rfl) ?_
  refine W.eq (g2 := F0 m 4 ls []) rfl ?_
  refine lv_aload_n hx hb dX5_init_4 rfl (lv_at hl 0 rfl) ?_
  refine lv_sipush (v := 800) hx hb dX5_init_5 rfl ?_
  refine z_new_byte (N' := 800) hx hb (hts _ wm_2_39) hK hP hD hS hA (by decide) rfl (by decide) (by decide) (by decide) dX5_init_8 (fun q8 H hP hD hS => ?_)
  have hP : va_P (zD E) vwCl ([(h0, .inr (5, [.null, .int 0, .int 0, .int 0, .int 0, .int 0, .int 0, .int 0, .int 0]))] ++ ([(q8, .inl (E.2.2 3, 800, .inl (fun _ => 0)))])) H := hP
  have hD : va_D A ([(h0, .inr (5, [.null, .int 0, .int 0, .int 0, .int 0, .int 0, .int 0, .int 0, .int 0]))] ++ ([(q8, .inl (E.2.2 3, 800, .inl (fun _ => 0)))])) := hD
  refine va_putF (D := zD E) (ci := 5) (v := .ref q8) (ty := .array .byte) (C := RX5) (T := TX5) (N := 9) hx hb hts uw_X5 tyX5 tyX5_ok nmX5 hown hK hP hD hS 0 rfl rfl 0 (by decide) (hts _ wm_2_4) (fun _ h9 => h9) rfl hin rfl (by decide +kernel) rfl rfl (Nat.le_of_ble_eq_true rfl) dX5_init_10 (fun H locs hP hD hS => ?_)
  have hP : va_P (zD E) vwCl ([(h0, .inr (5, [.ref q8, .int 0, .int 0, .int 0, .int 0, .int 0, .int 0, .int 0, .int 0]))] ++ ([(q8, .inl (E.2.2 3, 800, .inl (fun _ => 0)))])) H := hP
  have hD : va_D A ([(h0, .inr (5, [.ref q8, .int 0, .int 0, .int 0, .int 0, .int 0, .int 0, .int 0, .int 0]))] ++ ([(q8, .inl (E.2.2 3, 800, .inl (fun _ => 0)))])) := hD
  refine lv_aload_n hx hb dX5_init_13 rfl (lv_at hl 0 rfl) ?_
  refine lv_iconst (v := 0) hx hb dX5_init_14 rfl ?_
  refine va_put (D := zD E) (ci := 5) (v := .int 0) (ty := .int) (C := RX5) (T := TX5) (N := 9) hx hb hts uw_X5 tyX5 tyX5_ok nmX5 hown hK hP hD hS 0 rfl rfl 1 (by decide) (hts _ wm_2_5) (fun _ h9 => h9) rfl (by decide +kernel) rfl rfl (Nat.le_of_ble_eq_true rfl) dX5_init_15 (fun H locs hP hD hS => ?_)
  have hP : va_P (zD E) vwCl ([(h0, .inr (5, [.ref q8, .int 0, .int 0, .int 0, .int 0, .int 0, .int 0, .int 0, .int 0]))] ++ ([(q8, .inl (E.2.2 3, 800, .inl (fun _ => 0)))])) H := hP
  have hD : va_D A ([(h0, .inr (5, [.ref q8, .int 0, .int 0, .int 0, .int 0, .int 0, .int 0, .int 0, .int 0]))] ++ ([(q8, .inl (E.2.2 3, 800, .inl (fun _ => 0)))])) := hD
  refine lv_aload_n hx hb dX5_init_18 rfl (lv_at hl 0 rfl) ?_
  refine lv_iconst (v := 0) hx hb dX5_init_19 rfl ?_
  refine va_put (D := zD E) (ci := 5) (v := .int 0) (ty := .int) (C := RX5) (T := TX5) (N := 9) hx hb hts uw_X5 tyX5 tyX5_ok nmX5 hown hK hP hD hS 0 rfl rfl 2 (by decide) (hts _ wm_2_7) (fun _ h9 => h9) rfl (by decide +kernel) rfl rfl (Nat.le_of_ble_eq_true rfl) dX5_init_20 (fun H locs hP hD hS => ?_)
  have hP : va_P (zD E) vwCl ([(h0, .inr (5, [.ref q8, .int 0, .int 0, .int 0, .int 0, .int 0, .int 0, .int 0, .int 0]))] ++ ([(q8, .inl (E.2.2 3, 800, .inl (fun _ => 0)))])) H := hP
  have hD : va_D A ([(h0, .inr (5, [.ref q8, .int 0, .int 0, .int 0, .int 0, .int 0, .int 0, .int 0, .int 0]))] ++ ([(q8, .inl (E.2.2 3, 800, .inl (fun _ => 0)))])) := hD
  refine lv_aload_n hx hb dX5_init_23 rfl (lv_at hl 0 rfl) ?_
  refine lv_iconst (v := 0) hx hb dX5_init_24 rfl ?_
  refine va_put (D := zD E) (ci := 5) (v := .int 0) (ty := .int) (C := RX5) (T := TX5) (N := 9) hx hb hts uw_X5 tyX5 tyX5_ok nmX5 hown hK hP hD hS 0 rfl rfl 3 (by decide) (hts _ wm_2_8) (fun _ h9 => h9) rfl (by decide +kernel) rfl rfl (Nat.le_of_ble_eq_true rfl) dX5_init_25 (fun H locs hP hD hS => ?_)
  have hP : va_P (zD E) vwCl ([(h0, .inr (5, [.ref q8, .int 0, .int 0, .int 0, .int 0, .int 0, .int 0, .int 0, .int 0]))] ++ ([(q8, .inl (E.2.2 3, 800, .inl (fun _ => 0)))])) H := hP
  have hD : va_D A ([(h0, .inr (5, [.ref q8, .int 0, .int 0, .int 0, .int 0, .int 0, .int 0, .int 0, .int 0]))] ++ ([(q8, .inl (E.2.2 3, 800, .inl (fun _ => 0)))])) := hD
  refine lv_aload_n hx hb dX5_init_28 rfl (lv_at hl 0 rfl) ?_
  refine lv_iconst (v := (-1)) hx hb dX5_init_29 rfl ?_
  refine va_put (D := zD E) (ci := 5) (v := .int (-1)) (ty := .int) (C := RX5) (T := TX5) (N := 9) hx hb hts uw_X5 tyX5 tyX5_ok nmX5 hown hK hP hD hS 0 rfl rfl 4 (by decide) (hts _ wm_2_9) (fun _ h9 => h9) rfl (by decide +kernel) rfl rfl (Nat.le_of_ble_eq_true rfl) dX5_init_30 (fun H locs hP hD hS => ?_)
  have hP : va_P (zD E) vwCl ([(h0, .inr (5, [.ref q8, .int 0, .int 0, .int 0, .int (-1), .int 0, .int 0, .int 0, .int 0]))] ++ ([(q8, .inl (E.2.2 3, 800, .inl (fun _ => 0)))])) H := hP
  have hD : va_D A ([(h0, .inr (5, [.ref q8, .int 0, .int 0, .int 0, .int (-1), .int 0, .int 0, .int 0, .int 0]))] ++ ([(q8, .inl (E.2.2 3, 800, .inl (fun _ => 0)))])) := hD
  refine lv_aload_n hx hb dX5_init_33 rfl (lv_at hl 0 rfl) ?_
  refine lv_iconst (v := 0) hx hb dX5_init_34 rfl ?_
  refine va_put (D := zD E) (ci := 5) (v := .int 0) (ty := .int) (C := RX5) (T := TX5) (N := 9) hx hb hts uw_X5 tyX5 tyX5_ok nmX5 hown hK hP hD hS 0 rfl rfl 5 (by decide) (hts _ wm_2_12) (fun _ h9 => h9) rfl (by decide +kernel) rfl rfl (Nat.le_of_ble_eq_true rfl) dX5_init_35 (fun H locs hP hD hS => ?_)
  have hP : va_P (zD E) vwCl ([(h0, .inr (5, [.ref q8, .int 0, .int 0, .int 0, .int (-1), .int 0, .int 0, .int 0, .int 0]))] ++ ([(q8, .inl (E.2.2 3, 800, .inl (fun _ => 0)))])) H := hP
  have hD : va_D A ([(h0, .inr (5, [.ref q8, .int 0, .int 0, .int 0, .int (-1), .int 0, .int 0, .int 0, .int 0]))] ++ ([(q8, .inl (E.2.2 3, 800, .inl (fun _ => 0)))])) := hD
  refine lv_aload_n hx hb dX5_init_38 rfl (lv_at hl 0 rfl) ?_
  refine lv_iconst (v := 0) hx hb dX5_init_39 rfl ?_
  refine va_put (D := zD E) (ci := 5) (v := .int 0) (ty := .int) (C := RX5) (T := TX5) (N := 9) hx hb hts uw_X5 tyX5 tyX5_ok nmX5 hown hK hP hD hS 0 rfl rfl 6 (by decide) (hts _ wm_2_15) (fun _ h9 => h9) rfl (by decide +kernel) rfl rfl (Nat.le_of_ble_eq_true rfl) dX5_init_40 (fun H locs hP hD hS => ?_)
  have hP : va_P (zD E) vwCl ([(h0, .inr (5, [.ref q8, .int 0, .int 0, .int 0, .int (-1), .int 0, .int 0, .int 0, .int 0]))] ++ ([(q8, .inl (E.2.2 3, 800, .inl (fun _ => 0)))])) H := hP
  have hD : va_D A ([(h0, .inr (5, [.ref q8, .int 0, .int 0, .int 0, .int (-1), .int 0, .int 0, .int 0, .int 0]))] ++ ([(q8, .inl (E.2.2 3, 800, .inl (fun _ => 0)))])) := hD
  refine lv_aload_n hx hb dX5_init_43 rfl (lv_at hl 0 rfl) ?_
  refine lv_iconst (v := 0) hx hb dX5_init_44 rfl ?_
  refine va_put (D := zD E) (ci := 5) (v := .int 0) (ty := .int) (C := RX5) (T := TX5) (N := 9) hx hb hts uw_X5 tyX5 tyX5_ok nmX5 hown hK hP hD hS 0 rfl rfl 7 (by decide) (hts _ wm_2_16) (fun _ h9 => h9) rfl (by decide +kernel) rfl rfl (Nat.le_of_ble_eq_true rfl) dX5_init_45 (fun H locs hP hD hS => ?_)
  have hP : va_P (zD E) vwCl ([(h0, .inr (5, [.ref q8, .int 0, .int 0, .int 0, .int (-1), .int 0, .int 0, .int 0, .int 0]))] ++ ([(q8, .inl (E.2.2 3, 800, .inl (fun _ => 0)))])) H := hP
  have hD : va_D A ([(h0, .inr (5, [.ref q8, .int 0, .int 0, .int 0, .int (-1), .int 0, .int 0, .int 0, .int 0]))] ++ ([(q8, .inl (E.2.2 3, 800, .inl (fun _ => 0)))])) := hD
  refine lv_aload_n hx hb dX5_init_48 rfl (lv_at hl 0 rfl) ?_
  refine lv_iconst (v := (-1)) hx hb dX5_init_49 rfl ?_
  refine va_put (D := zD E) (ci := 5) (v := .int (-1)) (ty := .int) (C := RX5) (T := TX5) (N := 9) hx hb hts uw_X5 tyX5 tyX5_ok nmX5 hown hK hP hD hS 0 rfl rfl 8 (by decide) (hts _ wm_2_18) (fun _ h9 => h9) rfl (by decide +kernel) rfl rfl (Nat.le_of_ble_eq_true rfl) dX5_init_50 (fun H locs hP hD hS => ?_)
  have hP : va_P (zD E) vwCl ([(h0, .inr (5, [.ref q8, .int 0, .int 0, .int 0, .int (-1), .int 0, .int 0, .int 0, .int (-1)]))] ++ ([(q8, .inl (E.2.2 3, 800, .inl (fun _ => 0)))])) H := hP
  have hD : va_D A ([(h0, .inr (5, [.ref q8, .int 0, .int 0, .int 0, .int (-1), .int 0, .int 0, .int 0, .int (-1)]))] ++ ([(q8, .inl (E.2.2 3, 800, .inl (fun _ => 0)))])) := hD
  have hw := hw (fun i => if i < 1 then h0 else if i < 2 then q8 else 0) rfl
  refine W.widen (k := 1) (n := 800) (by decide) (by decide) ?_
  exact z_vret (k := (fun q => k_X5 E q i_X5)) (fun i => if i < 1 then h0 else if i < 2 then q8 else 0) C0 hP hD hS hw dX5_init_53
abbrev i_X3 : S_X3 := (0, 0)
abbrev r_X3_init : Room := { frames := 1, cells := 0, slots := 0, locals := 30 }
set_option maxHeartbeats 4000000 in
set_option maxRecDepth 100000 in
theorem c_X3_init (l : Launch) (E : zE) (Z : zZ) (hZ0 : zSt Z) (h0 sz : Nat) (post : (Nat → Nat) → Prop) (hw : ∀ q : Nat → Nat, q 0 = h0 → post q) : Met l yX3_init (zws yX3_init cX3_init 1 none) r_X3_init (va_Pc [.ref h0] (zPre Z E ([(h0, .inr (3, [.int 0, .int 0]))]) sz)) (va_Qv post (zAt E (va_A ([(h0, .inr (3, [.int 0, .int 0]))]) sz) (fun q => k_X3 E q i_X3)) (va_A ([(h0, .inr (3, [.int 0, .int 0]))]) sz)) 0 0 (va_A ([(h0, .inr (3, [.int 0, .int 0]))]) sz) := by
  refine z_ofW (Qf := fun A => va_Qv post (zAt E A (fun q => k_X3 E q i_X3)) A) (by decide) (Nat.le_of_ble_eq_true rfl) ?_
  intro p e s m args below meth c A ls C0 hA hK hZ hP hD hS hl
  obtain ⟨hx, hb, hml, hr, hown, hts, hlocks, hin⟩ := id C0
  have hown : s.vm.findClass RX3 = some m.cls := hown
  have hl : lv_has ls 1 [(0, .ref h0)] := hl
  refine lv_aload_n hx hb dX3_init_0 rfl (lv_at hl 0 rfl) ?_
  refine W.objInit hx hb hown (hts _ wm_2_45) (hts _ wm_1_31) (hts _ wm_1_32) rfl (by rw [hml]; exact hl.1) rfl dX3_init_1 (Nat.le_of_ble_eq_true rfl) (Nat.le_of_ble_eq_true rfl) ?_
  refine W.eq (g2 := F0 m 4 ls []) rfl ?_
  refine lv_aload_n hx hb dX3_init_4 rfl (lv_at hl 0 rfl) ?_
  refine lv_iconst (v := 0) hx hb dX3_init_5 rfl ?_
  refine va_put (D := zD E) (ci := 3) (v := .int 0) (ty := .int) (C := RX3) (T := TX3) (N := 2) hx hb hts uw_X3 tyX3 tyX3_ok nmX3 hown hK hP hD hS 0 rfl rfl 0 (by decide) (hts _ wm_2_46) (fun _ h9 => h9) rfl (by decide +kernel) rfl rfl (Nat.le_of_ble_eq_true rfl) dX3_init_6 (fun H locs hP hD hS => ?_)
  have hP : va_P (zD E) vwCl ([(h0, .inr (3, [.int 0, .int 0]))]) H := hP
  have hD : va_D A ([(h0, .inr (3, [.int 0, .int 0]))]) := hD
  refine lv_aload_n hx hb dX3_init_9 rfl (lv_at hl 0 rfl) ?_
  refine lv_iconst (v := 0) hx hb dX3_init_10 rfl ?_
  refine va_put (D := zD E) (ci := 3) (v := .int 0) (ty := .int) (C := RX3) (T := TX3) (N := 2) hx hb hts uw_X3 tyX3 tyX3_ok nmX3 hown hK hP hD hS 0 rfl rfl 1 (by decide) (hts _ wm_2_48) (fun _ h9 => h9) rfl (by decide +kernel) rfl rfl (Nat.le_of_ble_eq_true rfl) dX3_init_11 (fun H locs hP hD hS => ?_)
  have hP : va_P (zD E) vwCl ([(h0, .inr (3, [.int 0, .int 0]))]) H := hP
  have hD : va_D A ([(h0, .inr (3, [.int 0, .int 0]))]) := hD
  have hw := hw (fun i => if i < 1 then h0 else 0) rfl
  refine W.widen (k := 0) (n := 0) (by decide) (by decide) ?_
  exact z_vret (k := (fun q => k_X3 E q i_X3)) (fun i => if i < 1 then h0 else 0) C0 hP hD hS hw dX3_init_14
abbrev i_X2 : S_X2 := (i_X7, i_X0, i_X1)
abbrev r_X2_init : Room := { frames := 2, cells := 17, slots := 442, locals := 50 }
set_option maxHeartbeats 4000000 in
set_option maxRecDepth 100000 in
theorem c_X2_init (l : Launch) (E : zE) (Z : zZ) (hZ0 : zSt Z) (h0 sz : Nat) (post : (Nat → Nat) → Prop) (hw : ∀ q : Nat → Nat, q 0 = h0 → post q) : Met l yX2_init (zws yX2_init cX2_init 1 none) r_X2_init (va_Pc [.ref h0] (zPre Z E ([(h0, .inr (2, [.null, .null, .null]))]) sz)) (va_Qv post (zAt E (va_A ([(h0, .inr (2, [.null, .null, .null]))]) sz) (fun q => k_X2 E q i_X2)) (va_A ([(h0, .inr (2, [.null, .null, .null]))]) sz)) 17 442 (va_A ([(h0, .inr (2, [.null, .null, .null]))]) sz) := by
  refine z_ofW (Qf := fun A => va_Qv post (zAt E A (fun q => k_X2 E q i_X2)) A) (by decide) (Nat.le_of_ble_eq_true rfl) ?_
  intro p e s m args below meth c A ls C0 hA hK hZ hP hD hS hl
  obtain ⟨hx, hb, hml, hr, hown, hts, hlocks, hin⟩ := id C0
  have hown : s.vm.findClass RX2 = some m.cls := hown
  have hl : lv_has ls 1 [(0, .ref h0)] := hl
  refine lv_aload_n hx hb dX2_init_0 rfl (lv_at hl 0 rfl) ?_
  refine W.objInit hx hb hown (hts _ wm_1_38) (hts _ wm_1_31) (hts _ wm_1_32) rfl (by rw [hml]; exact hl.1) rfl dX2_init_1 (Nat.le_of_ble_eq_true rfl) (Nat.le_of_ble_eq_true rfl) ?_
  refine W.eq (g2 := F0 m 4 ls []) rfl ?_
  refine lv_aload_n hx hb dX2_init_4 rfl (lv_at hl 0 rfl) ?_
  refine va_new (D := zD E) (ci := 7) (fs := [.int 0, .int 0, .int 0, .int 0, .int 0, .int 0, .int 0, .int 0, .int 0, .int 0, .int 0, .null, .null, .long 0, .null, .null]) (C := RX7) (T := TX7) (N := 16) hx hb hts uw_X7 tyX7 tyX7_ok hown (hts _ wm_1_39) (hts _ wm_1_40) (hts _ wm_1_3) hK hP hD hS hA rfl (fun j hj => by rcases (show j = 0 ∨ j = 1 ∨ j = 2 ∨ j = 3 ∨ j = 4 ∨ j = 5 ∨ j = 6 ∨ j = 7 ∨ j = 8 ∨ j = 9 ∨ j = 10 ∨ j = 11 ∨ j = 12 ∨ j = 13 ∨ j = 14 ∨ j = 15 by omega) with rfl | rfl | rfl | rfl | rfl | rfl | rfl | rfl | rfl | rfl | rfl | rfl | rfl | rfl | rfl | rfl <;> rfl) (by decide) (by decide) dX2_init_5 (fun q5 H hP hD hS => ?_)
  have hP : va_P (zD E) vwCl ([(h0, .inr (2, [.null, .null, .null]))] ++ ([(q5, .inr (7, [.int 0, .int 0, .int 0, .int 0, .int 0, .int 0, .int 0, .int 0, .int 0, .int 0, .int 0, .null, .null, .long 0, .null, .null]))])) H := hP
  have hD : va_D A ([(h0, .inr (2, [.null, .null, .null]))] ++ ([(q5, .inr (7, [.int 0, .int 0, .int 0, .int 0, .int 0, .int 0, .int 0, .int 0, .int 0, .int 0, .int 0, .null, .null, .long 0, .null, .null]))])) := hD
  refine lv_dup hx hb dX2_init_8 rfl ?_
  refine z_kv (z_rJ (rest := [.ref q5, .ref h0]) hZ0 C0 hK hZ hA hP hD hS hl.1 (c_X7_init l E Z hZ0 q5 H.size (fun qa => qa 0 = q5) (fun _ h => h)) yv_X2_9 [1] rfl (by decide) ⟨by decide, by decide⟩ ⟨rfl, rfl⟩ rfl rfl (Nat.le_of_ble_eq_true rfl) ⟨by decide, by decide⟩ dX2_init_9) hP hD hS hA [1] [0] [0, 1, 2, 3, 4, 5] rfl (wr := [_]) rfl (by decide) (by decide) (fun u => [(h0, .inr (2, [.null, .null, .null]))] ++ (k_X7 E u i_X7)) (fun u => rfl) (by decide) (fun qa5 H locs hq hP hD hS => ?_)
  rw [← hq]
  have hP : va_P (zD E) vwCl ([(h0, .inr (2, [.null, .null, .null]))] ++ (k_X7 E qa5 i_X7)) H := hP
  have hD : va_D A ([(h0, .inr (2, [.null, .null, .null]))] ++ (k_X7 E qa5 i_X7)) := hD
  refine va_putF (D := zD E) (ci := 2) (v := .ref (qa5 0)) (ty := .object "SupplyContract$Terms") (C := RX2) (T := TX2) (N := 3) hx hb hts uw_X2 tyX2 tyX2_ok nmX2 hown hK hP hD hS 0 rfl rfl 0 (by decide) (hts _ wm_1_199) (fun _ h9 => h9) rfl hin rfl (by decide +kernel) rfl rfl (Nat.le_of_ble_eq_true rfl) dX2_init_12 (fun H locs hP hD hS => ?_)
  have hP : va_P (zD E) vwCl ([(h0, .inr (2, [.ref (qa5 0), .null, .null]))] ++ (k_X7 E qa5 i_X7)) H := hP
  have hD : va_D A ([(h0, .inr (2, [.ref (qa5 0), .null, .null]))] ++ (k_X7 E qa5 i_X7)) := hD
  refine lv_aload_n hx hb dX2_init_15 rfl (lv_at hl 0 rfl) ?_
  refine va_new (D := zD E) (ci := 0) (fs := [.int 0, .null, .null, .null, .null, .null, .null]) (C := RX0) (T := TX0) (N := 7) hx hb hts uw_X0 tyX0 tyX0_ok hown (hts _ wm_1_122) (hts _ wm_1_123) (hts _ wm_1_4) hK hP hD hS hA rfl (fun j hj => by rcases (show j = 0 ∨ j = 1 ∨ j = 2 ∨ j = 3 ∨ j = 4 ∨ j = 5 ∨ j = 6 by omega) with rfl | rfl | rfl | rfl | rfl | rfl | rfl <;> rfl) (by decide) (by decide) dX2_init_16 (fun q16 H hP hD hS => ?_)
  have hP : va_P (zD E) vwCl ([(h0, .inr (2, [.ref (qa5 0), .null, .null]))] ++ (k_X7 E qa5 i_X7 ++ ([(q16, .inr (0, [.int 0, .null, .null, .null, .null, .null, .null]))]))) H := hP
  have hD : va_D A ([(h0, .inr (2, [.ref (qa5 0), .null, .null]))] ++ (k_X7 E qa5 i_X7 ++ ([(q16, .inr (0, [.int 0, .null, .null, .null, .null, .null, .null]))]))) := hD
  refine lv_dup hx hb dX2_init_19 rfl ?_
  refine z_kv (z_rJ (rest := [.ref q16, .ref h0]) hZ0 C0 hK hZ hA hP hD hS hl.1 (c_X0_init l E Z hZ0 q16 H.size (fun qa => qa 0 = q16) (fun _ h => h)) yv_X2_18 [6] rfl (by decide) ⟨by decide, by decide⟩ ⟨rfl, rfl⟩ rfl rfl (Nat.le_of_ble_eq_true rfl) ⟨by decide, by decide⟩ dX2_init_20) hP hD hS hA [6] [0, 1, 2, 3, 4, 5] [0, 1, 2, 3, 4, 5, 6, 7, 8, 9, 10, 11, 12] rfl (wr := [_, _, _, _, _, _]) rfl (by decide) (by decide) (fun u => [(h0, .inr (2, [.ref (qa5 0), .null, .null]))] ++ (k_X7 E qa5 i_X7 ++ (k_X0 E u i_X0))) (fun u => rfl) (by decide) (fun qa16 H locs hq hP hD hS => ?_)
  rw [← hq]
  have hP : va_P (zD E) vwCl ([(h0, .inr (2, [.ref (qa5 0), .null, .null]))] ++ (k_X7 E qa5 i_X7 ++ (k_X0 E qa16 i_X0))) H := hP
  have hD : va_D A ([(h0, .inr (2, [.ref (qa5 0), .null, .null]))] ++ (k_X7 E qa5 i_X7 ++ (k_X0 E qa16 i_X0))) := hD
  refine va_putF (D := zD E) (ci := 2) (v := .ref (qa16 0)) (ty := .object "SupplyContract$Accounts") (C := RX2) (T := TX2) (N := 3) hx hb hts uw_X2 tyX2 tyX2_ok nmX2 hown hK hP hD hS 0 rfl rfl 1 (by decide) (hts _ wm_1_202) (fun _ h9 => h9) rfl hin rfl (by decide +kernel) rfl rfl (Nat.le_of_ble_eq_true rfl) dX2_init_23 (fun H locs hP hD hS => ?_)
  have hP : va_P (zD E) vwCl ([(h0, .inr (2, [.ref (qa5 0), .ref (qa16 0), .null]))] ++ (k_X7 E qa5 i_X7 ++ (k_X0 E qa16 i_X0))) H := hP
  have hD : va_D A ([(h0, .inr (2, [.ref (qa5 0), .ref (qa16 0), .null]))] ++ (k_X7 E qa5 i_X7 ++ (k_X0 E qa16 i_X0))) := hD
  refine lv_aload_n hx hb dX2_init_26 rfl (lv_at hl 0 rfl) ?_
  refine va_new (D := zD E) (ci := 1) (fs := [.int 0, .int 0, .int 0, .null, .null, .null, .null]) (C := RX1) (T := TX1) (N := 7) hx hb hts uw_X1 tyX1 tyX1_ok hown (hts _ wm_1_160) (hts _ wm_1_161) (hts _ wm_1_5) hK hP hD hS hA rfl (fun j hj => by rcases (show j = 0 ∨ j = 1 ∨ j = 2 ∨ j = 3 ∨ j = 4 ∨ j = 5 ∨ j = 6 by omega) with rfl | rfl | rfl | rfl | rfl | rfl | rfl <;> rfl) (by decide) (by decide) dX2_init_27 (fun q27 H hP hD hS => ?_)
  have hP : va_P (zD E) vwCl ([(h0, .inr (2, [.ref (qa5 0), .ref (qa16 0), .null]))] ++ (k_X7 E qa5 i_X7 ++ (k_X0 E qa16 i_X0 ++ ([(q27, .inr (1, [.int 0, .int 0, .int 0, .null, .null, .null, .null]))])))) H := hP
  have hD : va_D A ([(h0, .inr (2, [.ref (qa5 0), .ref (qa16 0), .null]))] ++ (k_X7 E qa5 i_X7 ++ (k_X0 E qa16 i_X0 ++ ([(q27, .inr (1, [.int 0, .int 0, .int 0, .null, .null, .null, .null]))])))) := hD
  refine lv_dup hx hb dX2_init_30 rfl ?_
  refine z_kv (z_rJ (rest := [.ref q27, .ref h0]) hZ0 C0 hK hZ hA hP hD hS hl.1 (c_X1_init l E Z hZ0 q27 H.size (fun qa => qa 0 = q27) (fun _ h => h)) yv_X2_25 [13] rfl (by decide) ⟨by decide, by decide⟩ ⟨rfl, rfl⟩ rfl rfl (Nat.le_of_ble_eq_true rfl) ⟨by decide, by decide⟩ dX2_init_31) hP hD hS hA [13] [0, 1, 2, 3, 4, 5, 6, 7, 8, 9, 10, 11, 12] [0, 1, 2, 3, 4, 5, 6, 7, 8, 9, 10, 11, 12, 13, 14, 15, 16, 17] rfl (wr := [_, _, _, _, _, _, _, _, _, _, _, _, _]) rfl (by decide) (by decide) (fun u => [(h0, .inr (2, [.ref (qa5 0), .ref (qa16 0), .null]))] ++ (k_X7 E qa5 i_X7 ++ (k_X0 E qa16 i_X0 ++ (k_X1 E u i_X1)))) (fun u => rfl) (by decide) (fun qa27 H locs hq hP hD hS => ?_)
  rw [← hq]
  have hP : va_P (zD E) vwCl ([(h0, .inr (2, [.ref (qa5 0), .ref (qa16 0), .null]))] ++ (k_X7 E qa5 i_X7 ++ (k_X0 E qa16 i_X0 ++ (k_X1 E qa27 i_X1)))) H := hP
  have hD : va_D A ([(h0, .inr (2, [.ref (qa5 0), .ref (qa16 0), .null]))] ++ (k_X7 E qa5 i_X7 ++ (k_X0 E qa16 i_X0 ++ (k_X1 E qa27 i_X1)))) := hD
  refine va_putF (D := zD E) (ci := 2) (v := .ref (qa27 0)) (ty := .object "SupplyContract$Breaches") (C := RX2) (T := TX2) (N := 3) hx hb hts uw_X2 tyX2 tyX2_ok nmX2 hown hK hP hD hS 0 rfl rfl 2 (by decide) (hts _ wm_1_205) (fun _ h9 => h9) rfl hin rfl (by decide +kernel) rfl rfl (Nat.le_of_ble_eq_true rfl) dX2_init_34 (fun H locs hP hD hS => ?_)
  have hP : va_P (zD E) vwCl ([(h0, .inr (2, [.ref (qa5 0), .ref (qa16 0), .ref (qa27 0)]))] ++ (k_X7 E qa5 i_X7 ++ (k_X0 E qa16 i_X0 ++ (k_X1 E qa27 i_X1)))) H := hP
  have hD : va_D A ([(h0, .inr (2, [.ref (qa5 0), .ref (qa16 0), .ref (qa27 0)]))] ++ (k_X7 E qa5 i_X7 ++ (k_X0 E qa16 i_X0 ++ (k_X1 E qa27 i_X1)))) := hD
  have hw := hw (fun i => if i < 1 then h0 else if i < 6 then qa5 (i - 1) else if i < 13 then qa16 (i - 6) else if i < 18 then qa27 (i - 13) else 0) rfl
  refine W.widen (k := 17) (n := 442) (by decide) (by decide) ?_
  exact z_vret (k := (fun q => k_X2 E q i_X2)) (fun i => if i < 1 then h0 else if i < 6 then qa5 (i - 1) else if i < 13 then qa16 (i - 6) else if i < 18 then qa27 (i - 13) else 0) C0 hP hD hS hw dX2_init_37
abbrev r_X4_init : Room := { frames := 1, cells := 1, slots := 8, locals := 30 }
set_option maxHeartbeats 4000000 in
set_option maxRecDepth 100000 in
theorem c_X4_init (l : Launch) (E : zE) (Z : zZ) (hZ0 : zSt Z) (h0 sz : Nat) (post : (Nat → Nat) → Prop) (hw : ∀ q : Nat → Nat, q 0 = h0 → post q) : Met l yX4_init (zws yX4_init cX4_init 1 none) r_X4_init (va_Pc [.ref h0] (zPre Z E ([(h0, .inr (4, [.null, .int 0, .int 0]))]) sz)) (va_Qv post (zAt E (va_A ([(h0, .inr (4, [.null, .int 0, .int 0]))]) sz) (fun q => k_X4 E q (0, 0) ++ k_H E (fun k => q (k + 1)) (fun _ => none))) (va_A ([(h0, .inr (4, [.null, .int 0, .int 0]))]) sz)) 1 8 (va_A ([(h0, .inr (4, [.null, .int 0, .int 0]))]) sz) := by
  refine z_ofW (Qf := fun A => va_Qv post (zAt E A (fun q => k_X4 E q (0, 0) ++ k_H E (fun k => q (k + 1)) (fun _ => none))) A) (by decide) (Nat.le_of_ble_eq_true rfl) ?_
  intro p e s m args below meth c A ls C0 hA hK hZ hP hD hS hl
  obtain ⟨hx, hb, hml, hr, hown, hts, hlocks, hin⟩ := id C0
  have hown : s.vm.findClass RX4 = some m.cls := hown
  have hl : lv_has ls 1 [(0, .ref h0)] := hl
  refine lv_aload_n hx hb dX4_init_0 rfl (lv_at hl 0 rfl) ?_
  refine W.objInit hx hb hown (hts _ wm_1_219) (hts _ wm_1_31) (hts _ wm_1_32) rfl (by rw [hml]; exact hl.1) rfl dX4_init_1 (Nat.le_of_ble_eq_true rfl) (Nat.le_of_ble_eq_true rfl) ?_
  refine W.eq (g2 := F0 m 4 ls []) rfl ?_
  refine lv_aload_n hx hb dX4_init_4 rfl (lv_at hl 0 rfl) ?_
  refine lv_bipush (v := 8) hx hb dX4_init_5 rfl ?_
  refine z_newC (N' := 8) hx hb hown (hts _ wm_1_220) (hts _ wm_1_221) hK hP hD hS hA (by decide) rfl (by decide) (by decide) (by decide) dX4_init_7 (fun q7 H hP hD hS => ?_)
  have hP : va_P (zD E) vwCl ([(h0, .inr (4, [.null, .int 0, .int 0]))] ++ ([(q7, .inl (E.2.2 4, 8, .inr (.inr (.inr (.inr (fun _ => none))))))])) H := hP
  have hD : va_D A ([(h0, .inr (4, [.null, .int 0, .int 0]))] ++ ([(q7, .inl (E.2.2 4, 8, .inr (.inr (.inr (.inr (fun _ => none))))))])) := hD
  refine va_putF (D := zD E) (ci := 4) (v := .ref q7) (ty := .array (.object "SupplyContract$Contract")) (C := RX4) (T := TX4) (N := 3) hx hb hts uw_X4 tyX4 tyX4_ok nmX4 hown hK hP hD hS 0 rfl rfl 0 (by decide) (hts _ wm_1_222) (fun _ h9 => h9) rfl hin rfl (by decide +kernel) rfl rfl (Nat.le_of_ble_eq_true rfl) dX4_init_10 (fun H locs hP hD hS => ?_)
  have hP : va_P (zD E) vwCl ([(h0, .inr (4, [.ref q7, .int 0, .int 0]))] ++ ([(q7, .inl (E.2.2 4, 8, .inr (.inr (.inr (.inr (fun _ => none))))))])) H := hP
  have hD : va_D A ([(h0, .inr (4, [.ref q7, .int 0, .int 0]))] ++ ([(q7, .inl (E.2.2 4, 8, .inr (.inr (.inr (.inr (fun _ => none))))))])) := hD
  refine lv_aload_n hx hb dX4_init_13 rfl (lv_at hl 0 rfl) ?_
  refine lv_iconst (v := 0) hx hb dX4_init_14 rfl ?_
  refine va_put (D := zD E) (ci := 4) (v := .int 0) (ty := .int) (C := RX4) (T := TX4) (N := 3) hx hb hts uw_X4 tyX4 tyX4_ok nmX4 hown hK hP hD hS 0 rfl rfl 1 (by decide) (hts _ wm_1_223) (fun _ h9 => h9) rfl (by decide +kernel) rfl rfl (Nat.le_of_ble_eq_true rfl) dX4_init_15 (fun H locs hP hD hS => ?_)
  have hP : va_P (zD E) vwCl ([(h0, .inr (4, [.ref q7, .int 0, .int 0]))] ++ ([(q7, .inl (E.2.2 4, 8, .inr (.inr (.inr (.inr (fun _ => none))))))])) H := hP
  have hD : va_D A ([(h0, .inr (4, [.ref q7, .int 0, .int 0]))] ++ ([(q7, .inl (E.2.2 4, 8, .inr (.inr (.inr (.inr (fun _ => none))))))])) := hD
  refine lv_aload_n hx hb dX4_init_18 rfl (lv_at hl 0 rfl) ?_
  refine lv_iconst (v := 0) hx hb dX4_init_19 rfl ?_
  refine va_put (D := zD E) (ci := 4) (v := .int 0) (ty := .int) (C := RX4) (T := TX4) (N := 3) hx hb hts uw_X4 tyX4 tyX4_ok nmX4 hown hK hP hD hS 0 rfl rfl 2 (by decide) (hts _ wm_1_224) (fun _ h9 => h9) rfl (by decide +kernel) rfl rfl (Nat.le_of_ble_eq_true rfl) dX4_init_20 (fun H locs hP hD hS => ?_)
  have hP : va_P (zD E) vwCl ([(h0, .inr (4, [.ref q7, .int 0, .int 0]))] ++ ([(q7, .inl (E.2.2 4, 8, .inr (.inr (.inr (.inr (fun _ => none))))))])) H := hP
  have hD : va_D A ([(h0, .inr (4, [.ref q7, .int 0, .int 0]))] ++ ([(q7, .inl (E.2.2 4, 8, .inr (.inr (.inr (.inr (fun _ => none))))))])) := hD
  have hw := hw (fun i => if i < 1 then h0 else if i < 2 then q7 else 0) rfl
  refine W.widen (k := 1) (n := 8) (by decide) (by decide) ?_
  exact z_vret (k := (fun q => k_X4 E q (0, 0) ++ k_H E (fun k => q (k + 1)) (fun _ => none))) (fun i => if i < 1 then h0 else if i < 2 then q7 else 0) C0 hP hD hS hw dX4_init_23
abbrev r_X6_init : Room := { frames := 3, cells := 21, slots := 1256, locals := 70 }
set_option maxHeartbeats 4000000 in
set_option maxRecDepth 100000 in
theorem c_X6_init (l : Launch) (E : zE) (Z : zZ) (hZ0 : zSt Z) (h0 sz : Nat) (post : (Nat → Nat) → Prop) (hw : ∀ q : Nat → Nat, q 0 = h0 → post q) : Met l yX6_init (zws yX6_init cX6_init 1 none) r_X6_init (va_Pc [.ref h0] (zPre Z E ([(h0, .inr (6, [.null, .null, .null, .int 0, .int 0]))]) sz)) (va_Qv post (zAt E (va_A ([(h0, .inr (6, [.null, .null, .null, .int 0, .int 0]))]) sz) (fun q => k_X6 E q (0, 0) ++ (k_X5 E (fun k => q (k + 1)) i_X5 ++ (k_X3 E (fun k => q (k + 3)) i_X3 ++ k_X2 E (fun k => q (k + 4)) i_X2)))) (va_A ([(h0, .inr (6, [.null, .null, .null, .int 0, .int 0]))]) sz)) 21 1256 (va_A ([(h0, .inr (6, [.null, .null, .null, .int 0, .int 0]))]) sz) := by
  refine z_ofW (Qf := fun A => va_Qv post (zAt E A (fun q => k_X6 E q (0, 0) ++ (k_X5 E (fun k => q (k + 1)) i_X5 ++ (k_X3 E (fun k => q (k + 3)) i_X3 ++ k_X2 E (fun k => q (k + 4)) i_X2)))) A) (by decide) (Nat.le_of_ble_eq_true rfl) ?_
  intro p e s m args below meth c A ls C0 hA hK hZ hP hD hS hl
  obtain ⟨hx, hb, hml, hr, hown, hts, hlocks, hin⟩ := id C0
  have hown : s.vm.findClass RX6 = some m.cls := hown
  have hl : lv_has ls 1 [(0, .ref h0)] := hl
  refine lv_aload_n hx hb dX6_init_0 rfl (lv_at hl 0 rfl) ?_
  refine W.objInit hx hb hown (hts _ wm_1_237) (hts _ wm_1_31) (hts _ wm_1_32) rfl (by rw [hml]; exact hl.1) rfl dX6_init_1 (Nat.le_of_ble_eq_true rfl) (Nat.le_of_ble_eq_true rfl) ?_
  refine W.eq (g2 := F0 m 4 ls []) rfl ?_
  refine lv_aload_n hx hb dX6_init_4 rfl (lv_at hl 0 rfl) ?_
  refine va_new (D := zD E) (ci := 5) (fs := [.null, .int 0, .int 0, .int 0, .int 0, .int 0, .int 0, .int 0, .int 0]) (C := RX5) (T := TX5) (N := 9) hx hb hts uw_X5 tyX5 tyX5_ok hown (hts _ wm_1_238) (hts _ wm_1_239) (hts _ wm_1_8) hK hP hD hS hA rfl (fun j hj => by rcases (show j = 0 ∨ j = 1 ∨ j = 2 ∨ j = 3 ∨ j = 4 ∨ j = 5 ∨ j = 6 ∨ j = 7 ∨ j = 8 by omega) with rfl | rfl | rfl | rfl | rfl | rfl | rfl | rfl | rfl <;> rfl) (by decide) (by decide) dX6_init_5 (fun q5 H hP hD hS => ?_)
  have hP : va_P (zD E) vwCl ([(h0, .inr (6, [.null, .null, .null, .int 0, .int 0]))] ++ ([(q5, .inr (5, [.null, .int 0, .int 0, .int 0, .int 0, .int 0, .int 0, .int 0, .int 0]))])) H := hP
  have hD : va_D A ([(h0, .inr (6, [.null, .null, .null, .int 0, .int 0]))] ++ ([(q5, .inr (5, [.null, .int 0, .int 0, .int 0, .int 0, .int 0, .int 0, .int 0, .int 0]))])) := hD
  refine lv_dup hx hb dX6_init_8 rfl ?_
  refine z_kv (z_rJ (rest := [.ref q5, .ref h0]) hZ0 C0 hK hZ hA hP hD hS hl.1 (c_X5_init l E Z hZ0 q5 H.size (fun qa => qa 0 = q5) (fun _ h => h)) yv_X6_11 [1] rfl (by decide) ⟨by decide, by decide⟩ ⟨rfl, rfl⟩ rfl rfl (Nat.le_of_ble_eq_true rfl) ⟨by decide, by decide⟩ dX6_init_9) hP hD hS hA [1] [0] [0, 1, 2] rfl (wr := [_]) rfl (by decide) (by decide) (fun u => [(h0, .inr (6, [.null, .null, .null, .int 0, .int 0]))] ++ (k_X5 E u i_X5)) (fun u => rfl) (by decide) (fun qa5 H locs hq hP hD hS => ?_)
  rw [← hq]
  have hP : va_P (zD E) vwCl ([(h0, .inr (6, [.null, .null, .null, .int 0, .int 0]))] ++ (k_X5 E qa5 i_X5)) H := hP
  have hD : va_D A ([(h0, .inr (6, [.null, .null, .null, .int 0, .int 0]))] ++ (k_X5 E qa5 i_X5)) := hD
  refine va_putF (D := zD E) (ci := 6) (v := .ref (qa5 0)) (ty := .object "SupplyContract$InputText") (C := RX6) (T := TX6) (N := 5) hx hb hts uw_X6 tyX6 tyX6_ok nmX6 hown hK hP hD hS 0 rfl rfl 0 (by decide) (hts _ wm_2_57) (fun _ h9 => h9) rfl hin rfl (by decide +kernel) rfl rfl (Nat.le_of_ble_eq_true rfl) dX6_init_12 (fun H locs hP hD hS => ?_)
  have hP : va_P (zD E) vwCl ([(h0, .inr (6, [.ref (qa5 0), .null, .null, .int 0, .int 0]))] ++ (k_X5 E qa5 i_X5)) H := hP
  have hD : va_D A ([(h0, .inr (6, [.ref (qa5 0), .null, .null, .int 0, .int 0]))] ++ (k_X5 E qa5 i_X5)) := hD
  refine lv_aload_n hx hb dX6_init_15 rfl (lv_at hl 0 rfl) ?_
  refine va_new (D := zD E) (ci := 3) (fs := [.int 0, .int 0]) (C := RX3) (T := TX3) (N := 2) hx hb hts uw_X3 tyX3 tyX3_ok hown (hts _ wm_2_40) (hts _ wm_2_41) (hts _ wm_1_9) hK hP hD hS hA rfl (fun j hj => by rcases (show j = 0 ∨ j = 1 by omega) with rfl | rfl <;> rfl) (by decide) (by decide) dX6_init_16 (fun q16 H hP hD hS => ?_)
  have hP : va_P (zD E) vwCl ([(h0, .inr (6, [.ref (qa5 0), .null, .null, .int 0, .int 0]))] ++ (k_X5 E qa5 i_X5 ++ ([(q16, .inr (3, [.int 0, .int 0]))]))) H := hP
  have hD : va_D A ([(h0, .inr (6, [.ref (qa5 0), .null, .null, .int 0, .int 0]))] ++ (k_X5 E qa5 i_X5 ++ ([(q16, .inr (3, [.int 0, .int 0]))]))) := hD
  refine lv_dup hx hb dX6_init_19 rfl ?_
  refine z_kv (z_rJ (rest := [.ref q16, .ref h0]) hZ0 C0 hK hZ hA hP hD hS hl.1 (c_X3_init l E Z hZ0 q16 H.size (fun qa => qa 0 = q16) (fun _ h => h)) yv_X6_20 [3] rfl (by decide) ⟨by decide, by decide⟩ ⟨rfl, rfl⟩ rfl rfl (Nat.le_of_ble_eq_true rfl) ⟨by decide, by decide⟩ dX6_init_20) hP hD hS hA [3] [0, 1, 2] [0, 1, 2, 3] rfl (wr := [_, _, _]) rfl (by decide) (by decide) (fun u => [(h0, .inr (6, [.ref (qa5 0), .null, .null, .int 0, .int 0]))] ++ (k_X5 E qa5 i_X5 ++ (k_X3 E u i_X3))) (fun u => rfl) (by decide) (fun qa16 H locs hq hP hD hS => ?_)
  rw [← hq]
  have hP : va_P (zD E) vwCl ([(h0, .inr (6, [.ref (qa5 0), .null, .null, .int 0, .int 0]))] ++ (k_X5 E qa5 i_X5 ++ (k_X3 E qa16 i_X3))) H := hP
  have hD : va_D A ([(h0, .inr (6, [.ref (qa5 0), .null, .null, .int 0, .int 0]))] ++ (k_X5 E qa5 i_X5 ++ (k_X3 E qa16 i_X3))) := hD
  refine va_putF (D := zD E) (ci := 6) (v := .ref (qa16 0)) (ty := .object "SupplyContract$DemandReader") (C := RX6) (T := TX6) (N := 5) hx hb hts uw_X6 tyX6 tyX6_ok nmX6 hown hK hP hD hS 0 rfl rfl 1 (by decide) (hts _ wm_2_59) (fun _ h9 => h9) rfl hin rfl (by decide +kernel) rfl rfl (Nat.le_of_ble_eq_true rfl) dX6_init_23 (fun H locs hP hD hS => ?_)
  have hP : va_P (zD E) vwCl ([(h0, .inr (6, [.ref (qa5 0), .ref (qa16 0), .null, .int 0, .int 0]))] ++ (k_X5 E qa5 i_X5 ++ (k_X3 E qa16 i_X3))) H := hP
  have hD : va_D A ([(h0, .inr (6, [.ref (qa5 0), .ref (qa16 0), .null, .int 0, .int 0]))] ++ (k_X5 E qa5 i_X5 ++ (k_X3 E qa16 i_X3))) := hD
  refine lv_aload_n hx hb dX6_init_26 rfl (lv_at hl 0 rfl) ?_
  refine va_new (D := zD E) (ci := 2) (fs := [.null, .null, .null]) (C := RX2) (T := TX2) (N := 3) hx hb hts uw_X2 tyX2 tyX2_ok hown (hts _ wm_2_55) (hts _ wm_1_34) (hts _ wm_1_2) hK hP hD hS hA rfl (fun j hj => by rcases (show j = 0 ∨ j = 1 ∨ j = 2 by omega) with rfl | rfl | rfl <;> rfl) (by decide) (by decide) dX6_init_27 (fun q27 H hP hD hS => ?_)
  have hP : va_P (zD E) vwCl ([(h0, .inr (6, [.ref (qa5 0), .ref (qa16 0), .null, .int 0, .int 0]))] ++ (k_X5 E qa5 i_X5 ++ (k_X3 E qa16 i_X3 ++ ([(q27, .inr (2, [.null, .null, .null]))])))) H := hP
  have hD : va_D A ([(h0, .inr (6, [.ref (qa5 0), .ref (qa16 0), .null, .int 0, .int 0]))] ++ (k_X5 E qa5 i_X5 ++ (k_X3 E qa16 i_X3 ++ ([(q27, .inr (2, [.null, .null, .null]))])))) := hD
  refine lv_dup hx hb dX6_init_30 rfl ?_
  refine z_kv (z_rJ (rest := [.ref q27, .ref h0]) hZ0 C0 hK hZ hA hP hD hS hl.1 (c_X2_init l E Z hZ0 q27 H.size (fun qa => qa 0 = q27) (fun _ h => h)) yv_X6_27 [4] rfl (by decide) ⟨by decide, by decide⟩ ⟨rfl, rfl⟩ rfl rfl (Nat.le_of_ble_eq_true rfl) ⟨by decide, by decide⟩ dX6_init_31) hP hD hS hA [4] [0, 1, 2, 3] [0, 1, 2, 3, 4, 5, 6, 7, 8, 9, 10, 11, 12, 13, 14, 15, 16, 17, 18, 19, 20, 21] rfl (wr := [_, _, _, _]) rfl (by decide) (by decide) (fun u => [(h0, .inr (6, [.ref (qa5 0), .ref (qa16 0), .null, .int 0, .int 0]))] ++ (k_X5 E qa5 i_X5 ++ (k_X3 E qa16 i_X3 ++ (k_X2 E u i_X2)))) (fun u => rfl) (by decide) (fun qa27 H locs hq hP hD hS => ?_)
  rw [← hq]
  have hP : va_P (zD E) vwCl ([(h0, .inr (6, [.ref (qa5 0), .ref (qa16 0), .null, .int 0, .int 0]))] ++ (k_X5 E qa5 i_X5 ++ (k_X3 E qa16 i_X3 ++ (k_X2 E qa27 i_X2)))) H := hP
  have hD : va_D A ([(h0, .inr (6, [.ref (qa5 0), .ref (qa16 0), .null, .int 0, .int 0]))] ++ (k_X5 E qa5 i_X5 ++ (k_X3 E qa16 i_X3 ++ (k_X2 E qa27 i_X2)))) := hD
  refine va_putF (D := zD E) (ci := 6) (v := .ref (qa27 0)) (ty := .object "SupplyContract$Contract") (C := RX6) (T := TX6) (N := 5) hx hb hts uw_X6 tyX6 tyX6_ok nmX6 hown hK hP hD hS 0 rfl rfl 2 (by decide) (hts _ wm_2_60) (fun _ h9 => h9) rfl hin rfl (by decide +kernel) rfl rfl (Nat.le_of_ble_eq_true rfl) dX6_init_34 (fun H locs hP hD hS => ?_)
  have hP : va_P (zD E) vwCl ([(h0, .inr (6, [.ref (qa5 0), .ref (qa16 0), .ref (qa27 0), .int 0, .int 0]))] ++ (k_X5 E qa5 i_X5 ++ (k_X3 E qa16 i_X3 ++ (k_X2 E qa27 i_X2)))) H := hP
  have hD : va_D A ([(h0, .inr (6, [.ref (qa5 0), .ref (qa16 0), .ref (qa27 0), .int 0, .int 0]))] ++ (k_X5 E qa5 i_X5 ++ (k_X3 E qa16 i_X3 ++ (k_X2 E qa27 i_X2)))) := hD
  refine lv_aload_n hx hb dX6_init_37 rfl (lv_at hl 0 rfl) ?_
  refine lv_iconst (v := 0) hx hb dX6_init_38 rfl ?_
  refine va_put (D := zD E) (ci := 6) (v := .int 0) (ty := .int) (C := RX6) (T := TX6) (N := 5) hx hb hts uw_X6 tyX6 tyX6_ok nmX6 hown hK hP hD hS 0 rfl rfl 3 (by decide) (hts _ wm_2_62) (fun _ h9 => h9) rfl (by decide +kernel) rfl rfl (Nat.le_of_ble_eq_true rfl) dX6_init_39 (fun H locs hP hD hS => ?_)
  have hP : va_P (zD E) vwCl ([(h0, .inr (6, [.ref (qa5 0), .ref (qa16 0), .ref (qa27 0), .int 0, .int 0]))] ++ (k_X5 E qa5 i_X5 ++ (k_X3 E qa16 i_X3 ++ (k_X2 E qa27 i_X2)))) H := hP
  have hD : va_D A ([(h0, .inr (6, [.ref (qa5 0), .ref (qa16 0), .ref (qa27 0), .int 0, .int 0]))] ++ (k_X5 E qa5 i_X5 ++ (k_X3 E qa16 i_X3 ++ (k_X2 E qa27 i_X2)))) := hD
  refine lv_aload_n hx hb dX6_init_42 rfl (lv_at hl 0 rfl) ?_
  refine lv_iconst (v := 0) hx hb dX6_init_43 rfl ?_
  refine va_put (D := zD E) (ci := 6) (v := .int 0) (ty := .int) (C := RX6) (T := TX6) (N := 5) hx hb hts uw_X6 tyX6 tyX6_ok nmX6 hown hK hP hD hS 0 rfl rfl 4 (by decide) (hts _ wm_2_63) (fun _ h9 => h9) rfl (by decide +kernel) rfl rfl (Nat.le_of_ble_eq_true rfl) dX6_init_44 (fun H locs hP hD hS => ?_)
  have hP : va_P (zD E) vwCl ([(h0, .inr (6, [.ref (qa5 0), .ref (qa16 0), .ref (qa27 0), .int 0, .int 0]))] ++ (k_X5 E qa5 i_X5 ++ (k_X3 E qa16 i_X3 ++ (k_X2 E qa27 i_X2)))) H := hP
  have hD : va_D A ([(h0, .inr (6, [.ref (qa5 0), .ref (qa16 0), .ref (qa27 0), .int 0, .int 0]))] ++ (k_X5 E qa5 i_X5 ++ (k_X3 E qa16 i_X3 ++ (k_X2 E qa27 i_X2)))) := hD
  have hw := hw (fun i => if i < 1 then h0 else if i < 3 then qa5 (i - 1) else if i < 4 then qa16 (i - 3) else if i < 22 then qa27 (i - 4) else 0) rfl
  refine W.widen (k := 21) (n := 1256) (by decide) (by decide) ?_
  exact z_vret (k := (fun q => k_X6 E q (0, 0) ++ (k_X5 E (fun k => q (k + 1)) i_X5 ++ (k_X3 E (fun k => q (k + 3)) i_X3 ++ k_X2 E (fun k => q (k + 4)) i_X2)))) (fun i => if i < 1 then h0 else if i < 3 then qa5 (i - 1) else if i < 4 then qa16 (i - 3) else if i < 22 then qa27 (i - 4) else 0) C0 hP hD hS hw dX6_init_47
abbrev r_X9_init : Room := { frames := 4, cells := 60, slots := 2247, locals := 90 }
set_option maxHeartbeats 4000000 in
set_option maxRecDepth 100000 in
theorem c_X9_init (l : Launch) (E : zE) (Z : zZ) (hZ0 : zSt Z) (h0 sz : Nat) (post : (Nat → Nat) → Prop) (hw : ∀ q : Nat → Nat, q 0 = h0 → post q) : Met l yX9_init (zws yX9_init cX9_init 1 none) r_X9_init (va_Pc [.ref h0] (zPre Z E ([(h0, .inr (9, [.null, .null, .null, .int 0, .null, .null, .null]))]) sz)) (va_Qv post (zAt E (va_A ([(h0, .inr (9, [.null, .null, .null, .int 0, .null, .null, .null]))]) sz) (fun q => (k_X9 E q (-1) ++ (k_X2 E (fun k => q (k + 1)) i_X2 ++ (k_X4 E (fun k => q (k + 19)) (0, 0) ++ (k_X6 E (fun k => q (k + 21)) (0, 0) ++ (k_X5 E (fun k => q (k + 22)) i_X5 ++ (k_X3 E (fun k => q (k + 24)) i_X3 ++ (k_X2 E (fun k => q (k + 25)) i_X2 ++ (k_X8 E (fun k => q (k + 43)) i_X8 ++ (k_X0 E (fun k => q (k + 47)) i_X0 ++ k_X0 E (fun k => q (k + 54)) i_X0))))))))) ++ k_H E (fun k => q (k + 20)) (fun _ => none))) (va_A ([(h0, .inr (9, [.null, .null, .null, .int 0, .null, .null, .null]))]) sz)) 60 2247 (va_A ([(h0, .inr (9, [.null, .null, .null, .int 0, .null, .null, .null]))]) sz) := by
  refine z_ofW (Qf := fun A => va_Qv post (zAt E A (fun q => (k_X9 E q (-1) ++ (k_X2 E (fun k => q (k + 1)) i_X2 ++ (k_X4 E (fun k => q (k + 19)) (0, 0) ++ (k_X6 E (fun k => q (k + 21)) (0, 0) ++ (k_X5 E (fun k => q (k + 22)) i_X5 ++ (k_X3 E (fun k => q (k + 24)) i_X3 ++ (k_X2 E (fun k => q (k + 25)) i_X2 ++ (k_X8 E (fun k => q (k + 43)) i_X8 ++ (k_X0 E (fun k => q (k + 47)) i_X0 ++ k_X0 E (fun k => q (k + 54)) i_X0))))))))) ++ k_H E (fun k => q (k + 20)) (fun _ => none))) A) (by decide) (Nat.le_of_ble_eq_true rfl) ?_
  intro p e s m args below meth c A ls C0 hA hK hZ hP hD hS hl
  obtain ⟨hx, hb, hml, hr, hown, hts, hlocks, hin⟩ := id C0
  have hown : s.vm.findClass RX9 = some m.cls := hown
  have hl : lv_has ls 1 [(0, .ref h0)] := hl
  refine lv_aload_n hx hb dX9_init_0 rfl (lv_at hl 0 rfl) ?_
  refine W.objInit hx hb hown (hts _ wm_1_30) (hts _ wm_1_31) (hts _ wm_1_32) rfl (by rw [hml]; exact hl.1) rfl dX9_init_1 (Nat.le_of_ble_eq_true rfl) (Nat.le_of_ble_eq_true rfl) ?_
  refine W.eq (g2 := F0 m 4 ls []) rfl ?_
  refine lv_aload_n hx hb dX9_init_4 rfl (lv_at hl 0 rfl) ?_
  refine va_new (D := zD E) (ci := 2) (fs := [.null, .null, .null]) (C := RX2) (T := TX2) (N := 3) hx hb hts uw_X2 tyX2 tyX2_ok hown (hts _ wm_1_33) (hts _ wm_1_34) (hts _ wm_1_2) hK hP hD hS hA rfl (fun j hj => by rcases (show j = 0 ∨ j = 1 ∨ j = 2 by omega) with rfl | rfl | rfl <;> rfl) (by decide) (by decide) dX9_init_5 (fun q5 H hP hD hS => ?_)
  have hP : va_P (zD E) vwCl ([(h0, .inr (9, [.null, .null, .null, .int 0, .null, .null, .null]))] ++ ([(q5, .inr (2, [.null, .null, .null]))])) H := hP
  have hD : va_D A ([(h0, .inr (9, [.null, .null, .null, .int 0, .null, .null, .null]))] ++ ([(q5, .inr (2, [.null, .null, .null]))])) := hD
  refine lv_dup hx hb dX9_init_8 rfl ?_
  refine z_kv (z_rJ (rest := [.ref q5, .ref h0]) hZ0 C0 hK hZ hA hP hD hS hl.1 (c_X2_init l E Z hZ0 q5 H.size (fun qa => qa 0 = q5) (fun _ h => h)) yv_X9_9 [1] rfl (by decide) ⟨by decide, by decide⟩ ⟨rfl, rfl⟩ rfl rfl (Nat.le_of_ble_eq_true rfl) ⟨by decide, by decide⟩ dX9_init_9) hP hD hS hA [1] [0] [0, 1, 2, 3, 4, 5, 6, 7, 8, 9, 10, 11, 12, 13, 14, 15, 16, 17, 18] rfl (wr := [_]) rfl (by decide) (by decide) (fun u => [(h0, .inr (9, [.null, .null, .null, .int 0, .null, .null, .null]))] ++ (k_X2 E u i_X2)) (fun u => rfl) (by decide) (fun qa5 H locs hq hP hD hS => ?_)
  rw [← hq]
  have hP : va_P (zD E) vwCl ([(h0, .inr (9, [.null, .null, .null, .int 0, .null, .null, .null]))] ++ (k_X2 E qa5 i_X2)) H := hP
  have hD : va_D A ([(h0, .inr (9, [.null, .null, .null, .int 0, .null, .null, .null]))] ++ (k_X2 E qa5 i_X2)) := hD
  refine va_putF (D := zD E) (ci := 9) (v := .ref (qa5 0)) (ty := .object "SupplyContract$Contract") (C := RX9) (T := TX9) (N := 7) hx hb hts uw_X9 tyX9 tyX9_ok nmX9 hown hK hP hD hS 0 rfl rfl 0 (by decide) (hts _ wm_2_109) (fun _ h9 => h9) rfl hin rfl (by decide +kernel) rfl rfl (Nat.le_of_ble_eq_true rfl) dX9_init_12 (fun H locs hP hD hS => ?_)
  have hP : va_P (zD E) vwCl ([(h0, .inr (9, [.ref (qa5 0), .null, .null, .int 0, .null, .null, .null]))] ++ (k_X2 E qa5 i_X2)) H := hP
  have hD : va_D A ([(h0, .inr (9, [.ref (qa5 0), .null, .null, .int 0, .null, .null, .null]))] ++ (k_X2 E qa5 i_X2)) := hD
  refine lv_aload_n hx hb dX9_init_15 rfl (lv_at hl 0 rfl) ?_
  refine va_new (D := zD E) (ci := 4) (fs := [.null, .int 0, .int 0]) (C := RX4) (T := TX4) (N := 3) hx hb hts uw_X4 tyX4 tyX4_ok hown (hts _ wm_1_214) (hts _ wm_1_215) (hts _ wm_1_6) hK hP hD hS hA rfl (fun j hj => by rcases (show j = 0 ∨ j = 1 ∨ j = 2 by omega) with rfl | rfl | rfl <;> rfl) (by decide) (by decide) dX9_init_16 (fun q16 H hP hD hS => ?_)
  have hP : va_P (zD E) vwCl ([(h0, .inr (9, [.ref (qa5 0), .null, .null, .int 0, .null, .null, .null]))] ++ (k_X2 E qa5 i_X2 ++ ([(q16, .inr (4, [.null, .int 0, .int 0]))]))) H := hP
  have hD : va_D A ([(h0, .inr (9, [.ref (qa5 0), .null, .null, .int 0, .null, .null, .null]))] ++ (k_X2 E qa5 i_X2 ++ ([(q16, .inr (4, [.null, .int 0, .int 0]))]))) := hD
  refine lv_dup hx hb dX9_init_19 rfl ?_
  refine z_kv (z_rJ (rest := [.ref q16, .ref h0]) hZ0 C0 hK hZ hA hP hD hS hl.1 (c_X4_init l E Z hZ0 q16 H.size (fun qa => qa 0 = q16) (fun _ h => h)) yv_X9_18 [19] rfl (by decide) ⟨by decide, by decide⟩ ⟨rfl, rfl⟩ rfl rfl (Nat.le_of_ble_eq_true rfl) ⟨by decide, by decide⟩ dX9_init_20) hP hD hS hA [19] [0, 1, 2, 3, 4, 5, 6, 7, 8, 9, 10, 11, 12, 13, 14, 15, 16, 17, 18] [0, 1, 2, 3, 4, 5, 6, 7, 8, 9, 10, 11, 12, 13, 14, 15, 16, 17, 18, 19, 20] rfl (wr := [_, _, _, _, _, _, _, _, _, _, _, _, _, _, _, _, _, _, _]) rfl (by decide) (by decide) (fun u => [(h0, .inr (9, [.ref (qa5 0), .null, .null, .int 0, .null, .null, .null]))] ++ (k_X2 E qa5 i_X2 ++ (k_X4 E u (0, 0) ++ k_H E (fun k => u (k + 1)) (fun _ => none)))) (fun u => rfl) (by decide) (fun qa16 H locs hq hP hD hS => ?_)
  rw [← hq]
  have hP : va_P (zD E) vwCl ([(h0, .inr (9, [.ref (qa5 0), .null, .null, .int 0, .null, .null, .null]))] ++ (k_X2 E qa5 i_X2 ++ (k_X4 E qa16 (0, 0) ++ k_H E (fun k => qa16 (k + 1)) (fun _ => none)))) H := hP
  have hD : va_D A ([(h0, .inr (9, [.ref (qa5 0), .null, .null, .int 0, .null, .null, .null]))] ++ (k_X2 E qa5 i_X2 ++ (k_X4 E qa16 (0, 0) ++ k_H E (fun k => qa16 (k + 1)) (fun _ => none)))) := hD
  refine va_putF (D := zD E) (ci := 9) (v := .ref (qa16 0)) (ty := .object "SupplyContract$History") (C := RX9) (T := TX9) (N := 7) hx hb hts uw_X9 tyX9 tyX9_ok nmX9 hown hK hP hD hS 0 rfl rfl 1 (by decide) (hts _ wm_2_110) (fun _ h9 => h9) rfl hin rfl (by decide +kernel) rfl rfl (Nat.le_of_ble_eq_true rfl) dX9_init_23 (fun H locs hP hD hS => ?_)
  have hP : va_P (zD E) vwCl ([(h0, .inr (9, [.ref (qa5 0), .ref (qa16 0), .null, .int 0, .null, .null, .null]))] ++ (k_X2 E qa5 i_X2 ++ (k_X4 E qa16 (0, 0) ++ k_H E (fun k => qa16 (k + 1)) (fun _ => none)))) H := hP
  have hD : va_D A ([(h0, .inr (9, [.ref (qa5 0), .ref (qa16 0), .null, .int 0, .null, .null, .null]))] ++ (k_X2 E qa5 i_X2 ++ (k_X4 E qa16 (0, 0) ++ k_H E (fun k => qa16 (k + 1)) (fun _ => none)))) := hD
  refine lv_aload_n hx hb dX9_init_26 rfl (lv_at hl 0 rfl) ?_
  refine va_new (D := zD E) (ci := 6) (fs := [.null, .null, .null, .int 0, .int 0]) (C := RX6) (T := TX6) (N := 5) hx hb hts uw_X6 tyX6 tyX6_ok hown (hts _ wm_1_232) (hts _ wm_1_233) (hts _ wm_1_7) hK hP hD hS hA rfl (fun j hj => by rcases (show j = 0 ∨ j = 1 ∨ j = 2 ∨ j = 3 ∨ j = 4 by omega) with rfl | rfl | rfl | rfl | rfl <;> rfl) (by decide) (by decide) dX9_init_27 (fun q27 H hP hD hS => ?_)
  have hP : va_P (zD E) vwCl ([(h0, .inr (9, [.ref (qa5 0), .ref (qa16 0), .null, .int 0, .null, .null, .null]))] ++ (k_X2 E qa5 i_X2 ++ (k_X4 E qa16 (0, 0) ++ k_H E (fun k => qa16 (k + 1)) (fun _ => none) ++ ([(q27, .inr (6, [.null, .null, .null, .int 0, .int 0]))])))) H := hP
  have hD : va_D A ([(h0, .inr (9, [.ref (qa5 0), .ref (qa16 0), .null, .int 0, .null, .null, .null]))] ++ (k_X2 E qa5 i_X2 ++ (k_X4 E qa16 (0, 0) ++ k_H E (fun k => qa16 (k + 1)) (fun _ => none) ++ ([(q27, .inr (6, [.null, .null, .null, .int 0, .int 0]))])))) := hD
  refine lv_dup hx hb dX9_init_30 rfl ?_
  refine z_kv (z_rJ (rest := [.ref q27, .ref h0]) hZ0 C0 hK hZ hA hP hD hS hl.1 (c_X6_init l E Z hZ0 q27 H.size (fun qa => qa 0 = q27) (fun _ h => h)) yv_X9_25 [21] rfl (by decide) ⟨by decide, by decide⟩ ⟨rfl, rfl⟩ rfl rfl (Nat.le_of_ble_eq_true rfl) ⟨by decide, by decide⟩ dX9_init_31) hP hD hS hA [21] [0, 1, 2, 3, 4, 5, 6, 7, 8, 9, 10, 11, 12, 13, 14, 15, 16, 17, 18, 19, 20] [0, 1, 2, 3, 4, 5, 6, 7, 8, 9, 10, 11, 12, 13, 14, 15, 16, 17, 18, 19, 20, 21, 22, 23, 24, 25, 26, 27, 28, 29, 30, 31, 32, 33, 34, 35, 36, 37, 38, 39, 40, 41, 42] rfl (wr := [_, _, _, _, _, _, _, _, _, _, _, _, _, _, _, _, _, _, _, _, _]) rfl (by decide) (by decide) (fun u => [(h0, .inr (9, [.ref (qa5 0), .ref (qa16 0), .null, .int 0, .null, .null, .null]))] ++ (k_X2 E qa5 i_X2 ++ (k_X4 E qa16 (0, 0) ++ k_H E (fun k => qa16 (k + 1)) (fun _ => none) ++ (k_X6 E u (0, 0) ++ (k_X5 E (fun k => u (k + 1)) i_X5 ++ (k_X3 E (fun k => u (k + 3)) i_X3 ++ k_X2 E (fun k => u (k + 4)) i_X2)))))) (fun u => rfl) (by decide) (fun qa27 H locs hq hP hD hS => ?_)
  rw [← hq]
  have hP : va_P (zD E) vwCl ([(h0, .inr (9, [.ref (qa5 0), .ref (qa16 0), .null, .int 0, .null, .null, .null]))] ++ (k_X2 E qa5 i_X2 ++ (k_X4 E qa16 (0, 0) ++ k_H E (fun k => qa16 (k + 1)) (fun _ => none) ++ (k_X6 E qa27 (0, 0) ++ (k_X5 E (fun k => qa27 (k + 1)) i_X5 ++ (k_X3 E (fun k => qa27 (k + 3)) i_X3 ++ k_X2 E (fun k => qa27 (k + 4)) i_X2)))))) H := hP
  have hD : va_D A ([(h0, .inr (9, [.ref (qa5 0), .ref (qa16 0), .null, .int 0, .null, .null, .null]))] ++ (k_X2 E qa5 i_X2 ++ (k_X4 E qa16 (0, 0) ++ k_H E (fun k => qa16 (k + 1)) (fun _ => none) ++ (k_X6 E qa27 (0, 0) ++ (k_X5 E (fun k => qa27 (k + 1)) i_X5 ++ (k_X3 E (fun k => qa27 (k + 3)) i_X3 ++ k_X2 E (fun k => qa27 (k + 4)) i_X2)))))) := hD
  refine va_putF (D := zD E) (ci := 9) (v := .ref (qa27 0)) (ty := .object "SupplyContract$SetupReader") (C := RX9) (T := TX9) (N := 7) hx hb hts uw_X9 tyX9 tyX9_ok nmX9 hown hK hP hD hS 0 rfl rfl 2 (by decide) (hts _ wm_2_111) (fun _ h9 => h9) rfl hin rfl (by decide +kernel) rfl rfl (Nat.le_of_ble_eq_true rfl) dX9_init_34 (fun H locs hP hD hS => ?_)
  have hP : va_P (zD E) vwCl ([(h0, .inr (9, [.ref (qa5 0), .ref (qa16 0), .ref (qa27 0), .int 0, .null, .null, .null]))] ++ (k_X2 E qa5 i_X2 ++ (k_X4 E qa16 (0, 0) ++ k_H E (fun k => qa16 (k + 1)) (fun _ => none) ++ (k_X6 E qa27 (0, 0) ++ (k_X5 E (fun k => qa27 (k + 1)) i_X5 ++ (k_X3 E (fun k => qa27 (k + 3)) i_X3 ++ k_X2 E (fun k => qa27 (k + 4)) i_X2)))))) H := hP
  have hD : va_D A ([(h0, .inr (9, [.ref (qa5 0), .ref (qa16 0), .ref (qa27 0), .int 0, .null, .null, .null]))] ++ (k_X2 E qa5 i_X2 ++ (k_X4 E qa16 (0, 0) ++ k_H E (fun k => qa16 (k + 1)) (fun _ => none) ++ (k_X6 E qa27 (0, 0) ++ (k_X5 E (fun k => qa27 (k + 1)) i_X5 ++ (k_X3 E (fun k => qa27 (k + 3)) i_X3 ++ k_X2 E (fun k => qa27 (k + 4)) i_X2)))))) := hD
  refine lv_aload_n hx hb dX9_init_37 rfl (lv_at hl 0 rfl) ?_
  refine lv_iconst (v := (-1)) hx hb dX9_init_38 rfl ?_
  refine va_put (D := zD E) (ci := 9) (v := .int (-1)) (ty := .int) (C := RX9) (T := TX9) (N := 7) hx hb hts uw_X9 tyX9 tyX9_ok nmX9 hown hK hP hD hS 0 rfl rfl 3 (by decide) (hts _ wm_2_112) (fun _ h9 => h9) rfl (by decide +kernel) rfl rfl (Nat.le_of_ble_eq_true rfl) dX9_init_39 (fun H locs hP hD hS => ?_)
  have hP : va_P (zD E) vwCl ([(h0, .inr (9, [.ref (qa5 0), .ref (qa16 0), .ref (qa27 0), .int (-1), .null, .null, .null]))] ++ (k_X2 E qa5 i_X2 ++ (k_X4 E qa16 (0, 0) ++ k_H E (fun k => qa16 (k + 1)) (fun _ => none) ++ (k_X6 E qa27 (0, 0) ++ (k_X5 E (fun k => qa27 (k + 1)) i_X5 ++ (k_X3 E (fun k => qa27 (k + 3)) i_X3 ++ k_X2 E (fun k => qa27 (k + 4)) i_X2)))))) H := hP
  have hD : va_D A ([(h0, .inr (9, [.ref (qa5 0), .ref (qa16 0), .ref (qa27 0), .int (-1), .null, .null, .null]))] ++ (k_X2 E qa5 i_X2 ++ (k_X4 E qa16 (0, 0) ++ k_H E (fun k => qa16 (k + 1)) (fun _ => none) ++ (k_X6 E qa27 (0, 0) ++ (k_X5 E (fun k => qa27 (k + 1)) i_X5 ++ (k_X3 E (fun k => qa27 (k + 3)) i_X3 ++ k_X2 E (fun k => qa27 (k + 4)) i_X2)))))) := hD
  refine lv_aload_n hx hb dX9_init_42 rfl (lv_at hl 0 rfl) ?_
  refine va_new (D := zD E) (ci := 8) (fs := [.null, .int 0, .int 0, .int 0, .null, .null, .int 0, .int 0]) (C := RX8) (T := TX8) (N := 8) hx hb hts uw_X8 tyX8 tyX8_ok hown (hts _ wm_2_75) (hts _ wm_2_76) (hts _ wm_1_10) hK hP hD hS hA rfl (fun j hj => by rcases (show j = 0 ∨ j = 1 ∨ j = 2 ∨ j = 3 ∨ j = 4 ∨ j = 5 ∨ j = 6 ∨ j = 7 by omega) with rfl | rfl | rfl | rfl | rfl | rfl | rfl | rfl <;> rfl) (by decide) (by decide) dX9_init_43 (fun q43 H hP hD hS => ?_)
  have hP : va_P (zD E) vwCl ([(h0, .inr (9, [.ref (qa5 0), .ref (qa16 0), .ref (qa27 0), .int (-1), .null, .null, .null]))] ++ (k_X2 E qa5 i_X2 ++ (k_X4 E qa16 (0, 0) ++ k_H E (fun k => qa16 (k + 1)) (fun _ => none) ++ (k_X6 E qa27 (0, 0) ++ (k_X5 E (fun k => qa27 (k + 1)) i_X5 ++ (k_X3 E (fun k => qa27 (k + 3)) i_X3 ++ k_X2 E (fun k => qa27 (k + 4)) i_X2)) ++ ([(q43, .inr (8, [.null, .int 0, .int 0, .int 0, .null, .null, .int 0, .int 0]))]))))) H := hP
  have hD : va_D A ([(h0, .inr (9, [.ref (qa5 0), .ref (qa16 0), .ref (qa27 0), .int (-1), .null, .null, .null]))] ++ (k_X2 E qa5 i_X2 ++ (k_X4 E qa16 (0, 0) ++ k_H E (fun k => qa16 (k + 1)) (fun _ => none) ++ (k_X6 E qa27 (0, 0) ++ (k_X5 E (fun k => qa27 (k + 1)) i_X5 ++ (k_X3 E (fun k => qa27 (k + 3)) i_X3 ++ k_X2 E (fun k => qa27 (k + 4)) i_X2)) ++ ([(q43, .inr (8, [.null, .int 0, .int 0, .int 0, .null, .null, .int 0, .int 0]))]))))) := hD
  refine lv_dup hx hb dX9_init_46 rfl ?_
  refine z_kv (z_rJ (rest := [.ref q43, .ref h0]) hZ0 C0 hK hZ hA hP hD hS hl.1 (c_X8_init l E Z hZ0 q43 H.size (fun qa => qa 0 = q43) (fun _ h => h)) yv_X9_36 [43] rfl (by decide) ⟨by decide, by decide⟩ ⟨rfl, rfl⟩ rfl rfl (Nat.le_of_ble_eq_true rfl) ⟨by decide, by decide⟩ dX9_init_47) hP hD hS hA [43] [0, 1, 2, 3, 4, 5, 6, 7, 8, 9, 10, 11, 12, 13, 14, 15, 16, 17, 18, 19, 20, 21, 22, 23, 24, 25, 26, 27, 28, 29, 30, 31, 32, 33, 34, 35, 36, 37, 38, 39, 40, 41, 42] [0, 1, 2, 3, 4, 5, 6, 7, 8, 9, 10, 11, 12, 13, 14, 15, 16, 17, 18, 19, 20, 21, 22, 23, 24, 25, 26, 27, 28, 29, 30, 31, 32, 33, 34, 35, 36, 37, 38, 39, 40, 41, 42, 43, 44, 45, 46] rfl (wr := [_, _, _, _, _, _, _, _, _, _, _, _, _, _, _, _, _, _, _, _, _, _, _, _, _, _, _, _, _, _, _, _, _, _, _, _, _, _, _, _, _, _, _]) rfl (by decide) (by decide) (fun u => [(h0, .inr (9, [.ref (qa5 0), .ref (qa16 0), .ref (qa27 0), .int (-1), .null, .null, .null]))] ++ (k_X2 E qa5 i_X2 ++ (k_X4 E qa16 (0, 0) ++ k_H E (fun k => qa16 (k + 1)) (fun _ => none) ++ (k_X6 E qa27 (0, 0) ++ (k_X5 E (fun k => qa27 (k + 1)) i_X5 ++ (k_X3 E (fun k => qa27 (k + 3)) i_X3 ++ k_X2 E (fun k => qa27 (k + 4)) i_X2)) ++ (k_X8 E u i_X8))))) (fun u => rfl) (by decide) (fun qa43 H locs hq hP hD hS => ?_)
  rw [← hq]
  have hP : va_P (zD E) vwCl ([(h0, .inr (9, [.ref (qa5 0), .ref (qa16 0), .ref (qa27 0), .int (-1), .null, .null, .null]))] ++ (k_X2 E qa5 i_X2 ++ (k_X4 E qa16 (0, 0) ++ k_H E (fun k => qa16 (k + 1)) (fun _ => none) ++ (k_X6 E qa27 (0, 0) ++ (k_X5 E (fun k => qa27 (k + 1)) i_X5 ++ (k_X3 E (fun k => qa27 (k + 3)) i_X3 ++ k_X2 E (fun k => qa27 (k + 4)) i_X2)) ++ (k_X8 E qa43 i_X8))))) H := hP
  have hD : va_D A ([(h0, .inr (9, [.ref (qa5 0), .ref (qa16 0), .ref (qa27 0), .int (-1), .null, .null, .null]))] ++ (k_X2 E qa5 i_X2 ++ (k_X4 E qa16 (0, 0) ++ k_H E (fun k => qa16 (k + 1)) (fun _ => none) ++ (k_X6 E qa27 (0, 0) ++ (k_X5 E (fun k => qa27 (k + 1)) i_X5 ++ (k_X3 E (fun k => qa27 (k + 3)) i_X3 ++ k_X2 E (fun k => qa27 (k + 4)) i_X2)) ++ (k_X8 E qa43 i_X8))))) := hD
  refine va_putF (D := zD E) (ci := 9) (v := .ref (qa43 0)) (ty := .object "SupplyContract$WaiverSearch") (C := RX9) (T := TX9) (N := 7) hx hb hts uw_X9 tyX9 tyX9_ok nmX9 hown hK hP hD hS 0 rfl rfl 4 (by decide) (hts _ wm_2_113) (fun _ h9 => h9) rfl hin rfl (by decide +kernel) rfl rfl (Nat.le_of_ble_eq_true rfl) dX9_init_50 (fun H locs hP hD hS => ?_)
  have hP : va_P (zD E) vwCl ([(h0, .inr (9, [.ref (qa5 0), .ref (qa16 0), .ref (qa27 0), .int (-1), .ref (qa43 0), .null, .null]))] ++ (k_X2 E qa5 i_X2 ++ (k_X4 E qa16 (0, 0) ++ k_H E (fun k => qa16 (k + 1)) (fun _ => none) ++ (k_X6 E qa27 (0, 0) ++ (k_X5 E (fun k => qa27 (k + 1)) i_X5 ++ (k_X3 E (fun k => qa27 (k + 3)) i_X3 ++ k_X2 E (fun k => qa27 (k + 4)) i_X2)) ++ (k_X8 E qa43 i_X8))))) H := hP
  have hD : va_D A ([(h0, .inr (9, [.ref (qa5 0), .ref (qa16 0), .ref (qa27 0), .int (-1), .ref (qa43 0), .null, .null]))] ++ (k_X2 E qa5 i_X2 ++ (k_X4 E qa16 (0, 0) ++ k_H E (fun k => qa16 (k + 1)) (fun _ => none) ++ (k_X6 E qa27 (0, 0) ++ (k_X5 E (fun k => qa27 (k + 1)) i_X5 ++ (k_X3 E (fun k => qa27 (k + 3)) i_X3 ++ k_X2 E (fun k => qa27 (k + 4)) i_X2)) ++ (k_X8 E qa43 i_X8))))) := hD
  refine lv_aload_n hx hb dX9_init_53 rfl (lv_at hl 0 rfl) ?_
  refine va_new (D := zD E) (ci := 0) (fs := [.int 0, .null, .null, .null, .null, .null, .null]) (C := RX0) (T := TX0) (N := 7) hx hb hts uw_X0 tyX0 tyX0_ok hown (hts _ wm_2_107) (hts _ wm_1_123) (hts _ wm_1_4) hK hP hD hS hA rfl (fun j hj => by rcases (show j = 0 ∨ j = 1 ∨ j = 2 ∨ j = 3 ∨ j = 4 ∨ j = 5 ∨ j = 6 by omega) with rfl | rfl | rfl | rfl | rfl | rfl | rfl <;> rfl) (by decide) (by decide) dX9_init_54 (fun q54 H hP hD hS => ?_)
  have hP : va_P (zD E) vwCl ([(h0, .inr (9, [.ref (qa5 0), .ref (qa16 0), .ref (qa27 0), .int (-1), .ref (qa43 0), .null, .null]))] ++ (k_X2 E qa5 i_X2 ++ (k_X4 E qa16 (0, 0) ++ k_H E (fun k => qa16 (k + 1)) (fun _ => none) ++ (k_X6 E qa27 (0, 0) ++ (k_X5 E (fun k => qa27 (k + 1)) i_X5 ++ (k_X3 E (fun k => qa27 (k + 3)) i_X3 ++ k_X2 E (fun k => qa27 (k + 4)) i_X2)) ++ (k_X8 E qa43 i_X8 ++ ([(q54, .inr (0, [.int 0, .null, .null, .null, .null, .null, .null]))])))))) H := hP
  have hD : va_D A ([(h0, .inr (9, [.ref (qa5 0), .ref (qa16 0), .ref (qa27 0), .int (-1), .ref (qa43 0), .null, .null]))] ++ (k_X2 E qa5 i_X2 ++ (k_X4 E qa16 (0, 0) ++ k_H E (fun k => qa16 (k + 1)) (fun _ => none) ++ (k_X6 E qa27 (0, 0) ++ (k_X5 E (fun k => qa27 (k + 1)) i_X5 ++ (k_X3 E (fun k => qa27 (k + 3)) i_X3 ++ k_X2 E (fun k => qa27 (k + 4)) i_X2)) ++ (k_X8 E qa43 i_X8 ++ ([(q54, .inr (0, [.int 0, .null, .null, .null, .null, .null, .null]))])))))) := hD
  refine lv_dup hx hb dX9_init_57 rfl ?_
  refine z_kv (z_rJ (rest := [.ref q54, .ref h0]) hZ0 C0 hK hZ hA hP hD hS hl.1 (c_X0_init l E Z hZ0 q54 H.size (fun qa => qa 0 = q54) (fun _ h => h)) yv_X9_43 [47] rfl (by decide) ⟨by decide, by decide⟩ ⟨rfl, rfl⟩ rfl rfl (Nat.le_of_ble_eq_true rfl) ⟨by decide, by decide⟩ dX9_init_58) hP hD hS hA [47] [0, 1, 2, 3, 4, 5, 6, 7, 8, 9, 10, 11, 12, 13, 14, 15, 16, 17, 18, 19, 20, 21, 22, 23, 24, 25, 26, 27, 28, 29, 30, 31, 32, 33, 34, 35, 36, 37, 38, 39, 40, 41, 42, 43, 44, 45, 46] [0, 1, 2, 3, 4, 5, 6, 7, 8, 9, 10, 11, 12, 13, 14, 15, 16, 17, 18, 19, 20, 21, 22, 23, 24, 25, 26, 27, 28, 29, 30, 31, 32, 33, 34, 35, 36, 37, 38, 39, 40, 41, 42, 43, 44, 45, 46, 47, 48, 49, 50, 51, 52, 53] rfl (wr := [_, _, _, _, _, _, _, _, _, _, _, _, _, _, _, _, _, _, _, _, _, _, _, _, _, _, _, _, _, _, _, _, _, _, _, _, _, _, _, _, _, _, _, _, _, _, _]) rfl (by decide) (by decide) (fun u => [(h0, .inr (9, [.ref (qa5 0), .ref (qa16 0), .ref (qa27 0), .int (-1), .ref (qa43 0), .null, .null]))] ++ (k_X2 E qa5 i_X2 ++ (k_X4 E qa16 (0, 0) ++ k_H E (fun k => qa16 (k + 1)) (fun _ => none) ++ (k_X6 E qa27 (0, 0) ++ (k_X5 E (fun k => qa27 (k + 1)) i_X5 ++ (k_X3 E (fun k => qa27 (k + 3)) i_X3 ++ k_X2 E (fun k => qa27 (k + 4)) i_X2)) ++ (k_X8 E qa43 i_X8 ++ (k_X0 E u i_X0)))))) (fun u => rfl) (by decide) (fun qa54 H locs hq hP hD hS => ?_)
  rw [← hq]
  have hP : va_P (zD E) vwCl ([(h0, .inr (9, [.ref (qa5 0), .ref (qa16 0), .ref (qa27 0), .int (-1), .ref (qa43 0), .null, .null]))] ++ (k_X2 E qa5 i_X2 ++ (k_X4 E qa16 (0, 0) ++ k_H E (fun k => qa16 (k + 1)) (fun _ => none) ++ (k_X6 E qa27 (0, 0) ++ (k_X5 E (fun k => qa27 (k + 1)) i_X5 ++ (k_X3 E (fun k => qa27 (k + 3)) i_X3 ++ k_X2 E (fun k => qa27 (k + 4)) i_X2)) ++ (k_X8 E qa43 i_X8 ++ (k_X0 E qa54 i_X0)))))) H := hP
  have hD : va_D A ([(h0, .inr (9, [.ref (qa5 0), .ref (qa16 0), .ref (qa27 0), .int (-1), .ref (qa43 0), .null, .null]))] ++ (k_X2 E qa5 i_X2 ++ (k_X4 E qa16 (0, 0) ++ k_H E (fun k => qa16 (k + 1)) (fun _ => none) ++ (k_X6 E qa27 (0, 0) ++ (k_X5 E (fun k => qa27 (k + 1)) i_X5 ++ (k_X3 E (fun k => qa27 (k + 3)) i_X3 ++ k_X2 E (fun k => qa27 (k + 4)) i_X2)) ++ (k_X8 E qa43 i_X8 ++ (k_X0 E qa54 i_X0)))))) := hD
  refine va_putF (D := zD E) (ci := 9) (v := .ref (qa54 0)) (ty := .object "SupplyContract$Accounts") (C := RX9) (T := TX9) (N := 7) hx hb hts uw_X9 tyX9 tyX9_ok nmX9 hown hK hP hD hS 0 rfl rfl 5 (by decide) (hts _ wm_2_114) (fun _ h9 => h9) rfl hin rfl (by decide +kernel) rfl rfl (Nat.le_of_ble_eq_true rfl) dX9_init_61 (fun H locs hP hD hS => ?_)
  have hP : va_P (zD E) vwCl ([(h0, .inr (9, [.ref (qa5 0), .ref (qa16 0), .ref (qa27 0), .int (-1), .ref (qa43 0), .ref (qa54 0), .null]))] ++ (k_X2 E qa5 i_X2 ++ (k_X4 E qa16 (0, 0) ++ k_H E (fun k => qa16 (k + 1)) (fun _ => none) ++ (k_X6 E qa27 (0, 0) ++ (k_X5 E (fun k => qa27 (k + 1)) i_X5 ++ (k_X3 E (fun k => qa27 (k + 3)) i_X3 ++ k_X2 E (fun k => qa27 (k + 4)) i_X2)) ++ (k_X8 E qa43 i_X8 ++ (k_X0 E qa54 i_X0)))))) H := hP
  have hD : va_D A ([(h0, .inr (9, [.ref (qa5 0), .ref (qa16 0), .ref (qa27 0), .int (-1), .ref (qa43 0), .ref (qa54 0), .null]))] ++ (k_X2 E qa5 i_X2 ++ (k_X4 E qa16 (0, 0) ++ k_H E (fun k => qa16 (k + 1)) (fun _ => none) ++ (k_X6 E qa27 (0, 0) ++ (k_X5 E (fun k => qa27 (k + 1)) i_X5 ++ (k_X3 E (fun k => qa27 (k + 3)) i_X3 ++ k_X2 E (fun k => qa27 (k + 4)) i_X2)) ++ (k_X8 E qa43 i_X8 ++ (k_X0 E qa54 i_X0)))))) := hD
  refine lv_aload_n hx hb dX9_init_64 rfl (lv_at hl 0 rfl) ?_
  refine va_new (D := zD E) (ci := 0) (fs := [.int 0, .null, .null, .null, .null, .null, .null]) (C := RX0) (T := TX0) (N := 7) hx hb hts uw_X0 tyX0 tyX0_ok hown (hts _ wm_2_107) (hts _ wm_1_123) (hts _ wm_1_4) hK hP hD hS hA rfl (fun j hj => by rcases (show j = 0 ∨ j = 1 ∨ j = 2 ∨ j = 3 ∨ j = 4 ∨ j = 5 ∨ j = 6 by omega) with rfl | rfl | rfl | rfl | rfl | rfl | rfl <;> rfl) (by decide) (by decide) dX9_init_65 (fun q65 H hP hD hS => ?_)
  have hP : va_P (zD E) vwCl ([(h0, .inr (9, [.ref (qa5 0), .ref (qa16 0), .ref (qa27 0), .int (-1), .ref (qa43 0), .ref (qa54 0), .null]))] ++ (k_X2 E qa5 i_X2 ++ (k_X4 E qa16 (0, 0) ++ k_H E (fun k => qa16 (k + 1)) (fun _ => none) ++ (k_X6 E qa27 (0, 0) ++ (k_X5 E (fun k => qa27 (k + 1)) i_X5 ++ (k_X3 E (fun k => qa27 (k + 3)) i_X3 ++ k_X2 E (fun k => qa27 (k + 4)) i_X2)) ++ (k_X8 E qa43 i_X8 ++ (k_X0 E qa54 i_X0 ++ ([(q65, .inr (0, [.int 0, .null, .null, .null, .null, .null, .null]))]))))))) H := hP
  have hD : va_D A ([(h0, .inr (9, [.ref (qa5 0), .ref (qa16 0), .ref (qa27 0), .int (-1), .ref (qa43 0), .ref (qa54 0), .null]))] ++ (k_X2 E qa5 i_X2 ++ (k_X4 E qa16 (0, 0) ++ k_H E (fun k => qa16 (k + 1)) (fun _ => none) ++ (k_X6 E qa27 (0, 0) ++ (k_X5 E (fun k => qa27 (k + 1)) i_X5 ++ (k_X3 E (fun k => qa27 (k + 3)) i_X3 ++ k_X2 E (fun k => qa27 (k + 4)) i_X2)) ++ (k_X8 E qa43 i_X8 ++ (k_X0 E qa54 i_X0 ++ ([(q65, .inr (0, [.int 0, .null, .null, .null, .null, .null, .null]))]))))))) := hD
  refine lv_dup hx hb dX9_init_68 rfl ?_
  refine z_kv (z_rJ (rest := [.ref q65, .ref h0]) hZ0 C0 hK hZ hA hP hD hS hl.1 (c_X0_init l E Z hZ0 q65 H.size (fun qa => qa 0 = q65) (fun _ h => h)) yv_X9_43 [54] rfl (by decide) ⟨by decide, by decide⟩ ⟨rfl, rfl⟩ rfl rfl (Nat.le_of_ble_eq_true rfl) ⟨by decide, by decide⟩ dX9_init_69) hP hD hS hA [54] [0, 1, 2, 3, 4, 5, 6, 7, 8, 9, 10, 11, 12, 13, 14, 15, 16, 17, 18, 19, 20, 21, 22, 23, 24, 25, 26, 27, 28, 29, 30, 31, 32, 33, 34, 35, 36, 37, 38, 39, 40, 41, 42, 43, 44, 45, 46, 47, 48, 49, 50, 51, 52, 53] [0, 1, 2, 3, 4, 5, 6, 7, 8, 9, 10, 11, 12, 13, 14, 15, 16, 17, 18, 19, 20, 21, 22, 23, 24, 25, 26, 27, 28, 29, 30, 31, 32, 33, 34, 35, 36, 37, 38, 39, 40, 41, 42, 43, 44, 45, 46, 47, 48, 49, 50, 51, 52, 53, 54, 55, 56, 57, 58, 59, 60] rfl (wr := [_, _, _, _, _, _, _, _, _, _, _, _, _, _, _, _, _, _, _, _, _, _, _, _, _, _, _, _, _, _, _, _, _, _, _, _, _, _, _, _, _, _, _, _, _, _, _, _, _, _, _, _, _, _]) rfl (by decide) (by decide) (fun u => [(h0, .inr (9, [.ref (qa5 0), .ref (qa16 0), .ref (qa27 0), .int (-1), .ref (qa43 0), .ref (qa54 0), .null]))] ++ (k_X2 E qa5 i_X2 ++ (k_X4 E qa16 (0, 0) ++ k_H E (fun k => qa16 (k + 1)) (fun _ => none) ++ (k_X6 E qa27 (0, 0) ++ (k_X5 E (fun k => qa27 (k + 1)) i_X5 ++ (k_X3 E (fun k => qa27 (k + 3)) i_X3 ++ k_X2 E (fun k => qa27 (k + 4)) i_X2)) ++ (k_X8 E qa43 i_X8 ++ (k_X0 E qa54 i_X0 ++ (k_X0 E u i_X0))))))) (fun u => rfl) (by decide) (fun qa65 H locs hq hP hD hS => ?_)
  rw [← hq]
  have hP : va_P (zD E) vwCl ([(h0, .inr (9, [.ref (qa5 0), .ref (qa16 0), .ref (qa27 0), .int (-1), .ref (qa43 0), .ref (qa54 0), .null]))] ++ (k_X2 E qa5 i_X2 ++ (k_X4 E qa16 (0, 0) ++ k_H E (fun k => qa16 (k + 1)) (fun _ => none) ++ (k_X6 E qa27 (0, 0) ++ (k_X5 E (fun k => qa27 (k + 1)) i_X5 ++ (k_X3 E (fun k => qa27 (k + 3)) i_X3 ++ k_X2 E (fun k => qa27 (k + 4)) i_X2)) ++ (k_X8 E qa43 i_X8 ++ (k_X0 E qa54 i_X0 ++ (k_X0 E qa65 i_X0))))))) H := hP
  have hD : va_D A ([(h0, .inr (9, [.ref (qa5 0), .ref (qa16 0), .ref (qa27 0), .int (-1), .ref (qa43 0), .ref (qa54 0), .null]))] ++ (k_X2 E qa5 i_X2 ++ (k_X4 E qa16 (0, 0) ++ k_H E (fun k => qa16 (k + 1)) (fun _ => none) ++ (k_X6 E qa27 (0, 0) ++ (k_X5 E (fun k => qa27 (k + 1)) i_X5 ++ (k_X3 E (fun k => qa27 (k + 3)) i_X3 ++ k_X2 E (fun k => qa27 (k + 4)) i_X2)) ++ (k_X8 E qa43 i_X8 ++ (k_X0 E qa54 i_X0 ++ (k_X0 E qa65 i_X0))))))) := hD
  refine va_putF (D := zD E) (ci := 9) (v := .ref (qa65 0)) (ty := .object "SupplyContract$Accounts") (C := RX9) (T := TX9) (N := 7) hx hb hts uw_X9 tyX9 tyX9_ok nmX9 hown hK hP hD hS 0 rfl rfl 6 (by decide) (hts _ wm_2_115) (fun _ h9 => h9) rfl hin rfl (by decide +kernel) rfl rfl (Nat.le_of_ble_eq_true rfl) dX9_init_72 (fun H locs hP hD hS => ?_)
  have hP : va_P (zD E) vwCl ([(h0, .inr (9, [.ref (qa5 0), .ref (qa16 0), .ref (qa27 0), .int (-1), .ref (qa43 0), .ref (qa54 0), .ref (qa65 0)]))] ++ (k_X2 E qa5 i_X2 ++ (k_X4 E qa16 (0, 0) ++ k_H E (fun k => qa16 (k + 1)) (fun _ => none) ++ (k_X6 E qa27 (0, 0) ++ (k_X5 E (fun k => qa27 (k + 1)) i_X5 ++ (k_X3 E (fun k => qa27 (k + 3)) i_X3 ++ k_X2 E (fun k => qa27 (k + 4)) i_X2)) ++ (k_X8 E qa43 i_X8 ++ (k_X0 E qa54 i_X0 ++ (k_X0 E qa65 i_X0))))))) H := hP
  have hD : va_D A ([(h0, .inr (9, [.ref (qa5 0), .ref (qa16 0), .ref (qa27 0), .int (-1), .ref (qa43 0), .ref (qa54 0), .ref (qa65 0)]))] ++ (k_X2 E qa5 i_X2 ++ (k_X4 E qa16 (0, 0) ++ k_H E (fun k => qa16 (k + 1)) (fun _ => none) ++ (k_X6 E qa27 (0, 0) ++ (k_X5 E (fun k => qa27 (k + 1)) i_X5 ++ (k_X3 E (fun k => qa27 (k + 3)) i_X3 ++ k_X2 E (fun k => qa27 (k + 4)) i_X2)) ++ (k_X8 E qa43 i_X8 ++ (k_X0 E qa54 i_X0 ++ (k_X0 E qa65 i_X0))))))) := hD
  have hw := hw (fun i => if i < 1 then h0 else if i < 19 then qa5 (i - 1) else if i < 21 then qa16 (i - 19) else if i < 43 then qa27 (i - 21) else if i < 47 then qa43 (i - 43) else if i < 54 then qa54 (i - 47) else if i < 61 then qa65 (i - 54) else 0) rfl
  refine W.widen (k := 60) (n := 2247) (by decide) (by decide) ?_
  have hP := hP.sub (ws' := ((k_X9 E (fun i => if i < 1 then h0 else if i < 19 then qa5 (i - 1) else if i < 21 then qa16 (i - 19) else if i < 43 then qa27 (i - 21) else if i < 47 then qa43 (i - 43) else if i < 54 then qa54 (i - 47) else if i < 61 then qa65 (i - 54) else 0) (-1) ++ (k_X2 E (fun k => (fun i => if i < 1 then h0 else if i < 19 then qa5 (i - 1) else if i < 21 then qa16 (i - 19) else if i < 43 then qa27 (i - 21) else if i < 47 then qa43 (i - 43) else if i < 54 then qa54 (i - 47) else if i < 61 then qa65 (i - 54) else 0) (k + 1)) i_X2 ++ (k_X4 E (fun k => (fun i => if i < 1 then h0 else if i < 19 then qa5 (i - 1) else if i < 21 then qa16 (i - 19) else if i < 43 then qa27 (i - 21) else if i < 47 then qa43 (i - 43) else if i < 54 then qa54 (i - 47) else if i < 61 then qa65 (i - 54) else 0) (k + 19)) (0, 0) ++ (k_X6 E (fun k => (fun i => if i < 1 then h0 else if i < 19 then qa5 (i - 1) else if i < 21 then qa16 (i - 19) else if i < 43 then qa27 (i - 21) else if i < 47 then qa43 (i - 43) else if i < 54 then qa54 (i - 47) else if i < 61 then qa65 (i - 54) else 0) (k + 21)) (0, 0) ++ (k_X5 E (fun k => (fun i => if i < 1 then h0 else if i < 19 then qa5 (i - 1) else if i < 21 then qa16 (i - 19) else if i < 43 then qa27 (i - 21) else if i < 47 then qa43 (i - 43) else if i < 54 then qa54 (i - 47) else if i < 61 then qa65 (i - 54) else 0) (k + 22)) i_X5 ++ (k_X3 E (fun k => (fun i => if i < 1 then h0 else if i < 19 then qa5 (i - 1) else if i < 21 then qa16 (i - 19) else if i < 43 then qa27 (i - 21) else if i < 47 then qa43 (i - 43) else if i < 54 then qa54 (i - 47) else if i < 61 then qa65 (i - 54) else 0) (k + 24)) i_X3 ++ (k_X2 E (fun k => (fun i => if i < 1 then h0 else if i < 19 then qa5 (i - 1) else if i < 21 then qa16 (i - 19) else if i < 43 then qa27 (i - 21) else if i < 47 then qa43 (i - 43) else if i < 54 then qa54 (i - 47) else if i < 61 then qa65 (i - 54) else 0) (k + 25)) i_X2 ++ (k_X8 E (fun k => (fun i => if i < 1 then h0 else if i < 19 then qa5 (i - 1) else if i < 21 then qa16 (i - 19) else if i < 43 then qa27 (i - 21) else if i < 47 then qa43 (i - 43) else if i < 54 then qa54 (i - 47) else if i < 61 then qa65 (i - 54) else 0) (k + 43)) i_X8 ++ (k_X0 E (fun k => (fun i => if i < 1 then h0 else if i < 19 then qa5 (i - 1) else if i < 21 then qa16 (i - 19) else if i < 43 then qa27 (i - 21) else if i < 47 then qa43 (i - 43) else if i < 54 then qa54 (i - 47) else if i < 61 then qa65 (i - 54) else 0) (k + 47)) i_X0 ++ k_X0 E (fun k => (fun i => if i < 1 then h0 else if i < 19 then qa5 (i - 1) else if i < 21 then qa16 (i - 19) else if i < 43 then qa27 (i - 21) else if i < 47 then qa43 (i - 43) else if i < 54 then qa54 (i - 47) else if i < 61 then qa65 (i - 54) else 0) (k + 54)) i_X0))))))))) ++ k_H E (fun k => (fun i => if i < 1 then h0 else if i < 19 then qa5 (i - 1) else if i < 21 then qa16 (i - 19) else if i < 43 then qa27 (i - 21) else if i < 47 then qa43 (i - 43) else if i < 54 then qa54 (i - 47) else if i < 61 then qa65 (i - 54) else 0) (k + 20)) (fun _ => none))) [0, 1, 2, 3, 4, 5, 6, 7, 8, 9, 10, 11, 12, 13, 14, 15, 16, 17, 18, 19, 21, 22, 23, 24, 25, 26, 27, 28, 29, 30, 31, 32, 33, 34, 35, 36, 37, 38, 39, 40, 41, 42, 43, 44, 45, 46, 47, 48, 49, 50, 51, 52, 53, 54, 55, 56, 57, 58, 59, 60, 20] rfl
  have hD := hD.sub (ws' := ((k_X9 E (fun i => if i < 1 then h0 else if i < 19 then qa5 (i - 1) else if i < 21 then qa16 (i - 19) else if i < 43 then qa27 (i - 21) else if i < 47 then qa43 (i - 43) else if i < 54 then qa54 (i - 47) else if i < 61 then qa65 (i - 54) else 0) (-1) ++ (k_X2 E (fun k => (fun i => if i < 1 then h0 else if i < 19 then qa5 (i - 1) else if i < 21 then qa16 (i - 19) else if i < 43 then qa27 (i - 21) else if i < 47 then qa43 (i - 43) else if i < 54 then qa54 (i - 47) else if i < 61 then qa65 (i - 54) else 0) (k + 1)) i_X2 ++ (k_X4 E (fun k => (fun i => if i < 1 then h0 else if i < 19 then qa5 (i - 1) else if i < 21 then qa16 (i - 19) else if i < 43 then qa27 (i - 21) else if i < 47 then qa43 (i - 43) else if i < 54 then qa54 (i - 47) else if i < 61 then qa65 (i - 54) else 0) (k + 19)) (0, 0) ++ (k_X6 E (fun k => (fun i => if i < 1 then h0 else if i < 19 then qa5 (i - 1) else if i < 21 then qa16 (i - 19) else if i < 43 then qa27 (i - 21) else if i < 47 then qa43 (i - 43) else if i < 54 then qa54 (i - 47) else if i < 61 then qa65 (i - 54) else 0) (k + 21)) (0, 0) ++ (k_X5 E (fun k => (fun i => if i < 1 then h0 else if i < 19 then qa5 (i - 1) else if i < 21 then qa16 (i - 19) else if i < 43 then qa27 (i - 21) else if i < 47 then qa43 (i - 43) else if i < 54 then qa54 (i - 47) else if i < 61 then qa65 (i - 54) else 0) (k + 22)) i_X5 ++ (k_X3 E (fun k => (fun i => if i < 1 then h0 else if i < 19 then qa5 (i - 1) else if i < 21 then qa16 (i - 19) else if i < 43 then qa27 (i - 21) else if i < 47 then qa43 (i - 43) else if i < 54 then qa54 (i - 47) else if i < 61 then qa65 (i - 54) else 0) (k + 24)) i_X3 ++ (k_X2 E (fun k => (fun i => if i < 1 then h0 else if i < 19 then qa5 (i - 1) else if i < 21 then qa16 (i - 19) else if i < 43 then qa27 (i - 21) else if i < 47 then qa43 (i - 43) else if i < 54 then qa54 (i - 47) else if i < 61 then qa65 (i - 54) else 0) (k + 25)) i_X2 ++ (k_X8 E (fun k => (fun i => if i < 1 then h0 else if i < 19 then qa5 (i - 1) else if i < 21 then qa16 (i - 19) else if i < 43 then qa27 (i - 21) else if i < 47 then qa43 (i - 43) else if i < 54 then qa54 (i - 47) else if i < 61 then qa65 (i - 54) else 0) (k + 43)) i_X8 ++ (k_X0 E (fun k => (fun i => if i < 1 then h0 else if i < 19 then qa5 (i - 1) else if i < 21 then qa16 (i - 19) else if i < 43 then qa27 (i - 21) else if i < 47 then qa43 (i - 43) else if i < 54 then qa54 (i - 47) else if i < 61 then qa65 (i - 54) else 0) (k + 47)) i_X0 ++ k_X0 E (fun k => (fun i => if i < 1 then h0 else if i < 19 then qa5 (i - 1) else if i < 21 then qa16 (i - 19) else if i < 43 then qa27 (i - 21) else if i < 47 then qa43 (i - 43) else if i < 54 then qa54 (i - 47) else if i < 61 then qa65 (i - 54) else 0) (k + 54)) i_X0))))))))) ++ k_H E (fun k => (fun i => if i < 1 then h0 else if i < 19 then qa5 (i - 1) else if i < 21 then qa16 (i - 19) else if i < 43 then qa27 (i - 21) else if i < 47 then qa43 (i - 43) else if i < 54 then qa54 (i - 47) else if i < 61 then qa65 (i - 54) else 0) (k + 20)) (fun _ => none))) [0, 1, 2, 3, 4, 5, 6, 7, 8, 9, 10, 11, 12, 13, 14, 15, 16, 17, 18, 19, 21, 22, 23, 24, 25, 26, 27, 28, 29, 30, 31, 32, 33, 34, 35, 36, 37, 38, 39, 40, 41, 42, 43, 44, 45, 46, 47, 48, 49, 50, 51, 52, 53, 54, 55, 56, 57, 58, 59, 60, 20] (by decide) rfl
  exact z_vret (k := (fun q => (k_X9 E q (-1) ++ (k_X2 E (fun k => q (k + 1)) i_X2 ++ (k_X4 E (fun k => q (k + 19)) (0, 0) ++ (k_X6 E (fun k => q (k + 21)) (0, 0) ++ (k_X5 E (fun k => q (k + 22)) i_X5 ++ (k_X3 E (fun k => q (k + 24)) i_X3 ++ (k_X2 E (fun k => q (k + 25)) i_X2 ++ (k_X8 E (fun k => q (k + 43)) i_X8 ++ (k_X0 E (fun k => q (k + 47)) i_X0 ++ k_X0 E (fun k => q (k + 54)) i_X0))))))))) ++ k_H E (fun k => q (k + 20)) (fun _ => none))) (fun i => if i < 1 then h0 else if i < 19 then qa5 (i - 1) else if i < 21 then qa16 (i - 19) else if i < 43 then qa27 (i - 21) else if i < 47 then qa43 (i - 43) else if i < 54 then qa54 (i - 47) else if i < 61 then qa65 (i - 54) else 0) C0 hP hD hS hw dX9_init_75
