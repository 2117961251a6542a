/-- the classes and arrays, as the start knows them -/
theorem z_lt {l : Launch} (h : l.flags = flags0) : l.stackTraces = false := by
  unfold Launch.stackTraces
  rw [h]
  decide +kernel
theorem z_Ar {s : State} {args : Array Value} {ty : FieldType} (h : (Cond.arrayClass ty).before args s = true) : ∃ cA, ArrOfT s cA ty ∧ s.vm.findClass ("[" ++ ty.toString) = some cA := by
  obtain ⟨cA, k, comp, h1, h2, h3⟩ := Cond.arrayClass_spec h
  exact ⟨cA, fun N z => ⟨(fun k h => by cases h), k, h2, comp, h3⟩, h1⟩
theorem z_ArO {s : State} {args : Array Value} {C : String} (h : (Cond.arrayOver (.object C)).before args s = true) : ∃ cA, ArrOfT s cA (.object C) ∧ va_RA s cA (.object C) := by
  obtain ⟨comp, cA, k, h1, h2, h3, h4, h5⟩ := Cond.arrayOver_spec h
  exact ⟨cA, fun N z => ⟨(fun k h => by cases h), k, h3, comp, h4⟩, k, comp, h3, h4, h1, h5⟩
theorem z_ArA {s : State} {args : Array Value} {t : FieldType} (h : (Cond.arrayOver (.array t)).before args s = true) : ∃ cA, ArrOfT s cA (.array t) ∧ s.vm.findClass ("[" ++ (FieldType.array t).toString) = some cA := by
  obtain ⟨comp, cA, k, h1, h2, h3, h4, h5⟩ := arrayOverA_spec h
  exact ⟨cA, fun N z => ⟨(fun k h => by cases h), k, h3, comp, h4⟩, h5⟩
theorem z_E {args : Array Value} {s : State} (hts : ∀ w ∈ wsU, w.before args s = true) : ∃ E : zE, va_K (zD E) vwCl (zT E) s := by
  obtain ⟨c0, i0, k0⟩ := u_known (C := RX0) (T := TX0) (N := 7) (n := 7) hts uw_X0 (hts _ wm_1_123)
  obtain ⟨c1, i1, k1⟩ := u_known (C := RX1) (T := TX1) (N := 7) (n := 7) hts uw_X1 (hts _ wm_1_161)
  obtain ⟨c2, i2, k2⟩ := u_known (C := RX2) (T := TX2) (N := 3) (n := 3) hts uw_X2 (hts _ wm_1_34)
  obtain ⟨c3, i3, k3⟩ := u_known (C := RX3) (T := TX3) (N := 2) (n := 2) hts uw_X3 (hts _ wm_2_41)
  obtain ⟨c4, i4, k4⟩ := u_known (C := RX4) (T := TX4) (N := 3) (n := 3) hts uw_X4 (hts _ wm_1_215)
  obtain ⟨c5, i5, k5⟩ := u_known (C := RX5) (T := TX5) (N := 9) (n := 9) hts uw_X5 (hts _ wm_1_239)
  obtain ⟨c6, i6, k6⟩ := u_known (C := RX6) (T := TX6) (N := 5) (n := 5) hts uw_X6 (hts _ wm_1_233)
  obtain ⟨c7, i7, k7⟩ := u_known (C := RX7) (T := TX7) (N := 16) (n := 16) hts uw_X7 (hts _ wm_1_40)
  obtain ⟨c8, i8, k8⟩ := u_known (C := RX8) (T := TX8) (N := 8) (n := 8) hts uw_X8 (hts _ wm_2_76)
  obtain ⟨c9, i9, k9⟩ := u_known (C := RX9) (T := TX9) (N := 7) (n := 7) hts uw_X9 (hts _ wm_1_26)
  obtain ⟨c10, i10, k10⟩ := u_known (C := RX10) (T := TX10) (N := 24) (n := 24) hts uw_X10 (hts _ wm_5_107)
  obtain ⟨a0, r0, f0⟩ := z_Ar (hts _ wm_1_121)
  obtain ⟨a1, r1, f1⟩ := z_Ar (hts _ wm_1_159)
  obtain ⟨a2, r2, f2⟩ := z_Ar (hts _ wm_1_198)
  obtain ⟨a3, r3, f3⟩ := z_Ar (hts _ wm_2_39)
  obtain ⟨a4, r4, f4⟩ := z_ArO (hts _ wm_1_221)
  obtain ⟨a5, r5, f5⟩ := z_ArA (hts _ wm_5_113)
  obtain ⟨a6, r6, f6⟩ := z_ArA (hts _ wm_5_115)
  refine ⟨(fun k => match k with | 0 => c0 | 1 => c1 | 2 => c2 | 3 => c3 | 4 => c4 | 5 => c5 | 6 => c6 | 7 => c7 | 8 => c8 | 9 => c9 | _ => c10, fun k => match k with | 0 => i0 | 1 => i1 | 2 => i2 | 3 => i3 | 4 => i4 | 5 => i5 | 6 => i6 | 7 => i7 | 8 => i8 | 9 => i9 | _ => i10, fun k => match k with | 0 => a0 | 1 => a1 | 2 => a2 | 3 => a3 | 4 => a4 | 5 => a5 | _ => a6), ?_, ?_⟩
  · intro k q hq
    match k, hq with
    | 0, hq => cases hq; exact k0
    | 1, hq => cases hq; exact k1
    | 2, hq => cases hq; exact k2
    | 3, hq => cases hq; exact k3
    | 4, hq => cases hq; exact k4
    | 5, hq => cases hq; exact k5
    | 6, hq => cases hq; exact k6
    | 7, hq => cases hq; exact k7
    | 8, hq => cases hq; exact k8
    | 9, hq => cases hq; exact k9
    | 10, hq => cases hq; exact k10
    | k + 11, hq => simp [vwCl] at hq
  · intro k q hq
    match k, hq with
    | 0, hq => cases hq; exact ⟨r0, f0⟩
    | 1, hq => cases hq; exact ⟨r1, f1⟩
    | 2, hq => cases hq; exact ⟨r2, f2⟩
    | 3, hq => cases hq; exact ⟨r3, f3⟩
    | 4, hq => cases hq; exact ⟨r4, f4⟩
    | 5, hq => cases hq; exact ⟨r5, f5⟩
    | 6, hq => cases hq; exact ⟨r6, f6⟩
    | k + 7, hq => simp [zT] at hq
section ZI
variable {p : Program} {l : Launch} {e : Env} {R : Room} {s : State} {m : MethodId} {args : Array Value} {below : List Frame} {meth : Method} {c : Code} {H : Heap} {locs : List Loc} {cells slots : Nat} {Q : State → Prop}
variable {pc : Nat} {ls : Array Slot} {rest st0 : List Value} {Z : zZ} {E : zE} {A : Nat → Prop} {ws wc wr : va_W} {mc ms : Nat}
/-- a constructor's call in the law -/
theorem z_lI {y : MethodName} {b : ByteArray} {n : Nat} {k idx : Nat} {rm : Room} {Qc : Array Value → State → Outcome → State → Prop} {As : List Value} {a : Nat} (hZ0 : zSt Z) (C0 : zL p s m args c) (hK : va_K (zD E) vwCl (zT E) s) (hZ : Z A s s.heap) (hA : ∀ q : Nat, s.heap.size ≤ q → A q) (hP : va_P (zD E) vwCl ws H) (hD : va_D A ws) (hS : va_S A s.heap H locs) (hls : ls.size = 8)
    (hM : Met l y (zws y b n none) rm (va_Pc (.ref a :: As) (zPre Z E wc H.size)) Qc mc ms (va_A wc H.size)) (hY : zYI RL idx y b n k) (isC : List Nat) (hC : isC.map (fun i => ws[i]?) = wc.map some) (hn : va_nd isC = true)
    (hR : rm.frames + 1 ≤ R.frames ∧ 8 + (n + 11) + rm.locals ≤ R.locals) (hrm : rm.cells = mc ∧ rm.slots = ms) (hl : As.length = k) (hst : st0 = As.reverse ++ .ref a :: rest) (hw : (rest.map fun v => v.category).sum ≤ 8) (hf : cells + mc ≤ R.cells ∧ slots + ms ≤ R.slots) (hdg : decode cL_law pc = .ok (.invokespecial idx, 3)) : zRn p l e R s m args below meth c H locs cells slots pc ls st0 rest mc ms Qc (Value.ref a :: As).toArray wc := by
  obtain ⟨hx, hb, hml, hown, hts⟩ := C0
  obtain ⟨h1, h2, h3, h4, h5, h6⟩ := hY
  exact va_runI (As := As) (rest := rest) ⟨hx, hb, hml, hown, hts⟩ hM ⟨z_cB hts hrm.1 hrm.2 hR h1 h2 h3 h4, h6, hts _ h5⟩ ⟨zPre_blind hZ0, z_pre hZ0 hK hZ hP hD hS hA isC hC hn⟩ rfl hl hls hst (lv_room hw) hdg hf
end ZI
def v_0 : S_L := (fun _ => 0, -1, i_X2, (0, 0), (0, 0), i_X5, i_X3, i_X2, i_X8, i_X0, i_X0, i_X10, (fun _ _ => 0, fun _ _ => 0), fun _ => none)
theorem bnd_0 (k : Nat) : bnd i_X7 k = false := by
  show (Int64.toBitVec 0).toNat.testBit k = false
  rw [show (Int64.toBitVec 0).toNat = 0 from rfl, Nat.zero_testBit]
theorem rC_0 : rC i_X2 (fun _ => 0) (fun _ => 0) := by
  refine ⟨⟨⟨rfl, rfl, rfl, rfl, rfl, rfl, rfl, rfl, rfl, rfl, rfl⟩, fun k hk => ⟨?_, fun q => ?_⟩, fun k hk q => ?_⟩, ?_, ⟨0, 0, by omega, rfl, by omega, rfl, ⟨rfl, fun p hp => absurd hp (by omega)⟩, fun p hp => absurd hp (by omega), fun p hp => absurd hp (by omega)⟩, ⟨0, 0, rfl, by omega, ⟨rfl, rfl, rfl, fun k hk => absurd hk (by omega)⟩, bB_0 rfl (fun k hk => rfl) 0⟩⟩
  · rw [show bnd i_X2.1 k = false from bnd_0 k]
    exact ⟨fun q => absurd q (by decide), fun q => absurd (show (0 : Int32) = 1 from q) (by decide)⟩
  · rw [show bnd i_X2.1 k = false from bnd_0 k] at q
    exact absurd q (by decide)
  · exact absurd q (nI_pos (by omega))
  · exact ⟨⟨0, by omega, rfl⟩, ⟨0, by omega, rfl⟩, ⟨0, by omega, rfl⟩, ⟨0, by omega, rfl⟩, ⟨0, by omega, rfl⟩, ⟨0, by omega, rfl⟩, ⟨0, by omega, rfl⟩, ⟨0, by omega, rfl⟩, ⟨0, by omega, rfl⟩, ⟨0, by omega, rfl⟩, ⟨0, by omega, rfl⟩⟩
theorem rLaw_0 : rLaw v_0 := ⟨rC_0, rfl, ⟨0, by omega, rfl, rfl, fun i hi => absurd hi (by omega)⟩, ⟨rfl, rfl, rfl, fun k hk => rfl⟩, ⟨0, 0, by omega, by omega, rfl, rfl, fun i hi => absurd hi (by omega)⟩⟩
