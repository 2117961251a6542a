/-- what stays, of the whole claim -/
def zZ0 (sa : Nat → Nat) : zZ := fun A U H => ((∀ j, j < 36 → zStr (sa j) (zsb j) A U H) ∧ ∀ q ∈ zsr, vk_R q.1 q.2.1 q.2.2.1 (sa q.2.2.2) U) ∧ zExc A U H ∧ va_Nc "java/lang/IllegalArgumentException" "java/lang/IndexOutOfBoundsException" U ∧ va_Nc "java/lang/IllegalStateException" "java/lang/IndexOutOfBoundsException" U ∧ va_Nc "java/lang/IllegalStateException" "java/lang/IllegalArgumentException" U
theorem zStr_narrow {a : Nat} {bs : List Int32} {A B : Nat → Prop} {U : State} {H : Heap} (hAB : ∀ q, B q → A q) (h : zStr a bs A U H) : zStr a bs B U H := by
  obtain ⟨h1, h2, ⟨v, h3, h4⟩, h5, h6⟩ := h
  exact ⟨h1.narrow hAB, h2.narrow hAB, ⟨v, h3.narrow hAB, h4.narrow hAB⟩, h5.narrow hAB, h6.narrow hAB⟩
theorem zStr_kept {a : Nat} {bs : List Int32} {A : Nat → Prop} {U : State} {H H1 : Heap} (hq : ∀ a : Nat, a < H.size → ¬ A a → H1[a]? = H[a]?) (h : zStr a bs A U H) : zStr a bs A U H1 := by
  obtain ⟨h1, h2, ⟨v, h3, h4⟩, h5, h6⟩ := h
  exact ⟨h1.kept hq, h2.kept hq, ⟨v, h3.kept hq, h4.kept hq⟩, h5.kept hq, h6.kept hq⟩
theorem zStr_moved {a : Nat} {bs : List Int32} {A : Nat → Prop} {u U : State} {H : Heap} (hW : u.vm.Alike U.vm) (h : zStr a bs A u H) : zStr a bs A U H := by
  obtain ⟨h1, h2, ⟨v, h3, h4⟩, h5, h6⟩ := h
  exact ⟨h1.moved hW, h2.moved hW, ⟨v, h3.moved hW, h4.moved hW⟩, h5.moved hW, h6.moved hW⟩
theorem zZ0_st (sa : Nat → Nat) : zSt (zZ0 sa) := by
  refine ⟨?_, ?_, ?_⟩
  · intro A B U H hAB h
    obtain ⟨⟨h1, h2⟩, ⟨h3, h4⟩, h5⟩ := h
    exact ⟨⟨fun j hj => zStr_narrow hAB (h1 j hj), h2⟩, ⟨h3.narrow hAB, h4.narrow hAB⟩, h5⟩
  · intro A U H H1 hq h
    obtain ⟨⟨h1, h2⟩, ⟨h3, h4⟩, h5⟩ := h
    exact ⟨⟨fun j hj => zStr_kept hq (h1 j hj), h2⟩, ⟨h3.kept hq, h4.kept hq⟩, h5⟩
  · intro A u U H hW h
    obtain ⟨⟨h1, h2⟩, ⟨h3, h4⟩, h5, h6, h7⟩ := h
    exact ⟨⟨fun j hj => zStr_moved hW.alike (h1 j hj), fun q hq => vk_R.warm hW (h2 q hq)⟩, ⟨h3.moved hW.alike, h4.moved hW.alike⟩, h5.moved hW.alike, h6.moved hW.alike, h7.moved hW.alike⟩
theorem z_tlS : Cond.laysStatic "java/lang/String" "COMPACT_STRINGS" "Z" ∈ lw_tbl := by decide +kernel
theorem z_tlP : Cond.laysStatic "jdk/internal/util/Preconditions" "SIOOBE_FORMATTER" "Ljava/util/function/BiFunction;" ∈ lw_tbl := by decide +kernel
theorem z_tlU : Cond.laysStatic Bundle.tN "UNASSIGNED_STACK" Bundle.steD ∈ lw_tbl := by decide +kernel
theorem z_tlN : Cond.laysStatic Bundle.tN "SUPPRESSED_SENTINEL" Bundle.listD ∈ lw_tbl := by decide +kernel
theorem z_tiS : Cond.initialized "java/lang/String" ∈ lw_tbl := by decide +kernel
theorem z_tiP : Cond.initialized "jdk/internal/util/Preconditions" ∈ lw_tbl := by decide +kernel
theorem z_tiT : Cond.initialized Bundle.tN ∈ lw_tbl := by decide +kernel
theorem z_fU : z_fl[4]? = some (Cond.isRef (.static Bundle.tN "UNASSIGNED_STACK" Bundle.steD)) := by decide +kernel
theorem z_fN : z_fl[5]? = some (Cond.isRef (.static Bundle.tN "SUPPRESSED_SENTINEL" Bundle.listD)) := by decide +kernel
theorem z_fS : z_fl[6]? = some (Cond.eq (.static "java/lang/String" "COMPACT_STRINGS" "Z") (.int 1)) := by decide +kernel
theorem z_fP : z_fl[7]? = some (Cond.isRef (.static "jdk/internal/util/Preconditions" "SIOOBE_FORMATTER" "Ljava/util/function/BiFunction;")) := by decide +kernel
theorem z_fa : z_fl[35]? = some (Cond.not (.castable "java/lang/IllegalArgumentException" "java/lang/IndexOutOfBoundsException")) := by decide +kernel
theorem z_fb : z_fl[36]? = some (Cond.not (.castable "java/lang/IllegalStateException" "java/lang/IndexOutOfBoundsException")) := by decide +kernel
theorem z_fc : z_fl[23]? = some (Cond.not (.castable "java/lang/IllegalStateException" "java/lang/IllegalArgumentException")) := by decide +kernel
/-- the start gives them -/
theorem zZ0_of {args : Array Value} {s : State} {A : Nat → Prop} (hts : ∀ w ∈ lw_tbl, w.before args s = true) (hg : ∀ w ∈ z_fl, w.before args s = true) (hA : ∀ a : Nat, a < s.heap.size → ¬ A a) : ∃ sa, zZ0 sa A s s.heap := by
  have hs : va_Z "java/lang/String" "COMPACT_STRINGS" "Z" (.int 1) A s s.heap := va_Zof (hts _ z_tlS) (hts _ z_tiS) (va_eqt (hg _ (List.mem_of_getElem? z_fS))) hA
  have hp : va_Zq "jdk/internal/util/Preconditions" "SIOOBE_FORMATTER" "Ljava/util/function/BiFunction;" A s s.heap := va_Zqof (hts _ z_tlP) (hts _ z_tiP) (hg _ (List.mem_of_getElem? z_fP)) hA
  have hu : vx_Zq Bundle.tN "UNASSIGNED_STACK" Bundle.steD A s s.heap := vx_Zqof (hts _ z_tlU) (hts _ z_tiT) (hg _ (List.mem_of_getElem? z_fU)) hA
  have hn : vx_Zq Bundle.tN "SUPPRESSED_SENTINEL" Bundle.listD A s s.heap := vx_Zqof (hts _ z_tlN) (hts _ z_tiT) (hg _ (List.mem_of_getElem? z_fN)) hA
  have h0 : ∀ j : Nat, ∃ a : Nat, j < 36 → (z_tm j).eval args s none [] s = some (.ref a) ∧ zStr a (zsb j) A s s.heap := by
    intro j
    by_cases hj : j < 36
    · have hin : ∀ w ∈ z_sL (z_tm j) (zsb j), w.before args s = true := fun w hw => hg w (List.mem_of_mem_drop (List.mem_of_mem_take (by rw [z_sc j hj]; exact hw)))
      have hex := hin (.exactly (z_tm j) "java/lang/String") (List.mem_cons_self)
      have hco := hin (.eq (.field (z_tm j) "java/lang/String" "coder" "B") (.int 0)) (List.mem_cons_of_mem _ List.mem_cons_self)
      have har := hin (.arrayOf (.field (z_tm j) "java/lang/String" "value" "[B") .byte) (List.mem_cons_of_mem _ (List.mem_cons_of_mem _ List.mem_cons_self))
      have hle := hin (.eq (.length (.field (z_tm j) "java/lang/String" "value" "[B")) (.int (Int32.ofNat (zsb j).length))) (List.mem_cons_of_mem _ (List.mem_cons_of_mem _ (List.mem_cons_of_mem _ List.mem_cons_self)))
      have hel : ∀ i : Nat, i < (zsb j).length → (Cond.eq (.elem (.field (z_tm j) "java/lang/String" "value" "[B") (.int (Int32.ofNat i))) (.int ((zsb j).getD i 0))).before args s = true := fun i hi => hin _ (List.mem_cons_of_mem _ (List.mem_cons_of_mem _ (List.mem_cons_of_mem _ (List.mem_cons_of_mem _ (List.mem_map.mpr ⟨i, List.mem_range.mpr hi, rfl⟩)))))
      obtain ⟨a, c, cA, kA, q1, q2, q3, q4, q5, q6, -⟩ := Cond.exactly_spec (args := args) (first := s) (o := none) (s := s) (idx := []) (t := z_tm j) (cls := "java/lang/String") hex
      obtain ⟨t, ht, hT⟩ := va_Tof (f := fun i => .int ((zsb j).getD i 0)) (A := A) (z_sl j hj) har (va_eqt hle) (fun i hi => va_eqt (hel i hi)) hA
      exact ⟨a, fun _ => ⟨q1, ⟨cA, q3, q5, by rw [q6]; exact q2, hA a (Array.getElem?_eq_some_iff.mp q3).1⟩, vk_OFof q1 (va_eqt hco) hA, ⟨t, vk_OFof q1 ht hA, hT⟩, hs, hp⟩⟩
    · exact ⟨0, fun h => absurd h hj⟩
  obtain ⟨sa, had⟩ := Classical.axiomOfChoice h0
  refine ⟨sa, ⟨fun j hj => (had j hj).2, fun q hq => ?_⟩, ⟨hu, hn⟩, va_Nc.of (hg _ (List.mem_of_getElem? z_fa)), va_Nc.of (hg _ (List.mem_of_getElem? z_fb)), va_Nc.of (hg _ (List.mem_of_getElem? z_fc))⟩
  have h1 := z_sq q hq
  have h2 := (had q.2.2.2 h1.1).1
  have h3 : z_tm q.2.2.2 = .string q.1 q.2.1 := by unfold z_tm; rw [h1.2]
  rw [h3] at h2
  exact vk_R.of (hts _ (z_sr q hq)) h2
