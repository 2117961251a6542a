/-! The law's own static methods: each calls a method of the class and answers 0, or the number of the exception that it caught. -/
def zwsH (y : MethodName) (b : ByteArray) (n : Nat) (r : Option FieldType) (hh : List (Nat × Nat × Nat × Nat)) : List Cond := Cond.codeWith y b n r hh :: wsU
def zYW (own : String) (idx : Nat) (y : MethodName) (b : ByteArray) (n : Nat) (r : Option FieldType) (hh : List (Nat × Nat × Nat × Nat)) (k : Nat) : Prop :=
  Cond.codeWith y b n r hh ∈ wsU ∧ Cond.methodLink own idx y ∈ wsU ∧ Cond.initialized y.cls ∈ wsU ∧ (y.cls ≠ "java/lang/invoke/MethodHandle" ∧ y.cls ≠ "java/lang/invoke/VarHandle" ∧ (parseMethodDescriptor y.desc).map (fun d => d.parameters.length) = some k) ∧ Cond.static y ∈ wsU
theorem z_ofH {l : Launch} {y : MethodName} {cc : ByteArray} {maxL : Nat} {ret : Option FieldType} {hh : List (Nat × Nat × Nat × Nat)} {rm : Room} {Z : zZ} {E : zE} {w : va_W} {sz : Nat} {av : List Value} {Qf : (Nat → Prop) → Array Value → State → Outcome → State → Prop} {mc ms : Nat}
    (hy : plainName y.cls = true) (hlen : (lg_sl av).length ≤ maxL)
    (body : ∀ (p : Program) (e : Env) (s : State) (m : MethodId) (args : Array Value) (below : List Frame) (meth : Method) (c : Code) (A : Nat → Prop) (ls : Array Slot), zC p s m args meth c y cc maxL ret → c.exceptionTable.toList = tableOf hh → (∀ q : Nat, s.heap.size ≤ q → A q) → va_K (zD E) vwCl (zT E) s → Z A s s.heap → va_P (zD E) vwCl w s.heap → va_D A w → va_S A s.heap s.heap [] → lv_has ls maxL (lv_args 0 av) →
      W p l e rm s m args below meth c s.heap [] 0 0 (MQ below (Qf A) args s mc ms A) (F0 m 0 ls [])) :
    Met l y (zwsH y cc maxL ret hh) rm (va_Pc av (zPre Z E w sz)) (Qf (va_A w sz)) mc ms (va_A w sz) := by
  refine MetFree.of_bodyS (code := cc) (maxLocals := maxL) (ret := ret) hy ?_ ?_
  · intro args s m h hn
    obtain ⟨m9, meth, c, hn9, h1, h2, h3, h4, -, h5, h6, -⟩ := Cond.codeWith_spec (atoms_spec (ws := zwsH y cc maxL ret hh) h _ List.mem_cons_self)
    cases hn.symm.trans hn9
    exact ⟨meth, c, h1, h2, h3, h4, h5, h6⟩
  · intro p e s m args below meth c s₁ B hml hv _
    have hh0 : s₁.heap = s.heap := by rw [B.state]; rfl
    obtain ⟨rfl, hsz, hP, hK, hD0, hZ⟩ := hv
    have hts := atoms_spec (ws := zwsH y cc maxL ret hh) B.pre
    have htab := vx_table (x := y) B (hts _ List.mem_cons_self)
    subst hsz
    have K := body p e s m _ below meth c _ _ ⟨B.exec, B.bytes, hml, B.returns, findClass_of_methodNamed B.named, fun w hw => hts w (List.mem_cons_of_mem _ hw), B.notSynchronized, (name_of_methodNamed B.named B.method).1⟩ htab (fun q h => Or.inr h) hK hZ hP hD0.self va_S.rf (lv_entry av hlen)
    rw [← lg_entry_eq] at K
    obtain ⟨t, a1, o, b1, b2, b3⟩ := K s₁ hh0 (Stand.of_body B)
    exact ⟨t, o, a1, b1, b2, b3⟩
theorem zin01 : vp_in 0 1 := by unfold vp_in; decide
section ZH
variable {p : Program} {l : Launch} {e : Env} {R : Room} {s : State} {m : MethodId} {args : Array Value} {below : List Frame} {meth : Method} {c : Code} {H : Heap} {locs : List Loc} {cells slots : Nat} {Q : State → Prop}
variable {pc : Nat} {ls : Array Slot} {rest st0 : List Value} {Z : zZ} {E : zE} {A : Nat → Prop} {ws wc wr : va_W} {mc ms : Nat}
variable {S : Type} {k : S → va_W} {a9 : Array Value}
theorem z_hki {post : Int32 → S → Prop} {px : String → S → Prop} (hr : vx_Run p l e R s m args below meth c H locs cells slots mc ms (F0 m pc ls st0) rest (va_Qi post (zAt E (va_A wc H.size) k) (va_A wc H.size) a9) (zXC E (va_A wc H.size) k px) (va_A wc H.size)) (hS : va_S A s.heap H locs) (hF : ∀ q, va_A wc H.size q → A q) (w2 : S → va_W) (hback : zBk E A H wc k w2)
    (kx : ∀ (X : String) (ce : Cell) (q9 : Addr) (u : S) (H1 : Heap) (locs1 : List Loc), px X u → va_P (zD E) vwCl (w2 u) H1 → va_D A (w2 u) → va_S A s.heap H1 locs1 → H1[q9]? = some ce → ce.vm = .none → s.vm.findClass X = some ce.cls → vx_W p l e R s m args below meth c H1 locs1 (cells + mc) (slots + ms) Q (F0 m pc ls rest) q9)
    (kk : ∀ (r : Int32) (u : S) (H1 : Heap) (locs1 : List Loc), post r u → va_P (zD E) vwCl (w2 u) H1 → va_D A (w2 u) → va_S A s.heap H1 locs1 → W p l e R s m args below meth c H1 locs1 (cells + mc) (slots + ms) Q (F0 m (pc + 3) ls (.int r :: rest))) : W p l e R s m args below meth c H locs cells slots Q (F0 m pc ls st0) := by
  refine vx_calli hr hS (fun q _ h => hF q h) hF (fun q _ h => hF q h) ?_ (fun r u t H1 locs1 ht hvm hpo hB hz hk hS1 => ?_)
  · intro X ce q9 u t H1 locs1 ht hvm hpu hB hz hk hS1 hce hcv hcl
    obtain ⟨X0, u⟩ := u
    obtain ⟨b0, b1, b2⟩ := hB
    have b0 : X = X0 := b0
    subst b0
    rw [ht] at b1
    obtain ⟨h1, h2⟩ := hback u H1 hk b1 b2
    exact kx X ce q9 u H1 locs1 hpu h1 h2 hS1 hce hcv hcl
  · obtain ⟨b1, b2⟩ := hB
    rw [ht] at b1
    obtain ⟨h1, h2⟩ := hback u H1 hk b1 b2
    exact kk r u H1 locs1 hpo h1 h2 hS1
theorem z_hkl {post : Int64 → S → Prop} {px : String → S → Prop} (hr : vx_Run p l e R s m args below meth c H locs cells slots mc ms (F0 m pc ls st0) rest (va_Ql post (zAt E (va_A wc H.size) k) (va_A wc H.size) a9) (zXC E (va_A wc H.size) k px) (va_A wc H.size)) (hS : va_S A s.heap H locs) (hF : ∀ q, va_A wc H.size q → A q) (w2 : S → va_W) (hback : zBk E A H wc k w2)
    (kx : ∀ (X : String) (ce : Cell) (q9 : Addr) (u : S) (H1 : Heap) (locs1 : List Loc), px X u → va_P (zD E) vwCl (w2 u) H1 → va_D A (w2 u) → va_S A s.heap H1 locs1 → H1[q9]? = some ce → ce.vm = .none → s.vm.findClass X = some ce.cls → vx_W p l e R s m args below meth c H1 locs1 (cells + mc) (slots + ms) Q (F0 m pc ls rest) q9)
    (kk : ∀ (r : Int64) (u : S) (H1 : Heap) (locs1 : List Loc), post r u → va_P (zD E) vwCl (w2 u) H1 → va_D A (w2 u) → va_S A s.heap H1 locs1 → W p l e R s m args below meth c H1 locs1 (cells + mc) (slots + ms) Q (F0 m (pc + 3) ls (.long r :: rest))) : W p l e R s m args below meth c H locs cells slots Q (F0 m pc ls st0) := by
  refine vx_calll hr hS (fun q _ h => hF q h) hF (fun q _ h => hF q h) ?_ (fun r u t H1 locs1 ht hvm hpo hB hz hk hS1 => ?_)
  · intro X ce q9 u t H1 locs1 ht hvm hpu hB hz hk hS1 hce hcv hcl
    obtain ⟨X0, u⟩ := u
    obtain ⟨b0, b1, b2⟩ := hB
    have b0 : X = X0 := b0
    subst b0
    rw [ht] at b1
    obtain ⟨h1, h2⟩ := hback u H1 hk b1 b2
    exact kx X ce q9 u H1 locs1 hpu h1 h2 hS1 hce hcv hcl
  · obtain ⟨b1, b2⟩ := hB
    rw [ht] at b1
    obtain ⟨h1, h2⟩ := hback u H1 hk b1 b2
    exact kk r u H1 locs1 hpo h1 h2 hS1
/-- what the law's method has, for its calls -/
abbrev zL (p : Program) (s : State) (m : MethodId) (args : Array Value) (c : Code) : Prop := p.tables.exec = Jvm.exec ∧ c.code = cL_law ∧ c.maxLocals = 8 ∧ s.vm.findClass RL = some m.cls ∧ (∀ w ∈ wsU, w.before args s = true)
theorem z_lV {y : MethodName} {b : ByteArray} {n : Nat} {r : Option FieldType} {k idx : Nat} {rm : Room} {Qc : Array Value → State → Outcome → State → Prop} {As : List Value} {a : Nat} (hZ0 : zSt Z) (C0 : zL p s m args c) (hK : va_K (zD E) vwCl (zT E) s) (hP : va_P (zD E) vwCl ws H) (hls : ls.size = 8)
    (hM : Met l y (zws y b n r) rm (va_Pc (.ref a :: As) (zPre Z E wc H.size)) Qc mc ms (va_A wc H.size)) (hY : zYV RL idx y b n r k) (hpre : ∀ U : State, U.heap = H → s.WarmedH U.vm → va_Pc (.ref a :: As) (zPre Z E wc H.size) (Value.ref a :: As).toArray U) {ci : Nat} {q : vw_C} {fs : List Value} (hc : vwCl[ci]? = some q) (hq : q.1 = y.cls) (q0 : Nat) (he : ws[q0]? = some (a, .inr (ci, fs)))
    (hR : rm.frames + 1 ≤ R.frames ∧ 8 + (n + 11) + rm.locals ≤ R.locals) (hrm : rm.cells = mc ∧ rm.slots = ms) (hl : As.length = k) (hst : st0 = As.reverse ++ .ref a :: rest) (hw : (rest.map fun v => v.category).sum ≤ 8) (hf : cells + mc ≤ R.cells ∧ slots + ms ≤ R.slots) (hdg : decode cL_law pc = .ok (.invokevirtual idx, 3)) : zRn p l e R s m args below meth c H locs cells slots pc ls st0 rest mc ms Qc (Value.ref a :: As).toArray wc := by
  obtain ⟨hx, hb, hml, hown, hts⟩ := C0
  obtain ⟨h1, h2, h3, h4, h5, h6⟩ := hY
  obtain ⟨cell, r1, r2, r3⟩ := va_recv hK hP hc he
  exact va_runV (As := As) (rest := rest) ⟨hx, hb, hml, hown, hts⟩ hM ⟨z_cB hts hrm.1 hrm.2 hR h1 h2 h3 h4, hts _ h5, hts _ h6⟩ ⟨zPre_blind hZ0, ⟨cell, r1, r2, by rw [← hq]; exact r3⟩, hpre⟩ rfl hl hls hst (lv_room hw) hdg hf
theorem z_lW {y : MethodName} {b : ByteArray} {n : Nat} {r : Option FieldType} {hh : List (Nat × Nat × Nat × Nat)} {k idx : Nat} {rm : Room} {Qc : Array Value → State → Outcome → State → Prop} {As : List Value} (hZ0 : zSt Z) (C0 : zL p s m args c) (hls : ls.size = 8)
    (hM : Met l y (zwsH y b n r hh) rm (va_Pc As (zPre Z E wc H.size)) Qc mc ms (va_A wc H.size)) (hY : zYW RL idx y b n r hh k) (hpre : ∀ U : State, U.heap = H → s.WarmedH U.vm → va_Pc As (zPre Z E wc H.size) As.toArray U)
    (hR : rm.frames + 1 ≤ R.frames ∧ 8 + (n + 11) + rm.locals ≤ R.locals) (hrm : rm.cells = mc ∧ rm.slots = ms) (hl : As.length = k) (hst : st0 = As.reverse ++ rest) (hw : (rest.map fun v => v.category).sum ≤ 8) (hf : cells + mc ≤ R.cells ∧ slots + ms ≤ R.slots) (hdg : decode cL_law pc = .ok (.invokestatic idx, 3)) : zRn p l e R s m args below meth c H locs cells slots pc ls st0 rest mc ms Qc As.toArray wc := by
  obtain ⟨hx, hb, hml, hown, hts⟩ := C0
  obtain ⟨h1, h2, h3, h4, h5⟩ := hY
  have hwarm : ∀ w ∈ zwsH y b n r hh, ∀ (a' : Array Value) (U : State), s.WarmedH U.vm → w.before a' U = true := by
    intro w hw
    rcases List.mem_cons.mp hw with e | h
    · subst e; exact wsU_warm hts _ h1
    · exact wsU_warm hts _ h
  exact vx_runSW (As := As) (rest := rest) (own := RL) ⟨hx, hb, hml, hown, hts⟩ hM ⟨⟨hrm.1, hrm.2, hR.1, hR.2, hwarm, List.mem_cons_self⟩, hts _ h1, hts _ h3, ⟨h4.1, h4.2.1⟩, z_len h4.2.2, hts _ h2, hts _ h5⟩ ⟨zPre_blind hZ0, hpre⟩ rfl hl hls hst (lv_room hw) hdg hf
end ZH
