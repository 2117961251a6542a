/-! The frame of all walks: one list of words for every method (wsU), the ids of classes and arrays in one tuple (zE), what a method finds (zPre) and leaves (zAt), its entry (z_ofW), its calls (z_call..). -/
abbrev zE : Type := (Nat → ClassId) × (Nat → Nat → Nat) × (Nat → ClassId)
abbrev zD (E : zE) : va_G := (E.1, E.2.1)
abbrev zT (E : zE) : List (ClassId × FieldType) := [(E.2.2 0, .int), (E.2.2 1, .long), (E.2.2 2, .boolean), (E.2.2 3, .byte), (E.2.2 4, .object RX2), (E.2.2 5, .array .int), (E.2.2 6, .array .long)]
def zok (w : Cond) : Bool := goodWord w || (match w with
  | .fieldLinkNest _ _ _ _ _ _ => true
  | .methodLinkNest _ _ _ _ => true
  | .declares _ => true
  | .castable _ _ => true
  | .arrayOver (.object _) => true
  | .arrayOver (.array _) => true
  | _ => false)
def wsU : List Cond := lw_tbl.filter zok
theorem zok_warm {args a' : Array Value} {s U : State} {w : Cond} (h : zok w = true) (hW : s.WarmedH U.vm) (hb : w.before args s = true) : w.before a' U = true := by
  by_cases hg : goodWord w = true
  · exact word_at hW (good_of_word hg) hb
  · unfold zok at h
    have hg' : goodWord w = false := by simpa using hg
    rw [hg'] at h
    cases w with
    | fieldLinkNest => exact va_Nw.use rfl (va_Nw.warmF hW (va_Nw.of rfl hb))
    | methodLinkNest => exact va_Nw.use rfl (va_Nw.warmM hW (va_Nw.of rfl hb))
    | declares x => exact va_tabs rfl (u := s.setVm U.vm) rfl (A := args) (by rw [Cond.declares_setVm hW.alike]; exact hb)
    | castable a b => exact va_tabs rfl (u := s.setVm U.vm) rfl (A := args) (by rw [Cond.castable_setVm hW.alike]; exact hb)
    | arrayOver ty =>
      cases ty with
      | object C => exact va_AO.use (va_AO.moved hW.alike (va_AO.of hb))
      | array t => exact Jvm.Stand.arrayOver_alikeB hW.alike hb
      | _ => simp at h
    | _ => simp at h
theorem wsU_warm {args : Array Value} {s : State} (hts : ∀ w ∈ wsU, w.before args s = true) : ∀ w ∈ wsU, ∀ (a' : Array Value) (U : State), s.WarmedH U.vm → w.before a' U = true :=
  fun w hw a' U hW => zok_warm (List.mem_filter.mp hw).2 hW (hts w hw)
theorem zt1 {i : Nat} {w : Cond} (h : tables_1_1[i]? = some w) (hk : zok w = true) : w ∈ wsU := List.mem_filter.mpr ⟨List.mem_append_right _ (List.mem_append_left _ (List.mem_of_getElem? h)), hk⟩
theorem zt2 {i : Nat} {w : Cond} (h : tables_1_2[i]? = some w) (hk : zok w = true) : w ∈ wsU := List.mem_filter.mpr ⟨List.mem_append_right _ (List.mem_append_right _ (List.mem_append_left _ (List.mem_of_getElem? h))), hk⟩
theorem zt3 {i : Nat} {w : Cond} (h : tables_1_3[i]? = some w) (hk : zok w = true) : w ∈ wsU := List.mem_filter.mpr ⟨List.mem_append_right _ (List.mem_append_right _ (List.mem_append_right _ (List.mem_append_left _ (List.mem_of_getElem? h)))), hk⟩
theorem zt4 {i : Nat} {w : Cond} (h : tables_1_4[i]? = some w) (hk : zok w = true) : w ∈ wsU := List.mem_filter.mpr ⟨List.mem_append_right _ (List.mem_append_right _ (List.mem_append_right _ (List.mem_append_right _ (List.mem_append_left _ (List.mem_of_getElem? h))))), hk⟩
theorem zt5 {i : Nat} {w : Cond} (h : tables_1_5[i]? = some w) (hk : zok w = true) : w ∈ wsU := List.mem_filter.mpr ⟨List.mem_append_right _ (List.mem_append_right _ (List.mem_append_right _ (List.mem_append_right _ (List.mem_append_right _ (List.mem_append_left _ (List.mem_of_getElem? h)))))), hk⟩
theorem zt6 {i : Nat} {w : Cond} (h : tables_1_6[i]? = some w) (hk : zok w = true) : w ∈ wsU := List.mem_filter.mpr ⟨List.mem_append_right _ (List.mem_append_right _ (List.mem_append_right _ (List.mem_append_right _ (List.mem_append_right _ (List.mem_append_right _ (List.mem_append_left _ (List.mem_of_getElem? h))))))), hk⟩
theorem zt7 {i : Nat} {w : Cond} (h : tables_1_7[i]? = some w) (hk : zok w = true) : w ∈ wsU := List.mem_filter.mpr ⟨List.mem_append_right _ (List.mem_append_right _ (List.mem_append_right _ (List.mem_append_right _ (List.mem_append_right _ (List.mem_append_right _ (List.mem_append_right _ (List.mem_of_getElem? h))))))), hk⟩
/-- 'selects' of a private method -/
theorem zts {y : MethodName} {n : Nat} (h : (y, n) ∈ lw_privs) (hk : zok (Cond.selects y.cls y y) = true) : Cond.selects y.cls y y ∈ wsU := List.mem_filter.mpr ⟨List.mem_append_left _ (List.mem_map.mpr ⟨(y, n), h, rfl⟩), hk⟩
/-- the words of a method -/
def zws (y : MethodName) (b : ByteArray) (n : Nat) (r : Option FieldType) : List Cond := Cond.code y b n r :: wsU
abbrev zZ : Type := (Nat → Prop) → State → Heap → Prop
/-- what is said of cells that no method of the system changes (texts, statics): it stays -/
def zSt (Z : zZ) : Prop := (∀ (A B : Nat → Prop) (U : State) (H : Heap), (∀ q, B q → A q) → Z A U H → Z B U H) ∧ (∀ (A : Nat → Prop) (U : State) (H H1 : Heap), (∀ a : Nat, a < H.size → ¬ A a → H1[a]? = H[a]?) → Z A U H → Z A U H1) ∧ (∀ (A : Nat → Prop) (u U : State) (H : Heap), u.WarmedH U.vm → Z A u H → Z A U H)
def zC (p : Program) (s : State) (m : MethodId) (args : Array Value) (meth : Method) (c : Code) (y : MethodName) (cc : ByteArray) (nL : Nat) (ret : Option FieldType) : Prop :=
  p.tables.exec = Jvm.exec ∧ c.code = cc ∧ c.maxLocals = nL ∧ meth.sig.returnType = ret ∧ s.vm.findClass y.cls = some m.cls ∧ (∀ w ∈ wsU, w.before args s = true) ∧ meth.locks = false ∧ meth.name = y.name
def zPre (Z : zZ) (E : zE) (w : va_W) (sz : Nat) : State → Prop := fun U => U.heap.size = sz ∧ va_P (zD E) vwCl w U.heap ∧ va_K (zD E) vwCl (zT E) U ∧ va_D (fun _ => True) w ∧ Z (va_A w sz) U U.heap
def zAt {S : Type} (E : zE) (A : Nat → Prop) (k : S → va_W) : S → State → Prop := fun u t => va_P (zD E) vwCl (k u) t.heap ∧ va_D A (k u)
theorem zPre_blind {Z : zZ} (hZ0 : zSt Z) {E : zE} {w : va_W} {sz : Nat} {av : List Value} : FrameBlind (va_Pc av (zPre Z E w sz)) := by
  intro a U g mk q
  obtain ⟨q0, q1, qP, qK, qD, qZ⟩ := q
  exact ⟨q0, q1, qP, va_K.moved (u := U) (U := U.calling g mk a) (Vm.Alike.refl U.vm) qK, qD, hZ0.2.2 _ U (U.calling g mk a) _ (State.WarmedH.refl U) qZ⟩
theorem z_ofW {l : Launch} {y : MethodName} {cc : ByteArray} {maxL : Nat} {ret : Option FieldType} {rm : Room} {Z : zZ} {E : zE} {w : va_W} {sz : Nat} {av : List Value} {Qf : (Nat → Prop) → Array Value → State → Outcome → State → Prop} {mc ms : Nat}
    (hy : plainName y.cls = true) (hlen : (lg_sl av).length ≤ maxL)
    (body : ∀ (p : Program) (e : Env) (s : State) (m : MethodId) (args : Array Value) (below : List Frame) (meth : Method) (c : Code) (A : Nat → Prop) (ls : Array Slot), zC p s m args meth c y cc maxL ret → (∀ q : Nat, s.heap.size ≤ q → A q) → va_K (zD E) vwCl (zT E) s → Z A s s.heap → va_P (zD E) vwCl w s.heap → va_D A w → va_S A s.heap s.heap [] → lv_has ls maxL (lv_args 0 av) →
      W p l e rm s m args below meth c s.heap [] 0 0 (MQ below (Qf A) args s mc ms A) (F0 m 0 ls [])) :
    Met l y (zws y cc maxL ret) rm (va_Pc av (zPre Z E w sz)) (Qf (va_A w sz)) mc ms (va_A w sz) := by
  refine Met.ofW (cc := cc) (maxL := maxL) (ret := ret) hy rfl ?_
  intro p e s m args below meth c s₁ B hml hv
  obtain ⟨rfl, hsz, hP, hK, hD0, hZ⟩ := hv
  have hts := atoms_spec (ws := zws y cc maxL ret) B.pre
  subst hsz
  rw [lg_entry_eq]
  exact body p e s m _ below meth c _ _ ⟨B.exec, B.bytes, hml, B.returns, findClass_of_methodNamed B.named, fun w hw => hts w (List.mem_cons_of_mem _ hw), B.notSynchronized, (name_of_methodNamed B.named B.method).1⟩ (fun q h => Or.inr h) hK hZ hP hD0.self va_S.rf (lv_entry av hlen)
/-- a virtual call's words -/
def zYV (own : String) (idx : Nat) (y : MethodName) (b : ByteArray) (n : Nat) (r : Option FieldType) (k : Nat) : Prop := Cond.code y b n r ∈ wsU ∧ Cond.methodLink own idx y ∈ wsU ∧ Cond.initialized y.cls ∈ wsU ∧ (y.cls ≠ "java/lang/invoke/MethodHandle" ∧ y.cls ≠ "java/lang/invoke/VarHandle" ∧ (parseMethodDescriptor y.desc).map (fun d => d.parameters.length) = some k) ∧ Cond.instanceMethod y ∈ wsU ∧ Cond.selects y.cls y y ∈ wsU
def zYN (own : String) (idx : Nat) (y : MethodName) (host : String) (b : ByteArray) (n : Nat) (r : Option FieldType) (k : Nat) : Prop := Cond.code y b n r ∈ wsU ∧ Cond.methodLinkNest own idx y host ∈ wsU ∧ Cond.initialized y.cls ∈ wsU ∧ (y.cls ≠ "java/lang/invoke/MethodHandle" ∧ y.cls ≠ "java/lang/invoke/VarHandle" ∧ (parseMethodDescriptor y.desc).map (fun d => d.parameters.length) = some k) ∧ Cond.instanceMethod y ∈ wsU ∧ Cond.selects y.cls y y ∈ wsU
def zYS (own : String) (idx : Nat) (y : MethodName) (b : ByteArray) (n : Nat) (r : Option FieldType) (k : Nat) : Prop := Cond.code y b n r ∈ wsU ∧ Cond.methodLink own idx y ∈ wsU ∧ Cond.initialized y.cls ∈ wsU ∧ (y.cls ≠ "java/lang/invoke/MethodHandle" ∧ y.cls ≠ "java/lang/invoke/VarHandle" ∧ (parseMethodDescriptor y.desc).map (fun d => d.parameters.length) = some k) ∧ Cond.static y ∈ wsU
def zYI (own : String) (idx : Nat) (y : MethodName) (b : ByteArray) (n : Nat) (k : Nat) : Prop := Cond.code y b n none ∈ wsU ∧ Cond.methodLink own idx y ∈ wsU ∧ Cond.initialized y.cls ∈ wsU ∧ (y.cls ≠ "java/lang/invoke/MethodHandle" ∧ y.cls ≠ "java/lang/invoke/VarHandle" ∧ (parseMethodDescriptor y.desc).map (fun d => d.parameters.length) = some k) ∧ Cond.instanceMethod y ∈ wsU ∧ y.name = "<init>"
def zYJ (own : String) (idx : Nat) (y : MethodName) (host : String) (b : ByteArray) (n : Nat) (k : Nat) : Prop := Cond.code y b n none ∈ wsU ∧ Cond.methodLinkNest own idx y host ∈ wsU ∧ Cond.initialized y.cls ∈ wsU ∧ (y.cls ≠ "java/lang/invoke/MethodHandle" ∧ y.cls ≠ "java/lang/invoke/VarHandle" ∧ (parseMethodDescriptor y.desc).map (fun d => d.parameters.length) = some k) ∧ Cond.instanceMethod y ∈ wsU ∧ y.name = "<init>"
section ZB
variable {p : Program} {l : Launch} {e : Env} {R : Room} {s : State} {m : MethodId} {args : Array Value} {below : List Frame} {meth : Method} {c : Code} {H : Heap} {locs : List Loc} {cells slots : Nat} {Q : State → Prop}
theorem zws_warm {y : MethodName} {b : ByteArray} {n : Nat} {r : Option FieldType} (hts : ∀ w ∈ wsU, w.before args s = true) (hc : Cond.code y b n r ∈ wsU) : ∀ w ∈ zws y b n r, ∀ (a' : Array Value) (U : State), s.WarmedH U.vm → w.before a' U = true := by
  intro w hw
  rcases List.mem_cons.mp hw with rfl | h
  · exact wsU_warm hts _ hc
  · exact wsU_warm hts _ h
theorem z_len {y : MethodName} {k : Nat} (h : (parseMethodDescriptor y.desc).map (fun d => d.parameters.length) = some k) : ∀ sig, parseMethodDescriptor y.desc = some sig → k = sig.parameters.length := by
  intro sig hs
  rw [hs] at h
  exact (Option.some.inj h).symm
theorem z_cB {own : String} {idx : Nat} {y : MethodName} {b : ByteArray} {n : Nat} {r : Option FieldType} {k : Nat} {rm : Room} {mc ms : Nat} (hts : ∀ w ∈ wsU, w.before args s = true) (hrc : rm.cells = mc) (hrs : rm.slots = ms) (hR : rm.frames + 1 ≤ R.frames ∧ 8 + (n + 11) + rm.locals ≤ R.locals)
    (h1 : Cond.code y b n r ∈ wsU) (h2 : Cond.methodLink own idx y ∈ wsU) (h3 : Cond.initialized y.cls ∈ wsU) (h4 : y.cls ≠ "java/lang/invoke/MethodHandle" ∧ y.cls ≠ "java/lang/invoke/VarHandle" ∧ (parseMethodDescriptor y.desc).map (fun d => d.parameters.length) = some k) : CallB R s args own idx y b n r (zws y b n r) rm mc ms k :=
  ⟨hrc, hrs, hR.1, hR.2, zws_warm hts h1, List.mem_cons_self, hts _ h1, hts _ h3, ⟨h4.1, h4.2.1⟩, z_len h4.2.2, hts _ h2⟩
theorem z_cN {own host : String} {idx : Nat} {y : MethodName} {b : ByteArray} {n : Nat} {r : Option FieldType} {k : Nat} {rm : Room} {mc ms : Nat} (hts : ∀ w ∈ wsU, w.before args s = true) (hrc : rm.cells = mc) (hrs : rm.slots = ms) (hR : rm.frames + 1 ≤ R.frames ∧ 8 + (n + 11) + rm.locals ≤ R.locals)
    (h1 : Cond.code y b n r ∈ wsU) (h2 : Cond.methodLinkNest own idx y host ∈ wsU) (h3 : Cond.initialized y.cls ∈ wsU) (h4 : y.cls ≠ "java/lang/invoke/MethodHandle" ∧ y.cls ≠ "java/lang/invoke/VarHandle" ∧ (parseMethodDescriptor y.desc).map (fun d => d.parameters.length) = some k) : va_CN R s args own idx y host b n r (zws y b n r) rm mc ms k :=
  ⟨⟨hrc, hrs, hR.1, hR.2, zws_warm hts h1, List.mem_cons_self⟩, hts _ h1, hts _ h3, ⟨h4.1, h4.2.1⟩, z_len h4.2.2, hts _ h2⟩
/-- the callee's part of the world, ready for it -/
theorem z_pre {Z : zZ} {E : zE} {A : Nat → Prop} {ws wc : va_W} {av : List Value} (hZ0 : zSt Z) (hK : va_K (zD E) vwCl (zT E) s) (hZ : Z A s s.heap) (hP : va_P (zD E) vwCl ws H) (hD : va_D A ws) (hS : va_S A s.heap H locs) (hA : ∀ q : Nat, s.heap.size ≤ q → A q) (isC : List Nat) (hC : isC.map (fun i => ws[i]?) = wc.map some) (hn : va_nd isC = true) : ∀ U : State, U.heap = H → s.WarmedH U.vm → va_Pc av (zPre Z E wc H.size) av.toArray U := by
  intro U hU hW
  have hF := va_free (wc := wc) hD hS hA isC hC
  have hD1 := hD.sub isC hn hC
  have hP1 : va_P (zD E) vwCl wc H := by
    intro k q hk
    have h1 : (isC.map (fun i => ws[i]?))[k]? = some (some q) := by rw [hC, List.getElem?_map, hk]; rfl
    rw [List.getElem?_map] at h1
    cases hi : isC[k]? with
    | none => rw [hi] at h1; cases h1
    | some i => rw [hi] at h1; exact hP i q (Option.some.inj h1)
  refine ⟨rfl, by rw [hU], by rw [hU]; exact hP1, va_K.moved hW.alike hK, hD1.weaken (fun _ _ _ _ => trivial), ?_⟩
  rw [hU]
  exact hZ0.2.2 _ s U _ hW (hZ0.1 _ _ _ _ hF (hZ0.2.1 _ _ _ _ hS.2.1 hZ))
/-- behind a call: the rest and what came back, in the order wanted -/
theorem z_back {E : zE} {A : Nat → Prop} {ws wc wr w1 w2 : va_W} {H1 : Heap} (hP : va_P (zD E) vwCl ws H) (hD : va_D A ws) (hS : va_S A s.heap H locs) (hA : ∀ q : Nat, s.heap.size ≤ q → A q) (isC isR isP : List Nat) (hC : isC.map (fun i => ws[i]?) = wc.map some) (hR : isR.map (fun i => ws[i]?) = wr.map some) (hn : va_nd isR = true) (hdis : ∀ i ∈ isR, i ∉ isC)
    (hk : ∀ q : Nat, q < H.size → ¬ va_A wc H.size q → H1[q]? = H[q]?) (hP1 : va_P (zD E) vwCl w1 H1) (hD1 : va_D (va_A wc H.size) w1) (hp : isP.map (fun i => (wr ++ w1)[i]?) = w2.map some) (hpn : va_nd isP = true) : va_P (zD E) vwCl w2 H1 ∧ va_D A w2 := by
  obtain ⟨h1, h2⟩ := va_join (wr := wr) (w1 := w1) hP hD isC isR hC hR hn hdis hk (va_free (wc := wc) hD hS hA isC hC) hP1 hD1
  refine ⟨?_, h2.sub isP hpn hp⟩
  intro k q hq
  have h3 : (isP.map (fun i => (wr ++ w1)[i]?))[k]? = some (some q) := by rw [hp, List.getElem?_map, hq]; rfl
  rw [List.getElem?_map] at h3
  cases hi : isP[k]? with
  | none => rw [hi] at h3; cases h3
  | some i => rw [hi] at h3; exact h1 i q (Option.some.inj h3)
variable {pc : Nat} {ls : Array Slot} {rest st0 : List Value} {Z : zZ} {E : zE} {A : Nat → Prop} {ws wc wr : va_W} {mc ms : Nat}
abbrev zRn (p : Program) (l : Launch) (e : Env) (R : Room) (s : State) (m : MethodId) (args : Array Value) (below : List Frame) (meth : Method) (c : Code) (H : Heap) (locs : List Loc) (cells slots : Nat) (pc : Nat) (ls : Array Slot) (st0 rest : List Value) (mc ms : Nat) (Qc : Array Value → State → Outcome → State → Prop) (a : Array Value) (wc : va_W) : Prop := va_Run p l e R s m args below meth c H locs cells slots mc ms (F0 m pc ls st0) rest (Qc a) (va_A wc H.size)
/-- a virtual call in the same class -/
theorem z_rV {y0 y : MethodName} {cc b : ByteArray} {nL n : Nat} {ret0 r : Option FieldType} {k idx : Nat} {rm : Room} {Qc : Array Value → State → Outcome → State → Prop} {As : List Value} {a : Nat} (hZ0 : zSt Z) (C0 : zC p s m args meth c y0 cc nL ret0) (hK : va_K (zD E) vwCl (zT E) s) (hZ : Z A s s.heap) (hA : ∀ q : Nat, s.heap.size ≤ q → A q) (hP : va_P (zD E) vwCl ws H) (hD : va_D A ws) (hS : va_S A s.heap H locs) (hls : ls.size = nL)
    (hM : Met l y (zws y b n r) rm (va_Pc (.ref a :: As) (zPre Z E wc H.size)) Qc mc ms (va_A wc H.size)) (hY : zYV y0.cls idx y b n r k) (isC : List Nat) (hC : isC.map (fun i => ws[i]?) = wc.map some) (hn : va_nd isC = true) {ci : Nat} {q : vw_C} {fs : List Value} (hc : vwCl[ci]? = some q) (hq : q.1 = y.cls) (q0 : Nat) (he : ws[q0]? = some (a, .inr (ci, fs)))
    (hR : rm.frames + 1 ≤ R.frames ∧ 8 + (n + 11) + rm.locals ≤ R.locals) (hrm : rm.cells = mc ∧ rm.slots = ms) (hl : As.length = k) (hst : st0 = As.reverse ++ .ref a :: rest) (hw : (rest.map fun v => v.category).sum ≤ 8) (hf : cells + mc ≤ R.cells ∧ slots + ms ≤ R.slots) (hdg : decode cc pc = .ok (.invokevirtual idx, 3)) : zRn p l e R s m args below meth c H locs cells slots pc ls st0 rest mc ms Qc (Value.ref a :: As).toArray wc := by
  obtain ⟨hx, hb, hml, hr, hown, hts, hlocks, hin⟩ := C0
  obtain ⟨h1, h2, h3, h4, h5, h6⟩ := hY
  obtain ⟨cell, r1, r2, r3⟩ := va_recv hK hP hc he
  exact va_runV (As := As) (rest := rest) ⟨hx, hb, hml, hown, hts⟩ hM ⟨z_cB hts hrm.1 hrm.2 hR h1 h2 h3 h4, hts _ h5, hts _ h6⟩ ⟨zPre_blind hZ0, ⟨cell, r1, r2, by rw [← hq]; exact r3⟩, z_pre hZ0 hK hZ hP hD hS hA isC hC hn⟩ rfl hl hls hst (lv_room hw) hdg hf
/-- a virtual call of a nest mate -/
theorem z_rN {y0 y : MethodName} {host : String} {cc b : ByteArray} {nL n : Nat} {ret0 r : Option FieldType} {k idx : Nat} {rm : Room} {Qc : Array Value → State → Outcome → State → Prop} {As : List Value} {a : Nat} (hZ0 : zSt Z) (C0 : zC p s m args meth c y0 cc nL ret0) (hK : va_K (zD E) vwCl (zT E) s) (hZ : Z A s s.heap) (hA : ∀ q : Nat, s.heap.size ≤ q → A q) (hP : va_P (zD E) vwCl ws H) (hD : va_D A ws) (hS : va_S A s.heap H locs) (hls : ls.size = nL)
    (hM : Met l y (zws y b n r) rm (va_Pc (.ref a :: As) (zPre Z E wc H.size)) Qc mc ms (va_A wc H.size)) (hY : zYN y0.cls idx y host b n r k) (isC : List Nat) (hC : isC.map (fun i => ws[i]?) = wc.map some) (hn : va_nd isC = true) {ci : Nat} {q : vw_C} {fs : List Value} (hc : vwCl[ci]? = some q) (hq : q.1 = y.cls) (q0 : Nat) (he : ws[q0]? = some (a, .inr (ci, fs)))
    (hR : rm.frames + 1 ≤ R.frames ∧ 8 + (n + 11) + rm.locals ≤ R.locals) (hrm : rm.cells = mc ∧ rm.slots = ms) (hl : As.length = k) (hst : st0 = As.reverse ++ .ref a :: rest) (hw : (rest.map fun v => v.category).sum ≤ 8) (hf : cells + mc ≤ R.cells ∧ slots + ms ≤ R.slots) (hdg : decode cc pc = .ok (.invokevirtual idx, 3)) : zRn p l e R s m args below meth c H locs cells slots pc ls st0 rest mc ms Qc (Value.ref a :: As).toArray wc := by
  obtain ⟨hx, hb, hml, hr, hown, hts, hlocks, hin⟩ := C0
  obtain ⟨h1, h2, h3, h4, h5, h6⟩ := hY
  obtain ⟨cell, r1, r2, r3⟩ := va_recv hK hP hc he
  exact va_runVN (As := As) (rest := rest) ⟨hx, hb, hml, hown, hts⟩ hM ⟨z_cN hts hrm.1 hrm.2 hR h1 h2 h3 h4, hts _ h5, hts _ h6⟩ ⟨zPre_blind hZ0, ⟨cell, r1, r2, by rw [← hq]; exact r3⟩, z_pre hZ0 hK hZ hP hD hS hA isC hC hn⟩ rfl hl hls hst (lv_room hw) hdg hf
/-- a static call in the same class -/
theorem z_rS {y0 y : MethodName} {cc b : ByteArray} {nL n : Nat} {ret0 r : Option FieldType} {k idx : Nat} {rm : Room} {Qc : Array Value → State → Outcome → State → Prop} {As : List Value} (hZ0 : zSt Z) (C0 : zC p s m args meth c y0 cc nL ret0) (hK : va_K (zD E) vwCl (zT E) s) (hZ : Z A s s.heap) (hA : ∀ q : Nat, s.heap.size ≤ q → A q) (hP : va_P (zD E) vwCl ws H) (hD : va_D A ws) (hS : va_S A s.heap H locs) (hls : ls.size = nL)
    (hM : Met l y (zws y b n r) rm (va_Pc As (zPre Z E wc H.size)) Qc mc ms (va_A wc H.size)) (hY : zYS y0.cls idx y b n r k) (isC : List Nat) (hC : isC.map (fun i => ws[i]?) = wc.map some) (hn : va_nd isC = true)
    (hR : rm.frames + 1 ≤ R.frames ∧ 8 + (n + 11) + rm.locals ≤ R.locals) (hrm : rm.cells = mc ∧ rm.slots = ms) (hl : As.length = k) (hst : st0 = As.reverse ++ rest) (hw : (rest.map fun v => v.category).sum ≤ 8) (hf : cells + mc ≤ R.cells ∧ slots + ms ≤ R.slots) (hdg : decode cc pc = .ok (.invokestatic idx, 3)) : zRn p l e R s m args below meth c H locs cells slots pc ls st0 rest mc ms Qc As.toArray wc := by
  obtain ⟨hx, hb, hml, hr, hown, hts, hlocks, hin⟩ := C0
  obtain ⟨h1, h2, h3, h4, h5⟩ := hY
  exact va_runS (As := As) (rest := rest) ⟨hx, hb, hml, hown, hts⟩ hM ⟨z_cB hts hrm.1 hrm.2 hR h1 h2 h3 h4, hts _ h5⟩ ⟨zPre_blind hZ0, z_pre hZ0 hK hZ hP hD hS hA isC hC hn⟩ rfl hl hls hst (lv_room hw) hdg hf
/-- a constructor's call, of a nest mate -/
theorem z_rJ {y0 y : MethodName} {host : String} {cc b : ByteArray} {nL n : Nat} {ret0 : Option FieldType} {k idx : Nat} {rm : Room} {Qc : Array Value → State → Outcome → State → Prop} {As : List Value} {a : Nat} (hZ0 : zSt Z) (C0 : zC p s m args meth c y0 cc nL ret0) (hK : va_K (zD E) vwCl (zT E) s) (hZ : Z A s s.heap) (hA : ∀ q : Nat, s.heap.size ≤ q → A q) (hP : va_P (zD E) vwCl ws H) (hD : va_D A ws) (hS : va_S A s.heap H locs) (hls : ls.size = nL)
    (hM : Met l y (zws y b n none) rm (va_Pc (.ref a :: As) (zPre Z E wc H.size)) Qc mc ms (va_A wc H.size)) (hY : zYJ y0.cls idx y host b n k) (isC : List Nat) (hC : isC.map (fun i => ws[i]?) = wc.map some) (hn : va_nd isC = true)
    (hR : rm.frames + 1 ≤ R.frames ∧ 8 + (n + 11) + rm.locals ≤ R.locals) (hrm : rm.cells = mc ∧ rm.slots = ms) (hl : As.length = k) (hst : st0 = As.reverse ++ .ref a :: rest) (hw : (rest.map fun v => v.category).sum ≤ 8) (hf : cells + mc ≤ R.cells ∧ slots + ms ≤ R.slots) (hdg : decode cc pc = .ok (.invokespecial idx, 3)) : zRn p l e R s m args below meth c H locs cells slots pc ls st0 rest mc ms Qc (Value.ref a :: As).toArray wc := by
  obtain ⟨hx, hb, hml, hr, hown, hts, hlocks, hin⟩ := C0
  obtain ⟨h1, h2, h3, h4, h5, h6⟩ := hY
  exact va_runIN (As := As) (rest := rest) ⟨hx, hb, hml, hown, hts⟩ hM ⟨z_cN hts hrm.1 hrm.2 hR h1 h2 h3 h4, h6, hts _ h5⟩ ⟨zPre_blind hZ0, z_pre hZ0 hK hZ hP hD hS hA isC hC hn⟩ rfl hl hls hst (lv_room hw) hdg hf
variable {S : Type} {k : S → va_W} {a9 : Array Value}
theorem z_ki {post : Int32 → S → Prop} (hr : zRn p l e R s m args below meth c H locs cells slots pc ls st0 rest mc ms (va_Qi post (zAt E (va_A wc H.size) k) (va_A wc H.size)) a9 wc) (hP : va_P (zD E) vwCl ws H) (hD : va_D A ws) (hS : va_S A s.heap H locs) (hA : ∀ q : Nat, s.heap.size ≤ q → A q) (isC isR isP : List Nat) (hC : isC.map (fun i => ws[i]?) = wc.map some) (hR : isR.map (fun i => ws[i]?) = wr.map some) (hn : va_nd isR = true) (hdis : ∀ i ∈ isR, i ∉ isC) (w2 : S → va_W) (hp : ∀ u : S, isP.map (fun i => (wr ++ k u)[i]?) = (w2 u).map some) (hpn : va_nd isP = true)
    (kk : ∀ (r : Int32) (u : S) (H1 : Heap) (locs1 : List Loc), post r u → va_P (zD E) vwCl (w2 u) H1 → va_D A (w2 u) → va_S A s.heap H1 locs1 → W p l e R s m args below meth c H1 locs1 (cells + mc) (slots + ms) Q (F0 m (pc + 3) ls (.int r :: rest))) : W p l e R s m args below meth c H locs cells slots Q (F0 m pc ls st0) := by
  have hF := va_free (wc := wc) hD hS hA isC hC
  refine va_calli hr hS (fun q _ h => hF q h) hF (fun r u t H1 locs1 ht hvm hpo hB hz hk hS1 => ?_)
  obtain ⟨b1, b2⟩ := hB
  rw [ht] at b1
  obtain ⟨h1, h2⟩ := z_back hP hD hS hA isC isR isP hC hR hn hdis hk b1 b2 (hp u) hpn
  exact kk r u H1 locs1 hpo h1 h2 hS1
theorem z_kl {post : Int64 → S → Prop} (hr : zRn p l e R s m args below meth c H locs cells slots pc ls st0 rest mc ms (va_Ql post (zAt E (va_A wc H.size) k) (va_A wc H.size)) a9 wc) (hP : va_P (zD E) vwCl ws H) (hD : va_D A ws) (hS : va_S A s.heap H locs) (hA : ∀ q : Nat, s.heap.size ≤ q → A q) (isC isR isP : List Nat) (hC : isC.map (fun i => ws[i]?) = wc.map some) (hR : isR.map (fun i => ws[i]?) = wr.map some) (hn : va_nd isR = true) (hdis : ∀ i ∈ isR, i ∉ isC) (w2 : S → va_W) (hp : ∀ u : S, isP.map (fun i => (wr ++ k u)[i]?) = (w2 u).map some) (hpn : va_nd isP = true)
    (kk : ∀ (r : Int64) (u : S) (H1 : Heap) (locs1 : List Loc), post r u → va_P (zD E) vwCl (w2 u) H1 → va_D A (w2 u) → va_S A s.heap H1 locs1 → W p l e R s m args below meth c H1 locs1 (cells + mc) (slots + ms) Q (F0 m (pc + 3) ls (.long r :: rest))) : W p l e R s m args below meth c H locs cells slots Q (F0 m pc ls st0) := by
  have hF := va_free (wc := wc) hD hS hA isC hC
  refine va_calll hr hS (fun q _ h => hF q h) hF (fun r u t H1 locs1 ht hvm hpo hB hz hk hS1 => ?_)
  obtain ⟨b1, b2⟩ := hB
  rw [ht] at b1
  obtain ⟨h1, h2⟩ := z_back hP hD hS hA isC isR isP hC hR hn hdis hk b1 b2 (hp u) hpn
  exact kk r u H1 locs1 hpo h1 h2 hS1
theorem z_kv {post : S → Prop} (hr : zRn p l e R s m args below meth c H locs cells slots pc ls st0 rest mc ms (va_Qv post (zAt E (va_A wc H.size) k) (va_A wc H.size)) a9 wc) (hP : va_P (zD E) vwCl ws H) (hD : va_D A ws) (hS : va_S A s.heap H locs) (hA : ∀ q : Nat, s.heap.size ≤ q → A q) (isC isR isP : List Nat) (hC : isC.map (fun i => ws[i]?) = wc.map some) (hR : isR.map (fun i => ws[i]?) = wr.map some) (hn : va_nd isR = true) (hdis : ∀ i ∈ isR, i ∉ isC) (w2 : S → va_W) (hp : ∀ u : S, isP.map (fun i => (wr ++ k u)[i]?) = (w2 u).map some) (hpn : va_nd isP = true)
    (kk : ∀ (u : S) (H1 : Heap) (locs1 : List Loc), post u → va_P (zD E) vwCl (w2 u) H1 → va_D A (w2 u) → va_S A s.heap H1 locs1 → W p l e R s m args below meth c H1 locs1 (cells + mc) (slots + ms) Q (F0 m (pc + 3) ls rest)) : W p l e R s m args below meth c H locs cells slots Q (F0 m pc ls st0) := by
  have hF := va_free (wc := wc) hD hS hA isC hC
  refine va_callv hr hS (fun q _ h => hF q h) hF (fun u t H1 locs1 ht hvm hpo hB hz hk hS1 => ?_)
  obtain ⟨b1, b2⟩ := hB
  rw [ht] at b1
  obtain ⟨h1, h2⟩ := z_back hP hD hS hA isC isR isP hC hR hn hdis hk b1 b2 (hp u) hpn
  exact kk u H1 locs1 hpo h1 h2 hS1
/-- the ends of a method -/
theorem z_iret {A : Nat → Prop} {k : S → va_W} {post : Int32 → S → Prop} {cc : ByteArray} {y : MethodName} {nL : Nat} {v : Int32} (u : S) (C0 : zC p s m args meth c y cc nL (some .int)) (hP : va_P (zD E) vwCl (k u) H) (hD : va_D A (k u)) (hS : va_S A s.heap H locs) (hw : post v u) (hdg : decode cc pc = .ok (.ireturn, 1)) : W p l e R s m args below meth c H locs cells slots (MQ below (va_Qi post (zAt E A k) A) args s cells slots A) (F0 m pc ls [.int v]) :=
  W.iret C0.1 C0.2.1 C0.2.2.2.1 (fun t ht _ => ⟨⟨v, u, rfl, hw, by rw [ht]; exact hP, hD⟩, hS.F ht⟩) hS.2.2 hdg C0.2.2.2.2.2.2.1
theorem z_lret {A : Nat → Prop} {k : S → va_W} {post : Int64 → S → Prop} {cc : ByteArray} {y : MethodName} {nL : Nat} {v : Int64} (u : S) (C0 : zC p s m args meth c y cc nL (some .long)) (hP : va_P (zD E) vwCl (k u) H) (hD : va_D A (k u)) (hS : va_S A s.heap H locs) (hw : post v u) (hdg : decode cc pc = .ok (.lreturn, 1)) : W p l e R s m args below meth c H locs cells slots (MQ below (va_Ql post (zAt E A k) A) args s cells slots A) (F0 m pc ls [.long v]) :=
  W.lret C0.1 C0.2.1 C0.2.2.2.1 (fun t ht _ => ⟨⟨v, u, rfl, hw, by rw [ht]; exact hP, hD⟩, hS.F ht⟩) hS.2.2 hdg C0.2.2.2.2.2.2.1
theorem z_vret {A : Nat → Prop} {k : S → va_W} {post : S → Prop} {cc : ByteArray} {y : MethodName} {nL : Nat} (u : S) (C0 : zC p s m args meth c y cc nL none) (hP : va_P (zD E) vwCl (k u) H) (hD : va_D A (k u)) (hS : va_S A s.heap H locs) (hw : post u) (hdg : decode cc pc = .ok (.return_, 1)) : W p l e R s m args below meth c H locs cells slots (MQ below (va_Qv post (zAt E A k) A) args s cells slots A) (F0 m pc ls []) :=
  W.vret C0.1 C0.2.1 C0.2.2.2.1 (fun t ht _ => ⟨⟨u, rfl, hw, by rw [ht]; exact hP, hD⟩, hS.F ht⟩) hS.2.2 hdg C0.2.2.2.2.2.2.1
theorem z_zret {A : Nat → Prop} {k : S → va_W} {post : Int32 → S → Prop} {cc : ByteArray} {y : MethodName} {nL : Nat} {v : Int32} {ty : FieldType} (u : S) (C0 : zC p s m args meth c y cc nL (some ty)) (hn : narrow ty (.int v) = .int v) (hP : va_P (zD E) vwCl (k u) H) (hD : va_D A (k u)) (hS : va_S A s.heap H locs) (hw : post v u) (hdg : decode cc pc = .ok (.ireturn, 1)) : W p l e R s m args below meth c H locs cells slots (MQ below (va_Qi post (zAt E A k) A) args s cells slots A) (F0 m pc ls [.int v]) :=
  W.zret C0.1 C0.2.1 C0.2.2.2.1 hn (fun t ht _ => ⟨⟨v, u, rfl, hw, by rw [ht]; exact hP, hD⟩, hS.F ht⟩) hS.2.2 hdg C0.2.2.2.2.2.2.1
end ZB
/-- a loop: n rounds at most -/
def zl {σ : Type} (B : (σ → Prop) → σ → Prop) : Nat → σ → Prop
  | 0, _ => False
  | n + 1, s => B (zl B n) s
theorem zl_rule {σ : Type} {B : (σ → Prop) → σ → Prop} (I : σ → Prop) (μ : σ → Nat) (h : ∀ (s : σ) (K : σ → Prop), I s → (∀ s', I s' → μ s' < μ s → K s') → B K s) (s : σ) (hs : I s) : ∃ n, zl B n s := by
  have key : ∀ (n : Nat) (s : σ), I s → μ s < n → zl B n s := by
    intro n
    induction n with
    | zero => intro s _ h0; exact absurd h0 (Nat.not_lt_zero _)
    | succ n ih => intro s hI hm; exact h s (zl B n) hI (fun s' h1 h2 => ih s' h1 (by omega))
  exact ⟨_, key (μ s + 1) s hs (Nat.lt_succ_self _)⟩
