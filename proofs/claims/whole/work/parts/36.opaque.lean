/-! Calls in a world that ends in a part of unknown length (pl): the callee has that part too (P), or not (Q). -/
section ZO
variable {p : Program} {l : Launch} {e : Env} {R : Room} {s : State} {m : MethodId} {args : Array Value} {below : List Frame} {meth : Method} {c : Code} {H : Heap} {locs : List Loc} {cells slots : Nat} {Q : State → Prop}
variable {pc : Nat} {ls : Array Slot} {rest st0 : List Value} {Z : zZ} {E : zE} {A : Nat → Prop} {ws wc wr X cx pl : va_W} {mc ms : Nat}
theorem z_preG {av : List Value} (hZ0 : zSt Z) (hK : va_K (zD E) vwCl (zT E) s) (hZ : Z A s s.heap) (hP1 : va_P (zD E) vwCl wc H) (hD1 : va_D A wc) (hF : ∀ q, va_A wc H.size q → A q) (hS : va_S A s.heap H locs) : ∀ U : State, U.heap = H → s.WarmedH U.vm → va_Pc av (zPre Z E wc H.size) av.toArray U := by
  intro U hU hW
  refine ⟨rfl, by rw [hU], by rw [hU]; exact hP1, va_K.moved hW.alike hK, hD1.weaken (fun _ _ _ _ => trivial), ?_⟩
  rw [hU]
  exact hZ0.2.2 _ s U _ hW (hZ0.1 _ _ _ _ hF (hZ0.2.1 _ _ _ _ hS.2.1 hZ))
theorem z_preP {av : List Value} (hZ0 : zSt Z) (hK : va_K (zD E) vwCl (zT E) s) (hZ : Z A s s.heap) (hP : va_P (zD E) vwCl (X ++ pl) H) (hD : va_D A (X ++ pl)) (hS : va_S A s.heap H locs) (hA : ∀ q : Nat, s.heap.size ≤ q → A q) (isC : List Nat) (hC : isC.map (fun i => X[i]?) = cx.map some) (hn : va_nd isC = true) : ∀ U : State, U.heap = H → s.WarmedH U.vm → va_Pc av (zPre Z E (cx ++ pl) H.size) av.toArray U :=
  z_preG hZ0 hK hZ (hP.part isC hC) (hD.part isC hn hC) (va_freeP hD hS hA isC hC) hS
theorem z_preQ {av : List Value} (hZ0 : zSt Z) (hK : va_K (zD E) vwCl (zT E) s) (hZ : Z A s s.heap) (hP : va_P (zD E) vwCl (X ++ pl) H) (hD : va_D A (X ++ pl)) (hS : va_S A s.heap H locs) (hA : ∀ q : Nat, s.heap.size ≤ q → A q) (isC : List Nat) (hC : isC.map (fun i => (X ++ pl)[i]?) = cx.map some) (hn : va_nd isC = true) : ∀ U : State, U.heap = H → s.WarmedH U.vm → va_Pc av (zPre Z E cx H.size) av.toArray U := z_pre hZ0 hK hZ hP hD hS hA isC hC hn
theorem z_backQ {w1 w2 : va_W} {H1 : Heap} (hP : va_P (zD E) vwCl (X ++ pl) H) (hD : va_D A (X ++ pl)) (hS : va_S A s.heap H locs) (hA : ∀ q : Nat, s.heap.size ≤ q → A q) (isC isR isP : List Nat) (hC : isC.map (fun i => X[i]?) = cx.map some) (hR : isR.map (fun i => X[i]?) = wr.map some) (hn : va_nd isR = true) (hdis : ∀ i ∈ isR, i ∉ isC)
    (hF : ∀ q, va_A cx H.size q → A q) (hk : ∀ q : Nat, q < H.size → ¬ va_A cx H.size q → H1[q]? = H[q]?) (hP1 : va_P (zD E) vwCl w1 H1) (hD1 : va_D (va_A cx H.size) w1) (hp : isP.map (fun i => (wr ++ w1)[i]?) = w2.map some) (hpn : va_nd isP = true) : va_P (zD E) vwCl (w2 ++ pl) H1 ∧ va_D A (w2 ++ pl) := by
  obtain ⟨h1, h2⟩ := va_joinQ (wr := wr) (w1 := w1) hP hD isC isR hC hR hn hdis hk hF hP1 hD1
  exact ⟨h1.part isP hp, h2.part isP hpn hp⟩
theorem z_backP {rx pl1 w2 : va_W} {H1 : Heap} (hP : va_P (zD E) vwCl (X ++ pl) H) (hD : va_D A (X ++ pl)) (hS : va_S A s.heap H locs) (hA : ∀ q : Nat, s.heap.size ≤ q → A q) (isC isR isP : List Nat) (hC : isC.map (fun i => X[i]?) = cx.map some) (hR : isR.map (fun i => X[i]?) = wr.map some) (hn : va_nd isR = true) (hdis : ∀ i ∈ isR, i ∉ isC)
    (hk : ∀ q : Nat, q < H.size → ¬ va_A (cx ++ pl) H.size q → H1[q]? = H[q]?) (hP1 : va_P (zD E) vwCl (rx ++ pl1) H1) (hD1 : va_D (va_A (cx ++ pl) H.size) (rx ++ pl1)) (hp : isP.map (fun i => (wr ++ rx)[i]?) = w2.map some) (hpn : va_nd isP = true) : va_P (zD E) vwCl (w2 ++ pl1) H1 ∧ va_D A (w2 ++ pl1) := by
  obtain ⟨h1, h2⟩ := va_joinP (wr := wr) (rx := rx) (pl1 := pl1) hP hD isC isR hC hR hn hdis hk (va_freeP hD hS hA isC hC) hP1 hD1
  exact ⟨h1.part isP hp, h2.part isP hpn hp⟩
/-- a virtual call of a nest mate, its part of the world at hand -/
theorem z_gN {y0 y : MethodName} {host : String} {cc b : ByteArray} {nL n : Nat} {ret0 r : Option FieldType} {k idx : Nat} {rm : Room} {Qc : Array Value → State → Outcome → State → Prop} {As : List Value} {a : Nat} (hZ0 : zSt Z) (C0 : zC p s m args meth c y0 cc nL ret0) (hK : va_K (zD E) vwCl (zT E) s) (hP : va_P (zD E) vwCl ws H) (hls : ls.size = nL)
    (hM : Met l y (zws y b n r) rm (va_Pc (.ref a :: As) (zPre Z E wc H.size)) Qc mc ms (va_A wc H.size)) (hY : zYN y0.cls idx y host b n r k) (hpre : ∀ U : State, U.heap = H → s.WarmedH U.vm → va_Pc (.ref a :: As) (zPre Z E wc H.size) (Value.ref a :: As).toArray U) {ci : Nat} {q : vw_C} {fs : List Value} (hc : vwCl[ci]? = some q) (hq : q.1 = y.cls) (q0 : Nat) (he : ws[q0]? = some (a, .inr (ci, fs)))
    (hR : rm.frames + 1 ≤ R.frames ∧ 8 + (n + 11) + rm.locals ≤ R.locals) (hrm : rm.cells = mc ∧ rm.slots = ms) (hl : As.length = k) (hst : st0 = As.reverse ++ .ref a :: rest) (hw : (rest.map fun v => v.category).sum ≤ 8) (hf : cells + mc ≤ R.cells ∧ slots + ms ≤ R.slots) (hdg : decode cc pc = .ok (.invokevirtual idx, 3)) : zRn p l e R s m args below meth c H locs cells slots pc ls st0 rest mc ms Qc (Value.ref a :: As).toArray wc := by
  obtain ⟨hx, hb, hml, hr, hown, hts, hlocks, hin⟩ := C0
  obtain ⟨h1, h2, h3, h4, h5, h6⟩ := hY
  obtain ⟨cell, r1, r2, r3⟩ := va_recv hK hP hc he
  exact va_runVN (As := As) (rest := rest) ⟨hx, hb, hml, hown, hts⟩ hM ⟨z_cN hts hrm.1 hrm.2 hR h1 h2 h3 h4, hts _ h5, hts _ h6⟩ ⟨zPre_blind hZ0, ⟨cell, r1, r2, by rw [← hq]; exact r3⟩, hpre⟩ rfl hl hls hst (lv_room hw) hdg hf
theorem z_gV {y0 y : MethodName} {cc b : ByteArray} {nL n : Nat} {ret0 r : Option FieldType} {k idx : Nat} {rm : Room} {Qc : Array Value → State → Outcome → State → Prop} {As : List Value} {a : Nat} (hZ0 : zSt Z) (C0 : zC p s m args meth c y0 cc nL ret0) (hK : va_K (zD E) vwCl (zT E) s) (hP : va_P (zD E) vwCl ws H) (hls : ls.size = nL)
    (hM : Met l y (zws y b n r) rm (va_Pc (.ref a :: As) (zPre Z E wc H.size)) Qc mc ms (va_A wc H.size)) (hY : zYV y0.cls idx y b n r k) (hpre : ∀ U : State, U.heap = H → s.WarmedH U.vm → va_Pc (.ref a :: As) (zPre Z E wc H.size) (Value.ref a :: As).toArray U) {ci : Nat} {q : vw_C} {fs : List Value} (hc : vwCl[ci]? = some q) (hq : q.1 = y.cls) (q0 : Nat) (he : ws[q0]? = some (a, .inr (ci, fs)))
    (hR : rm.frames + 1 ≤ R.frames ∧ 8 + (n + 11) + rm.locals ≤ R.locals) (hrm : rm.cells = mc ∧ rm.slots = ms) (hl : As.length = k) (hst : st0 = As.reverse ++ .ref a :: rest) (hw : (rest.map fun v => v.category).sum ≤ 8) (hf : cells + mc ≤ R.cells ∧ slots + ms ≤ R.slots) (hdg : decode cc pc = .ok (.invokevirtual idx, 3)) : zRn p l e R s m args below meth c H locs cells slots pc ls st0 rest mc ms Qc (Value.ref a :: As).toArray wc := by
  obtain ⟨hx, hb, hml, hr, hown, hts, hlocks, hin⟩ := C0
  obtain ⟨h1, h2, h3, h4, h5, h6⟩ := hY
  obtain ⟨cell, r1, r2, r3⟩ := va_recv hK hP hc he
  exact va_runV (As := As) (rest := rest) ⟨hx, hb, hml, hown, hts⟩ hM ⟨z_cB hts hrm.1 hrm.2 hR h1 h2 h3 h4, hts _ h5, hts _ h6⟩ ⟨zPre_blind hZ0, ⟨cell, r1, r2, by rw [← hq]; exact r3⟩, hpre⟩ rfl hl hls hst (lv_room hw) hdg hf
theorem z_gX {y0 y : MethodName} {cc b : ByteArray} {nL n : Nat} {ret0 r : Option FieldType} {k idx : Nat} {rm : Room} {Qc : Array Value → State → Outcome → State → Prop} {XC : String → State → State → Prop} {As : List Value} {a : Nat} (hZ0 : zSt Z) (C0 : zC p s m args meth c y0 cc nL ret0) (hK : va_K (zD E) vwCl (zT E) s) (hP : va_P (zD E) vwCl ws H) (hls : ls.size = nL)
    (hM : vx_Met l y (zws y b n r) rm (va_Pc (.ref a :: As) (zPre Z E wc H.size)) Qc XC mc ms (va_A wc H.size)) (hY : zYV y0.cls idx y b n r k) (hpre : ∀ U : State, U.heap = H → s.WarmedH U.vm → va_Pc (.ref a :: As) (zPre Z E wc H.size) (Value.ref a :: As).toArray U) {ci : Nat} {q : vw_C} {fs : List Value} (hc : vwCl[ci]? = some q) (hq : q.1 = y.cls) (q0 : Nat) (he : ws[q0]? = some (a, .inr (ci, fs)))
    (hR : rm.frames + 1 ≤ R.frames ∧ 8 + (n + 11) + rm.locals ≤ R.locals) (hrm : rm.cells = mc ∧ rm.slots = ms) (hl : As.length = k) (hst : st0 = As.reverse ++ .ref a :: rest) (hw : (rest.map fun v => v.category).sum ≤ 8) (hf : cells + mc ≤ R.cells ∧ slots + ms ≤ R.slots) (hdg : decode cc pc = .ok (.invokevirtual idx, 3)) : vx_Run p l e R s m args below meth c H locs cells slots mc ms (F0 m pc ls st0) rest (Qc (Value.ref a :: As).toArray) XC (va_A wc H.size) := by
  obtain ⟨hx, hb, hml, hr, hown, hts, hlocks, hin⟩ := C0
  obtain ⟨h1, h2, h3, h4, h5, h6⟩ := hY
  obtain ⟨cell, r1, r2, r3⟩ := va_recv hK hP hc he
  exact vx_runV (As := As) (rest := rest) ⟨hx, hb, hml, hown, hts⟩ hM ⟨z_cB hts hrm.1 hrm.2 hR h1 h2 h3 h4, hts _ h5, hts _ h6⟩ ⟨zPre_blind hZ0, ⟨cell, r1, r2, by rw [← hq]; exact r3⟩, hpre⟩ rfl hl hls hst (lv_room hw) hdg hf
variable {S : Type} {k : S → va_W} {a9 : Array Value}
abbrev zBk (E : zE) (A : Nat → Prop) (H : Heap) (wc : va_W) {S : Type} (k w2 : S → va_W) : Prop := ∀ (u : S) (H1 : Heap), (∀ q : Nat, q < H.size → ¬ va_A wc H.size q → H1[q]? = H[q]?) → va_P (zD E) vwCl (k u) H1 → va_D (va_A wc H.size) (k u) → va_P (zD E) vwCl (w2 u) H1 ∧ va_D A (w2 u)
theorem z_gki {post : Int32 → S → Prop} (hr : zRn p l e R s m args below meth c H locs cells slots pc ls st0 rest mc ms (va_Qi post (zAt E (va_A wc H.size) k) (va_A wc H.size)) a9 wc) (hS : va_S A s.heap H locs) (hF : ∀ q, va_A wc H.size q → A q) (w2 : S → va_W) (hback : zBk E A H wc k w2)
    (kk : ∀ (r : Int32) (u : S) (H1 : Heap) (locs1 : List Loc), post r u → va_P (zD E) vwCl (w2 u) H1 → va_D A (w2 u) → va_S A s.heap H1 locs1 → W p l e R s m args below meth c H1 locs1 (cells + mc) (slots + ms) Q (F0 m (pc + 3) ls (.int r :: rest))) : W p l e R s m args below meth c H locs cells slots Q (F0 m pc ls st0) := by
  refine va_calli hr hS (fun q _ h => hF q h) hF (fun r u t H1 locs1 ht hvm hpo hB hz hk hS1 => ?_)
  obtain ⟨b1, b2⟩ := hB
  rw [ht] at b1
  obtain ⟨h1, h2⟩ := hback u H1 hk b1 b2
  exact kk r u H1 locs1 hpo h1 h2 hS1
theorem z_gkl {post : Int64 → S → Prop} (hr : zRn p l e R s m args below meth c H locs cells slots pc ls st0 rest mc ms (va_Ql post (zAt E (va_A wc H.size) k) (va_A wc H.size)) a9 wc) (hS : va_S A s.heap H locs) (hF : ∀ q, va_A wc H.size q → A q) (w2 : S → va_W) (hback : zBk E A H wc k w2)
    (kk : ∀ (r : Int64) (u : S) (H1 : Heap) (locs1 : List Loc), post r u → va_P (zD E) vwCl (w2 u) H1 → va_D A (w2 u) → va_S A s.heap H1 locs1 → W p l e R s m args below meth c H1 locs1 (cells + mc) (slots + ms) Q (F0 m (pc + 3) ls (.long r :: rest))) : W p l e R s m args below meth c H locs cells slots Q (F0 m pc ls st0) := by
  refine va_calll hr hS (fun q _ h => hF q h) hF (fun r u t H1 locs1 ht hvm hpo hB hz hk hS1 => ?_)
  obtain ⟨b1, b2⟩ := hB
  rw [ht] at b1
  obtain ⟨h1, h2⟩ := hback u H1 hk b1 b2
  exact kk r u H1 locs1 hpo h1 h2 hS1
theorem z_gkv {post : S → Prop} (hr : zRn p l e R s m args below meth c H locs cells slots pc ls st0 rest mc ms (va_Qv post (zAt E (va_A wc H.size) k) (va_A wc H.size)) a9 wc) (hS : va_S A s.heap H locs) (hF : ∀ q, va_A wc H.size q → A q) (w2 : S → va_W) (hback : zBk E A H wc k w2)
    (kk : ∀ (u : S) (H1 : Heap) (locs1 : List Loc), post u → va_P (zD E) vwCl (w2 u) H1 → va_D A (w2 u) → va_S A s.heap H1 locs1 → W p l e R s m args below meth c H1 locs1 (cells + mc) (slots + ms) Q (F0 m (pc + 3) ls rest)) : W p l e R s m args below meth c H locs cells slots Q (F0 m pc ls st0) := by
  refine va_callv hr hS (fun q _ h => hF q h) hF (fun u t H1 locs1 ht hvm hpo hB hz hk hS1 => ?_)
  obtain ⟨b1, b2⟩ := hB
  rw [ht] at b1
  obtain ⟨h1, h2⟩ := hback u H1 hk b1 b2
  exact kk u H1 locs1 hpo h1 h2 hS1
theorem z_gxkv {T : Type} {kT : T → va_W} {post : S → Prop} {px : String → S → Prop} {postX : String → T → Prop} {Qc : Array Value → State → Outcome → State → Prop} {mc9 ms9 : Nat} (f : S → T) (hr : vx_Run p l e R s m args below meth c H locs cells slots mc ms (F0 m pc ls st0) rest (va_Qv post (zAt E (va_A wc H.size) k) (va_A wc H.size) a9) (zXC E (va_A wc H.size) k px) (va_A wc H.size)) (hS : va_S A s.heap H locs) (hT : ∀ x ∈ c.exceptionTable.toList, False) (hlocks : meth.locks = false) (hpx : ∀ X u, px X u → postX X (f u)) (hF : ∀ q, va_A wc H.size q → A q) (hback : zBk E A H wc k (fun u => kT (f u))) (hc9 : cells + mc ≤ mc9) (hs9 : slots + ms ≤ ms9)
    (kk : ∀ (u : S) (H1 : Heap) (locs1 : List Loc), post u → va_P (zD E) vwCl (kT (f u)) H1 → va_D A (kT (f u)) → va_S A s.heap H1 locs1 → W p l e R s m args below meth c H1 locs1 (cells + mc) (slots + ms) (vx_MQ below Qc (zXC E A kT postX) args s mc9 ms9 A) (F0 m (pc + 3) ls rest)) : W p l e R s m args below meth c H locs cells slots (vx_MQ below Qc (zXC E A kT postX) args s mc9 ms9 A) (F0 m pc ls st0) := by
  refine vx_callv hr hS (fun q _ h => hF q h) hF (fun q _ h => hF q h) ?_ (fun u t H1 locs1 ht hvm hpo hB hz hk hS1 => ?_)
  · intro X ce q9 u t H1 locs1 ht hvm hpu hB hz hk hS1 hce hcv hcl
    obtain ⟨X0, u⟩ := u
    obtain ⟨b0, b1, b2⟩ := hB
    have b0 : X = X0 := b0
    subst b0
    rw [ht] at b1
    obtain ⟨h1, h2⟩ := hback u H1 hk b1 b2
    refine vx_out (fun x h => (hT x h).elim) hlocks hce hcv hcl (fun t2 ht2 _ => ⟨(X, f u), hpx X u hpu, ⟨rfl, by rw [ht2]; exact h1, h2⟩, hS1.F ht2⟩) hS1.2.2 hc9 hs9
  · obtain ⟨b1, b2⟩ := hB
    rw [ht] at b1
    obtain ⟨h1, h2⟩ := hback u H1 hk b1 b2
    exact kk u H1 locs1 hpo h1 h2 hS1
end ZO
