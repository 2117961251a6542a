abbrev r_X10_trySets (n : Nat) : Room := { frames := 1 * n + 10, cells := 0, slots := 0, locals := 80 * n + 300 }
theorem rk_X10_trySets_X10_trySets (n_ : Nat) : (r_X10_trySets n_).frames + 1 ≤ (r_X10_trySets (n_ + 1)).frames ∧ 8 + (7 + 11) + (r_X10_trySets n_).locals ≤ (r_X10_trySets (n_ + 1)).locals := ⟨by show _ ≤ _; dsimp only [r_X10_trySets]; omega, by show _ ≤ _; dsimp only [r_X10_trySets]; omega⟩
def j_X10_trySets_186 (K59 : (Int32 × Int32 × Int32 × S_X10) → Prop) (REC : S_X10 → Int32 → Int32 → Int32 → (S_X10 → Prop) → Prop) (x1 : Int32) (x3 : Int32) (x4 : Int32) (u0 : S_X10) (post : S_X10 → Prop) : Prop := ∀ x_31 : Int32, x_31 = x4 + 1 → (K59 (x1, x3, x_31, u0))
def j_X10_trySets_137 (K59 : (Int32 × Int32 × Int32 × S_X10) → Prop) (K105 : (Int32 × Int32 × Int32 × Int32 × Int32 × S_X10) → Prop) (REC : S_X10 → Int32 → Int32 → Int32 → (S_X10 → Prop) → Prop) (x1 : Int32) (x3 : Int32) (x4 : Int32) (x6 : Int32) (y0 : Int32) (u0 : S_X10) (post : S_X10 → Prop) : Prop := ∀ x_32 : Int32, x_32 = x6 + 1 → (K105 (x1, x3, x4, y0, x_32, u0))
def j_X10_trySets_136 (K59 : (Int32 × Int32 × Int32 × S_X10) → Prop) (K105 : (Int32 × Int32 × Int32 × Int32 × Int32 × S_X10) → Prop) (REC : S_X10 → Int32 → Int32 → Int32 → (S_X10 → Prop) → Prop) (x1 : Int32) (x3 : Int32) (x4 : Int32) (x6 : Int32) (u0 : S_X10) (post : S_X10 → Prop) : Prop := j_X10_trySets_137 K59 K105 REC x1 x3 x4 x6 (0 : Int32) u0 post
def j_X10_trySets_105 (K105 : (Int32 × Int32 × Int32 × Int32 × Int32 × S_X10) → Prop) (K59 : (Int32 × Int32 × Int32 × S_X10) → Prop) (REC : S_X10 → Int32 → Int32 → Int32 → (S_X10 → Prop) → Prop) (x1 : Int32) (x3 : Int32) (x4 : Int32) (x5 : Int32) (x6 : Int32) (u0 : S_X10) (post : S_X10 → Prop) : Prop := (x1 ≤ x6 → ((¬ (x5 = 0) → (vp_in x1 20 ∧ (wp_X10_breach x4 (fun r_22 u_21 => vp_in (r_22 + (2 : Int32)) 1728 ∧ (REC (u0.1, u0.2.1, u0.2.2.1, u0.2.2.2.1, u0.2.2.2.2.1, u0.2.2.2.2.2.1, u0.2.2.2.2.2.2.1, u0.2.2.2.2.2.2.2.1, u0.2.2.2.2.2.2.2.2.1, u0.2.2.2.2.2.2.2.2.2.1, u0.2.2.2.2.2.2.2.2.2.2.1, u0.2.2.2.2.2.2.2.2.2.2.2.1, u0.2.2.2.2.2.2.2.2.2.2.2.2.1, u0.2.2.2.2.2.2.2.2.2.2.2.2.2.1, u0.2.2.2.2.2.2.2.2.2.2.2.2.2.2.1, u0.2.2.2.2.2.2.2.2.2.2.2.2.2.2.2.1, u0.2.2.2.2.2.2.2.2.2.2.2.2.2.2.2.2.1, u0.2.2.2.2.2.2.2.2.2.2.2.2.2.2.2.2.2.1, u0.2.2.2.2.2.2.2.2.2.2.2.2.2.2.2.2.2.2.1, (upd u0.2.2.2.2.2.2.2.2.2.2.2.2.2.2.2.2.2.2.2.1 x1.toNatClampNeg x4), u0.2.2.2.2.2.2.2.2.2.2.2.2.2.2.2.2.2.2.2.2.1, u0.2.2.2.2.2.2.2.2.2.2.2.2.2.2.2.2.2.2.2.2.2) (x1 + (1 : Int32)) (x4 + (1 : Int32)) (x3 + (u0.2.2.2.2.2.2.2.2.1 (r_22 + (2 : Int32)).toNatClampNeg)) (fun u_24 => j_X10_trySets_186 K59 REC x1 x3 x4 u_24 post)))))) ∧ (x5 = 0 → (j_X10_trySets_186 K59 REC x1 x3 x4 u0 post)))) ∧ (¬ (x1 ≤ x6) → ((x5 = 0 → (j_X10_trySets_136 K59 K105 REC x1 x3 x4 x6 u0 post)) ∧ (¬ (x5 = 0) → (vp_in x6 20 ∧ (wp_X10_areApart u0 (u0.2.2.2.2.2.2.2.2.2.2.2.2.2.2.2.2.2.2.2.1 x6.toNatClampNeg) x4 (fun r_29 u_28 => (r_29 = 0 → (j_X10_trySets_136 K59 K105 REC x1 x3 x4 x6 u_28 post)) ∧ (¬ (r_29 = 0) → (j_X10_trySets_137 K59 K105 REC x1 x3 x4 x6 (1 : Int32) u_28 post))))))))
def j_X10_trySets_100 (K59 : (Int32 × Int32 × Int32 × S_X10) → Prop) (REC : S_X10 → Int32 → Int32 → Int32 → (S_X10 → Prop) → Prop) (x1 : Int32) (x3 : Int32) (x4 : Int32) (y0 : Int32) (u0 : S_X10) (post : S_X10 → Prop) : Prop := ∃ n, zl (fun K st => j_X10_trySets_105 K K59 REC st.1 st.2.1 st.2.2.1 st.2.2.2.1 st.2.2.2.2.1 st.2.2.2.2.2 post) n (x1, x3, x4, y0, (0 : Int32), u0)
def j_X10_trySets_99 (K59 : (Int32 × Int32 × Int32 × S_X10) → Prop) (REC : S_X10 → Int32 → Int32 → Int32 → (S_X10 → Prop) → Prop) (x1 : Int32) (x3 : Int32) (x4 : Int32) (u0 : S_X10) (post : S_X10 → Prop) : Prop := j_X10_trySets_100 K59 REC x1 x3 x4 (0 : Int32) u0 post
def j_X10_trySets_59 (K59 : (Int32 × Int32 × Int32 × S_X10) → Prop) (REC : S_X10 → Int32 → Int32 → Int32 → (S_X10 → Prop) → Prop) (x1 : Int32) (x3 : Int32) (x4 : Int32) (u0 : S_X10) (post : S_X10 → Prop) : Prop := ((u0.2.2.2.2.2.2.2.2.1 12) ≤ x4 → (post u0)) ∧ (¬ ((u0.2.2.2.2.2.2.2.2.1 12) ≤ x4) → (wp_X10_breach x4 (fun r_12 u_11 => vp_in (r_12 + (2 : Int32)) 1728 ∧ (((u0.2.2.2.2.2.2.2.2.1 (r_12 + (2 : Int32)).toNatClampNeg) ≤ 0 → (j_X10_trySets_99 K59 REC x1 x3 x4 u0 post)) ∧ (¬ ((u0.2.2.2.2.2.2.2.2.1 (r_12 + (2 : Int32)).toNatClampNeg) ≤ 0) → (wp_X10_canWaive u0 x4 (fun r_16 u_15 => (r_16 = 0 → (j_X10_trySets_99 K59 REC x1 x3 x4 u_15 post)) ∧ (¬ (r_16 = 0) → (j_X10_trySets_100 K59 REC x1 x3 x4 (1 : Int32) u_15 post)))))))))
def j_X10_trySets_47 (REC : S_X10 → Int32 → Int32 → Int32 → (S_X10 → Prop) → Prop) (x1 : Int32) (x2 : Int32) (x3 : Int32) (u0 : S_X10) (post : S_X10 → Prop) : Prop := wp_X10_leftOver u0 (fun r_3 u_2 => (¬ (x1 = r_3) → (∃ n, zl (fun K st => j_X10_trySets_59 K REC st.1 st.2.1 st.2.2.1 st.2.2.2 post) n (x1, x3, x2, u_2))) ∧ (x1 = r_3 → (post u_2)))
def j_X10_trySets_21 (K21 : (Int32 × Int32 × Int32 × Int32 × S_X10) → Prop) (REC : S_X10 → Int32 → Int32 → Int32 → (S_X10 → Prop) → Prop) (x1 : Int32) (x2 : Int32) (x3 : Int32) (x4 : Int32) (u0 : S_X10) (post : S_X10 → Prop) : Prop := (x1 ≤ x4 → (j_X10_trySets_47 REC x1 x2 x3 u0 post)) ∧ (¬ (x1 ≤ x4) → (vp_in x4 20 ∧ (∀ x_7 : Int32, x_7 = (u0.2.2.2.2.2.2.2.2.2.2.2.2.2.2.2.2.2.2.2.1 x4.toNatClampNeg) → (vp_in x4 20 ∧ (∀ x_9 : Int32, x_9 = x4 + 1 → (K21 (x1, x2, x3, x_9, (u0.1, u0.2.1, u0.2.2.1, u0.2.2.2.1, u0.2.2.2.2.1, u0.2.2.2.2.2.1, u0.2.2.2.2.2.2.1, u0.2.2.2.2.2.2.2.1, u0.2.2.2.2.2.2.2.2.1, u0.2.2.2.2.2.2.2.2.2.1, u0.2.2.2.2.2.2.2.2.2.2.1, u0.2.2.2.2.2.2.2.2.2.2.2.1, u0.2.2.2.2.2.2.2.2.2.2.2.2.1, u0.2.2.2.2.2.2.2.2.2.2.2.2.2.1, u0.2.2.2.2.2.2.2.2.2.2.2.2.2.2.1, u0.2.2.2.2.2.2.2.2.2.2.2.2.2.2.2.1, u0.2.2.2.2.2.2.2.2.2.2.2.2.2.2.2.2.1, u0.2.2.2.2.2.2.2.2.2.2.2.2.2.2.2.2.2.1, (upd u0.2.2.2.2.2.2.2.2.2.2.2.2.2.2.2.2.2.2.1 x4.toNatClampNeg x_7), u0.2.2.2.2.2.2.2.2.2.2.2.2.2.2.2.2.2.2.2.1, u0.2.2.2.2.2.2.2.2.2.2.2.2.2.2.2.2.2.2.2.2.1, u0.2.2.2.2.2.2.2.2.2.2.2.2.2.2.2.2.2.2.2.2.2))))))))
def wp_X10_trySetsB (REC : S_X10 → Int32 → Int32 → Int32 → (S_X10 → Prop) → Prop) (u0 : S_X10) (p1 : Int32) (p2 : Int32) (p3 : Int32) (post : S_X10 → Prop) : Prop := (p3 ≤ u0.2.2.2.2.2.2.2.2.2.2.2.2.2.2.2.2.2.2.2.2.2 → (j_X10_trySets_47 REC p1 p2 p3 u0 post)) ∧ (¬ (p3 ≤ u0.2.2.2.2.2.2.2.2.2.2.2.2.2.2.2.2.2.2.2.2.2) → (∃ n, zl (fun K st => j_X10_trySets_21 K REC st.1 st.2.1 st.2.2.1 st.2.2.2.1 st.2.2.2.2 post) n (p1, p2, p3, (0 : Int32), (u0.1, u0.2.1, u0.2.2.1, u0.2.2.2.1, u0.2.2.2.2.1, u0.2.2.2.2.2.1, u0.2.2.2.2.2.2.1, u0.2.2.2.2.2.2.2.1, u0.2.2.2.2.2.2.2.2.1, u0.2.2.2.2.2.2.2.2.2.1, u0.2.2.2.2.2.2.2.2.2.2.1, u0.2.2.2.2.2.2.2.2.2.2.2.1, u0.2.2.2.2.2.2.2.2.2.2.2.2.1, u0.2.2.2.2.2.2.2.2.2.2.2.2.2.1, u0.2.2.2.2.2.2.2.2.2.2.2.2.2.2.1, u0.2.2.2.2.2.2.2.2.2.2.2.2.2.2.2.1, u0.2.2.2.2.2.2.2.2.2.2.2.2.2.2.2.2.1, u0.2.2.2.2.2.2.2.2.2.2.2.2.2.2.2.2.2.1, u0.2.2.2.2.2.2.2.2.2.2.2.2.2.2.2.2.2.2.1, u0.2.2.2.2.2.2.2.2.2.2.2.2.2.2.2.2.2.2.2.1, p1, p3))))
set_option maxHeartbeats 4000000 in
set_option maxRecDepth 100000 in
theorem t_X10_trySets_186 {p : Program} {l : Launch} {e : Env} {s : State} {m : MethodId} {args : Array Value} {below : List Frame} {meth : Method} {c : Code} {Z : zZ} {E : zE} {A : Nat → Prop} {q0 : Nat → Nat} (hZ0 : zSt Z) (n_ : Nat) (REC : S_X10 → Int32 → Int32 → Int32 → (S_X10 → Prop) → Prop) (hREC : ∀ (q0 : Nat → Nat) (sz : Nat) (u0 : S_X10) (p1 : Int32) (p2 : Int32) (p3 : Int32) (post : S_X10 → Prop), REC u0 p1 p2 p3 post → Met l yX10_trySets (zws yX10_trySets cX10_trySets 7 none) (r_X10_trySets n_) (va_Pc [.ref (q0 0), .int p1, .int p2, .int p3] (zPre Z E (k_X10 E q0 u0) sz)) (va_Qv post (zAt E (va_A (k_X10 E q0 u0) sz) (fun u => k_X10 E q0 u)) (va_A (k_X10 E q0 u0) sz)) 0 0 (va_A (k_X10 E q0 u0) sz)) (C0 : zC p s m args meth c yX10_trySets cX10_trySets 7 none) (hA : ∀ q : Nat, s.heap.size ≤ q → A q) (hK : va_K (zD E) vwCl (zT E) s) (hZ : Z A s s.heap) (post : S_X10 → Prop) {K59 : (Int32 × Int32 × Int32 × S_X10) → Prop} (hk_59 : ∀ (x1 : Int32) (x3 : Int32) (x4 : Int32) (u0 : S_X10) (H : Heap) (locs : List Loc) (ls : Array Slot), K59 (x1, x3, x4, u0) → va_P (zD E) vwCl (k_X10 E q0 u0) H → va_D A (k_X10 E q0 u0) → va_S A s.heap H locs → lv_has ls 7 [(0, .ref (q0 0)), (1, .int x1), (3, .int x3), (4, .int x4)] → W p l e (r_X10_trySets (n_ + 1)) s m args below meth c H locs 0 0 (MQ below (va_Qv post (zAt E A (fun u => k_X10 E q0 u)) A) args s 0 0 A) (F0 m 59 ls [])) : ∀ (x1 : Int32) (x3 : Int32) (x4 : Int32) (u0 : S_X10) (H : Heap) (locs : List Loc) (ls : Array Slot), j_X10_trySets_186 K59 REC x1 x3 x4 u0 post → va_P (zD E) vwCl (k_X10 E q0 u0) H → va_D A (k_X10 E q0 u0) → va_S A s.heap H locs → lv_has ls 7 [(0, .ref (q0 0)), (1, .int x1), (3, .int x3), (4, .int x4)] → W p l e (r_X10_trySets (n_ + 1)) s m args below meth c H locs 0 0 (MQ below (va_Qv post (zAt E A (fun u => k_X10 E q0 u)) A) args s 0 0 A) (F0 m 186 ls []) := by
  obtain ⟨hx, hb, hml, hr, hown, hts, hlocks, hin⟩ := id C0
  have hown : s.vm.findClass RX10 = some m.cls := hown
  intro x1 x3 x4 u0 H locs ls hw hP hD hS hl
  obtain ⟨x_31, ex_31⟩ : ∃ y : Int32, y = x4 + 1 := ⟨_, rfl⟩
  have hw := hw x_31 ex_31
  refine lv_iinc (v := x_31) (lv' := [(4, .int x_31), (0, .ref (q0 0)), (1, .int x1), (3, .int x3)]) hx hb dX10_trySets_186 hl (k := 3) rfl (by rw [ex_31]; rfl) (by decide) rfl (fun ls hl => ?_)
  refine lv_goto (tgt := 59) hx hb dX10_trySets_189 (by decide) ?_
  exact hk_59 x1 x3 x_31 u0 _ _ _ hw hP hD hS (lv_sub hl [1, 2, 3, 0] rfl)
set_option maxHeartbeats 4000000 in
set_option maxRecDepth 100000 in
theorem t_X10_trySets_137 {p : Program} {l : Launch} {e : Env} {s : State} {m : MethodId} {args : Array Value} {below : List Frame} {meth : Method} {c : Code} {Z : zZ} {E : zE} {A : Nat → Prop} {q0 : Nat → Nat} (hZ0 : zSt Z) (n_ : Nat) (REC : S_X10 → Int32 → Int32 → Int32 → (S_X10 → Prop) → Prop) (hREC : ∀ (q0 : Nat → Nat) (sz : Nat) (u0 : S_X10) (p1 : Int32) (p2 : Int32) (p3 : Int32) (post : S_X10 → Prop), REC u0 p1 p2 p3 post → Met l yX10_trySets (zws yX10_trySets cX10_trySets 7 none) (r_X10_trySets n_) (va_Pc [.ref (q0 0), .int p1, .int p2, .int p3] (zPre Z E (k_X10 E q0 u0) sz)) (va_Qv post (zAt E (va_A (k_X10 E q0 u0) sz) (fun u => k_X10 E q0 u)) (va_A (k_X10 E q0 u0) sz)) 0 0 (va_A (k_X10 E q0 u0) sz)) (C0 : zC p s m args meth c yX10_trySets cX10_trySets 7 none) (hA : ∀ q : Nat, s.heap.size ≤ q → A q) (hK : va_K (zD E) vwCl (zT E) s) (hZ : Z A s s.heap) (post : S_X10 → Prop) {K59 : (Int32 × Int32 × Int32 × S_X10) → Prop} (hk_59 : ∀ (x1 : Int32) (x3 : Int32) (x4 : Int32) (u0 : S_X10) (H : Heap) (locs : List Loc) (ls : Array Slot), K59 (x1, x3, x4, u0) → va_P (zD E) vwCl (k_X10 E q0 u0) H → va_D A (k_X10 E q0 u0) → va_S A s.heap H locs → lv_has ls 7 [(0, .ref (q0 0)), (1, .int x1), (3, .int x3), (4, .int x4)] → W p l e (r_X10_trySets (n_ + 1)) s m args below meth c H locs 0 0 (MQ below (va_Qv post (zAt E A (fun u => k_X10 E q0 u)) A) args s 0 0 A) (F0 m 59 ls [])) {K105 : (Int32 × Int32 × Int32 × Int32 × Int32 × S_X10) → Prop} (hk_105 : ∀ (x1 : Int32) (x3 : Int32) (x4 : Int32) (x5 : Int32) (x6 : Int32) (u0 : S_X10) (H : Heap) (locs : List Loc) (ls : Array Slot), K105 (x1, x3, x4, x5, x6, u0) → va_P (zD E) vwCl (k_X10 E q0 u0) H → va_D A (k_X10 E q0 u0) → va_S A s.heap H locs → lv_has ls 7 [(0, .ref (q0 0)), (1, .int x1), (3, .int x3), (4, .int x4), (5, .int x5), (6, .int x6)] → W p l e (r_X10_trySets (n_ + 1)) s m args below meth c H locs 0 0 (MQ below (va_Qv post (zAt E A (fun u => k_X10 E q0 u)) A) args s 0 0 A) (F0 m 105 ls [])) : ∀ (x1 : Int32) (x3 : Int32) (x4 : Int32) (x6 : Int32) (y0 : Int32) (u0 : S_X10) (H : Heap) (locs : List Loc) (ls : Array Slot), j_X10_trySets_137 K59 K105 REC x1 x3 x4 x6 y0 u0 post → va_P (zD E) vwCl (k_X10 E q0 u0) H → va_D A (k_X10 E q0 u0) → va_S A s.heap H locs → lv_has ls 7 [(0, .ref (q0 0)), (1, .int x1), (3, .int x3), (4, .int x4), (6, .int x6)] → W p l e (r_X10_trySets (n_ + 1)) s m args below meth c H locs 0 0 (MQ below (va_Qv post (zAt E A (fun u => k_X10 E q0 u)) A) args s 0 0 A) (F0 m 137 ls [.int y0]) := by
  obtain ⟨hx, hb, hml, hr, hown, hts, hlocks, hin⟩ := id C0
  have hown : s.vm.findClass RX10 = some m.cls := hown
  intro x1 x3 x4 x6 y0 u0 H locs ls hw hP hD hS hl
  refine lv_istore (lv' := [(5, .int y0), (0, .ref (q0 0)), (1, .int x1), (3, .int x3), (4, .int x4), (6, .int x6)]) hx hb dX10_trySets_137 hl (by decide) rfl (fun ls hl => ?_)
  obtain ⟨x_32, ex_32⟩ : ∃ y : Int32, y = x6 + 1 := ⟨_, rfl⟩
  have hw := hw x_32 ex_32
  refine lv_iinc (v := x_32) (lv' := [(6, .int x_32), (5, .int y0), (0, .ref (q0 0)), (1, .int x1), (3, .int x3), (4, .int x4)]) hx hb dX10_trySets_139 hl (k := 5) rfl (by rw [ex_32]; rfl) (by decide) rfl (fun ls hl => ?_)
  refine lv_goto (tgt := 105) hx hb dX10_trySets_142 (by decide) ?_
  exact hk_105 x1 x3 x4 y0 x_32 u0 _ _ _ hw hP hD hS (lv_sub hl [2, 3, 4, 5, 1, 0] rfl)
set_option maxHeartbeats 4000000 in
set_option maxRecDepth 100000 in
theorem t_X10_trySets_136 {p : Program} {l : Launch} {e : Env} {s : State} {m : MethodId} {args : Array Value} {below : List Frame} {meth : Method} {c : Code} {Z : zZ} {E : zE} {A : Nat → Prop} {q0 : Nat → Nat} (hZ0 : zSt Z) (n_ : Nat) (REC : S_X10 → Int32 → Int32 → Int32 → (S_X10 → Prop) → Prop) (hREC : ∀ (q0 : Nat → Nat) (sz : Nat) (u0 : S_X10) (p1 : Int32) (p2 : Int32) (p3 : Int32) (post : S_X10 → Prop), REC u0 p1 p2 p3 post → Met l yX10_trySets (zws yX10_trySets cX10_trySets 7 none) (r_X10_trySets n_) (va_Pc [.ref (q0 0), .int p1, .int p2, .int p3] (zPre Z E (k_X10 E q0 u0) sz)) (va_Qv post (zAt E (va_A (k_X10 E q0 u0) sz) (fun u => k_X10 E q0 u)) (va_A (k_X10 E q0 u0) sz)) 0 0 (va_A (k_X10 E q0 u0) sz)) (C0 : zC p s m args meth c yX10_trySets cX10_trySets 7 none) (hA : ∀ q : Nat, s.heap.size ≤ q → A q) (hK : va_K (zD E) vwCl (zT E) s) (hZ : Z A s s.heap) (post : S_X10 → Prop) {K59 : (Int32 × Int32 × Int32 × S_X10) → Prop} (hk_59 : ∀ (x1 : Int32) (x3 : Int32) (x4 : Int32) (u0 : S_X10) (H : Heap) (locs : List Loc) (ls : Array Slot), K59 (x1, x3, x4, u0) → va_P (zD E) vwCl (k_X10 E q0 u0) H → va_D A (k_X10 E q0 u0) → va_S A s.heap H locs → lv_has ls 7 [(0, .ref (q0 0)), (1, .int x1), (3, .int x3), (4, .int x4)] → W p l e (r_X10_trySets (n_ + 1)) s m args below meth c H locs 0 0 (MQ below (va_Qv post (zAt E A (fun u => k_X10 E q0 u)) A) args s 0 0 A) (F0 m 59 ls [])) {K105 : (Int32 × Int32 × Int32 × Int32 × Int32 × S_X10) → Prop} (hk_105 : ∀ (x1 : Int32) (x3 : Int32) (x4 : Int32) (x5 : Int32) (x6 : Int32) (u0 : S_X10) (H : Heap) (locs : List Loc) (ls : Array Slot), K105 (x1, x3, x4, x5, x6, u0) → va_P (zD E) vwCl (k_X10 E q0 u0) H → va_D A (k_X10 E q0 u0) → va_S A s.heap H locs → lv_has ls 7 [(0, .ref (q0 0)), (1, .int x1), (3, .int x3), (4, .int x4), (5, .int x5), (6, .int x6)] → W p l e (r_X10_trySets (n_ + 1)) s m args below meth c H locs 0 0 (MQ below (va_Qv post (zAt E A (fun u => k_X10 E q0 u)) A) args s 0 0 A) (F0 m 105 ls [])) : ∀ (x1 : Int32) (x3 : Int32) (x4 : Int32) (x6 : Int32) (u0 : S_X10) (H : Heap) (locs : List Loc) (ls : Array Slot), j_X10_trySets_136 K59 K105 REC x1 x3 x4 x6 u0 post → va_P (zD E) vwCl (k_X10 E q0 u0) H → va_D A (k_X10 E q0 u0) → va_S A s.heap H locs → lv_has ls 7 [(0, .ref (q0 0)), (1, .int x1), (3, .int x3), (4, .int x4), (6, .int x6)] → W p l e (r_X10_trySets (n_ + 1)) s m args below meth c H locs 0 0 (MQ below (va_Qv post (zAt E A (fun u => k_X10 E q0 u)) A) args s 0 0 A) (F0 m 136 ls []) := by
  obtain ⟨hx, hb, hml, hr, hown, hts, hlocks, hin⟩ := id C0
  have hown : s.vm.findClass RX10 = some m.cls := hown
  intro x1 x3 x4 x6 u0 H locs ls hw hP hD hS hl
  refine lv_iconst (v := 0) hx hb dX10_trySets_136 rfl ?_
  exact t_X10_trySets_137 (l := l) hZ0 n_ REC hREC C0 hA hK hZ post hk_59 hk_105 x1 x3 x4 x6 (0 : Int32) u0 _ _ _ hw hP hD hS (lv_sub hl [0, 1, 2, 3, 4] rfl)
set_option maxHeartbeats 4000000 in
set_option maxRecDepth 100000 in
theorem t_X10_trySets_105 {p : Program} {l : Launch} {e : Env} {s : State} {m : MethodId} {args : Array Value} {below : List Frame} {meth : Method} {c : Code} {Z : zZ} {E : zE} {A : Nat → Prop} {q0 : Nat → Nat} (hZ0 : zSt Z) (n_ : Nat) (REC : S_X10 → Int32 → Int32 → Int32 → (S_X10 → Prop) → Prop) (hREC : ∀ (q0 : Nat → Nat) (sz : Nat) (u0 : S_X10) (p1 : Int32) (p2 : Int32) (p3 : Int32) (post : S_X10 → Prop), REC u0 p1 p2 p3 post → Met l yX10_trySets (zws yX10_trySets cX10_trySets 7 none) (r_X10_trySets n_) (va_Pc [.ref (q0 0), .int p1, .int p2, .int p3] (zPre Z E (k_X10 E q0 u0) sz)) (va_Qv post (zAt E (va_A (k_X10 E q0 u0) sz) (fun u => k_X10 E q0 u)) (va_A (k_X10 E q0 u0) sz)) 0 0 (va_A (k_X10 E q0 u0) sz)) (C0 : zC p s m args meth c yX10_trySets cX10_trySets 7 none) (hA : ∀ q : Nat, s.heap.size ≤ q → A q) (hK : va_K (zD E) vwCl (zT E) s) (hZ : Z A s s.heap) (post : S_X10 → Prop) {K59 : (Int32 × Int32 × Int32 × S_X10) → Prop} (hk_59 : ∀ (x1 : Int32) (x3 : Int32) (x4 : Int32) (u0 : S_X10) (H : Heap) (locs : List Loc) (ls : Array Slot), K59 (x1, x3, x4, u0) → va_P (zD E) vwCl (k_X10 E q0 u0) H → va_D A (k_X10 E q0 u0) → va_S A s.heap H locs → lv_has ls 7 [(0, .ref (q0 0)), (1, .int x1), (3, .int x3), (4, .int x4)] → W p l e (r_X10_trySets (n_ + 1)) s m args below meth c H locs 0 0 (MQ below (va_Qv post (zAt E A (fun u => k_X10 E q0 u)) A) args s 0 0 A) (F0 m 59 ls [])) : ∀ (n : Nat) (x1 : Int32) (x3 : Int32) (x4 : Int32) (x5 : Int32) (x6 : Int32) (u0 : S_X10) (H : Heap) (locs : List Loc) (ls : Array Slot), zl (fun K st => j_X10_trySets_105 K K59 REC st.1 st.2.1 st.2.2.1 st.2.2.2.1 st.2.2.2.2.1 st.2.2.2.2.2 post) n (x1, x3, x4, x5, x6, u0) → va_P (zD E) vwCl (k_X10 E q0 u0) H → va_D A (k_X10 E q0 u0) → va_S A s.heap H locs → lv_has ls 7 [(0, .ref (q0 0)), (1, .int x1), (3, .int x3), (4, .int x4), (5, .int x5), (6, .int x6)] → W p l e (r_X10_trySets (n_ + 1)) s m args below meth c H locs 0 0 (MQ below (va_Qv post (zAt E A (fun u => k_X10 E q0 u)) A) args s 0 0 A) (F0 m 105 ls []) := by
  obtain ⟨hx, hb, hml, hr, hown, hts, hlocks, hin⟩ := id C0
  have hown : s.vm.findClass RX10 = some m.cls := hown
  intro n
  induction n with
  | zero => intro x1 x3 x4 x5 x6 u0 H locs ls hw; exact hw.elim
  | succ n hk_105 =>
    intro x1 x3 x4 x5 x6 u0 H locs ls hw hP hD hS hl
    have hw : j_X10_trySets_105 _ K59 REC x1 x3 x4 x5 x6 u0 post := hw
    refine lv_iload hx hb dX10_trySets_105 (lv_at hl 5 rfl) ?_
    refine lv_iload_n hx hb dX10_trySets_107 rfl (lv_at hl 1 rfl) ?_
    obtain ⟨hwt, hwf⟩ := hw
    refine lv_icmp_ge (tgt := 145) hx hb dX10_trySets_108 (by decide) (fun c_18 => ?_) (fun c_18 => ?_)
    · have hw := hwt c_18
      refine lv_iload hx hb dX10_trySets_145 (lv_at hl 4 rfl) ?_
      obtain ⟨hwt, hwf⟩ := hw
      refine lv_if_ne (tgt := 153) hx hb dX10_trySets_147 (by decide) (fun c_19 => ?_) (fun c_19 => ?_)
      · have hw := hwt c_19
        refine lv_aload_n hx hb dX10_trySets_153 rfl (lv_at hl 0 rfl) ?_
        refine va_get (D := zD E) (ci := 10) (v := .ref (q0 11)) (C := RX10) (T := TX10) (N := 24) hx hb hts uw_X10 hown hK hP 0 rfl rfl 21 (by decide) (hts _ wm_5_137) (fun _ h9 => h9) rfl dX10_trySets_154 ?_
        refine lv_iload_n hx hb dX10_trySets_157 rfl (lv_at hl 1 rfl) ?_
        refine lv_iload hx hb dX10_trySets_158 (lv_at hl 3 rfl) ?_
        obtain ⟨h_20, hw⟩ := hw
        refine va_iast hx hb hK hP hD hS 9 0 rfl rfl h_20 dX10_trySets_160 (fun H locs hP hD hS => ?_)
        have hP : va_P (zD E) vwCl (k_X10 E q0 (u0.1, u0.2.1, u0.2.2.1, u0.2.2.2.1, u0.2.2.2.2.1, u0.2.2.2.2.2.1, u0.2.2.2.2.2.2.1, u0.2.2.2.2.2.2.2.1, u0.2.2.2.2.2.2.2.2.1, u0.2.2.2.2.2.2.2.2.2.1, u0.2.2.2.2.2.2.2.2.2.2.1, u0.2.2.2.2.2.2.2.2.2.2.2.1, u0.2.2.2.2.2.2.2.2.2.2.2.2.1, u0.2.2.2.2.2.2.2.2.2.2.2.2.2.1, u0.2.2.2.2.2.2.2.2.2.2.2.2.2.2.1, u0.2.2.2.2.2.2.2.2.2.2.2.2.2.2.2.1, u0.2.2.2.2.2.2.2.2.2.2.2.2.2.2.2.2.1, u0.2.2.2.2.2.2.2.2.2.2.2.2.2.2.2.2.2.1, u0.2.2.2.2.2.2.2.2.2.2.2.2.2.2.2.2.2.2.1, (upd u0.2.2.2.2.2.2.2.2.2.2.2.2.2.2.2.2.2.2.2.1 x1.toNatClampNeg x4), u0.2.2.2.2.2.2.2.2.2.2.2.2.2.2.2.2.2.2.2.2.1, u0.2.2.2.2.2.2.2.2.2.2.2.2.2.2.2.2.2.2.2.2.2)) H := hP
        have hD : va_D A (k_X10 E q0 (u0.1, u0.2.1, u0.2.2.1, u0.2.2.2.1, u0.2.2.2.2.1, u0.2.2.2.2.2.1, u0.2.2.2.2.2.2.1, u0.2.2.2.2.2.2.2.1, u0.2.2.2.2.2.2.2.2.1, u0.2.2.2.2.2.2.2.2.2.1, u0.2.2.2.2.2.2.2.2.2.2.1, u0.2.2.2.2.2.2.2.2.2.2.2.1, u0.2.2.2.2.2.2.2.2.2.2.2.2.1, u0.2.2.2.2.2.2.2.2.2.2.2.2.2.1, u0.2.2.2.2.2.2.2.2.2.2.2.2.2.2.1, u0.2.2.2.2.2.2.2.2.2.2.2.2.2.2.2.1, u0.2.2.2.2.2.2.2.2.2.2.2.2.2.2.2.2.1, u0.2.2.2.2.2.2.2.2.2.2.2.2.2.2.2.2.2.1, u0.2.2.2.2.2.2.2.2.2.2.2.2.2.2.2.2.2.2.1, (upd u0.2.2.2.2.2.2.2.2.2.2.2.2.2.2.2.2.2.2.2.1 x1.toNatClampNeg x4), u0.2.2.2.2.2.2.2.2.2.2.2.2.2.2.2.2.2.2.2.2.1, u0.2.2.2.2.2.2.2.2.2.2.2.2.2.2.2.2.2.2.2.2.2)) := hD
        refine lv_aload_n hx hb dX10_trySets_161 rfl (lv_at hl 0 rfl) ?_
        refine lv_iload_n hx hb dX10_trySets_162 rfl (lv_at hl 1 rfl) ?_
        refine lv_iconst (v := 1) hx hb dX10_trySets_163 rfl ?_
        refine lv_iadd hx hb dX10_trySets_164 ?_
        refine lv_iload hx hb dX10_trySets_165 (lv_at hl 3 rfl) ?_
        refine lv_iconst (v := 1) hx hb dX10_trySets_167 rfl ?_
        refine lv_iadd hx hb dX10_trySets_168 ?_
        refine lv_iload_n hx hb dX10_trySets_169 rfl (lv_at hl 2 rfl) ?_
        refine lv_aload_n hx hb dX10_trySets_170 rfl (lv_at hl 0 rfl) ?_
        refine va_get (D := zD E) (ci := 10) (v := .ref (q0 2)) (C := RX10) (T := TX10) (N := 24) hx hb hts uw_X10 hown hK hP 0 rfl rfl 8 (by decide) (hts _ wm_5_124) (fun _ h9 => h9) rfl dX10_trySets_171 ?_
        refine lv_iload hx hb dX10_trySets_174 (lv_at hl 3 rfl) ?_
        refine z_ki (z_rS (rest := [.ref (q0 2), .int x3, .int (x4 + (1 : Int32)), .int (x1 + (1 : Int32)), .ref (q0 0)]) hZ0 C0 hK hZ hA hP hD hS hl.1 (c_X10_breach l E Z hZ0 H.size x4 _ hw) yv_X10_220 [] rfl (by decide) ⟨(Nat.le_trans (m := 10) (Nat.le_of_ble_eq_true rfl) (Nat.le_add_left 10 _)), (Nat.le_trans (m := 300) (Nat.le_of_ble_eq_true rfl) (Nat.le_add_left 300 _))⟩ ⟨rfl, rfl⟩ rfl rfl (Nat.le_of_ble_eq_true rfl) ⟨Nat.le_of_ble_eq_true rfl, Nat.le_of_ble_eq_true rfl⟩ dX10_trySets_176) hP hD hS hA [] [0, 1, 2, 3, 4, 5, 6, 7, 8, 9] [0, 1, 2, 3, 4, 5, 6, 7, 8, 9] rfl (wr := [_, _, _, _, _, _, _, _, _, _]) rfl (by decide) (by decide) (fun u => k_X10 E q0 (u0.1, u0.2.1, u0.2.2.1, u0.2.2.2.1, u0.2.2.2.2.1, u0.2.2.2.2.2.1, u0.2.2.2.2.2.2.1, u0.2.2.2.2.2.2.2.1, u0.2.2.2.2.2.2.2.2.1, u0.2.2.2.2.2.2.2.2.2.1, u0.2.2.2.2.2.2.2.2.2.2.1, u0.2.2.2.2.2.2.2.2.2.2.2.1, u0.2.2.2.2.2.2.2.2.2.2.2.2.1, u0.2.2.2.2.2.2.2.2.2.2.2.2.2.1, u0.2.2.2.2.2.2.2.2.2.2.2.2.2.2.1, u0.2.2.2.2.2.2.2.2.2.2.2.2.2.2.2.1, u0.2.2.2.2.2.2.2.2.2.2.2.2.2.2.2.2.1, u0.2.2.2.2.2.2.2.2.2.2.2.2.2.2.2.2.2.1, u0.2.2.2.2.2.2.2.2.2.2.2.2.2.2.2.2.2.2.1, (upd u0.2.2.2.2.2.2.2.2.2.2.2.2.2.2.2.2.2.2.2.1 x1.toNatClampNeg x4), u0.2.2.2.2.2.2.2.2.2.2.2.2.2.2.2.2.2.2.2.2.1, u0.2.2.2.2.2.2.2.2.2.2.2.2.2.2.2.2.2.2.2.2.2)) (fun u => rfl) (by decide) (fun r_22 u_21 H locs hw hP hD hS => ?_)
        refine lv_iconst (v := 2) hx hb dX10_trySets_179 rfl ?_
        refine lv_iadd hx hb dX10_trySets_180 ?_
        obtain ⟨h_23, hw⟩ := hw
        refine va_iald hx hb hK hP 2 0 rfl rfl h_23 dX10_trySets_181 ?_
        refine lv_iadd hx hb dX10_trySets_182 ?_
        refine z_kv (z_rV (rest := []) hZ0 C0 hK hZ hA hP hD hS hl.1 (hREC q0 H.size (u0.1, u0.2.1, u0.2.2.1, u0.2.2.2.1, u0.2.2.2.2.1, u0.2.2.2.2.2.1, u0.2.2.2.2.2.2.1, u0.2.2.2.2.2.2.2.1, u0.2.2.2.2.2.2.2.2.1, u0.2.2.2.2.2.2.2.2.2.1, u0.2.2.2.2.2.2.2.2.2.2.1, u0.2.2.2.2.2.2.2.2.2.2.2.1, u0.2.2.2.2.2.2.2.2.2.2.2.2.1, u0.2.2.2.2.2.2.2.2.2.2.2.2.2.1, u0.2.2.2.2.2.2.2.2.2.2.2.2.2.2.1, u0.2.2.2.2.2.2.2.2.2.2.2.2.2.2.2.1, u0.2.2.2.2.2.2.2.2.2.2.2.2.2.2.2.2.1, u0.2.2.2.2.2.2.2.2.2.2.2.2.2.2.2.2.2.1, u0.2.2.2.2.2.2.2.2.2.2.2.2.2.2.2.2.2.2.1, (upd u0.2.2.2.2.2.2.2.2.2.2.2.2.2.2.2.2.2.2.2.1 x1.toNatClampNeg x4), u0.2.2.2.2.2.2.2.2.2.2.2.2.2.2.2.2.2.2.2.2.1, u0.2.2.2.2.2.2.2.2.2.2.2.2.2.2.2.2.2.2.2.2.2) (x1 + (1 : Int32)) (x4 + (1 : Int32)) (x3 + (u0.2.2.2.2.2.2.2.2.1 (r_22 + (2 : Int32)).toNatClampNeg)) _ hw) yv_X10_266 [0, 1, 2, 3, 4, 5, 6, 7, 8, 9] rfl (by decide) (ci := 10) rfl rfl 0 rfl (rk_X10_trySets_X10_trySets n_) ⟨rfl, rfl⟩ rfl rfl (Nat.le_of_ble_eq_true rfl) ⟨Nat.le_of_ble_eq_true rfl, Nat.le_of_ble_eq_true rfl⟩ dX10_trySets_183) hP hD hS hA [0, 1, 2, 3, 4, 5, 6, 7, 8, 9] [] [0, 1, 2, 3, 4, 5, 6, 7, 8, 9] rfl (wr := []) rfl (by decide) (by decide) (fun u => k_X10 E q0 u) (fun u => rfl) (by decide) (fun u_24 H locs hw hP hD hS => ?_)
        exact t_X10_trySets_186 (l := l) hZ0 n_ REC hREC C0 hA hK hZ post hk_59 x1 x3 x4 u_24 _ _ _ hw hP hD hS (lv_sub hl [0, 1, 2, 3] rfl)
      · have hw := hwf c_19
        refine lv_goto (tgt := 186) hx hb dX10_trySets_150 (by decide) ?_
        exact t_X10_trySets_186 (l := l) hZ0 n_ REC hREC C0 hA hK hZ post hk_59 x1 x3 x4 u0 _ _ _ hw hP hD hS (lv_sub hl [0, 1, 2, 3] rfl)
    · have hw := hwf c_18
      refine lv_iload hx hb dX10_trySets_111 (lv_at hl 4 rfl) ?_
      obtain ⟨hwt, hwf⟩ := hw
      refine lv_if_eq (tgt := 136) hx hb dX10_trySets_113 (by decide) (fun c_26 => ?_) (fun c_26 => ?_)
      · have hw := hwt c_26
        exact t_X10_trySets_136 (l := l) hZ0 n_ REC hREC C0 hA hK hZ post hk_59 hk_105 x1 x3 x4 x6 u0 _ _ _ hw hP hD hS (lv_sub hl [0, 1, 2, 3, 5] rfl)
      · have hw := hwf c_26
        refine lv_aload_n hx hb dX10_trySets_116 rfl (lv_at hl 0 rfl) ?_
        refine lv_aload_n hx hb dX10_trySets_117 rfl (lv_at hl 0 rfl) ?_
        refine va_get (D := zD E) (ci := 10) (v := .ref (q0 11)) (C := RX10) (T := TX10) (N := 24) hx hb hts uw_X10 hown hK hP 0 rfl rfl 21 (by decide) (hts _ wm_5_137) (fun _ h9 => h9) rfl dX10_trySets_118 ?_
        refine lv_iload hx hb dX10_trySets_121 (lv_at hl 5 rfl) ?_
        obtain ⟨h_27, hw⟩ := hw
        refine va_iald hx hb hK hP 9 0 rfl rfl h_27 dX10_trySets_123 ?_
        refine lv_iload hx hb dX10_trySets_124 (lv_at hl 3 rfl) ?_
        refine z_ki (z_rV (rest := []) hZ0 C0 hK hZ hA hP hD hS hl.1 (c_X10_areApart l E Z hZ0 q0 H.size u0 (u0.2.2.2.2.2.2.2.2.2.2.2.2.2.2.2.2.2.2.2.1 x6.toNatClampNeg) x4 _ hw) yv_X10_253 [0, 1, 2, 3, 4, 5, 6, 7, 8, 9] rfl (by decide) (ci := 10) rfl rfl 0 rfl ⟨(Nat.le_trans (m := 10) (Nat.le_of_ble_eq_true rfl) (Nat.le_add_left 10 _)), (Nat.le_trans (m := 300) (Nat.le_of_ble_eq_true rfl) (Nat.le_add_left 300 _))⟩ ⟨rfl, rfl⟩ rfl rfl (Nat.le_of_ble_eq_true rfl) ⟨Nat.le_of_ble_eq_true rfl, Nat.le_of_ble_eq_true rfl⟩ dX10_trySets_126) hP hD hS hA [0, 1, 2, 3, 4, 5, 6, 7, 8, 9] [] [0, 1, 2, 3, 4, 5, 6, 7, 8, 9] rfl (wr := []) rfl (by decide) (by decide) (fun u => k_X10 E q0 u) (fun u => rfl) (by decide) (fun r_29 u_28 H locs hw hP hD hS => ?_)
        obtain ⟨hwt, hwf⟩ := hw
        refine lv_if_eq (tgt := 136) hx hb dX10_trySets_129 (by decide) (fun c_30 => ?_) (fun c_30 => ?_)
        · have hw := hwt c_30
          exact t_X10_trySets_136 (l := l) hZ0 n_ REC hREC C0 hA hK hZ post hk_59 hk_105 x1 x3 x4 x6 u_28 _ _ _ hw hP hD hS (lv_sub hl [0, 1, 2, 3, 5] rfl)
        · have hw := hwf c_30
          refine lv_iconst (v := 1) hx hb dX10_trySets_132 rfl ?_
          refine lv_goto (tgt := 137) hx hb dX10_trySets_133 (by decide) ?_
          exact t_X10_trySets_137 (l := l) hZ0 n_ REC hREC C0 hA hK hZ post hk_59 hk_105 x1 x3 x4 x6 (1 : Int32) u_28 _ _ _ hw hP hD hS (lv_sub hl [0, 1, 2, 3, 5] rfl)
set_option maxHeartbeats 4000000 in
set_option maxRecDepth 100000 in
theorem t_X10_trySets_100 {p : Program} {l : Launch} {e : Env} {s : State} {m : MethodId} {args : Array Value} {below : List Frame} {meth : Method} {c : Code} {Z : zZ} {E : zE} {A : Nat → Prop} {q0 : Nat → Nat} (hZ0 : zSt Z) (n_ : Nat) (REC : S_X10 → Int32 → Int32 → Int32 → (S_X10 → Prop) → Prop) (hREC : ∀ (q0 : Nat → Nat) (sz : Nat) (u0 : S_X10) (p1 : Int32) (p2 : Int32) (p3 : Int32) (post : S_X10 → Prop), REC u0 p1 p2 p3 post → Met l yX10_trySets (zws yX10_trySets cX10_trySets 7 none) (r_X10_trySets n_) (va_Pc [.ref (q0 0), .int p1, .int p2, .int p3] (zPre Z E (k_X10 E q0 u0) sz)) (va_Qv post (zAt E (va_A (k_X10 E q0 u0) sz) (fun u => k_X10 E q0 u)) (va_A (k_X10 E q0 u0) sz)) 0 0 (va_A (k_X10 E q0 u0) sz)) (C0 : zC p s m args meth c yX10_trySets cX10_trySets 7 none) (hA : ∀ q : Nat, s.heap.size ≤ q → A q) (hK : va_K (zD E) vwCl (zT E) s) (hZ : Z A s s.heap) (post : S_X10 → Prop) {K59 : (Int32 × Int32 × Int32 × S_X10) → Prop} (hk_59 : ∀ (x1 : Int32) (x3 : Int32) (x4 : Int32) (u0 : S_X10) (H : Heap) (locs : List Loc) (ls : Array Slot), K59 (x1, x3, x4, u0) → va_P (zD E) vwCl (k_X10 E q0 u0) H → va_D A (k_X10 E q0 u0) → va_S A s.heap H locs → lv_has ls 7 [(0, .ref (q0 0)), (1, .int x1), (3, .int x3), (4, .int x4)] → W p l e (r_X10_trySets (n_ + 1)) s m args below meth c H locs 0 0 (MQ below (va_Qv post (zAt E A (fun u => k_X10 E q0 u)) A) args s 0 0 A) (F0 m 59 ls [])) : ∀ (x1 : Int32) (x3 : Int32) (x4 : Int32) (y0 : Int32) (u0 : S_X10) (H : Heap) (locs : List Loc) (ls : Array Slot), j_X10_trySets_100 K59 REC x1 x3 x4 y0 u0 post → va_P (zD E) vwCl (k_X10 E q0 u0) H → va_D A (k_X10 E q0 u0) → va_S A s.heap H locs → lv_has ls 7 [(0, .ref (q0 0)), (1, .int x1), (3, .int x3), (4, .int x4)] → W p l e (r_X10_trySets (n_ + 1)) s m args below meth c H locs 0 0 (MQ below (va_Qv post (zAt E A (fun u => k_X10 E q0 u)) A) args s 0 0 A) (F0 m 100 ls [.int y0]) := by
  obtain ⟨hx, hb, hml, hr, hown, hts, hlocks, hin⟩ := id C0
  have hown : s.vm.findClass RX10 = some m.cls := hown
  intro x1 x3 x4 y0 u0 H locs ls hw hP hD hS hl
  refine lv_istore (lv' := [(5, .int y0), (0, .ref (q0 0)), (1, .int x1), (3, .int x3), (4, .int x4)]) hx hb dX10_trySets_100 hl (by decide) rfl (fun ls hl => ?_)
  refine lv_iconst (v := 0) hx hb dX10_trySets_102 rfl ?_
  refine lv_istore (lv' := [(6, .int (0 : Int32)), (5, .int y0), (0, .ref (q0 0)), (1, .int x1), (3, .int x3), (4, .int x4)]) hx hb dX10_trySets_103 hl (by decide) rfl (fun ls hl => ?_)
  obtain ⟨n9, hw⟩ := hw
  exact t_X10_trySets_105 (l := l) hZ0 n_ REC hREC C0 hA hK hZ post hk_59 n9 x1 x3 x4 y0 (0 : Int32) u0 _ _ _ hw hP hD hS (lv_sub hl [2, 3, 4, 5, 1, 0] rfl)
set_option maxHeartbeats 4000000 in
set_option maxRecDepth 100000 in
theorem t_X10_trySets_99 {p : Program} {l : Launch} {e : Env} {s : State} {m : MethodId} {args : Array Value} {below : List Frame} {meth : Method} {c : Code} {Z : zZ} {E : zE} {A : Nat → Prop} {q0 : Nat → Nat} (hZ0 : zSt Z) (n_ : Nat) (REC : S_X10 → Int32 → Int32 → Int32 → (S_X10 → Prop) → Prop) (hREC : ∀ (q0 : Nat → Nat) (sz : Nat) (u0 : S_X10) (p1 : Int32) (p2 : Int32) (p3 : Int32) (post : S_X10 → Prop), REC u0 p1 p2 p3 post → Met l yX10_trySets (zws yX10_trySets cX10_trySets 7 none) (r_X10_trySets n_) (va_Pc [.ref (q0 0), .int p1, .int p2, .int p3] (zPre Z E (k_X10 E q0 u0) sz)) (va_Qv post (zAt E (va_A (k_X10 E q0 u0) sz) (fun u => k_X10 E q0 u)) (va_A (k_X10 E q0 u0) sz)) 0 0 (va_A (k_X10 E q0 u0) sz)) (C0 : zC p s m args meth c yX10_trySets cX10_trySets 7 none) (hA : ∀ q : Nat, s.heap.size ≤ q → A q) (hK : va_K (zD E) vwCl (zT E) s) (hZ : Z A s s.heap) (post : S_X10 → Prop) {K59 : (Int32 × Int32 × Int32 × S_X10) → Prop} (hk_59 : ∀ (x1 : Int32) (x3 : Int32) (x4 : Int32) (u0 : S_X10) (H : Heap) (locs : List Loc) (ls : Array Slot), K59 (x1, x3, x4, u0) → va_P (zD E) vwCl (k_X10 E q0 u0) H → va_D A (k_X10 E q0 u0) → va_S A s.heap H locs → lv_has ls 7 [(0, .ref (q0 0)), (1, .int x1), (3, .int x3), (4, .int x4)] → W p l e (r_X10_trySets (n_ + 1)) s m args below meth c H locs 0 0 (MQ below (va_Qv post (zAt E A (fun u => k_X10 E q0 u)) A) args s 0 0 A) (F0 m 59 ls [])) : ∀ (x1 : Int32) (x3 : Int32) (x4 : Int32) (u0 : S_X10) (H : Heap) (locs : List Loc) (ls : Array Slot), j_X10_trySets_99 K59 REC x1 x3 x4 u0 post → va_P (zD E) vwCl (k_X10 E q0 u0) H → va_D A (k_X10 E q0 u0) → va_S A s.heap H locs → lv_has ls 7 [(0, .ref (q0 0)), (1, .int x1), (3, .int x3), (4, .int x4)] → W p l e (r_X10_trySets (n_ + 1)) s m args below meth c H locs 0 0 (MQ below (va_Qv post (zAt E A (fun u => k_X10 E q0 u)) A) args s 0 0 A) (F0 m 99 ls []) := by
  obtain ⟨hx, hb, hml, hr, hown, hts, hlocks, hin⟩ := id C0
  have hown : s.vm.findClass RX10 = some m.cls := hown
  intro x1 x3 x4 u0 H locs ls hw hP hD hS hl
  refine lv_iconst (v := 0) hx hb dX10_trySets_99 rfl ?_
  exact t_X10_trySets_100 (l := l) hZ0 n_ REC hREC C0 hA hK hZ post hk_59 x1 x3 x4 (0 : Int32) u0 _ _ _ hw hP hD hS (lv_sub hl [0, 1, 2, 3] rfl)
set_option maxHeartbeats 4000000 in
set_option maxRecDepth 100000 in
theorem t_X10_trySets_59 {p : Program} {l : Launch} {e : Env} {s : State} {m : MethodId} {args : Array Value} {below : List Frame} {meth : Method} {c : Code} {Z : zZ} {E : zE} {A : Nat → Prop} {q0 : Nat → Nat} (hZ0 : zSt Z) (n_ : Nat) (REC : S_X10 → Int32 → Int32 → Int32 → (S_X10 → Prop) → Prop) (hREC : ∀ (q0 : Nat → Nat) (sz : Nat) (u0 : S_X10) (p1 : Int32) (p2 : Int32) (p3 : Int32) (post : S_X10 → Prop), REC u0 p1 p2 p3 post → Met l yX10_trySets (zws yX10_trySets cX10_trySets 7 none) (r_X10_trySets n_) (va_Pc [.ref (q0 0), .int p1, .int p2, .int p3] (zPre Z E (k_X10 E q0 u0) sz)) (va_Qv post (zAt E (va_A (k_X10 E q0 u0) sz) (fun u => k_X10 E q0 u)) (va_A (k_X10 E q0 u0) sz)) 0 0 (va_A (k_X10 E q0 u0) sz)) (C0 : zC p s m args meth c yX10_trySets cX10_trySets 7 none) (hA : ∀ q : Nat, s.heap.size ≤ q → A q) (hK : va_K (zD E) vwCl (zT E) s) (hZ : Z A s s.heap) (post : S_X10 → Prop) : ∀ (n : Nat) (x1 : Int32) (x3 : Int32) (x4 : Int32) (u0 : S_X10) (H : Heap) (locs : List Loc) (ls : Array Slot), zl (fun K st => j_X10_trySets_59 K REC st.1 st.2.1 st.2.2.1 st.2.2.2 post) n (x1, x3, x4, u0) → va_P (zD E) vwCl (k_X10 E q0 u0) H → va_D A (k_X10 E q0 u0) → va_S A s.heap H locs → lv_has ls 7 [(0, .ref (q0 0)), (1, .int x1), (3, .int x3), (4, .int x4)] → W p l e (r_X10_trySets (n_ + 1)) s m args below meth c H locs 0 0 (MQ below (va_Qv post (zAt E A (fun u => k_X10 E q0 u)) A) args s 0 0 A) (F0 m 59 ls []) := by
  obtain ⟨hx, hb, hml, hr, hown, hts, hlocks, hin⟩ := id C0
  have hown : s.vm.findClass RX10 = some m.cls := hown
  intro n
  induction n with
  | zero => intro x1 x3 x4 u0 H locs ls hw; exact hw.elim
  | succ n hk_59 =>
    intro x1 x3 x4 u0 H locs ls hw hP hD hS hl
    have hw : j_X10_trySets_59 _ REC x1 x3 x4 u0 post := hw
    refine lv_iload hx hb dX10_trySets_59 (lv_at hl 3 rfl) ?_
    refine lv_aload_n hx hb dX10_trySets_61 rfl (lv_at hl 0 rfl) ?_
    refine va_get (D := zD E) (ci := 10) (v := .ref (q0 2)) (C := RX10) (T := TX10) (N := 24) hx hb hts uw_X10 hown hK hP 0 rfl rfl 8 (by decide) (hts _ wm_5_124) (fun _ h9 => h9) rfl dX10_trySets_62 ?_
    refine lv_bipush (v := 12) hx hb dX10_trySets_65 rfl ?_
    refine va_iald hx hb hK hP 2 0 rfl rfl (show ¬ ((12 : Int32) < 0 ∨ 1728 ≤ (12 : Int32).toNatClampNeg) by decide) dX10_trySets_67 ?_
    refine W.eq (g2 := F0 m 68 ls ([.int (u0.2.2.2.2.2.2.2.2.1 12), .int x4])) rfl ?_
    obtain ⟨hwt, hwf⟩ := hw
    refine lv_icmp_ge (tgt := 192) hx hb dX10_trySets_68 (by decide) (fun c_10 => ?_) (fun c_10 => ?_)
    · have hw := hwt c_10
      exact z_vret (k := (fun u => k_X10 E q0 u)) u0 C0 hP hD hS hw dX10_trySets_192
    · have hw := hwf c_10
      refine lv_aload_n hx hb dX10_trySets_71 rfl (lv_at hl 0 rfl) ?_
      refine va_get (D := zD E) (ci := 10) (v := .ref (q0 2)) (C := RX10) (T := TX10) (N := 24) hx hb hts uw_X10 hown hK hP 0 rfl rfl 8 (by decide) (hts _ wm_5_124) (fun _ h9 => h9) rfl dX10_trySets_72 ?_
      refine lv_iload hx hb dX10_trySets_75 (lv_at hl 3 rfl) ?_
      refine z_ki (z_rS (rest := [.ref (q0 2)]) hZ0 C0 hK hZ hA hP hD hS hl.1 (c_X10_breach l E Z hZ0 H.size x4 _ hw) yv_X10_220 [] rfl (by decide) ⟨(Nat.le_trans (m := 10) (Nat.le_of_ble_eq_true rfl) (Nat.le_add_left 10 _)), (Nat.le_trans (m := 300) (Nat.le_of_ble_eq_true rfl) (Nat.le_add_left 300 _))⟩ ⟨rfl, rfl⟩ rfl rfl (Nat.le_of_ble_eq_true rfl) ⟨Nat.le_of_ble_eq_true rfl, Nat.le_of_ble_eq_true rfl⟩ dX10_trySets_77) hP hD hS hA [] [0, 1, 2, 3, 4, 5, 6, 7, 8, 9] [0, 1, 2, 3, 4, 5, 6, 7, 8, 9] rfl (wr := [_, _, _, _, _, _, _, _, _, _]) rfl (by decide) (by decide) (fun u => k_X10 E q0 u0) (fun u => rfl) (by decide) (fun r_12 u_11 H locs hw hP hD hS => ?_)
      refine lv_iconst (v := 2) hx hb dX10_trySets_80 rfl ?_
      refine lv_iadd hx hb dX10_trySets_81 ?_
      obtain ⟨h_13, hw⟩ := hw
      refine va_iald hx hb hK hP 2 0 rfl rfl h_13 dX10_trySets_82 ?_
      obtain ⟨hwt, hwf⟩ := hw
      refine lv_if_le (tgt := 99) hx hb dX10_trySets_83 (by decide) (fun c_14 => ?_) (fun c_14 => ?_)
      · have hw := hwt c_14
        exact t_X10_trySets_99 (l := l) hZ0 n_ REC hREC C0 hA hK hZ post hk_59 x1 x3 x4 u0 _ _ _ hw hP hD hS (lv_sub hl [0, 1, 2, 3] rfl)
      · have hw := hwf c_14
        refine lv_aload_n hx hb dX10_trySets_86 rfl (lv_at hl 0 rfl) ?_
        refine lv_iload hx hb dX10_trySets_87 (lv_at hl 3 rfl) ?_
        refine z_ki (z_rV (rest := []) hZ0 C0 hK hZ hA hP hD hS hl.1 (c_X10_canWaive l E Z hZ0 q0 H.size u0 x4 _ hw) yv_X10_263 [0, 1, 2, 3, 4, 5, 6, 7, 8, 9] rfl (by decide) (ci := 10) rfl rfl 0 rfl ⟨(Nat.le_trans (m := 10) (Nat.le_of_ble_eq_true rfl) (Nat.le_add_left 10 _)), (Nat.le_trans (m := 300) (Nat.le_of_ble_eq_true rfl) (Nat.le_add_left 300 _))⟩ ⟨rfl, rfl⟩ rfl rfl (Nat.le_of_ble_eq_true rfl) ⟨Nat.le_of_ble_eq_true rfl, Nat.le_of_ble_eq_true rfl⟩ dX10_trySets_89) hP hD hS hA [0, 1, 2, 3, 4, 5, 6, 7, 8, 9] [] [0, 1, 2, 3, 4, 5, 6, 7, 8, 9] rfl (wr := []) rfl (by decide) (by decide) (fun u => k_X10 E q0 u) (fun u => rfl) (by decide) (fun r_16 u_15 H locs hw hP hD hS => ?_)
        obtain ⟨hwt, hwf⟩ := hw
        refine lv_if_eq (tgt := 99) hx hb dX10_trySets_92 (by decide) (fun c_17 => ?_) (fun c_17 => ?_)
        · have hw := hwt c_17
          exact t_X10_trySets_99 (l := l) hZ0 n_ REC hREC C0 hA hK hZ post hk_59 x1 x3 x4 u_15 _ _ _ hw hP hD hS (lv_sub hl [0, 1, 2, 3] rfl)
        · have hw := hwf c_17
          refine lv_iconst (v := 1) hx hb dX10_trySets_95 rfl ?_
          refine lv_goto (tgt := 100) hx hb dX10_trySets_96 (by decide) ?_
          exact t_X10_trySets_100 (l := l) hZ0 n_ REC hREC C0 hA hK hZ post hk_59 x1 x3 x4 (1 : Int32) u_15 _ _ _ hw hP hD hS (lv_sub hl [0, 1, 2, 3] rfl)
set_option maxHeartbeats 4000000 in
set_option maxRecDepth 100000 in
theorem t_X10_trySets_47 {p : Program} {l : Launch} {e : Env} {s : State} {m : MethodId} {args : Array Value} {below : List Frame} {meth : Method} {c : Code} {Z : zZ} {E : zE} {A : Nat → Prop} {q0 : Nat → Nat} (hZ0 : zSt Z) (n_ : Nat) (REC : S_X10 → Int32 → Int32 → Int32 → (S_X10 → Prop) → Prop) (hREC : ∀ (q0 : Nat → Nat) (sz : Nat) (u0 : S_X10) (p1 : Int32) (p2 : Int32) (p3 : Int32) (post : S_X10 → Prop), REC u0 p1 p2 p3 post → Met l yX10_trySets (zws yX10_trySets cX10_trySets 7 none) (r_X10_trySets n_) (va_Pc [.ref (q0 0), .int p1, .int p2, .int p3] (zPre Z E (k_X10 E q0 u0) sz)) (va_Qv post (zAt E (va_A (k_X10 E q0 u0) sz) (fun u => k_X10 E q0 u)) (va_A (k_X10 E q0 u0) sz)) 0 0 (va_A (k_X10 E q0 u0) sz)) (C0 : zC p s m args meth c yX10_trySets cX10_trySets 7 none) (hA : ∀ q : Nat, s.heap.size ≤ q → A q) (hK : va_K (zD E) vwCl (zT E) s) (hZ : Z A s s.heap) (post : S_X10 → Prop) : ∀ (x1 : Int32) (x2 : Int32) (x3 : Int32) (u0 : S_X10) (H : Heap) (locs : List Loc) (ls : Array Slot), j_X10_trySets_47 REC x1 x2 x3 u0 post → va_P (zD E) vwCl (k_X10 E q0 u0) H → va_D A (k_X10 E q0 u0) → va_S A s.heap H locs → lv_has ls 7 [(0, .ref (q0 0)), (1, .int x1), (2, .int x2), (3, .int x3)] → W p l e (r_X10_trySets (n_ + 1)) s m args below meth c H locs 0 0 (MQ below (va_Qv post (zAt E A (fun u => k_X10 E q0 u)) A) args s 0 0 A) (F0 m 47 ls []) := by
  obtain ⟨hx, hb, hml, hr, hown, hts, hlocks, hin⟩ := id C0
  have hown : s.vm.findClass RX10 = some m.cls := hown
  intro x1 x2 x3 u0 H locs ls hw hP hD hS hl
  refine lv_iload_n hx hb dX10_trySets_47 rfl (lv_at hl 1 rfl) ?_
  refine lv_aload_n hx hb dX10_trySets_48 rfl (lv_at hl 0 rfl) ?_
  refine z_ki (z_rV (rest := [.int x1]) hZ0 C0 hK hZ hA hP hD hS hl.1 (c_X10_leftOver l E Z hZ0 q0 H.size u0 _ hw) yv_X10_250 [0, 1, 2, 3, 4, 5, 6, 7, 8, 9] rfl (by decide) (ci := 10) rfl rfl 0 rfl ⟨(Nat.le_trans (m := 10) (Nat.le_of_ble_eq_true rfl) (Nat.le_add_left 10 _)), (Nat.le_trans (m := 300) (Nat.le_of_ble_eq_true rfl) (Nat.le_add_left 300 _))⟩ ⟨rfl, rfl⟩ rfl rfl (Nat.le_of_ble_eq_true rfl) ⟨Nat.le_of_ble_eq_true rfl, Nat.le_of_ble_eq_true rfl⟩ dX10_trySets_49) hP hD hS hA [0, 1, 2, 3, 4, 5, 6, 7, 8, 9] [] [0, 1, 2, 3, 4, 5, 6, 7, 8, 9] rfl (wr := []) rfl (by decide) (by decide) (fun u => k_X10 E q0 u) (fun u => rfl) (by decide) (fun r_3 u_2 H locs hw hP hD hS => ?_)
  obtain ⟨hwt, hwf⟩ := hw
  refine lv_icmp_ne (tgt := 56) hx hb dX10_trySets_52 (by decide) (fun c_4 => ?_) (fun c_4 => ?_)
  · have hw := hwt c_4
    refine lv_iload_n hx hb dX10_trySets_56 rfl (lv_at hl 2 rfl) ?_
    refine lv_istore (lv' := [(4, .int x2), (0, .ref (q0 0)), (1, .int x1), (2, .int x2), (3, .int x3)]) hx hb dX10_trySets_57 hl (by decide) rfl (fun ls hl => ?_)
    obtain ⟨n9, hw⟩ := hw
    exact t_X10_trySets_59 (l := l) hZ0 n_ REC hREC C0 hA hK hZ post n9 x1 x3 x2 u_2 _ _ _ hw hP hD hS (lv_sub hl [1, 2, 4, 0] rfl)
  · have hw := hwf c_4
    exact z_vret (k := (fun u => k_X10 E q0 u)) u_2 C0 hP hD hS hw dX10_trySets_55
set_option maxHeartbeats 4000000 in
set_option maxRecDepth 100000 in
theorem t_X10_trySets_21 {p : Program} {l : Launch} {e : Env} {s : State} {m : MethodId} {args : Array Value} {below : List Frame} {meth : Method} {c : Code} {Z : zZ} {E : zE} {A : Nat → Prop} {q0 : Nat → Nat} (hZ0 : zSt Z) (n_ : Nat) (REC : S_X10 → Int32 → Int32 → Int32 → (S_X10 → Prop) → Prop) (hREC : ∀ (q0 : Nat → Nat) (sz : Nat) (u0 : S_X10) (p1 : Int32) (p2 : Int32) (p3 : Int32) (post : S_X10 → Prop), REC u0 p1 p2 p3 post → Met l yX10_trySets (zws yX10_trySets cX10_trySets 7 none) (r_X10_trySets n_) (va_Pc [.ref (q0 0), .int p1, .int p2, .int p3] (zPre Z E (k_X10 E q0 u0) sz)) (va_Qv post (zAt E (va_A (k_X10 E q0 u0) sz) (fun u => k_X10 E q0 u)) (va_A (k_X10 E q0 u0) sz)) 0 0 (va_A (k_X10 E q0 u0) sz)) (C0 : zC p s m args meth c yX10_trySets cX10_trySets 7 none) (hA : ∀ q : Nat, s.heap.size ≤ q → A q) (hK : va_K (zD E) vwCl (zT E) s) (hZ : Z A s s.heap) (post : S_X10 → Prop) : ∀ (n : Nat) (x1 : Int32) (x2 : Int32) (x3 : Int32) (x4 : Int32) (u0 : S_X10) (H : Heap) (locs : List Loc) (ls : Array Slot), zl (fun K st => j_X10_trySets_21 K REC st.1 st.2.1 st.2.2.1 st.2.2.2.1 st.2.2.2.2 post) n (x1, x2, x3, x4, u0) → va_P (zD E) vwCl (k_X10 E q0 u0) H → va_D A (k_X10 E q0 u0) → va_S A s.heap H locs → lv_has ls 7 [(0, .ref (q0 0)), (1, .int x1), (2, .int x2), (3, .int x3), (4, .int x4)] → W p l e (r_X10_trySets (n_ + 1)) s m args below meth c H locs 0 0 (MQ below (va_Qv post (zAt E A (fun u => k_X10 E q0 u)) A) args s 0 0 A) (F0 m 21 ls []) := by
  obtain ⟨hx, hb, hml, hr, hown, hts, hlocks, hin⟩ := id C0
  have hown : s.vm.findClass RX10 = some m.cls := hown
  intro n
  induction n with
  | zero => intro x1 x2 x3 x4 u0 H locs ls hw; exact hw.elim
  | succ n hk_21 =>
    intro x1 x2 x3 x4 u0 H locs ls hw hP hD hS hl
    have hw : j_X10_trySets_21 _ REC x1 x2 x3 x4 u0 post := hw
    refine lv_iload hx hb dX10_trySets_21 (lv_at hl 4 rfl) ?_
    refine lv_iload_n hx hb dX10_trySets_23 rfl (lv_at hl 1 rfl) ?_
    obtain ⟨hwt, hwf⟩ := hw
    refine lv_icmp_ge (tgt := 47) hx hb dX10_trySets_24 (by decide) (fun c_5 => ?_) (fun c_5 => ?_)
    · have hw := hwt c_5
      exact t_X10_trySets_47 (l := l) hZ0 n_ REC hREC C0 hA hK hZ post x1 x2 x3 u0 _ _ _ hw hP hD hS (lv_sub hl [0, 1, 2, 3] rfl)
    · have hw := hwf c_5
      refine lv_aload_n hx hb dX10_trySets_27 rfl (lv_at hl 0 rfl) ?_
      refine va_get (D := zD E) (ci := 10) (v := .ref (q0 10)) (C := RX10) (T := TX10) (N := 24) hx hb hts uw_X10 hown hK hP 0 rfl rfl 20 (by decide) (hts _ wm_5_136) (fun _ h9 => h9) rfl dX10_trySets_28 ?_
      refine lv_iload hx hb dX10_trySets_31 (lv_at hl 4 rfl) ?_
      refine lv_aload_n hx hb dX10_trySets_33 rfl (lv_at hl 0 rfl) ?_
      refine va_get (D := zD E) (ci := 10) (v := .ref (q0 11)) (C := RX10) (T := TX10) (N := 24) hx hb hts uw_X10 hown hK hP 0 rfl rfl 21 (by decide) (hts _ wm_5_137) (fun _ h9 => h9) rfl dX10_trySets_34 ?_
      refine lv_iload hx hb dX10_trySets_37 (lv_at hl 4 rfl) ?_
      obtain ⟨h_6, hw⟩ := hw
      refine va_iald hx hb hK hP 9 0 rfl rfl h_6 dX10_trySets_39 ?_
      refine lv_topi (fun x_7 ex_7 => ?_)
      have hw := hw x_7 ex_7
      obtain ⟨h_8, hw⟩ := hw
      refine va_iast hx hb hK hP hD hS 8 0 rfl rfl h_8 dX10_trySets_40 (fun H locs hP hD hS => ?_)
      have hP : va_P (zD E) vwCl (k_X10 E q0 (u0.1, u0.2.1, u0.2.2.1, u0.2.2.2.1, u0.2.2.2.2.1, u0.2.2.2.2.2.1, u0.2.2.2.2.2.2.1, u0.2.2.2.2.2.2.2.1, u0.2.2.2.2.2.2.2.2.1, u0.2.2.2.2.2.2.2.2.2.1, u0.2.2.2.2.2.2.2.2.2.2.1, u0.2.2.2.2.2.2.2.2.2.2.2.1, u0.2.2.2.2.2.2.2.2.2.2.2.2.1, u0.2.2.2.2.2.2.2.2.2.2.2.2.2.1, u0.2.2.2.2.2.2.2.2.2.2.2.2.2.2.1, u0.2.2.2.2.2.2.2.2.2.2.2.2.2.2.2.1, u0.2.2.2.2.2.2.2.2.2.2.2.2.2.2.2.2.1, u0.2.2.2.2.2.2.2.2.2.2.2.2.2.2.2.2.2.1, (upd u0.2.2.2.2.2.2.2.2.2.2.2.2.2.2.2.2.2.2.1 x4.toNatClampNeg x_7), u0.2.2.2.2.2.2.2.2.2.2.2.2.2.2.2.2.2.2.2.1, u0.2.2.2.2.2.2.2.2.2.2.2.2.2.2.2.2.2.2.2.2.1, u0.2.2.2.2.2.2.2.2.2.2.2.2.2.2.2.2.2.2.2.2.2)) H := hP
      have hD : va_D A (k_X10 E q0 (u0.1, u0.2.1, u0.2.2.1, u0.2.2.2.1, u0.2.2.2.2.1, u0.2.2.2.2.2.1, u0.2.2.2.2.2.2.1, u0.2.2.2.2.2.2.2.1, u0.2.2.2.2.2.2.2.2.1, u0.2.2.2.2.2.2.2.2.2.1, u0.2.2.2.2.2.2.2.2.2.2.1, u0.2.2.2.2.2.2.2.2.2.2.2.1, u0.2.2.2.2.2.2.2.2.2.2.2.2.1, u0.2.2.2.2.2.2.2.2.2.2.2.2.2.1, u0.2.2.2.2.2.2.2.2.2.2.2.2.2.2.1, u0.2.2.2.2.2.2.2.2.2.2.2.2.2.2.2.1, u0.2.2.2.2.2.2.2.2.2.2.2.2.2.2.2.2.1, u0.2.2.2.2.2.2.2.2.2.2.2.2.2.2.2.2.2.1, (upd u0.2.2.2.2.2.2.2.2.2.2.2.2.2.2.2.2.2.2.1 x4.toNatClampNeg x_7), u0.2.2.2.2.2.2.2.2.2.2.2.2.2.2.2.2.2.2.2.1, u0.2.2.2.2.2.2.2.2.2.2.2.2.2.2.2.2.2.2.2.2.1, u0.2.2.2.2.2.2.2.2.2.2.2.2.2.2.2.2.2.2.2.2.2)) := hD
      obtain ⟨x_9, ex_9⟩ : ∃ y : Int32, y = x4 + 1 := ⟨_, rfl⟩
      have hw := hw x_9 ex_9
      refine lv_iinc (v := x_9) (lv' := [(4, .int x_9), (0, .ref (q0 0)), (1, .int x1), (2, .int x2), (3, .int x3)]) hx hb dX10_trySets_41 hl (k := 4) rfl (by rw [ex_9]; rfl) (by decide) rfl (fun ls hl => ?_)
      refine lv_goto (tgt := 21) hx hb dX10_trySets_44 (by decide) ?_
      exact hk_21 x1 x2 x3 x_9 (u0.1, u0.2.1, u0.2.2.1, u0.2.2.2.1, u0.2.2.2.2.1, u0.2.2.2.2.2.1, u0.2.2.2.2.2.2.1, u0.2.2.2.2.2.2.2.1, u0.2.2.2.2.2.2.2.2.1, u0.2.2.2.2.2.2.2.2.2.1, u0.2.2.2.2.2.2.2.2.2.2.1, u0.2.2.2.2.2.2.2.2.2.2.2.1, u0.2.2.2.2.2.2.2.2.2.2.2.2.1, u0.2.2.2.2.2.2.2.2.2.2.2.2.2.1, u0.2.2.2.2.2.2.2.2.2.2.2.2.2.2.1, u0.2.2.2.2.2.2.2.2.2.2.2.2.2.2.2.1, u0.2.2.2.2.2.2.2.2.2.2.2.2.2.2.2.2.1, u0.2.2.2.2.2.2.2.2.2.2.2.2.2.2.2.2.2.1, (upd u0.2.2.2.2.2.2.2.2.2.2.2.2.2.2.2.2.2.2.1 x4.toNatClampNeg x_7), u0.2.2.2.2.2.2.2.2.2.2.2.2.2.2.2.2.2.2.2.1, u0.2.2.2.2.2.2.2.2.2.2.2.2.2.2.2.2.2.2.2.2.1, u0.2.2.2.2.2.2.2.2.2.2.2.2.2.2.2.2.2.2.2.2.2) _ _ _ hw hP hD hS (lv_sub hl [1, 2, 3, 4, 0] rfl)
set_option maxHeartbeats 4000000 in
set_option maxRecDepth 100000 in
theorem c_X10_trySetsB (l : Launch) (E : zE) (Z : zZ) (hZ0 : zSt Z) (n_ : Nat) (REC : S_X10 → Int32 → Int32 → Int32 → (S_X10 → Prop) → Prop) (hREC : ∀ (q0 : Nat → Nat) (sz : Nat) (u0 : S_X10) (p1 : Int32) (p2 : Int32) (p3 : Int32) (post : S_X10 → Prop), REC u0 p1 p2 p3 post → Met l yX10_trySets (zws yX10_trySets cX10_trySets 7 none) (r_X10_trySets n_) (va_Pc [.ref (q0 0), .int p1, .int p2, .int p3] (zPre Z E (k_X10 E q0 u0) sz)) (va_Qv post (zAt E (va_A (k_X10 E q0 u0) sz) (fun u => k_X10 E q0 u)) (va_A (k_X10 E q0 u0) sz)) 0 0 (va_A (k_X10 E q0 u0) sz)) (q0 : Nat → Nat) (sz : Nat) (u0 : S_X10) (p1 : Int32) (p2 : Int32) (p3 : Int32) (post : S_X10 → Prop) (hw : wp_X10_trySetsB REC u0 p1 p2 p3 post) : Met l yX10_trySets (zws yX10_trySets cX10_trySets 7 none) (r_X10_trySets (n_ + 1)) (va_Pc [.ref (q0 0), .int p1, .int p2, .int p3] (zPre Z E (k_X10 E q0 u0) sz)) (va_Qv post (zAt E (va_A (k_X10 E q0 u0) sz) (fun u => k_X10 E q0 u)) (va_A (k_X10 E q0 u0) sz)) 0 0 (va_A (k_X10 E q0 u0) sz) := by
  refine z_ofW (Qf := fun A => va_Qv post (zAt E A (fun u => k_X10 E q0 u)) A) (by decide) (Nat.le_of_ble_eq_true rfl) ?_
  intro p e s m args below meth c A ls C0 hA hK hZ hP hD hS hl
  obtain ⟨hx, hb, hml, hr, hown, hts, hlocks, hin⟩ := id C0
  have hown : s.vm.findClass RX10 = some m.cls := hown
  have hl : lv_has ls 7 [(0, .ref (q0 0)), (1, .int p1), (2, .int p2), (3, .int p3)] := hl
  refine lv_iload_n hx hb dX10_trySets_0 rfl (lv_at hl 3 rfl) ?_
  refine lv_aload_n hx hb dX10_trySets_1 rfl (lv_at hl 0 rfl) ?_
  refine va_get (D := zD E) (ci := 10) (v := .int u0.2.2.2.2.2.2.2.2.2.2.2.2.2.2.2.2.2.2.2.2.2) (C := RX10) (T := TX10) (N := 24) hx hb hts uw_X10 hown hK hP 0 rfl rfl 23 (by decide) (hts _ wm_5_139) (fun _ h9 => h9) rfl dX10_trySets_2 ?_
  obtain ⟨hwt, hwf⟩ := hw
  refine lv_icmp_le (tgt := 47) hx hb dX10_trySets_5 (by decide) (fun c_1 => ?_) (fun c_1 => ?_)
  · have hw := hwt c_1
    exact t_X10_trySets_47 (l := l) hZ0 n_ REC hREC C0 hA hK hZ post p1 p2 p3 u0 _ _ _ hw hP hD hS (lv_sub hl [0, 1, 2, 3] rfl)
  · have hw := hwf c_1
    refine lv_aload_n hx hb dX10_trySets_8 rfl (lv_at hl 0 rfl) ?_
    refine lv_iload_n hx hb dX10_trySets_9 rfl (lv_at hl 3 rfl) ?_
    refine va_put (D := zD E) (ci := 10) (v := .int p3) (ty := .int) (C := RX10) (T := TX10) (N := 24) hx hb hts uw_X10 tyX10 tyX10_ok nmX10 hown hK hP hD hS 0 rfl rfl 23 (by decide) (hts _ wm_5_139) (fun _ h9 => h9) rfl (by decide +kernel) rfl rfl (Nat.le_of_ble_eq_true rfl) dX10_trySets_10 (fun H locs hP hD hS => ?_)
    have hP : va_P (zD E) vwCl (k_X10 E q0 (u0.1, u0.2.1, u0.2.2.1, u0.2.2.2.1, u0.2.2.2.2.1, u0.2.2.2.2.2.1, u0.2.2.2.2.2.2.1, u0.2.2.2.2.2.2.2.1, u0.2.2.2.2.2.2.2.2.1, u0.2.2.2.2.2.2.2.2.2.1, u0.2.2.2.2.2.2.2.2.2.2.1, u0.2.2.2.2.2.2.2.2.2.2.2.1, u0.2.2.2.2.2.2.2.2.2.2.2.2.1, u0.2.2.2.2.2.2.2.2.2.2.2.2.2.1, u0.2.2.2.2.2.2.2.2.2.2.2.2.2.2.1, u0.2.2.2.2.2.2.2.2.2.2.2.2.2.2.2.1, u0.2.2.2.2.2.2.2.2.2.2.2.2.2.2.2.2.1, u0.2.2.2.2.2.2.2.2.2.2.2.2.2.2.2.2.2.1, u0.2.2.2.2.2.2.2.2.2.2.2.2.2.2.2.2.2.2.1, u0.2.2.2.2.2.2.2.2.2.2.2.2.2.2.2.2.2.2.2.1, u0.2.2.2.2.2.2.2.2.2.2.2.2.2.2.2.2.2.2.2.2.1, p3)) H := hP
    have hD : va_D A (k_X10 E q0 (u0.1, u0.2.1, u0.2.2.1, u0.2.2.2.1, u0.2.2.2.2.1, u0.2.2.2.2.2.1, u0.2.2.2.2.2.2.1, u0.2.2.2.2.2.2.2.1, u0.2.2.2.2.2.2.2.2.1, u0.2.2.2.2.2.2.2.2.2.1, u0.2.2.2.2.2.2.2.2.2.2.1, u0.2.2.2.2.2.2.2.2.2.2.2.1, u0.2.2.2.2.2.2.2.2.2.2.2.2.1, u0.2.2.2.2.2.2.2.2.2.2.2.2.2.1, u0.2.2.2.2.2.2.2.2.2.2.2.2.2.2.1, u0.2.2.2.2.2.2.2.2.2.2.2.2.2.2.2.1, u0.2.2.2.2.2.2.2.2.2.2.2.2.2.2.2.2.1, u0.2.2.2.2.2.2.2.2.2.2.2.2.2.2.2.2.2.1, u0.2.2.2.2.2.2.2.2.2.2.2.2.2.2.2.2.2.2.1, u0.2.2.2.2.2.2.2.2.2.2.2.2.2.2.2.2.2.2.2.1, u0.2.2.2.2.2.2.2.2.2.2.2.2.2.2.2.2.2.2.2.2.1, p3)) := hD
    refine lv_aload_n hx hb dX10_trySets_13 rfl (lv_at hl 0 rfl) ?_
    refine lv_iload_n hx hb dX10_trySets_14 rfl (lv_at hl 1 rfl) ?_
    refine va_put (D := zD E) (ci := 10) (v := .int p1) (ty := .int) (C := RX10) (T := TX10) (N := 24) hx hb hts uw_X10 tyX10 tyX10_ok nmX10 hown hK hP hD hS 0 rfl rfl 22 (by decide) (hts _ wm_5_138) (fun _ h9 => h9) rfl (by decide +kernel) rfl rfl (Nat.le_of_ble_eq_true rfl) dX10_trySets_15 (fun H locs hP hD hS => ?_)
    have hP : va_P (zD E) vwCl (k_X10 E q0 (u0.1, u0.2.1, u0.2.2.1, u0.2.2.2.1, u0.2.2.2.2.1, u0.2.2.2.2.2.1, u0.2.2.2.2.2.2.1, u0.2.2.2.2.2.2.2.1, u0.2.2.2.2.2.2.2.2.1, u0.2.2.2.2.2.2.2.2.2.1, u0.2.2.2.2.2.2.2.2.2.2.1, u0.2.2.2.2.2.2.2.2.2.2.2.1, u0.2.2.2.2.2.2.2.2.2.2.2.2.1, u0.2.2.2.2.2.2.2.2.2.2.2.2.2.1, u0.2.2.2.2.2.2.2.2.2.2.2.2.2.2.1, u0.2.2.2.2.2.2.2.2.2.2.2.2.2.2.2.1, u0.2.2.2.2.2.2.2.2.2.2.2.2.2.2.2.2.1, u0.2.2.2.2.2.2.2.2.2.2.2.2.2.2.2.2.2.1, u0.2.2.2.2.2.2.2.2.2.2.2.2.2.2.2.2.2.2.1, u0.2.2.2.2.2.2.2.2.2.2.2.2.2.2.2.2.2.2.2.1, p1, p3)) H := hP
    have hD : va_D A (k_X10 E q0 (u0.1, u0.2.1, u0.2.2.1, u0.2.2.2.1, u0.2.2.2.2.1, u0.2.2.2.2.2.1, u0.2.2.2.2.2.2.1, u0.2.2.2.2.2.2.2.1, u0.2.2.2.2.2.2.2.2.1, u0.2.2.2.2.2.2.2.2.2.1, u0.2.2.2.2.2.2.2.2.2.2.1, u0.2.2.2.2.2.2.2.2.2.2.2.1, u0.2.2.2.2.2.2.2.2.2.2.2.2.1, u0.2.2.2.2.2.2.2.2.2.2.2.2.2.1, u0.2.2.2.2.2.2.2.2.2.2.2.2.2.2.1, u0.2.2.2.2.2.2.2.2.2.2.2.2.2.2.2.1, u0.2.2.2.2.2.2.2.2.2.2.2.2.2.2.2.2.1, u0.2.2.2.2.2.2.2.2.2.2.2.2.2.2.2.2.2.1, u0.2.2.2.2.2.2.2.2.2.2.2.2.2.2.2.2.2.2.1, u0.2.2.2.2.2.2.2.2.2.2.2.2.2.2.2.2.2.2.2.1, p1, p3)) := hD
    refine lv_iconst (v := 0) hx hb dX10_trySets_18 rfl ?_
    refine lv_istore (lv' := [(4, .int (0 : Int32)), (0, .ref (q0 0)), (1, .int p1), (2, .int p2), (3, .int p3)]) hx hb dX10_trySets_19 hl (by decide) rfl (fun ls hl => ?_)
    obtain ⟨n9, hw⟩ := hw
    exact t_X10_trySets_21 (l := l) hZ0 n_ REC hREC C0 hA hK hZ post n9 p1 p2 p3 (0 : Int32) (u0.1, u0.2.1, u0.2.2.1, u0.2.2.2.1, u0.2.2.2.2.1, u0.2.2.2.2.2.1, u0.2.2.2.2.2.2.1, u0.2.2.2.2.2.2.2.1, u0.2.2.2.2.2.2.2.2.1, u0.2.2.2.2.2.2.2.2.2.1, u0.2.2.2.2.2.2.2.2.2.2.1, u0.2.2.2.2.2.2.2.2.2.2.2.1, u0.2.2.2.2.2.2.2.2.2.2.2.2.1, u0.2.2.2.2.2.2.2.2.2.2.2.2.2.1, u0.2.2.2.2.2.2.2.2.2.2.2.2.2.2.1, u0.2.2.2.2.2.2.2.2.2.2.2.2.2.2.2.1, u0.2.2.2.2.2.2.2.2.2.2.2.2.2.2.2.2.1, u0.2.2.2.2.2.2.2.2.2.2.2.2.2.2.2.2.2.1, u0.2.2.2.2.2.2.2.2.2.2.2.2.2.2.2.2.2.2.1, u0.2.2.2.2.2.2.2.2.2.2.2.2.2.2.2.2.2.2.2.1, p1, p3) _ _ _ hw hP hD hS (lv_sub hl [1, 2, 3, 4, 0] rfl)
def wp_X10_trySets : Nat → S_X10 → Int32 → Int32 → Int32 → (S_X10 → Prop) → Prop
  | 0, _, _, _, _, _ => False
  | n + 1, u0, p1, p2, p3, post => wp_X10_trySetsB (wp_X10_trySets n) u0 p1 p2 p3 post
theorem c_X10_trySets (l : Launch) (E : zE) (Z : zZ) (hZ0 : zSt Z) : ∀ (n_ : Nat), ∀ (q0 : Nat → Nat) (sz : Nat) (u0 : S_X10) (p1 : Int32) (p2 : Int32) (p3 : Int32) (post : S_X10 → Prop), wp_X10_trySets n_ u0 p1 p2 p3 post → Met l yX10_trySets (zws yX10_trySets cX10_trySets 7 none) (r_X10_trySets n_) (va_Pc [.ref (q0 0), .int p1, .int p2, .int p3] (zPre Z E (k_X10 E q0 u0) sz)) (va_Qv post (zAt E (va_A (k_X10 E q0 u0) sz) (fun u => k_X10 E q0 u)) (va_A (k_X10 E q0 u0) sz)) 0 0 (va_A (k_X10 E q0 u0) sz) := by
  intro n_
  induction n_ with
  | zero => intro q0 sz u0 p1 p2 p3 post hw; exact hw.elim
  | succ n ih => intro q0 sz u0 p1 p2 p3 post hw; exact c_X10_trySetsB l E Z hZ0 n (wp_X10_trySets n) ih q0 sz u0 p1 p2 p3 post hw
abbrev r_X10_findBest : Room := { frames := 17, cells := 0, slots := 0, locals := 806 }
def wp_X10_findBest (u0 : S_X10) (post : S_X10 → Prop) : Prop := wp_X10_trySets 6 (u0.1, u0.2.1, u0.2.2.1, u0.2.2.2.1, u0.2.2.2.2.1, u0.2.2.2.2.2.1, u0.2.2.2.2.2.2.1, u0.2.2.2.2.2.2.2.1, u0.2.2.2.2.2.2.2.2.1, u0.2.2.2.2.2.2.2.2.2.1, u0.2.2.2.2.2.2.2.2.2.2.1, u0.2.2.2.2.2.2.2.2.2.2.2.1, u0.2.2.2.2.2.2.2.2.2.2.2.2.1, u0.2.2.2.2.2.2.2.2.2.2.2.2.2.1, u0.2.2.2.2.2.2.2.2.2.2.2.2.2.2.1, u0.2.2.2.2.2.2.2.2.2.2.2.2.2.2.2.1, u0.2.2.2.2.2.2.2.2.2.2.2.2.2.2.2.2.1, u0.2.2.2.2.2.2.2.2.2.2.2.2.2.2.2.2.2.1, u0.2.2.2.2.2.2.2.2.2.2.2.2.2.2.2.2.2.2.1, u0.2.2.2.2.2.2.2.2.2.2.2.2.2.2.2.2.2.2.2.1, (0 : Int32), (0 : Int32)) (0 : Int32) (0 : Int32) (0 : Int32) (fun u_1 => post u_1)
set_option maxHeartbeats 4000000 in
set_option maxRecDepth 100000 in
theorem c_X10_findBest (l : Launch) (E : zE) (Z : zZ) (hZ0 : zSt Z) (q0 : Nat → Nat) (sz : Nat) (u0 : S_X10) (post : S_X10 → Prop) (hw : wp_X10_findBest u0 post) : Met l yX10_findBest (zws yX10_findBest cX10_findBest 1 none) r_X10_findBest (va_Pc [.ref (q0 0)] (zPre Z E (k_X10 E q0 u0) sz)) (va_Qv post (zAt E (va_A (k_X10 E q0 u0) sz) (fun u => k_X10 E q0 u)) (va_A (k_X10 E q0 u0) sz)) 0 0 (va_A (k_X10 E q0 u0) sz) := by
  refine z_ofW (Qf := fun A => va_Qv post (zAt E A (fun u => k_X10 E q0 u)) A) (by decide) (Nat.le_of_ble_eq_true rfl) ?_
  intro p e s m args below meth c A ls C0 hA hK hZ hP hD hS hl
  obtain ⟨hx, hb, hml, hr, hown, hts, hlocks, hin⟩ := id C0
  have hown : s.vm.findClass RX10 = some m.cls := hown
  have hl : lv_has ls 1 [(0, .ref (q0 0))] := hl
  refine lv_aload_n hx hb dX10_findBest_0 rfl (lv_at hl 0 rfl) ?_
  refine lv_iconst (v := 0) hx hb dX10_findBest_1 rfl ?_
  refine va_put (D := zD E) (ci := 10) (v := .int (0 : Int32)) (ty := .int) (C := RX10) (T := TX10) (N := 24) hx hb hts uw_X10 tyX10 tyX10_ok nmX10 hown hK hP hD hS 0 rfl rfl 22 (by decide) (hts _ wm_5_138) (fun _ h9 => h9) rfl (by decide +kernel) rfl rfl (Nat.le_of_ble_eq_true rfl) dX10_findBest_2 (fun H locs hP hD hS => ?_)
  have hP : va_P (zD E) vwCl (k_X10 E q0 (u0.1, u0.2.1, u0.2.2.1, u0.2.2.2.1, u0.2.2.2.2.1, u0.2.2.2.2.2.1, u0.2.2.2.2.2.2.1, u0.2.2.2.2.2.2.2.1, u0.2.2.2.2.2.2.2.2.1, u0.2.2.2.2.2.2.2.2.2.1, u0.2.2.2.2.2.2.2.2.2.2.1, u0.2.2.2.2.2.2.2.2.2.2.2.1, u0.2.2.2.2.2.2.2.2.2.2.2.2.1, u0.2.2.2.2.2.2.2.2.2.2.2.2.2.1, u0.2.2.2.2.2.2.2.2.2.2.2.2.2.2.1, u0.2.2.2.2.2.2.2.2.2.2.2.2.2.2.2.1, u0.2.2.2.2.2.2.2.2.2.2.2.2.2.2.2.2.1, u0.2.2.2.2.2.2.2.2.2.2.2.2.2.2.2.2.2.1, u0.2.2.2.2.2.2.2.2.2.2.2.2.2.2.2.2.2.2.1, u0.2.2.2.2.2.2.2.2.2.2.2.2.2.2.2.2.2.2.2.1, (0 : Int32), u0.2.2.2.2.2.2.2.2.2.2.2.2.2.2.2.2.2.2.2.2.2)) H := hP
  have hD : va_D A (k_X10 E q0 (u0.1, u0.2.1, u0.2.2.1, u0.2.2.2.1, u0.2.2.2.2.1, u0.2.2.2.2.2.1, u0.2.2.2.2.2.2.1, u0.2.2.2.2.2.2.2.1, u0.2.2.2.2.2.2.2.2.1, u0.2.2.2.2.2.2.2.2.2.1, u0.2.2.2.2.2.2.2.2.2.2.1, u0.2.2.2.2.2.2.2.2.2.2.2.1, u0.2.2.2.2.2.2.2.2.2.2.2.2.1, u0.2.2.2.2.2.2.2.2.2.2.2.2.2.1, u0.2.2.2.2.2.2.2.2.2.2.2.2.2.2.1, u0.2.2.2.2.2.2.2.2.2.2.2.2.2.2.2.1, u0.2.2.2.2.2.2.2.2.2.2.2.2.2.2.2.2.1, u0.2.2.2.2.2.2.2.2.2.2.2.2.2.2.2.2.2.1, u0.2.2.2.2.2.2.2.2.2.2.2.2.2.2.2.2.2.2.1, u0.2.2.2.2.2.2.2.2.2.2.2.2.2.2.2.2.2.2.2.1, (0 : Int32), u0.2.2.2.2.2.2.2.2.2.2.2.2.2.2.2.2.2.2.2.2.2)) := hD
  refine lv_aload_n hx hb dX10_findBest_5 rfl (lv_at hl 0 rfl) ?_
  refine lv_iconst (v := 0) hx hb dX10_findBest_6 rfl ?_
  refine va_put (D := zD E) (ci := 10) (v := .int (0 : Int32)) (ty := .int) (C := RX10) (T := TX10) (N := 24) hx hb hts uw_X10 tyX10 tyX10_ok nmX10 hown hK hP hD hS 0 rfl rfl 23 (by decide) (hts _ wm_5_139) (fun _ h9 => h9) rfl (by decide +kernel) rfl rfl (Nat.le_of_ble_eq_true rfl) dX10_findBest_7 (fun H locs hP hD hS => ?_)
  have hP : va_P (zD E) vwCl (k_X10 E q0 (u0.1, u0.2.1, u0.2.2.1, u0.2.2.2.1, u0.2.2.2.2.1, u0.2.2.2.2.2.1, u0.2.2.2.2.2.2.1, u0.2.2.2.2.2.2.2.1, u0.2.2.2.2.2.2.2.2.1, u0.2.2.2.2.2.2.2.2.2.1, u0.2.2.2.2.2.2.2.2.2.2.1, u0.2.2.2.2.2.2.2.2.2.2.2.1, u0.2.2.2.2.2.2.2.2.2.2.2.2.1, u0.2.2.2.2.2.2.2.2.2.2.2.2.2.1, u0.2.2.2.2.2.2.2.2.2.2.2.2.2.2.1, u0.2.2.2.2.2.2.2.2.2.2.2.2.2.2.2.1, u0.2.2.2.2.2.2.2.2.2.2.2.2.2.2.2.2.1, u0.2.2.2.2.2.2.2.2.2.2.2.2.2.2.2.2.2.1, u0.2.2.2.2.2.2.2.2.2.2.2.2.2.2.2.2.2.2.1, u0.2.2.2.2.2.2.2.2.2.2.2.2.2.2.2.2.2.2.2.1, (0 : Int32), (0 : Int32))) H := hP
  have hD : va_D A (k_X10 E q0 (u0.1, u0.2.1, u0.2.2.1, u0.2.2.2.1, u0.2.2.2.2.1, u0.2.2.2.2.2.1, u0.2.2.2.2.2.2.1, u0.2.2.2.2.2.2.2.1, u0.2.2.2.2.2.2.2.2.1, u0.2.2.2.2.2.2.2.2.2.1, u0.2.2.2.2.2.2.2.2.2.2.1, u0.2.2.2.2.2.2.2.2.2.2.2.1, u0.2.2.2.2.2.2.2.2.2.2.2.2.1, u0.2.2.2.2.2.2.2.2.2.2.2.2.2.1, u0.2.2.2.2.2.2.2.2.2.2.2.2.2.2.1, u0.2.2.2.2.2.2.2.2.2.2.2.2.2.2.2.1, u0.2.2.2.2.2.2.2.2.2.2.2.2.2.2.2.2.1, u0.2.2.2.2.2.2.2.2.2.2.2.2.2.2.2.2.2.1, u0.2.2.2.2.2.2.2.2.2.2.2.2.2.2.2.2.2.2.1, u0.2.2.2.2.2.2.2.2.2.2.2.2.2.2.2.2.2.2.2.1, (0 : Int32), (0 : Int32))) := hD
  refine lv_aload_n hx hb dX10_findBest_10 rfl (lv_at hl 0 rfl) ?_
  refine lv_iconst (v := 0) hx hb dX10_findBest_11 rfl ?_
  refine lv_iconst (v := 0) hx hb dX10_findBest_12 rfl ?_
  refine lv_iconst (v := 0) hx hb dX10_findBest_13 rfl ?_
  refine z_kv (z_rV (rest := []) hZ0 C0 hK hZ hA hP hD hS hl.1 (c_X10_trySets l E Z hZ0 6 q0 H.size (u0.1, u0.2.1, u0.2.2.1, u0.2.2.2.1, u0.2.2.2.2.1, u0.2.2.2.2.2.1, u0.2.2.2.2.2.2.1, u0.2.2.2.2.2.2.2.1, u0.2.2.2.2.2.2.2.2.1, u0.2.2.2.2.2.2.2.2.2.1, u0.2.2.2.2.2.2.2.2.2.2.1, u0.2.2.2.2.2.2.2.2.2.2.2.1, u0.2.2.2.2.2.2.2.2.2.2.2.2.1, u0.2.2.2.2.2.2.2.2.2.2.2.2.2.1, u0.2.2.2.2.2.2.2.2.2.2.2.2.2.2.1, u0.2.2.2.2.2.2.2.2.2.2.2.2.2.2.2.1, u0.2.2.2.2.2.2.2.2.2.2.2.2.2.2.2.2.1, u0.2.2.2.2.2.2.2.2.2.2.2.2.2.2.2.2.2.1, u0.2.2.2.2.2.2.2.2.2.2.2.2.2.2.2.2.2.2.1, u0.2.2.2.2.2.2.2.2.2.2.2.2.2.2.2.2.2.2.2.1, (0 : Int32), (0 : Int32)) (0 : Int32) (0 : Int32) (0 : Int32) _ hw) yv_X10_266 [0, 1, 2, 3, 4, 5, 6, 7, 8, 9] rfl (by decide) (ci := 10) rfl rfl 0 rfl ⟨Nat.le_of_ble_eq_true rfl, Nat.le_of_ble_eq_true rfl⟩ ⟨rfl, rfl⟩ rfl rfl (Nat.le_of_ble_eq_true rfl) ⟨Nat.le_of_ble_eq_true rfl, Nat.le_of_ble_eq_true rfl⟩ dX10_findBest_14) hP hD hS hA [0, 1, 2, 3, 4, 5, 6, 7, 8, 9] [] [0, 1, 2, 3, 4, 5, 6, 7, 8, 9] rfl (wr := []) rfl (by decide) (by decide) (fun u => k_X10 E q0 u) (fun u => rfl) (by decide) (fun u_1 H locs hw hP hD hS => ?_)
  exact z_vret (k := (fun u => k_X10 E q0 u)) u_1 C0 hP hD hS hw dX10_findBest_17
abbrev r_X10_bestWaiving : Room := { frames := 18, cells := 0, slots := 0, locals := 826 }
def wp_X10_bestWaiving (u0 : S_X10) (post : Int32 → S_X10 → Prop) : Prop := wp_X10_findBest ((0 : Int32), u0.2.1, u0.2.2.1, u0.2.2.2.1, u0.2.2.2.2.1, u0.2.2.2.2.2.1, u0.2.2.2.2.2.2.1, u0.2.2.2.2.2.2.2.1, u0.2.2.2.2.2.2.2.2.1, u0.2.2.2.2.2.2.2.2.2.1, u0.2.2.2.2.2.2.2.2.2.2.1, u0.2.2.2.2.2.2.2.2.2.2.2.1, u0.2.2.2.2.2.2.2.2.2.2.2.2.1, u0.2.2.2.2.2.2.2.2.2.2.2.2.2.1, u0.2.2.2.2.2.2.2.2.2.2.2.2.2.2.1, u0.2.2.2.2.2.2.2.2.2.2.2.2.2.2.2.1, u0.2.2.2.2.2.2.2.2.2.2.2.2.2.2.2.2.1, u0.2.2.2.2.2.2.2.2.2.2.2.2.2.2.2.2.2.1, u0.2.2.2.2.2.2.2.2.2.2.2.2.2.2.2.2.2.2.1, u0.2.2.2.2.2.2.2.2.2.2.2.2.2.2.2.2.2.2.2.1, u0.2.2.2.2.2.2.2.2.2.2.2.2.2.2.2.2.2.2.2.2.1, u0.2.2.2.2.2.2.2.2.2.2.2.2.2.2.2.2.2.2.2.2.2) (fun u_1 => post u_1.2.2.2.2.2.2.2.2.2.2.2.2.2.2.2.2.2.2.2.2.2 u_1)
set_option maxHeartbeats 4000000 in
set_option maxRecDepth 100000 in
theorem c_X10_bestWaiving (l : Launch) (E : zE) (Z : zZ) (hZ0 : zSt Z) (q0 : Nat → Nat) (sz : Nat) (u0 : S_X10) (post : Int32 → S_X10 → Prop) (hw : wp_X10_bestWaiving u0 post) : Met l yX10_bestWaiving (zws yX10_bestWaiving cX10_bestWaiving 1 (some .int)) r_X10_bestWaiving (va_Pc [.ref (q0 0)] (zPre Z E (k_X10 E q0 u0) sz)) (va_Qi post (zAt E (va_A (k_X10 E q0 u0) sz) (fun u => k_X10 E q0 u)) (va_A (k_X10 E q0 u0) sz)) 0 0 (va_A (k_X10 E q0 u0) sz) := by
  refine z_ofW (Qf := fun A => va_Qi post (zAt E A (fun u => k_X10 E q0 u)) A) (by decide) (Nat.le_of_ble_eq_true rfl) ?_
  intro p e s m args below meth c A ls C0 hA hK hZ hP hD hS hl
  obtain ⟨hx, hb, hml, hr, hown, hts, hlocks, hin⟩ := id C0
  have hown : s.vm.findClass RX10 = some m.cls := hown
  have hl : lv_has ls 1 [(0, .ref (q0 0))] := hl
  refine lv_aload_n hx hb dX10_bestWaiving_0 rfl (lv_at hl 0 rfl) ?_
  refine lv_iconst (v := 0) hx hb dX10_bestWaiving_1 rfl ?_
  refine va_put (D := zD E) (ci := 10) (v := .int (0 : Int32)) (ty := .int) (C := RX10) (T := TX10) (N := 24) hx hb hts uw_X10 tyX10 tyX10_ok nmX10 hown hK hP hD hS 0 rfl rfl 0 (by decide) (hts _ wm_5_116) (fun _ h9 => h9) rfl (by decide +kernel) rfl rfl (Nat.le_of_ble_eq_true rfl) dX10_bestWaiving_2 (fun H locs hP hD hS => ?_)
  have hP : va_P (zD E) vwCl (k_X10 E q0 ((0 : Int32), u0.2.1, u0.2.2.1, u0.2.2.2.1, u0.2.2.2.2.1, u0.2.2.2.2.2.1, u0.2.2.2.2.2.2.1, u0.2.2.2.2.2.2.2.1, u0.2.2.2.2.2.2.2.2.1, u0.2.2.2.2.2.2.2.2.2.1, u0.2.2.2.2.2.2.2.2.2.2.1, u0.2.2.2.2.2.2.2.2.2.2.2.1, u0.2.2.2.2.2.2.2.2.2.2.2.2.1, u0.2.2.2.2.2.2.2.2.2.2.2.2.2.1, u0.2.2.2.2.2.2.2.2.2.2.2.2.2.2.1, u0.2.2.2.2.2.2.2.2.2.2.2.2.2.2.2.1, u0.2.2.2.2.2.2.2.2.2.2.2.2.2.2.2.2.1, u0.2.2.2.2.2.2.2.2.2.2.2.2.2.2.2.2.2.1, u0.2.2.2.2.2.2.2.2.2.2.2.2.2.2.2.2.2.2.1, u0.2.2.2.2.2.2.2.2.2.2.2.2.2.2.2.2.2.2.2.1, u0.2.2.2.2.2.2.2.2.2.2.2.2.2.2.2.2.2.2.2.2.1, u0.2.2.2.2.2.2.2.2.2.2.2.2.2.2.2.2.2.2.2.2.2)) H := hP
  have hD : va_D A (k_X10 E q0 ((0 : Int32), u0.2.1, u0.2.2.1, u0.2.2.2.1, u0.2.2.2.2.1, u0.2.2.2.2.2.1, u0.2.2.2.2.2.2.1, u0.2.2.2.2.2.2.2.1, u0.2.2.2.2.2.2.2.2.1, u0.2.2.2.2.2.2.2.2.2.1, u0.2.2.2.2.2.2.2.2.2.2.1, u0.2.2.2.2.2.2.2.2.2.2.2.1, u0.2.2.2.2.2.2.2.2.2.2.2.2.1, u0.2.2.2.2.2.2.2.2.2.2.2.2.2.1, u0.2.2.2.2.2.2.2.2.2.2.2.2.2.2.1, u0.2.2.2.2.2.2.2.2.2.2.2.2.2.2.2.1, u0.2.2.2.2.2.2.2.2.2.2.2.2.2.2.2.2.1, u0.2.2.2.2.2.2.2.2.2.2.2.2.2.2.2.2.2.1, u0.2.2.2.2.2.2.2.2.2.2.2.2.2.2.2.2.2.2.1, u0.2.2.2.2.2.2.2.2.2.2.2.2.2.2.2.2.2.2.2.1, u0.2.2.2.2.2.2.2.2.2.2.2.2.2.2.2.2.2.2.2.2.1, u0.2.2.2.2.2.2.2.2.2.2.2.2.2.2.2.2.2.2.2.2.2)) := hD
  refine lv_aload_n hx hb dX10_bestWaiving_5 rfl (lv_at hl 0 rfl) ?_
  refine z_kv (z_rV (rest := []) hZ0 C0 hK hZ hA hP hD hS hl.1 (c_X10_findBest l E Z hZ0 q0 H.size ((0 : Int32), u0.2.1, u0.2.2.1, u0.2.2.2.1, u0.2.2.2.2.1, u0.2.2.2.2.2.1, u0.2.2.2.2.2.2.1, u0.2.2.2.2.2.2.2.1, u0.2.2.2.2.2.2.2.2.1, u0.2.2.2.2.2.2.2.2.2.1, u0.2.2.2.2.2.2.2.2.2.2.1, u0.2.2.2.2.2.2.2.2.2.2.2.1, u0.2.2.2.2.2.2.2.2.2.2.2.2.1, u0.2.2.2.2.2.2.2.2.2.2.2.2.2.1, u0.2.2.2.2.2.2.2.2.2.2.2.2.2.2.1, u0.2.2.2.2.2.2.2.2.2.2.2.2.2.2.2.1, u0.2.2.2.2.2.2.2.2.2.2.2.2.2.2.2.2.1, u0.2.2.2.2.2.2.2.2.2.2.2.2.2.2.2.2.2.1, u0.2.2.2.2.2.2.2.2.2.2.2.2.2.2.2.2.2.2.1, u0.2.2.2.2.2.2.2.2.2.2.2.2.2.2.2.2.2.2.2.1, u0.2.2.2.2.2.2.2.2.2.2.2.2.2.2.2.2.2.2.2.2.1, u0.2.2.2.2.2.2.2.2.2.2.2.2.2.2.2.2.2.2.2.2.2) _ hw) yv_X10_270 [0, 1, 2, 3, 4, 5, 6, 7, 8, 9] rfl (by decide) (ci := 10) rfl rfl 0 rfl ⟨Nat.le_of_ble_eq_true rfl, Nat.le_of_ble_eq_true rfl⟩ ⟨rfl, rfl⟩ rfl rfl (Nat.le_of_ble_eq_true rfl) ⟨Nat.le_of_ble_eq_true rfl, Nat.le_of_ble_eq_true rfl⟩ dX10_bestWaiving_6) hP hD hS hA [0, 1, 2, 3, 4, 5, 6, 7, 8, 9] [] [0, 1, 2, 3, 4, 5, 6, 7, 8, 9] rfl (wr := []) rfl (by decide) (by decide) (fun u => k_X10 E q0 u) (fun u => rfl) (by decide) (fun u_1 H locs hw hP hD hS => ?_)
  refine lv_aload_n hx hb dX10_bestWaiving_9 rfl (lv_at hl 0 rfl) ?_
  refine va_get (D := zD E) (ci := 10) (v := .int u_1.2.2.2.2.2.2.2.2.2.2.2.2.2.2.2.2.2.2.2.2.2) (C := RX10) (T := TX10) (N := 24) hx hb hts uw_X10 hown hK hP 0 rfl rfl 23 (by decide) (hts _ wm_5_139) (fun _ h9 => h9) rfl dX10_bestWaiving_10 ?_
  exact z_iret (k := (fun u => k_X10 E q0 u)) u_1 C0 hP hD hS hw dX10_bestWaiving_13
abbrev r_X10_bestWaiver : Room := { frames := 18, cells := 0, slots := 0, locals := 826 }
def j_X10_bestWaiver_15 (x1 : Int32) (y0 : Int32) (u0 : S_X10) (post : Int32 → S_X10 → Prop) : Prop := wp_X10_fails u0 y0 (1 : Int32) (fun r_3 u_2 => (r_3 = 0 → (wp_X10_findBest u_2 (fun u_5 => (u_5.2.2.2.2.2.2.2.2.2.2.2.2.2.2.2.2.2.2.2.2.1 ≤ x1 → (post (-1 : Int32) u_5)) ∧ (¬ (u_5.2.2.2.2.2.2.2.2.2.2.2.2.2.2.2.2.2.2.2.2.1 ≤ x1) → (vp_in x1 20 ∧ (post (u_5.2.2.2.2.2.2.2.2.2.2.2.2.2.2.2.2.2.2.1 x1.toNatClampNeg) u_5)))))) ∧ (¬ (r_3 = 0) → (post (0 : Int32) u_2)))
def wp_X10_bestWaiver (u0 : S_X10) (p1 : Int32) (post : Int32 → S_X10 → Prop) : Prop := (0 ≤ p1 → (j_X10_bestWaiver_15 p1 (0 : Int32) ((0 : Int32), u0.2.1, u0.2.2.1, u0.2.2.2.1, u0.2.2.2.2.1, u0.2.2.2.2.2.1, u0.2.2.2.2.2.2.1, u0.2.2.2.2.2.2.2.1, u0.2.2.2.2.2.2.2.2.1, u0.2.2.2.2.2.2.2.2.2.1, u0.2.2.2.2.2.2.2.2.2.2.1, u0.2.2.2.2.2.2.2.2.2.2.2.1, u0.2.2.2.2.2.2.2.2.2.2.2.2.1, u0.2.2.2.2.2.2.2.2.2.2.2.2.2.1, u0.2.2.2.2.2.2.2.2.2.2.2.2.2.2.1, u0.2.2.2.2.2.2.2.2.2.2.2.2.2.2.2.1, u0.2.2.2.2.2.2.2.2.2.2.2.2.2.2.2.2.1, u0.2.2.2.2.2.2.2.2.2.2.2.2.2.2.2.2.2.1, u0.2.2.2.2.2.2.2.2.2.2.2.2.2.2.2.2.2.2.1, u0.2.2.2.2.2.2.2.2.2.2.2.2.2.2.2.2.2.2.2.1, u0.2.2.2.2.2.2.2.2.2.2.2.2.2.2.2.2.2.2.2.2.1, u0.2.2.2.2.2.2.2.2.2.2.2.2.2.2.2.2.2.2.2.2.2) post)) ∧ (¬ (0 ≤ p1) → (j_X10_bestWaiver_15 p1 (1 : Int32) ((0 : Int32), u0.2.1, u0.2.2.1, u0.2.2.2.1, u0.2.2.2.2.1, u0.2.2.2.2.2.1, u0.2.2.2.2.2.2.1, u0.2.2.2.2.2.2.2.1, u0.2.2.2.2.2.2.2.2.1, u0.2.2.2.2.2.2.2.2.2.1, u0.2.2.2.2.2.2.2.2.2.2.1, u0.2.2.2.2.2.2.2.2.2.2.2.1, u0.2.2.2.2.2.2.2.2.2.2.2.2.1, u0.2.2.2.2.2.2.2.2.2.2.2.2.2.1, u0.2.2.2.2.2.2.2.2.2.2.2.2.2.2.1, u0.2.2.2.2.2.2.2.2.2.2.2.2.2.2.2.1, u0.2.2.2.2.2.2.2.2.2.2.2.2.2.2.2.2.1, u0.2.2.2.2.2.2.2.2.2.2.2.2.2.2.2.2.2.1, u0.2.2.2.2.2.2.2.2.2.2.2.2.2.2.2.2.2.2.1, u0.2.2.2.2.2.2.2.2.2.2.2.2.2.2.2.2.2.2.2.1, u0.2.2.2.2.2.2.2.2.2.2.2.2.2.2.2.2.2.2.2.2.1, u0.2.2.2.2.2.2.2.2.2.2.2.2.2.2.2.2.2.2.2.2.2) post))
set_option maxHeartbeats 4000000 in
set_option maxRecDepth 100000 in
theorem t_X10_bestWaiver_15 {p : Program} {l : Launch} {e : Env} {s : State} {m : MethodId} {args : Array Value} {below : List Frame} {meth : Method} {c : Code} {Z : zZ} {E : zE} {A : Nat → Prop} {q0 : Nat → Nat} (hZ0 : zSt Z) (C0 : zC p s m args meth c yX10_bestWaiver cX10_bestWaiver 2 (some .int)) (hA : ∀ q : Nat, s.heap.size ≤ q → A q) (hK : va_K (zD E) vwCl (zT E) s) (hZ : Z A s s.heap) (post : Int32 → S_X10 → Prop) : ∀ (x1 : Int32) (y0 : Int32) (u0 : S_X10) (H : Heap) (locs : List Loc) (ls : Array Slot), j_X10_bestWaiver_15 x1 y0 u0 post → va_P (zD E) vwCl (k_X10 E q0 u0) H → va_D A (k_X10 E q0 u0) → va_S A s.heap H locs → lv_has ls 2 [(0, .ref (q0 0)), (1, .int x1)] → W p l e r_X10_bestWaiver s m args below meth c H locs 0 0 (MQ below (va_Qi post (zAt E A (fun u => k_X10 E q0 u)) A) args s 0 0 A) (F0 m 15 ls [.int y0, .ref (q0 0)]) := by
  obtain ⟨hx, hb, hml, hr, hown, hts, hlocks, hin⟩ := id C0
  have hown : s.vm.findClass RX10 = some m.cls := hown
  intro x1 y0 u0 H locs ls hw hP hD hS hl
  refine lv_iconst (v := 1) hx hb dX10_bestWaiver_15 rfl ?_
  refine z_ki (z_rV (rest := []) hZ0 C0 hK hZ hA hP hD hS hl.1 (c_X10_fails l E Z hZ0 q0 H.size u0 y0 (1 : Int32) _ hw) yv_X10_177 [0, 1, 2, 3, 4, 5, 6, 7, 8, 9] rfl (by decide) (ci := 10) rfl rfl 0 rfl ⟨Nat.le_of_ble_eq_true rfl, Nat.le_of_ble_eq_true rfl⟩ ⟨rfl, rfl⟩ rfl rfl (Nat.le_of_ble_eq_true rfl) ⟨Nat.le_of_ble_eq_true rfl, Nat.le_of_ble_eq_true rfl⟩ dX10_bestWaiver_16) hP hD hS hA [0, 1, 2, 3, 4, 5, 6, 7, 8, 9] [] [0, 1, 2, 3, 4, 5, 6, 7, 8, 9] rfl (wr := []) rfl (by decide) (by decide) (fun u => k_X10 E q0 u) (fun u => rfl) (by decide) (fun r_3 u_2 H locs hw hP hD hS => ?_)
  obtain ⟨hwt, hwf⟩ := hw
  refine lv_if_eq (tgt := 24) hx hb dX10_bestWaiver_19 (by decide) (fun c_4 => ?_) (fun c_4 => ?_)
  · have hw := hwt c_4
    refine lv_aload_n hx hb dX10_bestWaiver_24 rfl (lv_at hl 0 rfl) ?_
    refine z_kv (z_rV (rest := []) hZ0 C0 hK hZ hA hP hD hS hl.1 (c_X10_findBest l E Z hZ0 q0 H.size u_2 _ hw) yv_X10_270 [0, 1, 2, 3, 4, 5, 6, 7, 8, 9] rfl (by decide) (ci := 10) rfl rfl 0 rfl ⟨Nat.le_of_ble_eq_true rfl, Nat.le_of_ble_eq_true rfl⟩ ⟨rfl, rfl⟩ rfl rfl (Nat.le_of_ble_eq_true rfl) ⟨Nat.le_of_ble_eq_true rfl, Nat.le_of_ble_eq_true rfl⟩ dX10_bestWaiver_25) hP hD hS hA [0, 1, 2, 3, 4, 5, 6, 7, 8, 9] [] [0, 1, 2, 3, 4, 5, 6, 7, 8, 9] rfl (wr := []) rfl (by decide) (by decide) (fun u => k_X10 E q0 u) (fun u => rfl) (by decide) (fun u_5 H locs hw hP hD hS => ?_)
    refine lv_iload_n hx hb dX10_bestWaiver_28 rfl (lv_at hl 1 rfl) ?_
    refine lv_aload_n hx hb dX10_bestWaiver_29 rfl (lv_at hl 0 rfl) ?_
    refine va_get (D := zD E) (ci := 10) (v := .int u_5.2.2.2.2.2.2.2.2.2.2.2.2.2.2.2.2.2.2.2.2.1) (C := RX10) (T := TX10) (N := 24) hx hb hts uw_X10 hown hK hP 0 rfl rfl 22 (by decide) (hts _ wm_5_138) (fun _ h9 => h9) rfl dX10_bestWaiver_30 ?_
    obtain ⟨hwt, hwf⟩ := hw
    refine lv_icmp_ge (tgt := 45) hx hb dX10_bestWaiver_33 (by decide) (fun c_7 => ?_) (fun c_7 => ?_)
    · have hw := hwt c_7
      refine lv_iconst (v := (-1)) hx hb dX10_bestWaiver_45 rfl ?_
      exact z_iret (k := (fun u => k_X10 E q0 u)) u_5 C0 hP hD hS hw dX10_bestWaiver_46
    · have hw := hwf c_7
      refine lv_aload_n hx hb dX10_bestWaiver_36 rfl (lv_at hl 0 rfl) ?_
      refine va_get (D := zD E) (ci := 10) (v := .ref (q0 10)) (C := RX10) (T := TX10) (N := 24) hx hb hts uw_X10 hown hK hP 0 rfl rfl 20 (by decide) (hts _ wm_5_136) (fun _ h9 => h9) rfl dX10_bestWaiver_37 ?_
      refine lv_iload_n hx hb dX10_bestWaiver_40 rfl (lv_at hl 1 rfl) ?_
      obtain ⟨h_8, hw⟩ := hw
      refine va_iald hx hb hK hP 8 0 rfl rfl h_8 dX10_bestWaiver_41 ?_
      refine lv_goto (tgt := 46) hx hb dX10_bestWaiver_42 (by decide) ?_
      exact z_iret (k := (fun u => k_X10 E q0 u)) u_5 C0 hP hD hS hw dX10_bestWaiver_46
  · have hw := hwf c_4
    refine lv_iconst (v := 0) hx hb dX10_bestWaiver_22 rfl ?_
    exact z_iret (k := (fun u => k_X10 E q0 u)) u_2 C0 hP hD hS hw dX10_bestWaiver_23
set_option maxHeartbeats 4000000 in
set_option maxRecDepth 100000 in
theorem c_X10_bestWaiver (l : Launch) (E : zE) (Z : zZ) (hZ0 : zSt Z) (q0 : Nat → Nat) (sz : Nat) (u0 : S_X10) (p1 : Int32) (post : Int32 → S_X10 → Prop) (hw : wp_X10_bestWaiver u0 p1 post) : Met l yX10_bestWaiver (zws yX10_bestWaiver cX10_bestWaiver 2 (some .int)) r_X10_bestWaiver (va_Pc [.ref (q0 0), .int p1] (zPre Z E (k_X10 E q0 u0) sz)) (va_Qi post (zAt E (va_A (k_X10 E q0 u0) sz) (fun u => k_X10 E q0 u)) (va_A (k_X10 E q0 u0) sz)) 0 0 (va_A (k_X10 E q0 u0) sz) := by
  refine z_ofW (Qf := fun A => va_Qi post (zAt E A (fun u => k_X10 E q0 u)) A) (by decide) (Nat.le_of_ble_eq_true rfl) ?_
  intro p e s m args below meth c A ls C0 hA hK hZ hP hD hS hl
  obtain ⟨hx, hb, hml, hr, hown, hts, hlocks, hin⟩ := id C0
  have hown : s.vm.findClass RX10 = some m.cls := hown
  have hl : lv_has ls 2 [(0, .ref (q0 0)), (1, .int p1)] := hl
  refine lv_aload_n hx hb dX10_bestWaiver_0 rfl (lv_at hl 0 rfl) ?_
  refine lv_iconst (v := 0) hx hb dX10_bestWaiver_1 rfl ?_
  refine va_put (D := zD E) (ci := 10) (v := .int (0 : Int32)) (ty := .int) (C := RX10) (T := TX10) (N := 24) hx hb hts uw_X10 tyX10 tyX10_ok nmX10 hown hK hP hD hS 0 rfl rfl 0 (by decide) (hts _ wm_5_116) (fun _ h9 => h9) rfl (by decide +kernel) rfl rfl (Nat.le_of_ble_eq_true rfl) dX10_bestWaiver_2 (fun H locs hP hD hS => ?_)
  have hP : va_P (zD E) vwCl (k_X10 E q0 ((0 : Int32), u0.2.1, u0.2.2.1, u0.2.2.2.1, u0.2.2.2.2.1, u0.2.2.2.2.2.1, u0.2.2.2.2.2.2.1, u0.2.2.2.2.2.2.2.1, u0.2.2.2.2.2.2.2.2.1, u0.2.2.2.2.2.2.2.2.2.1, u0.2.2.2.2.2.2.2.2.2.2.1, u0.2.2.2.2.2.2.2.2.2.2.2.1, u0.2.2.2.2.2.2.2.2.2.2.2.2.1, u0.2.2.2.2.2.2.2.2.2.2.2.2.2.1, u0.2.2.2.2.2.2.2.2.2.2.2.2.2.2.1, u0.2.2.2.2.2.2.2.2.2.2.2.2.2.2.2.1, u0.2.2.2.2.2.2.2.2.2.2.2.2.2.2.2.2.1, u0.2.2.2.2.2.2.2.2.2.2.2.2.2.2.2.2.2.1, u0.2.2.2.2.2.2.2.2.2.2.2.2.2.2.2.2.2.2.1, u0.2.2.2.2.2.2.2.2.2.2.2.2.2.2.2.2.2.2.2.1, u0.2.2.2.2.2.2.2.2.2.2.2.2.2.2.2.2.2.2.2.2.1, u0.2.2.2.2.2.2.2.2.2.2.2.2.2.2.2.2.2.2.2.2.2)) H := hP
  have hD : va_D A (k_X10 E q0 ((0 : Int32), u0.2.1, u0.2.2.1, u0.2.2.2.1, u0.2.2.2.2.1, u0.2.2.2.2.2.1, u0.2.2.2.2.2.2.1, u0.2.2.2.2.2.2.2.1, u0.2.2.2.2.2.2.2.2.1, u0.2.2.2.2.2.2.2.2.2.1, u0.2.2.2.2.2.2.2.2.2.2.1, u0.2.2.2.2.2.2.2.2.2.2.2.1, u0.2.2.2.2.2.2.2.2.2.2.2.2.1, u0.2.2.2.2.2.2.2.2.2.2.2.2.2.1, u0.2.2.2.2.2.2.2.2.2.2.2.2.2.2.1, u0.2.2.2.2.2.2.2.2.2.2.2.2.2.2.2.1, u0.2.2.2.2.2.2.2.2.2.2.2.2.2.2.2.2.1, u0.2.2.2.2.2.2.2.2.2.2.2.2.2.2.2.2.2.1, u0.2.2.2.2.2.2.2.2.2.2.2.2.2.2.2.2.2.2.1, u0.2.2.2.2.2.2.2.2.2.2.2.2.2.2.2.2.2.2.2.1, u0.2.2.2.2.2.2.2.2.2.2.2.2.2.2.2.2.2.2.2.2.1, u0.2.2.2.2.2.2.2.2.2.2.2.2.2.2.2.2.2.2.2.2.2)) := hD
  refine lv_aload_n hx hb dX10_bestWaiver_5 rfl (lv_at hl 0 rfl) ?_
  refine lv_iload_n hx hb dX10_bestWaiver_6 rfl (lv_at hl 1 rfl) ?_
  obtain ⟨hwt, hwf⟩ := hw
  refine lv_if_ge (tgt := 14) hx hb dX10_bestWaiver_7 (by decide) (fun c_1 => ?_) (fun c_1 => ?_)
  · have hw := hwt c_1
    refine lv_iconst (v := 0) hx hb dX10_bestWaiver_14 rfl ?_
    exact t_X10_bestWaiver_15 (l := l) hZ0 C0 hA hK hZ post p1 (0 : Int32) ((0 : Int32), u0.2.1, u0.2.2.1, u0.2.2.2.1, u0.2.2.2.2.1, u0.2.2.2.2.2.1, u0.2.2.2.2.2.2.1, u0.2.2.2.2.2.2.2.1, u0.2.2.2.2.2.2.2.2.1, u0.2.2.2.2.2.2.2.2.2.1, u0.2.2.2.2.2.2.2.2.2.2.1, u0.2.2.2.2.2.2.2.2.2.2.2.1, u0.2.2.2.2.2.2.2.2.2.2.2.2.1, u0.2.2.2.2.2.2.2.2.2.2.2.2.2.1, u0.2.2.2.2.2.2.2.2.2.2.2.2.2.2.1, u0.2.2.2.2.2.2.2.2.2.2.2.2.2.2.2.1, u0.2.2.2.2.2.2.2.2.2.2.2.2.2.2.2.2.1, u0.2.2.2.2.2.2.2.2.2.2.2.2.2.2.2.2.2.1, u0.2.2.2.2.2.2.2.2.2.2.2.2.2.2.2.2.2.2.1, u0.2.2.2.2.2.2.2.2.2.2.2.2.2.2.2.2.2.2.2.1, u0.2.2.2.2.2.2.2.2.2.2.2.2.2.2.2.2.2.2.2.2.1, u0.2.2.2.2.2.2.2.2.2.2.2.2.2.2.2.2.2.2.2.2.2) _ _ _ hw hP hD hS (lv_sub hl [0, 1] rfl)
  · have hw := hwf c_1
    refine lv_iconst (v := 1) hx hb dX10_bestWaiver_10 rfl ?_
    refine lv_goto (tgt := 15) hx hb dX10_bestWaiver_11 (by decide) ?_
    exact t_X10_bestWaiver_15 (l := l) hZ0 C0 hA hK hZ post p1 (1 : Int32) ((0 : Int32), u0.2.1, u0.2.2.1, u0.2.2.2.1, u0.2.2.2.2.1, u0.2.2.2.2.2.1, u0.2.2.2.2.2.2.1, u0.2.2.2.2.2.2.2.1, u0.2.2.2.2.2.2.2.2.1, u0.2.2.2.2.2.2.2.2.2.1, u0.2.2.2.2.2.2.2.2.2.2.1, u0.2.2.2.2.2.2.2.2.2.2.2.1, u0.2.2.2.2.2.2.2.2.2.2.2.2.1, u0.2.2.2.2.2.2.2.2.2.2.2.2.2.1, u0.2.2.2.2.2.2.2.2.2.2.2.2.2.2.1, u0.2.2.2.2.2.2.2.2.2.2.2.2.2.2.2.1, u0.2.2.2.2.2.2.2.2.2.2.2.2.2.2.2.2.1, u0.2.2.2.2.2.2.2.2.2.2.2.2.2.2.2.2.2.1, u0.2.2.2.2.2.2.2.2.2.2.2.2.2.2.2.2.2.2.1, u0.2.2.2.2.2.2.2.2.2.2.2.2.2.2.2.2.2.2.2.1, u0.2.2.2.2.2.2.2.2.2.2.2.2.2.2.2.2.2.2.2.2.1, u0.2.2.2.2.2.2.2.2.2.2.2.2.2.2.2.2.2.2.2.2.2) _ _ _ hw hP hD hS (lv_sub hl [0, 1] rfl)
