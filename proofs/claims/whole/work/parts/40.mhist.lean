/-! The reference's history: rows of two tables. -/
abbrev S_MH : Type := (Nat → Nat → Int32) × (Nat → Nat → Int64)
abbrev k_MI (E : zE) (q : Nat → Nat) (h : Nat → Nat → Int32) (i : Nat) : Nat × va_E := (q (100 + i), .inl (E.2.2 0, 1728, .inl (h i)))
abbrev k_MJ (E : zE) (q : Nat → Nat) (h : Nat → Nat → Int64) (i : Nat) : Nat × va_E := (q (200 + i), .inl (E.2.2 1, 40, .inr (.inl (h i))))
abbrev k_M5 (E : zE) (q : Nat → Nat) : Nat × va_E := (q 5, .inl (E.2.2 5, 8, .inr (.inr (.inr (.inr (fun i => if i < 8 then some (q (100 + i)) else none))))))
abbrev k_M8 (E : zE) (q : Nat → Nat) : Nat × va_E := (q 8, .inl (E.2.2 6, 8, .inr (.inr (.inr (.inr (fun i => if i < 8 then some (q (200 + i)) else none))))))
def k_MR (E : zE) (q : Nat → Nat) (u : S_MH) : va_W := (List.range 8).map (k_MI E q u.1) ++ (List.range 8).map (k_MJ E q u.2)
abbrev k_MH (E : zE) (q : Nat → Nat) (u : S_MH) : va_W := k_M5 E q :: k_M8 E q :: k_MR E q u
theorem zm_I {E : zE} {q : Nat → Nat} {h : Nat → Nat → Int32} {i : Nat} {l1 l2 : List Nat} (hr : List.range 8 = l1 ++ i :: l2) : (List.range 8).map (k_MI E q h) = l1.map (k_MI E q h) ++ k_MI E q h i :: l2.map (k_MI E q h) := by rw [hr, List.map_append, List.map_cons]
theorem zm_J {E : zE} {q : Nat → Nat} {h : Nat → Nat → Int64} {i : Nat} {l1 l2 : List Nat} (hr : List.range 8 = l1 ++ i :: l2) : (List.range 8).map (k_MJ E q h) = l1.map (k_MJ E q h) ++ k_MJ E q h i :: l2.map (k_MJ E q h) := by rw [hr, List.map_append, List.map_cons]
theorem zm_cI {E : zE} {q : Nat → Nat} {h : Nat → Nat → Int32} {r : Nat → Int32} {i : Nat} {l : List Nat} (hi : i ∉ l) : l.map (k_MI E q (va_up h i r)) = l.map (k_MI E q h) := by
  apply List.map_congr_left
  intro a ha
  show ((q (100 + a), _) : Nat × va_E) = _
  rw [va_up_ne _ _ (fun e => hi (by rw [← e]; exact ha))]
theorem zm_cJ {E : zE} {q : Nat → Nat} {h : Nat → Nat → Int64} {r : Nat → Int64} {i : Nat} {l : List Nat} (hi : i ∉ l) : l.map (k_MJ E q (va_up h i r)) = l.map (k_MJ E q h) := by
  apply List.map_congr_left
  intro a ha
  show ((q (200 + a), _) : Nat × va_E) = _
  rw [va_up_ne _ _ (fun e => hi (by rw [← e]; exact ha))]
theorem zm_two {L1 L2 L3 : va_W} {a b : Nat × va_E} : (L1 ++ a :: (L2 ++ b :: L3)).Perm (a :: b :: (L1 ++ (L2 ++ L3))) := by
  refine List.perm_middle.trans (List.Perm.cons a ?_)
  rw [← List.append_assoc]
  refine List.perm_middle.trans (List.Perm.cons b ?_)
  rw [List.append_assoc]
theorem zm_pA {P1 T R1 R2 RJ : va_W} {a b c5 c8 : Nat × va_E} : ((P1 ++ a :: T) ++ (c5 :: c8 :: ((R1 ++ b :: R2) ++ RJ))).Perm (a :: b :: (P1 ++ ((T ++ c5 :: c8 :: R1) ++ (R2 ++ RJ)))) := by
  have e : (P1 ++ a :: T) ++ (c5 :: c8 :: ((R1 ++ b :: R2) ++ RJ)) = P1 ++ a :: ((T ++ c5 :: c8 :: R1) ++ b :: (R2 ++ RJ)) := by simp
  rw [e]
  exact zm_two
theorem zm_pJ {P1 T RI R1 R2 : va_W} {a b c5 c8 : Nat × va_E} : ((P1 ++ a :: T) ++ (c5 :: c8 :: (RI ++ (R1 ++ b :: R2)))).Perm (a :: b :: (P1 ++ ((T ++ c5 :: c8 :: (RI ++ R1)) ++ R2))) := by
  have e : (P1 ++ a :: T) ++ (c5 :: c8 :: (RI ++ (R1 ++ b :: R2))) = P1 ++ a :: ((T ++ c5 :: c8 :: (RI ++ R1)) ++ b :: R2) := by simp
  rw [e]
  exact zm_two
theorem zm_pC {X R1 R2 RJ : va_W} {a b c5 c8 : Nat × va_E} : (X ++ (c5 :: c8 :: ((R1 ++ a :: b :: R2) ++ RJ))).Perm (a :: b :: ((X ++ c5 :: c8 :: R1) ++ ([] ++ (R2 ++ RJ)))) := by
  have e : X ++ (c5 :: c8 :: ((R1 ++ a :: b :: R2) ++ RJ)) = (X ++ c5 :: c8 :: R1) ++ a :: ([] ++ b :: (R2 ++ RJ)) := by simp
  rw [e]
  exact zm_two
theorem zm_pD {X RI R1 R2 : va_W} {a b c5 c8 : Nat × va_E} : (X ++ (c5 :: c8 :: (RI ++ (R1 ++ a :: b :: R2)))).Perm (a :: b :: ((X ++ c5 :: c8 :: (RI ++ R1)) ++ ([] ++ R2))) := by
  have e : X ++ (c5 :: c8 :: (RI ++ (R1 ++ a :: b :: R2))) = (X ++ c5 :: c8 :: (RI ++ R1)) ++ a :: ([] ++ b :: R2) := by simp
  rw [e]
  exact zm_two
theorem zm_rng2 {i : Nat} (hi : i + 1 < 8) : ∃ l1 l2 : List Nat, List.range 8 = l1 ++ i :: (i + 1) :: l2 ∧ i ∉ l1 ∧ i ∉ l2 ∧ i + 1 ∉ l1 ∧ i + 1 ∉ l2 := by
  have key : ∀ j : Fin 7, ∃ l1 l2 : List Nat, List.range 8 = l1 ++ j.val :: (j.val + 1) :: l2 ∧ j.val ∉ l1 ∧ j.val ∉ l2 ∧ j.val + 1 ∉ l1 ∧ j.val + 1 ∉ l2 := by
    intro j
    refine ⟨(List.range 8).take j.val, (List.range 8).drop (j.val + 2), ?_, ?_, ?_, ?_, ?_⟩ <;> revert j <;> decide
  exact key ⟨i, by omega⟩
theorem zm_all (w : va_W) : (List.range w.length).map (fun i => w[i]?) = w.map some := by
  apply List.ext_getElem (by simp)
  intro i h1 h2
  have : i < w.length := by simpa using h1
  simp [this]
section ZM
variable {p : Program} {l : Launch} {e : Env} {R : Room} {s : State} {m : MethodId} {args : Array Value} {below : List Frame} {meth : Method} {c : Code} {H : Heap} {locs : List Loc} {cells slots : Nat} {Q : State → Prop}
variable {pc : Nat} {ls : Array Slot} {rest st0 : List Value} {Z : zZ} {E : zE} {A : Nat → Prop} {ws wc wr : va_W} {mc ms : Nat}
theorem zm_l {D : va_G} {cl : List vw_C} (h : va_P D cl (wc ++ wr) H) : va_P D cl wc H := fun k q hk => h k q (by rw [List.getElem?_append_left (List.getElem?_eq_some_iff.mp hk).1]; exact hk)
theorem zm_lD (h : va_D A (wc ++ wr)) : va_D A wc := by
  rw [zp_pw] at h ⊢
  exact ⟨(List.pairwise_append.mp h.1).1, fun q hq => h.2 q (List.mem_append_left _ hq)⟩
theorem zm_F (hD : va_D A (wc ++ wr)) (hS : va_S A s.heap H locs) (hA : ∀ q : Nat, s.heap.size ≤ q → A q) : ∀ q, va_A wc H.size q → A q := by
  intro q h
  rcases h with ⟨k, e9, h⟩ | h
  · exact (zm_lD hD).2 k (q, e9) h
  · exact hA q (Nat.le_trans hS.1 h)
theorem zm_back {w1 : va_W} {H1 : Heap} (hP : va_P (zD E) vwCl (wc ++ wr) H) (hD : va_D A (wc ++ wr)) (hF : ∀ q, va_A wc H.size q → A q) (hk : ∀ q : Nat, q < H.size → ¬ va_A wc H.size q → H1[q]? = H[q]?) (hP1 : va_P (zD E) vwCl w1 H1) (hD1 : va_D (va_A wc H.size) w1) : va_P (zD E) vwCl (w1 ++ wr) H1 ∧ va_D A (w1 ++ wr) :=
  va_joinQ (wr := []) hP hD (List.range wc.length) [] (zm_all wc) rfl rfl (fun _ h => absurd h List.not_mem_nil) hk hF hP1 hD1
theorem z_gS {y0 y : MethodName} {cc b : ByteArray} {nL n : Nat} {ret0 r : Option FieldType} {k idx : Nat} {rm : Room} {Qc : Array Value → State → Outcome → State → Prop} {As : List Value} (hZ0 : zSt Z) (C0 : zC p s m args meth c y0 cc nL ret0) (hK : va_K (zD E) vwCl (zT E) s) (hP : va_P (zD E) vwCl ws H) (hls : ls.size = nL)
    (hM : Met l y (zws y b n r) rm (va_Pc As (zPre Z E wc H.size)) Qc mc ms (va_A wc H.size)) (hY : zYS y0.cls idx y b n r k) (hpre : ∀ U : State, U.heap = H → s.WarmedH U.vm → va_Pc As (zPre Z E wc H.size) As.toArray U)
    (hR : rm.frames + 1 ≤ R.frames ∧ 8 + (n + 11) + rm.locals ≤ R.locals) (hrm : rm.cells = mc ∧ rm.slots = ms) (hl : As.length = k) (hst : st0 = As.reverse ++ rest) (hw : (rest.map fun v => v.category).sum ≤ 8) (hf : cells + mc ≤ R.cells ∧ slots + ms ≤ R.slots) (hdg : decode cc pc = .ok (.invokestatic idx, 3)) : zRn p l e R s m args below meth c H locs cells slots pc ls st0 rest mc ms Qc As.toArray wc := by
  obtain ⟨hx, hb, hml, hr, hown, hts, hlocks, hin⟩ := C0
  obtain ⟨h1, h2, h3, h4, h5⟩ := hY
  exact va_runS (As := As) (rest := rest) ⟨hx, hb, hml, hown, hts⟩ hM ⟨z_cB hts hrm.1 hrm.2 hR h1 h2 h3 h4, hts _ h5⟩ ⟨zPre_blind hZ0, hpre⟩ rfl hl hls hst (lv_room hw) hdg hf
/-- copy(from, to) of two rows of ints, wherever they stand -/
theorem z_cpI {y0 : MethodName} {cc : ByteArray} {nL : Nat} {ret0 : Option FieldType} {f g : Nat → Int32} {qa qb : Nat} {post : (Nat → Int32) × (Nat → Int32) → Prop} (hZ0 : zSt Z) (C0 : zC p s m args meth c y0 cc nL ret0) (hy0 : y0.cls = RX10) (hK : va_K (zD E) vwCl (zT E) s) (hZ : Z A s s.heap) (hA : ∀ q : Nat, s.heap.size ≤ q → A q) (hP : va_P (zD E) vwCl ws H) (hD : va_D A ws) (hS : va_S A s.heap H locs) (hls : ls.size = nL) (hpm : ws.Perm ([(qa, .inl (E.2.2 0, 1728, .inl f)), (qb, .inl (E.2.2 0, 1728, .inl g))] ++ wr)) (hw : wp_X10_copy f g post) (hR : 1 ≤ R.frames ∧ 22 ≤ R.locals) (hrest : (rest.map fun v => v.category).sum ≤ 8) (hf : cells ≤ R.cells ∧ slots ≤ R.slots) (hdg : decode cc pc = .ok (.invokestatic 192, 3))
    (kk : ∀ (w : (Nat → Int32) × (Nat → Int32)) (H1 : Heap) (locs1 : List Loc), post w → va_P (zD E) vwCl ([(qa, .inl (E.2.2 0, 1728, .inl w.1)), (qb, .inl (E.2.2 0, 1728, .inl w.2))] ++ wr) H1 → va_D A ([(qa, .inl (E.2.2 0, 1728, .inl w.1)), (qb, .inl (E.2.2 0, 1728, .inl w.2))] ++ wr) → va_S A s.heap H1 locs1 → W p l e R s m args below meth c H1 locs1 cells slots Q (F0 m (pc + 3) ls rest)) : W p l e R s m args below meth c H locs cells slots Q (F0 m pc ls (.ref qb :: .ref qa :: rest)) := by
  have hP1 := zp_P hpm hP
  have hD1 := zp_D hpm hD
  have hF := zm_F hD1 hS hA
  exact z_gkv (z_gS (rest := rest) hZ0 C0 hK hP1 hls (c_X10_copy l E Z hZ0 (fun _ => qa) (fun _ => qb) H.size f g post hw) (by rw [hy0]; exact yv_X10_192) (z_preG hZ0 hK hZ (zm_l hP1) (zm_lD hD1) hF hS) ⟨hR.1, hR.2⟩ ⟨rfl, rfl⟩ rfl rfl hrest hf hdg) hS hF (fun w => [(qa, .inl (E.2.2 0, 1728, .inl w.1)), (qb, .inl (E.2.2 0, 1728, .inl w.2))] ++ wr) (fun w H1 hk b1 b2 => zm_back (w1 := [(qa, .inl (E.2.2 0, 1728, .inl w.1)), (qb, .inl (E.2.2 0, 1728, .inl w.2))]) hP1 hD1 hF hk b1 b2) kk
theorem z_cpJ {y0 : MethodName} {cc : ByteArray} {nL : Nat} {ret0 : Option FieldType} {f g : Nat → Int64} {qa qb : Nat} {post : (Nat → Int64) × (Nat → Int64) → Prop} (hZ0 : zSt Z) (C0 : zC p s m args meth c y0 cc nL ret0) (hy0 : y0.cls = RX10) (hK : va_K (zD E) vwCl (zT E) s) (hZ : Z A s s.heap) (hA : ∀ q : Nat, s.heap.size ≤ q → A q) (hP : va_P (zD E) vwCl ws H) (hD : va_D A ws) (hS : va_S A s.heap H locs) (hls : ls.size = nL) (hpm : ws.Perm ([(qa, .inl (E.2.2 1, 40, .inr (.inl f))), (qb, .inl (E.2.2 1, 40, .inr (.inl g)))] ++ wr)) (hw : wp_X10_copyLongs f g post) (hR : 1 ≤ R.frames ∧ 22 ≤ R.locals) (hrest : (rest.map fun v => v.category).sum ≤ 8) (hf : cells ≤ R.cells ∧ slots ≤ R.slots) (hdg : decode cc pc = .ok (.invokestatic 287, 3))
    (kk : ∀ (w : (Nat → Int64) × (Nat → Int64)) (H1 : Heap) (locs1 : List Loc), post w → va_P (zD E) vwCl ([(qa, .inl (E.2.2 1, 40, .inr (.inl w.1))), (qb, .inl (E.2.2 1, 40, .inr (.inl w.2)))] ++ wr) H1 → va_D A ([(qa, .inl (E.2.2 1, 40, .inr (.inl w.1))), (qb, .inl (E.2.2 1, 40, .inr (.inl w.2)))] ++ wr) → va_S A s.heap H1 locs1 → W p l e R s m args below meth c H1 locs1 cells slots Q (F0 m (pc + 3) ls rest)) : W p l e R s m args below meth c H locs cells slots Q (F0 m pc ls (.ref qb :: .ref qa :: rest)) := by
  have hP1 := zp_P hpm hP
  have hD1 := zp_D hpm hD
  have hF := zm_F hD1 hS hA
  exact z_gkv (z_gS (rest := rest) hZ0 C0 hK hP1 hls (c_X10_copyLongs l E Z hZ0 (fun _ => qa) (fun _ => qb) H.size f g post hw) (by rw [hy0]; exact yv_X10_287) (z_preG hZ0 hK hZ (zm_l hP1) (zm_lD hD1) hF hS) ⟨hR.1, hR.2⟩ ⟨rfl, rfl⟩ rfl rfl hrest hf hdg) hS hF (fun w => [(qa, .inl (E.2.2 1, 40, .inr (.inl w.1))), (qb, .inl (E.2.2 1, 40, .inr (.inl w.2)))] ++ wr) (fun w H1 hk b1 b2 => zm_back (w1 := [(qa, .inl (E.2.2 1, 40, .inr (.inl w.1))), (qb, .inl (E.2.2 1, 40, .inr (.inl w.2)))]) hP1 hD1 hF hk b1 b2) kk
theorem z_aldG {cc : ByteArray} (hexec : p.tables.exec = Jvm.exec) (hb : c.code = cc) (hK : va_K (zD E) vwCl (zT E) s) (hP : va_P (zD E) vwCl ws H) (q0 t0 : Nat) {a : Nat} {cA : ClassId} {ty : FieldType} {n : Nat} {f : Nat → Option Nat} (ha : ws[q0]? = some (a, .inl (cA, n, .inr (.inr (.inr (.inr f)))))) (ht : (zT E)[t0]? = some (cA, .array ty)) {i : Int32} (hin : vp_in i n) {v : Nat} (hv : f i.toNatClampNeg = some v) (hdg : decode cc pc = .ok (.aaload, 1))
    (kk : W p l e R s m args below meth c H locs cells slots Q (F0 m (pc + 1) ls (.ref v :: rest))) : W p l e R s m args below meth c H locs cells slots Q (F0 m pc ls (.int i :: .ref a :: rest)) := by
  have hlt : i.toNatClampNeg < n := Nat.not_le.mp fun q => hin (Or.inr q)
  have kk2 : W p l e R s m args below meth c H locs cells slots Q (F0 m (pc + 1) ls (va_rf (f i.toNatClampNeg) :: rest)) := by rw [hv]; exact kk
  exact W.aald (v := va_rf (f i.toNatClampNeg)) (ty := .array ty) hexec hb (hP q0 _ ha) ((hK.2 t0 _ ht).1 n (fun j => va_rf (f j))) rfl (fun q => by cases q) (by show ¬ (i < 0 ∨ (arrV _ _ _).slots.size ≤ _); rw [arrV_size]; exact hin) (by show (arrV _ _ _).slots[_]? = _; rw [arrV_read _ _ hlt]) rfl rfl hdg kk2
end ZM
theorem zm_lt {x : Int32} (h : vp_in x 8) : x.toNatClampNeg < 8 := Nat.not_le.mp fun q => h (Or.inr q)
theorem zm_at {i : Nat} (h : i < 8) (f : Nat → Nat) : (if i < 8 then some (f i) else none) = some (f i) := if_pos h
/-- two next to each other -/
theorem zm_next {x : Int32} (h : vp_in x 8) (h1 : vp_in (x - 1) 8) : ∃ j : Nat, j + 1 < 8 ∧ (x - 1).toNatClampNeg = j ∧ x.toNatClampNeg = j + 1 := by
  obtain ⟨a, ha, rfl⟩ := vp_in_of h (by decide)
  cases a with
  | zero =>
    exact absurd h1 (by decide)
  | succ j =>
    refine ⟨j, ha, ?_, nI_clamp (by omega)⟩
    rw [nI_pred]
    exact nI_clamp (by omega)
abbrev r_X10_remember : Room := { frames := 2, cells := 0, slots := 0, locals := 60 }
def wq_tail (u : S_X10) (h : S_MH) (post : S_X10 × S_MH → Prop) : Prop := vp_in u.2.2.2.2.2.2.2.2.2.2.2.2.2.1 8 ∧ wp_X10_copy u.2.2.2.2.2.2.2.2.1 (h.1 u.2.2.2.2.2.2.2.2.2.2.2.2.2.1.toNatClampNeg) (fun w => wp_X10_copyLongs u.2.2.2.2.2.2.2.2.2.2.2.1 (h.2 u.2.2.2.2.2.2.2.2.2.2.2.2.2.1.toNatClampNeg) (fun v => post ((u.1, u.2.1, u.2.2.1, u.2.2.2.1, u.2.2.2.2.1, u.2.2.2.2.2.1, u.2.2.2.2.2.2.1, u.2.2.2.2.2.2.2.1, w.1, u.2.2.2.2.2.2.2.2.2.1, u.2.2.2.2.2.2.2.2.2.2.1, v.1, u.2.2.2.2.2.2.2.2.2.2.2.2.1, (u.2.2.2.2.2.2.2.2.2.2.2.2.2.1 + (1 : Int32)), u.2.2.2.2.2.2.2.2.2.2.2.2.2.2.1, u.2.2.2.2.2.2.2.2.2.2.2.2.2.2.2.1, u.2.2.2.2.2.2.2.2.2.2.2.2.2.2.2.2.1, u.2.2.2.2.2.2.2.2.2.2.2.2.2.2.2.2.2.1, u.2.2.2.2.2.2.2.2.2.2.2.2.2.2.2.2.2.2.1, u.2.2.2.2.2.2.2.2.2.2.2.2.2.2.2.2.2.2.2.1, u.2.2.2.2.2.2.2.2.2.2.2.2.2.2.2.2.2.2.2.2.1, u.2.2.2.2.2.2.2.2.2.2.2.2.2.2.2.2.2.2.2.2.2), (va_up h.1 u.2.2.2.2.2.2.2.2.2.2.2.2.2.1.toNatClampNeg w.2, va_up h.2 u.2.2.2.2.2.2.2.2.2.2.2.2.2.1.toNatClampNeg v.2))))
def wq_body (K : Int32 × S_MH → Prop) (x : Int32) (h : S_MH) (u : S_X10) (post : S_X10 × S_MH → Prop) : Prop := ((8 : Int32) ≤ x → wq_tail (u.1, u.2.1, u.2.2.1, u.2.2.2.1, u.2.2.2.2.1, u.2.2.2.2.2.1, u.2.2.2.2.2.2.1, u.2.2.2.2.2.2.2.1, u.2.2.2.2.2.2.2.2.1, u.2.2.2.2.2.2.2.2.2.1, u.2.2.2.2.2.2.2.2.2.2.1, u.2.2.2.2.2.2.2.2.2.2.2.1, u.2.2.2.2.2.2.2.2.2.2.2.2.1, (u.2.2.2.2.2.2.2.2.2.2.2.2.2.1 - (1 : Int32)), u.2.2.2.2.2.2.2.2.2.2.2.2.2.2.1, u.2.2.2.2.2.2.2.2.2.2.2.2.2.2.2.1, u.2.2.2.2.2.2.2.2.2.2.2.2.2.2.2.2.1, u.2.2.2.2.2.2.2.2.2.2.2.2.2.2.2.2.2.1, u.2.2.2.2.2.2.2.2.2.2.2.2.2.2.2.2.2.2.1, u.2.2.2.2.2.2.2.2.2.2.2.2.2.2.2.2.2.2.2.1, u.2.2.2.2.2.2.2.2.2.2.2.2.2.2.2.2.2.2.2.2.1, u.2.2.2.2.2.2.2.2.2.2.2.2.2.2.2.2.2.2.2.2.2) h post) ∧ (¬ (8 : Int32) ≤ x → vp_in x 8 ∧ vp_in (x - 1) 8 ∧ wp_X10_copy (h.1 x.toNatClampNeg) (h.1 (x - 1).toNatClampNeg) (fun w => wp_X10_copyLongs (h.2 x.toNatClampNeg) (h.2 (x - 1).toNatClampNeg) (fun v => K (x + 1, (va_up (va_up h.1 x.toNatClampNeg w.1) (x - 1).toNatClampNeg w.2, va_up (va_up h.2 x.toNatClampNeg v.1) (x - 1).toNatClampNeg v.2)))))
def wp_X10_remember (u : S_X10) (h : S_MH) (post : S_X10 × S_MH → Prop) : Prop := (¬ u.2.2.2.2.2.2.2.2.2.2.2.2.2.1 = (8 : Int32) → wq_tail u h post) ∧ (u.2.2.2.2.2.2.2.2.2.2.2.2.2.1 = (8 : Int32) → ∃ n, zl (fun K st => wq_body K st.1 st.2 u post) n ((1 : Int32), h))
set_option maxHeartbeats 4000000 in
set_option maxRecDepth 100000 in
theorem zm_oA {E : zE} {q : Nat → Nat} (u : S_X10) (h : S_MH) {i : Nat} {l1 l2 : List Nat} (hr : List.range 8 = l1 ++ i :: l2) : (k_X10 E q u ++ k_MH E q h).Perm ([(q 2, .inl (E.2.2 0, 1728, .inl u.2.2.2.2.2.2.2.2.1)), k_MI E q h.1 i] ++ ((k_X10 E q u).take 2 ++ (((k_X10 E q u).drop 3 ++ k_M5 E q :: k_M8 E q :: l1.map (k_MI E q h.1)) ++ (l2.map (k_MI E q h.1) ++ (List.range 8).map (k_MJ E q h.2))))) := by
  show (k_X10 E q u ++ (k_M5 E q :: k_M8 E q :: ((List.range 8).map (k_MI E q h.1) ++ (List.range 8).map (k_MJ E q h.2)))).Perm _
  rw [zm_I hr]
  exact zm_pA (P1 := (k_X10 E q u).take 2)
set_option maxHeartbeats 4000000 in
set_option maxRecDepth 100000 in
theorem zm_oJ {E : zE} {q : Nat → Nat} (u : S_X10) (h : S_MH) {i : Nat} {l1 l2 : List Nat} (hr : List.range 8 = l1 ++ i :: l2) : (k_X10 E q u ++ k_MH E q h).Perm ([(q 6, .inl (E.2.2 1, 40, .inr (.inl u.2.2.2.2.2.2.2.2.2.2.2.1))), k_MJ E q h.2 i] ++ ((k_X10 E q u).take 5 ++ (((k_X10 E q u).drop 6 ++ k_M5 E q :: k_M8 E q :: ((List.range 8).map (k_MI E q h.1) ++ l1.map (k_MJ E q h.2))) ++ l2.map (k_MJ E q h.2)))) := by
  show (k_X10 E q u ++ (k_M5 E q :: k_M8 E q :: ((List.range 8).map (k_MI E q h.1) ++ (List.range 8).map (k_MJ E q h.2)))).Perm _
  rw [zm_J hr]
  exact zm_pJ (P1 := (k_X10 E q u).take 5)
set_option maxHeartbeats 4000000 in
set_option maxRecDepth 100000 in
theorem t_X10_remember_67 {p : Program} {l : Launch} {e : Env} {s : State} {m : MethodId} {args : Array Value} {below : List Frame} {meth : Method} {c : Code} {Z : zZ} {E : zE} {A : Nat → Prop} {q : Nat → Nat} (hZ0 : zSt Z) (C0 : zC p s m args meth c yX10_remember cX10_remember 2 none) (hA : ∀ q : Nat, s.heap.size ≤ q → A q) (hK : va_K (zD E) vwCl (zT E) s) (hZ : Z A s s.heap) (post : S_X10 × S_MH → Prop) (u : S_X10) (h : S_MH) (H : Heap) (locs : List Loc) (ls : Array Slot) (hw : wq_tail u h post) (hP : va_P (zD E) vwCl (k_X10 E q u ++ k_MH E q h) H) (hD : va_D A (k_X10 E q u ++ k_MH E q h)) (hS : va_S A s.heap H locs) (hl : lv_has ls 2 [(0, .ref (q 0))]) : W p l e r_X10_remember s m args below meth c H locs 0 0 (MQ below (va_Qv post (zAt E A (fun v : S_X10 × S_MH => k_X10 E q v.1 ++ k_MH E q v.2)) A) args s 0 0 A) (F0 m 67 ls []) := by
  obtain ⟨hx, hb, hml, hr, hown, hts, hlocks, hin⟩ := id C0
  have hown : s.vm.findClass RX10 = some m.cls := hown
  obtain ⟨hin8, hw⟩ := hw
  have hi8 := zm_lt hin8
  obtain ⟨l1, l2, hr8, hn1, hn2⟩ := zp_range hi8
  refine lv_aload_n hx hb dX10_remember_67 rfl (lv_at hl 0 rfl) ?_
  refine va_get (D := zD E) (ci := 10) (v := .ref (q 2)) (C := RX10) (T := TX10) (N := 24) hx hb hts uw_X10 hown hK hP 0 rfl rfl 8 (by decide) (hts _ wm_5_124) (fun _ h9 => h9) rfl dX10_remember_68 ?_
  refine lv_aload_n hx hb dX10_remember_71 rfl (lv_at hl 0 rfl) ?_
  refine va_get (D := zD E) (ci := 10) (v := .ref (q 5)) (C := RX10) (T := TX10) (N := 24) hx hb hts uw_X10 hown hK hP 0 rfl rfl 11 (by decide) (hts _ wm_5_127) (fun _ h9 => h9) rfl dX10_remember_72 ?_
  refine lv_aload_n hx hb dX10_remember_75 rfl (lv_at hl 0 rfl) ?_
  refine va_get (D := zD E) (ci := 10) (v := .int u.2.2.2.2.2.2.2.2.2.2.2.2.2.1) (C := RX10) (T := TX10) (N := 24) hx hb hts uw_X10 hown hK hP 0 rfl rfl 15 (by decide) (hts _ wm_5_131) (fun _ h9 => h9) rfl dX10_remember_76 ?_
  refine z_aldG (v := q (100 + u.2.2.2.2.2.2.2.2.2.2.2.2.2.1.toNatClampNeg)) hx hb hK hP 10 5 rfl rfl hin8 (zm_at hi8 (fun i => q (100 + i))) dX10_remember_79 ?_
  refine z_cpI (R := r_X10_remember) hZ0 C0 rfl hK hZ hA hP hD hS hl.1 (zm_oA u h hr8) hw ⟨by decide, by decide⟩ (Nat.le_of_ble_eq_true rfl) ⟨by decide, by decide⟩ dX10_remember_80 (fun w H locs hw hP hD hS => ?_)
  have hpm : ([(q 2, .inl (E.2.2 0, 1728, .inl w.1)), (q (100 + u.2.2.2.2.2.2.2.2.2.2.2.2.2.1.toNatClampNeg), .inl (E.2.2 0, 1728, .inl w.2))] ++ ((k_X10 E q u).take 2 ++ (((k_X10 E q u).drop 3 ++ k_M5 E q :: k_M8 E q :: l1.map (k_MI E q h.1)) ++ (l2.map (k_MI E q h.1) ++ (List.range 8).map (k_MJ E q h.2))))).Perm (k_X10 E q (u.1, u.2.1, u.2.2.1, u.2.2.2.1, u.2.2.2.2.1, u.2.2.2.2.2.1, u.2.2.2.2.2.2.1, u.2.2.2.2.2.2.2.1, w.1, u.2.2.2.2.2.2.2.2.2.1, u.2.2.2.2.2.2.2.2.2.2.1, u.2.2.2.2.2.2.2.2.2.2.2.1, u.2.2.2.2.2.2.2.2.2.2.2.2.1, u.2.2.2.2.2.2.2.2.2.2.2.2.2.1, u.2.2.2.2.2.2.2.2.2.2.2.2.2.2.1, u.2.2.2.2.2.2.2.2.2.2.2.2.2.2.2.1, u.2.2.2.2.2.2.2.2.2.2.2.2.2.2.2.2.1, u.2.2.2.2.2.2.2.2.2.2.2.2.2.2.2.2.2.1, u.2.2.2.2.2.2.2.2.2.2.2.2.2.2.2.2.2.2.1, u.2.2.2.2.2.2.2.2.2.2.2.2.2.2.2.2.2.2.2.1, u.2.2.2.2.2.2.2.2.2.2.2.2.2.2.2.2.2.2.2.2.1, u.2.2.2.2.2.2.2.2.2.2.2.2.2.2.2.2.2.2.2.2.2) ++ k_MH E q (va_up h.1 u.2.2.2.2.2.2.2.2.2.2.2.2.2.1.toNatClampNeg w.2, h.2)) := by
    have hh := zm_oA (E := E) (q := q) (u.1, u.2.1, u.2.2.1, u.2.2.2.1, u.2.2.2.2.1, u.2.2.2.2.2.1, u.2.2.2.2.2.2.1, u.2.2.2.2.2.2.2.1, w.1, u.2.2.2.2.2.2.2.2.2.1, u.2.2.2.2.2.2.2.2.2.2.1, u.2.2.2.2.2.2.2.2.2.2.2.1, u.2.2.2.2.2.2.2.2.2.2.2.2.1, u.2.2.2.2.2.2.2.2.2.2.2.2.2.1, u.2.2.2.2.2.2.2.2.2.2.2.2.2.2.1, u.2.2.2.2.2.2.2.2.2.2.2.2.2.2.2.1, u.2.2.2.2.2.2.2.2.2.2.2.2.2.2.2.2.1, u.2.2.2.2.2.2.2.2.2.2.2.2.2.2.2.2.2.1, u.2.2.2.2.2.2.2.2.2.2.2.2.2.2.2.2.2.2.1, u.2.2.2.2.2.2.2.2.2.2.2.2.2.2.2.2.2.2.2.1, u.2.2.2.2.2.2.2.2.2.2.2.2.2.2.2.2.2.2.2.2.1, u.2.2.2.2.2.2.2.2.2.2.2.2.2.2.2.2.2.2.2.2.2) (va_up h.1 u.2.2.2.2.2.2.2.2.2.2.2.2.2.1.toNatClampNeg w.2, h.2) hr8
    have e1 : k_MI E q ((va_up h.1 u.2.2.2.2.2.2.2.2.2.2.2.2.2.1.toNatClampNeg w.2, h.2) : S_MH).1 u.2.2.2.2.2.2.2.2.2.2.2.2.2.1.toNatClampNeg = (q (100 + u.2.2.2.2.2.2.2.2.2.2.2.2.2.1.toNatClampNeg), .inl (E.2.2 0, 1728, .inl w.2)) := by show ((q (100 + u.2.2.2.2.2.2.2.2.2.2.2.2.2.1.toNatClampNeg), .inl (E.2.2 0, 1728, .inl (va_up h.1 u.2.2.2.2.2.2.2.2.2.2.2.2.2.1.toNatClampNeg w.2 u.2.2.2.2.2.2.2.2.2.2.2.2.2.1.toNatClampNeg))) : Nat × va_E) = _; rw [va_up_self]
    rw [e1, show l1.map (k_MI E q ((va_up h.1 u.2.2.2.2.2.2.2.2.2.2.2.2.2.1.toNatClampNeg w.2, h.2) : S_MH).1) = l1.map (k_MI E q h.1) from zm_cI hn1, show l2.map (k_MI E q ((va_up h.1 u.2.2.2.2.2.2.2.2.2.2.2.2.2.1.toNatClampNeg w.2, h.2) : S_MH).1) = l2.map (k_MI E q h.1) from zm_cI hn2] at hh
    exact hh.symm
  have hP := zp_P hpm hP
  have hD := zp_D hpm hD
  refine lv_aload_n hx hb dX10_remember_83 rfl (lv_at hl 0 rfl) ?_
  refine va_get (D := zD E) (ci := 10) (v := .ref (q 6)) (C := RX10) (T := TX10) (N := 24) hx hb hts uw_X10 hown hK hP 0 rfl rfl 12 (by decide) (hts _ wm_5_128) (fun _ h9 => h9) rfl dX10_remember_84 ?_
  refine lv_aload_n hx hb dX10_remember_87 rfl (lv_at hl 0 rfl) ?_
  refine va_get (D := zD E) (ci := 10) (v := .ref (q 8)) (C := RX10) (T := TX10) (N := 24) hx hb hts uw_X10 hown hK hP 0 rfl rfl 14 (by decide) (hts _ wm_5_130) (fun _ h9 => h9) rfl dX10_remember_88 ?_
  refine lv_aload_n hx hb dX10_remember_91 rfl (lv_at hl 0 rfl) ?_
  refine va_get (D := zD E) (ci := 10) (v := .int u.2.2.2.2.2.2.2.2.2.2.2.2.2.1) (C := RX10) (T := TX10) (N := 24) hx hb hts uw_X10 hown hK hP 0 rfl rfl 15 (by decide) (hts _ wm_5_131) (fun _ h9 => h9) rfl dX10_remember_92 ?_
  refine z_aldG (v := q (200 + u.2.2.2.2.2.2.2.2.2.2.2.2.2.1.toNatClampNeg)) hx hb hK hP 11 6 rfl rfl hin8 (zm_at hi8 (fun i => q (200 + i))) dX10_remember_95 ?_
  refine z_cpJ (R := r_X10_remember) hZ0 C0 rfl hK hZ hA hP hD hS hl.1 (zm_oJ (u.1, u.2.1, u.2.2.1, u.2.2.2.1, u.2.2.2.2.1, u.2.2.2.2.2.1, u.2.2.2.2.2.2.1, u.2.2.2.2.2.2.2.1, w.1, u.2.2.2.2.2.2.2.2.2.1, u.2.2.2.2.2.2.2.2.2.2.1, u.2.2.2.2.2.2.2.2.2.2.2.1, u.2.2.2.2.2.2.2.2.2.2.2.2.1, u.2.2.2.2.2.2.2.2.2.2.2.2.2.1, u.2.2.2.2.2.2.2.2.2.2.2.2.2.2.1, u.2.2.2.2.2.2.2.2.2.2.2.2.2.2.2.1, u.2.2.2.2.2.2.2.2.2.2.2.2.2.2.2.2.1, u.2.2.2.2.2.2.2.2.2.2.2.2.2.2.2.2.2.1, u.2.2.2.2.2.2.2.2.2.2.2.2.2.2.2.2.2.2.1, u.2.2.2.2.2.2.2.2.2.2.2.2.2.2.2.2.2.2.2.1, u.2.2.2.2.2.2.2.2.2.2.2.2.2.2.2.2.2.2.2.2.1, u.2.2.2.2.2.2.2.2.2.2.2.2.2.2.2.2.2.2.2.2.2) (va_up h.1 u.2.2.2.2.2.2.2.2.2.2.2.2.2.1.toNatClampNeg w.2, h.2) hr8) hw ⟨by decide, by decide⟩ (Nat.le_of_ble_eq_true rfl) ⟨by decide, by decide⟩ dX10_remember_96 (fun v H locs hw hP hD hS => ?_)
  have hpm : ([(q 6, .inl (E.2.2 1, 40, .inr (.inl v.1))), (q (200 + u.2.2.2.2.2.2.2.2.2.2.2.2.2.1.toNatClampNeg), .inl (E.2.2 1, 40, .inr (.inl v.2)))] ++ ((k_X10 E q (u.1, u.2.1, u.2.2.1, u.2.2.2.1, u.2.2.2.2.1, u.2.2.2.2.2.1, u.2.2.2.2.2.2.1, u.2.2.2.2.2.2.2.1, w.1, u.2.2.2.2.2.2.2.2.2.1, u.2.2.2.2.2.2.2.2.2.2.1, u.2.2.2.2.2.2.2.2.2.2.2.1, u.2.2.2.2.2.2.2.2.2.2.2.2.1, u.2.2.2.2.2.2.2.2.2.2.2.2.2.1, u.2.2.2.2.2.2.2.2.2.2.2.2.2.2.1, u.2.2.2.2.2.2.2.2.2.2.2.2.2.2.2.1, u.2.2.2.2.2.2.2.2.2.2.2.2.2.2.2.2.1, u.2.2.2.2.2.2.2.2.2.2.2.2.2.2.2.2.2.1, u.2.2.2.2.2.2.2.2.2.2.2.2.2.2.2.2.2.2.1, u.2.2.2.2.2.2.2.2.2.2.2.2.2.2.2.2.2.2.2.1, u.2.2.2.2.2.2.2.2.2.2.2.2.2.2.2.2.2.2.2.2.1, u.2.2.2.2.2.2.2.2.2.2.2.2.2.2.2.2.2.2.2.2.2)).take 5 ++ (((k_X10 E q (u.1, u.2.1, u.2.2.1, u.2.2.2.1, u.2.2.2.2.1, u.2.2.2.2.2.1, u.2.2.2.2.2.2.1, u.2.2.2.2.2.2.2.1, w.1, u.2.2.2.2.2.2.2.2.2.1, u.2.2.2.2.2.2.2.2.2.2.1, u.2.2.2.2.2.2.2.2.2.2.2.1, u.2.2.2.2.2.2.2.2.2.2.2.2.1, u.2.2.2.2.2.2.2.2.2.2.2.2.2.1, u.2.2.2.2.2.2.2.2.2.2.2.2.2.2.1, u.2.2.2.2.2.2.2.2.2.2.2.2.2.2.2.1, u.2.2.2.2.2.2.2.2.2.2.2.2.2.2.2.2.1, u.2.2.2.2.2.2.2.2.2.2.2.2.2.2.2.2.2.1, u.2.2.2.2.2.2.2.2.2.2.2.2.2.2.2.2.2.2.1, u.2.2.2.2.2.2.2.2.2.2.2.2.2.2.2.2.2.2.2.1, u.2.2.2.2.2.2.2.2.2.2.2.2.2.2.2.2.2.2.2.2.1, u.2.2.2.2.2.2.2.2.2.2.2.2.2.2.2.2.2.2.2.2.2)).drop 6 ++ k_M5 E q :: k_M8 E q :: ((List.range 8).map (k_MI E q ((va_up h.1 u.2.2.2.2.2.2.2.2.2.2.2.2.2.1.toNatClampNeg w.2, h.2) : S_MH).1) ++ l1.map (k_MJ E q h.2))) ++ l2.map (k_MJ E q h.2)))).Perm (k_X10 E q (u.1, u.2.1, u.2.2.1, u.2.2.2.1, u.2.2.2.2.1, u.2.2.2.2.2.1, u.2.2.2.2.2.2.1, u.2.2.2.2.2.2.2.1, w.1, u.2.2.2.2.2.2.2.2.2.1, u.2.2.2.2.2.2.2.2.2.2.1, v.1, u.2.2.2.2.2.2.2.2.2.2.2.2.1, u.2.2.2.2.2.2.2.2.2.2.2.2.2.1, u.2.2.2.2.2.2.2.2.2.2.2.2.2.2.1, u.2.2.2.2.2.2.2.2.2.2.2.2.2.2.2.1, u.2.2.2.2.2.2.2.2.2.2.2.2.2.2.2.2.1, u.2.2.2.2.2.2.2.2.2.2.2.2.2.2.2.2.2.1, u.2.2.2.2.2.2.2.2.2.2.2.2.2.2.2.2.2.2.1, u.2.2.2.2.2.2.2.2.2.2.2.2.2.2.2.2.2.2.2.1, u.2.2.2.2.2.2.2.2.2.2.2.2.2.2.2.2.2.2.2.2.1, u.2.2.2.2.2.2.2.2.2.2.2.2.2.2.2.2.2.2.2.2.2) ++ k_MH E q (va_up h.1 u.2.2.2.2.2.2.2.2.2.2.2.2.2.1.toNatClampNeg w.2, va_up h.2 u.2.2.2.2.2.2.2.2.2.2.2.2.2.1.toNatClampNeg v.2)) := by
    have hh := zm_oJ (E := E) (q := q) (u.1, u.2.1, u.2.2.1, u.2.2.2.1, u.2.2.2.2.1, u.2.2.2.2.2.1, u.2.2.2.2.2.2.1, u.2.2.2.2.2.2.2.1, w.1, u.2.2.2.2.2.2.2.2.2.1, u.2.2.2.2.2.2.2.2.2.2.1, v.1, u.2.2.2.2.2.2.2.2.2.2.2.2.1, u.2.2.2.2.2.2.2.2.2.2.2.2.2.1, u.2.2.2.2.2.2.2.2.2.2.2.2.2.2.1, u.2.2.2.2.2.2.2.2.2.2.2.2.2.2.2.1, u.2.2.2.2.2.2.2.2.2.2.2.2.2.2.2.2.1, u.2.2.2.2.2.2.2.2.2.2.2.2.2.2.2.2.2.1, u.2.2.2.2.2.2.2.2.2.2.2.2.2.2.2.2.2.2.1, u.2.2.2.2.2.2.2.2.2.2.2.2.2.2.2.2.2.2.2.1, u.2.2.2.2.2.2.2.2.2.2.2.2.2.2.2.2.2.2.2.2.1, u.2.2.2.2.2.2.2.2.2.2.2.2.2.2.2.2.2.2.2.2.2) (va_up h.1 u.2.2.2.2.2.2.2.2.2.2.2.2.2.1.toNatClampNeg w.2, va_up h.2 u.2.2.2.2.2.2.2.2.2.2.2.2.2.1.toNatClampNeg v.2) hr8
    have e1 : k_MJ E q ((va_up h.1 u.2.2.2.2.2.2.2.2.2.2.2.2.2.1.toNatClampNeg w.2, va_up h.2 u.2.2.2.2.2.2.2.2.2.2.2.2.2.1.toNatClampNeg v.2) : S_MH).2 u.2.2.2.2.2.2.2.2.2.2.2.2.2.1.toNatClampNeg = (q (200 + u.2.2.2.2.2.2.2.2.2.2.2.2.2.1.toNatClampNeg), .inl (E.2.2 1, 40, .inr (.inl v.2))) := by show ((q (200 + u.2.2.2.2.2.2.2.2.2.2.2.2.2.1.toNatClampNeg), .inl (E.2.2 1, 40, .inr (.inl (va_up h.2 u.2.2.2.2.2.2.2.2.2.2.2.2.2.1.toNatClampNeg v.2 u.2.2.2.2.2.2.2.2.2.2.2.2.2.1.toNatClampNeg)))) : Nat × va_E) = _; rw [va_up_self]
    rw [e1, show l1.map (k_MJ E q ((va_up h.1 u.2.2.2.2.2.2.2.2.2.2.2.2.2.1.toNatClampNeg w.2, va_up h.2 u.2.2.2.2.2.2.2.2.2.2.2.2.2.1.toNatClampNeg v.2) : S_MH).2) = l1.map (k_MJ E q h.2) from zm_cJ hn1, show l2.map (k_MJ E q ((va_up h.1 u.2.2.2.2.2.2.2.2.2.2.2.2.2.1.toNatClampNeg w.2, va_up h.2 u.2.2.2.2.2.2.2.2.2.2.2.2.2.1.toNatClampNeg v.2) : S_MH).2) = l2.map (k_MJ E q h.2) from zm_cJ hn2] at hh
    exact hh.symm
  have hP := zp_P hpm hP
  have hD := zp_D hpm hD
  refine lv_aload_n hx hb dX10_remember_99 rfl (lv_at hl 0 rfl) ?_
  refine lv_dup hx hb dX10_remember_100 rfl ?_
  refine va_get (D := zD E) (ci := 10) (v := .int u.2.2.2.2.2.2.2.2.2.2.2.2.2.1) (C := RX10) (T := TX10) (N := 24) hx hb hts uw_X10 hown hK hP 0 rfl rfl 15 (by decide) (hts _ wm_5_131) (fun _ h9 => h9) rfl dX10_remember_101 ?_
  refine lv_iconst (v := 1) hx hb dX10_remember_104 rfl ?_
  refine lv_iadd hx hb dX10_remember_105 ?_
  refine va_put (D := zD E) (ci := 10) (v := .int (u.2.2.2.2.2.2.2.2.2.2.2.2.2.1 + (1 : Int32))) (ty := .int) (C := RX10) (T := TX10) (N := 24) hx hb hts uw_X10 tyX10 tyX10_ok nmX10 hown hK hP hD hS 0 rfl rfl 15 (by decide) (hts _ wm_5_131) (fun _ h9 => h9) rfl (by decide +kernel) rfl rfl (Nat.le_of_ble_eq_true rfl) dX10_remember_106 (fun H locs hP hD hS => ?_)
  exact z_vret (k := (fun v : S_X10 × S_MH => k_X10 E q v.1 ++ k_MH E q v.2)) ((u.1, u.2.1, u.2.2.1, u.2.2.2.1, u.2.2.2.2.1, u.2.2.2.2.2.1, u.2.2.2.2.2.2.1, u.2.2.2.2.2.2.2.1, w.1, u.2.2.2.2.2.2.2.2.2.1, u.2.2.2.2.2.2.2.2.2.2.1, v.1, u.2.2.2.2.2.2.2.2.2.2.2.2.1, (u.2.2.2.2.2.2.2.2.2.2.2.2.2.1 + (1 : Int32)), u.2.2.2.2.2.2.2.2.2.2.2.2.2.2.1, u.2.2.2.2.2.2.2.2.2.2.2.2.2.2.2.1, u.2.2.2.2.2.2.2.2.2.2.2.2.2.2.2.2.1, u.2.2.2.2.2.2.2.2.2.2.2.2.2.2.2.2.2.1, u.2.2.2.2.2.2.2.2.2.2.2.2.2.2.2.2.2.2.1, u.2.2.2.2.2.2.2.2.2.2.2.2.2.2.2.2.2.2.2.1, u.2.2.2.2.2.2.2.2.2.2.2.2.2.2.2.2.2.2.2.2.1, u.2.2.2.2.2.2.2.2.2.2.2.2.2.2.2.2.2.2.2.2.2), (va_up h.1 u.2.2.2.2.2.2.2.2.2.2.2.2.2.1.toNatClampNeg w.2, va_up h.2 u.2.2.2.2.2.2.2.2.2.2.2.2.2.1.toNatClampNeg v.2)) C0 hP hD hS hw dX10_remember_109
