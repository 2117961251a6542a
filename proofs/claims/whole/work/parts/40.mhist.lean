/-! The reference's history: rows of two tables. -/
abbrev S_MH : Type := (Nat → Nat → Int32) × (Nat → Nat → Int64)
abbrev k_MI (E : zE) (q : Nat → Nat) (h : Nat → Nat → Int32) (i : Nat) : Nat × va_E := (q (100 + i), .inl (E.2.2 0, 1728, .inl (h i)))
abbrev k_MJ (E : zE) (q : Nat → Nat) (h : Nat → Nat → Int64) (i : Nat) : Nat × va_E := (q (200 + i), .inl (E.2.2 1, 40, .inr (.inl (h i))))
abbrev k_M5 (E : zE) (q : Nat → Nat) : Nat × va_E := (q 5, .inl (E.2.2 5, 8, .inr (.inr (.inr (.inr (fun i => if i < 8 then some (q (100 + i)) else none))))))
abbrev k_M8 (E : zE) (q : Nat → Nat) : Nat × va_E := (q 8, .inl (E.2.2 6, 8, .inr (.inr (.inr (.inr (fun i => if i < 8 then some (q (200 + i)) else none))))))
def k_MR (E : zE) (q : Nat → Nat) (u : S_MH) : va_W := (List.range 8).map (k_MI E q u.1) ++ (List.range 8).map (k_MJ E q u.2)
abbrev k_MH (E : zE) (q : Nat → Nat) (u : S_MH) : va_W := k_M5 E q :: k_M8 E q :: k_MR E q u
theorem zm_I {E : zE} {q : Nat → Nat} {h : Nat → Nat → Int32} {i : Nat} {l1 l2 : List Nat} (hr : List.range 8 = l1 ++ i :: l2) : (List.range 8).map (k_MI E q h) = l1.map (k_MI E q h) ++ k_MI E q h i :: l2.map (k_MI E q h) := by rw [hr, List.map_append, List.map_cons]
theorem zm_J {E : zE} {q : Nat → Nat} {h : Nat → Nat → Int64} {i : Nat} {l1 l2 : List Nat} (hr : List.range 8 = l1 ++ i :: l2) : (List.range 8).map (k_MJ E q h) = l1.map (k_MJ E q h) ++ k_MJ E q h i :: l2.map (k_MJ E q h) := by rw [hr, List.map_append, List.map_cons]
theorem zm_cI {E : zE} {q : Nat → Nat} {h : Nat → Nat → Int32} {r : Nat → Int32} {i : Nat} {l : List Nat} (hi : i ∉ l) : l.map (k_MI E q (va_up h i r)) = l.map (k_MI E q h) := by
  apply List.map_congr_left
  intro a ha
  show ((q (100 + a), _) : Nat × va_E) = _
  rw [va_up_ne _ _ (fun e => hi (by rw [← e]; exact ha))]
theorem zm_cJ {E : zE} {q : Nat → Nat} {h : Nat → Nat → Int64} {r : Nat → Int64} {i : Nat} {l : List Nat} (hi : i ∉ l) : l.map (k_MJ E q (va_up h i r)) = l.map (k_MJ E q h) := by
  apply List.map_congr_left
  intro a ha
  show ((q (200 + a), _) : Nat × va_E) = _
  rw [va_up_ne _ _ (fun e => hi (by rw [← e]; exact ha))]
theorem zm_two {L1 L2 L3 : va_W} {a b : Nat × va_E} : (L1 ++ a :: (L2 ++ b :: L3)).Perm (a :: b :: (L1 ++ (L2 ++ L3))) := by
  refine List.perm_middle.trans (List.Perm.cons a ?_)
  rw [← List.append_assoc]
  refine List.perm_middle.trans (List.Perm.cons b ?_)
  rw [List.append_assoc]
theorem zm_pA {P1 T R1 R2 RJ : va_W} {a b c5 c8 : Nat × va_E} : ((P1 ++ a :: T) ++ (c5 :: c8 :: ((R1 ++ b :: R2) ++ RJ))).Perm (a :: b :: (P1 ++ ((T ++ c5 :: c8 :: R1) ++ (R2 ++ RJ)))) := by
  have e : (P1 ++ a :: T) ++ (c5 :: c8 :: ((R1 ++ b :: R2) ++ RJ)) = P1 ++ a :: ((T ++ c5 :: c8 :: R1) ++ b :: (R2 ++ RJ)) := by simp
  rw [e]
  exact zm_two
theorem zm_pJ {P1 T RI R1 R2 : va_W} {a b c5 c8 : Nat × va_E} : ((P1 ++ a :: T) ++ (c5 :: c8 :: (RI ++ (R1 ++ b :: R2)))).Perm (a :: b :: (P1 ++ ((T ++ c5 :: c8 :: (RI ++ R1)) ++ R2))) := by
  have e : (P1 ++ a :: T) ++ (c5 :: c8 :: (RI ++ (R1 ++ b :: R2))) = P1 ++ a :: ((T ++ c5 :: c8 :: (RI ++ R1)) ++ b :: R2) := by simp
  rw [e]
  exact zm_two
theorem zm_pC {X R1 R2 RJ : va_W} {a b c5 c8 : Nat × va_E} : (X ++ (c5 :: c8 :: ((R1 ++ a :: b :: R2) ++ RJ))).Perm (a :: b :: ((X ++ c5 :: c8 :: R1) ++ ([] ++ (R2 ++ RJ)))) := by
  have e : X ++ (c5 :: c8 :: ((R1 ++ a :: b :: R2) ++ RJ)) = (X ++ c5 :: c8 :: R1) ++ a :: ([] ++ b :: (R2 ++ RJ)) := by simp
  rw [e]
  exact zm_two
theorem zm_pD {X RI R1 R2 : va_W} {a b c5 c8 : Nat × va_E} : (X ++ (c5 :: c8 :: (RI ++ (R1 ++ a :: b :: R2)))).Perm (a :: b :: ((X ++ c5 :: c8 :: (RI ++ R1)) ++ ([] ++ R2))) := by
  have e : X ++ (c5 :: c8 :: (RI ++ (R1 ++ a :: b :: R2))) = (X ++ c5 :: c8 :: (RI ++ R1)) ++ a :: ([] ++ b :: R2) := by simp
  rw [e]
  exact zm_two
theorem zm_rng2 {i : Nat} (hi : i + 1 < 8) : ∃ l1 l2 : List Nat, List.range 8 = l1 ++ i :: (i + 1) :: l2 ∧ i ∉ l1 ∧ i ∉ l2 ∧ i + 1 ∉ l1 ∧ i + 1 ∉ l2 := by
  have key : ∀ j : Fin 7, ∃ l1 l2 : List Nat, List.range 8 = l1 ++ j.val :: (j.val + 1) :: l2 ∧ j.val ∉ l1 ∧ j.val ∉ l2 ∧ j.val + 1 ∉ l1 ∧ j.val + 1 ∉ l2 := by
    intro j
    refine ⟨(List.range 8).take j.val, (List.range 8).drop (j.val + 2), ?_, ?_, ?_, ?_, ?_⟩ <;> revert j <;> decide
  exact key ⟨i, by omega⟩
theorem zm_all (w : va_W) : (List.range w.length).map (fun i => w[i]?) = w.map some := by
  apply List.ext_getElem (by simp)
  intro i h1 h2
  have : i < w.length := by simpa using h1
  simp [this]
section ZM
variable {p : Program} {l : Launch} {e : Env} {R : Room} {s : State} {m : MethodId} {args : Array Value} {below : List Frame} {meth : Method} {c : Code} {H : Heap} {locs : List Loc} {cells slots : Nat} {Q : State → Prop}
variable {pc : Nat} {ls : Array Slot} {rest st0 : List Value} {Z : zZ} {E : zE} {A : Nat → Prop} {ws wc wr : va_W} {mc ms : Nat}
theorem zm_l {D : va_G} {cl : List vw_C} (h : va_P D cl (wc ++ wr) H) : va_P D cl wc H := fun k q hk => h k q (by rw [List.getElem?_append_left (List.getElem?_eq_some_iff.mp hk).1]; exact hk)
theorem zm_lD (h : va_D A (wc ++ wr)) : va_D A wc := by
  rw [zp_pw] at h ⊢
  exact ⟨(List.pairwise_append.mp h.1).1, fun q hq => h.2 q (List.mem_append_left _ hq)⟩
theorem zm_F (hD : va_D A (wc ++ wr)) (hS : va_S A s.heap H locs) (hA : ∀ q : Nat, s.heap.size ≤ q → A q) : ∀ q, va_A wc H.size q → A q := by
  intro q h
  rcases h with ⟨k, e9, h⟩ | h
  · exact (zm_lD hD).2 k (q, e9) h
  · exact hA q (Nat.le_trans hS.1 h)
theorem zm_back {w1 : va_W} {H1 : Heap} (hP : va_P (zD E) vwCl (wc ++ wr) H) (hD : va_D A (wc ++ wr)) (hF : ∀ q, va_A wc H.size q → A q) (hk : ∀ q : Nat, q < H.size → ¬ va_A wc H.size q → H1[q]? = H[q]?) (hP1 : va_P (zD E) vwCl w1 H1) (hD1 : va_D (va_A wc H.size) w1) : va_P (zD E) vwCl (w1 ++ wr) H1 ∧ va_D A (w1 ++ wr) :=
  va_joinQ (wr := []) hP hD (List.range wc.length) [] (zm_all wc) rfl rfl (fun _ h => absurd h List.not_mem_nil) hk hF hP1 hD1
theorem z_gS {y0 y : MethodName} {cc b : ByteArray} {nL n : Nat} {ret0 r : Option FieldType} {k idx : Nat} {rm : Room} {Qc : Array Value → State → Outcome → State → Prop} {As : List Value} (hZ0 : zSt Z) (C0 : zC p s m args meth c y0 cc nL ret0) (hK : va_K (zD E) vwCl (zT E) s) (hP : va_P (zD E) vwCl ws H) (hls : ls.size = nL)
    (hM : Met l y (zws y b n r) rm (va_Pc As (zPre Z E wc H.size)) Qc mc ms (va_A wc H.size)) (hY : zYS y0.cls idx y b n r k) (hpre : ∀ U : State, U.heap = H → s.WarmedH U.vm → va_Pc As (zPre Z E wc H.size) As.toArray U)
    (hR : rm.frames + 1 ≤ R.frames ∧ 8 + (n + 11) + rm.locals ≤ R.locals) (hrm : rm.cells = mc ∧ rm.slots = ms) (hl : As.length = k) (hst : st0 = As.reverse ++ rest) (hw : (rest.map fun v => v.category).sum ≤ 8) (hf : cells + mc ≤ R.cells ∧ slots + ms ≤ R.slots) (hdg : decode cc pc = .ok (.invokestatic idx, 3)) : zRn p l e R s m args below meth c H locs cells slots pc ls st0 rest mc ms Qc As.toArray wc := by
  obtain ⟨hx, hb, hml, hr, hown, hts, hlocks, hin⟩ := C0
  obtain ⟨h1, h2, h3, h4, h5⟩ := hY
  exact va_runS (As := As) (rest := rest) ⟨hx, hb, hml, hown, hts⟩ hM ⟨z_cB hts hrm.1 hrm.2 hR h1 h2 h3 h4, hts _ h5⟩ ⟨zPre_blind hZ0, hpre⟩ rfl hl hls hst (lv_room hw) hdg hf
/-- copy(from, to) of two rows of ints, wherever they stand -/
theorem z_cpI {y0 : MethodName} {cc : ByteArray} {nL : Nat} {ret0 : Option FieldType} {f g : Nat → Int32} {qa qb : Nat} {post : (Nat → Int32) × (Nat → Int32) → Prop} (hZ0 : zSt Z) (C0 : zC p s m args meth c y0 cc nL ret0) (hy0 : y0.cls = RX10) (hK : va_K (zD E) vwCl (zT E) s) (hZ : Z A s s.heap) (hA : ∀ q : Nat, s.heap.size ≤ q → A q) (hP : va_P (zD E) vwCl ws H) (hD : va_D A ws) (hS : va_S A s.heap H locs) (hls : ls.size = nL) (hpm : ws.Perm ([(qa, .inl (E.2.2 0, 1728, .inl f)), (qb, .inl (E.2.2 0, 1728, .inl g))] ++ wr)) (hw : wp_X10_copy f g post) (hR : 1 ≤ R.frames ∧ 22 ≤ R.locals) (hrest : (rest.map fun v => v.category).sum ≤ 8) (hf : cells ≤ R.cells ∧ slots ≤ R.slots) (hdg : decode cc pc = .ok (.invokestatic 192, 3))
    (kk : ∀ (w : (Nat → Int32) × (Nat → Int32)) (H1 : Heap) (locs1 : List Loc), post w → va_P (zD E) vwCl ([(qa, .inl (E.2.2 0, 1728, .inl w.1)), (qb, .inl (E.2.2 0, 1728, .inl w.2))] ++ wr) H1 → va_D A ([(qa, .inl (E.2.2 0, 1728, .inl w.1)), (qb, .inl (E.2.2 0, 1728, .inl w.2))] ++ wr) → va_S A s.heap H1 locs1 → W p l e R s m args below meth c H1 locs1 cells slots Q (F0 m (pc + 3) ls rest)) : W p l e R s m args below meth c H locs cells slots Q (F0 m pc ls (.ref qb :: .ref qa :: rest)) := by
  have hP1 := zp_P hpm hP
  have hD1 := zp_D hpm hD
  have hF := zm_F hD1 hS hA
  exact z_gkv (z_gS (rest := rest) hZ0 C0 hK hP1 hls (c_X10_copy l E Z hZ0 (fun _ => qa) (fun _ => qb) H.size f g post hw) (by rw [hy0]; exact yv_X10_192) (z_preG hZ0 hK hZ (zm_l hP1) (zm_lD hD1) hF hS) ⟨hR.1, hR.2⟩ ⟨rfl, rfl⟩ rfl rfl hrest hf hdg) hS hF (fun w => [(qa, .inl (E.2.2 0, 1728, .inl w.1)), (qb, .inl (E.2.2 0, 1728, .inl w.2))] ++ wr) (fun w H1 hk b1 b2 => zm_back (w1 := [(qa, .inl (E.2.2 0, 1728, .inl w.1)), (qb, .inl (E.2.2 0, 1728, .inl w.2))]) hP1 hD1 hF hk b1 b2) kk
theorem z_cpJ {y0 : MethodName} {cc : ByteArray} {nL : Nat} {ret0 : Option FieldType} {f g : Nat → Int64} {qa qb : Nat} {post : (Nat → Int64) × (Nat → Int64) → Prop} (hZ0 : zSt Z) (C0 : zC p s m args meth c y0 cc nL ret0) (hy0 : y0.cls = RX10) (hK : va_K (zD E) vwCl (zT E) s) (hZ : Z A s s.heap) (hA : ∀ q : Nat, s.heap.size ≤ q → A q) (hP : va_P (zD E) vwCl ws H) (hD : va_D A ws) (hS : va_S A s.heap H locs) (hls : ls.size = nL) (hpm : ws.Perm ([(qa, .inl (E.2.2 1, 40, .inr (.inl f))), (qb, .inl (E.2.2 1, 40, .inr (.inl g)))] ++ wr)) (hw : wp_X10_copyLongs f g post) (hR : 1 ≤ R.frames ∧ 22 ≤ R.locals) (hrest : (rest.map fun v => v.category).sum ≤ 8) (hf : cells ≤ R.cells ∧ slots ≤ R.slots) (hdg : decode cc pc = .ok (.invokestatic 287, 3))
    (kk : ∀ (w : (Nat → Int64) × (Nat → Int64)) (H1 : Heap) (locs1 : List Loc), post w → va_P (zD E) vwCl ([(qa, .inl (E.2.2 1, 40, .inr (.inl w.1))), (qb, .inl (E.2.2 1, 40, .inr (.inl w.2)))] ++ wr) H1 → va_D A ([(qa, .inl (E.2.2 1, 40, .inr (.inl w.1))), (qb, .inl (E.2.2 1, 40, .inr (.inl w.2)))] ++ wr) → va_S A s.heap H1 locs1 → W p l e R s m args below meth c H1 locs1 cells slots Q (F0 m (pc + 3) ls rest)) : W p l e R s m args below meth c H locs cells slots Q (F0 m pc ls (.ref qb :: .ref qa :: rest)) := by
  have hP1 := zp_P hpm hP
  have hD1 := zp_D hpm hD
  have hF := zm_F hD1 hS hA
  exact z_gkv (z_gS (rest := rest) hZ0 C0 hK hP1 hls (c_X10_copyLongs l E Z hZ0 (fun _ => qa) (fun _ => qb) H.size f g post hw) (by rw [hy0]; exact yv_X10_287) (z_preG hZ0 hK hZ (zm_l hP1) (zm_lD hD1) hF hS) ⟨hR.1, hR.2⟩ ⟨rfl, rfl⟩ rfl rfl hrest hf hdg) hS hF (fun w => [(qa, .inl (E.2.2 1, 40, .inr (.inl w.1))), (qb, .inl (E.2.2 1, 40, .inr (.inl w.2)))] ++ wr) (fun w H1 hk b1 b2 => zm_back (w1 := [(qa, .inl (E.2.2 1, 40, .inr (.inl w.1))), (qb, .inl (E.2.2 1, 40, .inr (.inl w.2)))]) hP1 hD1 hF hk b1 b2) kk
theorem z_aldG {cc : ByteArray} (hexec : p.tables.exec = Jvm.exec) (hb : c.code = cc) (hK : va_K (zD E) vwCl (zT E) s) (hP : va_P (zD E) vwCl ws H) (q0 t0 : Nat) {a : Nat} {cA : ClassId} {ty : FieldType} {n : Nat} {f : Nat → Option Nat} (ha : ws[q0]? = some (a, .inl (cA, n, .inr (.inr (.inr (.inr f)))))) (ht : (zT E)[t0]? = some (cA, .array ty)) {i : Int32} (hin : vp_in i n) {v : Nat} (hv : f i.toNatClampNeg = some v) (hdg : decode cc pc = .ok (.aaload, 1))
    (kk : W p l e R s m args below meth c H locs cells slots Q (F0 m (pc + 1) ls (.ref v :: rest))) : W p l e R s m args below meth c H locs cells slots Q (F0 m pc ls (.int i :: .ref a :: rest)) := by
  have hlt : i.toNatClampNeg < n := Nat.not_le.mp fun q => hin (Or.inr q)
  have kk2 : W p l e R s m args below meth c H locs cells slots Q (F0 m (pc + 1) ls (va_rf (f i.toNatClampNeg) :: rest)) := by rw [hv]; exact kk
  exact W.aald (v := va_rf (f i.toNatClampNeg)) (ty := .array ty) hexec hb (hP q0 _ ha) ((hK.2 t0 _ ht).1 n (fun j => va_rf (f j))) rfl (fun q => by cases q) (by show ¬ (i < 0 ∨ (arrV _ _ _).slots.size ≤ _); rw [arrV_size]; exact hin) (by show (arrV _ _ _).slots[_]? = _; rw [arrV_read _ _ hlt]) rfl rfl hdg kk2
end ZM
theorem zm_lt {x : Int32} (h : vp_in x 8) : x.toNatClampNeg < 8 := Nat.not_le.mp fun q => h (Or.inr q)
theorem zm_at {i : Nat} (h : i < 8) (f : Nat → Nat) : (if i < 8 then some (f i) else none) = some (f i) := if_pos h
/-- two next to each other -/
theorem zm_next {x : Int32} (h : vp_in x 8) (h1 : vp_in (x - 1) 8) : ∃ j : Nat, j + 1 < 8 ∧ (x - 1).toNatClampNeg = j ∧ x.toNatClampNeg = j + 1 := by
  obtain ⟨a, ha, rfl⟩ := vp_in_of h (by decide)
  cases a with
  | zero =>
    exact absurd h1 (show ¬ ¬ (nI 0 - 1 < 0 ∨ 8 ≤ (nI 0 - 1).toNatClampNeg) by decide)
  | succ j =>
    refine ⟨j, ha, ?_, nI_clamp (by omega)⟩
    rw [nI_pred]
    exact nI_clamp (by omega)
abbrev r_X10_remember : Room := { frames := 2, cells := 0, slots := 0, locals := 60 }
def wq_tail (u : S_X10) (h : S_MH) (post : S_X10 × S_MH → Prop) : Prop := vp_in u.2.2.2.2.2.2.2.2.2.2.2.2.2.1 8 ∧ wp_X10_copy u.2.2.2.2.2.2.2.2.1 (h.1 u.2.2.2.2.2.2.2.2.2.2.2.2.2.1.toNatClampNeg) (fun w => wp_X10_copyLongs u.2.2.2.2.2.2.2.2.2.2.2.1 (h.2 u.2.2.2.2.2.2.2.2.2.2.2.2.2.1.toNatClampNeg) (fun v => post ((u.1, u.2.1, u.2.2.1, u.2.2.2.1, u.2.2.2.2.1, u.2.2.2.2.2.1, u.2.2.2.2.2.2.1, u.2.2.2.2.2.2.2.1, w.1, u.2.2.2.2.2.2.2.2.2.1, u.2.2.2.2.2.2.2.2.2.2.1, v.1, u.2.2.2.2.2.2.2.2.2.2.2.2.1, (u.2.2.2.2.2.2.2.2.2.2.2.2.2.1 + (1 : Int32)), u.2.2.2.2.2.2.2.2.2.2.2.2.2.2.1, u.2.2.2.2.2.2.2.2.2.2.2.2.2.2.2.1, u.2.2.2.2.2.2.2.2.2.2.2.2.2.2.2.2.1, u.2.2.2.2.2.2.2.2.2.2.2.2.2.2.2.2.2.1, u.2.2.2.2.2.2.2.2.2.2.2.2.2.2.2.2.2.2.1, u.2.2.2.2.2.2.2.2.2.2.2.2.2.2.2.2.2.2.2.1, u.2.2.2.2.2.2.2.2.2.2.2.2.2.2.2.2.2.2.2.2.1, u.2.2.2.2.2.2.2.2.2.2.2.2.2.2.2.2.2.2.2.2.2), (va_up h.1 u.2.2.2.2.2.2.2.2.2.2.2.2.2.1.toNatClampNeg w.2, va_up h.2 u.2.2.2.2.2.2.2.2.2.2.2.2.2.1.toNatClampNeg v.2))))
def wq_body (K : Int32 × S_MH → Prop) (x : Int32) (h : S_MH) (u : S_X10) (post : S_X10 × S_MH → Prop) : Prop := ((8 : Int32) ≤ x → wq_tail (u.1, u.2.1, u.2.2.1, u.2.2.2.1, u.2.2.2.2.1, u.2.2.2.2.2.1, u.2.2.2.2.2.2.1, u.2.2.2.2.2.2.2.1, u.2.2.2.2.2.2.2.2.1, u.2.2.2.2.2.2.2.2.2.1, u.2.2.2.2.2.2.2.2.2.2.1, u.2.2.2.2.2.2.2.2.2.2.2.1, u.2.2.2.2.2.2.2.2.2.2.2.2.1, (u.2.2.2.2.2.2.2.2.2.2.2.2.2.1 - (1 : Int32)), u.2.2.2.2.2.2.2.2.2.2.2.2.2.2.1, u.2.2.2.2.2.2.2.2.2.2.2.2.2.2.2.1, u.2.2.2.2.2.2.2.2.2.2.2.2.2.2.2.2.1, u.2.2.2.2.2.2.2.2.2.2.2.2.2.2.2.2.2.1, u.2.2.2.2.2.2.2.2.2.2.2.2.2.2.2.2.2.2.1, u.2.2.2.2.2.2.2.2.2.2.2.2.2.2.2.2.2.2.2.1, u.2.2.2.2.2.2.2.2.2.2.2.2.2.2.2.2.2.2.2.2.1, u.2.2.2.2.2.2.2.2.2.2.2.2.2.2.2.2.2.2.2.2.2) h post) ∧ (¬ (8 : Int32) ≤ x → vp_in x 8 ∧ vp_in (x - 1) 8 ∧ wp_X10_copy (h.1 x.toNatClampNeg) (h.1 (x - 1).toNatClampNeg) (fun w => wp_X10_copyLongs (h.2 x.toNatClampNeg) (h.2 (x - 1).toNatClampNeg) (fun v => K (x + 1, (va_up (va_up h.1 x.toNatClampNeg w.1) (x - 1).toNatClampNeg w.2, va_up (va_up h.2 x.toNatClampNeg v.1) (x - 1).toNatClampNeg v.2)))))
def wp_X10_remember (u : S_X10) (h : S_MH) (post : S_X10 × S_MH → Prop) : Prop := (¬ u.2.2.2.2.2.2.2.2.2.2.2.2.2.1 = (8 : Int32) → wq_tail u h post) ∧ (u.2.2.2.2.2.2.2.2.2.2.2.2.2.1 = (8 : Int32) → ∃ n, zl (fun K st => wq_body K st.1 st.2 u post) n ((1 : Int32), h))
set_option maxHeartbeats 4000000 in
set_option maxRecDepth 100000 in
theorem zm_oA {E : zE} {q : Nat → Nat} (u : S_X10) (h : S_MH) {i : Nat} {l1 l2 : List Nat} (hr : List.range 8 = l1 ++ i :: l2) : (k_X10 E q u ++ k_MH E q h).Perm ([(q 2, .inl (E.2.2 0, 1728, .inl u.2.2.2.2.2.2.2.2.1)), k_MI E q h.1 i] ++ ((k_X10 E q u).take 2 ++ (((k_X10 E q u).drop 3 ++ k_M5 E q :: k_M8 E q :: l1.map (k_MI E q h.1)) ++ (l2.map (k_MI E q h.1) ++ (List.range 8).map (k_MJ E q h.2))))) := by
  show (k_X10 E q u ++ (k_M5 E q :: k_M8 E q :: ((List.range 8).map (k_MI E q h.1) ++ (List.range 8).map (k_MJ E q h.2)))).Perm _
  rw [zm_I hr]
  exact zm_pA (P1 := (k_X10 E q u).take 2)
set_option maxHeartbeats 4000000 in
set_option maxRecDepth 100000 in
theorem zm_oJ {E : zE} {q : Nat → Nat} (u : S_X10) (h : S_MH) {i : Nat} {l1 l2 : List Nat} (hr : List.range 8 = l1 ++ i :: l2) : (k_X10 E q u ++ k_MH E q h).Perm ([(q 6, .inl (E.2.2 1, 40, .inr (.inl u.2.2.2.2.2.2.2.2.2.2.2.1))), k_MJ E q h.2 i] ++ ((k_X10 E q u).take 5 ++ (((k_X10 E q u).drop 6 ++ k_M5 E q :: k_M8 E q :: ((List.range 8).map (k_MI E q h.1) ++ l1.map (k_MJ E q h.2))) ++ l2.map (k_MJ E q h.2)))) := by
  show (k_X10 E q u ++ (k_M5 E q :: k_M8 E q :: ((List.range 8).map (k_MI E q h.1) ++ (List.range 8).map (k_MJ E q h.2)))).Perm _
  rw [zm_J hr]
  exact zm_pJ (P1 := (k_X10 E q u).take 5)
set_option maxHeartbeats 4000000 in
set_option maxRecDepth 100000 in
theorem t_X10_remember_67 {p : Program} {l : Launch} {e : Env} {s : State} {m : MethodId} {args : Array Value} {below : List Frame} {meth : Method} {c : Code} {Z : zZ} {E : zE} {A : Nat → Prop} {q : Nat → Nat} (hZ0 : zSt Z) (C0 : zC p s m args meth c yX10_remember cX10_remember 2 none) (hA : ∀ q : Nat, s.heap.size ≤ q → A q) (hK : va_K (zD E) vwCl (zT E) s) (hZ : Z A s s.heap) (post : S_X10 × S_MH → Prop) (u : S_X10) (h : S_MH) (H : Heap) (locs : List Loc) (ls : Array Slot) (hw : wq_tail u h post) (hP : va_P (zD E) vwCl (k_X10 E q u ++ k_MH E q h) H) (hD : va_D A (k_X10 E q u ++ k_MH E q h)) (hS : va_S A s.heap H locs) (hl : lv_has ls 2 [(0, .ref (q 0))]) : W p l e r_X10_remember s m args below meth c H locs 0 0 (MQ below (va_Qv post (zAt E A (fun v : S_X10 × S_MH => k_X10 E q v.1 ++ k_MH E q v.2)) A) args s 0 0 A) (F0 m 67 ls []) := by
  obtain ⟨hx, hb, hml, hr, hown, hts, hlocks, hin⟩ := id C0
  have hown : s.vm.findClass RX10 = some m.cls := hown
  obtain ⟨hin8, hw⟩ := hw
  have hi8 := zm_lt hin8
  obtain ⟨l1, l2, hr8, hn1, hn2⟩ := zp_range hi8
  refine lv_aload_n hx hb dX10_remember_67 rfl (lv_at hl 0 rfl) ?_
  refine va_get (D := zD E) (ci := 10) (v := .ref (q 2)) (C := RX10) (T := TX10) (N := 24) hx hb hts uw_X10 hown hK hP 0 rfl rfl 8 (by decide) (hts _ wm_5_124) (fun _ h9 => h9) rfl dX10_remember_68 ?_
  refine lv_aload_n hx hb dX10_remember_71 rfl (lv_at hl 0 rfl) ?_
  refine va_get (D := zD E) (ci := 10) (v := .ref (q 5)) (C := RX10) (T := TX10) (N := 24) hx hb hts uw_X10 hown hK hP 0 rfl rfl 11 (by decide) (hts _ wm_5_127) (fun _ h9 => h9) rfl dX10_remember_72 ?_
  refine lv_aload_n hx hb dX10_remember_75 rfl (lv_at hl 0 rfl) ?_
  refine va_get (D := zD E) (ci := 10) (v := .int u.2.2.2.2.2.2.2.2.2.2.2.2.2.1) (C := RX10) (T := TX10) (N := 24) hx hb hts uw_X10 hown hK hP 0 rfl rfl 15 (by decide) (hts _ wm_5_131) (fun _ h9 => h9) rfl dX10_remember_76 ?_
  refine z_aldG (v := q (100 + u.2.2.2.2.2.2.2.2.2.2.2.2.2.1.toNatClampNeg)) hx hb hK hP 10 5 rfl rfl hin8 (zm_at hi8 (fun i => q (100 + i))) dX10_remember_79 ?_
  refine z_cpI (R := r_X10_remember) hZ0 C0 rfl hK hZ hA hP hD hS hl.1 (zm_oA u h hr8) hw ⟨by decide, by decide⟩ (Nat.le_of_ble_eq_true rfl) ⟨by decide, by decide⟩ dX10_remember_80 (fun w H locs hw hP hD hS => ?_)
  have hpm : (([(q 2, .inl (E.2.2 0, 1728, .inl w.1)), (q (100 + u.2.2.2.2.2.2.2.2.2.2.2.2.2.1.toNatClampNeg), .inl (E.2.2 0, 1728, .inl w.2))] : va_W) ++ ((k_X10 E q u).take 2 ++ (((k_X10 E q u).drop 3 ++ k_M5 E q :: k_M8 E q :: l1.map (k_MI E q h.1)) ++ (l2.map (k_MI E q h.1) ++ (List.range 8).map (k_MJ E q h.2))))).Perm (k_X10 E q (u.1, u.2.1, u.2.2.1, u.2.2.2.1, u.2.2.2.2.1, u.2.2.2.2.2.1, u.2.2.2.2.2.2.1, u.2.2.2.2.2.2.2.1, w.1, u.2.2.2.2.2.2.2.2.2.1, u.2.2.2.2.2.2.2.2.2.2.1, u.2.2.2.2.2.2.2.2.2.2.2.1, u.2.2.2.2.2.2.2.2.2.2.2.2.1, u.2.2.2.2.2.2.2.2.2.2.2.2.2.1, u.2.2.2.2.2.2.2.2.2.2.2.2.2.2.1, u.2.2.2.2.2.2.2.2.2.2.2.2.2.2.2.1, u.2.2.2.2.2.2.2.2.2.2.2.2.2.2.2.2.1, u.2.2.2.2.2.2.2.2.2.2.2.2.2.2.2.2.2.1, u.2.2.2.2.2.2.2.2.2.2.2.2.2.2.2.2.2.2.1, u.2.2.2.2.2.2.2.2.2.2.2.2.2.2.2.2.2.2.2.1, u.2.2.2.2.2.2.2.2.2.2.2.2.2.2.2.2.2.2.2.2.1, u.2.2.2.2.2.2.2.2.2.2.2.2.2.2.2.2.2.2.2.2.2) ++ k_MH E q (va_up h.1 u.2.2.2.2.2.2.2.2.2.2.2.2.2.1.toNatClampNeg w.2, h.2)) := by
    have hh := zm_oA (E := E) (q := q) (u.1, u.2.1, u.2.2.1, u.2.2.2.1, u.2.2.2.2.1, u.2.2.2.2.2.1, u.2.2.2.2.2.2.1, u.2.2.2.2.2.2.2.1, w.1, u.2.2.2.2.2.2.2.2.2.1, u.2.2.2.2.2.2.2.2.2.2.1, u.2.2.2.2.2.2.2.2.2.2.2.1, u.2.2.2.2.2.2.2.2.2.2.2.2.1, u.2.2.2.2.2.2.2.2.2.2.2.2.2.1, u.2.2.2.2.2.2.2.2.2.2.2.2.2.2.1, u.2.2.2.2.2.2.2.2.2.2.2.2.2.2.2.1, u.2.2.2.2.2.2.2.2.2.2.2.2.2.2.2.2.1, u.2.2.2.2.2.2.2.2.2.2.2.2.2.2.2.2.2.1, u.2.2.2.2.2.2.2.2.2.2.2.2.2.2.2.2.2.2.1, u.2.2.2.2.2.2.2.2.2.2.2.2.2.2.2.2.2.2.2.1, u.2.2.2.2.2.2.2.2.2.2.2.2.2.2.2.2.2.2.2.2.1, u.2.2.2.2.2.2.2.2.2.2.2.2.2.2.2.2.2.2.2.2.2) (va_up h.1 u.2.2.2.2.2.2.2.2.2.2.2.2.2.1.toNatClampNeg w.2, h.2) hr8
    have e1 : k_MI E q ((va_up h.1 u.2.2.2.2.2.2.2.2.2.2.2.2.2.1.toNatClampNeg w.2, h.2) : S_MH).1 u.2.2.2.2.2.2.2.2.2.2.2.2.2.1.toNatClampNeg = (q (100 + u.2.2.2.2.2.2.2.2.2.2.2.2.2.1.toNatClampNeg), .inl (E.2.2 0, 1728, .inl w.2)) := by show ((q (100 + u.2.2.2.2.2.2.2.2.2.2.2.2.2.1.toNatClampNeg), .inl (E.2.2 0, 1728, .inl (va_up h.1 u.2.2.2.2.2.2.2.2.2.2.2.2.2.1.toNatClampNeg w.2 u.2.2.2.2.2.2.2.2.2.2.2.2.2.1.toNatClampNeg))) : Nat × va_E) = _; rw [va_up_self]
    rw [e1, show l1.map (k_MI E q ((va_up h.1 u.2.2.2.2.2.2.2.2.2.2.2.2.2.1.toNatClampNeg w.2, h.2) : S_MH).1) = l1.map (k_MI E q h.1) from zm_cI hn1, show l2.map (k_MI E q ((va_up h.1 u.2.2.2.2.2.2.2.2.2.2.2.2.2.1.toNatClampNeg w.2, h.2) : S_MH).1) = l2.map (k_MI E q h.1) from zm_cI hn2] at hh
    exact hh.symm
  have hP := zp_P hpm hP
  have hD := zp_D hpm hD
  refine lv_aload_n hx hb dX10_remember_83 rfl (lv_at hl 0 rfl) ?_
  refine va_get (D := zD E) (ci := 10) (v := .ref (q 6)) (C := RX10) (T := TX10) (N := 24) hx hb hts uw_X10 hown hK hP 0 rfl rfl 12 (by decide) (hts _ wm_5_128) (fun _ h9 => h9) rfl dX10_remember_84 ?_
  refine lv_aload_n hx hb dX10_remember_87 rfl (lv_at hl 0 rfl) ?_
  refine va_get (D := zD E) (ci := 10) (v := .ref (q 8)) (C := RX10) (T := TX10) (N := 24) hx hb hts uw_X10 hown hK hP 0 rfl rfl 14 (by decide) (hts _ wm_5_130) (fun _ h9 => h9) rfl dX10_remember_88 ?_
  refine lv_aload_n hx hb dX10_remember_91 rfl (lv_at hl 0 rfl) ?_
  refine va_get (D := zD E) (ci := 10) (v := .int u.2.2.2.2.2.2.2.2.2.2.2.2.2.1) (C := RX10) (T := TX10) (N := 24) hx hb hts uw_X10 hown hK hP 0 rfl rfl 15 (by decide) (hts _ wm_5_131) (fun _ h9 => h9) rfl dX10_remember_92 ?_
  refine z_aldG (v := q (200 + u.2.2.2.2.2.2.2.2.2.2.2.2.2.1.toNatClampNeg)) hx hb hK hP 11 6 rfl rfl hin8 (zm_at hi8 (fun i => q (200 + i))) dX10_remember_95 ?_
  refine z_cpJ (R := r_X10_remember) hZ0 C0 rfl hK hZ hA hP hD hS hl.1 (zm_oJ (u.1, u.2.1, u.2.2.1, u.2.2.2.1, u.2.2.2.2.1, u.2.2.2.2.2.1, u.2.2.2.2.2.2.1, u.2.2.2.2.2.2.2.1, w.1, u.2.2.2.2.2.2.2.2.2.1, u.2.2.2.2.2.2.2.2.2.2.1, u.2.2.2.2.2.2.2.2.2.2.2.1, u.2.2.2.2.2.2.2.2.2.2.2.2.1, u.2.2.2.2.2.2.2.2.2.2.2.2.2.1, u.2.2.2.2.2.2.2.2.2.2.2.2.2.2.1, u.2.2.2.2.2.2.2.2.2.2.2.2.2.2.2.1, u.2.2.2.2.2.2.2.2.2.2.2.2.2.2.2.2.1, u.2.2.2.2.2.2.2.2.2.2.2.2.2.2.2.2.2.1, u.2.2.2.2.2.2.2.2.2.2.2.2.2.2.2.2.2.2.1, u.2.2.2.2.2.2.2.2.2.2.2.2.2.2.2.2.2.2.2.1, u.2.2.2.2.2.2.2.2.2.2.2.2.2.2.2.2.2.2.2.2.1, u.2.2.2.2.2.2.2.2.2.2.2.2.2.2.2.2.2.2.2.2.2) (va_up h.1 u.2.2.2.2.2.2.2.2.2.2.2.2.2.1.toNatClampNeg w.2, h.2) hr8) hw ⟨by decide, by decide⟩ (Nat.le_of_ble_eq_true rfl) ⟨by decide, by decide⟩ dX10_remember_96 (fun v H locs hw hP hD hS => ?_)
  have hpm : (([(q 6, .inl (E.2.2 1, 40, .inr (.inl v.1))), (q (200 + u.2.2.2.2.2.2.2.2.2.2.2.2.2.1.toNatClampNeg), .inl (E.2.2 1, 40, .inr (.inl v.2)))] : va_W) ++ ((k_X10 E q (u.1, u.2.1, u.2.2.1, u.2.2.2.1, u.2.2.2.2.1, u.2.2.2.2.2.1, u.2.2.2.2.2.2.1, u.2.2.2.2.2.2.2.1, w.1, u.2.2.2.2.2.2.2.2.2.1, u.2.2.2.2.2.2.2.2.2.2.1, u.2.2.2.2.2.2.2.2.2.2.2.1, u.2.2.2.2.2.2.2.2.2.2.2.2.1, u.2.2.2.2.2.2.2.2.2.2.2.2.2.1, u.2.2.2.2.2.2.2.2.2.2.2.2.2.2.1, u.2.2.2.2.2.2.2.2.2.2.2.2.2.2.2.1, u.2.2.2.2.2.2.2.2.2.2.2.2.2.2.2.2.1, u.2.2.2.2.2.2.2.2.2.2.2.2.2.2.2.2.2.1, u.2.2.2.2.2.2.2.2.2.2.2.2.2.2.2.2.2.2.1, u.2.2.2.2.2.2.2.2.2.2.2.2.2.2.2.2.2.2.2.1, u.2.2.2.2.2.2.2.2.2.2.2.2.2.2.2.2.2.2.2.2.1, u.2.2.2.2.2.2.2.2.2.2.2.2.2.2.2.2.2.2.2.2.2)).take 5 ++ (((k_X10 E q (u.1, u.2.1, u.2.2.1, u.2.2.2.1, u.2.2.2.2.1, u.2.2.2.2.2.1, u.2.2.2.2.2.2.1, u.2.2.2.2.2.2.2.1, w.1, u.2.2.2.2.2.2.2.2.2.1, u.2.2.2.2.2.2.2.2.2.2.1, u.2.2.2.2.2.2.2.2.2.2.2.1, u.2.2.2.2.2.2.2.2.2.2.2.2.1, u.2.2.2.2.2.2.2.2.2.2.2.2.2.1, u.2.2.2.2.2.2.2.2.2.2.2.2.2.2.1, u.2.2.2.2.2.2.2.2.2.2.2.2.2.2.2.1, u.2.2.2.2.2.2.2.2.2.2.2.2.2.2.2.2.1, u.2.2.2.2.2.2.2.2.2.2.2.2.2.2.2.2.2.1, u.2.2.2.2.2.2.2.2.2.2.2.2.2.2.2.2.2.2.1, u.2.2.2.2.2.2.2.2.2.2.2.2.2.2.2.2.2.2.2.1, u.2.2.2.2.2.2.2.2.2.2.2.2.2.2.2.2.2.2.2.2.1, u.2.2.2.2.2.2.2.2.2.2.2.2.2.2.2.2.2.2.2.2.2)).drop 6 ++ k_M5 E q :: k_M8 E q :: ((List.range 8).map (k_MI E q ((va_up h.1 u.2.2.2.2.2.2.2.2.2.2.2.2.2.1.toNatClampNeg w.2, h.2) : S_MH).1) ++ l1.map (k_MJ E q h.2))) ++ l2.map (k_MJ E q h.2)))).Perm (k_X10 E q (u.1, u.2.1, u.2.2.1, u.2.2.2.1, u.2.2.2.2.1, u.2.2.2.2.2.1, u.2.2.2.2.2.2.1, u.2.2.2.2.2.2.2.1, w.1, u.2.2.2.2.2.2.2.2.2.1, u.2.2.2.2.2.2.2.2.2.2.1, v.1, u.2.2.2.2.2.2.2.2.2.2.2.2.1, u.2.2.2.2.2.2.2.2.2.2.2.2.2.1, u.2.2.2.2.2.2.2.2.2.2.2.2.2.2.1, u.2.2.2.2.2.2.2.2.2.2.2.2.2.2.2.1, u.2.2.2.2.2.2.2.2.2.2.2.2.2.2.2.2.1, u.2.2.2.2.2.2.2.2.2.2.2.2.2.2.2.2.2.1, u.2.2.2.2.2.2.2.2.2.2.2.2.2.2.2.2.2.2.1, u.2.2.2.2.2.2.2.2.2.2.2.2.2.2.2.2.2.2.2.1, u.2.2.2.2.2.2.2.2.2.2.2.2.2.2.2.2.2.2.2.2.1, u.2.2.2.2.2.2.2.2.2.2.2.2.2.2.2.2.2.2.2.2.2) ++ k_MH E q (va_up h.1 u.2.2.2.2.2.2.2.2.2.2.2.2.2.1.toNatClampNeg w.2, va_up h.2 u.2.2.2.2.2.2.2.2.2.2.2.2.2.1.toNatClampNeg v.2)) := by
    have hh := zm_oJ (E := E) (q := q) (u.1, u.2.1, u.2.2.1, u.2.2.2.1, u.2.2.2.2.1, u.2.2.2.2.2.1, u.2.2.2.2.2.2.1, u.2.2.2.2.2.2.2.1, w.1, u.2.2.2.2.2.2.2.2.2.1, u.2.2.2.2.2.2.2.2.2.2.1, v.1, u.2.2.2.2.2.2.2.2.2.2.2.2.1, u.2.2.2.2.2.2.2.2.2.2.2.2.2.1, u.2.2.2.2.2.2.2.2.2.2.2.2.2.2.1, u.2.2.2.2.2.2.2.2.2.2.2.2.2.2.2.1, u.2.2.2.2.2.2.2.2.2.2.2.2.2.2.2.2.1, u.2.2.2.2.2.2.2.2.2.2.2.2.2.2.2.2.2.1, u.2.2.2.2.2.2.2.2.2.2.2.2.2.2.2.2.2.2.1, u.2.2.2.2.2.2.2.2.2.2.2.2.2.2.2.2.2.2.2.1, u.2.2.2.2.2.2.2.2.2.2.2.2.2.2.2.2.2.2.2.2.1, u.2.2.2.2.2.2.2.2.2.2.2.2.2.2.2.2.2.2.2.2.2) (va_up h.1 u.2.2.2.2.2.2.2.2.2.2.2.2.2.1.toNatClampNeg w.2, va_up h.2 u.2.2.2.2.2.2.2.2.2.2.2.2.2.1.toNatClampNeg v.2) hr8
    have e1 : k_MJ E q ((va_up h.1 u.2.2.2.2.2.2.2.2.2.2.2.2.2.1.toNatClampNeg w.2, va_up h.2 u.2.2.2.2.2.2.2.2.2.2.2.2.2.1.toNatClampNeg v.2) : S_MH).2 u.2.2.2.2.2.2.2.2.2.2.2.2.2.1.toNatClampNeg = (q (200 + u.2.2.2.2.2.2.2.2.2.2.2.2.2.1.toNatClampNeg), .inl (E.2.2 1, 40, .inr (.inl v.2))) := by show ((q (200 + u.2.2.2.2.2.2.2.2.2.2.2.2.2.1.toNatClampNeg), .inl (E.2.2 1, 40, .inr (.inl (va_up h.2 u.2.2.2.2.2.2.2.2.2.2.2.2.2.1.toNatClampNeg v.2 u.2.2.2.2.2.2.2.2.2.2.2.2.2.1.toNatClampNeg)))) : Nat × va_E) = _; rw [va_up_self]
    rw [e1, show l1.map (k_MJ E q ((va_up h.1 u.2.2.2.2.2.2.2.2.2.2.2.2.2.1.toNatClampNeg w.2, va_up h.2 u.2.2.2.2.2.2.2.2.2.2.2.2.2.1.toNatClampNeg v.2) : S_MH).2) = l1.map (k_MJ E q h.2) from zm_cJ hn1, show l2.map (k_MJ E q ((va_up h.1 u.2.2.2.2.2.2.2.2.2.2.2.2.2.1.toNatClampNeg w.2, va_up h.2 u.2.2.2.2.2.2.2.2.2.2.2.2.2.1.toNatClampNeg v.2) : S_MH).2) = l2.map (k_MJ E q h.2) from zm_cJ hn2] at hh
    exact hh.symm
  have hP := zp_P hpm hP
  have hD := zp_D hpm hD
  refine lv_aload_n hx hb dX10_remember_99 rfl (lv_at hl 0 rfl) ?_
  refine lv_dup hx hb dX10_remember_100 rfl ?_
  refine va_get (D := zD E) (ci := 10) (v := .int u.2.2.2.2.2.2.2.2.2.2.2.2.2.1) (C := RX10) (T := TX10) (N := 24) hx hb hts uw_X10 hown hK hP 0 rfl rfl 15 (by decide) (hts _ wm_5_131) (fun _ h9 => h9) rfl dX10_remember_101 ?_
  refine lv_iconst (v := 1) hx hb dX10_remember_104 rfl ?_
  refine lv_iadd hx hb dX10_remember_105 ?_
  refine va_put (D := zD E) (ci := 10) (v := .int (u.2.2.2.2.2.2.2.2.2.2.2.2.2.1 + (1 : Int32))) (ty := .int) (C := RX10) (T := TX10) (N := 24) hx hb hts uw_X10 tyX10 tyX10_ok nmX10 hown hK hP hD hS 0 rfl rfl 15 (by decide) (hts _ wm_5_131) (fun _ h9 => h9) rfl (by decide +kernel) rfl rfl (Nat.le_of_ble_eq_true rfl) dX10_remember_106 (fun H locs hP hD hS => ?_)
  exact z_vret (k := (fun v : S_X10 × S_MH => k_X10 E q v.1 ++ k_MH E q v.2)) ((u.1, u.2.1, u.2.2.1, u.2.2.2.1, u.2.2.2.2.1, u.2.2.2.2.2.1, u.2.2.2.2.2.2.1, u.2.2.2.2.2.2.2.1, w.1, u.2.2.2.2.2.2.2.2.2.1, u.2.2.2.2.2.2.2.2.2.2.1, v.1, u.2.2.2.2.2.2.2.2.2.2.2.2.1, (u.2.2.2.2.2.2.2.2.2.2.2.2.2.1 + (1 : Int32)), u.2.2.2.2.2.2.2.2.2.2.2.2.2.2.1, u.2.2.2.2.2.2.2.2.2.2.2.2.2.2.2.1, u.2.2.2.2.2.2.2.2.2.2.2.2.2.2.2.2.1, u.2.2.2.2.2.2.2.2.2.2.2.2.2.2.2.2.2.1, u.2.2.2.2.2.2.2.2.2.2.2.2.2.2.2.2.2.2.1, u.2.2.2.2.2.2.2.2.2.2.2.2.2.2.2.2.2.2.2.1, u.2.2.2.2.2.2.2.2.2.2.2.2.2.2.2.2.2.2.2.2.1, u.2.2.2.2.2.2.2.2.2.2.2.2.2.2.2.2.2.2.2.2.2), (va_up h.1 u.2.2.2.2.2.2.2.2.2.2.2.2.2.1.toNatClampNeg w.2, va_up h.2 u.2.2.2.2.2.2.2.2.2.2.2.2.2.1.toNatClampNeg v.2)) C0 hP hD hS hw dX10_remember_109
theorem zm_lI {E : zE} {q : Nat → Nat} (u : S_X10) (h : S_MH) {i : Nat} {l1 l2 : List Nat} (hr : List.range 8 = l1 ++ i :: (i + 1) :: l2) : (k_X10 E q u ++ k_MH E q h).Perm ([k_MI E q h.1 (i + 1), k_MI E q h.1 i] ++ ((k_X10 E q u ++ k_M5 E q :: k_M8 E q :: l1.map (k_MI E q h.1)) ++ ([] ++ (l2.map (k_MI E q h.1) ++ (List.range 8).map (k_MJ E q h.2))))) := by
  show (k_X10 E q u ++ (k_M5 E q :: k_M8 E q :: ((List.range 8).map (k_MI E q h.1) ++ (List.range 8).map (k_MJ E q h.2)))).Perm _
  rw [hr, List.map_append, List.map_cons, List.map_cons, ← hr]
  exact (zm_pC (X := k_X10 E q u)).trans (List.Perm.swap _ _ _)
theorem zm_lJ {E : zE} {q : Nat → Nat} (u : S_X10) (h : S_MH) {i : Nat} {l1 l2 : List Nat} (hr : List.range 8 = l1 ++ i :: (i + 1) :: l2) : (k_X10 E q u ++ k_MH E q h).Perm ([k_MJ E q h.2 (i + 1), k_MJ E q h.2 i] ++ ((k_X10 E q u ++ k_M5 E q :: k_M8 E q :: ((List.range 8).map (k_MI E q h.1) ++ l1.map (k_MJ E q h.2))) ++ ([] ++ l2.map (k_MJ E q h.2)))) := by
  show (k_X10 E q u ++ (k_M5 E q :: k_M8 E q :: ((List.range 8).map (k_MI E q h.1) ++ (List.range 8).map (k_MJ E q h.2)))).Perm _
  rw [show (List.range 8).map (k_MJ E q h.2) = l1.map (k_MJ E q h.2) ++ k_MJ E q h.2 i :: k_MJ E q h.2 (i + 1) :: l2.map (k_MJ E q h.2) by rw [hr, List.map_append, List.map_cons, List.map_cons]]
  exact (zm_pD (X := k_X10 E q u)).trans (List.Perm.swap _ _ _)
theorem zm_sI {E : zE} {q : Nat → Nat} {h : Nat → Nat → Int32} {i : Nat} {r : Nat → Int32} : k_MI E q (va_up h i r) i = (q (100 + i), .inl (E.2.2 0, 1728, .inl r)) := by
  show ((q (100 + i), .inl (E.2.2 0, 1728, .inl (va_up h i r i))) : Nat × va_E) = _
  rw [va_up_self]
theorem zm_nI {E : zE} {q : Nat → Nat} {h : Nat → Nat → Int32} {i j : Nat} {r : Nat → Int32} (hj : j ≠ i) : k_MI E q (va_up h i r) j = k_MI E q h j := by
  show ((q (100 + j), .inl (E.2.2 0, 1728, .inl (va_up h i r j))) : Nat × va_E) = _
  rw [va_up_ne _ _ hj]
theorem zm_sJ {E : zE} {q : Nat → Nat} {h : Nat → Nat → Int64} {i : Nat} {r : Nat → Int64} : k_MJ E q (va_up h i r) i = (q (200 + i), .inl (E.2.2 1, 40, .inr (.inl r))) := by
  show ((q (200 + i), .inl (E.2.2 1, 40, .inr (.inl (va_up h i r i)))) : Nat × va_E) = _
  rw [va_up_self]
theorem zm_nJ {E : zE} {q : Nat → Nat} {h : Nat → Nat → Int64} {i j : Nat} {r : Nat → Int64} (hj : j ≠ i) : k_MJ E q (va_up h i r) j = k_MJ E q h j := by
  show ((q (200 + j), .inl (E.2.2 1, 40, .inr (.inl (va_up h i r j)))) : Nat × va_E) = _
  rw [va_up_ne _ _ hj]
/-- after a copy of row i + 1 to row i -/
theorem zm_bI {E : zE} {q : Nat → Nat} (u : S_X10) (h : S_MH) {i : Nat} {l1 l2 : List Nat} (hr : List.range 8 = l1 ++ i :: (i + 1) :: l2) (h1 : i ∉ l1) (h2 : i ∉ l2) (h3 : i + 1 ∉ l1) (h4 : i + 1 ∉ l2) (w : (Nat → Int32) × (Nat → Int32)) : (([(q (100 + (i + 1)), .inl (E.2.2 0, 1728, .inl w.1)), (q (100 + i), .inl (E.2.2 0, 1728, .inl w.2))] : va_W) ++ ((k_X10 E q u ++ k_M5 E q :: k_M8 E q :: l1.map (k_MI E q h.1)) ++ ([] ++ (l2.map (k_MI E q h.1) ++ (List.range 8).map (k_MJ E q h.2))))).Perm (k_X10 E q u ++ k_MH E q (va_up (va_up h.1 (i + 1) w.1) i w.2, h.2)) := by
  have hh := zm_lI (E := E) (q := q) u (va_up (va_up h.1 (i + 1) w.1) i w.2, h.2) hr
  rw [show k_MI E q ((va_up (va_up h.1 (i + 1) w.1) i w.2, h.2) : S_MH).1 i = _ from zm_sI, show k_MI E q ((va_up (va_up h.1 (i + 1) w.1) i w.2, h.2) : S_MH).1 (i + 1) = _ from (zm_nI (by omega)).trans zm_sI, show l1.map (k_MI E q ((va_up (va_up h.1 (i + 1) w.1) i w.2, h.2) : S_MH).1) = _ from (zm_cI h1).trans (zm_cI h3), show l2.map (k_MI E q ((va_up (va_up h.1 (i + 1) w.1) i w.2, h.2) : S_MH).1) = _ from (zm_cI h2).trans (zm_cI h4)] at hh
  exact hh.symm
theorem zm_bJ {E : zE} {q : Nat → Nat} (u : S_X10) (h : S_MH) {i : Nat} {l1 l2 : List Nat} (hr : List.range 8 = l1 ++ i :: (i + 1) :: l2) (h1 : i ∉ l1) (h2 : i ∉ l2) (h3 : i + 1 ∉ l1) (h4 : i + 1 ∉ l2) (w : (Nat → Int64) × (Nat → Int64)) : (([(q (200 + (i + 1)), .inl (E.2.2 1, 40, .inr (.inl w.1))), (q (200 + i), .inl (E.2.2 1, 40, .inr (.inl w.2)))] : va_W) ++ ((k_X10 E q u ++ k_M5 E q :: k_M8 E q :: ((List.range 8).map (k_MI E q h.1) ++ l1.map (k_MJ E q h.2))) ++ ([] ++ l2.map (k_MJ E q h.2)))).Perm (k_X10 E q u ++ k_MH E q (h.1, va_up (va_up h.2 (i + 1) w.1) i w.2)) := by
  have hh := zm_lJ (E := E) (q := q) u (h.1, va_up (va_up h.2 (i + 1) w.1) i w.2) hr
  rw [show k_MJ E q ((h.1, va_up (va_up h.2 (i + 1) w.1) i w.2) : S_MH).2 i = _ from zm_sJ, show k_MJ E q ((h.1, va_up (va_up h.2 (i + 1) w.1) i w.2) : S_MH).2 (i + 1) = _ from (zm_nJ (by omega)).trans zm_sJ, show l1.map (k_MJ E q ((h.1, va_up (va_up h.2 (i + 1) w.1) i w.2) : S_MH).2) = _ from (zm_cJ h1).trans (zm_cJ h3), show l2.map (k_MJ E q ((h.1, va_up (va_up h.2 (i + 1) w.1) i w.2) : S_MH).2) = _ from (zm_cJ h2).trans (zm_cJ h4)] at hh
  exact hh.symm
set_option maxHeartbeats 4000000 in
set_option maxRecDepth 100000 in
theorem t_X10_remember_11 {p : Program} {l : Launch} {e : Env} {s : State} {m : MethodId} {args : Array Value} {below : List Frame} {meth : Method} {c : Code} {Z : zZ} {E : zE} {A : Nat → Prop} {q : Nat → Nat} (hZ0 : zSt Z) (C0 : zC p s m args meth c yX10_remember cX10_remember 2 none) (hA : ∀ q : Nat, s.heap.size ≤ q → A q) (hK : va_K (zD E) vwCl (zT E) s) (hZ : Z A s s.heap) (post : S_X10 × S_MH → Prop) (u : S_X10) : ∀ (n : Nat) (x : Int32) (h : S_MH) (H : Heap) (locs : List Loc) (ls : Array Slot), zl (fun K st => wq_body K st.1 st.2 u post) n (x, h) → va_P (zD E) vwCl (k_X10 E q u ++ k_MH E q h) H → va_D A (k_X10 E q u ++ k_MH E q h) → va_S A s.heap H locs → lv_has ls 2 [(0, .ref (q 0)), (1, .int x)] → W p l e r_X10_remember s m args below meth c H locs 0 0 (MQ below (va_Qv post (zAt E A (fun v : S_X10 × S_MH => k_X10 E q v.1 ++ k_MH E q v.2)) A) args s 0 0 A) (F0 m 11 ls []) := by
  obtain ⟨hx, hb, hml, hr, hown, hts, hlocks, hin⟩ := id C0
  have hown : s.vm.findClass RX10 = some m.cls := hown
  intro n
  induction n with
  | zero => intro x h H locs ls hw; exact hw.elim
  | succ n ih =>
    intro x h H locs ls hw hP hD hS hl
    obtain ⟨hwt, hwf⟩ : wq_body _ x h u post := hw
    refine lv_iload_n hx hb dX10_remember_11 rfl (lv_at hl 1 rfl) ?_
    refine lv_bipush (v := 8) hx hb dX10_remember_12 rfl ?_
    refine lv_icmp_ge (tgt := 57) hx hb dX10_remember_14 (by decide) (fun c_1 => ?_) (fun c_1 => ?_)
    · have hw := hwt c_1
      refine lv_aload_n hx hb dX10_remember_57 rfl (lv_at hl 0 rfl) ?_
      refine lv_dup hx hb dX10_remember_58 rfl ?_
      refine va_get (D := zD E) (ci := 10) (v := .int u.2.2.2.2.2.2.2.2.2.2.2.2.2.1) (C := RX10) (T := TX10) (N := 24) hx hb hts uw_X10 hown hK hP 0 rfl rfl 15 (by decide) (hts _ wm_5_131) (fun _ h9 => h9) rfl dX10_remember_59 ?_
      refine lv_iconst (v := 1) hx hb dX10_remember_62 rfl ?_
      refine lv_isub hx hb dX10_remember_63 ?_
      refine va_put (D := zD E) (ci := 10) (v := .int (u.2.2.2.2.2.2.2.2.2.2.2.2.2.1 - (1 : Int32))) (ty := .int) (C := RX10) (T := TX10) (N := 24) hx hb hts uw_X10 tyX10 tyX10_ok nmX10 hown hK hP hD hS 0 rfl rfl 15 (by decide) (hts _ wm_5_131) (fun _ h9 => h9) rfl (by decide +kernel) rfl rfl (Nat.le_of_ble_eq_true rfl) dX10_remember_64 (fun H locs hP hD hS => ?_)
      exact t_X10_remember_67 hZ0 C0 hA hK hZ post (u.1, u.2.1, u.2.2.1, u.2.2.2.1, u.2.2.2.2.1, u.2.2.2.2.2.1, u.2.2.2.2.2.2.1, u.2.2.2.2.2.2.2.1, u.2.2.2.2.2.2.2.2.1, u.2.2.2.2.2.2.2.2.2.1, u.2.2.2.2.2.2.2.2.2.2.1, u.2.2.2.2.2.2.2.2.2.2.2.1, u.2.2.2.2.2.2.2.2.2.2.2.2.1, (u.2.2.2.2.2.2.2.2.2.2.2.2.2.1 - (1 : Int32)), u.2.2.2.2.2.2.2.2.2.2.2.2.2.2.1, u.2.2.2.2.2.2.2.2.2.2.2.2.2.2.2.1, u.2.2.2.2.2.2.2.2.2.2.2.2.2.2.2.2.1, u.2.2.2.2.2.2.2.2.2.2.2.2.2.2.2.2.2.1, u.2.2.2.2.2.2.2.2.2.2.2.2.2.2.2.2.2.2.1, u.2.2.2.2.2.2.2.2.2.2.2.2.2.2.2.2.2.2.2.1, u.2.2.2.2.2.2.2.2.2.2.2.2.2.2.2.2.2.2.2.2.1, u.2.2.2.2.2.2.2.2.2.2.2.2.2.2.2.2.2.2.2.2.2) h H locs ls hw hP hD hS (lv_sub hl [0] rfl)
    · obtain ⟨hi1, hi2, hw⟩ := hwf c_1
      obtain ⟨j, hj, e1, e2⟩ := zm_next hi1 hi2
      rw [e1, e2] at hw
      obtain ⟨l1, l2, hr8, n1, n2, n3, n4⟩ := zm_rng2 hj
      refine lv_aload_n hx hb dX10_remember_17 rfl (lv_at hl 0 rfl) ?_
      refine va_get (D := zD E) (ci := 10) (v := .ref (q 5)) (C := RX10) (T := TX10) (N := 24) hx hb hts uw_X10 hown hK hP 0 rfl rfl 11 (by decide) (hts _ wm_5_127) (fun _ h9 => h9) rfl dX10_remember_18 ?_
      refine lv_iload_n hx hb dX10_remember_21 rfl (lv_at hl 1 rfl) ?_
      refine z_aldG (v := q (100 + (j + 1))) hx hb hK hP 10 5 rfl rfl hi1 (by rw [e2]; exact zm_at (by omega) (fun i => q (100 + i))) dX10_remember_22 ?_
      refine lv_aload_n hx hb dX10_remember_23 rfl (lv_at hl 0 rfl) ?_
      refine va_get (D := zD E) (ci := 10) (v := .ref (q 5)) (C := RX10) (T := TX10) (N := 24) hx hb hts uw_X10 hown hK hP 0 rfl rfl 11 (by decide) (hts _ wm_5_127) (fun _ h9 => h9) rfl dX10_remember_24 ?_
      refine lv_iload_n hx hb dX10_remember_27 rfl (lv_at hl 1 rfl) ?_
      refine lv_iconst (v := 1) hx hb dX10_remember_28 rfl ?_
      refine lv_isub hx hb dX10_remember_29 ?_
      refine z_aldG (v := q (100 + j)) hx hb hK hP 10 5 rfl rfl hi2 (by rw [e1]; exact zm_at (by omega) (fun i => q (100 + i))) dX10_remember_30 ?_
      refine z_cpI (R := r_X10_remember) hZ0 C0 rfl hK hZ hA hP hD hS hl.1 (zm_lI u h hr8) hw ⟨by decide, by decide⟩ (Nat.le_of_ble_eq_true rfl) ⟨by decide, by decide⟩ dX10_remember_31 (fun w H locs hw hP hD hS => ?_)
      have hpm := zm_bI (E := E) (q := q) u h hr8 n1 n2 n3 n4 w
      have hP := zp_P hpm hP
      have hD := zp_D hpm hD
      refine lv_aload_n hx hb dX10_remember_34 rfl (lv_at hl 0 rfl) ?_
      refine va_get (D := zD E) (ci := 10) (v := .ref (q 8)) (C := RX10) (T := TX10) (N := 24) hx hb hts uw_X10 hown hK hP 0 rfl rfl 14 (by decide) (hts _ wm_5_130) (fun _ h9 => h9) rfl dX10_remember_35 ?_
      refine lv_iload_n hx hb dX10_remember_38 rfl (lv_at hl 1 rfl) ?_
      refine z_aldG (v := q (200 + (j + 1))) hx hb hK hP 11 6 rfl rfl hi1 (by rw [e2]; exact zm_at (by omega) (fun i => q (200 + i))) dX10_remember_39 ?_
      refine lv_aload_n hx hb dX10_remember_40 rfl (lv_at hl 0 rfl) ?_
      refine va_get (D := zD E) (ci := 10) (v := .ref (q 8)) (C := RX10) (T := TX10) (N := 24) hx hb hts uw_X10 hown hK hP 0 rfl rfl 14 (by decide) (hts _ wm_5_130) (fun _ h9 => h9) rfl dX10_remember_41 ?_
      refine lv_iload_n hx hb dX10_remember_44 rfl (lv_at hl 1 rfl) ?_
      refine lv_iconst (v := 1) hx hb dX10_remember_45 rfl ?_
      refine lv_isub hx hb dX10_remember_46 ?_
      refine z_aldG (v := q (200 + j)) hx hb hK hP 11 6 rfl rfl hi2 (by rw [e1]; exact zm_at (by omega) (fun i => q (200 + i))) dX10_remember_47 ?_
      refine z_cpJ (R := r_X10_remember) hZ0 C0 rfl hK hZ hA hP hD hS hl.1 (zm_lJ u (va_up (va_up h.1 (j + 1) w.1) j w.2, h.2) hr8) hw ⟨by decide, by decide⟩ (Nat.le_of_ble_eq_true rfl) ⟨by decide, by decide⟩ dX10_remember_48 (fun v H locs hw hP hD hS => ?_)
      have hpm := zm_bJ (E := E) (q := q) u (va_up (va_up h.1 (j + 1) w.1) j w.2, h.2) hr8 n1 n2 n3 n4 v
      have hP := zp_P hpm hP
      have hD := zp_D hpm hD
      refine lv_iinc (v := x + 1) (lv' := [(1, .int (x + 1)), (0, .ref (q 0))]) hx hb dX10_remember_51 hl (k := 1) rfl rfl (by decide) rfl (fun ls hl => ?_)
      refine lv_goto (tgt := 11) hx hb dX10_remember_54 (by decide) ?_
      exact ih (x + 1) (va_up (va_up h.1 (j + 1) w.1) j w.2, va_up (va_up h.2 (j + 1) v.1) j v.2) H locs ls hw hP hD hS (lv_sub hl [1, 0] rfl)
set_option maxHeartbeats 4000000 in
set_option maxRecDepth 100000 in
theorem c_X10_remember (l : Launch) (E : zE) (Z : zZ) (hZ0 : zSt Z) (q : Nat → Nat) (sz : Nat) (u : S_X10) (h : S_MH) (post : S_X10 × S_MH → Prop) (hw : wp_X10_remember u h post) : Met l yX10_remember (zws yX10_remember cX10_remember 2 none) r_X10_remember (va_Pc [.ref (q 0)] (zPre Z E (k_X10 E q u ++ k_MH E q h) sz)) (va_Qv post (zAt E (va_A (k_X10 E q u ++ k_MH E q h) sz) (fun v : S_X10 × S_MH => k_X10 E q v.1 ++ k_MH E q v.2)) (va_A (k_X10 E q u ++ k_MH E q h) sz)) 0 0 (va_A (k_X10 E q u ++ k_MH E q h) sz) := by
  refine z_ofW (Qf := fun A => va_Qv post (zAt E A (fun v : S_X10 × S_MH => k_X10 E q v.1 ++ k_MH E q v.2)) A) (by decide) (Nat.le_of_ble_eq_true rfl) ?_
  intro p e s m args below meth c A ls C0 hA hK hZ hP hD hS hl
  obtain ⟨hx, hb, hml, hr, hown, hts, hlocks, hin⟩ := id C0
  have hown : s.vm.findClass RX10 = some m.cls := hown
  have hl : lv_has ls 2 [(0, .ref (q 0))] := hl
  obtain ⟨hwt, hwf⟩ := hw
  refine lv_aload_n hx hb dX10_remember_0 rfl (lv_at hl 0 rfl) ?_
  refine va_get (D := zD E) (ci := 10) (v := .int u.2.2.2.2.2.2.2.2.2.2.2.2.2.1) (C := RX10) (T := TX10) (N := 24) hx hb hts uw_X10 hown hK hP 0 rfl rfl 15 (by decide) (hts _ wm_5_131) (fun _ h9 => h9) rfl dX10_remember_1 ?_
  refine lv_bipush (v := 8) hx hb dX10_remember_4 rfl ?_
  refine lv_icmp_ne (tgt := 67) hx hb dX10_remember_6 (by decide) (fun c_1 => ?_) (fun c_1 => ?_)
  · exact t_X10_remember_67 hZ0 C0 hA hK hZ post u h _ _ ls (hwt c_1) hP hD hS hl
  · obtain ⟨n9, hw⟩ := hwf c_1
    refine lv_iconst (v := 1) hx hb dX10_remember_9 rfl ?_
    refine lv_istore_n (lv' := [(1, .int (1 : Int32)), (0, .ref (q 0))]) hx hb dX10_remember_10 rfl hl (by decide) rfl (fun ls hl => ?_)
    exact t_X10_remember_11 hZ0 C0 hA hK hZ post u n9 (1 : Int32) h _ _ ls hw hP hD hS (lv_sub hl [1, 0] rfl)
theorem zm_oA' {E : zE} {q : Nat → Nat} (u : S_X10) (h : S_MH) {i : Nat} {l1 l2 : List Nat} (hr : List.range 8 = l1 ++ i :: l2) : (k_X10 E q u ++ k_MH E q h).Perm ([k_MI E q h.1 i, (q 2, .inl (E.2.2 0, 1728, .inl u.2.2.2.2.2.2.2.2.1))] ++ ((k_X10 E q u).take 2 ++ (((k_X10 E q u).drop 3 ++ k_M5 E q :: k_M8 E q :: l1.map (k_MI E q h.1)) ++ (l2.map (k_MI E q h.1) ++ (List.range 8).map (k_MJ E q h.2))))) := (zm_oA u h hr).trans (List.Perm.swap _ _ _)
theorem zm_oJ' {E : zE} {q : Nat → Nat} (u : S_X10) (h : S_MH) {i : Nat} {l1 l2 : List Nat} (hr : List.range 8 = l1 ++ i :: l2) : (k_X10 E q u ++ k_MH E q h).Perm ([k_MJ E q h.2 i, (q 6, .inl (E.2.2 1, 40, .inr (.inl u.2.2.2.2.2.2.2.2.2.2.2.1)))] ++ ((k_X10 E q u).take 5 ++ (((k_X10 E q u).drop 6 ++ k_M5 E q :: k_M8 E q :: ((List.range 8).map (k_MI E q h.1) ++ l1.map (k_MJ E q h.2))) ++ l2.map (k_MJ E q h.2)))) := (zm_oJ u h hr).trans (List.Perm.swap _ _ _)
theorem zm_eA {E : zE} {q : Nat → Nat} (u : S_X10) (h : S_MH) {i : Nat} {l1 l2 : List Nat} (hr : List.range 8 = l1 ++ i :: l2) (h1 : i ∉ l1) (h2 : i ∉ l2) (w : (Nat → Int32) × (Nat → Int32)) : (([(q (100 + i), .inl (E.2.2 0, 1728, .inl w.1)), (q 2, .inl (E.2.2 0, 1728, .inl w.2))] : va_W) ++ ((k_X10 E q u).take 2 ++ (((k_X10 E q u).drop 3 ++ k_M5 E q :: k_M8 E q :: l1.map (k_MI E q h.1)) ++ (l2.map (k_MI E q h.1) ++ (List.range 8).map (k_MJ E q h.2))))).Perm (k_X10 E q (u.1, u.2.1, u.2.2.1, u.2.2.2.1, u.2.2.2.2.1, u.2.2.2.2.2.1, u.2.2.2.2.2.2.1, u.2.2.2.2.2.2.2.1, w.2, u.2.2.2.2.2.2.2.2.2.1, u.2.2.2.2.2.2.2.2.2.2.1, u.2.2.2.2.2.2.2.2.2.2.2.1, u.2.2.2.2.2.2.2.2.2.2.2.2.1, u.2.2.2.2.2.2.2.2.2.2.2.2.2.1, u.2.2.2.2.2.2.2.2.2.2.2.2.2.2.1, u.2.2.2.2.2.2.2.2.2.2.2.2.2.2.2.1, u.2.2.2.2.2.2.2.2.2.2.2.2.2.2.2.2.1, u.2.2.2.2.2.2.2.2.2.2.2.2.2.2.2.2.2.1, u.2.2.2.2.2.2.2.2.2.2.2.2.2.2.2.2.2.2.1, u.2.2.2.2.2.2.2.2.2.2.2.2.2.2.2.2.2.2.2.1, u.2.2.2.2.2.2.2.2.2.2.2.2.2.2.2.2.2.2.2.2.1, u.2.2.2.2.2.2.2.2.2.2.2.2.2.2.2.2.2.2.2.2.2) ++ k_MH E q (va_up h.1 i w.1, h.2)) := by
  have hh := zm_oA' (E := E) (q := q) (u.1, u.2.1, u.2.2.1, u.2.2.2.1, u.2.2.2.2.1, u.2.2.2.2.2.1, u.2.2.2.2.2.2.1, u.2.2.2.2.2.2.2.1, w.2, u.2.2.2.2.2.2.2.2.2.1, u.2.2.2.2.2.2.2.2.2.2.1, u.2.2.2.2.2.2.2.2.2.2.2.1, u.2.2.2.2.2.2.2.2.2.2.2.2.1, u.2.2.2.2.2.2.2.2.2.2.2.2.2.1, u.2.2.2.2.2.2.2.2.2.2.2.2.2.2.1, u.2.2.2.2.2.2.2.2.2.2.2.2.2.2.2.1, u.2.2.2.2.2.2.2.2.2.2.2.2.2.2.2.2.1, u.2.2.2.2.2.2.2.2.2.2.2.2.2.2.2.2.2.1, u.2.2.2.2.2.2.2.2.2.2.2.2.2.2.2.2.2.2.1, u.2.2.2.2.2.2.2.2.2.2.2.2.2.2.2.2.2.2.2.1, u.2.2.2.2.2.2.2.2.2.2.2.2.2.2.2.2.2.2.2.2.1, u.2.2.2.2.2.2.2.2.2.2.2.2.2.2.2.2.2.2.2.2.2) (va_up h.1 i w.1, h.2) hr
  rw [show k_MI E q ((va_up h.1 i w.1, h.2) : S_MH).1 i = _ from zm_sI, show l1.map (k_MI E q ((va_up h.1 i w.1, h.2) : S_MH).1) = _ from zm_cI h1, show l2.map (k_MI E q ((va_up h.1 i w.1, h.2) : S_MH).1) = _ from zm_cI h2] at hh
  exact hh.symm
theorem zm_eJ {E : zE} {q : Nat → Nat} (u : S_X10) (h : S_MH) {i : Nat} {l1 l2 : List Nat} (hr : List.range 8 = l1 ++ i :: l2) (h1 : i ∉ l1) (h2 : i ∉ l2) (w : (Nat → Int64) × (Nat → Int64)) : (([(q (200 + i), .inl (E.2.2 1, 40, .inr (.inl w.1))), (q 6, .inl (E.2.2 1, 40, .inr (.inl w.2)))] : va_W) ++ ((k_X10 E q u).take 5 ++ (((k_X10 E q u).drop 6 ++ k_M5 E q :: k_M8 E q :: ((List.range 8).map (k_MI E q h.1) ++ l1.map (k_MJ E q h.2))) ++ l2.map (k_MJ E q h.2)))).Perm (k_X10 E q (u.1, u.2.1, u.2.2.1, u.2.2.2.1, u.2.2.2.2.1, u.2.2.2.2.2.1, u.2.2.2.2.2.2.1, u.2.2.2.2.2.2.2.1, u.2.2.2.2.2.2.2.2.1, u.2.2.2.2.2.2.2.2.2.1, u.2.2.2.2.2.2.2.2.2.2.1, w.2, u.2.2.2.2.2.2.2.2.2.2.2.2.1, u.2.2.2.2.2.2.2.2.2.2.2.2.2.1, u.2.2.2.2.2.2.2.2.2.2.2.2.2.2.1, u.2.2.2.2.2.2.2.2.2.2.2.2.2.2.2.1, u.2.2.2.2.2.2.2.2.2.2.2.2.2.2.2.2.1, u.2.2.2.2.2.2.2.2.2.2.2.2.2.2.2.2.2.1, u.2.2.2.2.2.2.2.2.2.2.2.2.2.2.2.2.2.2.1, u.2.2.2.2.2.2.2.2.2.2.2.2.2.2.2.2.2.2.2.1, u.2.2.2.2.2.2.2.2.2.2.2.2.2.2.2.2.2.2.2.2.1, u.2.2.2.2.2.2.2.2.2.2.2.2.2.2.2.2.2.2.2.2.2) ++ k_MH E q (h.1, va_up h.2 i w.1)) := by
  have hh := zm_oJ' (E := E) (q := q) (u.1, u.2.1, u.2.2.1, u.2.2.2.1, u.2.2.2.2.1, u.2.2.2.2.2.1, u.2.2.2.2.2.2.1, u.2.2.2.2.2.2.2.1, u.2.2.2.2.2.2.2.2.1, u.2.2.2.2.2.2.2.2.2.1, u.2.2.2.2.2.2.2.2.2.2.1, w.2, u.2.2.2.2.2.2.2.2.2.2.2.2.1, u.2.2.2.2.2.2.2.2.2.2.2.2.2.1, u.2.2.2.2.2.2.2.2.2.2.2.2.2.2.1, u.2.2.2.2.2.2.2.2.2.2.2.2.2.2.2.1, u.2.2.2.2.2.2.2.2.2.2.2.2.2.2.2.2.1, u.2.2.2.2.2.2.2.2.2.2.2.2.2.2.2.2.2.1, u.2.2.2.2.2.2.2.2.2.2.2.2.2.2.2.2.2.2.1, u.2.2.2.2.2.2.2.2.2.2.2.2.2.2.2.2.2.2.2.1, u.2.2.2.2.2.2.2.2.2.2.2.2.2.2.2.2.2.2.2.2.1, u.2.2.2.2.2.2.2.2.2.2.2.2.2.2.2.2.2.2.2.2.2) (h.1, va_up h.2 i w.1) hr
  rw [show k_MJ E q ((h.1, va_up h.2 i w.1) : S_MH).2 i = _ from zm_sJ, show l1.map (k_MJ E q ((h.1, va_up h.2 i w.1) : S_MH).2) = _ from zm_cJ h1, show l2.map (k_MJ E q ((h.1, va_up h.2 i w.1) : S_MH).2) = _ from zm_cJ h2] at hh
  exact hh.symm
abbrev r_X10_undo : Room := { frames := 2, cells := 0, slots := 0, locals := 60 }
def wp_X10_undo (u : S_X10) (h : S_MH) (post : Int32 → S_X10 × S_MH → Prop) : Prop := (u.2.2.2.2.2.2.2.2.2.2.2.2.2.1 = (0 : Int32) → post (-1 : Int32) (((0 : Int32), u.2.1, u.2.2.1, u.2.2.2.1, u.2.2.2.2.1, u.2.2.2.2.2.1, u.2.2.2.2.2.2.1, u.2.2.2.2.2.2.2.1, u.2.2.2.2.2.2.2.2.1, u.2.2.2.2.2.2.2.2.2.1, u.2.2.2.2.2.2.2.2.2.2.1, u.2.2.2.2.2.2.2.2.2.2.2.1, u.2.2.2.2.2.2.2.2.2.2.2.2.1, u.2.2.2.2.2.2.2.2.2.2.2.2.2.1, u.2.2.2.2.2.2.2.2.2.2.2.2.2.2.1, u.2.2.2.2.2.2.2.2.2.2.2.2.2.2.2.1, u.2.2.2.2.2.2.2.2.2.2.2.2.2.2.2.2.1, u.2.2.2.2.2.2.2.2.2.2.2.2.2.2.2.2.2.1, u.2.2.2.2.2.2.2.2.2.2.2.2.2.2.2.2.2.2.1, u.2.2.2.2.2.2.2.2.2.2.2.2.2.2.2.2.2.2.2.1, u.2.2.2.2.2.2.2.2.2.2.2.2.2.2.2.2.2.2.2.2.1, u.2.2.2.2.2.2.2.2.2.2.2.2.2.2.2.2.2.2.2.2.2), h)) ∧ (¬ u.2.2.2.2.2.2.2.2.2.2.2.2.2.1 = (0 : Int32) → vp_in (u.2.2.2.2.2.2.2.2.2.2.2.2.2.1 - (1 : Int32)) 8 ∧ wp_X10_copy (h.1 (u.2.2.2.2.2.2.2.2.2.2.2.2.2.1 - (1 : Int32)).toNatClampNeg) u.2.2.2.2.2.2.2.2.1 (fun w => wp_X10_copyLongs (h.2 (u.2.2.2.2.2.2.2.2.2.2.2.2.2.1 - (1 : Int32)).toNatClampNeg) u.2.2.2.2.2.2.2.2.2.2.2.1 (fun v => post (u.2.2.2.2.2.2.2.2.2.2.2.2.2.1 - (1 : Int32)) (((0 : Int32), u.2.1, u.2.2.1, u.2.2.2.1, u.2.2.2.2.1, u.2.2.2.2.2.1, u.2.2.2.2.2.2.1, u.2.2.2.2.2.2.2.1, w.2, u.2.2.2.2.2.2.2.2.2.1, u.2.2.2.2.2.2.2.2.2.2.1, v.2, u.2.2.2.2.2.2.2.2.2.2.2.2.1, (u.2.2.2.2.2.2.2.2.2.2.2.2.2.1 - (1 : Int32)), u.2.2.2.2.2.2.2.2.2.2.2.2.2.2.1, u.2.2.2.2.2.2.2.2.2.2.2.2.2.2.2.1, u.2.2.2.2.2.2.2.2.2.2.2.2.2.2.2.2.1, u.2.2.2.2.2.2.2.2.2.2.2.2.2.2.2.2.2.1, u.2.2.2.2.2.2.2.2.2.2.2.2.2.2.2.2.2.2.1, u.2.2.2.2.2.2.2.2.2.2.2.2.2.2.2.2.2.2.2.1, u.2.2.2.2.2.2.2.2.2.2.2.2.2.2.2.2.2.2.2.2.1, u.2.2.2.2.2.2.2.2.2.2.2.2.2.2.2.2.2.2.2.2.2), (va_up h.1 (u.2.2.2.2.2.2.2.2.2.2.2.2.2.1 - (1 : Int32)).toNatClampNeg w.1, va_up h.2 (u.2.2.2.2.2.2.2.2.2.2.2.2.2.1 - (1 : Int32)).toNatClampNeg v.1)))))
set_option maxHeartbeats 4000000 in
set_option maxRecDepth 100000 in
theorem c_X10_undo (l : Launch) (E : zE) (Z : zZ) (hZ0 : zSt Z) (q : Nat → Nat) (sz : Nat) (u : S_X10) (h : S_MH) (post : Int32 → S_X10 × S_MH → Prop) (hw : wp_X10_undo u h post) : Met l yX10_undo (zws yX10_undo cX10_undo 1 (some .int)) r_X10_undo (va_Pc [.ref (q 0)] (zPre Z E (k_X10 E q u ++ k_MH E q h) sz)) (va_Qi post (zAt E (va_A (k_X10 E q u ++ k_MH E q h) sz) (fun v : S_X10 × S_MH => k_X10 E q v.1 ++ k_MH E q v.2)) (va_A (k_X10 E q u ++ k_MH E q h) sz)) 0 0 (va_A (k_X10 E q u ++ k_MH E q h) sz) := by
  refine z_ofW (Qf := fun A => va_Qi post (zAt E A (fun v : S_X10 × S_MH => k_X10 E q v.1 ++ k_MH E q v.2)) A) (by decide) (Nat.le_of_ble_eq_true rfl) ?_
  intro p e s m args below meth c A ls C0 hA hK hZ hP hD hS hl
  obtain ⟨hx, hb, hml, hr, hown, hts, hlocks, hin⟩ := id C0
  have hown : s.vm.findClass RX10 = some m.cls := hown
  have hl : lv_has ls 1 [(0, .ref (q 0))] := hl
  obtain ⟨hwt, hwf⟩ := hw
  refine lv_aload_n hx hb dX10_undo_0 rfl (lv_at hl 0 rfl) ?_
  refine lv_iconst (v := 0) hx hb dX10_undo_1 rfl ?_
  refine va_put (D := zD E) (ci := 10) (v := .int (0 : Int32)) (ty := .int) (C := RX10) (T := TX10) (N := 24) hx hb hts uw_X10 tyX10 tyX10_ok nmX10 hown hK hP hD hS 0 rfl rfl 0 (by decide) (hts _ wm_5_116) (fun _ h9 => h9) rfl (by decide +kernel) rfl rfl (Nat.le_of_ble_eq_true rfl) dX10_undo_2 (fun H locs hP hD hS => ?_)
  have hP : va_P (zD E) vwCl (k_X10 E q ((0 : Int32), u.2.1, u.2.2.1, u.2.2.2.1, u.2.2.2.2.1, u.2.2.2.2.2.1, u.2.2.2.2.2.2.1, u.2.2.2.2.2.2.2.1, u.2.2.2.2.2.2.2.2.1, u.2.2.2.2.2.2.2.2.2.1, u.2.2.2.2.2.2.2.2.2.2.1, u.2.2.2.2.2.2.2.2.2.2.2.1, u.2.2.2.2.2.2.2.2.2.2.2.2.1, u.2.2.2.2.2.2.2.2.2.2.2.2.2.1, u.2.2.2.2.2.2.2.2.2.2.2.2.2.2.1, u.2.2.2.2.2.2.2.2.2.2.2.2.2.2.2.1, u.2.2.2.2.2.2.2.2.2.2.2.2.2.2.2.2.1, u.2.2.2.2.2.2.2.2.2.2.2.2.2.2.2.2.2.1, u.2.2.2.2.2.2.2.2.2.2.2.2.2.2.2.2.2.2.1, u.2.2.2.2.2.2.2.2.2.2.2.2.2.2.2.2.2.2.2.1, u.2.2.2.2.2.2.2.2.2.2.2.2.2.2.2.2.2.2.2.2.1, u.2.2.2.2.2.2.2.2.2.2.2.2.2.2.2.2.2.2.2.2.2) ++ k_MH E q h) H := hP
  have hD : va_D A (k_X10 E q ((0 : Int32), u.2.1, u.2.2.1, u.2.2.2.1, u.2.2.2.2.1, u.2.2.2.2.2.1, u.2.2.2.2.2.2.1, u.2.2.2.2.2.2.2.1, u.2.2.2.2.2.2.2.2.1, u.2.2.2.2.2.2.2.2.2.1, u.2.2.2.2.2.2.2.2.2.2.1, u.2.2.2.2.2.2.2.2.2.2.2.1, u.2.2.2.2.2.2.2.2.2.2.2.2.1, u.2.2.2.2.2.2.2.2.2.2.2.2.2.1, u.2.2.2.2.2.2.2.2.2.2.2.2.2.2.1, u.2.2.2.2.2.2.2.2.2.2.2.2.2.2.2.1, u.2.2.2.2.2.2.2.2.2.2.2.2.2.2.2.2.1, u.2.2.2.2.2.2.2.2.2.2.2.2.2.2.2.2.2.1, u.2.2.2.2.2.2.2.2.2.2.2.2.2.2.2.2.2.2.1, u.2.2.2.2.2.2.2.2.2.2.2.2.2.2.2.2.2.2.2.1, u.2.2.2.2.2.2.2.2.2.2.2.2.2.2.2.2.2.2.2.2.1, u.2.2.2.2.2.2.2.2.2.2.2.2.2.2.2.2.2.2.2.2.2) ++ k_MH E q h) := hD
  refine lv_aload_n hx hb dX10_undo_5 rfl (lv_at hl 0 rfl) ?_
  refine va_get (D := zD E) (ci := 10) (v := .int u.2.2.2.2.2.2.2.2.2.2.2.2.2.1) (C := RX10) (T := TX10) (N := 24) hx hb hts uw_X10 hown hK hP 0 rfl rfl 15 (by decide) (hts _ wm_5_131) (fun _ h9 => h9) rfl dX10_undo_6 ?_
  refine lv_if_ne (tgt := 14) hx hb dX10_undo_9 (by decide) (fun c_1 => ?_) (fun c_1 => ?_)
  · obtain ⟨hi2, hw⟩ := hwf c_1
    have hi8 := zm_lt hi2
    obtain ⟨l1, l2, hr8, hn1, hn2⟩ := zp_range hi8
    refine lv_aload_n hx hb dX10_undo_14 rfl (lv_at hl 0 rfl) ?_
    refine lv_dup hx hb dX10_undo_15 rfl ?_
    refine va_get (D := zD E) (ci := 10) (v := .int u.2.2.2.2.2.2.2.2.2.2.2.2.2.1) (C := RX10) (T := TX10) (N := 24) hx hb hts uw_X10 hown hK hP 0 rfl rfl 15 (by decide) (hts _ wm_5_131) (fun _ h9 => h9) rfl dX10_undo_16 ?_
    refine lv_iconst (v := 1) hx hb dX10_undo_19 rfl ?_
    refine lv_isub hx hb dX10_undo_20 ?_
    refine va_put (D := zD E) (ci := 10) (v := .int (u.2.2.2.2.2.2.2.2.2.2.2.2.2.1 - (1 : Int32))) (ty := .int) (C := RX10) (T := TX10) (N := 24) hx hb hts uw_X10 tyX10 tyX10_ok nmX10 hown hK hP hD hS 0 rfl rfl 15 (by decide) (hts _ wm_5_131) (fun _ h9 => h9) rfl (by decide +kernel) rfl rfl (Nat.le_of_ble_eq_true rfl) dX10_undo_21 (fun H locs hP hD hS => ?_)
    have hP : va_P (zD E) vwCl (k_X10 E q ((0 : Int32), u.2.1, u.2.2.1, u.2.2.2.1, u.2.2.2.2.1, u.2.2.2.2.2.1, u.2.2.2.2.2.2.1, u.2.2.2.2.2.2.2.1, u.2.2.2.2.2.2.2.2.1, u.2.2.2.2.2.2.2.2.2.1, u.2.2.2.2.2.2.2.2.2.2.1, u.2.2.2.2.2.2.2.2.2.2.2.1, u.2.2.2.2.2.2.2.2.2.2.2.2.1, (u.2.2.2.2.2.2.2.2.2.2.2.2.2.1 - (1 : Int32)), u.2.2.2.2.2.2.2.2.2.2.2.2.2.2.1, u.2.2.2.2.2.2.2.2.2.2.2.2.2.2.2.1, u.2.2.2.2.2.2.2.2.2.2.2.2.2.2.2.2.1, u.2.2.2.2.2.2.2.2.2.2.2.2.2.2.2.2.2.1, u.2.2.2.2.2.2.2.2.2.2.2.2.2.2.2.2.2.2.1, u.2.2.2.2.2.2.2.2.2.2.2.2.2.2.2.2.2.2.2.1, u.2.2.2.2.2.2.2.2.2.2.2.2.2.2.2.2.2.2.2.2.1, u.2.2.2.2.2.2.2.2.2.2.2.2.2.2.2.2.2.2.2.2.2) ++ k_MH E q h) H := hP
    have hD : va_D A (k_X10 E q ((0 : Int32), u.2.1, u.2.2.1, u.2.2.2.1, u.2.2.2.2.1, u.2.2.2.2.2.1, u.2.2.2.2.2.2.1, u.2.2.2.2.2.2.2.1, u.2.2.2.2.2.2.2.2.1, u.2.2.2.2.2.2.2.2.2.1, u.2.2.2.2.2.2.2.2.2.2.1, u.2.2.2.2.2.2.2.2.2.2.2.1, u.2.2.2.2.2.2.2.2.2.2.2.2.1, (u.2.2.2.2.2.2.2.2.2.2.2.2.2.1 - (1 : Int32)), u.2.2.2.2.2.2.2.2.2.2.2.2.2.2.1, u.2.2.2.2.2.2.2.2.2.2.2.2.2.2.2.1, u.2.2.2.2.2.2.2.2.2.2.2.2.2.2.2.2.1, u.2.2.2.2.2.2.2.2.2.2.2.2.2.2.2.2.2.1, u.2.2.2.2.2.2.2.2.2.2.2.2.2.2.2.2.2.2.1, u.2.2.2.2.2.2.2.2.2.2.2.2.2.2.2.2.2.2.2.1, u.2.2.2.2.2.2.2.2.2.2.2.2.2.2.2.2.2.2.2.2.1, u.2.2.2.2.2.2.2.2.2.2.2.2.2.2.2.2.2.2.2.2.2) ++ k_MH E q h) := hD
    refine lv_aload_n hx hb dX10_undo_24 rfl (lv_at hl 0 rfl) ?_
    refine va_get (D := zD E) (ci := 10) (v := .ref (q 5)) (C := RX10) (T := TX10) (N := 24) hx hb hts uw_X10 hown hK hP 0 rfl rfl 11 (by decide) (hts _ wm_5_127) (fun _ h9 => h9) rfl dX10_undo_25 ?_
    refine lv_aload_n hx hb dX10_undo_28 rfl (lv_at hl 0 rfl) ?_
    refine va_get (D := zD E) (ci := 10) (v := .int (u.2.2.2.2.2.2.2.2.2.2.2.2.2.1 - (1 : Int32))) (C := RX10) (T := TX10) (N := 24) hx hb hts uw_X10 hown hK hP 0 rfl rfl 15 (by decide) (hts _ wm_5_131) (fun _ h9 => h9) rfl dX10_undo_29 ?_
    refine z_aldG (v := q (100 + (u.2.2.2.2.2.2.2.2.2.2.2.2.2.1 - (1 : Int32)).toNatClampNeg)) hx hb hK hP 10 5 rfl rfl hi2 (zm_at hi8 (fun i => q (100 + i))) dX10_undo_32 ?_
    refine lv_aload_n hx hb dX10_undo_33 rfl (lv_at hl 0 rfl) ?_
    refine va_get (D := zD E) (ci := 10) (v := .ref (q 2)) (C := RX10) (T := TX10) (N := 24) hx hb hts uw_X10 hown hK hP 0 rfl rfl 8 (by decide) (hts _ wm_5_124) (fun _ h9 => h9) rfl dX10_undo_34 ?_
    refine z_cpI (R := r_X10_undo) hZ0 C0 rfl hK hZ hA hP hD hS hl.1 (zm_oA' ((0 : Int32), u.2.1, u.2.2.1, u.2.2.2.1, u.2.2.2.2.1, u.2.2.2.2.2.1, u.2.2.2.2.2.2.1, u.2.2.2.2.2.2.2.1, u.2.2.2.2.2.2.2.2.1, u.2.2.2.2.2.2.2.2.2.1, u.2.2.2.2.2.2.2.2.2.2.1, u.2.2.2.2.2.2.2.2.2.2.2.1, u.2.2.2.2.2.2.2.2.2.2.2.2.1, (u.2.2.2.2.2.2.2.2.2.2.2.2.2.1 - (1 : Int32)), u.2.2.2.2.2.2.2.2.2.2.2.2.2.2.1, u.2.2.2.2.2.2.2.2.2.2.2.2.2.2.2.1, u.2.2.2.2.2.2.2.2.2.2.2.2.2.2.2.2.1, u.2.2.2.2.2.2.2.2.2.2.2.2.2.2.2.2.2.1, u.2.2.2.2.2.2.2.2.2.2.2.2.2.2.2.2.2.2.1, u.2.2.2.2.2.2.2.2.2.2.2.2.2.2.2.2.2.2.2.1, u.2.2.2.2.2.2.2.2.2.2.2.2.2.2.2.2.2.2.2.2.1, u.2.2.2.2.2.2.2.2.2.2.2.2.2.2.2.2.2.2.2.2.2) h hr8) hw ⟨by decide, by decide⟩ (Nat.le_of_ble_eq_true rfl) ⟨by decide, by decide⟩ dX10_undo_37 (fun w H locs hw hP hD hS => ?_)
    have hpm := zm_eA (E := E) (q := q) ((0 : Int32), u.2.1, u.2.2.1, u.2.2.2.1, u.2.2.2.2.1, u.2.2.2.2.2.1, u.2.2.2.2.2.2.1, u.2.2.2.2.2.2.2.1, u.2.2.2.2.2.2.2.2.1, u.2.2.2.2.2.2.2.2.2.1, u.2.2.2.2.2.2.2.2.2.2.1, u.2.2.2.2.2.2.2.2.2.2.2.1, u.2.2.2.2.2.2.2.2.2.2.2.2.1, (u.2.2.2.2.2.2.2.2.2.2.2.2.2.1 - (1 : Int32)), u.2.2.2.2.2.2.2.2.2.2.2.2.2.2.1, u.2.2.2.2.2.2.2.2.2.2.2.2.2.2.2.1, u.2.2.2.2.2.2.2.2.2.2.2.2.2.2.2.2.1, u.2.2.2.2.2.2.2.2.2.2.2.2.2.2.2.2.2.1, u.2.2.2.2.2.2.2.2.2.2.2.2.2.2.2.2.2.2.1, u.2.2.2.2.2.2.2.2.2.2.2.2.2.2.2.2.2.2.2.1, u.2.2.2.2.2.2.2.2.2.2.2.2.2.2.2.2.2.2.2.2.1, u.2.2.2.2.2.2.2.2.2.2.2.2.2.2.2.2.2.2.2.2.2) h hr8 hn1 hn2 w
    have hP : va_P (zD E) vwCl (k_X10 E q ((0 : Int32), u.2.1, u.2.2.1, u.2.2.2.1, u.2.2.2.2.1, u.2.2.2.2.2.1, u.2.2.2.2.2.2.1, u.2.2.2.2.2.2.2.1, w.2, u.2.2.2.2.2.2.2.2.2.1, u.2.2.2.2.2.2.2.2.2.2.1, u.2.2.2.2.2.2.2.2.2.2.2.1, u.2.2.2.2.2.2.2.2.2.2.2.2.1, (u.2.2.2.2.2.2.2.2.2.2.2.2.2.1 - (1 : Int32)), u.2.2.2.2.2.2.2.2.2.2.2.2.2.2.1, u.2.2.2.2.2.2.2.2.2.2.2.2.2.2.2.1, u.2.2.2.2.2.2.2.2.2.2.2.2.2.2.2.2.1, u.2.2.2.2.2.2.2.2.2.2.2.2.2.2.2.2.2.1, u.2.2.2.2.2.2.2.2.2.2.2.2.2.2.2.2.2.2.1, u.2.2.2.2.2.2.2.2.2.2.2.2.2.2.2.2.2.2.2.1, u.2.2.2.2.2.2.2.2.2.2.2.2.2.2.2.2.2.2.2.2.1, u.2.2.2.2.2.2.2.2.2.2.2.2.2.2.2.2.2.2.2.2.2) ++ k_MH E q (va_up h.1 (u.2.2.2.2.2.2.2.2.2.2.2.2.2.1 - (1 : Int32)).toNatClampNeg w.1, h.2)) H := zp_P hpm hP
    have hD : va_D A (k_X10 E q ((0 : Int32), u.2.1, u.2.2.1, u.2.2.2.1, u.2.2.2.2.1, u.2.2.2.2.2.1, u.2.2.2.2.2.2.1, u.2.2.2.2.2.2.2.1, w.2, u.2.2.2.2.2.2.2.2.2.1, u.2.2.2.2.2.2.2.2.2.2.1, u.2.2.2.2.2.2.2.2.2.2.2.1, u.2.2.2.2.2.2.2.2.2.2.2.2.1, (u.2.2.2.2.2.2.2.2.2.2.2.2.2.1 - (1 : Int32)), u.2.2.2.2.2.2.2.2.2.2.2.2.2.2.1, u.2.2.2.2.2.2.2.2.2.2.2.2.2.2.2.1, u.2.2.2.2.2.2.2.2.2.2.2.2.2.2.2.2.1, u.2.2.2.2.2.2.2.2.2.2.2.2.2.2.2.2.2.1, u.2.2.2.2.2.2.2.2.2.2.2.2.2.2.2.2.2.2.1, u.2.2.2.2.2.2.2.2.2.2.2.2.2.2.2.2.2.2.2.1, u.2.2.2.2.2.2.2.2.2.2.2.2.2.2.2.2.2.2.2.2.1, u.2.2.2.2.2.2.2.2.2.2.2.2.2.2.2.2.2.2.2.2.2) ++ k_MH E q (va_up h.1 (u.2.2.2.2.2.2.2.2.2.2.2.2.2.1 - (1 : Int32)).toNatClampNeg w.1, h.2)) := zp_D hpm hD
    refine lv_aload_n hx hb dX10_undo_40 rfl (lv_at hl 0 rfl) ?_
    refine va_get (D := zD E) (ci := 10) (v := .ref (q 8)) (C := RX10) (T := TX10) (N := 24) hx hb hts uw_X10 hown hK hP 0 rfl rfl 14 (by decide) (hts _ wm_5_130) (fun _ h9 => h9) rfl dX10_undo_41 ?_
    refine lv_aload_n hx hb dX10_undo_44 rfl (lv_at hl 0 rfl) ?_
    refine va_get (D := zD E) (ci := 10) (v := .int (u.2.2.2.2.2.2.2.2.2.2.2.2.2.1 - (1 : Int32))) (C := RX10) (T := TX10) (N := 24) hx hb hts uw_X10 hown hK hP 0 rfl rfl 15 (by decide) (hts _ wm_5_131) (fun _ h9 => h9) rfl dX10_undo_45 ?_
    refine z_aldG (v := q (200 + (u.2.2.2.2.2.2.2.2.2.2.2.2.2.1 - (1 : Int32)).toNatClampNeg)) hx hb hK hP 11 6 rfl rfl hi2 (zm_at hi8 (fun i => q (200 + i))) dX10_undo_48 ?_
    refine lv_aload_n hx hb dX10_undo_49 rfl (lv_at hl 0 rfl) ?_
    refine va_get (D := zD E) (ci := 10) (v := .ref (q 6)) (C := RX10) (T := TX10) (N := 24) hx hb hts uw_X10 hown hK hP 0 rfl rfl 12 (by decide) (hts _ wm_5_128) (fun _ h9 => h9) rfl dX10_undo_50 ?_
    refine z_cpJ (R := r_X10_undo) hZ0 C0 rfl hK hZ hA hP hD hS hl.1 (zm_oJ' ((0 : Int32), u.2.1, u.2.2.1, u.2.2.2.1, u.2.2.2.2.1, u.2.2.2.2.2.1, u.2.2.2.2.2.2.1, u.2.2.2.2.2.2.2.1, w.2, u.2.2.2.2.2.2.2.2.2.1, u.2.2.2.2.2.2.2.2.2.2.1, u.2.2.2.2.2.2.2.2.2.2.2.1, u.2.2.2.2.2.2.2.2.2.2.2.2.1, (u.2.2.2.2.2.2.2.2.2.2.2.2.2.1 - (1 : Int32)), u.2.2.2.2.2.2.2.2.2.2.2.2.2.2.1, u.2.2.2.2.2.2.2.2.2.2.2.2.2.2.2.1, u.2.2.2.2.2.2.2.2.2.2.2.2.2.2.2.2.1, u.2.2.2.2.2.2.2.2.2.2.2.2.2.2.2.2.2.1, u.2.2.2.2.2.2.2.2.2.2.2.2.2.2.2.2.2.2.1, u.2.2.2.2.2.2.2.2.2.2.2.2.2.2.2.2.2.2.2.1, u.2.2.2.2.2.2.2.2.2.2.2.2.2.2.2.2.2.2.2.2.1, u.2.2.2.2.2.2.2.2.2.2.2.2.2.2.2.2.2.2.2.2.2) (va_up h.1 (u.2.2.2.2.2.2.2.2.2.2.2.2.2.1 - (1 : Int32)).toNatClampNeg w.1, h.2) hr8) hw ⟨by decide, by decide⟩ (Nat.le_of_ble_eq_true rfl) ⟨by decide, by decide⟩ dX10_undo_53 (fun v H locs hw hP hD hS => ?_)
    have hpm := zm_eJ (E := E) (q := q) ((0 : Int32), u.2.1, u.2.2.1, u.2.2.2.1, u.2.2.2.2.1, u.2.2.2.2.2.1, u.2.2.2.2.2.2.1, u.2.2.2.2.2.2.2.1, w.2, u.2.2.2.2.2.2.2.2.2.1, u.2.2.2.2.2.2.2.2.2.2.1, u.2.2.2.2.2.2.2.2.2.2.2.1, u.2.2.2.2.2.2.2.2.2.2.2.2.1, (u.2.2.2.2.2.2.2.2.2.2.2.2.2.1 - (1 : Int32)), u.2.2.2.2.2.2.2.2.2.2.2.2.2.2.1, u.2.2.2.2.2.2.2.2.2.2.2.2.2.2.2.1, u.2.2.2.2.2.2.2.2.2.2.2.2.2.2.2.2.1, u.2.2.2.2.2.2.2.2.2.2.2.2.2.2.2.2.2.1, u.2.2.2.2.2.2.2.2.2.2.2.2.2.2.2.2.2.2.1, u.2.2.2.2.2.2.2.2.2.2.2.2.2.2.2.2.2.2.2.1, u.2.2.2.2.2.2.2.2.2.2.2.2.2.2.2.2.2.2.2.2.1, u.2.2.2.2.2.2.2.2.2.2.2.2.2.2.2.2.2.2.2.2.2) (va_up h.1 (u.2.2.2.2.2.2.2.2.2.2.2.2.2.1 - (1 : Int32)).toNatClampNeg w.1, h.2) hr8 hn1 hn2 v
    have hP : va_P (zD E) vwCl (k_X10 E q ((0 : Int32), u.2.1, u.2.2.1, u.2.2.2.1, u.2.2.2.2.1, u.2.2.2.2.2.1, u.2.2.2.2.2.2.1, u.2.2.2.2.2.2.2.1, w.2, u.2.2.2.2.2.2.2.2.2.1, u.2.2.2.2.2.2.2.2.2.2.1, v.2, u.2.2.2.2.2.2.2.2.2.2.2.2.1, (u.2.2.2.2.2.2.2.2.2.2.2.2.2.1 - (1 : Int32)), u.2.2.2.2.2.2.2.2.2.2.2.2.2.2.1, u.2.2.2.2.2.2.2.2.2.2.2.2.2.2.2.1, u.2.2.2.2.2.2.2.2.2.2.2.2.2.2.2.2.1, u.2.2.2.2.2.2.2.2.2.2.2.2.2.2.2.2.2.1, u.2.2.2.2.2.2.2.2.2.2.2.2.2.2.2.2.2.2.1, u.2.2.2.2.2.2.2.2.2.2.2.2.2.2.2.2.2.2.2.1, u.2.2.2.2.2.2.2.2.2.2.2.2.2.2.2.2.2.2.2.2.1, u.2.2.2.2.2.2.2.2.2.2.2.2.2.2.2.2.2.2.2.2.2) ++ k_MH E q (va_up h.1 (u.2.2.2.2.2.2.2.2.2.2.2.2.2.1 - (1 : Int32)).toNatClampNeg w.1, va_up h.2 (u.2.2.2.2.2.2.2.2.2.2.2.2.2.1 - (1 : Int32)).toNatClampNeg v.1)) H := zp_P hpm hP
    have hD : va_D A (k_X10 E q ((0 : Int32), u.2.1, u.2.2.1, u.2.2.2.1, u.2.2.2.2.1, u.2.2.2.2.2.1, u.2.2.2.2.2.2.1, u.2.2.2.2.2.2.2.1, w.2, u.2.2.2.2.2.2.2.2.2.1, u.2.2.2.2.2.2.2.2.2.2.1, v.2, u.2.2.2.2.2.2.2.2.2.2.2.2.1, (u.2.2.2.2.2.2.2.2.2.2.2.2.2.1 - (1 : Int32)), u.2.2.2.2.2.2.2.2.2.2.2.2.2.2.1, u.2.2.2.2.2.2.2.2.2.2.2.2.2.2.2.1, u.2.2.2.2.2.2.2.2.2.2.2.2.2.2.2.2.1, u.2.2.2.2.2.2.2.2.2.2.2.2.2.2.2.2.2.1, u.2.2.2.2.2.2.2.2.2.2.2.2.2.2.2.2.2.2.1, u.2.2.2.2.2.2.2.2.2.2.2.2.2.2.2.2.2.2.2.1, u.2.2.2.2.2.2.2.2.2.2.2.2.2.2.2.2.2.2.2.2.1, u.2.2.2.2.2.2.2.2.2.2.2.2.2.2.2.2.2.2.2.2.2) ++ k_MH E q (va_up h.1 (u.2.2.2.2.2.2.2.2.2.2.2.2.2.1 - (1 : Int32)).toNatClampNeg w.1, va_up h.2 (u.2.2.2.2.2.2.2.2.2.2.2.2.2.1 - (1 : Int32)).toNatClampNeg v.1)) := zp_D hpm hD
    refine lv_aload_n hx hb dX10_undo_56 rfl (lv_at hl 0 rfl) ?_
    refine va_get (D := zD E) (ci := 10) (v := .int (u.2.2.2.2.2.2.2.2.2.2.2.2.2.1 - (1 : Int32))) (C := RX10) (T := TX10) (N := 24) hx hb hts uw_X10 hown hK hP 0 rfl rfl 15 (by decide) (hts _ wm_5_131) (fun _ h9 => h9) rfl dX10_undo_57 ?_
    exact z_iret (k := (fun v : S_X10 × S_MH => k_X10 E q v.1 ++ k_MH E q v.2)) (((0 : Int32), u.2.1, u.2.2.1, u.2.2.2.1, u.2.2.2.2.1, u.2.2.2.2.2.1, u.2.2.2.2.2.2.1, u.2.2.2.2.2.2.2.1, w.2, u.2.2.2.2.2.2.2.2.2.1, u.2.2.2.2.2.2.2.2.2.2.1, v.2, u.2.2.2.2.2.2.2.2.2.2.2.2.1, (u.2.2.2.2.2.2.2.2.2.2.2.2.2.1 - (1 : Int32)), u.2.2.2.2.2.2.2.2.2.2.2.2.2.2.1, u.2.2.2.2.2.2.2.2.2.2.2.2.2.2.2.1, u.2.2.2.2.2.2.2.2.2.2.2.2.2.2.2.2.1, u.2.2.2.2.2.2.2.2.2.2.2.2.2.2.2.2.2.1, u.2.2.2.2.2.2.2.2.2.2.2.2.2.2.2.2.2.2.1, u.2.2.2.2.2.2.2.2.2.2.2.2.2.2.2.2.2.2.2.1, u.2.2.2.2.2.2.2.2.2.2.2.2.2.2.2.2.2.2.2.2.1, u.2.2.2.2.2.2.2.2.2.2.2.2.2.2.2.2.2.2.2.2.2), (va_up h.1 (u.2.2.2.2.2.2.2.2.2.2.2.2.2.1 - (1 : Int32)).toNatClampNeg w.1, va_up h.2 (u.2.2.2.2.2.2.2.2.2.2.2.2.2.1 - (1 : Int32)).toNatClampNeg v.1)) C0 hP hD hS hw dX10_undo_60
  · have hw := hwt c_1
    refine lv_iconst (v := -1) hx hb dX10_undo_12 rfl ?_
    exact z_iret (k := (fun v : S_X10 × S_MH => k_X10 E q v.1 ++ k_MH E q v.2)) (((0 : Int32), u.2.1, u.2.2.1, u.2.2.2.1, u.2.2.2.2.1, u.2.2.2.2.2.1, u.2.2.2.2.2.2.1, u.2.2.2.2.2.2.2.1, u.2.2.2.2.2.2.2.2.1, u.2.2.2.2.2.2.2.2.2.1, u.2.2.2.2.2.2.2.2.2.2.1, u.2.2.2.2.2.2.2.2.2.2.2.1, u.2.2.2.2.2.2.2.2.2.2.2.2.1, u.2.2.2.2.2.2.2.2.2.2.2.2.2.1, u.2.2.2.2.2.2.2.2.2.2.2.2.2.2.1, u.2.2.2.2.2.2.2.2.2.2.2.2.2.2.2.1, u.2.2.2.2.2.2.2.2.2.2.2.2.2.2.2.2.1, u.2.2.2.2.2.2.2.2.2.2.2.2.2.2.2.2.2.1, u.2.2.2.2.2.2.2.2.2.2.2.2.2.2.2.2.2.2.1, u.2.2.2.2.2.2.2.2.2.2.2.2.2.2.2.2.2.2.2.1, u.2.2.2.2.2.2.2.2.2.2.2.2.2.2.2.2.2.2.2.2.1, u.2.2.2.2.2.2.2.2.2.2.2.2.2.2.2.2.2.2.2.2.2), h) C0 hP hD hS hw dX10_undo_13
