/-! History: keep and giveBack. -/
theorem zp_P {D : va_G} {cl : List vw_C} {w w' : va_W} {H : Heap} (h : w.Perm w') (hP : va_P D cl w H) : va_P D cl w' H := by
  intro k q hk
  obtain ⟨i, hi⟩ := List.getElem?_of_mem (h.mem_iff.mpr (List.mem_of_getElem? hk))
  exact hP i q hi
theorem zp_pw {A : Nat → Prop} {w : va_W} : va_D A w ↔ w.Pairwise (fun p q => p.1 ≠ q.1) ∧ ∀ q ∈ w, A q.1 := by
  constructor
  · intro h
    refine ⟨List.pairwise_iff_getElem.mpr (fun i j hi hj hij e => ?_), fun q hq => ?_⟩
    · have := h.1 i j w[i] w[j] (List.getElem?_eq_getElem hi) (List.getElem?_eq_getElem hj) e
      omega
    · obtain ⟨i, hi⟩ := List.getElem?_of_mem hq
      exact h.2 i q hi
  · intro h
    refine ⟨fun i j p q hi hj e => ?_, fun k q hk => h.2 q (List.mem_of_getElem? hk)⟩
    obtain ⟨li, ei⟩ := List.getElem?_eq_some_iff.mp hi
    obtain ⟨lj, ej⟩ := List.getElem?_eq_some_iff.mp hj
    rcases Nat.lt_trichotomy i j with h9 | h9 | h9
    · exact absurd (by rw [ei, ej]; exact e) (List.pairwise_iff_getElem.mp h.1 i j li lj h9)
    · exact h9
    · exact absurd (by rw [ei, ej]; exact e.symm) (List.pairwise_iff_getElem.mp h.1 j i lj li h9)
theorem zp_D {A : Nat → Prop} {w w' : va_W} (h : w.Perm w') (hD : va_D A w) : va_D A w' := by
  rw [zp_pw] at hD ⊢
  exact ⟨(h.pairwise_iff (fun h9 => Ne.symm h9)).mp hD.1, fun q hq => hD.2 q (h.mem_iff.mpr hq)⟩
/-- one of the kept, taken out of the rest -/
theorem zp_range {i : Nat} (hi : i < 8) : ∃ l1 l2 : List Nat, List.range 8 = l1 ++ i :: l2 ∧ i ∉ l1 ∧ i ∉ l2 := by
  have key : ∀ j : Fin 8, ∃ l1 l2 : List Nat, List.range 8 = l1 ++ j.val :: l2 ∧ j.val ∉ l1 ∧ j.val ∉ l2 := by
    intro j
    refine ⟨(List.range 8).take j.val, (List.range 8).drop (j.val + 1), ?_, ?_, ?_⟩ <;> revert j <;> decide
  exact key ⟨i, hi⟩
theorem zp_cong {E : zE} {u v : S_H} {i : Nat} {l : List Nat} (h : i ∉ l) (huv : ∀ j, j ≠ i → u j = v j) : l.flatMap (k_Hs E u) = l.flatMap (k_Hs E v) := by
  induction l with
  | nil => rfl
  | cons a l ih =>
    have h1 : a ≠ i := fun e => h (by rw [e]; exact List.mem_cons_self)
    rw [List.flatMap_cons, List.flatMap_cons, ih (fun h9 => h (List.mem_cons_of_mem _ h9))]
    have : k_Hs E u a = k_Hs E v a := by unfold k_Hs; rw [huv a h1]
    rw [this]
theorem zp_out {X M F1 F2 : va_W} {kc : Nat × va_E} : (X ++ (kc :: (F1 ++ (M ++ F2)))).Perm ((X ++ M) ++ (kc :: (F1 ++ F2))) := by
  rw [List.append_assoc]
  exact List.Perm.append_left X (List.perm_append_comm_assoc (kc :: F1) M F2)
theorem zp_push {X Y w kc pl : va_W} : (((X ++ Y) ++ (kc ++ pl)) ++ w).Perm ((X ++ (Y ++ w)) ++ (kc ++ pl)) := by
  have h2 : ((X ++ Y) ++ ((kc ++ pl) ++ w)).Perm ((X ++ Y) ++ (w ++ (kc ++ pl))) := List.Perm.append_left _ List.perm_append_comm
  have e1 : ((X ++ Y) ++ (kc ++ pl)) ++ w = (X ++ Y) ++ ((kc ++ pl) ++ w) := List.append_assoc _ _ _
  have e2 : (X ++ (Y ++ w)) ++ (kc ++ pl) = (X ++ Y) ++ (w ++ (kc ++ pl)) := by simp only [List.append_assoc]
  rw [e1, e2]
  exact h2
theorem zp_rf {u : S_H} {i : Nat} {z : Nat → Nat} {c w : S_X2} (h : u i = some (z, c)) : (fun j => (va_up u i (some (z, w)) j).map (fun z => z.1 0)) = fun j => (u j).map (fun z => z.1 0) := by
  funext j
  by_cases e : j = i
  · subst e; rw [va_up_self, h]; rfl
  · rw [va_up_ne _ _ e]
theorem zp_rfn {u : S_H} {i : Nat} {z : Nat → Nat} {w : S_X2} : (fun j => (va_up u i (some (z, w)) j).map (fun z => z.1 0)) = va_up (fun j => (u j).map (fun z => z.1 0)) i (some (z 0)) := by
  funext j
  by_cases e : j = i
  · subst e; rw [va_up_self, va_up_self]; rfl
  · rw [va_up_ne _ _ e, va_up_ne _ _ e]
abbrev r_X4_keep : Room := { frames := 8, cells := 18, slots := 445, locals := 300 }
def wp_X4_keep (u0 : S_X4) (u1 : S_X2) (u2 : S_H) (post : S_X4 × S_X2 × S_H → Prop) : Prop := vp_in u0.1 8 ∧ (∀ (z : Nat → Nat) (c : S_X2), (u2 u0.1.toNatClampNeg = some (z, c) ∨ (u2 u0.1.toNatClampNeg = none ∧ c = i_X2)) → wp_X2_copyFrom c u1 (fun w => post (((u0.1 + (1 : Int32)) - (u0.1 + (1 : Int32)) / (8 : Int32) * (8 : Int32), if (8 : Int32) < u0.2 + (1 : Int32) then (8 : Int32) else u0.2 + (1 : Int32)), w.2, va_up u2 u0.1.toNatClampNeg (some (z, w.1)))))
set_option maxHeartbeats 4000000 in
set_option maxRecDepth 100000 in
theorem t_X4_keep_32 {p : Program} {l : Launch} {e : Env} {s : State} {m : MethodId} {args : Array Value} {below : List Frame} {meth : Method} {c : Code} {Z : zZ} {E : zE} {A : Nat → Prop} {q0 q1 z : Nat → Nat} {locs : List Loc} {ls : Array Slot} {H : Heap} {cells slots : Nat} (hcs : cells ≤ 18 ∧ slots ≤ 445) (hZ0 : zSt Z) (C0 : zC p s m args meth c yX4_keep cX4_keep 3 none) (hA : ∀ q : Nat, s.heap.size ≤ q → A q) (hK : va_K (zD E) vwCl (zT E) s) (hZ : Z A s s.heap) (u0 : S_X4) (u1 cs : S_X2) (u2 : S_H) (post : S_X4 × S_X2 × S_H → Prop) {pl : va_W}
    (hw : wp_X2_copyFrom cs u1 (fun w => post (((u0.1 + (1 : Int32)) - (u0.1 + (1 : Int32)) / (8 : Int32) * (8 : Int32), if (8 : Int32) < u0.2 + (1 : Int32) then (8 : Int32) else u0.2 + (1 : Int32)), w.2, va_up u2 u0.1.toNatClampNeg (some (z, w.1)))))
    (hfin : ∀ (v : S_X4) (w : S_X2 × S_X2), ((k_X4 E q0 v ++ (k_X2 E q1 w.2 ++ k_X2 E z w.1)) ++ pl).Perm ((k_X4 E q0 v ++ k_X2 E q1 w.2) ++ k_H E (fun k => q0 (k + 1)) (va_up u2 u0.1.toNatClampNeg (some (z, w.1)))))
    (hP : va_P (zD E) vwCl ((k_X4 E q0 u0 ++ (k_X2 E q1 u1 ++ k_X2 E z cs)) ++ pl) H) (hD : va_D A ((k_X4 E q0 u0 ++ (k_X2 E q1 u1 ++ k_X2 E z cs)) ++ pl)) (hS : va_S A s.heap H locs) (hl : lv_has ls 3 [(2, .ref (z 0)), (0, .ref (q0 0)), (1, .ref (q1 0))]) :
    W p l e r_X4_keep s m args below meth c H locs cells slots (MQ below (va_Qv post (zAt E A (fun u => (k_X4 E q0 u.1 ++ k_X2 E q1 u.2.1) ++ k_H E (fun k => q0 (k + 1)) u.2.2)) A) args s 18 445 A) (F0 m 32 ls []) := by
  obtain ⟨hx, hb, hml, hr, hown, hts, hlocks, hin⟩ := id C0
  have hown : s.vm.findClass RX4 = some m.cls := hown
  refine W.widen (k := 18) (n := 445) hcs.1 hcs.2 ?_
  refine lv_aload_n hx hb dX4_keep_32 rfl (lv_at hl 0 rfl) ?_
  refine lv_aload_n hx hb dX4_keep_33 rfl (lv_at hl 2 rfl) ?_
  have hF := va_free (wc := k_X2 E z cs ++ k_X2 E q1 u1) hD hS hA [19, 20, 21, 22, 23, 24, 25, 26, 27, 28, 29, 30, 31, 32, 33, 34, 35, 36, 1, 2, 3, 4, 5, 6, 7, 8, 9, 10, 11, 12, 13, 14, 15, 16, 17, 18] rfl
  refine z_gkv (z_gN (rest := []) hZ0 C0 hK hP hl.1 (c_X2_copyFrom l E Z hZ0 z q1 H.size cs u1 _ hw) yv_X4_25 (z_preQ hZ0 hK hZ hP hD hS hA [19, 20, 21, 22, 23, 24, 25, 26, 27, 28, 29, 30, 31, 32, 33, 34, 35, 36, 1, 2, 3, 4, 5, 6, 7, 8, 9, 10, 11, 12, 13, 14, 15, 16, 17, 18] rfl (by decide)) (ci := 2) rfl rfl 19 rfl ⟨by decide, by decide⟩ ⟨rfl, rfl⟩ rfl rfl (Nat.le_of_ble_eq_true rfl) ⟨by decide, by decide⟩ dX4_keep_34) hS hF (fun w => (k_X4 E q0 u0 ++ (k_X2 E q1 w.2 ++ k_X2 E z w.1)) ++ pl) (fun w H1 hk b1 b2 => z_backQ hP hD hS hA [19, 20, 21, 22, 23, 24, 25, 26, 27, 28, 29, 30, 31, 32, 33, 34, 35, 36, 1, 2, 3, 4, 5, 6, 7, 8, 9, 10, 11, 12, 13, 14, 15, 16, 17, 18] [0] [0, 19, 20, 21, 22, 23, 24, 25, 26, 27, 28, 29, 30, 31, 32, 33, 34, 35, 36, 1, 2, 3, 4, 5, 6, 7, 8, 9, 10, 11, 12, 13, 14, 15, 16, 17, 18] rfl (wr := [_]) rfl (by decide) (by decide) hF hk b1 b2 rfl (by decide)) (fun w H locs hw hP hD hS => ?_)
  refine lv_aload_n hx hb dX4_keep_37 rfl (lv_at hl 1 rfl) ?_
  refine lv_aload_n hx hb dX4_keep_38 rfl (lv_at hl 1 rfl) ?_
  refine va_get (D := zD E) (ci := 4) (v := .int u0.1) (C := RX4) (T := TX4) (N := 3) hx hb hts uw_X4 hown hK hP 0 rfl rfl 1 (by decide) (hts _ wm_1_223) (fun _ h9 => h9) rfl dX4_keep_39 ?_
  refine lv_iconst (v := 1) hx hb dX4_keep_42 rfl ?_
  refine lv_iadd hx hb dX4_keep_43 ?_
  refine lv_bipush (v := 8) hx hb dX4_keep_44 rfl ?_
  refine lv_irem hx hb dX4_keep_46 (by decide) ?_
  refine va_put (D := zD E) (ci := 4) (v := .int ((u0.1 + (1 : Int32)) - (u0.1 + (1 : Int32)) / (8 : Int32) * (8 : Int32))) (ty := .int) (C := RX4) (T := TX4) (N := 3) hx hb hts uw_X4 tyX4 tyX4_ok nmX4 hown hK hP hD hS 0 rfl rfl 1 (by decide) (hts _ wm_1_223) (fun _ h9 => h9) rfl (by decide +kernel) rfl rfl (Nat.le_of_ble_eq_true rfl) dX4_keep_47 (fun H locs hP hD hS => ?_)
  have hP : va_P (zD E) vwCl ((k_X4 E q0 ((u0.1 + (1 : Int32)) - (u0.1 + (1 : Int32)) / (8 : Int32) * (8 : Int32), u0.2) ++ (k_X2 E q1 w.2 ++ k_X2 E z w.1)) ++ pl) H := hP
  have hD : va_D A ((k_X4 E q0 ((u0.1 + (1 : Int32)) - (u0.1 + (1 : Int32)) / (8 : Int32) * (8 : Int32), u0.2) ++ (k_X2 E q1 w.2 ++ k_X2 E z w.1)) ++ pl) := hD
  refine lv_aload_n hx hb dX4_keep_50 rfl (lv_at hl 1 rfl) ?_
  refine lv_aload_n hx hb dX4_keep_51 rfl (lv_at hl 1 rfl) ?_
  refine va_get (D := zD E) (ci := 4) (v := .int u0.2) (C := RX4) (T := TX4) (N := 3) hx hb hts uw_X4 hown hK hP 0 rfl rfl 2 (by decide) (hts _ wm_1_224) (fun _ h9 => h9) rfl dX4_keep_52 ?_
  refine lv_iconst (v := 1) hx hb dX4_keep_55 rfl ?_
  refine lv_iadd hx hb dX4_keep_56 ?_
  refine lv_bipush (v := 8) hx hb dX4_keep_57 rfl ?_
  refine va_mmin hx hb (hml.trans hl.1.symm) hown (hts _ wm_4_81) (hts _ wm_2_184) (hts _ wm_1_16) (hts _ wm_2_185) (Nat.le_of_ble_eq_true rfl) (Nat.le_of_ble_eq_true rfl) (Nat.le_of_ble_eq_true rfl) (Nat.le_of_ble_eq_true rfl) dX4_keep_59 ?_
  refine va_put (D := zD E) (ci := 4) (v := .int (if (8 : Int32) < u0.2 + (1 : Int32) then (8 : Int32) else u0.2 + (1 : Int32))) (ty := .int) (C := RX4) (T := TX4) (N := 3) hx hb hts uw_X4 tyX4 tyX4_ok nmX4 hown hK hP hD hS 0 rfl rfl 2 (by decide) (hts _ wm_1_224) (fun _ h9 => h9) rfl (by decide +kernel) rfl rfl (Nat.le_of_ble_eq_true rfl) dX4_keep_62 (fun H locs hP hD hS => ?_)
  have hP : va_P (zD E) vwCl ((k_X4 E q0 ((u0.1 + (1 : Int32)) - (u0.1 + (1 : Int32)) / (8 : Int32) * (8 : Int32), if (8 : Int32) < u0.2 + (1 : Int32) then (8 : Int32) else u0.2 + (1 : Int32)) ++ (k_X2 E q1 w.2 ++ k_X2 E z w.1)) ++ pl) H := hP
  have hD : va_D A ((k_X4 E q0 ((u0.1 + (1 : Int32)) - (u0.1 + (1 : Int32)) / (8 : Int32) * (8 : Int32), if (8 : Int32) < u0.2 + (1 : Int32) then (8 : Int32) else u0.2 + (1 : Int32)) ++ (k_X2 E q1 w.2 ++ k_X2 E z w.1)) ++ pl) := hD
  exact z_vret (k := fun u => (k_X4 E q0 u.1 ++ k_X2 E q1 u.2.1) ++ k_H E (fun k => q0 (k + 1)) u.2.2) _ C0 (zp_P (hfin _ w) hP) (zp_D (hfin _ w) hD) hS hw dX4_keep_65
set_option maxHeartbeats 4000000 in
set_option maxRecDepth 100000 in
theorem c_X4_keep (l : Launch) (E : zE) (Z : zZ) (hZ0 : zSt Z) (q0 q1 : Nat → Nat) (sz : Nat) (u0 : S_X4) (u1 : S_X2) (u2 : S_H) (post : S_X4 × S_X2 × S_H → Prop) (hw : wp_X4_keep u0 u1 u2 post) : Met l yX4_keep (zws yX4_keep cX4_keep 3 none) r_X4_keep (va_Pc [.ref (q0 0), .ref (q1 0)] (zPre Z E ((k_X4 E q0 u0 ++ k_X2 E q1 u1) ++ k_H E (fun k => q0 (k + 1)) u2) sz)) (va_Qv post (zAt E (va_A ((k_X4 E q0 u0 ++ k_X2 E q1 u1) ++ k_H E (fun k => q0 (k + 1)) u2) sz) (fun u => (k_X4 E q0 u.1 ++ k_X2 E q1 u.2.1) ++ k_H E (fun k => q0 (k + 1)) u.2.2)) (va_A ((k_X4 E q0 u0 ++ k_X2 E q1 u1) ++ k_H E (fun k => q0 (k + 1)) u2) sz)) 18 445 (va_A ((k_X4 E q0 u0 ++ k_X2 E q1 u1) ++ k_H E (fun k => q0 (k + 1)) u2) sz) := by
  refine z_ofW (Qf := fun A => va_Qv post (zAt E A (fun u => (k_X4 E q0 u.1 ++ k_X2 E q1 u.2.1) ++ k_H E (fun k => q0 (k + 1)) u.2.2)) A) (by decide) (Nat.le_of_ble_eq_true rfl) ?_
  intro p e s m args below meth c A ls C0 hA hK hZ hP hD hS hl
  obtain ⟨hx, hb, hml, hr, hown, hts, hlocks, hin⟩ := id C0
  have hown : s.vm.findClass RX4 = some m.cls := hown
  have hl : lv_has ls 3 [(0, .ref (q0 0)), (1, .ref (q1 0))] := hl
  obtain ⟨hin8, hw⟩ := hw
  have hi8 : u0.1.toNatClampNeg < 8 := by
    rcases Nat.lt_or_ge u0.1.toNatClampNeg 8 with h | h
    · exact h
    · exact absurd (Or.inr h) hin8
  obtain ⟨l1, l2, hr8, hn1, hn2⟩ := zp_range hi8
  refine lv_aload_n hx hb dX4_keep_0 rfl (lv_at hl 0 rfl) ?_
  refine va_get (D := zD E) (ci := 4) (v := .ref (q0 1)) (C := RX4) (T := TX4) (N := 3) hx hb hts uw_X4 hown hK hP 0 rfl rfl 0 (by decide) (hts _ wm_1_222) (fun _ h9 => h9) rfl dX4_keep_1 ?_
  refine lv_aload_n hx hb dX4_keep_4 rfl (lv_at hl 0 rfl) ?_
  refine va_get (D := zD E) (ci := 4) (v := .int u0.1) (C := RX4) (T := TX4) (N := 3) hx hb hts uw_X4 hown hK hP 0 rfl rfl 1 (by decide) (hts _ wm_1_223) (fun _ h9 => h9) rfl dX4_keep_5 ?_
  refine va_aldq hx hb hK hP 19 4 rfl rfl hin8 dX4_keep_8 ?_
  cases hu : u2 u0.1.toNatClampNeg with
  | some zc =>
    obtain ⟨z, cs⟩ := zc
    have hst : k_Hs E u2 u0.1.toNatClampNeg = k_X2 E z cs := by unfold k_Hs; rw [hu]
    have hpm : ((k_X4 E q0 u0 ++ k_X2 E q1 u1) ++ k_H E (fun k => q0 (k + 1)) u2).Perm ((k_X4 E q0 u0 ++ (k_X2 E q1 u1 ++ k_X2 E z cs)) ++ ((q0 1, .inl (E.2.2 4, 8, .inr (.inr (.inr (.inr (fun i => (u2 i).map (fun z => z.1 0))))))) :: (l1.flatMap (k_Hs E u2) ++ l2.flatMap (k_Hs E u2)))) := by
      rw [← List.append_assoc (k_X4 E q0 u0), ← hst]
      show ((k_X4 E q0 u0 ++ k_X2 E q1 u1) ++ ((q0 1, _) :: (List.range 8).flatMap (k_Hs E u2))).Perm _
      rw [hr8, List.flatMap_append, List.flatMap_cons]
      exact zp_out
    refine W.eq (g2 := F0 m 9 ls [.ref (z 0)]) rfl ?_
    refine lv_astore_n (lv' := [(2, .ref (z 0)), (0, .ref (q0 0)), (1, .ref (q1 0))]) hx hb dX4_keep_9 rfl hl (by decide) rfl (fun ls hl => ?_)
    refine lv_aload_n hx hb dX4_keep_10 rfl (lv_at hl 0 rfl) ?_
    refine lv_ifnonnull (tgt := 32) hx hb dX4_keep_11 (by decide) ?_
    refine t_X4_keep_32 ⟨by decide, by decide⟩ hZ0 C0 hA hK hZ u0 u1 cs u2 post (hw z cs (Or.inl hu)) (fun v w => ?_) (zp_P hpm hP) (zp_D hpm hD) hS hl
    have hst2 : k_Hs E (va_up u2 u0.1.toNatClampNeg (some (z, w.1))) u0.1.toNatClampNeg = k_X2 E z w.1 := by unfold k_Hs; rw [va_up_self]
    refine List.Perm.symm ?_
    rw [← List.append_assoc (k_X4 E q0 v), ← hst2]
    show ((k_X4 E q0 v ++ k_X2 E q1 w.2) ++ ((q0 1, .inl (E.2.2 4, 8, .inr (.inr (.inr (.inr (fun i => (va_up u2 u0.1.toNatClampNeg (some (z, w.1)) i).map (fun z => z.1 0))))))) :: (List.range 8).flatMap (k_Hs E (va_up u2 u0.1.toNatClampNeg (some (z, w.1)))))).Perm _
    rw [hr8, List.flatMap_append, List.flatMap_cons, zp_rf hu, zp_cong (u := va_up u2 u0.1.toNatClampNeg (some (z, w.1))) (v := u2) hn1 (fun j hj => va_up_ne _ _ hj), zp_cong (u := va_up u2 u0.1.toNatClampNeg (some (z, w.1))) (v := u2) hn2 (fun j hj => va_up_ne _ _ hj)]
    exact zp_out
  | none =>
    have hst : k_Hs E u2 u0.1.toNatClampNeg = [] := by unfold k_Hs; rw [hu]
    have hpl : (List.range 8).flatMap (k_Hs E u2) = l1.flatMap (k_Hs E u2) ++ l2.flatMap (k_Hs E u2) := by
      rw [hr8, List.flatMap_append, List.flatMap_cons, hst]; rfl
    have hP : va_P (zD E) vwCl ((k_X4 E q0 u0 ++ k_X2 E q1 u1) ++ ((q0 1, .inl (E.2.2 4, 8, .inr (.inr (.inr (.inr (fun i => (u2 i).map (fun z => z.1 0))))))) :: (l1.flatMap (k_Hs E u2) ++ l2.flatMap (k_Hs E u2)))) s.heap := by rw [← hpl]; exact hP
    have hD : va_D A ((k_X4 E q0 u0 ++ k_X2 E q1 u1) ++ ((q0 1, .inl (E.2.2 4, 8, .inr (.inr (.inr (.inr (fun i => (u2 i).map (fun z => z.1 0))))))) :: (l1.flatMap (k_Hs E u2) ++ l2.flatMap (k_Hs E u2)))) := by rw [← hpl]; exact hD
    refine W.eq (g2 := F0 m 9 ls [.null]) rfl ?_
    refine lv_astore_nN (lv' := [(2, .null), (0, .ref (q0 0)), (1, .ref (q1 0))]) hx hb dX4_keep_9 rfl hl (by decide) rfl (fun ls hl => ?_)
    refine lv_aload_nN hx hb dX4_keep_10 rfl (lv_at hl 0 rfl) ?_
    refine lv_ifnonnullN hx hb dX4_keep_11 ?_
    generalize hpe : (l1.flatMap (k_Hs E u2) ++ l2.flatMap (k_Hs E u2)) = pl at hP hD hpl
    refine va_new (D := zD E) (ci := 2) (fs := [.null, .null, .null]) (C := RX2) (T := TX2) (N := 3) hx hb hts uw_X2 tyX2 tyX2_ok hown (hts _ wm_1_220) (hts _ wm_1_34) (hts _ wm_1_2) hK hP hD hS hA rfl (fun j hj => by rcases (show j = 0 ∨ j = 1 ∨ j = 2 by omega) with rfl | rfl | rfl <;> rfl) (by decide) (by decide) dX4_keep_14 (fun z0 H hP hD hS => ?_)
    refine lv_dup hx hb dX4_keep_17 rfl ?_
    have hpm : ∀ (w kc : va_W), (((k_X4 E q0 u0 ++ k_X2 E q1 u1) ++ (kc ++ pl)) ++ w).Perm (((k_X4 E q0 u0 ++ (k_X2 E q1 u1 ++ w)) ++ (kc ++ pl))) := fun w kc => zp_push
    have hP : va_P (zD E) vwCl ((k_X4 E q0 u0 ++ (k_X2 E q1 u1 ++ [(z0, .inr (2, [.null, .null, .null]))])) ++ ([(q0 1, .inl (E.2.2 4, 8, .inr (.inr (.inr (.inr (fun i => (u2 i).map (fun z => z.1 0)))))))] ++ pl)) H := zp_P (hpm [(z0, .inr (2, [.null, .null, .null]))] [(q0 1, .inl (E.2.2 4, 8, .inr (.inr (.inr (.inr (fun i => (u2 i).map (fun z => z.1 0)))))))]) hP
    have hD : va_D A ((k_X4 E q0 u0 ++ (k_X2 E q1 u1 ++ [(z0, .inr (2, [.null, .null, .null]))])) ++ ([(q0 1, .inl (E.2.2 4, 8, .inr (.inr (.inr (.inr (fun i => (u2 i).map (fun z => z.1 0)))))))] ++ pl)) := zp_D (hpm [(z0, .inr (2, [.null, .null, .null]))] [(q0 1, .inl (E.2.2 4, 8, .inr (.inr (.inr (.inr (fun i => (u2 i).map (fun z => z.1 0)))))))]) hD
    have hF := va_free (wc := [(z0, .inr (2, [.null, .null, .null]))]) hD hS hA [19] rfl
    refine z_gkv (z_rJ (rest := [.ref z0]) hZ0 C0 hK hZ hA hP hD hS hl.1 (c_X2_init l E Z hZ0 z0 H.size (fun qa => qa 0 = z0) (fun _ h => h)) yv_X4_24 [19] rfl (by decide) ⟨by decide, by decide⟩ ⟨rfl, rfl⟩ rfl rfl (Nat.le_of_ble_eq_true rfl) ⟨by decide, by decide⟩ dX4_keep_18) hS hF (fun z => (k_X4 E q0 u0 ++ (k_X2 E q1 u1 ++ k_X2 E z i_X2)) ++ ([(q0 1, .inl (E.2.2 4, 8, .inr (.inr (.inr (.inr (fun i => (u2 i).map (fun z => z.1 0)))))))] ++ pl)) (fun w H1 hk b1 b2 => z_backQ hP hD hS hA [19] [0, 1, 2, 3, 4, 5, 6, 7, 8, 9, 10, 11, 12, 13, 14, 15, 16, 17, 18] [0, 1, 2, 3, 4, 5, 6, 7, 8, 9, 10, 11, 12, 13, 14, 15, 16, 17, 18, 19, 20, 21, 22, 23, 24, 25, 26, 27, 28, 29, 30, 31, 32, 33, 34, 35, 36] rfl (wr := [_, _, _, _, _, _, _, _, _, _, _, _, _, _, _, _, _, _, _]) rfl (by decide) (by decide) hF hk b1 b2 rfl (by decide)) (fun z H locs hz hP hD hS => ?_)
    rw [← hz]
    refine lv_astore_n (lv' := [(2, .ref (z 0)), (0, .ref (q0 0)), (1, .ref (q1 0))]) hx hb dX4_keep_21 rfl hl (by decide) rfl (fun ls hl => ?_)
    refine lv_aload_n hx hb dX4_keep_22 rfl (lv_at hl 1 rfl) ?_
    refine va_get (D := zD E) (ci := 4) (v := .ref (q0 1)) (C := RX4) (T := TX4) (N := 3) hx hb hts uw_X4 hown hK hP 0 rfl rfl 0 (by decide) (hts _ wm_1_222) (fun _ h9 => h9) rfl dX4_keep_23 ?_
    refine lv_aload_n hx hb dX4_keep_26 rfl (lv_at hl 1 rfl) ?_
    refine va_get (D := zD E) (ci := 4) (v := .int u0.1) (C := RX4) (T := TX4) (N := 3) hx hb hts uw_X4 hown hK hP 0 rfl rfl 1 (by decide) (hts _ wm_1_223) (fun _ h9 => h9) rfl dX4_keep_27 ?_
    refine lv_aload_n hx hb dX4_keep_30 rfl (lv_at hl 0 rfl) ?_
    refine va_astq hx hb hK hP hD hS 37 4 19 2 rfl rfl rfl rfl hin8 dX4_keep_31 (fun H locs hP hD hS => ?_)
    have hP : va_P (zD E) vwCl ((k_X4 E q0 u0 ++ (k_X2 E q1 u1 ++ k_X2 E z i_X2)) ++ ([(q0 1, .inl (E.2.2 4, 8, .inr (.inr (.inr (.inr (va_up (fun i => (u2 i).map (fun z => z.1 0)) u0.1.toNatClampNeg (some (z 0))))))))] ++ pl)) H := hP
    have hD : va_D A ((k_X4 E q0 u0 ++ (k_X2 E q1 u1 ++ k_X2 E z i_X2)) ++ ([(q0 1, .inl (E.2.2 4, 8, .inr (.inr (.inr (.inr (va_up (fun i => (u2 i).map (fun z => z.1 0)) u0.1.toNatClampNeg (some (z 0))))))))] ++ pl)) := hD
    refine t_X4_keep_32 ⟨by decide, by decide⟩ hZ0 C0 hA hK hZ u0 u1 i_X2 u2 post (hw z i_X2 (Or.inr ⟨hu, rfl⟩)) (fun v w => ?_) hP hD hS hl
    have hst2 : k_Hs E (va_up u2 u0.1.toNatClampNeg (some (z, w.1))) u0.1.toNatClampNeg = k_X2 E z w.1 := by unfold k_Hs; rw [va_up_self]
    refine List.Perm.symm ?_
    rw [← List.append_assoc (k_X4 E q0 v), ← hst2, ← hpe]
    show ((k_X4 E q0 v ++ k_X2 E q1 w.2) ++ ((q0 1, .inl (E.2.2 4, 8, .inr (.inr (.inr (.inr (fun i => (va_up u2 u0.1.toNatClampNeg (some (z, w.1)) i).map (fun z => z.1 0))))))) :: (List.range 8).flatMap (k_Hs E (va_up u2 u0.1.toNatClampNeg (some (z, w.1)))))).Perm _
    rw [hr8, List.flatMap_append, List.flatMap_cons, zp_rfn, zp_cong (u := va_up u2 u0.1.toNatClampNeg (some (z, w.1))) (v := u2) hn1 (fun j hj => va_up_ne _ _ hj), zp_cong (u := va_up u2 u0.1.toNatClampNeg (some (z, w.1))) (v := u2) hn2 (fun j hj => va_up_ne _ _ hj)]
    exact zp_out
abbrev r_X4_giveBack : Room := { frames := 8, cells := 0, slots := 0, locals := 300 }
def wp_X4_giveBack (u0 : S_X4) (u1 : S_X2) (u2 : S_H) (post : Int32 → S_X4 × S_X2 × S_H → Prop) : Prop := ∀ x : Int32, x = ((u0.1 + (8 : Int32)) - (1 : Int32)) - ((u0.1 + (8 : Int32)) - (1 : Int32)) / (8 : Int32) * (8 : Int32) → vp_in x 8 ∧ (u0.2 = 0 → post (-1) (u0, u1, u2)) ∧ (¬ u0.2 = 0 → u2 x.toNatClampNeg = none → post (-1) (u0, u1, u2)) ∧ (¬ u0.2 = 0 → ∀ (z : Nat → Nat) (c : S_X2), u2 x.toNatClampNeg = some (z, c) → wp_X2_copyFrom u1 c (fun w => post (u0.2 - (1 : Int32)) ((x, u0.2 - (1 : Int32)), w.1, va_up u2 x.toNatClampNeg (some (z, w.2)))))
set_option maxHeartbeats 4000000 in
set_option maxRecDepth 100000 in
theorem c_X4_giveBack (l : Launch) (E : zE) (Z : zZ) (hZ0 : zSt Z) (q0 q1 : Nat → Nat) (sz : Nat) (u0 : S_X4) (u1 : S_X2) (u2 : S_H) (post : Int32 → S_X4 × S_X2 × S_H → Prop) (hw : wp_X4_giveBack u0 u1 u2 post) : Met l yX4_giveBack (zws yX4_giveBack cX4_giveBack 4 (some .int)) r_X4_giveBack (va_Pc [.ref (q0 0), .ref (q1 0)] (zPre Z E ((k_X4 E q0 u0 ++ k_X2 E q1 u1) ++ k_H E (fun k => q0 (k + 1)) u2) sz)) (va_Qi post (zAt E (va_A ((k_X4 E q0 u0 ++ k_X2 E q1 u1) ++ k_H E (fun k => q0 (k + 1)) u2) sz) (fun u => (k_X4 E q0 u.1 ++ k_X2 E q1 u.2.1) ++ k_H E (fun k => q0 (k + 1)) u.2.2)) (va_A ((k_X4 E q0 u0 ++ k_X2 E q1 u1) ++ k_H E (fun k => q0 (k + 1)) u2) sz)) 0 0 (va_A ((k_X4 E q0 u0 ++ k_X2 E q1 u1) ++ k_H E (fun k => q0 (k + 1)) u2) sz) := by
  refine z_ofW (Qf := fun A => va_Qi post (zAt E A (fun u => (k_X4 E q0 u.1 ++ k_X2 E q1 u.2.1) ++ k_H E (fun k => q0 (k + 1)) u.2.2)) A) (by decide) (Nat.le_of_ble_eq_true rfl) ?_
  intro p e s m args below meth c A ls C0 hA hK hZ hP hD hS hl
  obtain ⟨hx, hb, hml, hr, hown, hts, hlocks, hin⟩ := id C0
  have hown : s.vm.findClass RX4 = some m.cls := hown
  have hl : lv_has ls 4 [(0, .ref (q0 0)), (1, .ref (q1 0))] := hl
  refine lv_aload_n hx hb dX4_giveBack_0 rfl (lv_at hl 0 rfl) ?_
  refine va_get (D := zD E) (ci := 4) (v := .int u0.1) (C := RX4) (T := TX4) (N := 3) hx hb hts uw_X4 hown hK hP 0 rfl rfl 1 (by decide) (hts _ wm_1_223) (fun _ h9 => h9) rfl dX4_giveBack_1 ?_
  refine lv_bipush (v := 8) hx hb dX4_giveBack_4 rfl ?_
  refine lv_iadd hx hb dX4_giveBack_6 ?_
  refine lv_iconst (v := 1) hx hb dX4_giveBack_7 rfl ?_
  refine lv_isub hx hb dX4_giveBack_8 ?_
  refine lv_bipush (v := 8) hx hb dX4_giveBack_9 rfl ?_
  refine lv_irem hx hb dX4_giveBack_11 (by decide) ?_
  refine lv_topi (fun x ex => ?_)
  obtain ⟨hin8, hw0, hw1, hw2⟩ := hw x ex
  have hi8 : x.toNatClampNeg < 8 := by
    rcases Nat.lt_or_ge x.toNatClampNeg 8 with h | h
    · exact h
    · exact absurd (Or.inr h) hin8
  obtain ⟨l1, l2, hr8, hn1, hn2⟩ := zp_range hi8
  refine lv_istore_n (lv' := [(2, .int x), (0, .ref (q0 0)), (1, .ref (q1 0))]) hx hb dX4_giveBack_12 rfl hl (by decide) rfl (fun ls hl => ?_)
  refine lv_aload_n hx hb dX4_giveBack_13 rfl (lv_at hl 1 rfl) ?_
  refine va_get (D := zD E) (ci := 4) (v := .ref (q0 1)) (C := RX4) (T := TX4) (N := 3) hx hb hts uw_X4 hown hK hP 0 rfl rfl 0 (by decide) (hts _ wm_1_222) (fun _ h9 => h9) rfl dX4_giveBack_14 ?_
  refine lv_iload_n hx hb dX4_giveBack_17 rfl (lv_at hl 0 rfl) ?_
  refine va_aldq hx hb hK hP 19 4 rfl rfl hin8 dX4_giveBack_18 ?_
  cases hu : u2 x.toNatClampNeg with
  | none =>
    refine W.eq (g2 := F0 m 19 ls [.null]) rfl ?_
    refine lv_astore_nN (lv' := [(3, .null), (2, .int x), (0, .ref (q0 0)), (1, .ref (q1 0))]) hx hb dX4_giveBack_19 rfl hl (by decide) rfl (fun ls hl => ?_)
    refine lv_aload_n hx hb dX4_giveBack_20 rfl (lv_at hl 2 rfl) ?_
    refine va_get (D := zD E) (ci := 4) (v := .int u0.2) (C := RX4) (T := TX4) (N := 3) hx hb hts uw_X4 hown hK hP 0 rfl rfl 2 (by decide) (hts _ wm_1_224) (fun _ h9 => h9) rfl dX4_giveBack_21 ?_
    refine lv_if_eq (tgt := 31) hx hb dX4_giveBack_24 (by decide) (fun c_1 => ?_) (fun c_1 => ?_)
    · refine lv_iconst (v := (-1)) hx hb dX4_giveBack_31 rfl ?_
      exact z_iret (k := fun u => (k_X4 E q0 u.1 ++ k_X2 E q1 u.2.1) ++ k_H E (fun k => q0 (k + 1)) u.2.2) (u0, u1, u2) C0 hP hD hS (hw0 c_1) dX4_giveBack_32
    · refine lv_aload_nN hx hb dX4_giveBack_27 rfl (lv_at hl 0 rfl) ?_
      refine lv_ifnonnullN hx hb dX4_giveBack_28 ?_
      refine lv_iconst (v := (-1)) hx hb dX4_giveBack_31 rfl ?_
      exact z_iret (k := fun u => (k_X4 E q0 u.1 ++ k_X2 E q1 u.2.1) ++ k_H E (fun k => q0 (k + 1)) u.2.2) (u0, u1, u2) C0 hP hD hS (hw1 c_1 hu) dX4_giveBack_32
  | some zc =>
    obtain ⟨z, cs⟩ := zc
    refine W.eq (g2 := F0 m 19 ls [.ref (z 0)]) rfl ?_
    refine lv_astore_n (lv' := [(3, .ref (z 0)), (2, .int x), (0, .ref (q0 0)), (1, .ref (q1 0))]) hx hb dX4_giveBack_19 rfl hl (by decide) rfl (fun ls hl => ?_)
    refine lv_aload_n hx hb dX4_giveBack_20 rfl (lv_at hl 2 rfl) ?_
    refine va_get (D := zD E) (ci := 4) (v := .int u0.2) (C := RX4) (T := TX4) (N := 3) hx hb hts uw_X4 hown hK hP 0 rfl rfl 2 (by decide) (hts _ wm_1_224) (fun _ h9 => h9) rfl dX4_giveBack_21 ?_
    refine lv_if_eq (tgt := 31) hx hb dX4_giveBack_24 (by decide) (fun c_1 => ?_) (fun c_1 => ?_)
    · refine lv_iconst (v := (-1)) hx hb dX4_giveBack_31 rfl ?_
      exact z_iret (k := fun u => (k_X4 E q0 u.1 ++ k_X2 E q1 u.2.1) ++ k_H E (fun k => q0 (k + 1)) u.2.2) (u0, u1, u2) C0 hP hD hS (hw0 c_1) dX4_giveBack_32
    · have hst : k_Hs E u2 x.toNatClampNeg = k_X2 E z cs := by unfold k_Hs; rw [hu]
      have hpm : ((k_X4 E q0 u0 ++ k_X2 E q1 u1) ++ k_H E (fun k => q0 (k + 1)) u2).Perm ((k_X4 E q0 u0 ++ (k_X2 E q1 u1 ++ k_X2 E z cs)) ++ ((q0 1, .inl (E.2.2 4, 8, .inr (.inr (.inr (.inr (fun i => (u2 i).map (fun z => z.1 0))))))) :: (l1.flatMap (k_Hs E u2) ++ l2.flatMap (k_Hs E u2)))) := by
        rw [← List.append_assoc (k_X4 E q0 u0), ← hst]
        show ((k_X4 E q0 u0 ++ k_X2 E q1 u1) ++ ((q0 1, _) :: (List.range 8).flatMap (k_Hs E u2))).Perm _
        rw [hr8, List.flatMap_append, List.flatMap_cons]
        exact zp_out
      have hP := zp_P hpm hP
      have hD := zp_D hpm hD
      generalize hpe : ((q0 1, .inl (E.2.2 4, 8, .inr (.inr (.inr (.inr (fun i => (u2 i).map (fun z => z.1 0))))))) :: (l1.flatMap (k_Hs E u2) ++ l2.flatMap (k_Hs E u2)) : va_W) = pl at hP hD
      refine lv_aload_n hx hb dX4_giveBack_27 rfl (lv_at hl 0 rfl) ?_
      refine lv_ifnonnull (tgt := 33) hx hb dX4_giveBack_28 (by decide) ?_
      refine lv_aload_n hx hb dX4_giveBack_33 rfl (lv_at hl 3 rfl) ?_
      refine lv_aload_n hx hb dX4_giveBack_34 rfl (lv_at hl 0 rfl) ?_
      have hF := va_free (wc := k_X2 E q1 u1 ++ k_X2 E z cs) hD hS hA [1, 2, 3, 4, 5, 6, 7, 8, 9, 10, 11, 12, 13, 14, 15, 16, 17, 18, 19, 20, 21, 22, 23, 24, 25, 26, 27, 28, 29, 30, 31, 32, 33, 34, 35, 36] rfl
      refine z_gkv (z_gN (rest := []) hZ0 C0 hK hP hl.1 (c_X2_copyFrom l E Z hZ0 q1 z s.heap.size u1 cs _ (hw2 c_1 z cs hu)) yv_X4_25 (z_preQ hZ0 hK hZ hP hD hS hA [1, 2, 3, 4, 5, 6, 7, 8, 9, 10, 11, 12, 13, 14, 15, 16, 17, 18, 19, 20, 21, 22, 23, 24, 25, 26, 27, 28, 29, 30, 31, 32, 33, 34, 35, 36] rfl (by decide)) (ci := 2) rfl rfl 1 rfl ⟨by decide, by decide⟩ ⟨rfl, rfl⟩ rfl rfl (Nat.le_of_ble_eq_true rfl) ⟨by decide, by decide⟩ dX4_giveBack_35) hS hF (fun w => (k_X4 E q0 u0 ++ (k_X2 E q1 w.1 ++ k_X2 E z w.2)) ++ pl) (fun w H1 hk b1 b2 => z_backQ hP hD hS hA [1, 2, 3, 4, 5, 6, 7, 8, 9, 10, 11, 12, 13, 14, 15, 16, 17, 18, 19, 20, 21, 22, 23, 24, 25, 26, 27, 28, 29, 30, 31, 32, 33, 34, 35, 36] [0] [0, 1, 2, 3, 4, 5, 6, 7, 8, 9, 10, 11, 12, 13, 14, 15, 16, 17, 18, 19, 20, 21, 22, 23, 24, 25, 26, 27, 28, 29, 30, 31, 32, 33, 34, 35, 36] rfl (wr := [_]) rfl (by decide) (by decide) hF hk b1 b2 rfl (by decide)) (fun w H locs hw hP hD hS => ?_)
      refine lv_aload_n hx hb dX4_giveBack_38 rfl (lv_at hl 2 rfl) ?_
      refine lv_iload_n hx hb dX4_giveBack_39 rfl (lv_at hl 1 rfl) ?_
      refine va_put (D := zD E) (ci := 4) (v := .int x) (ty := .int) (C := RX4) (T := TX4) (N := 3) hx hb hts uw_X4 tyX4 tyX4_ok nmX4 hown hK hP hD hS 0 rfl rfl 1 (by decide) (hts _ wm_1_223) (fun _ h9 => h9) rfl (by decide +kernel) rfl rfl (Nat.le_of_ble_eq_true rfl) dX4_giveBack_40 (fun H locs hP hD hS => ?_)
      have hP : va_P (zD E) vwCl ((k_X4 E q0 (x, u0.2) ++ (k_X2 E q1 w.1 ++ k_X2 E z w.2)) ++ pl) H := hP
      have hD : va_D A ((k_X4 E q0 (x, u0.2) ++ (k_X2 E q1 w.1 ++ k_X2 E z w.2)) ++ pl) := hD
      refine lv_aload_n hx hb dX4_giveBack_43 rfl (lv_at hl 2 rfl) ?_
      refine lv_dup hx hb dX4_giveBack_44 rfl ?_
      refine va_get (D := zD E) (ci := 4) (v := .int u0.2) (C := RX4) (T := TX4) (N := 3) hx hb hts uw_X4 hown hK hP 0 rfl rfl 2 (by decide) (hts _ wm_1_224) (fun _ h9 => h9) rfl dX4_giveBack_45 ?_
      refine lv_iconst (v := 1) hx hb dX4_giveBack_48 rfl ?_
      refine lv_isub hx hb dX4_giveBack_49 ?_
      refine va_put (D := zD E) (ci := 4) (v := .int (u0.2 - (1 : Int32))) (ty := .int) (C := RX4) (T := TX4) (N := 3) hx hb hts uw_X4 tyX4 tyX4_ok nmX4 hown hK hP hD hS 0 rfl rfl 2 (by decide) (hts _ wm_1_224) (fun _ h9 => h9) rfl (by decide +kernel) rfl rfl (Nat.le_of_ble_eq_true rfl) dX4_giveBack_50 (fun H locs hP hD hS => ?_)
      have hP : va_P (zD E) vwCl ((k_X4 E q0 (x, u0.2 - (1 : Int32)) ++ (k_X2 E q1 w.1 ++ k_X2 E z w.2)) ++ pl) H := hP
      have hD : va_D A ((k_X4 E q0 (x, u0.2 - (1 : Int32)) ++ (k_X2 E q1 w.1 ++ k_X2 E z w.2)) ++ pl) := hD
      refine lv_aload_n hx hb dX4_giveBack_53 rfl (lv_at hl 2 rfl) ?_
      refine va_get (D := zD E) (ci := 4) (v := .int (u0.2 - (1 : Int32))) (C := RX4) (T := TX4) (N := 3) hx hb hts uw_X4 hown hK hP 0 rfl rfl 2 (by decide) (hts _ wm_1_224) (fun _ h9 => h9) rfl dX4_giveBack_54 ?_
      have hfin : ((k_X4 E q0 (x, u0.2 - (1 : Int32)) ++ (k_X2 E q1 w.1 ++ k_X2 E z w.2)) ++ pl).Perm ((k_X4 E q0 (x, u0.2 - (1 : Int32)) ++ k_X2 E q1 w.1) ++ k_H E (fun k => q0 (k + 1)) (va_up u2 x.toNatClampNeg (some (z, w.2)))) := by
        have hst2 : k_Hs E (va_up u2 x.toNatClampNeg (some (z, w.2))) x.toNatClampNeg = k_X2 E z w.2 := by unfold k_Hs; rw [va_up_self]
        refine List.Perm.symm ?_
        rw [← List.append_assoc (k_X4 E q0 (x, u0.2 - (1 : Int32))), ← hst2, ← hpe]
        show ((k_X4 E q0 (x, u0.2 - (1 : Int32)) ++ k_X2 E q1 w.1) ++ ((q0 1, .inl (E.2.2 4, 8, .inr (.inr (.inr (.inr (fun i => (va_up u2 x.toNatClampNeg (some (z, w.2)) i).map (fun z => z.1 0))))))) :: (List.range 8).flatMap (k_Hs E (va_up u2 x.toNatClampNeg (some (z, w.2)))))).Perm _
        rw [hr8, List.flatMap_append, List.flatMap_cons, zp_rf hu, zp_cong (u := va_up u2 x.toNatClampNeg (some (z, w.2))) (v := u2) hn1 (fun j hj => va_up_ne _ _ hj), zp_cong (u := va_up u2 x.toNatClampNeg (some (z, w.2))) (v := u2) hn2 (fun j hj => va_up_ne _ _ hj)]
        exact zp_out
      exact z_iret (k := fun u => (k_X4 E q0 u.1 ++ k_X2 E q1 u.2.1) ++ k_H E (fun k => q0 (k + 1)) u.2.2) ((x, u0.2 - (1 : Int32)), w.1, va_up u2 x.toNatClampNeg (some (z, w.2))) C0 (zp_P hfin hP) (zp_D hfin hD) hS hw dX4_giveBack_57
