/-! Histories. -/
def cpT (u v : S_X7) : S_X7 := (v.1, v.2.1, v.2.2.1, v.2.2.2.1, v.2.2.2.2.1, v.2.2.2.2.2.1, v.2.2.2.2.2.2.1, v.2.2.2.2.2.2.2.1, v.2.2.2.2.2.2.2.2.1, v.2.2.2.2.2.2.2.2.2.1, v.2.2.2.2.2.2.2.2.2.2.1, (va_cpy v.2.2.2.2.2.2.2.2.2.2.2.1 u.2.2.2.2.2.2.2.2.2.2.2.1 0 0 6), (va_cpy v.2.2.2.2.2.2.2.2.2.2.2.2.1 u.2.2.2.2.2.2.2.2.2.2.2.2.1 0 0 6), v.2.2.2.2.2.2.2.2.2.2.2.2.2.1, (va_cpy v.2.2.2.2.2.2.2.2.2.2.2.2.2.2.1 u.2.2.2.2.2.2.2.2.2.2.2.2.2.2.1 0 0 40), (va_cpy v.2.2.2.2.2.2.2.2.2.2.2.2.2.2.2 u.2.2.2.2.2.2.2.2.2.2.2.2.2.2.2 0 0 40))
def cpB (u v : S_X1) : S_X1 := (v.1, v.2.1, v.2.2.1, (va_cpy v.2.2.2.1 u.2.2.2.1 0 0 20), (va_cpy v.2.2.2.2.1 u.2.2.2.2.1 0 0 20), (va_cpy v.2.2.2.2.2.1 u.2.2.2.2.2.1 0 0 20), (va_cpy v.2.2.2.2.2.2 u.2.2.2.2.2.2 0 0 20))
def cpC (u v : S_X2) : S_X2 := (cpT u.1 v.1, cpA u.2.1 v.2.1, cpB u.2.2 v.2.2)
theorem rT_cp {u v : S_X7} {d : Nat → Int32} (h : rT v d) : rT (cpT u v) d := by
  obtain ⟨h1, h2, h3⟩ := h
  refine ⟨h1, fun k hk => ⟨(h2 k hk).1, fun hb => ?_⟩, fun k hk hs => ?_⟩
  · obtain ⟨a, b⟩ := (h2 k hk).2 hb
    exact ⟨(cpy_in _ _ hk).trans a, (cpy_in _ _ hk).trans b⟩
  · obtain ⟨a, b⟩ := h3 k hk hs
    exact ⟨(cpy_in _ _ hk).trans a, (cpy_in _ _ hk).trans b⟩
theorem rB_cp {u v : S_X1} {m : Nat} {d : Nat → Int32} (hm : m ≤ 20) (h : rB m v d) : rB m (cpB u v) d := by
  obtain ⟨h0, h1, h2, h3⟩ := h
  refine ⟨h0, h1, h2, fun k hk => ?_⟩
  obtain ⟨a, b, c, e⟩ := h3 k hk
  exact ⟨(cpy_in _ _ (by omega)).trans a, (cpy_in _ _ (by omega)).trans b, (cpy_in _ _ (by omega)).trans c, (cpy_in _ _ (by omega)).trans e⟩
theorem bB_cp {u v : S_X1} {m w : Nat} (h : bB m w v) : bB m w (cpB u v) := by
  obtain ⟨h0, h1, h2, h3, h4⟩ := h
  have e : wct (cpB u v) m = wct v m := by
    unfold wct
    exact fb_ct_cong (fun k hk => congrArg (fun x : Int32 => decide (x = 1)) (cpy_in _ _ (by omega)))
  refine ⟨h0, fun k hk => ?_, fun k hk => ?_, ?_, ?_⟩
  · have e2 : (cpB u v).2.2.2.2.2.2 k = v.2.2.2.2.2.2 k := cpy_in _ _ (by omega)
    rw [e2]; exact h1 k hk
  · have e2 : (cpB u v).2.2.2.1 k = v.2.2.2.1 k := cpy_in _ _ (by omega)
    rw [e2]; exact h2 k hk
  · rw [e]; exact h3
  · rw [e]; exact h4
theorem rC_cp {u v : S_X2} {d : Nat → Int32} {b : Nat → Int64} (h : rC v d b) : rC (cpC u v) d b := by
  obtain ⟨ht, bt, ⟨n, k, hn, htn, hk, hclk, ra, ba, hi⟩, ⟨m, w, hw, hw4, rb, bb⟩⟩ := h
  have e := eA_cp n hn u.2.1 v.2.1
  refine ⟨rT_cp ht, bt, ⟨n, k, hn, htn, hk, hclk, rA_eA ra e, bA_eA ba e, fun p hp => ?_⟩, ⟨m, w, hw, hw4, rB_cp bb.1 rb, bB_cp bb⟩⟩
  exact ((e.2 p hp).2.2.2.2.2).trans (hi p hp)
theorem rC_cong {c : S_X2} {d e : Nat → Int32} {b b' : Nat → Int64} (h : rC c d b) (he : ∀ i, i < 428 → e i = d i) (hb : ∀ p, p < 40 → b' p = b p) : rC c e b' := by
  obtain ⟨ht, bt, ⟨n, k, hn, htn, hk, hclk, ra, ba, hi⟩, ⟨m, w, hw, hw4, rb, bb⟩⟩ := h
  refine ⟨rT_cong ht (fun i hi => he i (by omega)), bt, ⟨n, k, hn, htn, hk, hclk, rA_cong hn ra (fun i hi => he i (by omega)), ba, fun p hp => ?_⟩, ⟨m, w, hw, hw4, rB_cong bb.1 rb (fun i hi => he i (by omega)), bb⟩⟩
  rw [hb p (by omega)]; exact hi p hp
theorem q_copyC {u v : S_X2} {m w : Nat} (bb : bB m w v.2.2) {post : S_X2 × S_X2 → Prop} (h : post (cpC u v, v)) : wp_X2_copyFrom u v post := by
  refine ⟨fun i hi => ?_, h⟩
  have e := bb.2.1 (0 + i) (by omega)
  rcases e with e | e
  · rw [e]; rfl
  · rw [e]; rfl
def cpL (d e : Nat → Int64) : Nat → Int64 := fun k => if k < 40 then d k else e k
theorem cpL_in {d e : Nat → Int64} {i : Nat} (h : i < 40) : cpL d e i = d i := if_pos h
def rH (h4 : S_X4) (xh : S_H) (ud : Int32) (mh : S_MH) : Prop := ∃ nx cnt, nx < 8 ∧ cnt ≤ 8 ∧ h4 = (nI nx, nI cnt) ∧ ud = nI cnt ∧ ∀ i, i < cnt → ∃ z c, xh ((nx + 8 - cnt + i) % 8) = some (z, c) ∧ rC c (mh.1 i) (mh.2 i)
theorem up_same {α : Type} (f : Nat → α) (k : Nat) (x : α) : va_up f k x k = x := by simp [va_up]
theorem up_ne {α : Type} (f : Nat → α) {k j : Nat} (x : α) (h : j ≠ k) : va_up f k x j = f j := by simp [va_up, h]
theorem q_tail (u : S_X10) (h : S_MH) (c : Nat) (hc : c < 8) (hu : u.2.2.2.2.2.2.2.2.2.2.2.2.2.1 = nI c) (post : S_X10 × S_MH → Prop) (hp : post ((u.1, u.2.1, u.2.2.1, u.2.2.2.1, u.2.2.2.2.1, u.2.2.2.2.2.1, u.2.2.2.2.2.2.1, u.2.2.2.2.2.2.2.1, u.2.2.2.2.2.2.2.2.1, u.2.2.2.2.2.2.2.2.2.1, u.2.2.2.2.2.2.2.2.2.2.1, u.2.2.2.2.2.2.2.2.2.2.2.1, u.2.2.2.2.2.2.2.2.2.2.2.2.1, (nI (c + 1)), u.2.2.2.2.2.2.2.2.2.2.2.2.2.2.1, u.2.2.2.2.2.2.2.2.2.2.2.2.2.2.2.1, u.2.2.2.2.2.2.2.2.2.2.2.2.2.2.2.2.1, u.2.2.2.2.2.2.2.2.2.2.2.2.2.2.2.2.2.1, u.2.2.2.2.2.2.2.2.2.2.2.2.2.2.2.2.2.2.1, u.2.2.2.2.2.2.2.2.2.2.2.2.2.2.2.2.2.2.2.1, u.2.2.2.2.2.2.2.2.2.2.2.2.2.2.2.2.2.2.2.2.1, u.2.2.2.2.2.2.2.2.2.2.2.2.2.2.2.2.2.2.2.2.2), (va_up h.1 c (cpD u.2.2.2.2.2.2.2.2.1 (h.1 c)), va_up h.2 c (cpL u.2.2.2.2.2.2.2.2.2.2.2.1 (h.2 c))))) : wq_tail u h post := by
  unfold wq_tail
  rw [hu, cl_nI (by omega), ix_1]
  exact ⟨in_of (by omega) (by omega), q_copy _ _ _ (q_copyLongs _ _ _ hp)⟩
theorem P_keep {c : S_X2} {u : S_X10} {h4 : S_X4} {xh : S_H} {mh : S_MH} (hC : rC c u.2.2.2.2.2.2.2.2.1 u.2.2.2.2.2.2.2.2.2.2.2.1) (hH : rH h4 xh u.2.2.2.2.2.2.2.2.2.2.2.2.2.1 mh) :
    ∃ (h4' : S_X4) (ud' : Int32) (mh' : S_MH) (Q : S_H → Prop), (∀ post : S_X4 × S_X2 × S_H → Prop, (∀ xh', Q xh' → post (h4', c, xh')) → wp_X4_keep h4 c xh post) ∧ (∀ post : S_X10 × S_MH → Prop, post ((u.1, u.2.1, u.2.2.1, u.2.2.2.1, u.2.2.2.2.1, u.2.2.2.2.2.1, u.2.2.2.2.2.2.1, u.2.2.2.2.2.2.2.1, u.2.2.2.2.2.2.2.2.1, u.2.2.2.2.2.2.2.2.2.1, u.2.2.2.2.2.2.2.2.2.2.1, u.2.2.2.2.2.2.2.2.2.2.2.1, u.2.2.2.2.2.2.2.2.2.2.2.2.1, ud', u.2.2.2.2.2.2.2.2.2.2.2.2.2.2.1, u.2.2.2.2.2.2.2.2.2.2.2.2.2.2.2.1, u.2.2.2.2.2.2.2.2.2.2.2.2.2.2.2.2.1, u.2.2.2.2.2.2.2.2.2.2.2.2.2.2.2.2.2.1, u.2.2.2.2.2.2.2.2.2.2.2.2.2.2.2.2.2.2.1, u.2.2.2.2.2.2.2.2.2.2.2.2.2.2.2.2.2.2.2.1, u.2.2.2.2.2.2.2.2.2.2.2.2.2.2.2.2.2.2.2.2.1, u.2.2.2.2.2.2.2.2.2.2.2.2.2.2.2.2.2.2.2.2.2), mh') → wp_X10_remember u mh post) ∧ ∀ xh', Q xh' → rH h4' xh' ud' mh' := by
  obtain ⟨nx, cnt, hnx, hcnt, e4, eu, hrows⟩ := hH
  have hC2 := hC
  obtain ⟨-, -, -, ⟨m, w, -, -, -, bb⟩⟩ := hC2
  subst e4
  have hcls : ∀ post : S_X4 × S_X2 × S_H → Prop, (∀ xh', (∃ z cc, xh' = va_up xh nx (some (z, cpC cc c))) → post ((nI ((nx + 1) % 8), nI (min (cnt + 1) 8)), c, xh')) → wp_X4_keep (nI nx, nI cnt) c xh post := by
    intro post hp
    refine ⟨in_of hnx (by omega), fun z cc hz => q_copyC bb ?_⟩
    have e1 : (nI nx + 1) - (nI nx + 1) / 8 * 8 = nI ((nx + 1) % 8) := by rw [ix_1, show (8 : Int32) = nI 8 from rfl, pk_rem (by omega) (by omega) (by omega)]
    have e2 : (if (8 : Int32) < nI cnt + 1 then (8 : Int32) else nI cnt + 1) = nI (min (cnt + 1) 8) := by
      rw [ix_1, show (8 : Int32) = nI 8 from rfl]
      by_cases q : 8 < cnt + 1
      · rw [if_pos ((lt_nI (by omega) (by omega)).mpr q), Nat.min_eq_right (by omega)]
      · rw [if_neg (fun q2 => q ((lt_nI (by omega) (by omega)).mp q2)), Nat.min_eq_left (by omega)]
    dsimp only
    rw [e1, e2, cl_nI (by omega)]
    exact hp _ ⟨z, cc, rfl⟩
  rcases Nat.lt_or_ge cnt 8 with hlt | hge
  · refine ⟨(nI ((nx + 1) % 8), nI (min (cnt + 1) 8)), nI (cnt + 1), (va_up mh.1 cnt (cpD u.2.2.2.2.2.2.2.2.1 (mh.1 cnt)), va_up mh.2 cnt (cpL u.2.2.2.2.2.2.2.2.2.2.2.1 (mh.2 cnt))), fun xh' => ∃ z cc, xh' = va_up xh nx (some (z, cpC cc c)), hcls, ?_, ?_⟩
    · intro post hp
      refine ⟨fun _ => q_tail u mh cnt hlt eu post hp, fun q => ?_⟩
      rw [eu, show (8 : Int32) = nI 8 from rfl, eq_nI (by omega) (by omega)] at q; omega
    · intro xh' hx
      obtain ⟨z, cc, rfl⟩ := hx
      refine ⟨(nx + 1) % 8, cnt + 1, by omega, by omega, by rw [Nat.min_eq_left (by omega)], rfl, fun i hi => ?_⟩
      by_cases e : i = cnt
      · subst e
        refine ⟨z, cpC cc c, ?_, ?_⟩
        · rw [show ((nx + 1) % 8 + 8 - (i + 1) + i) % 8 = nx by omega, up_same]
        · dsimp only
          rw [up_same, up_same]
          exact rC_cong (rC_cp hC) (fun j hj => cpD_in (by omega)) (fun j hj => cpL_in hj)
      · obtain ⟨z2, c2, g1, g2⟩ := hrows i (by omega)
        refine ⟨z2, c2, ?_, ?_⟩
        · rw [show ((nx + 1) % 8 + 8 - (cnt + 1) + i) % 8 = (nx + 8 - cnt + i) % 8 by omega, up_ne _ _ (by omega)]
          exact g1
        · dsimp only
          rw [up_ne _ _ e, up_ne _ _ e]
          exact g2
  · have e8 : cnt = 8 := by omega
    subst e8
    refine ⟨(nI ((nx + 1) % 8), nI (min (8 + 1) 8)), nI 8, (va_up (fun i => if i < 7 then cpD (mh.1 (i + 1)) (mh.1 i) else mh.1 i) 7 (cpD u.2.2.2.2.2.2.2.2.1 (mh.1 7)), va_up (fun i => if i < 7 then cpL (mh.2 (i + 1)) (mh.2 i) else mh.2 i) 7 (cpL u.2.2.2.2.2.2.2.2.2.2.2.1 (mh.2 7))), fun xh' => ∃ z cc, xh' = va_up xh nx (some (z, cpC cc c)), hcls, ?_, ?_⟩
    · intro post hp
      refine ⟨fun q => absurd eu q, fun _ => ?_⟩
      refine zl_seq (fun k => (nI (k + 1), ((fun i => if i < k then cpD (mh.1 (i + 1)) (mh.1 i) else mh.1 i), (fun i => if i < k then cpL (mh.2 (i + 1)) (mh.2 i) else mh.2 i)))) 7 ?_ ?_ ?_
      · show _ = (nI 1, ((fun i => if i < 0 then cpD (mh.1 (i + 1)) (mh.1 i) else mh.1 i), (fun i => if i < 0 then cpL (mh.2 (i + 1)) (mh.2 i) else mh.2 i)))
        simp only [Nat.not_lt_zero, if_false]
        rfl
      · intro k hk K hK
        have ep : nI (k + 1) - 1 = nI k := nI_pred k
        refine ⟨fun q => ?_, fun _ => ?_⟩
        · dsimp only at q
          rw [show (8 : Int32) = nI 8 from rfl, le_nI (by omega) (by omega)] at q; omega
        · dsimp only
          rw [ep, cl_nI (by omega), cl_nI (by omega), ix_1]
          refine ⟨in_of (by omega) (by omega), in_of (by omega) (by omega), q_copy _ _ _ (q_copyLongs _ _ _ ?_)⟩
          dsimp only
          have f1 : va_up (va_up (fun i => if i < k then cpD (mh.1 (i + 1)) (mh.1 i) else mh.1 i) (k + 1) (if k + 1 < k then cpD (mh.1 (k + 1 + 1)) (mh.1 (k + 1)) else mh.1 (k + 1))) k (fun j => if j < 1728 then (if k + 1 < k then cpD (mh.1 (k + 1 + 1)) (mh.1 (k + 1)) else mh.1 (k + 1)) j else (if k < k then cpD (mh.1 (k + 1)) (mh.1 k) else mh.1 k) j) = fun i => if i < k + 1 then cpD (mh.1 (i + 1)) (mh.1 i) else mh.1 i := by
            funext i
            rw [if_neg (show ¬ k + 1 < k by omega), if_neg (show ¬ k < k by omega)]
            by_cases e : i = k
            · subst e; rw [up_same, if_pos (by omega)]; rfl
            · rw [up_ne _ _ e]
              by_cases e2 : i = k + 1
              · subst e2; rw [up_same, if_neg (by omega)]
              · rw [up_ne _ _ e2]
                by_cases e3 : i < k
                · rw [if_pos e3, if_pos (by omega)]
                · rw [if_neg e3, if_neg (by omega)]
          have f2 : va_up (va_up (fun i => if i < k then cpL (mh.2 (i + 1)) (mh.2 i) else mh.2 i) (k + 1) (if k + 1 < k then cpL (mh.2 (k + 1 + 1)) (mh.2 (k + 1)) else mh.2 (k + 1))) k (fun j => if j < 40 then (if k + 1 < k then cpL (mh.2 (k + 1 + 1)) (mh.2 (k + 1)) else mh.2 (k + 1)) j else (if k < k then cpL (mh.2 (k + 1)) (mh.2 k) else mh.2 k) j) = fun i => if i < k + 1 then cpL (mh.2 (i + 1)) (mh.2 i) else mh.2 i := by
            funext i
            rw [if_neg (show ¬ k + 1 < k by omega), if_neg (show ¬ k < k by omega)]
            by_cases e : i = k
            · subst e; rw [up_same, if_pos (by omega)]; rfl
            · rw [up_ne _ _ e]
              by_cases e2 : i = k + 1
              · subst e2; rw [up_same, if_neg (by omega)]
              · rw [up_ne _ _ e2]
                by_cases e3 : i < k
                · rw [if_pos e3, if_pos (by omega)]
                · rw [if_neg e3, if_neg (by omega)]
          rw [f1, f2]
          exact hK
      · intro K
        refine ⟨fun _ => ?_, fun q => absurd (show (8 : Int32) ≤ nI (7 + 1) by decide) q⟩
        refine q_tail (u.1, u.2.1, u.2.2.1, u.2.2.2.1, u.2.2.2.2.1, u.2.2.2.2.2.1, u.2.2.2.2.2.2.1, u.2.2.2.2.2.2.2.1, u.2.2.2.2.2.2.2.2.1, u.2.2.2.2.2.2.2.2.2.1, u.2.2.2.2.2.2.2.2.2.2.1, u.2.2.2.2.2.2.2.2.2.2.2.1, u.2.2.2.2.2.2.2.2.2.2.2.2.1, (u.2.2.2.2.2.2.2.2.2.2.2.2.2.1 - 1), u.2.2.2.2.2.2.2.2.2.2.2.2.2.2.1, u.2.2.2.2.2.2.2.2.2.2.2.2.2.2.2.1, u.2.2.2.2.2.2.2.2.2.2.2.2.2.2.2.2.1, u.2.2.2.2.2.2.2.2.2.2.2.2.2.2.2.2.2.1, u.2.2.2.2.2.2.2.2.2.2.2.2.2.2.2.2.2.2.1, u.2.2.2.2.2.2.2.2.2.2.2.2.2.2.2.2.2.2.2.1, u.2.2.2.2.2.2.2.2.2.2.2.2.2.2.2.2.2.2.2.2.1, u.2.2.2.2.2.2.2.2.2.2.2.2.2.2.2.2.2.2.2.2.2) _ 7 (by omega) (by show u.2.2.2.2.2.2.2.2.2.2.2.2.2.1 - 1 = nI 7; rw [eu]; exact nI_pred 7) post ?_
        exact hp
    · intro xh' hx
      obtain ⟨z, cc, rfl⟩ := hx
      refine ⟨(nx + 1) % 8, 8, by omega, by omega, by rw [Nat.min_eq_right (by omega)], rfl, fun i hi => ?_⟩
      by_cases e : i = 7
      · subst e
        refine ⟨z, cpC cc c, ?_, ?_⟩
        · rw [show ((nx + 1) % 8 + 8 - 8 + 7) % 8 = nx by omega, up_same]
        · dsimp only
          rw [up_same, up_same]
          exact rC_cong (rC_cp hC) (fun j hj => cpD_in (by omega)) (fun j hj => cpL_in hj)
      · obtain ⟨z2, c2, g1, g2⟩ := hrows (i + 1) (by omega)
        refine ⟨z2, c2, ?_, ?_⟩
        · rw [show ((nx + 1) % 8 + 8 - 8 + i) % 8 = (nx + 8 - 8 + (i + 1)) % 8 by omega, up_ne _ _ (by omega)]
          exact g1
        · dsimp only
          rw [up_ne _ _ e, up_ne _ _ e, if_pos (by omega), if_pos (by omega)]
          exact rC_cong g2 (fun j hj => cpD_in (by omega)) (fun j hj => cpL_in hj)
