/-! waive. -/
theorem rB_waive {m b : Nat} {x : S_X1} {d : Nat → Int32} (h : rB m x d) (y : Int32) : rB m (x.1, x.2.1, y, x.2.2.2.1, x.2.2.2.2.1, x.2.2.2.2.2.1, (upd x.2.2.2.2.2.2 b 1)) (upd d (351 + 4 * b) 1) := by
  obtain ⟨h0, h1, h2, h3⟩ := h
  refine ⟨h0, ?_, ?_, fun k hk => ?_⟩
  · rw [upd_ne _ _ (by omega)]; exact h1
  · rw [upd_ne _ _ (by omega)]; exact h2
  · obtain ⟨a, b1, c, e⟩ := h3 k hk
    refine ⟨?_, ?_, ?_, ?_⟩
    · rw [upd_ne _ _ (by omega)]; exact a
    · rw [upd_ne _ _ (by omega)]; exact b1
    · rw [upd_ne _ _ (by omega)]; exact c
    · by_cases q : k = b
      · subst q
        dsimp only
        rw [upd_same, upd_same]
      · dsimp only
        rw [upd_ne _ _ q, upd_ne _ _ (by omega)]; exact e
theorem bB_waive {m v b : Nat} {x : S_X1} (h : bB m v x) (hb : b < m) (h0 : x.2.2.2.2.2.2 b = 0) (hv : wct x m < v) : bB m v (x.1, x.2.1, (x.2.2.1 + 1), x.2.2.2.1, x.2.2.2.2.1, x.2.2.2.2.2.1, (upd x.2.2.2.2.2.2 b 1)) := by
  obtain ⟨g0, g1, g2, g3, g4⟩ := h
  have e : wct (x.1, x.2.1, (x.2.2.1 + 1), x.2.2.2.1, x.2.2.2.2.1, x.2.2.2.2.2.1, (upd x.2.2.2.2.2.2 b 1)) m = wct x m + 1 := by
    have e1 := fb_ct_upd (fun k => decide (x.2.2.2.2.2.2 k = 1)) true hb
    rw [if_neg (by simp [h0]), if_pos rfl] at e1
    unfold wct
    refine Eq.trans (fb_ct_cong (fun k hk => ?_)) e1
    dsimp only
    by_cases q : k = b
    · subst q; rw [if_pos rfl]; exact decide_eq_true (upd_same _ _ _)
    · rw [if_neg q]; exact congrArg (fun y : Int32 => decide (y = 1)) (upd_ne _ _ q)
  refine ⟨g0, fun k hk => ?_, g2, ?_, ?_⟩
  · dsimp only
    by_cases q : k = b
    · subst q; rw [upd_same]; exact Or.inr rfl
    · rw [upd_ne _ _ q]; exact g1 k hk
  · rw [e]
    dsimp only
    rw [g3, ix_1]
  · rw [e]; omega
theorem C_30 : caseOK wl_30 := by
  intro v h x1 x2 x3 x4 x5 K hK
  obtain ⟨o, x9, ⟨t, a, br⟩, h4, x6, inp, d3, dr, x8, st, tr, mm, mh, xh⟩ := v
  obtain ⟨hC, hE, hX, hDr, hH⟩ := id h
  obtain ⟨ht, bt, ⟨n, k, hn, htn, hk, hclk, ra, ba, hi⟩, ⟨m, w, hw, hw4, rb, bb⟩⟩ := id hC
  dsimp only at ht bt htn hclk ra ba hi hw rb bb hC hE hX hDr hH
  have hm20 := bb.1
  have hd12 : mm.2.2.2.2.2.2.2.2.1 12 = nI m := by rw [← rb.2.1]; exact rb.1
  have hbad : x1 < 0 ∨ nI m ≤ x1 → wl_30 x1 x2 x3 x4 x5 (o, x9, (t, a, br), h4, x6, inp, d3, dr, x8, st, tr, mm, mh, xh) K := by
    intro q
    have hr : ∀ (post : Int32 → S_X10 × S_MH → Prop), post 0 (((1 : Int32), mm.2.1, mm.2.2.1, mm.2.2.2.1, mm.2.2.2.2.1, mm.2.2.2.2.2.1, mm.2.2.2.2.2.2.1, mm.2.2.2.2.2.2.2.1, mm.2.2.2.2.2.2.2.2.1, mm.2.2.2.2.2.2.2.2.2.1, mm.2.2.2.2.2.2.2.2.2.2.1, mm.2.2.2.2.2.2.2.2.2.2.2.1, mm.2.2.2.2.2.2.2.2.2.2.2.2.1, mm.2.2.2.2.2.2.2.2.2.2.2.2.2.1, mm.2.2.2.2.2.2.2.2.2.2.2.2.2.2.1, mm.2.2.2.2.2.2.2.2.2.2.2.2.2.2.2.1, mm.2.2.2.2.2.2.2.2.2.2.2.2.2.2.2.2.1, mm.2.2.2.2.2.2.2.2.2.2.2.2.2.2.2.2.2.1, mm.2.2.2.2.2.2.2.2.2.2.2.2.2.2.2.2.2.2.1, mm.2.2.2.2.2.2.2.2.2.2.2.2.2.2.2.2.2.2.2.1, mm.2.2.2.2.2.2.2.2.2.2.2.2.2.2.2.2.2.2.2.2.1, mm.2.2.2.2.2.2.2.2.2.2.2.2.2.2.2.2.2.2.2.2.2), mh) → wp_X10_waive mm mh x1 post := fun post hp => q_noBre1 (u := ((0 : Int32), mm.2.1, mm.2.2.1, mm.2.2.2.1, mm.2.2.2.2.1, mm.2.2.2.2.2.1, mm.2.2.2.2.2.2.1, mm.2.2.2.2.2.2.2.1, mm.2.2.2.2.2.2.2.2.1, mm.2.2.2.2.2.2.2.2.2.1, mm.2.2.2.2.2.2.2.2.2.2.1, mm.2.2.2.2.2.2.2.2.2.2.2.1, mm.2.2.2.2.2.2.2.2.2.2.2.2.1, mm.2.2.2.2.2.2.2.2.2.2.2.2.2.1, mm.2.2.2.2.2.2.2.2.2.2.2.2.2.2.1, mm.2.2.2.2.2.2.2.2.2.2.2.2.2.2.2.1, mm.2.2.2.2.2.2.2.2.2.2.2.2.2.2.2.2.1, mm.2.2.2.2.2.2.2.2.2.2.2.2.2.2.2.2.2.1, mm.2.2.2.2.2.2.2.2.2.2.2.2.2.2.2.2.2.2.1, mm.2.2.2.2.2.2.2.2.2.2.2.2.2.2.2.2.2.2.2.1, mm.2.2.2.2.2.2.2.2.2.2.2.2.2.2.2.2.2.2.2.2.1, mm.2.2.2.2.2.2.2.2.2.2.2.2.2.2.2.2.2.2.2.2.2)) (by omega) rfl hd12 q ⟨fun _ => hp, fun q2 => absurd q2 (by decide)⟩
    refine ⟨fun _ => Or.inl ⟨rfl, hr _ ⟨rfl, fun q2 => absurd q2 (by decide), fun _ => hK _ h⟩⟩, fun q1 => ⟨fun q2 => ?_, fun _ => Or.inl ⟨rfl, hr _ ⟨rfl, fun q2 => absurd q2 (by decide), fun _ => hK _ h⟩⟩⟩⟩
    rcases q with q | q
    · exact absurd q q1
    · dsimp only at q2
      rw [rb.1] at q2; exact absurd q (fa_of_lt q2).2.1
  rcases pk_ix x1 (n := m) (by omega) with q | q | ⟨j, hj, e⟩
  · exact hbad (Or.inl q)
  · exact hbad (Or.inr q)
  · subst e
    obtain ⟨G, hG4, hG⟩ := bt.2.2.2.2.2.2.2.2.2.1
    have hdv : mm.2.2.2.2.2.2.2.2.1 9 = nI w := by rw [← ht.1.2.2.2.2.2.2.2.2.1]; exact hw
    have hdG : mm.2.2.2.2.2.2.2.2.1 10 = nI G := by rw [← ht.1.2.2.2.2.2.2.2.2.2.1]; exact hG
    have hcl : (nI j).toNatClampNeg = j := cl_nI (by omega)
    refine ⟨fun q => absurd q (nI_pos (by omega)), fun _ => ⟨fun _ => q_canC bb rb.1 hw hw4 hG hG4 hj ?_, fun q => absurd (show nI j < br.1 by rw [rb.1]; exact nI_lt hj (by omega)) q⟩⟩
    have hrf : ∀ (post : Int32 → S_X10 × S_MH → Prop), ((cwB br m w G j = true → j_X10_waive_27 (nI j) 0 ((0 : Int32), mm.2.1, mm.2.2.1, mm.2.2.2.1, mm.2.2.2.2.1, mm.2.2.2.2.2.1, mm.2.2.2.2.2.2.1, mm.2.2.2.2.2.2.2.1, mm.2.2.2.2.2.2.2.2.1, mm.2.2.2.2.2.2.2.2.2.1, mm.2.2.2.2.2.2.2.2.2.2.1, mm.2.2.2.2.2.2.2.2.2.2.2.1, mm.2.2.2.2.2.2.2.2.2.2.2.2.1, mm.2.2.2.2.2.2.2.2.2.2.2.2.2.1, mm.2.2.2.2.2.2.2.2.2.2.2.2.2.2.1, mm.2.2.2.2.2.2.2.2.2.2.2.2.2.2.2.1, mm.2.2.2.2.2.2.2.2.2.2.2.2.2.2.2.2.1, mm.2.2.2.2.2.2.2.2.2.2.2.2.2.2.2.2.2.1, mm.2.2.2.2.2.2.2.2.2.2.2.2.2.2.2.2.2.2.1, mm.2.2.2.2.2.2.2.2.2.2.2.2.2.2.2.2.2.2.2.1, mm.2.2.2.2.2.2.2.2.2.2.2.2.2.2.2.2.2.2.2.2.1, mm.2.2.2.2.2.2.2.2.2.2.2.2.2.2.2.2.2.2.2.2.2) mh post) ∧ (cwB br m w G j = false → post 0 (((2 : Int32), mm.2.1, mm.2.2.1, mm.2.2.2.1, mm.2.2.2.2.1, mm.2.2.2.2.2.1, mm.2.2.2.2.2.2.1, mm.2.2.2.2.2.2.2.1, mm.2.2.2.2.2.2.2.2.1, mm.2.2.2.2.2.2.2.2.2.1, mm.2.2.2.2.2.2.2.2.2.2.1, mm.2.2.2.2.2.2.2.2.2.2.2.1, mm.2.2.2.2.2.2.2.2.2.2.2.2.1, mm.2.2.2.2.2.2.2.2.2.2.2.2.2.1, mm.2.2.2.2.2.2.2.2.2.2.2.2.2.2.1, mm.2.2.2.2.2.2.2.2.2.2.2.2.2.2.2.1, mm.2.2.2.2.2.2.2.2.2.2.2.2.2.2.2.2.1, mm.2.2.2.2.2.2.2.2.2.2.2.2.2.2.2.2.2.1, mm.2.2.2.2.2.2.2.2.2.2.2.2.2.2.2.2.2.2.1, mm.2.2.2.2.2.2.2.2.2.2.2.2.2.2.2.2.2.2.2.1, mm.2.2.2.2.2.2.2.2.2.2.2.2.2.2.2.2.2.2.2.2.1, mm.2.2.2.2.2.2.2.2.2.2.2.2.2.2.2.2.2.2.2.2.2), mh))) → wp_X10_waive mm mh (nI j) post := by
      intro post hp
      refine q_noBre0 (u := ((0 : Int32), mm.2.1, mm.2.2.1, mm.2.2.2.1, mm.2.2.2.2.1, mm.2.2.2.2.2.1, mm.2.2.2.2.2.2.1, mm.2.2.2.2.2.2.2.1, mm.2.2.2.2.2.2.2.2.1, mm.2.2.2.2.2.2.2.2.2.1, mm.2.2.2.2.2.2.2.2.2.2.1, mm.2.2.2.2.2.2.2.2.2.2.2.1, mm.2.2.2.2.2.2.2.2.2.2.2.2.1, mm.2.2.2.2.2.2.2.2.2.2.2.2.2.1, mm.2.2.2.2.2.2.2.2.2.2.2.2.2.2.1, mm.2.2.2.2.2.2.2.2.2.2.2.2.2.2.2.1, mm.2.2.2.2.2.2.2.2.2.2.2.2.2.2.2.2.1, mm.2.2.2.2.2.2.2.2.2.2.2.2.2.2.2.2.2.1, mm.2.2.2.2.2.2.2.2.2.2.2.2.2.2.2.2.2.2.1, mm.2.2.2.2.2.2.2.2.2.2.2.2.2.2.2.2.2.2.2.1, mm.2.2.2.2.2.2.2.2.2.2.2.2.2.2.2.2.2.2.2.2.1, mm.2.2.2.2.2.2.2.2.2.2.2.2.2.2.2.2.2.2.2.2.2)) (by omega) rfl hd12 hj ⟨fun q => absurd rfl q, fun _ => q_canM (u := ((0 : Int32), mm.2.1, mm.2.2.1, mm.2.2.2.1, mm.2.2.2.2.1, mm.2.2.2.2.2.1, mm.2.2.2.2.2.2.1, mm.2.2.2.2.2.2.2.1, mm.2.2.2.2.2.2.2.2.1, mm.2.2.2.2.2.2.2.2.2.1, mm.2.2.2.2.2.2.2.2.2.2.1, mm.2.2.2.2.2.2.2.2.2.2.2.1, mm.2.2.2.2.2.2.2.2.2.2.2.2.1, mm.2.2.2.2.2.2.2.2.2.2.2.2.2.1, mm.2.2.2.2.2.2.2.2.2.2.2.2.2.2.1, mm.2.2.2.2.2.2.2.2.2.2.2.2.2.2.2.1, mm.2.2.2.2.2.2.2.2.2.2.2.2.2.2.2.2.1, mm.2.2.2.2.2.2.2.2.2.2.2.2.2.2.2.2.2.1, mm.2.2.2.2.2.2.2.2.2.2.2.2.2.2.2.2.2.2.1, mm.2.2.2.2.2.2.2.2.2.2.2.2.2.2.2.2.2.2.2.1, mm.2.2.2.2.2.2.2.2.2.2.2.2.2.2.2.2.2.2.2.2.1, mm.2.2.2.2.2.2.2.2.2.2.2.2.2.2.2.2.2.2.2.2.2)) bb rb hdv hw4 hdG hG4 hj ?_⟩
      cases hcw : cwB br m w G j with
      | true => exact ⟨fun _ => hp.1 hcw, fun q => absurd q (by decide)⟩
      | false => exact ⟨fun q => absurd rfl q, fun _ => q_fails1 (u := ((0 : Int32), mm.2.1, mm.2.2.1, mm.2.2.2.1, mm.2.2.2.2.1, mm.2.2.2.2.2.1, mm.2.2.2.2.2.2.1, mm.2.2.2.2.2.2.2.1, mm.2.2.2.2.2.2.2.2.1, mm.2.2.2.2.2.2.2.2.2.1, mm.2.2.2.2.2.2.2.2.2.2.1, mm.2.2.2.2.2.2.2.2.2.2.2.1, mm.2.2.2.2.2.2.2.2.2.2.2.2.1, mm.2.2.2.2.2.2.2.2.2.2.2.2.2.1, mm.2.2.2.2.2.2.2.2.2.2.2.2.2.2.1, mm.2.2.2.2.2.2.2.2.2.2.2.2.2.2.2.1, mm.2.2.2.2.2.2.2.2.2.2.2.2.2.2.2.2.1, mm.2.2.2.2.2.2.2.2.2.2.2.2.2.2.2.2.2.1, mm.2.2.2.2.2.2.2.2.2.2.2.2.2.2.2.2.2.2.1, mm.2.2.2.2.2.2.2.2.2.2.2.2.2.2.2.2.2.2.2.1, mm.2.2.2.2.2.2.2.2.2.2.2.2.2.2.2.2.2.2.2.2.1, mm.2.2.2.2.2.2.2.2.2.2.2.2.2.2.2.2.2.2.2.2.2)) rfl (by decide) ⟨fun q2 => absurd q2 (by decide), fun _ => hp.2 hcw⟩⟩
    cases hcw : cwB br m w G j with
    | false =>
      refine ⟨fun q => absurd rfl q, fun _ => Or.inr ⟨rfl, hrf _ ⟨fun q => absurd (hcw.symm.trans q) (by decide), fun _ => ⟨rfl, fun q2 => absurd q2 (by decide), fun _ => hK _ h⟩⟩⟩⟩
    | true =>
      have hc2 := hcw
      unfold cwB at hc2
      rw [Bool.and_eq_true, Bool.and_eq_true] at hc2
      have hw0 := of_decide_eq_true hc2.1
      have hwv := of_decide_eq_true hc2.2.1
      obtain ⟨h4', ud', mh', Q, s1, s2, s3⟩ := P_keep (u := ((0 : Int32), mm.2.1, mm.2.2.1, mm.2.2.2.1, mm.2.2.2.2.1, mm.2.2.2.2.2.1, mm.2.2.2.2.2.2.1, mm.2.2.2.2.2.2.2.1, mm.2.2.2.2.2.2.2.2.1, mm.2.2.2.2.2.2.2.2.2.1, mm.2.2.2.2.2.2.2.2.2.2.1, mm.2.2.2.2.2.2.2.2.2.2.2.1, mm.2.2.2.2.2.2.2.2.2.2.2.2.1, mm.2.2.2.2.2.2.2.2.2.2.2.2.2.1, mm.2.2.2.2.2.2.2.2.2.2.2.2.2.2.1, mm.2.2.2.2.2.2.2.2.2.2.2.2.2.2.2.1, mm.2.2.2.2.2.2.2.2.2.2.2.2.2.2.2.2.1, mm.2.2.2.2.2.2.2.2.2.2.2.2.2.2.2.2.2.1, mm.2.2.2.2.2.2.2.2.2.2.2.2.2.2.2.2.2.2.1, mm.2.2.2.2.2.2.2.2.2.2.2.2.2.2.2.2.2.2.2.1, mm.2.2.2.2.2.2.2.2.2.2.2.2.2.2.2.2.2.2.2.2.1, mm.2.2.2.2.2.2.2.2.2.2.2.2.2.2.2.2.2.2.2.2.2)) hC hH
      refine ⟨fun _ => s1 _ (fun xh' hQ => ?_), fun q => absurd q (by decide)⟩
      have ein : vp_in (nI j) 20 := in_of (by omega) (by omega)
      refine ⟨ein, fun x_2 e2 => ⟨ein, ?_⟩⟩
      dsimp only at e2 ⊢
      subst e2
      rw [hcl, nar1]
      refine hrf _ ⟨fun _ => q_fails0 (u := ((0 : Int32), mm.2.1, mm.2.2.1, mm.2.2.2.1, mm.2.2.2.2.1, mm.2.2.2.2.2.1, mm.2.2.2.2.2.2.1, mm.2.2.2.2.2.2.2.1, mm.2.2.2.2.2.2.2.2.1, mm.2.2.2.2.2.2.2.2.2.1, mm.2.2.2.2.2.2.2.2.2.2.1, mm.2.2.2.2.2.2.2.2.2.2.2.1, mm.2.2.2.2.2.2.2.2.2.2.2.2.1, mm.2.2.2.2.2.2.2.2.2.2.2.2.2.1, mm.2.2.2.2.2.2.2.2.2.2.2.2.2.2.1, mm.2.2.2.2.2.2.2.2.2.2.2.2.2.2.2.1, mm.2.2.2.2.2.2.2.2.2.2.2.2.2.2.2.2.1, mm.2.2.2.2.2.2.2.2.2.2.2.2.2.2.2.2.2.1, mm.2.2.2.2.2.2.2.2.2.2.2.2.2.2.2.2.2.2.1, mm.2.2.2.2.2.2.2.2.2.2.2.2.2.2.2.2.2.2.2.1, mm.2.2.2.2.2.2.2.2.2.2.2.2.2.2.2.2.2.2.2.2.1, mm.2.2.2.2.2.2.2.2.2.2.2.2.2.2.2.2.2.2.2.2.2)) rfl ⟨fun _ => s2 _ ?_, fun q => absurd rfl q⟩, fun q => absurd (hcw.symm.trans q) (by decide)⟩
      have i3 : (348 : Int32) + 4 * nI j + 3 = nI (351 + 4 * j) := by rw [ix_bre, ix_3]; congr 1; omega
      have i2 : (348 : Int32) + 4 * nI j + 2 = nI (350 + 4 * j) := by rw [ix_bre, ix_2]; congr 1; omega
      unfold wp_X10_breach
      dsimp only
      rw [i3]
      refine ⟨in_of (by omega) (by omega), ?_⟩
      rw [i2]
      refine ⟨in_of (by omega) (by omega), ?_⟩
      rw [cl_nI (by omega), cl_nI (by omega), upd_ne _ _ (by omega)]
      refine ⟨rfl, fun _ => ⟨?_, hK _ ?_⟩, fun q => absurd rfl q⟩
      · rw [updL_same]
        exact congrArg Int32.toInt64 (rb.2.2.2 j hj).2.2.1
      · refine ⟨⟨?_, bt, ⟨n, k, hn, htn, hk, hclk, ?_, ba, hi⟩, ⟨m, w, hw, hw4, rB_waive rb _, bB_waive bb hj hw0 hwv⟩⟩, hE, hX, hDr, s3 xh' hQ⟩
        · exact rT_cong ht (fun i hi => upd_ne _ _ (by omega))
        · exact rA_cong hn ra (fun i hi => upd_ne _ _ (by omega))
