/-! close. -/
theorem C_28 : caseOK wl_28 := by
  intro v h x1 x2 x3 x4 x5 K hK
  obtain ⟨o, x9, ⟨t, ⟨clk, re, fc, od, op, mi, iv⟩, br⟩, h4, x6, inp, d3, dr, x8, st, tr, mm, mh, xh⟩ := v
  obtain ⟨hC, hE, hX, hDr, hH⟩ := id h
  obtain ⟨ht, bt, ⟨n, k, hn, htn, hk, hclk, ra, ba, hi⟩, ⟨m, w, hw, hw4, rb, bb⟩⟩ := id hC
  dsimp only at ht bt htn hclk ra ba hi hw rb bb hC hE hX hDr hH
  subst hclk
  have hd0 : mm.2.2.2.2.2.2.2.2.1 0 = nI n := by rw [← ht.1.1]; exact htn
  have hd1 : mm.2.2.2.2.2.2.2.2.1 1 = nI k := ra.1.symm
  refine ⟨fun q => ?_, fun q => ⟨rfl, ⟨fun _ => ⟨fun q2 => absurd rfl q2, fun _ => q_fails1 (u := ((0 : Int32), mm.2.1, mm.2.2.1, mm.2.2.2.1, mm.2.2.2.2.1, mm.2.2.2.2.2.1, mm.2.2.2.2.2.2.1, mm.2.2.2.2.2.2.2.1, mm.2.2.2.2.2.2.2.2.1, mm.2.2.2.2.2.2.2.2.2.1, mm.2.2.2.2.2.2.2.2.2.2.1, mm.2.2.2.2.2.2.2.2.2.2.2.1, mm.2.2.2.2.2.2.2.2.2.2.2.2.1, mm.2.2.2.2.2.2.2.2.2.2.2.2.2.1, mm.2.2.2.2.2.2.2.2.2.2.2.2.2.2.1, mm.2.2.2.2.2.2.2.2.2.2.2.2.2.2.2.1, mm.2.2.2.2.2.2.2.2.2.2.2.2.2.2.2.2.1, mm.2.2.2.2.2.2.2.2.2.2.2.2.2.2.2.2.2.1, mm.2.2.2.2.2.2.2.2.2.2.2.2.2.2.2.2.2.2.1, mm.2.2.2.2.2.2.2.2.2.2.2.2.2.2.2.2.2.2.2.1, mm.2.2.2.2.2.2.2.2.2.2.2.2.2.2.2.2.2.2.2.2.1, mm.2.2.2.2.2.2.2.2.2.2.2.2.2.2.2.2.2.2.2.2.2)) rfl (by decide) ⟨fun q2 => absurd q2 (by decide), fun _ => ⟨rfl, fun q2 => absurd q2 (by decide), fun _ => hK _ h⟩⟩⟩, fun q2 => ?_⟩⟩⟩
  · dsimp only at q
    rw [htn, lt_nI (by omega) (by omega)] at q
    obtain ⟨h4', ud', mh', Q, s1, s2, s3⟩ := P_keep (u := ((0 : Int32), mm.2.1, mm.2.2.1, mm.2.2.2.1, mm.2.2.2.2.1, mm.2.2.2.2.2.1, mm.2.2.2.2.2.2.1, mm.2.2.2.2.2.2.2.1, mm.2.2.2.2.2.2.2.2.1, mm.2.2.2.2.2.2.2.2.2.1, mm.2.2.2.2.2.2.2.2.2.2.1, mm.2.2.2.2.2.2.2.2.2.2.2.1, mm.2.2.2.2.2.2.2.2.2.2.2.2.1, mm.2.2.2.2.2.2.2.2.2.2.2.2.2.1, mm.2.2.2.2.2.2.2.2.2.2.2.2.2.2.1, mm.2.2.2.2.2.2.2.2.2.2.2.2.2.2.2.1, mm.2.2.2.2.2.2.2.2.2.2.2.2.2.2.2.2.1, mm.2.2.2.2.2.2.2.2.2.2.2.2.2.2.2.2.2.1, mm.2.2.2.2.2.2.2.2.2.2.2.2.2.2.2.2.2.2.1, mm.2.2.2.2.2.2.2.2.2.2.2.2.2.2.2.2.2.2.2.1, mm.2.2.2.2.2.2.2.2.2.2.2.2.2.2.2.2.2.2.2.2.1, mm.2.2.2.2.2.2.2.2.2.2.2.2.2.2.2.2.2.2.2.2.2)) hC hH
    obtain ⟨od', op', mi', X, Y, hX1, hY1, ba', g1, g2⟩ := p_close (a := (nI k, re, fc, od, op, mi, iv)) hn q rfl bt htn ba
    obtain ⟨d', g3, ra', g4⟩ := g2 re mm.2.2.2.2.2.2.2.2.1 rfl ht ra
    have hd1' : d' 1 = nI (k + 1) := ra'.1.symm
    refine s1 _ (fun xh' hQ => g1 re rfl _ ?_)
    refine ⟨fun q2 => ?_, fun _ => ⟨fun _ => q_fails0 (u := ((0 : Int32), mm.2.1, mm.2.2.1, mm.2.2.2.1, mm.2.2.2.2.1, mm.2.2.2.2.2.1, mm.2.2.2.2.2.2.1, mm.2.2.2.2.2.2.2.1, mm.2.2.2.2.2.2.2.2.1, mm.2.2.2.2.2.2.2.2.2.1, mm.2.2.2.2.2.2.2.2.2.2.1, mm.2.2.2.2.2.2.2.2.2.2.2.1, mm.2.2.2.2.2.2.2.2.2.2.2.2.1, mm.2.2.2.2.2.2.2.2.2.2.2.2.2.1, mm.2.2.2.2.2.2.2.2.2.2.2.2.2.2.1, mm.2.2.2.2.2.2.2.2.2.2.2.2.2.2.2.1, mm.2.2.2.2.2.2.2.2.2.2.2.2.2.2.2.2.1, mm.2.2.2.2.2.2.2.2.2.2.2.2.2.2.2.2.2.1, mm.2.2.2.2.2.2.2.2.2.2.2.2.2.2.2.2.2.2.1, mm.2.2.2.2.2.2.2.2.2.2.2.2.2.2.2.2.2.2.2.1, mm.2.2.2.2.2.2.2.2.2.2.2.2.2.2.2.2.2.2.2.2.1, mm.2.2.2.2.2.2.2.2.2.2.2.2.2.2.2.2.2.2.2.2.2)) rfl ⟨fun _ => s2 _ (g3 _ _ ?_), fun q2 => absurd rfl q2⟩, fun q2 => absurd q2 (by decide)⟩⟩
    · dsimp only at q2
      rw [hd0, hd1, le_nI (by omega) (by omega)] at q2; omega
    · dsimp only
      rw [hd1', nI_pred, cl_nI (by omega), updL_same]
      refine ⟨in_of (by omega) (by omega), rfl, fun _ => ⟨(updL_same _ _ _).symm, hK _ ?_⟩, fun q2 => absurd rfl q2⟩
      refine ⟨⟨rT_cong ht (fun i hi => g4 i (by omega)), bt, ⟨n, k + 1, hn, htn, by omega, rfl, ra', ba', fun p hp => ?_⟩, ⟨m, w, hw, hw4, rB_cong bb.1 rb (fun i hi => g4 i (by omega)), bb⟩⟩, hE, hX, hDr, s3 xh' hQ⟩
      by_cases e : p = k
      · subst e
        exact (updL_same _ _ _).trans (updL_same _ _ _).symm
      · exact (updL_ne _ _ e).trans ((hi p hp).trans (updL_ne _ _ e).symm)
  · dsimp only at q q2
    rw [htn, lt_nI (by omega) (by omega)] at q
    rw [hd0, hd1, le_nI (by omega) (by omega)] at q2; omega
