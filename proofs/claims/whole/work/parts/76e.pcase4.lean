/-! undo. -/
theorem C_31 : caseOK wl_31 := by
  intro v h x1 x2 x3 x4 x5 K hK
  obtain ⟨o, x9, c, h4, x6, inp, d3, dr, x8, st, tr, mm, mh, xh⟩ := v
  obtain ⟨hC, hE, hX, hDr, hH⟩ := id h
  dsimp only at hC hE hX hDr hH
  obtain ⟨nx, cnt, hnx, hcnt, e4, eu, hrows⟩ := hH
  subst e4
  intro x ex
  have ex2 : x = nI ((nx + 7) % 8) := by
    rw [ex]
    dsimp only
    rw [show (8 : Int32) = nI 8 from rfl, nI_add, show (1 : Int32) = nI 1 from rfl, pk_sub (by omega), pk_rem (by omega) (by omega) (by omega)]
    congr 1
  subst ex2
  clear ex
  have hcl : (nI ((nx + 7) % 8)).toNatClampNeg = (nx + 7) % 8 := cl_nI (by omega)
  rw [hcl]
  refine ⟨in_of (by omega) (by omega), fun q => ?_, fun q => ?_, fun q => ?_⟩
  · dsimp only at q
    have q9 : mm.2.2.2.2.2.2.2.2.2.2.2.2.2.1 = 0 := eu.trans q
    exact ⟨fun _ => ⟨rfl, hK _ h⟩, fun q2 => absurd q9 q2⟩
  · dsimp only at q
    have hc1 : cnt ≠ 0 := fun e => q (by rw [e]; rfl)
    obtain ⟨z2, c2, r1, -⟩ := hrows (cnt - 1) (by omega)
    rw [show (nx + 8 - cnt + (cnt - 1)) % 8 = (nx + 7) % 8 by omega] at r1
    intro q2
    dsimp only at q2
    rw [r1] at q2
    exact absurd q2 (by simp)
  · dsimp only at q
    have hc1 : cnt ≠ 0 := fun e => q (by rw [e]; rfl)
    obtain ⟨z2, c2, r1, rc⟩ := hrows (cnt - 1) (by omega)
    rw [show (nx + 8 - cnt + (cnt - 1)) % 8 = (nx + 7) % 8 by omega] at r1
    intro z cc q2
    dsimp only at q2
    rw [r1] at q2
    cases q2
    obtain ⟨-, -, -, ⟨m, w, -, -, -, bb⟩⟩ := id rc
    refine q_copyC bb ?_
    have e1 : nI cnt - 1 = nI (cnt - 1) := by rw [show (1 : Int32) = nI 1 from rfl, pk_sub (by omega)]
    have eu1 : mm.2.2.2.2.2.2.2.2.2.2.2.2.2.1 - 1 = nI (cnt - 1) := by rw [eu]; exact e1
    refine ⟨fun q9 => absurd (eu.symm.trans q9) q, fun _ => ?_⟩
    rw [eu1, cl_nI (by omega)]
    dsimp only
    rw [e1]
    refine ⟨in_of (by omega) (by omega), q_copy _ _ _ (q_copyLongs _ _ _ ⟨rfl, hK _ ?_⟩)⟩
    refine ⟨?_, hE, hX, hDr, ⟨(nx + 7) % 8, cnt - 1, by omega, by omega, rfl, rfl, fun i hi => ?_⟩⟩
    · exact rC_cong (rC_cp rc) (fun i hi => cpD_in (by omega)) (fun p hp => cpL_in hp)
    · obtain ⟨z3, c3, r3, rc3⟩ := hrows i (by omega)
      refine ⟨z3, c3, ?_, ?_⟩
      · dsimp only
        rw [show ((nx + 7) % 8 + 8 - (cnt - 1) + i) % 8 = (nx + 8 - cnt + i) % 8 by omega, up_ne _ _ (by omega)]
        exact r3
      · dsimp only
        rw [up_ne _ _ (by omega), up_ne _ _ (by omega)]
        exact rc3
