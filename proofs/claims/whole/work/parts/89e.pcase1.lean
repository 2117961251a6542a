/-! The case load. -/
theorem read_eq (x6 : S_X6) (x : S_X5) (x3 : S_X3) (c : S_X2) (y : Int32) (post : Int32 → S_X6 × S_X5 × S_X3 × S_X2 → Prop) : wp_X6_read x6 x x3 c y post = wp_X5_advance (x.1, x.2.1, y, (0 : Int32), x.2.2.2.2.1, x.2.2.2.2.2.1, x.2.2.2.2.2.2.1, (0 : Int32), (-1 : Int32)) (fun u_1 => wp_X6_readContract ((0 : Int32), x6.2) u_1 (clT c.1, c.2.1, c.2.2) (fun u_5 => ∃ m, zl (fun K st => j_X6_read_29 K st.1 st.2.1 st.2.2.1 st.2.2.2.1 st.2.2.2.2.1 st.2.2.2.2.2 post) m (y, (0 : Int32), u_5.1, u_5.2.1, x3, u_5.2.2))) := rfl
theorem r_load {u : S_X10} {mh : S_MH} {n f : Nat} (hnf : n ≤ f) (hf8 : f ≤ 800) (hbl : u.2.2.1 = nI f) {post : Int32 → S_X10 × S_MH → Prop} (hp : ∀ D', (∀ i, i < 1728 → D' i = 0) → wp_X10_readContract ((0 : Int32), u.2.1, (0 : Int32), (nI n), (0 : Int32), (0 : Int32), (-1 : Int32), u.2.2.2.2.2.2.2.1, u.2.2.2.2.2.2.2.2.1, D', u.2.2.2.2.2.2.2.2.2.2.1, u.2.2.2.2.2.2.2.2.2.2.2.1, u.2.2.2.2.2.2.2.2.2.2.2.2.1, u.2.2.2.2.2.2.2.2.2.2.2.2.2.1, u.2.2.2.2.2.2.2.2.2.2.2.2.2.2.1, (0 : Int32), (0 : Int32), u.2.2.2.2.2.2.2.2.2.2.2.2.2.2.2.2.2.1, u.2.2.2.2.2.2.2.2.2.2.2.2.2.2.2.2.2.2.1, u.2.2.2.2.2.2.2.2.2.2.2.2.2.2.2.2.2.2.2.1, u.2.2.2.2.2.2.2.2.2.2.2.2.2.2.2.2.2.2.2.2.1, u.2.2.2.2.2.2.2.2.2.2.2.2.2.2.2.2.2.2.2.2.2) (fun u_8 => ∃ m, zl (fun K st => j_X10_load_93 K st.1 st.2 post) m (u_8, mh))) : wp_X10_load u mh (nI n) post := by
  unfold wp_X10_load
  rw [hbl]
  refine q_in1 (nI_pos (by omega)) (fun q => by rw [lt_nI (by omega) (by omega)] at q; omega) ⟨fun _ => ?_, fun q => absurd q (by decide)⟩
  refine q_fails0 (u := ((0 : Int32), u.2.1, (nI f), u.2.2.2.1, u.2.2.2.2.1, u.2.2.2.2.2.1, u.2.2.2.2.2.2.1, u.2.2.2.2.2.2.2.1, u.2.2.2.2.2.2.2.2.1, u.2.2.2.2.2.2.2.2.2.1, u.2.2.2.2.2.2.2.2.2.2.1, u.2.2.2.2.2.2.2.2.2.2.2.1, u.2.2.2.2.2.2.2.2.2.2.2.2.1, u.2.2.2.2.2.2.2.2.2.2.2.2.2.1, u.2.2.2.2.2.2.2.2.2.2.2.2.2.2.1, u.2.2.2.2.2.2.2.2.2.2.2.2.2.2.2.1, u.2.2.2.2.2.2.2.2.2.2.2.2.2.2.2.2.1, u.2.2.2.2.2.2.2.2.2.2.2.2.2.2.2.2.2.1, u.2.2.2.2.2.2.2.2.2.2.2.2.2.2.2.2.2.2.1, u.2.2.2.2.2.2.2.2.2.2.2.2.2.2.2.2.2.2.2.1, u.2.2.2.2.2.2.2.2.2.2.2.2.2.2.2.2.2.2.2.2.1, u.2.2.2.2.2.2.2.2.2.2.2.2.2.2.2.2.2.2.2.2.2)) rfl ⟨fun _ => ?_, fun q => absurd rfl q⟩
  refine zl_for (fun k D => (nI k, ((0 : Int32), u.2.1, (0 : Int32), (nI n), (0 : Int32), (0 : Int32), (-1 : Int32), u.2.2.2.2.2.2.2.1, u.2.2.2.2.2.2.2.2.1, D, u.2.2.2.2.2.2.2.2.2.2.1, u.2.2.2.2.2.2.2.2.2.2.2.1, u.2.2.2.2.2.2.2.2.2.2.2.2.1, u.2.2.2.2.2.2.2.2.2.2.2.2.2.1, u.2.2.2.2.2.2.2.2.2.2.2.2.2.2.1, (0 : Int32), (0 : Int32), u.2.2.2.2.2.2.2.2.2.2.2.2.2.2.2.2.2.1, u.2.2.2.2.2.2.2.2.2.2.2.2.2.2.2.2.2.2.1, u.2.2.2.2.2.2.2.2.2.2.2.2.2.2.2.2.2.2.2.1, u.2.2.2.2.2.2.2.2.2.2.2.2.2.2.2.2.2.2.2.2.1, u.2.2.2.2.2.2.2.2.2.2.2.2.2.2.2.2.2.2.2.2.2), mh)) (fun k D => upd D k (0 : Int32)) 1728 u.2.2.2.2.2.2.2.2.2.1 rfl ?_ ?_
  · intro k hk K hK
    refine ⟨fun h1 => ?_, fun _ => ⟨in_of hk (by omega), fun x11 e11 => ?_⟩⟩
    · dsimp only at h1
      rw [show (1728 : Int32) = nI 1728 from rfl, le_nI (by omega) (by omega)] at h1; omega
    · dsimp only at e11 ⊢
      rw [ix_1] at e11
      subst e11
      rw [cl_nI (by omega)]
      exact hK
  · intro K
    refine ⟨fun _ => ?_, fun h1 => absurd ((le_nI (a := 1728) (b := 1728) (by omega) (by omega)).mpr (Nat.le_refl _)) h1⟩
    rw [fo_fill (fun _ => (0 : Int32))]
    exact hp _ (fun i hi => if_pos hi)
theorem C_1 : caseOK wl_1 := by
  intro v h x1 x2 x3 x4 x5 K hK
  obtain ⟨o, x9, c, h4, x6, inp, d3, ⟨t0, a0, br⟩, x8, st, tr, mm, mh, xh⟩ := v
  obtain ⟨hC, hE, ⟨f, hf, ef, em, hb⟩, hDr, hH⟩ := id h
  dsimp only at hC hE ef em hb hDr hH
  by_cases q1 : x1 < 0 ∨ nI (f + 1) ≤ x1
  · have hr : ∀ (post : Int32 → S_X10 × S_MH → Prop), post 0 (((1 : Int32), mm.2.1, mm.2.2.1, mm.2.2.2.1, mm.2.2.2.2.1, mm.2.2.2.2.2.1, mm.2.2.2.2.2.2.1, mm.2.2.2.2.2.2.2.1, mm.2.2.2.2.2.2.2.2.1, mm.2.2.2.2.2.2.2.2.2.1, mm.2.2.2.2.2.2.2.2.2.2.1, mm.2.2.2.2.2.2.2.2.2.2.2.1, mm.2.2.2.2.2.2.2.2.2.2.2.2.1, mm.2.2.2.2.2.2.2.2.2.2.2.2.2.1, mm.2.2.2.2.2.2.2.2.2.2.2.2.2.2.1, mm.2.2.2.2.2.2.2.2.2.2.2.2.2.2.2.1, mm.2.2.2.2.2.2.2.2.2.2.2.2.2.2.2.2.1, mm.2.2.2.2.2.2.2.2.2.2.2.2.2.2.2.2.2.1, mm.2.2.2.2.2.2.2.2.2.2.2.2.2.2.2.2.2.2.1, mm.2.2.2.2.2.2.2.2.2.2.2.2.2.2.2.2.2.2.2.1, mm.2.2.2.2.2.2.2.2.2.2.2.2.2.2.2.2.2.2.2.2.1, mm.2.2.2.2.2.2.2.2.2.2.2.2.2.2.2.2.2.2.2.2.2), mh) → wp_X10_load mm mh x1 post := by
      intro post hp
      unfold wp_X10_load
      rw [em]
      refine q_in0 (q1.elim Or.inl (fun q => Or.inr (n_lt (by omega) q))) ⟨fun q => absurd rfl q, fun _ => ?_⟩
      rw [← em]
      exact q_fails1 (u := ((0 : Int32), mm.2.1, mm.2.2.1, mm.2.2.2.1, mm.2.2.2.2.1, mm.2.2.2.2.2.1, mm.2.2.2.2.2.2.1, mm.2.2.2.2.2.2.2.1, mm.2.2.2.2.2.2.2.2.1, mm.2.2.2.2.2.2.2.2.2.1, mm.2.2.2.2.2.2.2.2.2.2.1, mm.2.2.2.2.2.2.2.2.2.2.2.1, mm.2.2.2.2.2.2.2.2.2.2.2.2.1, mm.2.2.2.2.2.2.2.2.2.2.2.2.2.1, mm.2.2.2.2.2.2.2.2.2.2.2.2.2.2.1, mm.2.2.2.2.2.2.2.2.2.2.2.2.2.2.2.1, mm.2.2.2.2.2.2.2.2.2.2.2.2.2.2.2.2.1, mm.2.2.2.2.2.2.2.2.2.2.2.2.2.2.2.2.2.1, mm.2.2.2.2.2.2.2.2.2.2.2.2.2.2.2.2.2.2.1, mm.2.2.2.2.2.2.2.2.2.2.2.2.2.2.2.2.2.2.2.1, mm.2.2.2.2.2.2.2.2.2.2.2.2.2.2.2.2.2.2.2.2.1, mm.2.2.2.2.2.2.2.2.2.2.2.2.2.2.2.2.2.2.2.2.2)) rfl (by decide) ⟨fun q => absurd q (by decide), fun _ => hp⟩
    unfold wl_1 wp_L_load wp_X9_load
    refine ⟨fun _ => ⟨rfl, hr _ ⟨rfl, fun q2 => absurd q2 (by decide), fun _ => hK _ h⟩⟩, fun q2 => ⟨fun q3 => ?_, fun _ => ⟨rfl, hr _ ⟨rfl, fun q2 => absurd q2 (by decide), fun _ => hK _ h⟩⟩⟩⟩
    dsimp only at q3
    rw [ef] at q3
    exact absurd q3 (n_nle (by omega) (q1.resolve_left q2))
  · rcases pk_ix x1 (n := f + 1) (by omega) with q | q | ⟨n, hn, e⟩
    · exact absurd (Or.inl q) q1
    · exact absurd (Or.inr q) q1
    subst e
    have hT : tx inp.1 mm.2.1 n := ⟨by omega, fun i hi => hb i (by omega)⟩
    have hI : ∀ D' : Nat → Int32, (∀ i, i < 1728 → D' i = 0) → mI mm.2.1 n ((0 : Int32), mm.2.1, (0 : Int32), (nI n), (0 : Int32), (0 : Int32), (-1 : Int32), mm.2.2.2.2.2.2.2.1, mm.2.2.2.2.2.2.2.2.1, D', mm.2.2.2.2.2.2.2.2.2.2.1, mm.2.2.2.2.2.2.2.2.2.2.2.1, mm.2.2.2.2.2.2.2.2.2.2.2.2.1, mm.2.2.2.2.2.2.2.2.2.2.2.2.2.1, mm.2.2.2.2.2.2.2.2.2.2.2.2.2.2.1, (0 : Int32), (0 : Int32), mm.2.2.2.2.2.2.2.2.2.2.2.2.2.2.2.2.2.1, mm.2.2.2.2.2.2.2.2.2.2.2.2.2.2.2.2.2.2.1, mm.2.2.2.2.2.2.2.2.2.2.2.2.2.2.2.2.2.2.2.1, mm.2.2.2.2.2.2.2.2.2.2.2.2.2.2.2.2.2.2.2.2.1, mm.2.2.2.2.2.2.2.2.2.2.2.2.2.2.2.2.2.2.2.2.2) := fun D' hD => ⟨⟨rfl, rfl⟩, rfl, rfl, rfl, rfl, rfl, hD⟩
    have hcls : ∀ (post : Int32 → (Nat → Int64) × (S_X9 × S_X2 × S_X4 × S_X6 × S_X5 × S_X3 × S_X2 × S_H) → Prop), wp_X6_read x6 inp d3 (t0, a0, br) (nI n) (fun r_4 u_3 => (r_4 = 0 → wp_X4_keep h4 c xh (fun u_6 => wp_X2_copyFrom u_6.2.1 u_3.2.2.2 (fun u_8 => post 0 (vp_updL o 0 u_8.1.1.1.toInt64, (u_3.2.1.2.2.2.2.2.2.2.2, u_8.1, u_6.1, u_3.1, (u_3.2.1.1, (0 : Int32), u_3.2.1.2.2.1, u_3.2.1.2.2.2.1, u_3.2.1.2.2.2.2.1, u_3.2.1.2.2.2.2.2.1, u_3.2.1.2.2.2.2.2.2.1, u_3.2.1.2.2.2.2.2.2.2.1, u_3.2.1.2.2.2.2.2.2.2.2), u_3.2.2.1, u_8.2, u_6.2.2))))) ∧ (¬ r_4 = 0 → post 0 (vp_updL o 0 r_4.toInt64, (u_3.2.1.2.2.2.2.2.2.2.2, c, h4, u_3.1, (u_3.2.1.1, (0 : Int32), u_3.2.1.2.2.1, u_3.2.1.2.2.2.1, u_3.2.1.2.2.2.2.1, u_3.2.1.2.2.2.2.2.1, u_3.2.1.2.2.2.2.2.2.1, u_3.2.1.2.2.2.2.2.2.2.1, u_3.2.1.2.2.2.2.2.2.2.2), u_3.2.2.1, u_3.2.2.2, xh)))) → wp_L_load o x9 c h4 x6 inp d3 (t0, a0, br) xh (nI n) post := by
      intro post hp
      unfold wp_L_load wp_X9_load
      refine ⟨fun q => absurd q (nI_pos (by omega)), fun _ => ⟨fun _ => hp, fun q => ?_⟩⟩
      rw [ef] at q
      exact absurd ((le_nI (by omega) (by omega)).mpr (by omega)) q
    have hbeg : ∀ post : S_X5 → Prop, (∀ x', tk inp.1 n (sk inp.1 n 0) x' → post x') → wp_X5_advance (inp.1, inp.2.1, (nI n), (0 : Int32), inp.2.2.2.2.1, inp.2.2.2.2.2.1, inp.2.2.2.2.2.2.1, (0 : Int32), (-1 : Int32)) post := fun post hp => q_advance hT 0 (by omega) _ ⟨rfl, rfl, rfl, rfl⟩ rfl hp
    unfold wl_1
    refine hcls _ ?_
    rw [read_eq]
    refine hbeg _ (fun y hy => ?_)
    rcases P_read hT t0 a0 br x6.2 hDr with ⟨e, ae, hea, c1, r1⟩ | ⟨N, t', a', htN, c1, r1⟩
    · refine c1 y d3 _ hy (fun w h1 h2 => ⟨fun q => absurd q hea, fun _ => ?_⟩)
      refine r_load (n := n) (f := f) (by omega) hf em (fun D' hD => r1 _ mh _ (hI D' hD) (fun u' hf2 g1 => ?_))
      refine ⟨hf2.1, fun _ => ⟨updL_same o 0 e.toInt64, hK _ ?_⟩, fun q => absurd rfl q⟩
      refine ⟨?_, ?_, ⟨0, by omega, rfl, hf2.2.2.1, fun i hi => absurd hi (by omega)⟩, ?_, ?_⟩
      · show rC c u'.2.2.2.2.2.2.2.2.1 u'.2.2.2.2.2.2.2.2.2.2.2.1
        rw [hf2.2.2.2.2.1, hf2.2.2.2.2.2.1]
        exact hC
      · show w.2.1.2.2.2.2.2.2.2.2 = u'.2.2.2.2.2.2.2.1
        rw [g1]; exact h1.2.2.1
      · show dCl w.2.2.2
        unfold dCl
        rw [h2]
        exact hDr
      · show rH h4 xh u'.2.2.2.2.2.2.2.2.2.2.2.2.2.1 mh
        rw [hf2.2.2.2.2.2.2]
        exact hH
    · obtain ⟨h4', ud', mh', Q, s1, s2, s3⟩ := P_keep (u := mm) hC hH
      refine c1 y d3 _ hy (fun w h1 h2 => ⟨fun _ => s1 _ (fun xh' hQ => ?_), fun q => absurd rfl q⟩)
      dsimp only
      rw [h2]
      refine q_copyC (v := (t', a', br)) (bB_0 hDr.2.2.1 hDr.2.2.2 0) ?_
      refine r_load (n := n) (f := f) (by omega) hf em (fun D' hD => r1 _ mh mh' ud' _ (hI D' hD) (fun ub e1 e2 e3 => rem_u s2 e1 e2 e3) (fun u' g1 g2 g3 g4 g5 => ?_))
      refine ⟨g1, fun _ => ⟨?_, hK _ ?_⟩, fun q => absurd rfl q⟩
      · dsimp only
        rw [updL_same]
        show t'.1.toInt64 = _
        rw [htN]
      · refine ⟨rC_cp g5, ?_, ⟨0, by omega, rfl, g2, fun i hi => absurd hi (by omega)⟩, hDr, ?_⟩
        · show w.2.1.2.2.2.2.2.2.2.2 = u'.2.2.2.2.2.2.2.1
          rw [g3]; exact h1
        · show rH h4' xh' u'.2.2.2.2.2.2.2.2.2.2.2.2.2.1 mh'
          rw [g4]
          exact s3 xh' hQ
