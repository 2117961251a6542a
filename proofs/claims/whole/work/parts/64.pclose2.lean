/-! Closing a period, whole. -/
theorem q_spot (a : S_X0) (p : Nat) (hp : p < 40) (y : Int32) (post : Int32 → S_X0 → Prop) (h : post (if a.2.2.2.2.1 p < y then a.2.2.2.2.1 p else y) (a.1, a.2.1, a.2.2.1, a.2.2.2.1, (upd a.2.2.2.2.1 p (a.2.2.2.2.1 p - (if a.2.2.2.2.1 p < y then a.2.2.2.2.1 p else y))), a.2.2.2.2.2.1, a.2.2.2.2.2.2)) : wp_X0_deliverSpot a (nI p) y post := by
  have hin : vp_in (nI p) 40 := in_of hp (by omega)
  refine ⟨hin, fun x2 e2 => ⟨hin, fun x4 e4 => ⟨hin, ?_⟩⟩⟩
  rw [cl_nI (by omega)] at e2 e4 ⊢
  subst e2 e4
  exact h
theorem p_due {n c w s : Nat} {t : S_X7} {a : S_X0} (hn : n ≤ 40) (hc : c < n) (hw : w ≤ 6) (ba : oB n a.2.2.2.2.1) (hs : t.2.2.2.1 = nI s) (hs9 : s ≤ 9999) :
    ∃ (o2 m2 : Nat → Int32) (bo l0 : Nat), bo ≤ 9999 ∧ l0 ≤ 9999 ∧ oB n o2 ∧
      (∀ (f : Nat → Int32) (dv : Int32) (post : Int64 → S_X0 × S_X7 → Prop), j_X0_closePeriod_77 (nI c) dv (nI bo) (nI l0) (a.1, f, a.2.2.1, a.2.2.2.1, o2, m2, a.2.2.2.2.2.2) t post → ((0 ≤ nI c - nI w → wp_X0_deliverSpot (a.1, f, a.2.2.1, a.2.2.2.1, a.2.2.2.2.1, a.2.2.2.2.2.1, a.2.2.2.2.2.2) (nI c - nI w) t.2.2.2.1 (fun r u => j_X0_closePeriod_60 (nI c) dv (nI c - nI w) r u t post)) ∧ (¬ (0 ≤ nI c - nI w) → j_X0_closePeriod_60 (nI c) dv (nI c - nI w) 0 (a.1, f, a.2.2.1, a.2.2.2.1, a.2.2.2.2.1, a.2.2.2.2.2.1, a.2.2.2.2.2.2) t post))) ∧
      ∀ (f : Nat → Int32) (d : Nat → Int32), rA n (a.1, f, a.2.2.1, a.2.2.2.1, a.2.2.2.2.1, a.2.2.2.2.2.1, a.2.2.2.2.2.2) d → d 4 = nI s → ∃ d2 : Nat → Int32, (∀ (at_ cap dv : Int32) (b : Nat → Int64) (post : (Nat → Int32) × (Nat → Int64) → Prop), j_X10_closeOne_109 (nI c) at_ cap dv (nI bo) (nI l0) d2 b post → mAfter c at_ cap dv (nI c - nI w) d b post) ∧ rA n (a.1, f, a.2.2.1, a.2.2.2.1, o2, m2, a.2.2.2.2.2.2) d2 ∧ ∀ i, ¬ (148 ≤ i ∧ i < 348) → d2 i = d i := by
  rcases c_sub (c := c) (w := w) (by omega) with ⟨h, e⟩ | ⟨h, e⟩
  · obtain ⟨q, hq, eq⟩ := ba (c - w) (by omega)
    have m1 : (if a.2.2.2.2.1 (c - w) < t.2.2.2.1 then a.2.2.2.2.1 (c - w) else t.2.2.2.1) = nI (min q s) := by rw [eq, hs]; exact c_min (by omega) (by omega)
    have m2 : (if nI s ≤ nI q then nI s else nI q) = nI (min q s) := m_minE (by omega) (by omega)
    have hm1 : min q s ≤ q := Nat.min_le_left _ _
    have hm2 : min q s ≤ s := Nat.min_le_right _ _
    generalize min q s = mn at hm1 hm2 m1 m2
    have e5 : a.2.2.2.2.1 (c - w) - nI mn = nI (q - mn) := by rw [eq]; exact pk_sub hm1
    refine ⟨upd (upd a.2.2.2.2.1 (c - w) (nI (q - mn))) (c - w) 0, upd a.2.2.2.2.2.1 (c - w) (a.2.2.2.2.2.1 (c - w) + nI (q - mn)), mn, q - mn, by omega, by omega, oB_upd (oB_upd ba _ ⟨q - mn, by omega, rfl⟩) _ ⟨0, by omega, rfl⟩, ?_, ?_⟩
    · intro f dv post hj
      rw [e]
      refine ⟨fun _ => ?_, fun h2 => absurd (nI_pos' (by omega)) h2⟩
      refine q_spot _ _ (by omega) _ _ ?_
      dsimp only
      rw [m1, e5]
      refine ⟨fun _ => ?_, fun h2 => absurd (nI_pos' (by omega)) h2⟩
      refine q_missOpen _ _ (by omega) _ ?_
      unfold mo
      dsimp only
      rw [upd_same]
      exact hj
    · intro f d ra hd4
      have e4 := (ra.2 (c - w) (by omega)).2.2.2.1
      dsimp only at e4
      have e6 : d (151 + 5 * (c - w)) = nI q := by rw [← e4]; exact eq
      have r1 := rA_mo (rA_open ra (c - w) (nI (q - mn))) (p := c - w) (by omega)
      unfold mo at r1
      dsimp only at r1
      rw [upd_same] at r1
      refine ⟨mq (upd d (151 + 5 * (c - w)) (nI (q - mn))) (c - w), ?_, r1, ?_⟩
      · intro at_ cap dv b post hj
        rw [e]
        refine ⟨fun h2 => absurd h2 (nI_pos (by omega)), fun _ => ?_⟩
        refine q_deliver _ _ (by omega) _ _ ?_
        rw [e6, hd4, m2, pk_sub hm1]
        refine q_miss _ _ (by omega) _ ?_
        rw [upd_same]
        unfold mq at hj
        rw [upd_same] at hj
        exact hj
      · intro i hi
        rw [mq_out (by omega) hi, upd_ne _ _ (by omega)]
  · have hneg : ¬ (0 : Int32) ≤ nI c - nI w := (fa_of_lt e).2.1
    refine ⟨a.2.2.2.2.1, a.2.2.2.2.2.1, 0, 0, by omega, by omega, ba, ?_, ?_⟩
    · intro f dv post hj
      exact ⟨fun h2 => absurd h2 hneg, fun _ => ⟨fun h2 => absurd h2 hneg, fun _ => hj⟩⟩
    · intro f d ra _
      refine ⟨d, ?_, ra, fun i _ => rfl⟩
      intro at_ cap dv b post hj
      exact ⟨fun _ => hj, fun h2 => absurd e h2⟩
theorem c_short {R0 mn o : Nat} (hR : R0 ≤ 9999) (hm : mn ≤ 100) : nI R0 * nI mn / 100 - nI o = nI (R0 * mn / 100) - nI o := by
  have hb : R0 * mn ≤ 9999 * 100 := Nat.mul_le_mul hR hm
  rw [pk_mul, show (100 : Int32) = nI 100 from rfl, pk_div (by omega) (by omega) (by omega)]
theorem p_end {n c l0 R0 mn o : Nat} {t : S_X7} {a : S_X0} (hn : n ≤ 40) (hc : c < n) (hl : l0 ≤ 9999) (hR0 : R0 ≤ 9999) (hmn : mn ≤ 100) (ho : o ≤ 9999) (ba : oB n a.2.2.2.2.1) (htn : t.1 = nI n) (hclk : a.1 = nI c) (hor : a.2.2.2.1 c = nI o) :
    ∃ (o3 m3 : Nat → Int32) (L : Nat), L ≤ 409959 ∧ oB n o3 ∧
      (∀ (f : Nat → Int32) (dv bo : Int32) (post : Int64 → S_X0 × S_X7 → Prop), j_X0_closePeriod_113 (nI c) dv bo (nI L) ((nI (c + 1)), f, a.2.2.1, a.2.2.2.1, o3, m3, a.2.2.2.2.2.2) t post → j_X0_closePeriod_77 (nI c) dv bo (nI l0) (a.1, f, a.2.2.1, a.2.2.2.1, a.2.2.2.2.1, a.2.2.2.2.2.1, a.2.2.2.2.2.2) t post) ∧
      ∀ (f : Nat → Int32) (d : Nat → Int32), rA n (a.1, f, a.2.2.1, a.2.2.2.1, a.2.2.2.2.1, a.2.2.2.2.2.1, a.2.2.2.2.2.2) d → d 0 = nI n → d 7 = nI mn → ∃ d3 : Nat → Int32, (∀ (dv bo : Int32) (b : Nat → Int64) (post : (Nat → Int32) × (Nat → Int64) → Prop), j_X10_closeOne_175 (nI c) (nI R0) dv bo (nI L) (nI (R0 * mn / 100 - o)) d3 b post → j_X10_closeOne_109 (nI c) (nI (148 + 5 * c)) (nI R0) dv bo (nI l0) d b post) ∧ rA n ((nI (c + 1)), f, a.2.2.1, a.2.2.2.1, o3, m3, a.2.2.2.2.2.2) d3 ∧ ∀ i, ¬ (i = 1 ∨ (148 ≤ i ∧ i < 348)) → d3 i = d i := by
  have hb : R0 * mn ≤ 9999 * 100 := Nat.mul_le_mul hR0 hmn
  have eix : nI (148 + 5 * c) + 2 = nI (150 + 5 * c) := by rw [ix_2]; congr 1; omega
  have hmax : ∀ (d : Nat → Int32), d 7 = nI mn → d (150 + 5 * c) = nI o → ∀ (post : Int32 → Unit → Prop), post (nI (R0 * mn / 100 - o)) () → wp_X10_max 0 (nI R0 * d 7 / 100 - d (nI (148 + 5 * c) + 2).toNatClampNeg) post := by
    intro d hd7 hdo post hp
    rw [eix, cl_nI (by omega), hdo, hd7, c_short hR0 hmn]
    exact m_lo (by omega) (by omega) hp
  rcases Nat.lt_or_ge (c + 1) n with hlt | hge
  · refine ⟨a.2.2.2.2.1, a.2.2.2.2.2.1, l0, by omega, ba, ?_, ?_⟩
    · intro f dv bo post hj x15 e15
      dsimp only at e15
      rw [hclk, ix_1] at e15
      subst e15
      refine ⟨fun _ => hj, fun h2 => ?_⟩
      rw [htn, lt_nI (by omega) (by omega)] at h2; omega
    · intro f d ra hd0 hd7
      have hd1 : d 1 = nI c := by rw [← ra.1]; exact hclk
      have hdo : d (150 + 5 * c) = nI o := by rw [← (ra.2 c hc).2.2.1]; exact hor
      refine ⟨upd d 1 (nI (c + 1)), ?_, rA_clock ra (nI (c + 1)), ?_⟩
      · intro dv bo b post hj
        refine ⟨by rw [eix]; exact in_of (by omega) (by omega), hmax d hd7 hdo _ ?_⟩
        intro x27 e27
        rw [hd1, ix_1] at e27
        subst e27
        refine ⟨fun _ => hj, fun h2 => ?_⟩
        rw [upd_same, upd_ne _ _ (by omega), hd0, eq_nI (by omega) (by omega)] at h2; omega
      · intro i hi
        exact upd_ne _ _ (by omega)
  · obtain ⟨s, o3, m3, s1, s2, s3⟩ := p_missC (n := n) ((nI (c + 1)), a.2.1, a.2.2.1, a.2.2.2.1, a.2.2.2.2.1, a.2.2.2.2.2.1, a.2.2.2.2.2.2) ba
    refine ⟨o3, m3, l0 + s, by omega, s2, ?_, ?_⟩
    · intro f dv bo post hj x15 e15
      dsimp only at e15
      rw [hclk, ix_1] at e15
      subst e15
      refine ⟨fun h2 => ?_, fun _ => ?_⟩
      · rw [htn, lt_nI (by omega) (by omega)] at h2; omega
      · rw [htn]
        refine q_missAll _ n hn _ ?_
        have s4 := s3 f
        dsimp only at s4 ⊢
        rw [s4]
        intro x19 e19
        rw [nI_add] at e19
        subst e19
        exact hj
    · intro f d ra hd0 hd7
      have hd1 : d 1 = nI c := by rw [← ra.1]; exact hclk
      have hdo : d (150 + 5 * c) = nI o := by rw [← (ra.2 c hc).2.2.1]; exact hor
      obtain ⟨s', g1, g2, g3, g4, g5⟩ := p_missR hn hl (rA_clock ra (nI (c + 1))) ba
      have s4 := s3 f
      dsimp only at s4 g2 g4
      rw [s4] at g2 g4
      dsimp only at g2 g4
      rw [eq_nI (by omega) (by omega)] at g2
      subst g2
      refine ⟨_, ?_, g4, ?_⟩
      · intro dv bo b post hj
        refine ⟨by rw [eix]; exact in_of (by omega) (by omega), hmax d hd7 hdo _ ?_⟩
        intro x27 e27
        rw [hd1, ix_1] at e27
        subst e27
        refine ⟨fun h2 => ?_, fun _ => ?_⟩
        · rw [upd_same, upd_ne _ _ (by omega), hd0, eq_nI (by omega) (by omega)] at h2; omega
        · refine zl_for (fun k v => (nI c, nI R0, dv, bo, v.1, nI (R0 * mn / 100 - o), nI k, v.2, b)) mah n (nI l0, upd d 1 (nI (c + 1))) rfl ?_ ?_
          · intro k hk K hK
            have h0 : (fo mah k (nI l0, upd d 1 (nI (c + 1)))).2 0 = nI n := by
              have hz := fo_inv (g := mah) (fun _ v => v.2 0 = nI n) n (nI l0, upd d 1 (nI (c + 1))) (fun j v hj hv => by show mq v.2 j 0 = _; rw [mq_out (by omega) (by omega)]; exact hv) (by show upd d 1 (nI (c + 1)) 0 = nI n; rw [upd_ne _ _ (by omega)]; exact hd0)
              exact hz k (by omega)
            refine ⟨fun h1 => ?_, fun _ => ?_⟩
            · dsimp only at h1
              rw [h0, le_nI (by omega) (by omega)] at h1; omega
            · refine q_miss _ _ (by omega) _ ?_
              intro x34 e34 x35 e35
              subst e34 e35
              rw [ix_1]
              exact hK
          · intro K
            have h0 : (fo mah n (nI l0, upd d 1 (nI (c + 1)))).2 0 = nI n := by
              rw [g5 0 (by omega), upd_ne _ _ (by omega)]; exact hd0
            refine ⟨fun _ => ?_, fun h1 => ?_⟩
            · dsimp only
              rw [g3]
              exact hj
            · dsimp only at h1
              rw [h0, le_nI (by omega) (by omega)] at h1; omega
      · intro i hi
        rw [g5 i (by omega), upd_ne _ _ (by omega)]
theorem c_shortI {x y z : Int32} {R0 mn o : Nat} (hR : R0 ≤ 9999) (hm : mn ≤ 100) (ho : o ≤ 9999) (hx : x = nI R0) (hy : y = nI mn) (hz : z = nI o) : (if (0 : Int32) < x * y / 100 - z then x * y / 100 - z else 0) = nI (R0 * mn / 100 - o) := by
  have hb : R0 * mn ≤ 9999 * 100 := Nat.mul_le_mul hR hm
  subst hx hy hz
  rw [c_short hR hm]
  exact c_lo (by omega) (by omega)
theorem p_close1 {n c w o R0 : Nat} {t : S_X7} {a : S_X0} (hn : n ≤ 40) (hc : c < n) (hclk : a.1 = nI c) (bt : bT t) (htn : t.1 = nI n) (hw : t.2.2.2.2.2.1 = nI w) (hw6 : w ≤ 6) (ba : oB n a.2.2.2.2.1) (hor : a.2.2.2.1 c = nI o) (ho : o ≤ 9999) (hR0 : R0 ≤ 9999) :
    ∃ (o' m' : Nat → Int32) (X Y : Nat), X ≤ 1000000000 ∧ Y ≤ 1000000000 ∧ oB n o' ∧
      (∀ (f : Nat → Int32), f c = nI R0 → ∀ post : Int64 → S_X0 × S_X7 → Prop, post (lN X - lN Y) (((nI (c + 1)), f, a.2.2.1, a.2.2.2.1, o', m', (vp_updL a.2.2.2.2.2.2 c (lN X - lN Y))), t) → j_X0_closePeriod_24 (nI c) (a.1, f, a.2.2.1, a.2.2.2.1, a.2.2.2.2.1, a.2.2.2.2.2.1, a.2.2.2.2.2.2) t post) ∧
      ∀ (f d : Nat → Int32), f c = nI R0 → rT t d → rA n (a.1, f, a.2.2.1, a.2.2.2.1, a.2.2.2.2.1, a.2.2.2.2.2.1, a.2.2.2.2.2.2) d → ∃ d' : Nat → Int32, (∀ (b : Nat → Int64) (post : (Nat → Int32) × (Nat → Int64) → Prop), post (d', vp_updL b c (lN X - lN Y)) → j_X10_closeOne_49 (nI c) (nI (148 + 5 * c)) (nI R0) 0 0 0 (nI c - nI w) d b post) ∧ rA n ((nI (c + 1)), f, a.2.2.1, a.2.2.2.1, o', m', a.2.2.2.2.2.2) d' ∧ ∀ i, ¬ (i = 1 ∨ (148 ≤ i ∧ i < 348)) → d' i = d i := by
  obtain ⟨ck, rs, fc, od, op, mi, iv⟩ := a
  dsimp only at hclk ba hor ⊢
  subst hclk
  obtain ⟨-, ⟨pr, hpr, epr⟩, ⟨fe, hfe, efe⟩, ⟨sl, hsl, esl⟩, ⟨sp, hsp, esp⟩, -, ⟨mn, hmn, emn⟩, ⟨ms, hms, ems⟩, -⟩ := bt
  obtain ⟨x, x1, x2, x3⟩ := p_delC (lo := c - w) (cnt := c + 1 - (c - w)) hc hR0 (by omega) ba
  obtain ⟨o2, m2, bo, l0, hbo, hl0, y1, y2, y3⟩ := p_due (w := w) (s := sl) (t := t) (a := (nI c, rs, fc, od, (fo (dlg (c - w)) (c + 1 - (c - w)) (op, nI R0)).1, mi, iv)) hn hc hw6 x3 esl hsl
  obtain ⟨o3, m3, L, hL, z0, z1, z2⟩ := p_end (mn := mn) (o := o) (R0 := R0) (t := t) (a := (nI c, rs, fc, od, o2, m2, iv)) hn hc hl0 hR0 hmn ho y1 htn rfl hor
  have hb1 : fe * R0 ≤ 99 * 9999 := Nat.mul_le_mul hfe hR0
  have hb2 : pr * x ≤ 999 * 9999 := Nat.mul_le_mul hpr (by omega)
  have hb3 : sp * bo ≤ 999 * 9999 := Nat.mul_le_mul hsp hbo
  have hmr : R0 * mn ≤ 9999 * 100 := Nat.mul_le_mul hR0 hmn
  have hsh : R0 * mn / 100 - o ≤ 9999 := by omega
  have hb4 : pr * (R0 * mn / 100 - o) ≤ 999 * 9999 := Nat.mul_le_mul hpr hsh
  have hb5 : ms * L ≤ 999 * 409959 := Nat.mul_le_mul hms hL
  have ein : vp_in (nI c) 40 := in_of (by omega) (by omega)
  refine ⟨o3, m3, fe * R0 + pr * x + sp * bo + pr * (R0 * mn / 100 - o), ms * L, by omega, by omega, z0, ?_, ?_⟩
  · intro f hf post hp
    unfold j_X0_closePeriod_24 wp_X0_deliverReserved
    dsimp only
    rw [hw]
    refine ⟨ein, fun x2_ e2 x3_ e3 => ?_⟩
    rw [cl_nI (by omega), hf] at e2
    rw [c_lo (by omega) (by omega)] at e3
    subst e2 e3
    refine q_del (nI c, f, fc, od, op, mi, iv) c (c - w) (c + 1 - (c - w)) (by omega) rfl (by omega) _ _ ?_
    dsimp only
    rw [x2, hf, show nI R0 - nI (R0 - x) = nI x by rw [pk_sub (by omega), show R0 - (R0 - x) = x by omega]]
    intro x8 e8
    subst e8
    refine y2 f (nI x) post (z1 f (nI x) (nI bo) post ?_)
    refine ⟨ein, ein, fun x22 e22 => ⟨ein, fun x24 e24 => ⟨ein, ein, ?_⟩⟩⟩
    dsimp only at e22 e24 ⊢
    rw [cl_nI (by omega)] at e22 e24 ⊢
    have e22 := e22.trans (c_shortI hR0 hmn ho hf emn hor)
    rw [hf, e22, efe, epr, esp, ems, nI_l (by omega), nI_l (by omega), nI_l (by omega), nI_l (by omega), nI_l (by omega), nI_l (by omega), nI_l (by omega), nI_l (by omega), nI_l (by omega), lN_mul, lN_mul, lN_mul, lN_mul, lN_mul, lN_add, lN_add, lN_add] at e24
    subst e24
    rw [updL_same]
    exact hp
  · intro f d hf ht ra
    obtain ⟨⟨t0, t2, t3, t4, t5, t6, t7, t8, t9, t10, t11⟩, -, -⟩ := ht
    obtain ⟨d1, x', k1, k2, k3, k4, k5⟩ := p_del (lo := c - w) (cnt := c + 1 - (c - w)) hn hc hR0 (by omega) ra ba
    dsimp only at k2 k4
    rw [x2, eq_nI (by omega) (by omega)] at k2
    have ex : x' = x := by omega
    subst ex
    obtain ⟨d2, w1, w2, w3⟩ := y3 f d1 k4 (by rw [k5 4 (by omega), ← t4]; exact esl)
    obtain ⟨d3, v1, v2, v3⟩ := z2 f d2 w2 (by rw [w3 0 (by omega), k5 0 (by omega), ← t0]; exact htn) (by rw [w3 7 (by omega), k5 7 (by omega), ← t7]; exact emn)
    refine ⟨d3, ?_, v2, ?_⟩
    · intro b post hp
      refine m_lo (by omega) (by omega) ?_
      refine q_mdel d b c (c - w) (c + 1 - (c - w)) (by omega) (by omega) _ _ _ _ ?_
      rw [k3]
      refine w1 _ _ _ b post (v1 _ _ b post ?_)
      intro x29 e29
      have hd3 : ∀ i, i < 12 → i ≠ 1 → d3 i = d i := fun i hi h1 => by rw [v3 i (by omega), w3 i (by omega), k5 i (by omega)]
      rw [hd3 3 (by omega) (by omega), hd3 2 (by omega) (by omega), hd3 5 (by omega) (by omega), hd3 8 (by omega) (by omega), ← t2, ← t3, ← t5, ← t8, efe, epr, esp, ems, nI_add, nI_l (by omega), nI_l (by omega), nI_l (by omega), nI_l (by omega), nI_l (by omega), nI_l (by omega), nI_l (by omega), nI_l (by omega), lN_mul, lN_mul, lN_mul, lN_mul, lN_add, lN_add] at e29
      have e9 : fe * R0 + pr * (x' + (R0 * mn / 100 - o)) + sp * bo = fe * R0 + pr * x' + sp * bo + pr * (R0 * mn / 100 - o) := by rw [Nat.mul_add]; omega
      rw [e9] at e29
      subst e29
      refine ⟨ein, ?_⟩
      rw [cl_nI (by omega)]
      exact hp
    · intro i hi
      rw [v3 i hi, w3 i (by omega), k5 i (by omega)]
/-- closing the current period c: the class's and the reference's; f: what the capacities of the later periods may be -/
theorem p_close {n c : Nat} {t : S_X7} {a : S_X0} (hn : n ≤ 40) (hc : c < n) (hclk : a.1 = nI c) (bt : bT t) (htn : t.1 = nI n) (ba : bA n a) :
    ∃ (od o' m' : Nat → Int32) (X Y : Nat), X ≤ 1000000000 ∧ Y ≤ 1000000000 ∧
      bA n ((nI (c + 1)), a.2.1, a.2.2.1, od, o', m', (vp_updL a.2.2.2.2.2.2 c (lN X - lN Y))) ∧
      (∀ (f : Nat → Int32), f c = a.2.1 c → ∀ post : Int64 → S_X0 × S_X7 → Prop, post (lN X - lN Y) (((nI (c + 1)), f, a.2.2.1, od, o', m', (vp_updL a.2.2.2.2.2.2 c (lN X - lN Y))), t) → wp_X0_closePeriod (a.1, f, a.2.2.1, a.2.2.2.1, a.2.2.2.2.1, a.2.2.2.2.2.1, a.2.2.2.2.2.2) t post) ∧
      ∀ (f d : Nat → Int32), f c = a.2.1 c → rT t d → rA n (a.1, f, a.2.2.1, a.2.2.2.1, a.2.2.2.2.1, a.2.2.2.2.2.1, a.2.2.2.2.2.2) d → ∃ d' : Nat → Int32, (∀ (b : Nat → Int64) (post : (Nat → Int32) × (Nat → Int64) → Prop), post (d', vp_updL b c (lN X - lN Y)) → wp_X10_closeOne d b post) ∧ rA n ((nI (c + 1)), f, a.2.2.1, od, o', m', (vp_updL a.2.2.2.2.2.2 c (lN X - lN Y))) d' ∧ ∀ i, ¬ (i = 1 ∨ (148 ≤ i ∧ i < 348)) → d' i = d i := by
  obtain ⟨w, hw6, hw⟩ := bt.2.2.2.2.2.1
  obtain ⟨⟨R0, hR0, eR0⟩, ⟨fc, hfc, efc⟩, hod, -⟩ := ba c hc
  have hoB : oB n a.2.2.2.2.1 := fun p hp => (ba p hp).2.2.2
  have ein : vp_in (nI c) 40 := in_of (by omega) (by omega)
  have ix2 : nI (148 + 5 * c) + 2 = nI (150 + 5 * c) := by rw [ix_2]; congr 1; omega
  have ix1 : nI (148 + 5 * c) + 1 = nI (149 + 5 * c) := by rw [ix_1]; congr 1; omega
  rcases hod with hm1 | ⟨o, ho, eo⟩
  · have ba1 := bA_open (bA_order ba c (x := nI fc) ⟨fc, hfc, rfl⟩) c (x := nI fc) ⟨fc, hfc, rfl⟩
    obtain ⟨o', m', X, Y, hX, hY, ho', c1, c2⟩ := p_close1 (t := t) (a := (a.1, a.2.1, a.2.2.1, (upd a.2.2.2.1 c (nI fc)), (upd a.2.2.2.2.1 c (nI fc)), a.2.2.2.2.2.1, a.2.2.2.2.2.2)) (o := fc) (R0 := R0) hn hc hclk bt htn hw hw6 (fun p hp => (ba1 p hp).2.2.2) (upd_same _ _ _) hfc hR0
    refine ⟨upd a.2.2.2.1 c (nI fc), o', m', X, Y, hX, hY, fun p hp => ⟨(ba p hp).1, (ba p hp).2.1, (ba1 p hp).2.2.1, ho' p hp⟩, ?_, ?_⟩
    · intro f hf post hp
      refine ⟨by dsimp only; rw [hclk]; exact ein, fun h1 => ?_, fun _ => ⟨by dsimp only; rw [hclk]; exact ein, ?_⟩⟩
      · dsimp only at h1
        rw [hclk, cl_nI (by omega), hm1] at h1
        exact absurd h1 (by decide)
      · refine ⟨by dsimp only; rw [hclk]; exact ein, by dsimp only; rw [hclk]; exact ein, ?_⟩
        have k := c1 f (hf.trans eR0) post hp
        dsimp only at k ⊢
        rw [hclk, cl_nI (by omega), efc, ← hclk]
        rw [hclk]
        rw [hclk] at k
        exact k
    · intro f d hf ht ra
      have hd1 : d 1 = nI c := by rw [← ra.1]; exact hclk
      have hdr : d (148 + 5 * c) = nI R0 := by rw [← (ra.2 c hc).1]; exact hf.trans eR0
      have hdf : d (149 + 5 * c) = nI fc := by rw [← (ra.2 c hc).2.1]; exact efc
      have hdo : d (150 + 5 * c) = -1 := by rw [← (ra.2 c hc).2.2.1]; exact hm1
      have hd6 : d 6 = nI w := by rw [← ht.1.2.2.2.2.2.1]; exact hw
      obtain ⟨d', e1, e2, e3⟩ := c2 f (upd (upd d (150 + 5 * c) (nI fc)) (151 + 5 * c) (nI fc)) (hf.trans eR0) (rT_cong ht (fun i hi => by rw [upd_ne _ _ (by omega), upd_ne _ _ (by omega)])) (rA_open (rA_order ra c (nI fc)) c (nI fc))
      refine ⟨d', ?_, e2, ?_⟩
      · intro b post hp x1 ex1
        rw [hd1] at ex1
        subst ex1
        unfold wp_X10_period
        rw [ix_per]
        refine ⟨in_of (by omega) (by omega), fun x5 e5 x6 e6 => ?_⟩
        rw [ix2, ix1]
        rw [cl_nI (by omega), hdr] at e5
        rw [hd6] at e6
        subst e5 e6
        refine ⟨in_of (by omega) (by omega), fun h1 => ?_, fun _ => ⟨in_of (by omega) (by omega), ?_⟩⟩
        · rw [cl_nI (by omega), hdo] at h1
          exact absurd h1 (by decide)
        · refine q_place _ _ (by omega) _ _ ?_
          rw [cl_nI (by omega), hdf]
          exact e1 b post hp
      · intro i hi
        rw [e3 i hi, upd_ne _ _ (by omega), upd_ne _ _ (by omega)]
  · obtain ⟨o', m', X, Y, hX, hY, ho', c1, c2⟩ := p_close1 (t := t) (a := a) (o := o) (R0 := R0) hn hc hclk bt htn hw hw6 hoB eo ho hR0
    refine ⟨a.2.2.2.1, o', m', X, Y, hX, hY, fun p hp => ⟨(ba p hp).1, (ba p hp).2.1, (ba p hp).2.2.1, ho' p hp⟩, ?_, ?_⟩
    · intro f hf post hp
      refine ⟨by dsimp only; rw [hclk]; exact ein, fun _ => ?_, fun h1 => ?_⟩
      · have k := c1 f (hf.trans eR0) post hp
        dsimp only at k ⊢
        rw [hclk]
        rw [hclk] at k
        exact k
      · dsimp only at h1
        rw [hclk, cl_nI (by omega), eo] at h1
        exact absurd (nI_pos' (by omega)) h1
    · intro f d hf ht ra
      have hd1 : d 1 = nI c := by rw [← ra.1]; exact hclk
      have hdr : d (148 + 5 * c) = nI R0 := by rw [← (ra.2 c hc).1]; exact hf.trans eR0
      have hdo : d (150 + 5 * c) = nI o := by rw [← (ra.2 c hc).2.2.1]; exact eo
      have hd6 : d 6 = nI w := by rw [← ht.1.2.2.2.2.2.1]; exact hw
      obtain ⟨d', e1, e2, e3⟩ := c2 f d (hf.trans eR0) ht ra
      refine ⟨d', ?_, e2, e3⟩
      intro b post hp x1 ex1
      rw [hd1] at ex1
      subst ex1
      unfold wp_X10_period
      rw [ix_per]
      refine ⟨in_of (by omega) (by omega), fun x5 e5 x6 e6 => ?_⟩
      rw [ix2, ix1]
      rw [cl_nI (by omega), hdr] at e5
      rw [hd6] at e6
      subst e5 e6
      refine ⟨in_of (by omega) (by omega), fun _ => e1 b post hp, fun h1 => ?_⟩
      rw [cl_nI (by omega), hdo] at h1
      exact absurd (nI_pos' (by omega)) h1
