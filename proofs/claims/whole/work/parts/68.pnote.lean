/-! Breaches noted; the balance; the checksum. -/
theorem nar0 : vp_nar .boolean (0 : Int32) = 0 := by decide +kernel
theorem nar1 : vp_nar .boolean (1 : Int32) = 1 := by decide +kernel
theorem P_note {t : S_X7} {m v f p : Nat} {br : S_X1} (bt : bT t) (hf : f ≤ 9999) (hp : p < 40) (kd exc : Int32) (hm : br.1 = nI m) (bb : bB m v br) :
    ∃ (r : Int32) (br' : S_X1) (m' : Nat), bB m' v br' ∧
      (∀ post : Int32 → S_X7 × S_X1 → Prop, post r (t, br') → ((¬ (exc = 0) → wp_X7_penalty t exc (nI f) (fun r7 u6 => wp_X1_addBreach br (nI p) kd r7 (fun r9 u8 => post r9 (u6, u8)))) ∧ (exc = 0 → post 0 (t, br)))) ∧
      ∀ u : S_X10, rT t u.2.2.2.2.2.2.2.2.1 → rB m br u.2.2.2.2.2.2.2.2.1 → ∃ d' : Nat → Int32, (∀ post : Int32 → S_X10 → Prop, post r (u.1, u.2.1, u.2.2.1, u.2.2.2.1, u.2.2.2.2.1, u.2.2.2.2.2.1, u.2.2.2.2.2.2.1, u.2.2.2.2.2.2.2.1, d', u.2.2.2.2.2.2.2.2.2.1, u.2.2.2.2.2.2.2.2.2.2.1, u.2.2.2.2.2.2.2.2.2.2.2.1, u.2.2.2.2.2.2.2.2.2.2.2.2.1, u.2.2.2.2.2.2.2.2.2.2.2.2.2.1, u.2.2.2.2.2.2.2.2.2.2.2.2.2.2.1, u.2.2.2.2.2.2.2.2.2.2.2.2.2.2.2.1, u.2.2.2.2.2.2.2.2.2.2.2.2.2.2.2.2.1, u.2.2.2.2.2.2.2.2.2.2.2.2.2.2.2.2.2.1, u.2.2.2.2.2.2.2.2.2.2.2.2.2.2.2.2.2.2.1, u.2.2.2.2.2.2.2.2.2.2.2.2.2.2.2.2.2.2.2.1, u.2.2.2.2.2.2.2.2.2.2.2.2.2.2.2.2.2.2.2.2.1, u.2.2.2.2.2.2.2.2.2.2.2.2.2.2.2.2.2.2.2.2.2) → wp_X10_note u (nI p) kd exc (nI f) post) ∧ rB m' br' d' ∧ ∀ i, ¬ (i = 12 ∨ i = 13 ∨ (348 ≤ i ∧ i < 428)) → d' i = u.2.2.2.2.2.2.2.2.1 i := by
  obtain ⟨bm, bw, bp, bc, bv⟩ := bb
  by_cases he : exc = 0
  · refine ⟨0, br, m, ⟨bm, bw, bp, bc, bv⟩, fun post h => ⟨fun q => absurd he q, fun _ => h⟩, fun u ht rb => ⟨u.2.2.2.2.2.2.2.2.1, fun post h => ⟨fun q => absurd he q, fun _ => h⟩, rb, fun i _ => rfl⟩⟩
  · obtain ⟨pen, k1, k2⟩ := P_penalty bt exc f hf
    rcases Nat.lt_or_ge m 20 with h20 | h20
    · have hcl : (nI m).toNatClampNeg = m := cl_nI (by omega)
      have hin : vp_in (nI m) 20 := in_of h20 (by omega)
      have hrec : br.1 = nI m := hm
      refine ⟨pen, ((nI (m + 1)), (br.2.1 + 1), br.2.2.1, (upd br.2.2.2.1 m (nI p)), (upd br.2.2.2.2.1 m kd), (upd br.2.2.2.2.2.1 m pen), (upd br.2.2.2.2.2.2 m 0)), m + 1, ?_, ?_, ?_⟩
      · have hct : wct ((nI (m + 1)), (br.2.1 + 1), br.2.2.1, (upd br.2.2.2.1 m (nI p)), (upd br.2.2.2.2.1 m kd), (upd br.2.2.2.2.2.1 m pen), (upd br.2.2.2.2.2.2 m 0)) (m + 1) = wct br m := by
          unfold wct
          dsimp only
          rw [fb_ct_succ, if_neg (by simp [upd]), Nat.add_zero]
          exact fb_ct_cong (fun k hk => congrArg (fun x : Int32 => decide (x = 1)) (upd_ne _ _ (by omega)))
        refine ⟨by omega, ?_, ?_, ?_, ?_⟩
        · intro k hk
          dsimp only
          by_cases e : k = m
          · subst e; rw [upd_same]; exact Or.inl rfl
          · rw [upd_ne _ _ e]; exact bw k hk
        · intro k hk
          dsimp only
          by_cases e : k = m
          · subst e; rw [upd_same]; exact ⟨p, by omega, rfl⟩
          · rw [upd_ne _ _ e]; exact bp k (by omega)
        · rw [hct]; exact bc
        · rw [hct]; exact bv
      · intro post h
        refine ⟨fun _ => k1 _ ?_, fun q => absurd q he⟩
        intro x1 e1
        subst e1
        rw [hrec]
        refine ⟨fun _ => ⟨hin, hin, hin, hin, fun x7 e7 => ?_⟩, fun q => absurd (show nI m < (20 : Int32) from nI_lt (b := 20) h20 (by omega)) q⟩
        rw [ix_1] at e7
        subst e7
        rw [hcl, nar0]
        exact h
      · intro u ht rb
        obtain ⟨r0, r1, r2, r3⟩ := rb
        have hd12 : u.2.2.2.2.2.2.2.2.1 12 = nI m := by rw [← r1]; exact hrec
        refine ⟨upd (upd (upd (upd (upd (upd u.2.2.2.2.2.2.2.2.1 13 (br.2.1 + 1)) 12 (nI (m + 1))) (348 + 4 * m) (nI p)) (349 + 4 * m) kd) (350 + 4 * m) pen) (351 + 4 * m) 0, ?_, ?_, ?_⟩
        · intro post h
          refine ⟨fun _ x2 e2 => ?_, fun q => absurd q he⟩
          rw [← r2] at e2
          subst e2
          rw [upd_ne _ _ (by omega), hd12]
          refine ⟨fun _ => ?_, fun q => ?_⟩
          · unfold wp_X10_breach
            rw [ix_bre]
            intro x6 e6
            rw [ix_1] at e6
            subst e6
            have i1 : nI (348 + 4 * m) + 1 = nI (349 + 4 * m) := by rw [ix_1]; congr 1; omega
            have i2 : nI (348 + 4 * m) + 2 = nI (350 + 4 * m) := by rw [ix_2]; congr 1; omega
            have i3 : nI (348 + 4 * m) + 3 = nI (351 + 4 * m) := by rw [ix_3]; congr 1; omega
            rw [i1, i2, i3, cl_nI (by omega), cl_nI (by omega), cl_nI (by omega), cl_nI (by omega)]
            refine ⟨in_of (by omega) (by omega), in_of (by omega) (by omega), k2 _ ?_ _ ?_⟩
            · refine rT_cong ht (fun i hi => ?_)
              dsimp only
              rw [upd_ne _ _ (by omega), upd_ne _ _ (by omega), upd_ne _ _ (by omega), upd_ne _ _ (by omega)]
            · refine ⟨in_of (by omega) (by omega), in_of (by omega) (by omega), in_of (by omega) (by omega), ?_⟩
              rw [upd_ne _ _ (show 350 + 4 * m ≠ 351 + 4 * m by omega), upd_same]
              exact h
          · rw [show (20 : Int32) = nI 20 from rfl, eq_nI (by omega) (by omega)] at q; omega
        · refine ⟨rfl, ?_, ?_, ?_⟩
          · rw [upd_ne _ _ (by omega), upd_ne _ _ (by omega), upd_ne _ _ (by omega), upd_ne _ _ (by omega), upd_same]
          · rw [upd_ne _ _ (by omega), upd_ne _ _ (by omega), upd_ne _ _ (by omega), upd_ne _ _ (by omega), upd_ne _ _ (by omega), upd_same]
          · intro k hk
            dsimp only
            by_cases e : k = m
            · subst e
              refine ⟨?_, ?_, ?_, ?_⟩
              · rw [upd_same, upd_ne _ _ (by omega), upd_ne _ _ (by omega), upd_ne _ _ (by omega), upd_same]
              · rw [upd_same, upd_ne _ _ (by omega), upd_ne _ _ (by omega), upd_same]
              · rw [upd_same, upd_ne _ _ (by omega), upd_same]
              · rw [upd_same, upd_same]
            · obtain ⟨g0, g1, g2, g3⟩ := r3 k (by omega)
              refine ⟨?_, ?_, ?_, ?_⟩
              · rw [upd_ne _ _ e, upd_ne _ _ (by omega), upd_ne _ _ (by omega), upd_ne _ _ (by omega), upd_ne _ _ (by omega), upd_ne _ _ (by omega), upd_ne _ _ (by omega)]; exact g0
              · rw [upd_ne _ _ e, upd_ne _ _ (by omega), upd_ne _ _ (by omega), upd_ne _ _ (by omega), upd_ne _ _ (by omega), upd_ne _ _ (by omega), upd_ne _ _ (by omega)]; exact g1
              · rw [upd_ne _ _ e, upd_ne _ _ (by omega), upd_ne _ _ (by omega), upd_ne _ _ (by omega), upd_ne _ _ (by omega), upd_ne _ _ (by omega), upd_ne _ _ (by omega)]; exact g2
              · rw [upd_ne _ _ e, upd_ne _ _ (by omega), upd_ne _ _ (by omega), upd_ne _ _ (by omega), upd_ne _ _ (by omega), upd_ne _ _ (by omega), upd_ne _ _ (by omega)]; exact g3
        · intro i hi
          rw [upd_ne _ _ (by omega), upd_ne _ _ (by omega), upd_ne _ _ (by omega), upd_ne _ _ (by omega), upd_ne _ _ (by omega), upd_ne _ _ (by omega)]
    · have e20 : m = 20 := by omega
      subst e20
      have hrec : br.1 = nI 20 := hm
      refine ⟨0, (br.1, (br.2.1 + 1), br.2.2.1, br.2.2.2.1, br.2.2.2.2.1, br.2.2.2.2.2.1, br.2.2.2.2.2.2), 20, ⟨bm, bw, bp, bc, bv⟩, ?_, ?_⟩
      · intro post h
        refine ⟨fun _ => k1 _ ?_, fun q => absurd q he⟩
        intro x1 e1
        subst e1
        refine ⟨fun q => ?_, fun _ => h⟩
        rw [hrec, show (20 : Int32) = nI 20 from rfl, lt_nI (by omega) (by omega)] at q; omega
      · intro u ht rb
        obtain ⟨r0, r1, r2, r3⟩ := rb
        have hd12 : u.2.2.2.2.2.2.2.2.1 12 = nI 20 := by rw [← r1]; exact hrec
        refine ⟨upd u.2.2.2.2.2.2.2.2.1 13 (br.2.1 + 1), ?_, ?_, ?_⟩
        · intro post h
          refine ⟨fun _ x2 e2 => ?_, fun q => absurd q he⟩
          rw [← r2] at e2
          subst e2
          rw [upd_ne _ _ (show (12 : Nat) ≠ 13 by omega), hd12]
          exact ⟨fun q => absurd rfl q, fun _ => h⟩
        · refine ⟨r0, ?_, ?_, ?_⟩
          · rw [upd_ne _ _ (by omega)]; exact r1
          · exact (upd_same _ _ _).symm
          · intro k hk
            obtain ⟨g0, g1, g2, g3⟩ := r3 k hk
            exact ⟨by rw [upd_ne _ _ (by omega)]; exact g0, by rw [upd_ne _ _ (by omega)]; exact g1, by rw [upd_ne _ _ (by omega)]; exact g2, by rw [upd_ne _ _ (by omega)]; exact g3⟩
        · intro i hi
          exact upd_ne _ _ (by omega)

/-! sums -/
def addL (f : Nat → Int64) (k : Nat) (v : Int64) : Int64 := v + f k
def uwS (x : S_X1) (k : Nat) (v : Int64) : Int64 := if x.2.2.2.2.2.2 k = 0 then v + (x.2.2.2.2.2.1 k).toInt64 else v
def uwD (d : Nat → Int32) (k : Nat) (v : Int64) : Int64 := if d (351 + 4 * k) = 1 then v + 0 else v + (d (350 + 4 * k)).toInt64
theorem q_invoiceSum (a : S_X0) (n : Nat) (hn : n ≤ 40) (post : Int64 → S_X0 → Prop) (h : post (fo (addL a.2.2.2.2.2.2) n 0) a) : wp_X0_invoiceSum a (nI n) post := by
  unfold wp_X0_invoiceSum
  refine zl_for (fun k v => (nI n, v, nI k, a)) (addL a.2.2.2.2.2.2) n 0 rfl ?_ ?_
  · intro k hk K hK
    refine ⟨fun q => ?_, fun _ => ⟨in_of (by omega) (by omega), fun x3 e3 x4 e4 => ?_⟩⟩
    · dsimp only at q
      rw [le_nI (by omega) (by omega)] at q; omega
    · dsimp only at e3 e4
      rw [cl_nI (by omega)] at e3
      rw [ix_1] at e4
      subst e3 e4
      exact hK
  · intro K
    refine ⟨fun _ => h, fun q => ?_⟩
    dsimp only at q
    rw [le_nI (by omega) (by omega)] at q; omega
theorem q_unwaived (x : S_X1) (m : Nat) (hm : m ≤ 20) (hr : x.1 = nI m) (post : Int64 → S_X1 → Prop) (h : post (fo (uwS x) m 0) x) : wp_X1_unwaivedSum x post := by
  unfold wp_X1_unwaivedSum
  refine zl_for (fun k v => (v, nI k, x)) (uwS x) m 0 rfl ?_ ?_
  · intro k hk K hK
    have hin : vp_in (nI k) 20 := in_of (by omega) (by omega)
    refine ⟨fun q => ?_, fun _ => ⟨hin, fun q => ?_, fun q => ⟨hin, fun x5 e5 => ?_⟩⟩⟩
    · dsimp only at q
      rw [hr, le_nI (by omega) (by omega)] at q; omega
    · dsimp only at q ⊢
      rw [cl_nI (by omega)] at q
      intro x6 e6
      rw [ix_1] at e6
      subst e6
      unfold uwS at hK
      rw [if_neg q] at hK
      exact hK
    · dsimp only at q e5 ⊢
      rw [cl_nI (by omega)] at q e5
      intro x6 e6
      rw [ix_1] at e6
      subst e5 e6
      unfold uwS at hK
      rw [if_pos q] at hK
      exact hK
  · intro K
    refine ⟨fun _ => h, fun q => ?_⟩
    dsimp only at q
    rw [hr, le_nI (by omega) (by omega)] at q; omega
theorem q_balanceNow (u : S_X10) (n m : Nat) (hn : n ≤ 40) (hm : m ≤ 20) (h0 : u.2.2.2.2.2.2.2.2.1 0 = nI n) (h12 : u.2.2.2.2.2.2.2.2.1 12 = nI m) (post : Int64 → S_X10 → Prop) (h : post (fo (uwD u.2.2.2.2.2.2.2.2.1) m (fo (addL u.2.2.2.2.2.2.2.2.2.2.2.1) n 0)) u) : wp_X10_balanceNow u post := by
  unfold wp_X10_balanceNow
  refine zl_for (fun k v => (v, nI k, u)) (addL u.2.2.2.2.2.2.2.2.2.2.2.1) n 0 rfl ?_ ?_
  · intro k hk K hK
    refine ⟨fun q => ?_, fun _ => ⟨in_of (by omega) (by omega), fun x3 e3 x4 e4 => ?_⟩⟩
    · dsimp only at q
      rw [h0, le_nI (by omega) (by omega)] at q; omega
    · dsimp only at e3 e4
      rw [cl_nI (by omega)] at e3
      rw [ix_1] at e4
      subst e3 e4
      exact hK
  · intro K
    refine ⟨fun _ => ?_, fun q => ?_⟩
    · dsimp only
      refine zl_for (fun k v => (v, nI k, u)) (uwD u.2.2.2.2.2.2.2.2.1) m (fo (addL u.2.2.2.2.2.2.2.2.2.2.2.1) n 0) rfl ?_ ?_
      · intro k hk K hK
        have i2 : (348 : Int32) + 4 * nI k + 2 = nI (350 + 4 * k) := by rw [ix_bre, ix_2]; congr 1; omega
        have i3 : (348 : Int32) + 4 * nI k + 3 = nI (351 + 4 * k) := by rw [ix_bre, ix_3]; congr 1; omega
        refine ⟨fun q => ?_, fun _ => ?_⟩
        · dsimp only at q
          rw [h12, le_nI (by omega) (by omega)] at q; omega
        · dsimp only
          unfold wp_X10_breach
          dsimp only
          rw [i2, i3, cl_nI (by omega), cl_nI (by omega)]
          refine ⟨in_of (by omega) (by omega), fun q => ⟨in_of (by omega) (by omega), fun x13 e13 x14 e14 => ?_⟩, fun q x13 e13 x14 e14 => ?_⟩
          · rw [ix_1] at e14
            subst e13 e14
            unfold uwD at hK
            rw [if_neg q] at hK
            exact hK
          · rw [ix_1] at e14
            subst e13 e14
            unfold uwD at hK
            rw [if_pos q] at hK
            exact hK
      · intro K
        refine ⟨fun _ => h, fun q => ?_⟩
        dsimp only at q
        rw [h12, le_nI (by omega) (by omega)] at q; omega
    · dsimp only at q
      rw [h0, le_nI (by omega) (by omega)] at q; omega
theorem bal_eq {n m v : Nat} {a : S_X0} {x : S_X1} {d : Nat → Int32} {b : Nat → Int64} (hi : ∀ p, p < n → a.2.2.2.2.2.2 p = b p) (rb : rB m x d) (bb : bB m v x) : fo (uwD d) m (fo (addL b) n 0) = fo (addL a.2.2.2.2.2.2) n 0 + fo (uwS x) m 0 := by
  have e1 : fo (addL b) n 0 = fo (addL a.2.2.2.2.2.2) n 0 := fo_cong (fun k hk w => by unfold addL; rw [hi k hk]) 0 n (Nat.le_refl n)
  rw [e1]
  have key := fo_rel (g := uwD d) (h := uwS x) (fun _ p q => p = fo (addL a.2.2.2.2.2.2) n 0 + q) m (fo (addL a.2.2.2.2.2.2) n 0) 0 ?_ (by rw [Int64.add_zero])
  · exact key
  · intro k p q hk e
    obtain ⟨-, -, g2, g3⟩ := rb.2.2.2 k hk
    unfold uwD uwS
    rw [← g2, ← g3, e]
    rcases bb.2.1 k (by have := bb.1; omega) with h | h
    · rw [h, if_neg (by decide), if_pos rfl, Int64.add_assoc]
    · rw [h, if_pos rfl, if_neg (by decide), Int64.add_zero]
theorem P_balance {c : S_X2} {d : Nat → Int32} {b : Nat → Int64} (hC : rC c d b) : ∃ r : Int64, (∀ (x9 : S_X9) (post : Int64 → S_X9 × S_X2 → Prop), post r (x9, c) → wp_X9_balance x9 c post) ∧ (∀ (u : S_X10) (post : Int64 → S_X10 → Prop), u.2.2.2.2.2.2.2.2.1 = d → u.2.2.2.2.2.2.2.2.2.2.2.1 = b → post r u → wp_X10_balanceNow u post) := by
  obtain ⟨ht, bt, ⟨n, k, hn, htn, hk, hclk, ra, ba, hi⟩, ⟨m, v, hv, hv4, rb, bb⟩⟩ := hC
  refine ⟨fo (addL c.2.1.2.2.2.2.2.2) n 0 + fo (uwS c.2.2) m 0, ?_, ?_⟩
  · intro x9 post hp
    unfold wp_X9_balance
    rw [htn]
    refine q_invoiceSum _ n hn _ ?_
    exact q_unwaived _ m bb.1 rb.1 _ hp
  · intro u post hd hb hp
    subst hd hb
    refine q_balanceNow u n m hn bb.1 (by rw [← ht.1.1]; exact htn) (by rw [← rb.2.1]; exact rb.1) post ?_
    rw [bal_eq hi rb bb]
    exact hp

/-! the checksum -/
def mxA (a : S_X0) (p : Nat) (v : Int64) : Int64 := 31 * (31 * (31 * (31 * (31 * v + (a.2.1 p).toInt64) + (a.2.2.1 p).toInt64) + (a.2.2.2.1 p).toInt64) + (a.2.2.2.2.1 p).toInt64) + (a.2.2.2.2.2.1 p).toInt64
def mxB (x : S_X1) (k : Nat) (v : Int64) : Int64 := 31 * v + (if x.2.2.2.2.2.2 k = 0 then x.2.2.2.2.2.1 k else -1).toInt64
def mxI (d : Nat → Int32) (p k : Nat) (v : Int64) : Int64 := 31 * v + (d (148 + 5 * p + k)).toInt64
def mxD (d : Nat → Int32) (k : Nat) (v : Int64) : Int64 := 31 * v + (if d (351 + 4 * k) = 1 then -1 else d (350 + 4 * k)).toInt64
theorem q_mixA (a : S_X0) (n : Nat) (hn : n ≤ 40) (v0 : Int64) (post : Int64 → S_X0 → Prop) (h : post (fo (mxA a) n v0) a) : wp_X0_mixInto a v0 (nI n) post := by
  unfold wp_X0_mixInto
  refine zl_for (fun k v => (nI n, v, nI k, a)) (mxA a) n v0 rfl ?_ ?_
  · intro k hk K hK
    have hin : vp_in (nI k) 40 := in_of (by omega) (by omega)
    refine ⟨fun q => ?_, fun _ => ⟨hin, fun x3 e3 => ⟨hin, fun x5 e5 => ⟨hin, fun x7 e7 => ⟨hin, fun x9 e9 => ⟨hin, fun x11 e11 x12 e12 => ?_⟩⟩⟩⟩⟩⟩
    · dsimp only at q
      rw [le_nI (by omega) (by omega)] at q; omega
    · dsimp only at e3 e5 e7 e9 e11 e12
      rw [cl_nI (by omega)] at e3 e5 e7 e9 e11
      rw [ix_1] at e12
      subst e3 e5 e7 e9 e11 e12
      exact hK
  · intro K
    refine ⟨fun _ => h, fun q => ?_⟩
    dsimp only at q
    rw [le_nI (by omega) (by omega)] at q; omega
theorem q_mixB (x : S_X1) (m : Nat) (hm : m ≤ 20) (hr : x.1 = nI m) (v0 : Int64) (post : Int64 → S_X1 → Prop) (h : post (fo (mxB x) m v0) x) : wp_X1_mixInto x v0 post := by
  unfold wp_X1_mixInto
  refine zl_for (fun k v => (v, nI k, x)) (mxB x) m v0 rfl ?_ ?_
  · intro k hk K hK
    have hin : vp_in (nI k) 20 := in_of (by omega) (by omega)
    refine ⟨fun q => ?_, fun _ => ⟨hin, fun q => ⟨hin, ?_⟩, fun q => ?_⟩⟩
    · dsimp only at q
      rw [hr, le_nI (by omega) (by omega)] at q; omega
    · dsimp only at q ⊢
      rw [cl_nI (by omega)] at q ⊢
      intro x5 e5 x6 e6
      rw [ix_1] at e6
      subst e5 e6
      unfold mxB at hK
      rw [if_pos q] at hK
      exact hK
    · dsimp only at q ⊢
      rw [cl_nI (by omega)] at q
      intro x5 e5 x6 e6
      rw [ix_1] at e6
      subst e5 e6
      unfold mxB at hK
      rw [if_neg q] at hK
      exact hK
  · intro K
    refine ⟨fun _ => h, fun q => ?_⟩
    dsimp only at q
    rw [hr, le_nI (by omega) (by omega)] at q; omega
theorem q_mixM (u : S_X10) (n m : Nat) (hn : n ≤ 40) (hm : m ≤ 20) (h0 : u.2.2.2.2.2.2.2.2.1 0 = nI n) (h12 : u.2.2.2.2.2.2.2.2.1 12 = nI m) (v0 : Int64) (post : Int64 → S_X10 → Prop) (h : post (fo (mxD u.2.2.2.2.2.2.2.2.1) m (fo (fun p v => fo (mxI u.2.2.2.2.2.2.2.2.1 p) 5 v) n v0)) u) : ∃ i, zl (fun K st => j_X10_checksum_37 K st.1 st.2.1 st.2.2 post) i (v0, (0 : Int32), u) := by
  refine zl_for (fun k v => (v, nI k, u)) (fun p v => fo (mxI u.2.2.2.2.2.2.2.2.1 p) 5 v) n v0 rfl ?_ ?_
  · intro k hk K hK
    refine ⟨fun q => ?_, fun _ => ?_⟩
    · dsimp only at q
      rw [h0, le_nI (by omega) (by omega)] at q; omega
    · dsimp only
      refine zl_for (fun j v => (v, nI k, nI j, u)) (mxI u.2.2.2.2.2.2.2.2.1 k) 5 _ rfl ?_ ?_
      · intro j hj K2 hK2
        refine ⟨fun q => ?_, fun _ => ?_⟩
        · dsimp only at q
          rw [show (5 : Int32) = nI 5 from rfl, le_nI (by omega) (by omega)] at q; omega
        · dsimp only
          unfold wp_X10_period
          rw [ix_per]
          dsimp only
          rw [nI_add]
          refine ⟨in_of (by omega) (by omega), fun x18 e18 x19 e19 => ?_⟩
          rw [cl_nI (by omega)] at e18
          rw [ix_1] at e19
          subst e18 e19
          exact hK2
      · intro K2
        refine ⟨fun _ x14 e14 => ?_, fun q => ?_⟩
        · dsimp only at e14
          rw [ix_1] at e14
          subst e14
          exact hK
        · exact absurd (show (5 : Int32) ≤ nI 5 by decide) q
  · intro K
    refine ⟨fun _ => ?_, fun q => ?_⟩
    · dsimp only
      refine zl_for (fun k v => (v, nI k, u)) (mxD u.2.2.2.2.2.2.2.2.1) m _ rfl ?_ ?_
      · intro k hk K hK
        have i2 : (348 : Int32) + 4 * nI k + 2 = nI (350 + 4 * k) := by rw [ix_bre, ix_2]; congr 1; omega
        have i3 : (348 : Int32) + 4 * nI k + 3 = nI (351 + 4 * k) := by rw [ix_bre, ix_3]; congr 1; omega
        refine ⟨fun q => ?_, fun _ => ?_⟩
        · dsimp only at q
          rw [h12, le_nI (by omega) (by omega)] at q; omega
        · dsimp only
          unfold wp_X10_breach
          dsimp only
          rw [i2, i3, cl_nI (by omega), cl_nI (by omega)]
          refine ⟨in_of (by omega) (by omega), fun q => ⟨in_of (by omega) (by omega), fun x20 e20 x21 e21 => ?_⟩, fun q x20 e20 x21 e21 => ?_⟩
          · rw [ix_1] at e21
            subst e20 e21
            unfold mxD at hK
            rw [if_neg q] at hK
            exact hK
          · rw [ix_1] at e21
            subst e20 e21
            unfold mxD at hK
            rw [if_pos q] at hK
            exact hK
      · intro K
        refine ⟨fun _ => h, fun q => ?_⟩
        dsimp only at q
        rw [h12, le_nI (by omega) (by omega)] at q; omega
    · dsimp only at q
      rw [h0, le_nI (by omega) (by omega)] at q; omega
theorem P_checksum {c : S_X2} {d : Nat → Int32} {b : Nat → Int64} (hC : rC c d b) : ∃ r : Int64, (∀ (x9 : S_X9) (post : Int64 → S_X9 × S_X2 → Prop), post r (x9, c) → wp_X9_checksum x9 c post) ∧ (∀ (u : S_X10) (post : Int64 → S_X10 → Prop), u.2.2.2.2.2.2.2.2.1 = d → u.2.2.2.2.2.2.2.2.2.2.2.1 = b → post r ((0 : Int32), u.2.1, u.2.2.1, u.2.2.2.1, u.2.2.2.2.1, u.2.2.2.2.2.1, u.2.2.2.2.2.2.1, u.2.2.2.2.2.2.2.1, u.2.2.2.2.2.2.2.2.1, u.2.2.2.2.2.2.2.2.2.1, u.2.2.2.2.2.2.2.2.2.2.1, u.2.2.2.2.2.2.2.2.2.2.2.1, u.2.2.2.2.2.2.2.2.2.2.2.2.1, u.2.2.2.2.2.2.2.2.2.2.2.2.2.1, u.2.2.2.2.2.2.2.2.2.2.2.2.2.2.1, u.2.2.2.2.2.2.2.2.2.2.2.2.2.2.2.1, u.2.2.2.2.2.2.2.2.2.2.2.2.2.2.2.2.1, u.2.2.2.2.2.2.2.2.2.2.2.2.2.2.2.2.2.1, u.2.2.2.2.2.2.2.2.2.2.2.2.2.2.2.2.2.2.1, u.2.2.2.2.2.2.2.2.2.2.2.2.2.2.2.2.2.2.2.1, u.2.2.2.2.2.2.2.2.2.2.2.2.2.2.2.2.2.2.2.2.1, u.2.2.2.2.2.2.2.2.2.2.2.2.2.2.2.2.2.2.2.2.2) → wp_X10_checksum u post) := by
  obtain ⟨bl, g1, g2⟩ := P_balance hC
  obtain ⟨ht, bt, ⟨n, k, hn, htn, hk, hclk, ra, ba, hi⟩, ⟨m, v, hv, hv4, rb, bb⟩⟩ := hC
  refine ⟨fo (mxB c.2.2) m (fo (mxA c.2.1) n (31 * (31 * c.2.1.1.toInt64 + bl) + c.2.2.2.1.toInt64)), ?_, ?_⟩
  · intro x9 post hp
    refine g1 x9 _ ?_
    intro x3 e3 x4 e4
    subst e3 e4
    dsimp only
    rw [htn]
    exact q_mixA _ n hn _ _ (q_mixB _ m bb.1 rb.1 _ _ hp)
  · intro u post hd hb hp
    subst hd hb
    refine g2 ((0 : Int32), u.2.1, u.2.2.1, u.2.2.2.1, u.2.2.2.2.1, u.2.2.2.2.2.1, u.2.2.2.2.2.2.1, u.2.2.2.2.2.2.2.1, u.2.2.2.2.2.2.2.2.1, u.2.2.2.2.2.2.2.2.2.1, u.2.2.2.2.2.2.2.2.2.2.1, u.2.2.2.2.2.2.2.2.2.2.2.1, u.2.2.2.2.2.2.2.2.2.2.2.2.1, u.2.2.2.2.2.2.2.2.2.2.2.2.2.1, u.2.2.2.2.2.2.2.2.2.2.2.2.2.2.1, u.2.2.2.2.2.2.2.2.2.2.2.2.2.2.2.1, u.2.2.2.2.2.2.2.2.2.2.2.2.2.2.2.2.1, u.2.2.2.2.2.2.2.2.2.2.2.2.2.2.2.2.2.1, u.2.2.2.2.2.2.2.2.2.2.2.2.2.2.2.2.2.2.1, u.2.2.2.2.2.2.2.2.2.2.2.2.2.2.2.2.2.2.2.1, u.2.2.2.2.2.2.2.2.2.2.2.2.2.2.2.2.2.2.2.2.1, u.2.2.2.2.2.2.2.2.2.2.2.2.2.2.2.2.2.2.2.2.2) _ rfl rfl ?_
    intro x3 e3
    subst e3
    refine q_mixM ((0 : Int32), u.2.1, u.2.2.1, u.2.2.2.1, u.2.2.2.2.1, u.2.2.2.2.2.1, u.2.2.2.2.2.2.1, u.2.2.2.2.2.2.2.1, u.2.2.2.2.2.2.2.2.1, u.2.2.2.2.2.2.2.2.2.1, u.2.2.2.2.2.2.2.2.2.2.1, u.2.2.2.2.2.2.2.2.2.2.2.1, u.2.2.2.2.2.2.2.2.2.2.2.2.1, u.2.2.2.2.2.2.2.2.2.2.2.2.2.1, u.2.2.2.2.2.2.2.2.2.2.2.2.2.2.1, u.2.2.2.2.2.2.2.2.2.2.2.2.2.2.2.1, u.2.2.2.2.2.2.2.2.2.2.2.2.2.2.2.2.1, u.2.2.2.2.2.2.2.2.2.2.2.2.2.2.2.2.2.1, u.2.2.2.2.2.2.2.2.2.2.2.2.2.2.2.2.2.2.1, u.2.2.2.2.2.2.2.2.2.2.2.2.2.2.2.2.2.2.2.1, u.2.2.2.2.2.2.2.2.2.2.2.2.2.2.2.2.2.2.2.2.1, u.2.2.2.2.2.2.2.2.2.2.2.2.2.2.2.2.2.2.2.2.2) n m hn bb.1 (by show u.2.2.2.2.2.2.2.2.1 0 = _; rw [← ht.1.1]; exact htn) (by show u.2.2.2.2.2.2.2.2.1 12 = _; rw [← rb.2.1]; exact rb.1) _ _ ?_
    dsimp only
    have e1 : ∀ w : Int64, fo (fun p v => fo (mxI u.2.2.2.2.2.2.2.2.1 p) 5 v) n w = fo (mxA c.2.1) n w := by
      intro w
      refine fo_cong (fun p hp w => ?_) w n (Nat.le_refl n)
      obtain ⟨q0, q1, q2, q3, q4⟩ := ra.2 p hp
      unfold mxA
      rw [q0, q1, q2, q3, q4]
      show mxI u.2.2.2.2.2.2.2.2.1 p 4 (mxI u.2.2.2.2.2.2.2.2.1 p 3 (mxI u.2.2.2.2.2.2.2.2.1 p 2 (mxI u.2.2.2.2.2.2.2.2.1 p 1 (mxI u.2.2.2.2.2.2.2.2.1 p 0 w)))) = _
      unfold mxI
      rw [show 148 + 5 * p + 0 = 148 + 5 * p by omega, show 148 + 5 * p + 1 = 149 + 5 * p by omega, show 148 + 5 * p + 2 = 150 + 5 * p by omega, show 148 + 5 * p + 3 = 151 + 5 * p by omega, show 148 + 5 * p + 4 = 152 + 5 * p by omega]
    have e2 : ∀ w : Int64, fo (mxD u.2.2.2.2.2.2.2.2.1) m w = fo (mxB c.2.2) m w := by
      intro w
      refine fo_cong (fun p hp w => ?_) w m (Nat.le_refl m)
      obtain ⟨-, -, q2, q3⟩ := rb.2.2.2 p hp
      unfold mxD mxB
      rw [← q2, ← q3]
      rcases bb.2.1 p (by have := bb.1; omega) with h | h
      · rw [h, if_neg (by decide), if_pos rfl]
      · rw [h, if_pos rfl, if_neg (by decide)]
    rw [e1, e2, ← ra.1, ← rb.2.2.1]
    exact hp
