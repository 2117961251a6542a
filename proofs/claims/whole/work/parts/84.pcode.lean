/-! The code of an expression, and what it computes. -/
def lmt (v : Int64) : Int64 := if (if v < (1000000 : Int64) then v else (1000000 : Int64)) < (-1000000 : Int64) then (-1000000 : Int64) else (if v < (1000000 : Int64) then v else (1000000 : Int64))
theorem mil_p : (1000000 : Int64).toInt = 1000000 := by decide
theorem mil_n : (-1000000 : Int64).toInt = -1000000 := by decide
theorem lmt_mid {v : Int64} (h1 : -1000000 ≤ v.toInt) (h2 : v.toInt ≤ 1000000) : lmt v = v := by
  unfold lmt
  by_cases q : v < (1000000 : Int64)
  · rw [if_pos q, if_neg (by rw [fa_lt64, mil_n]; omega)]
  · rw [if_neg q, if_neg (by decide)]
    rw [fa_lt64, mil_p] at q
    rw [fa_eq64, mil_p]; omega
theorem lmt_hi {v : Int64} (h : 1000000 < v.toInt) : lmt v = 1000000 := by
  unfold lmt
  have q : ¬ v < (1000000 : Int64) := by rw [fa_lt64, mil_p]; omega
  rw [if_neg q, if_neg (by decide)]
theorem lmt_lo {v : Int64} (h : v.toInt < -1000000) : lmt v = -1000000 := by
  unfold lmt
  have q : v < (1000000 : Int64) := by rw [fa_lt64, mil_p]; omega
  rw [if_pos q, if_pos (by rw [fa_lt64, mil_n]; omega)]
theorem lmt_bd (v : Int64) : -1000000 ≤ (lmt v).toInt ∧ (lmt v).toInt ≤ 1000000 := by
  by_cases h1 : 1000000 < v.toInt
  · rw [lmt_hi h1, mil_p]; omega
  · by_cases h2 : v.toInt < -1000000
    · rw [lmt_lo h2, mil_n]; omega
    · rw [lmt_mid (by omega) (by omega)]; omega
theorem r_limited {v : Int64} {post : Int64 → Unit → Prop} (h : post (lmt v) ()) : wp_X10_limited v post := by
  refine ⟨fun q => ⟨fun q2 => ?_, fun q2 => ?_⟩, fun q => ?_⟩
  · rw [lg_le, fa_le64, mil_p] at q
    rw [lg_ge, fa_lt64, mil_n] at q2
    rw [lmt_mid (by omega) q] at h
    exact h
  · rw [lg_ge, fa_lt64, mil_n] at q2
    rw [lmt_lo (by omega)] at h
    exact h
  · rw [lg_le, fa_le64, mil_p] at q
    rw [lmt_hi (by omega)] at h
    exact h
def quo (a b : Int64) : Int64 := if b = 0 then 0 else a / b
theorem quo_bd {a b : Int64} (h1 : -1000000 ≤ a.toInt) (h2 : a.toInt ≤ 1000000) : -1000000 ≤ (quo a b).toInt ∧ (quo a b).toInt ≤ 1000000 := by
  unfold quo
  by_cases q : b = 0
  · rw [if_pos q]; decide
  · rw [if_neg q, Int64.toInt_div]
    have h := Int.natAbs_tdiv_le_natAbs a.toInt b.toInt
    rw [fb_bmodL (by omega) (by omega)]
    omega
theorem c_quotient {a b : Int64} {post : Int64 → Unit → Prop} (h : post (quo a b) ()) : wp_X3_quotient a b post := by
  unfold quo at h
  refine ⟨fun q => ?_, fun q => ?_⟩
  · rw [lg_eq0] at q
    rw [if_neg q] at h
    exact ⟨q, h⟩
  · rw [lg_eq0] at q
    rw [if_pos q] at h
    exact h
/-- the operations: 2 plus, 3 minus, 4 times, 5 divided -/
def opv (k : Nat) (a b : Int64) : Int64 := if k = 2 then lmt (a + b) else if k = 3 then lmt (a - b) else if k = 4 then lmt (a * b) else lmt (quo a b)
theorem opv_bd (k : Nat) (a b : Int64) : -1000000 ≤ (opv k a b).toInt ∧ (opv k a b).toInt ≤ 1000000 := by
  unfold opv
  by_cases h2 : k = 2
  · rw [if_pos h2]; exact lmt_bd _
  · by_cases h3 : k = 3
    · rw [if_neg h2, if_pos h3]; exact lmt_bd _
    · by_cases h4 : k = 4
      · rw [if_neg h2, if_neg h3, if_pos h4]; exact lmt_bd _
      · rw [if_neg h2, if_neg h3, if_neg h4]; exact lmt_bd _
theorem r_operate {k : Nat} (hk : 2 ≤ k ∧ k ≤ 5) {a b : Int64} (h1 : -1000000 ≤ a.toInt) (h2 : a.toInt ≤ 1000000) {post : Int64 → Unit → Prop} (h : post (opv k a b) ()) : wp_X10_operate (nI k) a b post := by
  have e : ∀ j, j < 10 → (nI k = nI j ↔ k = j) := fun j hj => eq_nI (by omega) (by omega)
  unfold opv at h
  refine ⟨fun q5 => ⟨fun q2 => ⟨fun q3 => ?_, fun q3 => ?_⟩, fun q2 => ?_⟩, fun q5 => ?_⟩
  · rw [show (5 : Int32) = nI 5 from rfl, e 5 (by omega)] at q5
    rw [show (2 : Int32) = nI 2 from rfl, e 2 (by omega)] at q2
    rw [show (3 : Int32) = nI 3 from rfl, e 3 (by omega)] at q3
    rw [if_neg q2, if_neg q3, if_pos (by omega)] at h
    exact r_limited h
  · rw [show (3 : Int32) = nI 3 from rfl, e 3 (by omega)] at q3
    rw [if_neg (by omega), if_pos q3] at h
    exact r_limited h
  · rw [show (2 : Int32) = nI 2 from rfl, e 2 (by omega)] at q2
    rw [if_pos q2] at h
    exact r_limited h
  · rw [show (5 : Int32) = nI 5 from rfl, e 5 (by omega)] at q5
    have hb := quo_bd (b := b) h1 h2
    rw [if_neg (by omega), if_neg (by omega), if_neg (by omega), lmt_mid hb.1 hb.2] at h
    unfold quo at h
    refine ⟨fun q => ?_, fun q => ?_⟩
    · rw [lg_eq0] at q
      rw [if_neg q] at h
      exact ⟨q, h⟩
    · rw [lg_eq0] at q
      rw [if_pos q] at h
      exact h
abbrev vbd (val : S_X3 → Int64) : Prop := ∀ u : S_X3, lim u.1 39 → lim u.2 9999 → -1000000 ≤ (val u).toInt ∧ (val u).toInt ≤ 1000000
abbrev zdm (post : Int32 → S_X10 → Prop) (s : Int32 × Int32 × Int32 × Int32 × S_X10) : Prop := ∃ m, zl (fun K st => j_X10_demand_27 K st.1 st.2.1 st.2.2.1 st.2.2.2.1 st.2.2.2.2 post) m s
/-- this code pushes this value -/
def EV (cs : List Int32) (val : S_X3 → Int64) : Prop := ∀ (x1 x2 : Int32) (u : S_X10) (t i N : Nat) (post : Int32 → S_X10 → Prop), lim x1 39 → lim x2 9999 → u.2.2.2.2.2.2.2.2.2.1 14 = nI N → N ≤ 1290 → i + cs.length ≤ N → t ≤ i → (∀ j, j < cs.length → u.2.2.2.2.2.2.2.2.2.1 (428 + (i + j)) = cs.getD j 0) → (∀ s' : Nat → Int64, (∀ j, j < t → s' j = u.2.2.2.2.2.2.2.2.2.2.2.2.2.2.2.2.2.1 j) → s' t = val (x1, x2) → zdm post (x1, x2, nI (t + 1), nI (i + cs.length), (u.1, u.2.1, u.2.2.1, u.2.2.2.1, u.2.2.2.2.1, u.2.2.2.2.2.1, u.2.2.2.2.2.2.1, u.2.2.2.2.2.2.2.1, u.2.2.2.2.2.2.2.2.1, u.2.2.2.2.2.2.2.2.2.1, u.2.2.2.2.2.2.2.2.2.2.1, u.2.2.2.2.2.2.2.2.2.2.2.1, u.2.2.2.2.2.2.2.2.2.2.2.2.1, u.2.2.2.2.2.2.2.2.2.2.2.2.2.1, u.2.2.2.2.2.2.2.2.2.2.2.2.2.2.1, u.2.2.2.2.2.2.2.2.2.2.2.2.2.2.2.1, u.2.2.2.2.2.2.2.2.2.2.2.2.2.2.2.2.1, s', u.2.2.2.2.2.2.2.2.2.2.2.2.2.2.2.2.2.2.1, u.2.2.2.2.2.2.2.2.2.2.2.2.2.2.2.2.2.2.2.1, u.2.2.2.2.2.2.2.2.2.2.2.2.2.2.2.2.2.2.2.2.1, u.2.2.2.2.2.2.2.2.2.2.2.2.2.2.2.2.2.2.2.2.2))) → zdm post (x1, x2, nI t, nI i, u)
theorem ev_push {c d : Int32} (hc : c = 0 ∨ c = 1) {val : S_X3 → Int64} (hv : ∀ (x1 x2 x3 x4 : Int32) (u : S_X10) (K : Int32 × Int32 × Int32 × Int32 × S_X10 → Prop) (post : Int32 → S_X10 → Prop), j_X10_demand_115 K x1 x2 x3 x4 (val (x1, x2)) x3 u post → ((¬ c = 0 → ((¬ d = 0 → ((¬ d = 1 → j_X10_demand_115 K x1 x2 x3 x4 x2.toInt64 x3 u post) ∧ (d = 1 → j_X10_demand_115 K x1 x2 x3 x4 ((x1 - x1 / 4 * 4).toInt64) x3 u post))) ∧ (d = 0 → j_X10_demand_115 K x1 x2 x3 x4 x1.toInt64 x3 u post))) ∧ (c = 0 → j_X10_demand_115 K x1 x2 x3 x4 d.toInt64 x3 u post))) : EV [c, d] val := by
  intro x1 x2 u t i N post l1 l2 hN hN2 hi ht hd hk
  have hi2 : i + 2 ≤ N := hi
  have e0 : u.2.2.2.2.2.2.2.2.2.1 (428 + i) = c := hd 0 (by simp)
  have e1 : u.2.2.2.2.2.2.2.2.2.1 (428 + (i + 1)) = d := hd 1 (by simp)
  refine zl_step (s' := (x1, x2, nI (t + 1), nI (i + 2), (u.1, u.2.1, u.2.2.1, u.2.2.2.1, u.2.2.2.2.1, u.2.2.2.2.2.1, u.2.2.2.2.2.2.1, u.2.2.2.2.2.2.2.1, u.2.2.2.2.2.2.2.2.1, u.2.2.2.2.2.2.2.2.2.1, u.2.2.2.2.2.2.2.2.2.2.1, u.2.2.2.2.2.2.2.2.2.2.2.1, u.2.2.2.2.2.2.2.2.2.2.2.2.1, u.2.2.2.2.2.2.2.2.2.2.2.2.2.1, u.2.2.2.2.2.2.2.2.2.2.2.2.2.2.1, u.2.2.2.2.2.2.2.2.2.2.2.2.2.2.2.1, u.2.2.2.2.2.2.2.2.2.2.2.2.2.2.2.2.1, (vp_updL u.2.2.2.2.2.2.2.2.2.2.2.2.2.2.2.2.2.1 t (val (x1, x2))), u.2.2.2.2.2.2.2.2.2.2.2.2.2.2.2.2.2.2.1, u.2.2.2.2.2.2.2.2.2.2.2.2.2.2.2.2.2.2.2.1, u.2.2.2.2.2.2.2.2.2.2.2.2.2.2.2.2.2.2.2.2.1, u.2.2.2.2.2.2.2.2.2.2.2.2.2.2.2.2.2.2.2.2.2))) (fun K hK => ⟨fun q => ?_, fun _ => ?_⟩) ?_
  · dsimp only at q
    rw [hN, le_nI (by omega) (by omega)] at q; omega
  · dsimp only
    rw [show (428 : Int32) = nI 428 from rfl, nI_add, cl_nI (by omega), e0]
    refine ⟨in_of (by omega) (by omega), fun x10 h10 => ⟨fun q => ?_, fun _ x18 h18 => ?_⟩⟩
    · rw [h10] at q
      rcases hc with hc | hc
      · rw [hc] at q; exact absurd q (by decide)
      · rw [hc] at q; exact absurd q (by decide)
    · rw [ix_1] at h18
      subst h18 h10
      rw [nI_add, cl_nI (by omega), e1]
      refine ⟨in_of (by omega) (by omega), fun x20 h20 => ?_⟩
      subst h20
      refine hv x1 x2 (nI t) (nI (i + 1)) u K post ⟨in_of (by omega) (by omega), fun x26 h26 x24 h24 => ?_⟩
      rw [ix_1] at h26 h24
      subst h26 h24
      rw [cl_nI (by omega)]
      exact hK
  · exact hk _ (fun j hj => updL_ne _ _ (by omega)) (updL_same _ _ _)
theorem ev_lit (d : Int32) : EV [0, d] (fun _ => d.toInt64) := ev_push (Or.inl rfl) (fun x1 x2 x3 x4 u K post h => ⟨fun q => absurd rfl q, fun _ => h⟩)
theorem ev_var0 : EV [1, 0] (fun u => u.1.toInt64) := ev_push (Or.inr rfl) (fun x1 x2 x3 x4 u K post h => ⟨fun _ => ⟨fun q => absurd rfl q, fun _ => h⟩, fun q => absurd q (by decide)⟩)
theorem ev_var1 : EV [1, 1] (fun u => (u.1 - u.1 / 4 * 4).toInt64) := ev_push (Or.inr rfl) (fun x1 x2 x3 x4 u K post h => ⟨fun _ => ⟨fun _ => ⟨fun q => absurd rfl q, fun _ => h⟩, fun q => absurd q (by decide)⟩, fun q => absurd q (by decide)⟩)
theorem ev_var2 : EV [1, 2] (fun u => u.2.toInt64) := ev_push (Or.inr rfl) (fun x1 x2 x3 x4 u K post h => ⟨fun _ => ⟨fun _ => ⟨fun _ => h, fun q => absurd q (by decide)⟩, fun q => absurd q (by decide)⟩, fun q => absurd q (by decide)⟩)
theorem getD_app1 {a b : List Int32} {j : Nat} (h : j < a.length) : (a ++ b).getD j 0 = a.getD j 0 := by
  simp [List.getD, List.getElem?_append_left h]
theorem getD_app2 {a b : List Int32} (j : Nat) : (a ++ b).getD (a.length + j) 0 = b.getD j 0 := by
  simp [List.getD, List.getElem?_append_right]
theorem ev_op {a b : List Int32} {va vb : S_X3 → Int64} {k : Nat} (hk : 2 ≤ k ∧ k ≤ 5) (ha : EV a va) (hb : EV b vb) (la : 0 < a.length) (lb : 0 < b.length) (ba : vbd va) : EV (a ++ (b ++ [nI k])) (fun u => opv k (va u) (vb u)) := by
  intro x1 x2 u t i N post l1 l2 hN hN2 hi ht hd hkk
  have elen : (a ++ (b ++ [nI k])).length = a.length + (b.length + 1) := by simp
  rw [elen] at hi hkk
  have hda : ∀ j, j < a.length → u.2.2.2.2.2.2.2.2.2.1 (428 + (i + j)) = a.getD j 0 := by
    intro j hj
    rw [hd j (by rw [elen]; omega), getD_app1 hj]
  have hdb : ∀ j, j < b.length → u.2.2.2.2.2.2.2.2.2.1 (428 + (i + a.length + j)) = b.getD j 0 := by
    intro j hj
    have := hd (a.length + j) (by rw [elen]; omega)
    rw [getD_app2, getD_app1 hj, show i + (a.length + j) = i + a.length + j by omega] at this
    exact this
  have hdk : u.2.2.2.2.2.2.2.2.2.1 (428 + (i + a.length + b.length)) = nI k := by
    have := hd (a.length + (b.length + 0)) (by rw [elen]; omega)
    rw [getD_app2, getD_app2, show i + (a.length + (b.length + 0)) = i + a.length + b.length by omega] at this
    exact this
  refine ha x1 x2 u t i N post l1 l2 hN hN2 (by omega) ht hda (fun s1 hs1 es1 => ?_)
  refine hb x1 x2 (u.1, u.2.1, u.2.2.1, u.2.2.2.1, u.2.2.2.2.1, u.2.2.2.2.2.1, u.2.2.2.2.2.2.1, u.2.2.2.2.2.2.2.1, u.2.2.2.2.2.2.2.2.1, u.2.2.2.2.2.2.2.2.2.1, u.2.2.2.2.2.2.2.2.2.2.1, u.2.2.2.2.2.2.2.2.2.2.2.1, u.2.2.2.2.2.2.2.2.2.2.2.2.1, u.2.2.2.2.2.2.2.2.2.2.2.2.2.1, u.2.2.2.2.2.2.2.2.2.2.2.2.2.2.1, u.2.2.2.2.2.2.2.2.2.2.2.2.2.2.2.1, u.2.2.2.2.2.2.2.2.2.2.2.2.2.2.2.2.1, s1, u.2.2.2.2.2.2.2.2.2.2.2.2.2.2.2.2.2.2.1, u.2.2.2.2.2.2.2.2.2.2.2.2.2.2.2.2.2.2.2.1, u.2.2.2.2.2.2.2.2.2.2.2.2.2.2.2.2.2.2.2.2.1, u.2.2.2.2.2.2.2.2.2.2.2.2.2.2.2.2.2.2.2.2.2) (t + 1) (i + a.length) N post l1 l2 hN hN2 (by omega) (by omega) hdb (fun s2 hs2 es2 => ?_)
  have es3 : s2 t = va (x1, x2) := (hs2 t (by omega)).trans es1
  refine zl_step (s' := (x1, x2, nI (t + 1), nI (i + (a.length + (b.length + 1))), (u.1, u.2.1, u.2.2.1, u.2.2.2.1, u.2.2.2.2.1, u.2.2.2.2.2.1, u.2.2.2.2.2.2.1, u.2.2.2.2.2.2.2.1, u.2.2.2.2.2.2.2.2.1, u.2.2.2.2.2.2.2.2.2.1, u.2.2.2.2.2.2.2.2.2.2.1, u.2.2.2.2.2.2.2.2.2.2.2.1, u.2.2.2.2.2.2.2.2.2.2.2.2.1, u.2.2.2.2.2.2.2.2.2.2.2.2.2.1, u.2.2.2.2.2.2.2.2.2.2.2.2.2.2.1, u.2.2.2.2.2.2.2.2.2.2.2.2.2.2.2.1, u.2.2.2.2.2.2.2.2.2.2.2.2.2.2.2.2.1, (vp_updL s2 t (opv k (va (x1, x2)) (vb (x1, x2)))), u.2.2.2.2.2.2.2.2.2.2.2.2.2.2.2.2.2.2.1, u.2.2.2.2.2.2.2.2.2.2.2.2.2.2.2.2.2.2.2.1, u.2.2.2.2.2.2.2.2.2.2.2.2.2.2.2.2.2.2.2.2.1, u.2.2.2.2.2.2.2.2.2.2.2.2.2.2.2.2.2.2.2.2.2))) (fun K hK => ⟨fun q => ?_, fun _ => ?_⟩) ?_
  · dsimp only at q
    rw [hN, le_nI (by omega) (by omega)] at q; omega
  · dsimp only
    rw [show (428 : Int32) = nI 428 from rfl, nI_add, cl_nI (by omega), hdk]
    refine ⟨in_of (by omega) (by omega), fun x10 h10 => ⟨fun _ x12 h12 => ?_, fun q => ?_⟩⟩
    · have e12 : x12 = nI (t + 1) := by
        rw [h12, show t + 1 + 1 = (t + 1) + 1 from rfl, ← ix_1 (t + 1)]
        show nI (t + 1) + 1 + (-1) = nI (t + 1)
        rw [Int32.add_assoc]
        exact Int32.add_zero _
      subst e12
      subst h10
      rw [nI_pred, cl_nI (by omega), cl_nI (by omega), es3, es2]
      have bv1 := ba (x1, x2) l1 l2
      refine ⟨in_of (by omega) (by omega), in_of (by omega) (by omega), r_operate hk bv1.1 bv1.2 ⟨in_of (by omega) (by omega), fun x24 h24 => ?_⟩⟩
      rw [ix_1] at h24
      subst h24
      rw [show i + (a.length + (b.length + 1)) = i + a.length + b.length + 1 by omega] at hK
      exact hK
    · rw [h10] at q
      exact absurd (show (1 : Int32) < nI k from nI_lt (a := 1) (by omega) (by omega)) q
  · exact hkk _ (fun j hj => (updL_ne _ _ (by omega)).trans ((hs2 j (by omega)).trans (hs1 j hj))) (updL_same _ _ _)
