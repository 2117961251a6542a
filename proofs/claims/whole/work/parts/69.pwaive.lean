/-! What can be waived. -/
def allF (p : Nat → Bool) : Nat → Bool
  | 0 => true
  | n + 1 => allF p n && p n
theorem allF_true {p : Nat → Bool} : ∀ {n : Nat}, (∀ k, k < n → p k = true) → allF p n = true := by
  intro n
  induction n with
  | zero => intro _; rfl
  | succ n ih => intro h; unfold allF; rw [ih (fun k hk => h k (by omega)), h n (by omega)]; rfl
theorem allF_false {p : Nat → Bool} {k : Nat} (hp : p k = false) : ∀ {n : Nat}, k < n → allF p n = false := by
  intro n
  induction n with
  | zero => intro h; omega
  | succ n ih =>
    intro h
    unfold allF
    by_cases e : k = n
    · subst e; rw [hp]; cases allF p k <;> rfl
    · rw [ih (by omega)]; rfl
theorem allF_cong {p q : Nat → Bool} : ∀ {n : Nat}, (∀ k, k < n → p k = q k) → allF p n = allF q n := by
  intro n
  induction n with
  | zero => intro _; rfl
  | succ n ih => intro h; unfold allF; rw [ih (fun k hk => h k (by omega)), h n (by omega)]
def b1 (b : Bool) : Int32 := if b then 1 else 0
theorem zl_all {σ : Type} {B : (σ → Prop) → σ → Prop} {s0 : σ} (S : Nat → σ) (p : Nat → Bool) (n : Nat) (Q : Int32 → Prop) (h0 : s0 = S 0) (hs : ∀ k, k < n → p k = true → ∀ K : σ → Prop, K (S (k + 1)) → B K (S k)) (hf : ∀ k, k < n → p k = false → Q 0 → ∀ K : σ → Prop, B K (S k)) (he : Q 1 → ∀ K : σ → Prop, B K (S n)) (hq : Q (b1 (allF p n))) : ∃ m, zl B m s0 := by
  have key : ∀ j k, k + j = n → (∀ i, i < k → p i = true) → ∃ m, zl B m (S k) := by
    intro j
    induction j with
    | zero =>
      intro k hk hall
      have e : k = n := by omega
      subst e
      rw [allF_true hall] at hq
      exact zl_exit (he hq)
    | succ j ih =>
      intro k hk hall
      cases hp : p k with
      | true =>
        refine zl_step (hs k (by omega) hp) (ih (k + 1) (by omega) (fun i hi => ?_))
        by_cases e : i = k
        · subst e; exact hp
        · exact hall i (by omega)
      | false =>
        rw [allF_false hp (by omega)] at hq
        exact zl_exit (hf k (by omega) hp hq)
  rw [h0]
  exact key n 0 (by omega) (fun i hi => absurd hi (by omega))
def ad (x y : Nat) : Nat := (x - y) + (y - x)
theorem ad_comm (x y : Nat) : ad x y = ad y x := by unfold ad; omega
theorem i_negsub (a b : Int32) : (0 : Int32) - (a - b) = b - a := by
  rw [Int32.sub_eq_add_neg, Int32.zero_add, Int32.neg_sub]
theorem i_neg (a b : Int32) : -(a - b) = b - a := Int32.neg_sub
theorem c_abs {x y : Nat} (hx : x < 1000) (hy : y < 1000) : (if (0 : Int32) ≤ nI x - nI y then nI x - nI y else 0 - (nI x - nI y)) = nI (ad x y) := by
  rcases c_sub (c := x) (w := y) (by omega) with ⟨h, e⟩ | ⟨h, e⟩
  · rw [e, if_pos (nI_pos' (by omega))]; congr 1; unfold ad; omega
  · rw [if_neg (fa_of_lt e).2.1, i_negsub, pk_sub (by omega)]; congr 1; unfold ad; omega
theorem m_size {x y : Nat} (hx : x < 1000) (hy : y < 1000) {post : Int32 → Unit → Prop} (h : post (nI (ad x y)) ()) : wp_X10_size (nI x - nI y) post := by
  rcases c_sub (c := x) (w := y) (by omega) with ⟨h1, e⟩ | ⟨h1, e⟩
  · rw [e]
    refine ⟨fun _ => ?_, fun q => absurd (nI_pos' (by omega)) q⟩
    rw [show x - y = ad x y by unfold ad; omega]; exact h
  · refine ⟨fun q => absurd q (fa_of_lt e).2.1, fun _ => ?_⟩
    rw [i_neg, pk_sub (by omega), show y - x = ad x y by unfold ad; omega]; exact h
/-- the breaches' periods as numbers -/
def pp (x : S_X1) (k : Nat) : Nat := (x.2.2.2.1 k).toNatClampNeg
theorem pp_is {m v : Nat} {x : S_X1} (bb : bB m v x) {k : Nat} (hk : k < m) : x.2.2.2.1 k = nI (pp x k) ∧ pp x k < 40 := by
  obtain ⟨j, hj, e⟩ := bb.2.2.1 k hk
  unfold pp
  rw [e, cl_nI (by omega)]
  exact ⟨rfl, by omega⟩
theorem q_dist {m v : Nat} {x : S_X1} (bb : bB m v x) {i j : Nat} (hi : i < m) (hj : j < m) {post : Int32 → S_X1 → Prop} (h : post (nI (ad (pp x i) (pp x j))) x) : wp_X1_distance x (nI i) (nI j) post := by
  have := bb.1
  obtain ⟨e1, l1⟩ := pp_is bb hi
  obtain ⟨e2, l2⟩ := pp_is bb hj
  refine ⟨in_of (by omega) (by omega), in_of (by omega) (by omega), ?_⟩
  rw [cl_nI (by omega), cl_nI (by omega), e1, e2, c_abs (by omega) (by omega)]
  exact h
theorem q_apart {m v G : Nat} {x : S_X1} {u : S_X10} (bb : bB m v x) (rb : rB m x u.2.2.2.2.2.2.2.2.1) (hG : u.2.2.2.2.2.2.2.2.1 10 = nI G) (hG4 : G ≤ 40) {i j : Nat} (hi : i < m) (hj : j < m) {post : Int32 → S_X10 → Prop} (h : post (b1 (!decide (ad (pp x i) (pp x j) < G))) u) : wp_X10_areApart u (nI i) (nI j) post := by
  have := bb.1
  obtain ⟨e1, l1⟩ := pp_is bb hi
  obtain ⟨e2, l2⟩ := pp_is bb hj
  have d1 : u.2.2.2.2.2.2.2.2.1 (348 + 4 * i) = nI (pp x i) := by rw [← (rb.2.2.2 i hi).1]; exact e1
  have d2 : u.2.2.2.2.2.2.2.2.1 (348 + 4 * j) = nI (pp x j) := by rw [← (rb.2.2.2 j hj).1]; exact e2
  unfold wp_X10_areApart wp_X10_breach
  dsimp only
  rw [ix_bre, ix_bre]
  refine ⟨in_of (by omega) (by omega), in_of (by omega) (by omega), ?_⟩
  rw [cl_nI (by omega), cl_nI (by omega), d1, d2]
  have hl : ad (pp x i) (pp x j) < 100 := by unfold ad; omega
  refine m_size (by omega) (by omega) ⟨fun q => ?_, fun q => ?_⟩
  · rw [hG, lt_nI (by omega) (by omega)] at q
    rw [decide_eq_true q] at h; exact h
  · rw [hG, lt_nI (by omega) (by omega)] at q
    rw [decide_eq_false q] at h; exact h
/-- keeps its distance to a waived one -/
def kgP (x : S_X1) (G b k : Nat) : Bool := decide (x.2.2.2.2.2.2 k = 0) || !decide (ad (pp x b) (pp x k) < G)
theorem q_keepsGap {m v G : Nat} {x : S_X1} (bb : bB m v x) (hr : x.1 = nI m) (hG : G ≤ 40) {b : Nat} (hb : b < m) {post : Int32 → S_X1 → Prop} (h : post (b1 (allF (kgP x G b) m)) x) : wp_X1_keepsGap x (nI b) (nI G) post := by
  have := bb.1
  unfold wp_X1_keepsGap
  refine zl_all (fun k => (nI b, nI G, nI k, x)) (kgP x G b) m (fun r => post r x) rfl ?_ ?_ ?_ h
  · intro k hk hp K hK
    have hl : ad (pp x b) (pp x k) < 100 := by have h1 := (pp_is bb hk).2; have h2 := (pp_is bb hb).2; unfold ad; omega
    refine ⟨fun q => ?_, fun _ => ⟨in_of (by omega) (by omega), fun q => ?_, fun q => q_dist bb hb hk ⟨fun q2 => ?_, fun q2 => ?_⟩⟩⟩
    · dsimp only at q
      rw [hr, le_nI (by omega) (by omega)] at q; omega
    · intro x7 e7
      dsimp only at e7
      rw [ix_1] at e7
      subst e7
      exact hK
    · intro x7 e7
      dsimp only at e7
      rw [ix_1] at e7
      subst e7
      exact hK
    · dsimp only at q q2
      rw [cl_nI (by omega)] at q
      rw [le_nI (by omega) (by omega)] at q2
      unfold kgP at hp
      rw [decide_eq_false q, decide_eq_true (by omega)] at hp
      cases hp
  · intro k hk hp hQ K
    have hl : ad (pp x b) (pp x k) < 100 := by have h1 := (pp_is bb hk).2; have h2 := (pp_is bb hb).2; unfold ad; omega
    unfold kgP at hp
    refine ⟨fun q => ?_, fun _ => ⟨in_of (by omega) (by omega), fun q => ?_, fun q => q_dist bb hb hk ⟨fun q2 => ?_, fun q2 => hQ⟩⟩⟩
    · dsimp only at q
      rw [hr, le_nI (by omega) (by omega)] at q; omega
    · dsimp only at q
      rw [cl_nI (by omega)] at q
      rw [decide_eq_true q] at hp
      cases hp
    · dsimp only at q2
      rw [le_nI (by omega) (by omega)] at q2
      rw [decide_eq_false (show ¬ ad (pp x b) (pp x k) < G by omega)] at hp
      cases h9 : decide (x.2.2.2.2.2.2 k = 0) <;> rw [h9] at hp <;> cases hp
  · intro hQ K
    refine ⟨fun _ => hQ, fun q => ?_⟩
    dsimp only at q
    rw [hr, le_nI (by omega) (by omega)] at q; omega
theorem q_leftOver {m v : Nat} {x : S_X1} {u : S_X10} (bb : bB m v x) (rb : rB m x u.2.2.2.2.2.2.2.2.1) (hv : u.2.2.2.2.2.2.2.2.1 9 = nI v) (hv4 : v ≤ 4) {post : Int32 → S_X10 → Prop} (h : post (nI (v - wct x m)) u) : wp_X10_leftOver u post := by
  have hm := bb.1
  have hd12 : u.2.2.2.2.2.2.2.2.1 12 = nI m := by rw [← rb.2.1]; exact rb.1
  intro x1 e1
  rw [hv] at e1
  subst e1
  have hle : ∀ k, k ≤ m → wct x k ≤ v := fun k hk => Nat.le_trans (fb_ct_mono _ hk) bb.2.2.2.2
  refine zl_seq (fun k => (nI (v - wct x k), nI k, u)) m rfl ?_ ?_
  · intro k hk K hK
    have i3 : (348 : Int32) + 4 * nI k + 3 = nI (351 + 4 * k) := by rw [ix_bre, ix_3]; congr 1; omega
    have d3 : u.2.2.2.2.2.2.2.2.1 (351 + 4 * k) = x.2.2.2.2.2.2 k := (rb.2.2.2 k hk).2.2.2.symm
    have es : wct x (k + 1) = wct x k + if decide (x.2.2.2.2.2.2 k = 1) then 1 else 0 := fb_ct_succ _ k
    have hl1 := hle (k + 1) (by omega)
    refine ⟨fun q => ?_, fun _ => ?_⟩
    · dsimp only at q
      rw [hd12, le_nI (by omega) (by omega)] at q; omega
    · unfold wp_X10_breach
      dsimp only
      rw [i3]
      refine ⟨in_of (by omega) (by omega), fun x6 e6 x7 e7 => ?_⟩
      rw [cl_nI (by omega), d3] at e6
      rw [ix_1] at e7
      subst e7
      have e8 : x6 = nI (v - wct x (k + 1)) := by
        rw [e6, es]
        rcases bb.2.1 k (by omega) with h0 | h0
        · rw [h0, if_neg (by decide), Nat.add_zero, show (0 : Int32) = nI 0 from rfl, pk_sub (by omega), Nat.sub_zero]
        · rw [h0, if_pos (by decide)] at es
          rw [h0, if_pos (by decide), show (1 : Int32) = nI 1 from rfl, pk_sub (by omega)]
          congr 1
      subst e8
      exact hK
  · intro K
    refine ⟨fun _ => h, fun q => ?_⟩
    dsimp only at q
    rw [hd12, le_nI (by omega) (by omega)] at q; omega
def cwB (x : S_X1) (m v G b : Nat) : Bool := decide (x.2.2.2.2.2.2 b = 0) && (decide (wct x m < v) && allF (kgP x G b) m)
theorem q_canC {t : S_X7} {m v G : Nat} {x : S_X1} (bb : bB m v x) (hr : x.1 = nI m) (hv : t.2.2.2.2.2.2.2.2.1 = nI v) (hv4 : v ≤ 4) (hG : t.2.2.2.2.2.2.2.2.2.1 = nI G) (hG4 : G ≤ 40) {b : Nat} (hb : b < m) {post : Int32 → S_X1 × S_X7 → Prop} (h : post (b1 (cwB x m v G b)) (x, t)) : wp_X1_canBeWaived x t (nI b) post := by
  have hm := bb.1
  have hw := bb.2.2.2.2
  unfold cwB at h
  refine ⟨in_of (by omega) (by omega), fun q => ?_, fun q => ⟨fun q2 => ?_, fun q2 => ?_⟩⟩
  · rw [cl_nI (by omega)] at q
    rw [decide_eq_false q] at h; exact h
  · rw [cl_nI (by omega)] at q
    rw [hv, bb.2.2.2.1, le_nI (by omega) (by omega)] at q2
    rw [decide_eq_true q, decide_eq_false (show ¬ wct x m < v by omega)] at h; exact h
  · rw [cl_nI (by omega)] at q
    rw [hv, bb.2.2.2.1, le_nI (by omega) (by omega)] at q2
    rw [decide_eq_true q, decide_eq_true (show wct x m < v by omega)] at h
    rw [hG]
    refine q_keepsGap bb hr hG4 hb ?_
    cases ha : allF (kgP x G b) m with
    | true => rw [ha] at h; exact ⟨fun q3 => absurd q3 (by decide), fun _ => h⟩
    | false => rw [ha] at h; exact ⟨fun _ => h, fun q3 => absurd rfl q3⟩
theorem q_canM {m v G : Nat} {x : S_X1} {u : S_X10} (bb : bB m v x) (rb : rB m x u.2.2.2.2.2.2.2.2.1) (hv : u.2.2.2.2.2.2.2.2.1 9 = nI v) (hv4 : v ≤ 4) (hG : u.2.2.2.2.2.2.2.2.1 10 = nI G) (hG4 : G ≤ 40) {b : Nat} (hb : b < m) {post : Int32 → S_X10 → Prop} (h : post (b1 (cwB x m v G b)) u) : wp_X10_canWaive u (nI b) post := by
  have hm := bb.1
  have hw := bb.2.2.2.2
  have hd12 : u.2.2.2.2.2.2.2.2.1 12 = nI m := by rw [← rb.2.1]; exact rb.1
  have i3 : ∀ k : Nat, (348 : Int32) + 4 * nI k + 3 = nI (351 + 4 * k) := fun k => by rw [ix_bre, ix_3]; congr 1; omega
  have d3 : ∀ k, k < m → u.2.2.2.2.2.2.2.2.1 (351 + 4 * k) = x.2.2.2.2.2.2 k := fun k hk => (rb.2.2.2 k hk).2.2.2.symm
  unfold cwB at h
  unfold wp_X10_canWaive wp_X10_breach
  dsimp only
  rw [i3, cl_nI (by omega), d3 b hb]
  refine ⟨in_of (by omega) (by omega), fun q => ?_, fun q => q_leftOver bb rb hv hv4 ⟨fun q2 => ?_, fun q2 => ?_⟩⟩
  · rw [decide_eq_false (by rw [q]; decide)] at h; exact h
  · have q0 : x.2.2.2.2.2.2 b = 0 := by
      rcases bb.2.1 b (by omega) with h0 | h0
      · exact h0
      · exact absurd h0 q
    have q3 : wct x m < v := by
      rcases Nat.lt_or_ge (wct x m) v with h9 | h9
      · exact h9
      · exact absurd (by rw [show v - wct x m = 0 by omega]; rfl) q2
    rw [decide_eq_true q0, decide_eq_true q3] at h
    refine zl_all (fun k => (nI b, nI k, u)) (kgP x G b) m (fun r => post r u) rfl ?_ ?_ ?_ h
    · intro k hk hp K hK
      refine ⟨fun q => ?_, fun _ => ?_⟩
      · dsimp only at q
        rw [hd12, le_nI (by omega) (by omega)] at q; omega
      · unfold wp_X10_breach
        dsimp only
        rw [i3, cl_nI (by omega), d3 k hk]
        have hK2 : j_X10_canWaive_63 K (nI b) (nI k) u post := by
          intro x16 e16
          rw [ix_1] at e16
          subst e16
          exact hK
        refine ⟨in_of (by omega) (by omega), fun _ => hK2, fun q => q_apart bb rb hG hG4 hk hb ⟨fun _ => hK2, fun q4 => ?_⟩⟩
        unfold kgP at hp
        rw [decide_eq_false (by rw [q]; decide), ad_comm] at hp
        cases h8 : decide (ad (pp x k) (pp x b) < G) with
        | true => rw [h8] at hp; cases hp
        | false => rw [h8] at q4; exact absurd q4 (by decide)
    · intro k hk hp hQ K
      unfold kgP at hp
      refine ⟨fun q => ?_, fun _ => ?_⟩
      · dsimp only at q
        rw [hd12, le_nI (by omega) (by omega)] at q; omega
      · unfold wp_X10_breach
        dsimp only
        rw [i3, cl_nI (by omega), d3 k hk]
        refine ⟨in_of (by omega) (by omega), fun q => ?_, fun q => q_apart bb rb hG hG4 hk hb ⟨fun q4 => ?_, fun _ => hQ⟩⟩
        · rw [decide_eq_true (show x.2.2.2.2.2.2 k = 0 by
            rcases bb.2.1 k (by omega) with h0 | h0
            · exact h0
            · exact absurd h0 q)] at hp
          cases hp
        · rw [ad_comm] at hp
          cases h8 : decide (ad (pp x k) (pp x b) < G) with
          | true => rw [h8] at q4; exact absurd rfl q4
          | false => rw [h8] at hp; cases h7 : decide (x.2.2.2.2.2.2 k = 0) <;> rw [h7] at hp <;> cases hp
    · intro hQ K
      refine ⟨fun _ => hQ, fun q => ?_⟩
      dsimp only at q
      rw [hd12, le_nI (by omega) (by omega)] at q; omega
  · have q3 : ¬ wct x m < v := fun h9 => by
      rw [show (0 : Int32) = nI 0 from rfl, eq_nI (by omega) (by omega)] at q2; omega
    rw [decide_eq_false q3] at h
    cases h7 : decide (x.2.2.2.2.2.2 b = 0) <;> rw [h7] at h <;> exact h
