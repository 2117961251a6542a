/-! The pure level: loops, numbers. -/
theorem zl_step {σ : Type} {B : (σ → Prop) → σ → Prop} {s s' : σ} (h : ∀ K : σ → Prop, K s' → B K s) (h' : ∃ n, zl B n s') : ∃ n, zl B n s := by
  obtain ⟨n, hn⟩ := h'
  exact ⟨n + 1, h _ hn⟩
theorem zl_exit {σ : Type} {B : (σ → Prop) → σ → Prop} {s : σ} (h : ∀ K : σ → Prop, B K s) : ∃ n, zl B n s := ⟨1, h (fun _ => False)⟩
def fo {α : Type} (g : Nat → α → α) : Nat → α → α
  | 0, v => v
  | n + 1, v => g n (fo g n v)
theorem fo_rel {α β : Type} {g : Nat → α → α} {h : Nat → β → β} (R : Nat → α → β → Prop) : ∀ (n : Nat) (a : α) (b : β), (∀ k a b, k < n → R k a b → R (k + 1) (g k a) (h k b)) → R 0 a b → R n (fo g n a) (fo h n b) := by
  intro n a b hs h0
  have key : ∀ k, k ≤ n → R k (fo g k a) (fo h k b) := by
    intro k
    induction k with
    | zero => intro _; exact h0
    | succ k ih => intro hk; exact hs k _ _ (by omega) (ih (by omega))
  exact key n (Nat.le_refl n)
theorem fo_inv {α : Type} {g : Nat → α → α} (R : Nat → α → Prop) (n : Nat) (a : α) (hs : ∀ k a, k < n → R k a → R (k + 1) (g k a)) (h0 : R 0 a) : ∀ k, k ≤ n → R k (fo g k a) := by
  intro k
  induction k with
  | zero => intro _; exact h0
  | succ k ih => intro hk; exact hs k _ (by omega) (ih (by omega))
theorem fo_cong {α : Type} {g h : Nat → α → α} {n : Nat} (hs : ∀ k, k < n → ∀ v, g k v = h k v) (v : α) : ∀ k, k ≤ n → fo g k v = fo h k v := by
  intro k
  induction k with
  | zero => intro _; rfl
  | succ k ih =>
    intro hk
    show g k (fo g k v) = h k (fo h k v)
    rw [ih (by omega), hs k (by omega)]
theorem zl_for {σ α : Type} {B : (σ → Prop) → σ → Prop} {s0 : σ} (mk : Nat → α → σ) (g : Nat → α → α) (n : Nat) (v : α) (h0 : s0 = mk 0 v) (hs : ∀ k, k < n → ∀ K : σ → Prop, K (mk (k + 1) (g k (fo g k v))) → B K (mk k (fo g k v))) (he : ∀ K : σ → Prop, B K (mk n (fo g n v))) : ∃ m, zl B m s0 := by
  have key : ∀ j k, k + j = n → ∃ m, zl B m (mk k (fo g k v)) := by
    intro j
    induction j with
    | zero =>
      intro k hk
      have e : k = n := by omega
      subst e
      exact zl_exit he
    | succ j ih => intro k hk; exact zl_step (hs k (by omega)) (ih (k + 1) (by omega))
  rw [h0]
  exact key n 0 (by omega)
theorem in_nI {k N : Nat} (h : k < 2147483648) : vp_in (nI k) N ↔ k < N := by
  unfold vp_in
  rw [nI_clamp h]
  have := nI_pos (n := k) h
  constructor
  · intro h1; exact Nat.lt_of_not_le (fun h2 => h1 (Or.inr h2))
  · intro h1 h2; rcases h2 with h2 | h2
    · exact this h2
    · omega
theorem in_of {k N : Nat} (h : k < N) (hN : N < 2147483648) : vp_in (nI k) N := (in_nI (by omega)).mpr h
theorem cl_nI {k : Nat} (h : k < 2147483648) : (nI k).toNatClampNeg = k := nI_clamp h
theorem lt_nI {a b : Nat} (ha : a < 2147483648) (hb : b < 2147483648) : nI a < nI b ↔ a < b := nI_ltI ha hb
theorem le_nI {a b : Nat} (ha : a < 2147483648) (hb : b < 2147483648) : nI a ≤ nI b ↔ a ≤ b := nI_leI ha hb
theorem eq_nI {a b : Nat} (ha : a < 2147483648) (hb : b < 2147483648) : nI a = nI b ↔ a = b := nI_eq ha hb
theorem lt0_nI {a : Nat} (ha : a < 2147483648) : nI a < 0 ↔ False := ⟨fun h => nI_pos ha h, fun h => h.elim⟩
theorem ge0_nI {a : Nat} (ha : a < 2147483648) : 0 ≤ nI a ↔ True := ⟨fun _ => trivial, fun _ => nI_pos' ha⟩
theorem ix_per (k : Nat) : (148 : Int32) + 5 * nI k = nI (148 + 5 * k) := by
  rw [show (148 : Int32) = nI 148 from rfl, show (5 : Int32) = nI 5 from rfl, pk_mul, nI_add]
theorem ix_bre (k : Nat) : (348 : Int32) + 4 * nI k = nI (348 + 4 * k) := by
  rw [show (348 : Int32) = nI 348 from rfl, show (4 : Int32) = nI 4 from rfl, pk_mul, nI_add]
theorem ix_ban (k : Nat) : (16 : Int32) + 3 * nI k = nI (16 + 3 * k) := by
  rw [show (16 : Int32) = nI 16 from rfl, show (3 : Int32) = nI 3 from rfl, pk_mul, nI_add]
theorem ix_ste (k : Nat) : (136 : Int32) + 2 * nI k = nI (136 + 2 * k) := by
  rw [show (136 : Int32) = nI 136 from rfl, show (2 : Int32) = nI 2 from rfl, pk_mul, nI_add]
theorem ix_1 (k : Nat) : nI k + 1 = nI (k + 1) := nI_1 k
theorem ix_2 (k : Nat) : nI k + 2 = nI (k + 2) := by rw [show (2 : Int32) = nI 2 from rfl, nI_add]
theorem ix_3 (k : Nat) : nI k + 3 = nI (k + 3) := by rw [show (3 : Int32) = nI 3 from rfl, nI_add]
theorem ix_4 (k : Nat) : nI k + 4 = nI (k + 4) := by rw [show (4 : Int32) = nI 4 from rfl, nI_add]
def lim (x : Int32) (n : Nat) : Prop := ∃ k, k ≤ n ∧ x = nI k
theorem lim_mono {x : Int32} {n m : Nat} (h : lim x n) (hm : n ≤ m) : lim x m := by
  obtain ⟨k, h1, h2⟩ := h
  exact ⟨k, by omega, h2⟩
theorem lim_of {x : Int32} {n : Nat} (hn : n < 2147483648) (h0 : ¬ x < 0) (h1 : x ≤ nI n) : lim x n := by
  obtain ⟨j, hj, e⟩ := nI_of h0
  subst e
  rw [le_nI (by omega) hn] at h1
  exact ⟨j, h1, rfl⟩
theorem upd_same (f : Nat → Int32) (k : Nat) (x : Int32) : upd f k x k = x := by simp [upd]
theorem upd_ne (f : Nat → Int32) {k j : Nat} (x : Int32) (h : j ≠ k) : upd f k x j = f j := by simp [upd, h]
theorem updL_same (f : Nat → Int64) (k : Nat) (x : Int64) : vp_updL f k x k = x := by simp [vp_updL]
theorem updL_ne (f : Nat → Int64) {k j : Nat} (x : Int64) (h : j ≠ k) : vp_updL f k x j = f j := by simp [vp_updL, h]
theorem fo_fill (f g : Nat → Int32) (n : Nat) : fo (fun k v => upd v k (f k)) n g = fun j => if j < n then f j else g j := by
  induction n with
  | zero => funext j; simp [fo]
  | succ n ih =>
    show upd (fo (fun k v => upd v k (f k)) n g) n (f n) = _
    rw [ih]
    funext j
    by_cases h : j = n
    · subst h; rw [upd_same, if_pos (by omega)]
    · rw [upd_ne _ _ h]
      by_cases h2 : j < n
      · rw [if_pos h2, if_pos (by omega)]
      · rw [if_neg h2, if_neg (by omega)]
theorem fo_fillL (f g : Nat → Int64) (n : Nat) : fo (fun k v => vp_updL v k (f k)) n g = fun j => if j < n then f j else g j := by
  induction n with
  | zero => funext j; simp [fo]
  | succ n ih =>
    show vp_updL (fo (fun k v => vp_updL v k (f k)) n g) n (f n) = _
    rw [ih]
    funext j
    by_cases h : j = n
    · subst h; rw [updL_same, if_pos (by omega)]
    · rw [updL_ne _ _ h]
      by_cases h2 : j < n
      · rw [if_pos h2, if_pos (by omega)]
      · rw [if_neg h2, if_neg (by omega)]
theorem q_copy (f g : Nat → Int32) (post : (Nat → Int32) × (Nat → Int32) → Prop) (h : post (f, fun k => if k < 1728 then f k else g k)) : wp_X10_copy f g post := by
  unfold wp_X10_copy
  refine zl_for (fun k v => (nI k, f, v)) (fun k v => upd v k (f k)) 1728 g rfl ?_ ?_
  · intro k hk K hK
    refine ⟨fun h1 => ?_, fun _ => ⟨in_of (by omega) (by omega), ?_⟩⟩
    · rw [show (1728 : Int32) = nI 1728 from rfl, le_nI (by omega) (by omega)] at h1; omega
    · intro x3 e3
      refine ⟨in_of (by omega) (by omega), ?_⟩
      intro x5 e5
      dsimp only at e3 e5 hK ⊢
      rw [e5, e3, ix_1, cl_nI (by omega)]
      exact hK
  · intro K
    refine ⟨fun _ => ?_, fun h1 => absurd ((le_nI (a := 1728) (b := 1728) (by omega) (by omega)).mpr (Nat.le_refl _)) h1⟩
    rw [fo_fill]
    exact h
theorem q_copyLongs (f g : Nat → Int64) (post : (Nat → Int64) × (Nat → Int64) → Prop) (h : post (f, fun k => if k < 40 then f k else g k)) : wp_X10_copyLongs f g post := by
  unfold wp_X10_copyLongs
  refine zl_for (fun k v => (nI k, f, v)) (fun k v => vp_updL v k (f k)) 40 g rfl ?_ ?_
  · intro k hk K hK
    refine ⟨fun h1 => ?_, fun _ => ⟨in_of (by omega) (by omega), ?_⟩⟩
    · rw [show (40 : Int32) = nI 40 from rfl, le_nI (by omega) (by omega)] at h1; omega
    · intro x3 e3
      refine ⟨in_of (by omega) (by omega), ?_⟩
      intro x5 e5
      dsimp only at e3 e5 hK ⊢
      rw [e5, e3, ix_1, cl_nI (by omega)]
      exact hK
  · intro K
    refine ⟨fun _ => ?_, fun h1 => absurd ((le_nI (a := 40) (b := 40) (by omega) (by omega)).mpr (Nat.le_refl _)) h1⟩
    rw [fo_fillL]
    exact h
theorem zl_seq {σ : Type} {B : (σ → Prop) → σ → Prop} {s0 : σ} (S : Nat → σ) (n : Nat) (h0 : s0 = S 0) (hs : ∀ k, k < n → ∀ K : σ → Prop, K (S (k + 1)) → B K (S k)) (he : ∀ K : σ → Prop, B K (S n)) : ∃ m, zl B m s0 := by
  have key : ∀ j k, k + j = n → ∃ m, zl B m (S k) := by
    intro j
    induction j with
    | zero =>
      intro k hk
      have e : k = n := by omega
      subst e
      exact zl_exit he
    | succ j ih => intro k hk; exact zl_step (hs k (by omega)) (ih (k + 1) (by omega))
  rw [h0]
  exact key n 0 (by omega)
theorem l_ring (a b c d : Int64) : (a - b) + (c - d) = (a + c) - (b + d) := by
  rw [Int64.sub_eq_add_neg, Int64.sub_eq_add_neg, Int64.sub_eq_add_neg, Int64.neg_add, Int64.sub_eq_add_neg]
  ac_rfl
theorem l_zero (x : Int64) : x + (lN 0 - lN 0) = x := by
  rw [show lN 0 - lN 0 = (0 : Int64) from rfl, Int64.add_zero]
theorem l_toInt {X Y : Nat} (hX : X < 4611686018427387904) (hY : Y < 4611686018427387904) : (lN X - lN Y).toInt = (X : Int) - Y := by
  have e1 := pk_lT (n := X) (by omega)
  have e2 := pk_lT (n := Y) (by omega)
  rw [fb_subL (by omega) (by omega), e1, e2]
theorem lg_lt (x y : Int64) : lg_cmp x y < 0 ↔ x < y := by
  unfold lg_cmp
  by_cases h1 : x > y
  · rw [if_pos h1]
    constructor
    · intro h; exact absurd h (by decide)
    · intro h; rw [fa_lt64] at h; have h1 : y < x := h1; rw [fa_lt64] at h1; omega
  · rw [if_neg h1]
    by_cases h2 : x = y
    · rw [if_pos h2]
      constructor
      · intro h; exact absurd h (by decide)
      · intro h; rw [fa_lt64] at h; rw [h2] at h; omega
    · rw [if_neg h2]
      constructor
      · intro _; rw [fa_lt64]; have h1 : ¬ y < x := h1; rw [fa_lt64] at h1; rw [fa_eq64] at h2; omega
      · intro _; decide
theorem lg_ge (x y : Int64) : 0 ≤ lg_cmp x y ↔ ¬ x < y := by
  rw [← lg_lt]
  constructor
  · intro h h2; rw [fa_lt] at h2; rw [fa_le] at h; omega
  · intro h; exact fa_of_nlt h
theorem lg_eq0 (x y : Int64) : lg_cmp x y = 0 ↔ x = y := by
  unfold lg_cmp
  by_cases h1 : x > y
  · rw [if_pos h1]
    constructor
    · intro h; exact absurd h (by decide)
    · intro h; have h1 : y < x := h1; rw [fa_lt64, h] at h1; omega
  · rw [if_neg h1]
    by_cases h2 : x = y
    · rw [if_pos h2]; exact ⟨fun _ => h2, fun _ => rfl⟩
    · rw [if_neg h2]
      exact ⟨fun h => absurd h (by decide), fun h => absurd h h2⟩
theorem lg_le (x y : Int64) : lg_cmp x y ≤ 0 ↔ x ≤ y := by
  constructor
  · intro h
    rcases fa_three (lg_cmp x y) 0 with h1 | h1 | h1
    · rw [lg_lt, fa_lt64] at h1; rw [fa_le64]; omega
    · rw [lg_eq0] at h1; rw [h1, fa_le64]; omega
    · exact absurd h (fa_of_lt h1).2.1
  · intro h
    rw [fa_le64] at h
    by_cases h2 : x = y
    · rw [(lg_eq0 x y).mpr h2]; decide
    · have h3 : x < y := by rw [fa_lt64]; rw [fa_eq64] at h2; omega
      exact (fa_of_lt ((lg_lt x y).mpr h3)).1
