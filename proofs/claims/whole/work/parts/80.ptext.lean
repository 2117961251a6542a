/-! Texts: bytes, runs. -/
def bt (x : Int32) : Nat := (x &&& 255).toNatClampNeg
def byC (x : Int32) : Bool := decide (x &&& 255 = nI (bt x)) && (decide (bt x < 256) && (decide (x = 32 ↔ bt x = 32) && (decide ((x < 48 ∨ 57 < x) ↔ ¬ (48 ≤ bt x ∧ bt x ≤ 57)) && (decide ((x < 97 ∨ 122 < x) ↔ ¬ (97 ≤ bt x ∧ bt x ≤ 122)) && decide (bt x < 128 → x = nI (bt x))))))
theorem byC_all : ∀ v : Fin 256, byC (Int8.ofBitVec (BitVec.ofFin v)).toInt32 = true := by decide +kernel
theorem byC_of {x : Int32} (h : by8 x) : byC x = true := by
  have h1 := byC_all x.toInt8.toBitVec.toFin
  have e : Int8.ofBitVec (BitVec.ofFin x.toInt8.toBitVec.toFin) = x.toInt8 := rfl
  rw [e] at h1
  unfold by8 at h
  rw [h] at h1
  exact h1
theorem by_facts {x : Int32} (h : by8 x) : x &&& 255 = nI (bt x) ∧ bt x < 256 ∧ (x = 32 ↔ bt x = 32) ∧ ((x < 48 ∨ 57 < x) ↔ ¬ (48 ≤ bt x ∧ bt x ≤ 57)) ∧ ((x < 97 ∨ 122 < x) ↔ ¬ (97 ≤ bt x ∧ bt x ≤ 122)) ∧ (bt x < 128 → x = nI (bt x)) := by
  have h1 := byC_of h
  unfold byC at h1
  rw [Bool.and_eq_true, Bool.and_eq_true, Bool.and_eq_true, Bool.and_eq_true, Bool.and_eq_true] at h1
  obtain ⟨a, b, c, d, e, f⟩ := h1
  exact ⟨of_decide_eq_true a, of_decide_eq_true b, of_decide_eq_true c, of_decide_eq_true d, of_decide_eq_true e, of_decide_eq_true f⟩
/-- the byte at a place; 999 behind the end -/
def bc (T : Nat → Int32) (n i : Nat) : Nat := if i < n then bt (T i) else 999
theorem bc_in {T : Nat → Int32} {n i : Nat} (h : i < n) : bc T n i = bt (T i) := if_pos h
theorem bc_out {T : Nat → Int32} {n i : Nat} (h : n ≤ i) : bc T n i = 999 := if_neg (by omega)
def tx (T B : Nat → Int32) (n : Nat) : Prop := n ≤ 800 ∧ ∀ i, i < n → by8 (T i) ∧ B i = T i &&& 255
theorem bc_lt {T B : Nat → Int32} {n : Nat} (h : tx T B n) (i : Nat) : bc T n i < 256 ∨ bc T n i = 999 := by
  by_cases q : i < n
  · rw [bc_in q]; exact Or.inl (by_facts (h.2 i q).1).2.1
  · rw [bc_out (by omega)]; exact Or.inr rfl
theorem bc_end {T B : Nat → Int32} {n : Nat} (h : tx T B n) {i : Nat} (e : bc T n i = 999) : n ≤ i := by
  by_cases q : i < n
  · rw [bc_in q] at e
    have := (by_facts (h.2 i q).1).2.1
    omega
  · omega
theorem bc_ne {T : Nat → Int32} {n i : Nat} (e : bc T n i ≠ 999) : i < n := by
  by_cases q : i < n
  · exact q
  · exact absurd (bc_out (by omega)) e
def Ps (c : Nat) : Bool := decide (c = 32)
def Pd (c : Nat) : Bool := decide (48 ≤ c ∧ c ≤ 57)
def Pl (c : Nat) : Bool := decide (97 ≤ c ∧ c ≤ 122)
theorem Pd_iff {c : Nat} : Pd c = true ↔ 48 ≤ c ∧ c ≤ 57 := decide_eq_true_iff
theorem Pl_iff {c : Nat} : Pl c = true ↔ 97 ≤ c ∧ c ≤ 122 := decide_eq_true_iff
theorem Ps_iff {c : Nat} : Ps c = true ↔ c = 32 := decide_eq_true_iff
theorem Pd_not {c : Nat} : Pd c = false ↔ ¬ (48 ≤ c ∧ c ≤ 57) := decide_eq_false_iff_not
theorem Pl_not {c : Nat} : Pl c = false ↔ ¬ (97 ≤ c ∧ c ≤ 122) := decide_eq_false_iff_not
theorem Ps_not {c : Nat} : Ps c = false ↔ ¬ c = 32 := decide_eq_false_iff_not
/-- the end of a run -/
def rn (P : Nat → Bool) (T : Nat → Int32) (n : Nat) : Nat → Nat → Nat
  | 0, p => p
  | k + 1, p => if P (bc T n p) = true then rn P T n k (p + 1) else p
def ru (P : Nat → Bool) (T : Nat → Int32) (n p : Nat) : Nat := rn P T n (n - p) p
theorem ru_step {P : Nat → Bool} {T : Nat → Int32} {n p : Nat} (h : p < n) (hp : P (bc T n p) = true) : ru P T n p = ru P T n (p + 1) := by
  unfold ru
  rw [show n - p = (n - (p + 1)) + 1 by omega]
  exact if_pos hp
theorem ru_stop {P : Nat → Bool} {T : Nat → Int32} {n p : Nat} (hp : P (bc T n p) = false) : ru P T n p = p := by
  unfold ru
  cases n - p with
  | zero => rfl
  | succ k => exact if_neg (by rw [hp]; decide)
theorem run_ind {P : Nat → Bool} {T : Nat → Int32} {n : Nat} (h9 : P 999 = false) {M : Nat → Prop} (h0 : ∀ p, p ≤ n → P (bc T n p) = false → M p) (h1 : ∀ p, p < n → P (bc T n p) = true → M (p + 1) → M p) : ∀ p, p ≤ n → M p := by
  have key : ∀ k p, p + k = n → M p := by
    intro k
    induction k with
    | zero =>
      intro p hp
      refine h0 p (by omega) ?_
      rw [bc_out (by omega)]; exact h9
    | succ k ih =>
      intro p hp
      cases hc : P (bc T n p) with
      | false => exact h0 p (by omega) hc
      | true => exact h1 p (by omega) hc (ih (p + 1) (by omega))
  intro p hp
  exact key (n - p) p (by omega)
theorem ru_le {P : Nat → Bool} {T : Nat → Int32} {n : Nat} (h9 : P 999 = false) : ∀ p, p ≤ n → p ≤ ru P T n p ∧ ru P T n p ≤ n := by
  refine run_ind (T := T) h9 ?_ ?_
  · intro p hp hc; rw [ru_stop hc]; omega
  · intro p hp hc ih; rw [ru_step hp hc]; omega
theorem ru_end {P : Nat → Bool} {T : Nat → Int32} {n : Nat} (h9 : P 999 = false) : ∀ p, p ≤ n → P (bc T n (ru P T n p)) = false := by
  refine run_ind (T := T) h9 ?_ ?_
  · intro p hp hc; rw [ru_stop hc]; exact hc
  · intro p hp hc ih; rw [ru_step hp hc]; exact ih
theorem ru_in {P : Nat → Bool} {T : Nat → Int32} {n : Nat} (h9 : P 999 = false) : ∀ p, p ≤ n → ∀ i, p ≤ i → i < ru P T n p → P (bc T n i) = true := by
  refine run_ind (T := T) h9 ?_ ?_
  · intro p hp hc i h1 h2; rw [ru_stop hc] at h2; omega
  · intro p hp hc ih i h1 h2
    rw [ru_step hp hc] at h2
    by_cases e : i = p
    · subst e; exact hc
    · exact ih i (by omega) h2
theorem ru_eq {P : Nat → Bool} {T : Nat → Int32} {n : Nat} (h9 : P 999 = false) : ∀ (k q : Nat), (∀ i, i < k → P (bc T n (q + i)) = true) → P (bc T n (q + k)) = false → ru P T n q = q + k := by
  intro k
  induction k with
  | zero => intro q _ h2; exact ru_stop h2
  | succ k ih =>
    intro q h1 h2
    have hq := h1 0 (by omega)
    rw [Nat.add_zero] at hq
    have hqn : q < n := by
      refine bc_ne (T := T) (fun e => ?_)
      rw [e, h9] at hq; exact absurd hq (by decide)
    rw [ru_step hqn hq, ih (q + 1) (fun i hi => by rw [show q + 1 + i = q + (i + 1) by omega]; exact h1 (i + 1) (by omega)) (by rw [show q + 1 + k = q + (k + 1) by omega]; exact h2)]
    omega
abbrev sk (T : Nat → Int32) (n p : Nat) : Nat := ru Ps T n p
theorem sk_le {T : Nat → Int32} {n p : Nat} (h : p ≤ n) : p ≤ sk T n p ∧ sk T n p ≤ n := ru_le (by decide) p h
theorem sk_ne {T : Nat → Int32} {n p : Nat} (h : p ≤ n) : ¬ bc T n (sk T n p) = 32 := Ps_not.mp (ru_end (by decide) p h)
theorem sk_sk {T : Nat → Int32} {n p : Nat} (h : p ≤ n) : sk T n (sk T n p) = sk T n p := ru_stop (ru_end (by decide) p h)
/-- the value of a number's digits -/
def dv (T : Nat → Int32) (q : Nat) : Nat → Nat
  | 0 => 0
  | j + 1 => 10 * dv T q j + (bt (T (q + j)) - 48)
theorem dv_cap {M d c : Nat} (hM : 0 < M) : min M (10 * min M d + c) = min M (10 * d + c) := by omega
/-- the kind of a token, its end -/
def kd (c : Nat) : Int32 := if c = 999 then -1 else if Pd c = true then 256 else if Pl c = true then 257 else nI c
def te (T : Nat → Int32) (n q : Nat) : Nat := if bc T n q = 999 then q else if Pd (bc T n q) = true then ru Pd T n q else if Pl (bc T n q) = true then ru Pl T n q else q + 1
def tk (T : Nat → Int32) (n q : Nat) (x : S_X5) : Prop := x.1 = T ∧ x.2.2.1 = nI n ∧ x.2.2.2.2.2.2.2.1 = 0 ∧ x.2.2.2.2.2.2.2.2 = -1 ∧ x.2.2.2.2.2.1 = nI q ∧ q ≤ n ∧ x.2.2.2.2.1 = kd (bc T n q) ∧ x.2.2.2.1 = nI (te T n q) ∧ (Pd (bc T n q) = true → x.2.2.2.2.2.2.1 = nI (min 100000 (dv T q (ru Pd T n q - q))))
def tt (T : Nat → Int32) (n : Nat) (x : S_X5) : Prop := x.1 = T ∧ x.2.2.1 = nI n ∧ x.2.2.2.2.2.2.2.1 = 0 ∧ x.2.2.2.2.2.2.2.2 = -1
theorem q_adv1 {T B : Nat → Int32} {n : Nat} (hT : tx T B n) {q : Nat} (hd : Pd (bc T n q) = true) {post : S_X5 → Prop} (hp : ∀ x', tk T n q x' → post x') : ∀ p, p ≤ n → ∀ x : S_X5, q ≤ p → tt T n x → x.2.2.2.2.2.1 = nI q → x.2.2.2.2.1 = 256 → x.2.2.2.1 = nI p → x.2.2.2.2.2.2.1 = nI (min 100000 (dv T q (p - q))) → ru Pd T n p = ru Pd T n q → ∃ m, zl (fun K st => j_X5_advance_105 K st post) m x := by
  have hn := hT.1
  have hfin : ∀ p (x : S_X5), p ≤ n → q ≤ p → tt T n x → x.2.2.2.2.2.1 = nI q → x.2.2.2.2.1 = 256 → x.2.2.2.1 = nI p → x.2.2.2.2.2.2.1 = nI (min 100000 (dv T q (p - q))) → ru Pd T n q = p → tk T n q x := by
    intro p x hpn hqp ⟨t1, t2, t3, t4⟩ h1 h2 h3 h4 h5
    have c9 : ¬ bc T n q = 999 := fun e => by rw [e] at hd; exact absurd hd (by decide)
    refine ⟨t1, t2, t3, t4, h1, by omega, ?_, ?_, fun _ => ?_⟩
    · rw [h2]; unfold kd; rw [if_neg c9, if_pos hd]
    · rw [h3]; unfold te; rw [if_neg c9, if_pos hd, h5]
    · rw [h4, h5]
  refine run_ind (P := Pd) (T := T) (by decide) ?_ ?_
  · intro p hpn hc x hqp ht h1 h2 h3 h4 h5
    rw [ru_stop hc] at h5
    have hk := hfin p x hpn hqp ht h1 h2 h3 h4 h5.symm
    obtain ⟨t1, t2, t3, t4⟩ := ht
    refine zl_exit (fun K => ⟨fun _ => hp x hk, fun q1 => ?_⟩)
    rw [t2, h3, le_nI (by omega) (by omega)] at q1
    have hcl : x.2.2.2.1.toNatClampNeg = p := by rw [h3]; exact cl_nI (by omega)
    have hf := (by_facts (hT.2 p (by omega)).1).2.2.2.1
    rw [bc_in (by omega), Pd_not] at hc
    have hin : vp_in x.2.2.2.1 800 := by rw [h3]; exact in_of (by omega) (by omega)
    refine ⟨hin, fun _ => hp x hk, fun q2 => ⟨hin, fun _ => hp x hk, fun q3 => ?_⟩⟩
    rw [t1, hcl] at q2 q3
    exact absurd (hf.mpr hc) (fun q4 => q4.elim q2 q3)
  · intro p hpn hc ih x hqp ht h1 h2 h3 h4 h5
    obtain ⟨t1, t2, t3, t4⟩ := ht
    have hcl : x.2.2.2.1.toNatClampNeg = p := by rw [h3]; exact cl_nI (by omega)
    have hfa := by_facts (hT.2 p (by omega)).1
    have hf := hfa.2.2.2.1
    have hc2 := hc
    rw [bc_in (by omega), Pd_iff] at hc2
    have hin : vp_in x.2.2.2.1 800 := by rw [h3]; exact in_of (by omega) (by omega)
    have eT : T p = nI (bt (T p)) := hfa.2.2.2.2.2 (by omega)
    have ev : (if (((10 : Int32) * x.2.2.2.2.2.2.1) + (x.1 x.2.2.2.1.toNatClampNeg)) - (48 : Int32) < (100000 : Int32) then (((10 : Int32) * x.2.2.2.2.2.2.1) + (x.1 x.2.2.2.1.toNatClampNeg)) - (48 : Int32) else (100000 : Int32)) = nI (min 100000 (dv T q (p + 1 - q))) := by
      rw [h4, t1, hcl, eT, show (10 : Int32) = nI 10 from rfl, pk_mul, nI_add, show (48 : Int32) = nI 48 from rfl, pk_sub (by omega), show (100000 : Int32) = nI 100000 from rfl]
      rw [c_min (by omega) (by omega), show p + 1 - q = (p - q) + 1 by omega]
      show _ = nI (min 100000 (10 * dv T q (p - q) + (bt (T (q + (p - q))) - 48)))
      rw [show q + (p - q) = p by omega]
      congr 1
      omega
    have hle : ¬ x.2.2.1 ≤ x.2.2.2.1 := fun q1 => by rw [t2, h3, le_nI (by omega) (by omega)] at q1; omega
    refine zl_step (s' := (x.1, x.2.1, x.2.2.1, (nI (p + 1)), x.2.2.2.2.1, x.2.2.2.2.2.1, (nI (min 100000 (dv T q (p + 1 - q)))), x.2.2.2.2.2.2.2.1, x.2.2.2.2.2.2.2.2)) (fun K hK => ⟨fun q1 => absurd q1 hle, fun _ => ⟨hin, fun q1 => ?_, fun _ => ⟨hin, fun q1 => ?_, fun _ => ⟨hin, fun x20 e20 x21 e21 => ?_⟩⟩⟩⟩) ?_
    · rw [t1, hcl] at q1
      exact absurd hc2 (hf.mp (Or.inl q1))
    · rw [t1, hcl] at q1
      exact absurd hc2 (hf.mp (Or.inr q1))
    · rw [ev] at e20
      rw [h3, ix_1] at e21
      subst e20 e21
      exact hK
    · exact ih _ (by omega) ⟨t1, t2, t3, t4⟩ h1 h2 rfl rfl (by rw [← ru_step hpn hc]; exact h5)
