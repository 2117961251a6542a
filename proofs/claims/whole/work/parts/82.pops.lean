/-! What the readers do at a token, with and without an error. -/
def er (x : S_X5) (e a : Int32) : Prop := x.2.2.2.2.2.2.2.1 = e ∧ ¬ e = 0 ∧ x.2.2.2.2.2.2.2.2 = a ∧ x.2.2.2.2.1 = -1
theorem q_fail0 {x : S_X5} (h : x.2.2.2.2.2.2.2.1 = 0) {c a : Int32} (hc : ¬ c = 0) {post : S_X5 → Prop} (hp : ∀ x', er x' c a → post x') : wp_X5_fail x c a post := ⟨fun q => absurd h q, fun _ => hp _ ⟨rfl, hc, rfl, rfl⟩⟩
theorem q_failE {x : S_X5} {e a : Int32} (h : er x e a) {c b : Int32} {post : S_X5 → Prop} (hp : ∀ x', er x' e a → post x') : wp_X5_fail x c b post := ⟨fun _ => hp _ ⟨h.1, h.2.1, h.2.2.1, rfl⟩, fun q => absurd (h.1.symm.trans q) h.2.1⟩
theorem e_number {x : S_X5} {e a : Int32} (h : er x e a) {lo hi : Int32} {post : Int32 → S_X5 → Prop} (hp : ∀ x', er x' e a → post lo x') : wp_X5_number x lo hi post := ⟨fun q => absurd (h.2.2.2.symm.trans q) (by decide), fun _ => q_failE h hp⟩
theorem e_sign {x : S_X5} {e a : Int32} (h : er x e a) {c : Int32} (hc : ¬ (-1 : Int32) = c) {post : S_X5 → Prop} (hp : ∀ x', er x' e a → post x') : wp_X5_sign x c post := ⟨fun _ => q_failE h hp, fun q => absurd (h.2.2.2.symm.trans q) hc⟩
theorem e_takeSign {x : S_X5} {e a : Int32} (h : er x e a) {c : Int32} (hc : ¬ (-1 : Int32) = c) {post : Int32 → S_X5 → Prop} (hp : post 0 x) : wp_X5_takeSign x c post := ⟨fun _ => ⟨fun _ => ⟨nb0, hp⟩, fun q => absurd rfl q⟩, fun q => absurd (h.2.2.2.symm.trans q) hc⟩
theorem e_takeWord {x : S_X5} {e a : Int32} (h : er x e a) {w : List Int32} {post : Int32 → S_X5 → Prop} (hp : post 0 x) : wp_X5_takeWord w x post := ⟨fun _ => ⟨fun _ => ⟨nb0, hp⟩, fun q => absurd rfl q⟩, fun q => absurd (h.2.2.2.symm.trans q) (by decide)⟩
theorem kd_sign {c k : Nat} (hc : c < 256 ∨ c = 999) (hk : k < 256) (h1 : Pd k = false) (h2 : Pl k = false) : kd c = nI k ↔ c = k := by
  unfold kd
  by_cases q9 : c = 999
  · rw [if_pos q9]
    constructor
    · intro h
      have := nI_pos (n := k) (by omega)
      rw [← h] at this
      exact absurd (by decide) this
    · intro h; omega
  · rw [if_neg q9]
    by_cases qd : Pd c = true
    · rw [if_pos qd]
      constructor
      · intro h
        rw [show (256 : Int32) = nI 256 from rfl, eq_nI (by omega) (by omega)] at h; omega
      · intro h; rw [h, h1] at qd; exact absurd qd (by decide)
    · rw [if_neg qd]
      by_cases ql : Pl c = true
      · rw [if_pos ql]
        constructor
        · intro h
          rw [show (257 : Int32) = nI 257 from rfl, eq_nI (by omega) (by omega)] at h; omega
        · intro h; rw [h, h2] at ql; exact absurd ql (by decide)
      · rw [if_neg ql, eq_nI (by omega) (by omega)]
theorem kd_dig {c : Nat} (hc : c < 256 ∨ c = 999) : kd c = 256 ↔ Pd c = true := by
  unfold kd
  by_cases q9 : c = 999
  · rw [if_pos q9, q9]
    exact ⟨fun h => absurd h (by decide), fun h => absurd h (by decide)⟩
  · rw [if_neg q9]
    by_cases qd : Pd c = true
    · rw [if_pos qd]; exact ⟨fun _ => qd, fun _ => rfl⟩
    · rw [if_neg qd]
      by_cases ql : Pl c = true
      · rw [if_pos ql]; exact ⟨fun h => absurd h (by decide), fun h => absurd h qd⟩
      · rw [if_neg ql]
        refine ⟨fun h => ?_, fun h => absurd h qd⟩
        rw [show (256 : Int32) = nI 256 from rfl, eq_nI (by omega) (by omega)] at h; omega
theorem kd_let {c : Nat} (hc : c < 256 ∨ c = 999) : kd c = 257 ↔ Pl c = true := by
  unfold kd
  by_cases q9 : c = 999
  · rw [if_pos q9, q9]
    exact ⟨fun h => absurd h (by decide), fun h => absurd h (by decide)⟩
  · rw [if_neg q9]
    by_cases qd : Pd c = true
    · rw [if_pos qd]
      refine ⟨fun h => absurd h (by decide), fun h => ?_⟩
      rw [Pl_iff] at h
      rw [Pd_iff] at qd
      omega
    · rw [if_neg qd]
      by_cases ql : Pl c = true
      · rw [if_pos ql]; exact ⟨fun _ => ql, fun _ => rfl⟩
      · rw [if_neg ql]
        refine ⟨fun h => ?_, fun h => absurd h ql⟩
        rw [show (257 : Int32) = nI 257 from rfl, eq_nI (by omega) (by omega)] at h; omega
theorem kd_end {c : Nat} (hc : c < 256 ∨ c = 999) : kd c = -1 ↔ c = 999 := by
  unfold kd
  by_cases q9 : c = 999
  · rw [if_pos q9]; exact ⟨fun _ => q9, fun _ => rfl⟩
  · rw [if_neg q9]
    by_cases qd : Pd c = true
    · rw [if_pos qd]; exact ⟨fun h => absurd h (by decide), fun h => absurd h q9⟩
    · rw [if_neg qd]
      by_cases ql : Pl c = true
      · rw [if_pos ql]; exact ⟨fun h => absurd h (by decide), fun h => absurd h q9⟩
      · rw [if_neg ql]
        refine ⟨fun h => ?_, fun h => absurd h q9⟩
        have := nI_pos (n := c) (by omega)
        rw [h] at this
        exact absurd (by decide) this
section
variable {T B : Nat → Int32} {n : Nat}
theorem te_sign (hT : tx T B n) {q k : Nat} (h : bc T n q = k) (hk : k < 256) (h1 : Pd k = false) (h2 : Pl k = false) : te T n q = q + 1 ∧ q < n := by
  have q9 : ¬ bc T n q = 999 := by omega
  refine ⟨?_, bc_ne q9⟩
  unfold te
  rw [if_neg q9, h, if_neg (by rw [h1]; decide), if_neg (by rw [h2]; decide)]
theorem tk_tt {q : Nat} {x : S_X5} (h : tk T n q x) : tt T n x := ⟨h.1, h.2.1, h.2.2.1, h.2.2.2.1⟩
theorem g_takeSign (hT : tx T B n) {q k : Nat} {x : S_X5} (h : tk T n q x) (hk : k < 256) (h1 : Pd k = false) (h2 : Pl k = false) {post : Int32 → S_X5 → Prop} (hy : bc T n q = k → ∀ x', tk T n (sk T n (q + 1)) x' → post 1 x') (hn : ¬ bc T n q = k → post 0 x) : wp_X5_takeSign x (nI k) post := by
  have hkd := h.2.2.2.2.2.2.1
  refine ⟨fun q1 => ⟨fun _ => ⟨nb0, hn (fun e => q1 ?_)⟩, fun q2 => absurd rfl q2⟩, fun q1 => ⟨fun q2 => absurd q2 (by decide), fun _ => ?_⟩⟩
  · rw [hkd]; exact (kd_sign (bc_lt hT q) hk h1 h2).mpr e
  · rw [hkd] at q1
    have e := (kd_sign (bc_lt hT q) hk h1 h2).mp q1
    obtain ⟨e1, e2⟩ := te_sign hT e hk h1 h2
    exact q_advance hT (q + 1) (by omega) x (tk_tt h) (by rw [h.2.2.2.2.2.2.2.1, e1]) (fun x' hx => ⟨nb1, hy e x' hx⟩)
theorem g_sign (hT : tx T B n) {q k : Nat} {x : S_X5} (h : tk T n q x) (hk : k < 256) (h1 : Pd k = false) (h2 : Pl k = false) {post : S_X5 → Prop} (hy : bc T n q = k → ∀ x', tk T n (sk T n (q + 1)) x' → post x') (hn : ¬ bc T n q = k → ∀ x', er x' (-2) (nI q) → post x') : wp_X5_sign x (nI k) post := by
  have hkd := h.2.2.2.2.2.2.1
  refine ⟨fun q1 => ?_, fun q1 => ?_⟩
  · rw [h.2.2.2.2.1]
    refine q_fail0 h.2.2.1 (by decide) (hn (fun e => q1 ?_))
    rw [hkd]; exact (kd_sign (bc_lt hT q) hk h1 h2).mpr e
  · rw [hkd] at q1
    have e := (kd_sign (bc_lt hT q) hk h1 h2).mp q1
    obtain ⟨e1, e2⟩ := te_sign hT e hk h1 h2
    exact q_advance hT (q + 1) (by omega) x (tk_tt h) (by rw [h.2.2.2.2.2.2.2.1, e1]) (hy e)
def nd (T : Nat → Int32) (n q : Nat) : Nat := dv T q (ru Pd T n q - q)
theorem dig_end (hT : tx T B n) {q : Nat} (h : Pd (bc T n q) = true) : q < ru Pd T n q ∧ ru Pd T n q ≤ n ∧ te T n q = ru Pd T n q := by
  have q9 : ¬ bc T n q = 999 := fun e => by rw [e] at h; exact absurd h (by decide)
  have hq := bc_ne q9
  have h1 := ru_le (P := Pd) (T := T) (n := n) (by decide) (q + 1) (by omega)
  rw [← ru_step hq h] at h1
  refine ⟨by omega, by omega, ?_⟩
  unfold te
  rw [if_neg q9, if_pos h]
theorem g_number (hT : tx T B n) {q lo hi : Nat} {x : S_X5} (h : tk T n q x) (hlo : lo ≤ 10000) (hhi : hi ≤ 9999) {post : Int32 → S_X5 → Prop} (h1 : Pd (bc T n q) = false → ∀ x', er x' (-2) (nI q) → post (nI lo) x') (h2 : Pd (bc T n q) = true → ¬ (lo ≤ nd T n q ∧ nd T n q ≤ hi) → ∀ x', er x' (-3) (nI q) → post (nI lo) x') (h3 : Pd (bc T n q) = true → lo ≤ nd T n q → nd T n q ≤ hi → ∀ x', tk T n (sk T n (ru Pd T n q)) x' → post (nI (nd T n q)) x') : wp_X5_number x (nI lo) (nI hi) post := by
  have hkd := h.2.2.2.2.2.2.1
  have hts := h.2.2.2.2.1
  refine ⟨fun q1 => ?_, fun q1 => ?_⟩
  · rw [hkd, kd_dig (bc_lt hT q)] at q1
    have hv := h.2.2.2.2.2.2.2.2 q1
    obtain ⟨e1, e2, e3⟩ := dig_end hT q1
    have hv2 : x.2.2.2.2.2.2.1 = nI (min 100000 (nd T n q)) := hv
    refine ⟨fun q2 => ?_, fun q2 => ⟨fun q3 => ?_, fun q3 => ?_⟩⟩
    · rw [hv2, lt_nI (by omega) (by omega)] at q2
      show wp_X5_fail x (-3) x.2.2.2.2.2.1 _
      rw [hts]
      exact q_fail0 h.2.2.1 (by decide) (h2 q1 (by omega))
    · rw [hv2, lt_nI (by omega) (by omega)] at q2
      rw [hv2, le_nI (by omega) (by omega)] at q3
      rw [hv2, show min 100000 (nd T n q) = nd T n q by omega]
      exact q_advance hT (ru Pd T n q) e2 x (tk_tt h) (by rw [h.2.2.2.2.2.2.2.1, e3]) (h3 q1 (by omega) (by omega))
    · rw [hv2, le_nI (by omega) (by omega)] at q3
      show wp_X5_fail x (-3) x.2.2.2.2.2.1 _
      rw [hts]
      exact q_fail0 h.2.2.1 (by decide) (h2 q1 (by omega))
  · rw [hkd, kd_dig (bc_lt hT q)] at q1
    rw [hts]
    exact q_fail0 h.2.2.1 (by decide) (h1 (by cases hp : Pd (bc T n q) with | false => rfl | true => exact absurd hp q1))
/-! The reference. -/
theorem r_good {u : S_X10} (h : u.2.2.2.2.2.1 = 0) {post : Int32 → S_X10 → Prop} (hp : post 1 u) : wp_X10_isGood u post := ⟨fun q => absurd h q, fun _ => hp⟩
theorem r_bad {u : S_X10} (h : ¬ u.2.2.2.2.2.1 = 0) {post : Int32 → S_X10 → Prop} (hp : post 0 u) : wp_X10_isGood u post := ⟨fun _ => hp, fun q => absurd q h⟩
theorem r_report0 {u : S_X10} (h : u.2.2.2.2.2.1 = 0) {c a : Int32} {post : S_X10 → Prop} (hp : post (u.1, u.2.1, u.2.2.1, u.2.2.2.1, u.2.2.2.2.1, c, a, u.2.2.2.2.2.2.2.1, u.2.2.2.2.2.2.2.2.1, u.2.2.2.2.2.2.2.2.2.1, u.2.2.2.2.2.2.2.2.2.2.1, u.2.2.2.2.2.2.2.2.2.2.2.1, u.2.2.2.2.2.2.2.2.2.2.2.2.1, u.2.2.2.2.2.2.2.2.2.2.2.2.2.1, u.2.2.2.2.2.2.2.2.2.2.2.2.2.2.1, u.2.2.2.2.2.2.2.2.2.2.2.2.2.2.2.1, u.2.2.2.2.2.2.2.2.2.2.2.2.2.2.2.2.1, u.2.2.2.2.2.2.2.2.2.2.2.2.2.2.2.2.2.1, u.2.2.2.2.2.2.2.2.2.2.2.2.2.2.2.2.2.2.1, u.2.2.2.2.2.2.2.2.2.2.2.2.2.2.2.2.2.2.2.1, u.2.2.2.2.2.2.2.2.2.2.2.2.2.2.2.2.2.2.2.2.1, u.2.2.2.2.2.2.2.2.2.2.2.2.2.2.2.2.2.2.2.2.2)) : wp_X10_report u c a post := ⟨fun _ => hp, fun q => absurd h q⟩
theorem r_reportE {u : S_X10} (h : ¬ u.2.2.2.2.2.1 = 0) {c a : Int32} {post : S_X10 → Prop} (hp : post u) : wp_X10_report u c a post := ⟨fun q => absurd q h, fun _ => hp⟩
theorem re_number {u : S_X10} (h : ¬ u.2.2.2.2.2.1 = 0) {lo hi : Int32} {post : Int32 → S_X10 → Prop} (hp : post 0 u) : wp_X10_number u lo hi post := r_bad h ⟨fun q => absurd rfl q, fun _ => hp⟩
theorem re_expect {u : S_X10} (h : ¬ u.2.2.2.2.2.1 = 0) {c : Int32} {post : S_X10 → Prop} (hp : post u) : wp_X10_expect u c post := r_bad h ⟨fun q => absurd rfl q, fun _ => hp⟩
theorem re_emit {u : S_X10} (h : ¬ u.2.2.2.2.2.1 = 0) {c : Int32} {post : S_X10 → Prop} (hp : post u) : wp_X10_emit u c post := r_bad h ⟨fun q => absurd rfl q, fun _ => hp⟩
theorem re_takeWord {u : S_X10} (h : ¬ u.2.2.2.2.2.1 = 0) {w : List Int32} {post : Int32 → S_X10 → Prop} (hp : post 0 u) : wp_X10_takeWord w u post := r_bad h ⟨fun q => absurd rfl q, fun _ => hp⟩
theorem r_expect (hT : tx T B n) {u : S_X10} {p k : Nat} (hu : mt B n u) (h0 : u.2.2.2.2.2.1 = 0) (hpn : p ≤ n) (hp : u.2.2.2.2.1 = nI p) (hk : k < 256) {post : S_X10 → Prop} (hy : bc T n (sk T n p) = k → post (u.1, u.2.1, u.2.2.1, u.2.2.2.1, (nI (sk T n p + 1)), u.2.2.2.2.2.1, u.2.2.2.2.2.2.1, u.2.2.2.2.2.2.2.1, u.2.2.2.2.2.2.2.2.1, u.2.2.2.2.2.2.2.2.2.1, u.2.2.2.2.2.2.2.2.2.2.1, u.2.2.2.2.2.2.2.2.2.2.2.1, u.2.2.2.2.2.2.2.2.2.2.2.2.1, u.2.2.2.2.2.2.2.2.2.2.2.2.2.1, u.2.2.2.2.2.2.2.2.2.2.2.2.2.2.1, u.2.2.2.2.2.2.2.2.2.2.2.2.2.2.2.1, u.2.2.2.2.2.2.2.2.2.2.2.2.2.2.2.2.1, u.2.2.2.2.2.2.2.2.2.2.2.2.2.2.2.2.2.1, u.2.2.2.2.2.2.2.2.2.2.2.2.2.2.2.2.2.2.1, u.2.2.2.2.2.2.2.2.2.2.2.2.2.2.2.2.2.2.2.1, u.2.2.2.2.2.2.2.2.2.2.2.2.2.2.2.2.2.2.2.2.1, u.2.2.2.2.2.2.2.2.2.2.2.2.2.2.2.2.2.2.2.2.2)) (hn : ¬ bc T n (sk T n p) = k → post (u.1, u.2.1, u.2.2.1, u.2.2.2.1, (nI (sk T n p)), (-2 : Int32), (nI (sk T n p)), u.2.2.2.2.2.2.2.1, u.2.2.2.2.2.2.2.2.1, u.2.2.2.2.2.2.2.2.2.1, u.2.2.2.2.2.2.2.2.2.2.1, u.2.2.2.2.2.2.2.2.2.2.2.1, u.2.2.2.2.2.2.2.2.2.2.2.2.1, u.2.2.2.2.2.2.2.2.2.2.2.2.2.1, u.2.2.2.2.2.2.2.2.2.2.2.2.2.2.1, u.2.2.2.2.2.2.2.2.2.2.2.2.2.2.2.1, u.2.2.2.2.2.2.2.2.2.2.2.2.2.2.2.2.1, u.2.2.2.2.2.2.2.2.2.2.2.2.2.2.2.2.2.1, u.2.2.2.2.2.2.2.2.2.2.2.2.2.2.2.2.2.2.1, u.2.2.2.2.2.2.2.2.2.2.2.2.2.2.2.2.2.2.2.1, u.2.2.2.2.2.2.2.2.2.2.2.2.2.2.2.2.2.2.2.2.1, u.2.2.2.2.2.2.2.2.2.2.2.2.2.2.2.2.2.2.2.2.2)) : wp_X10_expect u (nI k) post := by
  refine r_good h0 ⟨fun _ => q_next hT p hpn u hu hp ⟨fun q1 => ?_, fun q1 x9 e9 => ?_⟩, fun q1 => absurd q1 (by decide)⟩
  · refine r_report0 (u := (u.1, u.2.1, u.2.2.1, u.2.2.2.1, (nI (sk T n p)), u.2.2.2.2.2.1, u.2.2.2.2.2.2.1, u.2.2.2.2.2.2.2.1, u.2.2.2.2.2.2.2.2.1, u.2.2.2.2.2.2.2.2.2.1, u.2.2.2.2.2.2.2.2.2.2.1, u.2.2.2.2.2.2.2.2.2.2.2.1, u.2.2.2.2.2.2.2.2.2.2.2.2.1, u.2.2.2.2.2.2.2.2.2.2.2.2.2.1, u.2.2.2.2.2.2.2.2.2.2.2.2.2.2.1, u.2.2.2.2.2.2.2.2.2.2.2.2.2.2.2.1, u.2.2.2.2.2.2.2.2.2.2.2.2.2.2.2.2.1, u.2.2.2.2.2.2.2.2.2.2.2.2.2.2.2.2.2.1, u.2.2.2.2.2.2.2.2.2.2.2.2.2.2.2.2.2.2.1, u.2.2.2.2.2.2.2.2.2.2.2.2.2.2.2.2.2.2.2.1, u.2.2.2.2.2.2.2.2.2.2.2.2.2.2.2.2.2.2.2.2.1, u.2.2.2.2.2.2.2.2.2.2.2.2.2.2.2.2.2.2.2.2.2)) h0 (hn (fun e => q1 ?_))
    exact (bv_eq (bc_lt hT _) hk).mpr e
  · dsimp only at e9
    rw [ix_1] at e9
    subst e9
    exact hy ((bv_eq (bc_lt hT _) hk).mp q1)
theorem r_numl (hT : tx T B n) {q lo hi : Nat} {u0 : S_X10} (hu : mt B n u0) (h0 : u0.2.2.2.2.2.1 = 0) (hns : u0.2.2.2.2.2.2.2.2.2.2.2.2.2.2.1 = nI q) (hlo : lo ≤ 10000) (hhi : hi ≤ 9999) {post : Int32 → S_X10 → Prop} (h2 : ¬ (lo ≤ nd T n q ∧ nd T n q ≤ hi) → post (nI (min 1000000 (nd T n q))) (u0.1, u0.2.1, u0.2.2.1, u0.2.2.2.1, (nI (ru Pd T n q)), (-3 : Int32), (nI q), u0.2.2.2.2.2.2.2.1, u0.2.2.2.2.2.2.2.2.1, u0.2.2.2.2.2.2.2.2.2.1, u0.2.2.2.2.2.2.2.2.2.2.1, u0.2.2.2.2.2.2.2.2.2.2.2.1, u0.2.2.2.2.2.2.2.2.2.2.2.2.1, u0.2.2.2.2.2.2.2.2.2.2.2.2.2.1, u0.2.2.2.2.2.2.2.2.2.2.2.2.2.2.1, u0.2.2.2.2.2.2.2.2.2.2.2.2.2.2.2.1, u0.2.2.2.2.2.2.2.2.2.2.2.2.2.2.2.2.1, u0.2.2.2.2.2.2.2.2.2.2.2.2.2.2.2.2.2.1, u0.2.2.2.2.2.2.2.2.2.2.2.2.2.2.2.2.2.2.1, u0.2.2.2.2.2.2.2.2.2.2.2.2.2.2.2.2.2.2.2.1, u0.2.2.2.2.2.2.2.2.2.2.2.2.2.2.2.2.2.2.2.2.1, u0.2.2.2.2.2.2.2.2.2.2.2.2.2.2.2.2.2.2.2.2.2)) (h3 : lo ≤ nd T n q → nd T n q ≤ hi → post (nI (nd T n q)) (u0.1, u0.2.1, u0.2.2.1, u0.2.2.2.1, (nI (ru Pd T n q)), u0.2.2.2.2.2.1, u0.2.2.2.2.2.2.1, u0.2.2.2.2.2.2.2.1, u0.2.2.2.2.2.2.2.2.1, u0.2.2.2.2.2.2.2.2.2.1, u0.2.2.2.2.2.2.2.2.2.2.1, u0.2.2.2.2.2.2.2.2.2.2.2.1, u0.2.2.2.2.2.2.2.2.2.2.2.2.1, u0.2.2.2.2.2.2.2.2.2.2.2.2.2.1, u0.2.2.2.2.2.2.2.2.2.2.2.2.2.2.1, u0.2.2.2.2.2.2.2.2.2.2.2.2.2.2.2.1, u0.2.2.2.2.2.2.2.2.2.2.2.2.2.2.2.2.1, u0.2.2.2.2.2.2.2.2.2.2.2.2.2.2.2.2.2.1, u0.2.2.2.2.2.2.2.2.2.2.2.2.2.2.2.2.2.2.1, u0.2.2.2.2.2.2.2.2.2.2.2.2.2.2.2.2.2.2.2.1, u0.2.2.2.2.2.2.2.2.2.2.2.2.2.2.2.2.2.2.2.2.1, u0.2.2.2.2.2.2.2.2.2.2.2.2.2.2.2.2.2.2.2.2.2)) : ∀ p, p ≤ n → q ≤ p → ru Pd T n p = ru Pd T n q → ∃ m, zl (fun K st => j_X10_number_41 K st.1 st.2.1 st.2.2.1 st.2.2.2 post) m (nI lo, nI hi, nI (min 1000000 (dv T q (p - q))), (u0.1, u0.2.1, u0.2.2.1, u0.2.2.2.1, (nI p), u0.2.2.2.2.2.1, u0.2.2.2.2.2.2.1, u0.2.2.2.2.2.2.2.1, u0.2.2.2.2.2.2.2.2.1, u0.2.2.2.2.2.2.2.2.2.1, u0.2.2.2.2.2.2.2.2.2.2.1, u0.2.2.2.2.2.2.2.2.2.2.2.1, u0.2.2.2.2.2.2.2.2.2.2.2.2.1, u0.2.2.2.2.2.2.2.2.2.2.2.2.2.1, u0.2.2.2.2.2.2.2.2.2.2.2.2.2.2.1, u0.2.2.2.2.2.2.2.2.2.2.2.2.2.2.2.1, u0.2.2.2.2.2.2.2.2.2.2.2.2.2.2.2.2.1, u0.2.2.2.2.2.2.2.2.2.2.2.2.2.2.2.2.2.1, u0.2.2.2.2.2.2.2.2.2.2.2.2.2.2.2.2.2.2.1, u0.2.2.2.2.2.2.2.2.2.2.2.2.2.2.2.2.2.2.2.1, u0.2.2.2.2.2.2.2.2.2.2.2.2.2.2.2.2.2.2.2.2.1, u0.2.2.2.2.2.2.2.2.2.2.2.2.2.2.2.2.2.2.2.2.2)) := by
  have hn := hT.1
  refine run_ind (P := Pd) (T := T) (by decide) ?_ ?_
  · intro p hpn hc hqp h5
    rw [ru_stop hc] at h5
    refine zl_exit (fun K => q_byteAt hT (u := (u0.1, u0.2.1, u0.2.2.1, u0.2.2.2.1, (nI p), u0.2.2.2.2.2.1, u0.2.2.2.2.2.2.1, u0.2.2.2.2.2.2.2.1, u0.2.2.2.2.2.2.2.2.1, u0.2.2.2.2.2.2.2.2.2.1, u0.2.2.2.2.2.2.2.2.2.2.1, u0.2.2.2.2.2.2.2.2.2.2.2.1, u0.2.2.2.2.2.2.2.2.2.2.2.2.1, u0.2.2.2.2.2.2.2.2.2.2.2.2.2.1, u0.2.2.2.2.2.2.2.2.2.2.2.2.2.2.1, u0.2.2.2.2.2.2.2.2.2.2.2.2.2.2.2.1, u0.2.2.2.2.2.2.2.2.2.2.2.2.2.2.2.2.1, u0.2.2.2.2.2.2.2.2.2.2.2.2.2.2.2.2.2.1, u0.2.2.2.2.2.2.2.2.2.2.2.2.2.2.2.2.2.2.1, u0.2.2.2.2.2.2.2.2.2.2.2.2.2.2.2.2.2.2.2.1, u0.2.2.2.2.2.2.2.2.2.2.2.2.2.2.2.2.2.2.2.2.1, u0.2.2.2.2.2.2.2.2.2.2.2.2.2.2.2.2.2.2.2.2.2)) hu (i := p) (by omega) (q_isDigit (bc_lt hT p) ?_))
    rw [hc]
    have ed : dv T q (p - q) = nd T n q := by unfold nd; rw [← h5]
    dsimp only
    rw [ed]
    refine ⟨fun _ => ?_, fun q1 => absurd rfl q1⟩
    by_cases q1 : lo ≤ nd T n q ∧ nd T n q ≤ hi
    · rw [show min 1000000 (nd T n q) = nd T n q by omega]
      refine q_in1 (fun q2 => by rw [lt_nI (by omega) (by omega)] at q2; omega) (fun q2 => by rw [lt_nI (by omega) (by omega)] at q2; omega) ⟨fun _ => ?_, fun q2 => absurd q2 (by decide)⟩
      have := h3 q1.1 q1.2
      rw [← h5] at this
      exact this
    · refine q_in0 (by rw [lt_nI (by omega) (by omega), lt_nI (by omega) (by omega)]; omega) ⟨fun q2 => absurd rfl q2, fun _ => r_report0 (u := (u0.1, u0.2.1, u0.2.2.1, u0.2.2.2.1, (nI p), u0.2.2.2.2.2.1, u0.2.2.2.2.2.2.1, u0.2.2.2.2.2.2.2.1, u0.2.2.2.2.2.2.2.2.1, u0.2.2.2.2.2.2.2.2.2.1, u0.2.2.2.2.2.2.2.2.2.2.1, u0.2.2.2.2.2.2.2.2.2.2.2.1, u0.2.2.2.2.2.2.2.2.2.2.2.2.1, u0.2.2.2.2.2.2.2.2.2.2.2.2.2.1, u0.2.2.2.2.2.2.2.2.2.2.2.2.2.2.1, u0.2.2.2.2.2.2.2.2.2.2.2.2.2.2.2.1, u0.2.2.2.2.2.2.2.2.2.2.2.2.2.2.2.2.1, u0.2.2.2.2.2.2.2.2.2.2.2.2.2.2.2.2.2.1, u0.2.2.2.2.2.2.2.2.2.2.2.2.2.2.2.2.2.2.1, u0.2.2.2.2.2.2.2.2.2.2.2.2.2.2.2.2.2.2.2.1, u0.2.2.2.2.2.2.2.2.2.2.2.2.2.2.2.2.2.2.2.2.1, u0.2.2.2.2.2.2.2.2.2.2.2.2.2.2.2.2.2.2.2.2.2)) h0 ?_⟩
      have := h2 q1
      rw [← h5, ← hns] at this
      exact this
  · intro p hpn hc ih hqp h5
    have hfa := by_facts (hT.2 p hpn).1
    have hc2 := hc
    rw [bc_in hpn, Pd_iff] at hc2
    refine zl_step (s' := (nI lo, nI hi, nI (min 1000000 (dv T q (p + 1 - q))), (u0.1, u0.2.1, u0.2.2.1, u0.2.2.2.1, (nI (p + 1)), u0.2.2.2.2.2.1, u0.2.2.2.2.2.2.1, u0.2.2.2.2.2.2.2.1, u0.2.2.2.2.2.2.2.2.1, u0.2.2.2.2.2.2.2.2.2.1, u0.2.2.2.2.2.2.2.2.2.2.1, u0.2.2.2.2.2.2.2.2.2.2.2.1, u0.2.2.2.2.2.2.2.2.2.2.2.2.1, u0.2.2.2.2.2.2.2.2.2.2.2.2.2.1, u0.2.2.2.2.2.2.2.2.2.2.2.2.2.2.1, u0.2.2.2.2.2.2.2.2.2.2.2.2.2.2.2.1, u0.2.2.2.2.2.2.2.2.2.2.2.2.2.2.2.2.1, u0.2.2.2.2.2.2.2.2.2.2.2.2.2.2.2.2.2.1, u0.2.2.2.2.2.2.2.2.2.2.2.2.2.2.2.2.2.2.1, u0.2.2.2.2.2.2.2.2.2.2.2.2.2.2.2.2.2.2.2.1, u0.2.2.2.2.2.2.2.2.2.2.2.2.2.2.2.2.2.2.2.2.1, u0.2.2.2.2.2.2.2.2.2.2.2.2.2.2.2.2.2.2.2.2.2))) (fun K hK => q_byteAt hT (u := (u0.1, u0.2.1, u0.2.2.1, u0.2.2.2.1, (nI p), u0.2.2.2.2.2.1, u0.2.2.2.2.2.2.1, u0.2.2.2.2.2.2.2.1, u0.2.2.2.2.2.2.2.2.1, u0.2.2.2.2.2.2.2.2.2.1, u0.2.2.2.2.2.2.2.2.2.2.1, u0.2.2.2.2.2.2.2.2.2.2.2.1, u0.2.2.2.2.2.2.2.2.2.2.2.2.1, u0.2.2.2.2.2.2.2.2.2.2.2.2.2.1, u0.2.2.2.2.2.2.2.2.2.2.2.2.2.2.1, u0.2.2.2.2.2.2.2.2.2.2.2.2.2.2.2.1, u0.2.2.2.2.2.2.2.2.2.2.2.2.2.2.2.2.1, u0.2.2.2.2.2.2.2.2.2.2.2.2.2.2.2.2.2.1, u0.2.2.2.2.2.2.2.2.2.2.2.2.2.2.2.2.2.2.1, u0.2.2.2.2.2.2.2.2.2.2.2.2.2.2.2.2.2.2.2.1, u0.2.2.2.2.2.2.2.2.2.2.2.2.2.2.2.2.2.2.2.2.1, u0.2.2.2.2.2.2.2.2.2.2.2.2.2.2.2.2.2.2.2.2.2)) hu (i := p) (by omega) (q_isDigit (bc_lt hT p) ?_)) ?_
    · rw [hc]
      refine ⟨fun q1 => absurd q1 (by decide), fun _ => q_byteAt hT (u := (u0.1, u0.2.1, u0.2.2.1, u0.2.2.2.1, (nI p), u0.2.2.2.2.2.1, u0.2.2.2.2.2.2.1, u0.2.2.2.2.2.2.2.1, u0.2.2.2.2.2.2.2.2.1, u0.2.2.2.2.2.2.2.2.2.1, u0.2.2.2.2.2.2.2.2.2.2.1, u0.2.2.2.2.2.2.2.2.2.2.2.1, u0.2.2.2.2.2.2.2.2.2.2.2.2.1, u0.2.2.2.2.2.2.2.2.2.2.2.2.2.1, u0.2.2.2.2.2.2.2.2.2.2.2.2.2.2.1, u0.2.2.2.2.2.2.2.2.2.2.2.2.2.2.2.1, u0.2.2.2.2.2.2.2.2.2.2.2.2.2.2.2.2.1, u0.2.2.2.2.2.2.2.2.2.2.2.2.2.2.2.2.2.1, u0.2.2.2.2.2.2.2.2.2.2.2.2.2.2.2.2.2.2.1, u0.2.2.2.2.2.2.2.2.2.2.2.2.2.2.2.2.2.2.2.1, u0.2.2.2.2.2.2.2.2.2.2.2.2.2.2.2.2.2.2.2.2.1, u0.2.2.2.2.2.2.2.2.2.2.2.2.2.2.2.2.2.2.2.2.2)) hu (i := p) (by omega) ?_⟩
      have eb : bv (bc T n p) = nI (bt (T p)) := by rw [bc_in hpn]; unfold bv; rw [if_neg (by omega)]
      dsimp only
      rw [eb, show (10 : Int32) = nI 10 from rfl, pk_mul, nI_add, show (48 : Int32) = nI 48 from rfl, pk_sub (by omega), show (1000000 : Int32) = nI 1000000 from rfl]
      refine m_min (by omega) (by omega) (fun x25 e25 => ?_)
      rw [ix_1] at e25
      subst e25
      have ev : min 1000000 (10 * min 1000000 (dv T q (p - q)) + bt (T p) - 48) = min 1000000 (dv T q (p + 1 - q)) := by
        rw [show p + 1 - q = (p - q) + 1 by omega]
        show _ = min 1000000 (10 * dv T q (p - q) + (bt (T (q + (p - q))) - 48))
        rw [show q + (p - q) = p by omega]
        omega
      rw [ev]
      exact hK
    · exact ih (by omega) (by rw [← ru_step hpn hc]; exact h5)
theorem r_number (hT : tx T B n) {u : S_X10} {p lo hi : Nat} (hu : mt B n u) (h0 : u.2.2.2.2.2.1 = 0) (hpn : p ≤ n) (hp : u.2.2.2.2.1 = nI p) (hlo : lo ≤ 10000) (hhi : hi ≤ 9999) {post : Int32 → S_X10 → Prop} (h1 : Pd (bc T n (sk T n p)) = false → post 0 (u.1, u.2.1, u.2.2.1, u.2.2.2.1, (nI (sk T n p)), (-2 : Int32), (nI (sk T n p)), u.2.2.2.2.2.2.2.1, u.2.2.2.2.2.2.2.2.1, u.2.2.2.2.2.2.2.2.2.1, u.2.2.2.2.2.2.2.2.2.2.1, u.2.2.2.2.2.2.2.2.2.2.2.1, u.2.2.2.2.2.2.2.2.2.2.2.2.1, u.2.2.2.2.2.2.2.2.2.2.2.2.2.1, u.2.2.2.2.2.2.2.2.2.2.2.2.2.2.1, u.2.2.2.2.2.2.2.2.2.2.2.2.2.2.2.1, u.2.2.2.2.2.2.2.2.2.2.2.2.2.2.2.2.1, u.2.2.2.2.2.2.2.2.2.2.2.2.2.2.2.2.2.1, u.2.2.2.2.2.2.2.2.2.2.2.2.2.2.2.2.2.2.1, u.2.2.2.2.2.2.2.2.2.2.2.2.2.2.2.2.2.2.2.1, u.2.2.2.2.2.2.2.2.2.2.2.2.2.2.2.2.2.2.2.2.1, u.2.2.2.2.2.2.2.2.2.2.2.2.2.2.2.2.2.2.2.2.2)) (h2 : Pd (bc T n (sk T n p)) = true → ¬ (lo ≤ nd T n (sk T n p) ∧ nd T n (sk T n p) ≤ hi) → post (nI (min 1000000 (nd T n (sk T n p)))) (u.1, u.2.1, u.2.2.1, u.2.2.2.1, (nI (ru Pd T n (sk T n p))), (-3 : Int32), (nI (sk T n p)), u.2.2.2.2.2.2.2.1, u.2.2.2.2.2.2.2.2.1, u.2.2.2.2.2.2.2.2.2.1, u.2.2.2.2.2.2.2.2.2.2.1, u.2.2.2.2.2.2.2.2.2.2.2.1, u.2.2.2.2.2.2.2.2.2.2.2.2.1, u.2.2.2.2.2.2.2.2.2.2.2.2.2.1, (nI (sk T n p)), u.2.2.2.2.2.2.2.2.2.2.2.2.2.2.2.1, u.2.2.2.2.2.2.2.2.2.2.2.2.2.2.2.2.1, u.2.2.2.2.2.2.2.2.2.2.2.2.2.2.2.2.2.1, u.2.2.2.2.2.2.2.2.2.2.2.2.2.2.2.2.2.2.1, u.2.2.2.2.2.2.2.2.2.2.2.2.2.2.2.2.2.2.2.1, u.2.2.2.2.2.2.2.2.2.2.2.2.2.2.2.2.2.2.2.2.1, u.2.2.2.2.2.2.2.2.2.2.2.2.2.2.2.2.2.2.2.2.2)) (h3 : Pd (bc T n (sk T n p)) = true → lo ≤ nd T n (sk T n p) → nd T n (sk T n p) ≤ hi → post (nI (nd T n (sk T n p))) (u.1, u.2.1, u.2.2.1, u.2.2.2.1, (nI (ru Pd T n (sk T n p))), u.2.2.2.2.2.1, u.2.2.2.2.2.2.1, u.2.2.2.2.2.2.2.1, u.2.2.2.2.2.2.2.2.1, u.2.2.2.2.2.2.2.2.2.1, u.2.2.2.2.2.2.2.2.2.2.1, u.2.2.2.2.2.2.2.2.2.2.2.1, u.2.2.2.2.2.2.2.2.2.2.2.2.1, u.2.2.2.2.2.2.2.2.2.2.2.2.2.1, (nI (sk T n p)), u.2.2.2.2.2.2.2.2.2.2.2.2.2.2.2.1, u.2.2.2.2.2.2.2.2.2.2.2.2.2.2.2.2.1, u.2.2.2.2.2.2.2.2.2.2.2.2.2.2.2.2.2.1, u.2.2.2.2.2.2.2.2.2.2.2.2.2.2.2.2.2.2.1, u.2.2.2.2.2.2.2.2.2.2.2.2.2.2.2.2.2.2.2.1, u.2.2.2.2.2.2.2.2.2.2.2.2.2.2.2.2.2.2.2.2.1, u.2.2.2.2.2.2.2.2.2.2.2.2.2.2.2.2.2.2.2.2.2)) : wp_X10_number u (nI lo) (nI hi) post := by
  refine r_good h0 ⟨fun _ => q_next hT p hpn u hu hp (q_isDigit (bc_lt hT _) ?_), fun q1 => absurd q1 (by decide)⟩
  cases hd : Pd (bc T n (sk T n p)) with
  | false => exact ⟨fun q1 => absurd rfl q1, fun _ => r_report0 (u := (u.1, u.2.1, u.2.2.1, u.2.2.2.1, (nI (sk T n p)), u.2.2.2.2.2.1, u.2.2.2.2.2.2.1, u.2.2.2.2.2.2.2.1, u.2.2.2.2.2.2.2.2.1, u.2.2.2.2.2.2.2.2.2.1, u.2.2.2.2.2.2.2.2.2.2.1, u.2.2.2.2.2.2.2.2.2.2.2.1, u.2.2.2.2.2.2.2.2.2.2.2.2.1, u.2.2.2.2.2.2.2.2.2.2.2.2.2.1, u.2.2.2.2.2.2.2.2.2.2.2.2.2.2.1, u.2.2.2.2.2.2.2.2.2.2.2.2.2.2.2.1, u.2.2.2.2.2.2.2.2.2.2.2.2.2.2.2.2.1, u.2.2.2.2.2.2.2.2.2.2.2.2.2.2.2.2.2.1, u.2.2.2.2.2.2.2.2.2.2.2.2.2.2.2.2.2.2.1, u.2.2.2.2.2.2.2.2.2.2.2.2.2.2.2.2.2.2.2.1, u.2.2.2.2.2.2.2.2.2.2.2.2.2.2.2.2.2.2.2.2.1, u.2.2.2.2.2.2.2.2.2.2.2.2.2.2.2.2.2.2.2.2.2)) h0 (h1 hd)⟩
  | true =>
    refine ⟨fun _ => ?_, fun q1 => absurd q1 (by decide)⟩
    have g := r_numl (q := sk T n p) hT (u0 := (u.1, u.2.1, u.2.2.1, u.2.2.2.1, (nI (sk T n p)), u.2.2.2.2.2.1, u.2.2.2.2.2.2.1, u.2.2.2.2.2.2.2.1, u.2.2.2.2.2.2.2.2.1, u.2.2.2.2.2.2.2.2.2.1, u.2.2.2.2.2.2.2.2.2.2.1, u.2.2.2.2.2.2.2.2.2.2.2.1, u.2.2.2.2.2.2.2.2.2.2.2.2.1, u.2.2.2.2.2.2.2.2.2.2.2.2.2.1, (nI (sk T n p)), u.2.2.2.2.2.2.2.2.2.2.2.2.2.2.2.1, u.2.2.2.2.2.2.2.2.2.2.2.2.2.2.2.2.1, u.2.2.2.2.2.2.2.2.2.2.2.2.2.2.2.2.2.1, u.2.2.2.2.2.2.2.2.2.2.2.2.2.2.2.2.2.2.1, u.2.2.2.2.2.2.2.2.2.2.2.2.2.2.2.2.2.2.2.1, u.2.2.2.2.2.2.2.2.2.2.2.2.2.2.2.2.2.2.2.2.1, u.2.2.2.2.2.2.2.2.2.2.2.2.2.2.2.2.2.2.2.2.2)) hu h0 rfl hlo hhi (h2 hd) (h3 hd) (sk T n p) (sk_le hpn).2 (Nat.le_refl _) rfl
    rw [Nat.sub_self] at g
    exact g
end
