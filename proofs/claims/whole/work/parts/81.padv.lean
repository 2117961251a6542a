/-! Tokens: what advance does. -/
theorem q_adv2 {T B : Nat → Int32} {n : Nat} (hT : tx T B n) {q : Nat} (hd : Pd (bc T n q) = false) (hl : Pl (bc T n q) = true) {post : S_X5 → Prop} (hp : ∀ x', tk T n q x' → post x') : ∀ p, p ≤ n → ∀ x : S_X5, q ≤ p → tt T n x → x.2.2.2.2.2.1 = nI q → x.2.2.2.2.1 = 257 → x.2.2.2.1 = nI p → ru Pl T n p = ru Pl T n q → ∃ m, zl (fun K st => j_X5_advance_221 K st post) m x := by
  have hn := hT.1
  have hfin : ∀ p (x : S_X5), p ≤ n → q ≤ p → tt T n x → x.2.2.2.2.2.1 = nI q → x.2.2.2.2.1 = 257 → x.2.2.2.1 = nI p → ru Pl T n q = p → tk T n q x := by
    intro p x hpn hqp ⟨t1, t2, t3, t4⟩ h1 h2 h3 h5
    have c9 : ¬ bc T n q = 999 := fun e => by rw [e] at hl; exact absurd hl (by decide)
    refine ⟨t1, t2, t3, t4, h1, by omega, ?_, ?_, fun q1 => ?_⟩
    · rw [h2]; unfold kd; rw [if_neg c9, if_neg (by rw [hd]; decide), if_pos hl]
    · rw [h3]; unfold te; rw [if_neg c9, if_neg (by rw [hd]; decide), if_pos hl, h5]
    · rw [hd] at q1; exact absurd q1 (by decide)
  refine run_ind (P := Pl) (T := T) (by decide) ?_ ?_
  · intro p hpn hc x hqp ht h1 h2 h3 h5
    rw [ru_stop hc] at h5
    have hk := hfin p x hpn hqp ht h1 h2 h3 h5.symm
    obtain ⟨t1, t2, t3, t4⟩ := ht
    refine zl_exit (fun K => ⟨fun _ => hp x hk, fun q1 => ?_⟩)
    rw [t2, h3, le_nI (by omega) (by omega)] at q1
    have hcl : x.2.2.2.1.toNatClampNeg = p := by rw [h3]; exact cl_nI (by omega)
    have hf := (by_facts (hT.2 p (by omega)).1).2.2.2.2.1
    rw [bc_in (by omega), Pl_not] at hc
    have hin : vp_in x.2.2.2.1 800 := by rw [h3]; exact in_of (by omega) (by omega)
    refine ⟨hin, fun _ => hp x hk, fun q2 => ⟨hin, fun _ => hp x hk, fun q3 => ?_⟩⟩
    rw [t1, hcl] at q2 q3
    exact absurd (hf.mpr hc) (fun q4 => q4.elim q2 q3)
  · intro p hpn hc ih x hqp ht h1 h2 h3 h5
    obtain ⟨t1, t2, t3, t4⟩ := ht
    have hcl : x.2.2.2.1.toNatClampNeg = p := by rw [h3]; exact cl_nI (by omega)
    have hf := (by_facts (hT.2 p (by omega)).1).2.2.2.2.1
    have hc2 := hc
    rw [bc_in (by omega), Pl_iff] at hc2
    have hin : vp_in x.2.2.2.1 800 := by rw [h3]; exact in_of (by omega) (by omega)
    have hle : ¬ x.2.2.1 ≤ x.2.2.2.1 := fun q1 => by rw [t2, h3, le_nI (by omega) (by omega)] at q1; omega
    refine zl_step (s' := (x.1, x.2.1, x.2.2.1, (nI (p + 1)), x.2.2.2.2.1, x.2.2.2.2.2.1, x.2.2.2.2.2.2.1, x.2.2.2.2.2.2.2.1, x.2.2.2.2.2.2.2.2)) (fun K hK => ⟨fun q1 => absurd q1 hle, fun _ => ⟨hin, fun q1 => ?_, fun _ => ⟨hin, fun q1 => ?_, fun _ x30 e30 => ?_⟩⟩⟩) ?_
    · rw [t1, hcl] at q1
      exact absurd hc2 (hf.mp (Or.inl q1))
    · rw [t1, hcl] at q1
      exact absurd hc2 (hf.mp (Or.inr q1))
    · rw [h3, ix_1] at e30
      subst e30
      exact hK
    · exact ih _ (by omega) ⟨t1, t2, t3, t4⟩ h1 h2 rfl (by rw [← ru_step hpn hc]; exact h5)
theorem q_adv38 {T B : Nat → Int32} {n : Nat} (hT : tx T B n) {p : Nat} (hpn : p ≤ n) (x : S_X5) (ht : tt T n x) (h3 : x.2.2.2.1 = nI p) {post : S_X5 → Prop} (hp : ∀ x', tk T n p x' → post x') : j_X5_advance_38 x post := by
  have hn := hT.1
  obtain ⟨t1, t2, t3, t4⟩ := id ht
  have hcl : x.2.2.2.1.toNatClampNeg = p := by rw [h3]; exact cl_nI (by omega)
  refine ⟨fun q1 => ?_, fun q1 => hp _ ?_⟩
  · rw [t2, h3, lt_nI (by omega) (by omega)] at q1
    have hin : vp_in x.2.2.2.1 800 := by rw [h3]; exact in_of (by omega) (by omega)
    have hfa := by_facts (hT.2 p q1).1
    have hf := hfa.2.2.2.1
    have hg := hfa.2.2.2.2.1
    have c9 : ¬ bc T n p = 999 := fun e => by have := bc_end hT e; omega
    have eb : bc T n p = bt (T p) := bc_in q1
    have h273 : Pd (bc T n p) = false → Pl (bc T n p) = false → j_X5_advance_273 (x.1, x.2.1, x.2.2.1, x.2.2.2.1, x.2.2.2.2.1, x.2.2.2.1, x.2.2.2.2.2.2.1, x.2.2.2.2.2.2.2.1, x.2.2.2.2.2.2.2.2) post := by
      intro hd hl
      refine ⟨hin, fun x23 e23 x24 e24 => hp _ ?_⟩
      dsimp only at e23 e24
      rw [t1, hcl] at e23
      rw [h3, ix_1] at e24
      subst e23 e24
      refine ⟨t1, t2, t3, t4, h3, hpn, ?_, ?_, fun q2 => absurd (hd.symm.trans q2) (by decide)⟩
      · show T p &&& 255 = kd (bc T n p)
        unfold kd
        rw [if_neg c9, if_neg (by rw [hd]; decide), if_neg (by rw [hl]; decide), eb]
        exact hfa.1
      · show nI (p + 1) = nI (te T n p)
        unfold te
        rw [if_neg c9, if_neg (by rw [hd]; decide), if_neg (by rw [hl]; decide)]
    have h186 : Pd (bc T n p) = false → j_X5_advance_186 (x.1, x.2.1, x.2.2.1, x.2.2.2.1, x.2.2.2.2.1, x.2.2.2.1, x.2.2.2.2.2.2.1, x.2.2.2.2.2.2.2.1, x.2.2.2.2.2.2.2.2) post := by
      intro hd
      cases hl : Pl (bc T n p) with
      | false =>
        have hl2 := hl
        rw [eb, Pl_not] at hl2
        refine ⟨hin, fun _ => h273 hd hl, fun q2 => ⟨hin, fun _ => h273 hd hl, fun q3 => ?_⟩⟩
        dsimp only at q2 q3
        rw [t1, hcl] at q2 q3
        exact absurd (hg.mpr hl2) (fun q4 => q4.elim q2 q3)
      | true =>
        have hl2 := hl
        rw [eb, Pl_iff] at hl2
        refine ⟨hin, fun q2 => ?_, fun q2 => ⟨hin, fun q3 => ?_, fun q3 => ?_⟩⟩
        · dsimp only at q2
          rw [t1, hcl] at q2
          exact absurd hl2 (hg.mp (Or.inl q2))
        · dsimp only at q3
          rw [t1, hcl] at q3
          exact absurd hl2 (hg.mp (Or.inr q3))
        · exact q_adv2 hT hd hl hp p hpn _ (Nat.le_refl p) ⟨t1, t2, t3, t4⟩ h3 rfl h3 rfl
    cases hd : Pd (bc T n p) with
    | false =>
      have hd2 := hd
      rw [eb, Pd_not] at hd2
      refine ⟨hin, fun _ => h186 hd, fun q2 => ⟨hin, fun _ => h186 hd, fun q3 => ?_⟩⟩
      rw [t1, hcl] at q2 q3
      exact absurd (hf.mpr hd2) (fun q4 => q4.elim q2 q3)
    | true =>
      have hd2 := hd
      rw [eb, Pd_iff] at hd2
      refine ⟨hin, fun q2 => ?_, fun q2 => ⟨hin, fun q3 => ?_, fun q3 => ?_⟩⟩
      · rw [t1, hcl] at q2
        exact absurd hd2 (hf.mp (Or.inl q2))
      · rw [t1, hcl] at q3
        exact absurd hd2 (hf.mp (Or.inr q3))
      · exact q_adv1 hT hd hp p hpn _ (Nat.le_refl p) ⟨t1, t2, t3, t4⟩ h3 rfl h3 (by rw [Nat.sub_self]; rfl) rfl
  · rw [t2, h3, lt_nI (by omega) (by omega)] at q1
    have e9 : bc T n p = 999 := bc_out (by omega)
    refine ⟨t1, t2, t3, t4, h3, hpn, ?_, ?_, fun q2 => ?_⟩
    · show (-1 : Int32) = kd (bc T n p)
      rw [e9]; rfl
    · show x.2.2.2.1 = nI (te T n p)
      rw [h3]; unfold te; rw [if_pos e9]
    · rw [e9] at q2; exact absurd q2 (by decide)
theorem q_advance {T B : Nat → Int32} {n : Nat} (hT : tx T B n) {post : S_X5 → Prop} : ∀ e, e ≤ n → ∀ x : S_X5, tt T n x → x.2.2.2.1 = nI e → (∀ x', tk T n (sk T n e) x' → post x') → wp_X5_advance x post := by
  have hn := hT.1
  refine run_ind (P := Ps) (T := T) (by decide) ?_ ?_
  · intro p hpn hc x ht h3 hp
    rw [show sk T n p = p from ru_stop hc] at hp
    have h38 := q_adv38 hT hpn x ht h3 hp
    obtain ⟨t1, t2, t3, t4⟩ := ht
    refine zl_exit (fun K => ⟨fun _ => h38, fun q1 => ?_⟩)
    rw [t2, h3, le_nI (by omega) (by omega)] at q1
    have hcl : x.2.2.2.1.toNatClampNeg = p := by rw [h3]; exact cl_nI (by omega)
    have hin : vp_in x.2.2.2.1 800 := by rw [h3]; exact in_of (by omega) (by omega)
    refine ⟨hin, fun _ => h38, fun q2 => ?_⟩
    rw [t1, hcl] at q2
    rw [bc_in (by omega), Ps_not] at hc
    exact absurd ((by_facts (hT.2 p (by omega)).1).2.2.1.mp q2) hc
  · intro p hpn hc ih x ht h3 hp
    obtain ⟨t1, t2, t3, t4⟩ := ht
    have hcl : x.2.2.2.1.toNatClampNeg = p := by rw [h3]; exact cl_nI (by omega)
    have hin : vp_in x.2.2.2.1 800 := by rw [h3]; exact in_of (by omega) (by omega)
    have hle : ¬ x.2.2.1 ≤ x.2.2.2.1 := fun q1 => by rw [t2, h3, le_nI (by omega) (by omega)] at q1; omega
    have hc2 := hc
    rw [bc_in hpn, Ps_iff] at hc2
    have hs : x.1 x.2.2.2.1.toNatClampNeg = 32 := by
      rw [t1, hcl]; exact (by_facts (hT.2 p hpn).1).2.2.1.mpr hc2
    refine zl_step (s' := (x.1, x.2.1, x.2.2.1, (nI (p + 1)), x.2.2.2.2.1, x.2.2.2.2.2.1, x.2.2.2.2.2.2.1, x.2.2.2.2.2.2.2.1, x.2.2.2.2.2.2.2.2)) (fun K hK => ⟨fun q1 => absurd q1 hle, fun _ => ⟨hin, fun q1 => absurd hs q1, fun _ x4 e4 => ?_⟩⟩) ?_
    · rw [h3, ix_1] at e4
      subst e4
      exact hK
    · exact ih _ ⟨t1, t2, t3, t4⟩ rfl (by rw [show sk T n p = sk T n (p + 1) from ru_step hpn hc] at hp; exact hp)
/-! The reference's bytes. -/
def bv (c : Nat) : Int32 := if c = 999 then -1 else nI c
theorem bv_eq {c k : Nat} (hc : c < 256 ∨ c = 999) (hk : k < 256) : bv c = nI k ↔ c = k := by
  unfold bv
  by_cases q : c = 999
  · rw [if_pos q]
    constructor
    · intro h
      have := nI_pos (n := k) (by omega)
      rw [← h] at this
      exact absurd (by decide) this
    · intro h; omega
  · rw [if_neg q, eq_nI (by omega) (by omega)]
theorem bv_end {c : Nat} (hc : c < 256 ∨ c = 999) : bv c = -1 ↔ c = 999 := by
  unfold bv
  by_cases q : c = 999
  · rw [if_pos q]; exact ⟨fun _ => q, fun _ => rfl⟩
  · rw [if_neg q]
    constructor
    · intro h
      have := nI_pos (n := c) (by omega)
      rw [h] at this
      exact absurd (by decide) this
    · intro h; exact absurd h q
theorem q_bin {c lo hi : Nat} (hc : c < 256 ∨ c = 999) (hlo : lo < 256) (hhi : hi < 256) {post : Int32 → Unit → Prop} (h : post (b1 (decide (lo ≤ c ∧ c ≤ hi))) ()) : wp_X10_in (bv c) (nI lo) (nI hi) post := by
  by_cases q : lo ≤ c ∧ c ≤ hi
  · have e : bv c = nI c := by unfold bv; rw [if_neg (by omega)]
    rw [e]
    rw [show decide (lo ≤ c ∧ c ≤ hi) = true from decide_eq_true q] at h
    exact q_in1 (fun q1 => by rw [lt_nI (by omega) (by omega)] at q1; omega) (fun q1 => by rw [lt_nI (by omega) (by omega)] at q1; omega) h
  · rw [show decide (lo ≤ c ∧ c ≤ hi) = false from decide_eq_false q] at h
    refine q_in0 ?_ h
    unfold bv
    by_cases q9 : c = 999
    · rw [if_pos q9]
      refine Or.inl ?_
      rw [fa_lt, nI_toInt (by omega)]
      exact Int.lt_of_lt_of_le (by decide) (Int.natCast_nonneg lo)
    · rw [if_neg q9, lt_nI (by omega) (by omega), lt_nI (by omega) (by omega)]
      omega
theorem q_isDigit {c : Nat} (hc : c < 256 ∨ c = 999) {post : Int32 → Unit → Prop} (h : post (b1 (Pd c)) ()) : wp_X10_isDigit (bv c) post := by
  refine q_bin (lo := 48) (hi := 57) hc (by omega) (by omega) ⟨?_, h⟩
  cases (decide (48 ≤ c ∧ c ≤ 57)) with
  | true => exact nb1
  | false => exact nb0
/-- the reference reads this text, and there is no error -/
def mt (B : Nat → Int32) (n : Nat) (u : S_X10) : Prop := u.2.1 = B ∧ u.2.2.2.1 = nI n
theorem q_byteAt {T B : Nat → Int32} {n : Nat} (hT : tx T B n) {u : S_X10} (hu : mt B n u) {i : Nat} (hi : i < 2000) {post : Int32 → S_X10 → Prop} (h : post (bv (bc T n i)) u) : wp_X10_byteAt u (nI i) post := by
  obtain ⟨h1, h2⟩ := hu
  have hn := hT.1
  refine ⟨fun q => ?_, fun q => ?_⟩
  · rw [h2, le_nI (by omega) (by omega)] at q
    rw [bc_out q] at h
    exact h
  · rw [h2, le_nI (by omega) (by omega)] at q
    have hi2 : i < n := by omega
    refine ⟨in_of (by omega) (by omega), ?_⟩
    have hf := by_facts (hT.2 i hi2).1
    rw [h1, cl_nI (by omega), (hT.2 i hi2).2, hf.1]
    rw [bc_in hi2] at h
    have e : bv (bt (T i)) = nI (bt (T i)) := by unfold bv; rw [if_neg (by have := hf.2.1; omega)]
    rw [e] at h
    exact h
theorem q_next {T B : Nat → Int32} {n : Nat} (hT : tx T B n) {post : Int32 → S_X10 → Prop} : ∀ p, p ≤ n → ∀ u : S_X10, mt B n u → u.2.2.2.2.1 = nI p → post (bv (bc T n (sk T n p))) (u.1, u.2.1, u.2.2.1, u.2.2.2.1, (nI (sk T n p)), u.2.2.2.2.2.1, u.2.2.2.2.2.2.1, u.2.2.2.2.2.2.2.1, u.2.2.2.2.2.2.2.2.1, u.2.2.2.2.2.2.2.2.2.1, u.2.2.2.2.2.2.2.2.2.2.1, u.2.2.2.2.2.2.2.2.2.2.2.1, u.2.2.2.2.2.2.2.2.2.2.2.2.1, u.2.2.2.2.2.2.2.2.2.2.2.2.2.1, u.2.2.2.2.2.2.2.2.2.2.2.2.2.2.1, u.2.2.2.2.2.2.2.2.2.2.2.2.2.2.2.1, u.2.2.2.2.2.2.2.2.2.2.2.2.2.2.2.2.1, u.2.2.2.2.2.2.2.2.2.2.2.2.2.2.2.2.2.1, u.2.2.2.2.2.2.2.2.2.2.2.2.2.2.2.2.2.2.1, u.2.2.2.2.2.2.2.2.2.2.2.2.2.2.2.2.2.2.2.1, u.2.2.2.2.2.2.2.2.2.2.2.2.2.2.2.2.2.2.2.2.1, u.2.2.2.2.2.2.2.2.2.2.2.2.2.2.2.2.2.2.2.2.2) → wp_X10_next u post := by
  have hn := hT.1
  refine run_ind (P := Ps) (T := T) (by decide) ?_ ?_
  · intro p hpn hc u hu h3 hp
    rw [show sk T n p = p from ru_stop hc, ← h3] at hp
    rw [Ps_not] at hc
    have hb : ∀ (pst : Int32 → S_X10 → Prop), pst (bv (bc T n p)) u → wp_X10_byteAt u u.2.2.2.2.1 pst := by
      intro pst hps
      rw [h3]
      exact q_byteAt hT hu (by omega) hps
    refine zl_exit (fun K => hb _ ⟨fun _ => hb _ hp, fun q => absurd ((bv_eq (bc_lt hT p) (k := 32) (by omega)).mp q) hc⟩)
  · intro p hpn hc ih u hu h3 hp
    have hs : sk T n p = sk T n (p + 1) := ru_step hpn hc
    rw [hs] at hp
    rw [Ps_iff] at hc
    refine zl_step (s' := (u.1, u.2.1, u.2.2.1, u.2.2.2.1, (nI (p + 1)), u.2.2.2.2.2.1, u.2.2.2.2.2.2.1, u.2.2.2.2.2.2.2.1, u.2.2.2.2.2.2.2.2.1, u.2.2.2.2.2.2.2.2.2.1, u.2.2.2.2.2.2.2.2.2.2.1, u.2.2.2.2.2.2.2.2.2.2.2.1, u.2.2.2.2.2.2.2.2.2.2.2.2.1, u.2.2.2.2.2.2.2.2.2.2.2.2.2.1, u.2.2.2.2.2.2.2.2.2.2.2.2.2.2.1, u.2.2.2.2.2.2.2.2.2.2.2.2.2.2.2.1, u.2.2.2.2.2.2.2.2.2.2.2.2.2.2.2.2.1, u.2.2.2.2.2.2.2.2.2.2.2.2.2.2.2.2.2.1, u.2.2.2.2.2.2.2.2.2.2.2.2.2.2.2.2.2.2.1, u.2.2.2.2.2.2.2.2.2.2.2.2.2.2.2.2.2.2.2.1, u.2.2.2.2.2.2.2.2.2.2.2.2.2.2.2.2.2.2.2.2.1, u.2.2.2.2.2.2.2.2.2.2.2.2.2.2.2.2.2.2.2.2.2)) (fun K hK => ?_) ?_
    · show wp_X10_byteAt u u.2.2.2.2.1 _
      rw [h3]
      refine q_byteAt hT hu (by omega) ⟨fun q => absurd ((bv_eq (bc_lt hT p) (k := 32) (by omega)).mpr hc) q, fun _ x6 e6 => ?_⟩
      rw [h3, ix_1] at e6
      subst e6
      exact hK
    · exact ih (u.1, u.2.1, u.2.2.1, u.2.2.2.1, (nI (p + 1)), u.2.2.2.2.2.1, u.2.2.2.2.2.2.1, u.2.2.2.2.2.2.2.1, u.2.2.2.2.2.2.2.2.1, u.2.2.2.2.2.2.2.2.2.1, u.2.2.2.2.2.2.2.2.2.2.1, u.2.2.2.2.2.2.2.2.2.2.2.1, u.2.2.2.2.2.2.2.2.2.2.2.2.1, u.2.2.2.2.2.2.2.2.2.2.2.2.2.1, u.2.2.2.2.2.2.2.2.2.2.2.2.2.2.1, u.2.2.2.2.2.2.2.2.2.2.2.2.2.2.2.1, u.2.2.2.2.2.2.2.2.2.2.2.2.2.2.2.2.1, u.2.2.2.2.2.2.2.2.2.2.2.2.2.2.2.2.2.1, u.2.2.2.2.2.2.2.2.2.2.2.2.2.2.2.2.2.2.1, u.2.2.2.2.2.2.2.2.2.2.2.2.2.2.2.2.2.2.2.1, u.2.2.2.2.2.2.2.2.2.2.2.2.2.2.2.2.2.2.2.2.1, u.2.2.2.2.2.2.2.2.2.2.2.2.2.2.2.2.2.2.2.2.2) hu rfl hp
