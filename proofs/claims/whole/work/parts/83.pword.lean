/-! Words. -/
def wd (T : Nat → Int32) (n q : Nat) (w : List Int32) : Prop := (∀ i, i < w.length → bc T n (q + i) = (w.getD i 0).toNatClampNeg) ∧ Pl (bc T n (q + w.length)) = false
def wOK (w : List Int32) : Bool := decide (0 < w.length) && (decide (w.length ≤ 20) && w.all (fun c => decide (c &&& 255 = nI c.toNatClampNeg) && decide (97 ≤ c.toNatClampNeg ∧ c.toNatClampNeg ≤ 122)))
theorem wOK_f {w : List Int32} (h : wOK w = true) : 0 < w.length ∧ w.length ≤ 20 ∧ ∀ i, i < w.length → w.getD i 0 &&& 255 = nI (w.getD i 0).toNatClampNeg ∧ 97 ≤ (w.getD i 0).toNatClampNeg ∧ (w.getD i 0).toNatClampNeg ≤ 122 := by
  unfold wOK at h
  rw [Bool.and_eq_true, Bool.and_eq_true, List.all_eq_true] at h
  obtain ⟨a, b, c⟩ := h
  refine ⟨of_decide_eq_true a, of_decide_eq_true b, fun i hi => ?_⟩
  have e : w.getD i 0 = w[i] := by simp [List.getD, hi]
  rw [e]
  have h1 := c w[i] (List.getElem_mem hi)
  rw [Bool.and_eq_true] at h1
  exact ⟨of_decide_eq_true h1.1, of_decide_eq_true h1.2⟩
theorem allF_iff {p : Nat → Bool} : ∀ {n : Nat}, allF p n = true ↔ ∀ k, k < n → p k = true := by
  intro n
  constructor
  · intro h k hk
    cases hp : p k with
    | true => rfl
    | false => rw [allF_false hp hk] at h; exact absurd h (by decide)
  · intro h; exact allF_true h
section
variable {T B : Nat → Int32} {n : Nat}
theorem wd_let {q : Nat} {w : List Int32} (hw : wOK w = true) (h : wd T n q w) : Pl (bc T n q) = true ∧ ru Pl T n q = q + w.length ∧ q + w.length ≤ n := by
  obtain ⟨w1, w2, w3⟩ := wOK_f hw
  have hl : ∀ i, i < w.length → Pl (bc T n (q + i)) = true := by
    intro i hi
    rw [h.1 i hi, Pl_iff]
    exact (w3 i hi).2
  have h0 := hl 0 w1
  rw [Nat.add_zero] at h0
  have e := ru_eq (P := Pl) (T := T) (n := n) (by decide) w.length q hl h.2
  have q9 : q < n := bc_ne (T := T) (fun e9 => by rw [e9] at h0; exact absurd h0 (by decide))
  have := ru_le (P := Pl) (T := T) (n := n) (by decide) q (by omega)
  exact ⟨h0, e, by omega⟩
theorem te_let (hT : tx T B n) {q : Nat} (h : Pl (bc T n q) = true) : te T n q = ru Pl T n q := by
  have q9 : ¬ bc T n q = 999 := fun e => by rw [e] at h; exact absurd h (by decide)
  have qd : ¬ Pd (bc T n q) = true := fun e => by rw [Pd_iff] at e; rw [Pl_iff] at h; omega
  unfold te
  rw [if_neg q9, if_neg qd, if_pos h]
theorem g_isWord (hT : tx T B n) {q : Nat} {x : S_X5} (h : tk T n q x) {w : List Int32} (hw : wOK w = true) {post : Int32 → S_X5 → Prop} (hy : wd T n q w → post 1 x) (hn : ¬ wd T n q w → post 0 x) : wp_X5_isWord w x post := by
  have hn8 := hT.1
  obtain ⟨w1, w2, w3⟩ := wOK_f hw
  obtain ⟨t1, t2, t3, t4, t5, t6, t7, t8, -⟩ := id h
  have elen : Int32.ofNat w.length = nI w.length := rfl
  refine ⟨fun q1 => hn (fun hd => q1 ?_), fun q1 => ⟨fun q2 => ?_, fun q2 => hn (fun hd => q2 ?_)⟩⟩
  · rw [t7]; exact (kd_let (bc_lt hT q)).mpr (wd_let hw hd).1
  · rw [t7, kd_let (bc_lt hT q)] at q1
    have hru := ru_le (P := Pl) (T := T) (n := n) (by decide) q t6
    rw [t8, te_let hT q1, t5, pk_sub hru.1, elen, eq_nI (by omega) (by omega)] at q2
    have hin := ru_in (P := Pl) (T := T) (n := n) (by decide) q t6
    have hend := ru_end (P := Pl) (T := T) (n := n) (by decide) q t6
    have eru : ru Pl T n q = q + w.length := by omega
    have hwd : (∀ i, i < w.length → bc T n (q + i) = (w.getD i 0).toNatClampNeg) → wd T n q w := fun ha => ⟨ha, by rw [← eru]; exact hend⟩
    have hstep : ∀ k, k < w.length → (x.1 (x.2.2.2.2.2.1 + nI k).toNatClampNeg = (w.getD (nI k).toNatClampNeg 0 &&& 255) ↔ bc T n (q + k) = (w.getD k 0).toNatClampNeg) ∧ vp_in (x.2.2.2.2.2.1 + nI k) 800 ∧ vp_in (nI k) w.length := by
      intro k hk
      have hl := hin (q + k) (by omega) (by omega)
      rw [bc_in (by omega), Pl_iff] at hl
      have hf := (by_facts (hT.2 (q + k) (by omega)).1).2.2.2.2.2 (by omega)
      have w3k := w3 k hk
      rw [t5, nI_add, cl_nI (by omega), cl_nI (by omega), t1, bc_in (by omega), hf, w3k.1]
      have e9 : bt (nI (bt (T (q + k)))) = bt (T (q + k)) := by rw [← hf]
      rw [e9]
      exact ⟨eq_nI (by omega) (by omega), in_of (by omega) (by omega), in_of hk (by omega)⟩
    refine zl_all (fun k => (nI k, x)) (fun k => decide (bc T n (q + k) = (w.getD k 0).toNatClampNeg)) w.length (fun r => post r x) rfl ?_ ?_ ?_ ?_
    · intro k hk hp K hK
      obtain ⟨s1, s2, s3⟩ := hstep k hk
      refine ⟨fun q3 => ?_, fun _ => ⟨s2, s3, fun _ x13 e13 => ?_, fun q3 => absurd (s1.mpr (of_decide_eq_true hp)) q3⟩⟩
      · dsimp only at q3
        rw [elen, le_nI (by omega) (by omega)] at q3; omega
      · dsimp only at e13
        rw [ix_1] at e13
        subst e13
        exact hK
    · intro k hk hp hQ K
      obtain ⟨s1, s2, s3⟩ := hstep k hk
      refine ⟨fun q3 => ?_, fun _ => ⟨s2, s3, fun q3 => absurd (s1.mp q3) (of_decide_eq_false hp), fun _ => hQ⟩⟩
      dsimp only at q3
      rw [elen, le_nI (by omega) (by omega)] at q3; omega
    · intro hQ K
      refine ⟨fun _ => hQ, fun q3 => ?_⟩
      exact absurd (show Int32.ofNat w.length ≤ nI w.length from (le_nI (by omega) (by omega)).mpr (Nat.le_refl _)) q3
    · cases hal : allF (fun k => decide (bc T n (q + k) = (w.getD k 0).toNatClampNeg)) w.length with
      | true =>
        rw [allF_iff] at hal
        exact hy (hwd (fun i hi => of_decide_eq_true (hal i hi)))
      | false =>
        refine hn (fun hd => ?_)
        have := (allF_iff (p := fun k => decide (bc T n (q + k) = (w.getD k 0).toNatClampNeg)) (n := w.length)).mpr (fun i hi => decide_eq_true (hd.1 i hi))
        rw [hal] at this
        exact absurd this (by decide)
  · obtain ⟨d1, d2, d3⟩ := wd_let hw hd
    rw [t8, te_let hT d1, d2, t5, pk_sub (by omega), elen]
    congr 1
    omega
theorem g_takeWord (hT : tx T B n) {q : Nat} {x : S_X5} (h : tk T n q x) {w : List Int32} (hw : wOK w = true) {post : Int32 → S_X5 → Prop} (hy : wd T n q w → ∀ x', tk T n (sk T n (q + w.length)) x' → post 1 x') (hn : ¬ wd T n q w → post 0 x) : wp_X5_takeWord w x post := by
  refine g_isWord hT h hw (fun hd => ⟨fun q1 => absurd q1 (by decide), fun _ => ?_⟩) (fun hd => ⟨fun _ => ⟨nb0, hn hd⟩, fun q1 => absurd rfl q1⟩)
  obtain ⟨d1, d2, d3⟩ := wd_let hw hd
  exact q_advance hT (q + w.length) d3 x (tk_tt h) (by rw [h.2.2.2.2.2.2.2.1, te_let hT d1, d2]) (fun x' hx => ⟨nb1, hy hd x' hx⟩)
theorem r_takeWord (hT : tx T B n) {u : S_X10} {p : Nat} (hu : mt B n u) (h0 : u.2.2.2.2.2.1 = 0) (hpn : p ≤ n) (hp : u.2.2.2.2.1 = nI p) {w : List Int32} (hw : wOK w = true) {post : Int32 → S_X10 → Prop} (hy : wd T n (sk T n p) w → post 1 (u.1, u.2.1, u.2.2.1, u.2.2.2.1, (nI (sk T n p + w.length)), u.2.2.2.2.2.1, u.2.2.2.2.2.2.1, u.2.2.2.2.2.2.2.1, u.2.2.2.2.2.2.2.2.1, u.2.2.2.2.2.2.2.2.2.1, u.2.2.2.2.2.2.2.2.2.2.1, u.2.2.2.2.2.2.2.2.2.2.2.1, u.2.2.2.2.2.2.2.2.2.2.2.2.1, u.2.2.2.2.2.2.2.2.2.2.2.2.2.1, u.2.2.2.2.2.2.2.2.2.2.2.2.2.2.1, u.2.2.2.2.2.2.2.2.2.2.2.2.2.2.2.1, u.2.2.2.2.2.2.2.2.2.2.2.2.2.2.2.2.1, u.2.2.2.2.2.2.2.2.2.2.2.2.2.2.2.2.2.1, u.2.2.2.2.2.2.2.2.2.2.2.2.2.2.2.2.2.2.1, u.2.2.2.2.2.2.2.2.2.2.2.2.2.2.2.2.2.2.2.1, u.2.2.2.2.2.2.2.2.2.2.2.2.2.2.2.2.2.2.2.2.1, u.2.2.2.2.2.2.2.2.2.2.2.2.2.2.2.2.2.2.2.2.2)) (hn : ¬ wd T n (sk T n p) w → post 0 (u.1, u.2.1, u.2.2.1, u.2.2.2.1, (nI (sk T n p)), u.2.2.2.2.2.1, u.2.2.2.2.2.2.1, u.2.2.2.2.2.2.2.1, u.2.2.2.2.2.2.2.2.1, u.2.2.2.2.2.2.2.2.2.1, u.2.2.2.2.2.2.2.2.2.2.1, u.2.2.2.2.2.2.2.2.2.2.2.1, u.2.2.2.2.2.2.2.2.2.2.2.2.1, u.2.2.2.2.2.2.2.2.2.2.2.2.2.1, u.2.2.2.2.2.2.2.2.2.2.2.2.2.2.1, u.2.2.2.2.2.2.2.2.2.2.2.2.2.2.2.1, u.2.2.2.2.2.2.2.2.2.2.2.2.2.2.2.2.1, u.2.2.2.2.2.2.2.2.2.2.2.2.2.2.2.2.2.1, u.2.2.2.2.2.2.2.2.2.2.2.2.2.2.2.2.2.2.1, u.2.2.2.2.2.2.2.2.2.2.2.2.2.2.2.2.2.2.2.1, u.2.2.2.2.2.2.2.2.2.2.2.2.2.2.2.2.2.2.2.2.1, u.2.2.2.2.2.2.2.2.2.2.2.2.2.2.2.2.2.2.2.2.2)) : wp_X10_takeWord w u post := by
  have hn8 := hT.1
  obtain ⟨w1, w2, w3⟩ := wOK_f hw
  have hq := sk_le (T := T) hpn
  have elen : Int32.ofNat w.length = nI w.length := rfl
  refine r_good h0 ⟨fun _ => q_next hT p hpn u hu hp ?_, fun q1 => absurd q1 (by decide)⟩
  have hu1 : mt B n (u.1, u.2.1, u.2.2.1, u.2.2.2.1, (nI (sk T n p)), u.2.2.2.2.2.1, u.2.2.2.2.2.2.1, u.2.2.2.2.2.2.2.1, u.2.2.2.2.2.2.2.2.1, u.2.2.2.2.2.2.2.2.2.1, u.2.2.2.2.2.2.2.2.2.2.1, u.2.2.2.2.2.2.2.2.2.2.2.1, u.2.2.2.2.2.2.2.2.2.2.2.2.1, u.2.2.2.2.2.2.2.2.2.2.2.2.2.1, u.2.2.2.2.2.2.2.2.2.2.2.2.2.2.1, u.2.2.2.2.2.2.2.2.2.2.2.2.2.2.2.1, u.2.2.2.2.2.2.2.2.2.2.2.2.2.2.2.2.1, u.2.2.2.2.2.2.2.2.2.2.2.2.2.2.2.2.2.1, u.2.2.2.2.2.2.2.2.2.2.2.2.2.2.2.2.2.2.1, u.2.2.2.2.2.2.2.2.2.2.2.2.2.2.2.2.2.2.2.1, u.2.2.2.2.2.2.2.2.2.2.2.2.2.2.2.2.2.2.2.2.1, u.2.2.2.2.2.2.2.2.2.2.2.2.2.2.2.2.2.2.2.2.2) := hu
  have hby : ∀ k, k ≤ 20 → ∀ (pst : Int32 → S_X10 → Prop), pst (bv (bc T n (sk T n p + k))) (u.1, u.2.1, u.2.2.1, u.2.2.2.1, (nI (sk T n p)), u.2.2.2.2.2.1, u.2.2.2.2.2.2.1, u.2.2.2.2.2.2.2.1, u.2.2.2.2.2.2.2.2.1, u.2.2.2.2.2.2.2.2.2.1, u.2.2.2.2.2.2.2.2.2.2.1, u.2.2.2.2.2.2.2.2.2.2.2.1, u.2.2.2.2.2.2.2.2.2.2.2.2.1, u.2.2.2.2.2.2.2.2.2.2.2.2.2.1, u.2.2.2.2.2.2.2.2.2.2.2.2.2.2.1, u.2.2.2.2.2.2.2.2.2.2.2.2.2.2.2.1, u.2.2.2.2.2.2.2.2.2.2.2.2.2.2.2.2.1, u.2.2.2.2.2.2.2.2.2.2.2.2.2.2.2.2.2.1, u.2.2.2.2.2.2.2.2.2.2.2.2.2.2.2.2.2.2.1, u.2.2.2.2.2.2.2.2.2.2.2.2.2.2.2.2.2.2.2.1, u.2.2.2.2.2.2.2.2.2.2.2.2.2.2.2.2.2.2.2.2.1, u.2.2.2.2.2.2.2.2.2.2.2.2.2.2.2.2.2.2.2.2.2) → wp_X10_byteAt (u.1, u.2.1, u.2.2.1, u.2.2.2.1, (nI (sk T n p)), u.2.2.2.2.2.1, u.2.2.2.2.2.2.1, u.2.2.2.2.2.2.2.1, u.2.2.2.2.2.2.2.2.1, u.2.2.2.2.2.2.2.2.2.1, u.2.2.2.2.2.2.2.2.2.2.1, u.2.2.2.2.2.2.2.2.2.2.2.1, u.2.2.2.2.2.2.2.2.2.2.2.2.1, u.2.2.2.2.2.2.2.2.2.2.2.2.2.1, u.2.2.2.2.2.2.2.2.2.2.2.2.2.2.1, u.2.2.2.2.2.2.2.2.2.2.2.2.2.2.2.1, u.2.2.2.2.2.2.2.2.2.2.2.2.2.2.2.2.1, u.2.2.2.2.2.2.2.2.2.2.2.2.2.2.2.2.2.1, u.2.2.2.2.2.2.2.2.2.2.2.2.2.2.2.2.2.2.1, u.2.2.2.2.2.2.2.2.2.2.2.2.2.2.2.2.2.2.2.1, u.2.2.2.2.2.2.2.2.2.2.2.2.2.2.2.2.2.2.2.2.1, u.2.2.2.2.2.2.2.2.2.2.2.2.2.2.2.2.2.2.2.2.2) (nI (sk T n p) + nI k) pst := by
    intro k hk pst hps
    rw [nI_add]
    exact q_byteAt hT hu1 (by omega) hps
  have hst : ∀ k, k < w.length → (bv (bc T n (sk T n p + k)) = (w.getD (nI k).toNatClampNeg 0 &&& 255) ↔ bc T n (sk T n p + k) = (w.getD k 0).toNatClampNeg) := by
    intro k hk
    rw [cl_nI (by omega), (w3 k hk).1]
    exact bv_eq (bc_lt hT _) (by have := (w3 k hk).2; omega)
  refine zl_all (fun k => (nI k, (u.1, u.2.1, u.2.2.1, u.2.2.2.1, (nI (sk T n p)), u.2.2.2.2.2.1, u.2.2.2.2.2.2.1, u.2.2.2.2.2.2.2.1, u.2.2.2.2.2.2.2.2.1, u.2.2.2.2.2.2.2.2.2.1, u.2.2.2.2.2.2.2.2.2.2.1, u.2.2.2.2.2.2.2.2.2.2.2.1, u.2.2.2.2.2.2.2.2.2.2.2.2.1, u.2.2.2.2.2.2.2.2.2.2.2.2.2.1, u.2.2.2.2.2.2.2.2.2.2.2.2.2.2.1, u.2.2.2.2.2.2.2.2.2.2.2.2.2.2.2.1, u.2.2.2.2.2.2.2.2.2.2.2.2.2.2.2.2.1, u.2.2.2.2.2.2.2.2.2.2.2.2.2.2.2.2.2.1, u.2.2.2.2.2.2.2.2.2.2.2.2.2.2.2.2.2.2.1, u.2.2.2.2.2.2.2.2.2.2.2.2.2.2.2.2.2.2.2.1, u.2.2.2.2.2.2.2.2.2.2.2.2.2.2.2.2.2.2.2.2.1, u.2.2.2.2.2.2.2.2.2.2.2.2.2.2.2.2.2.2.2.2.2))) (fun k => decide (bc T n (sk T n p + k) = (w.getD k 0).toNatClampNeg)) w.length (fun r => (r = 0 → post 0 (u.1, u.2.1, u.2.2.1, u.2.2.2.1, (nI (sk T n p)), u.2.2.2.2.2.1, u.2.2.2.2.2.2.1, u.2.2.2.2.2.2.2.1, u.2.2.2.2.2.2.2.2.1, u.2.2.2.2.2.2.2.2.2.1, u.2.2.2.2.2.2.2.2.2.2.1, u.2.2.2.2.2.2.2.2.2.2.2.1, u.2.2.2.2.2.2.2.2.2.2.2.2.1, u.2.2.2.2.2.2.2.2.2.2.2.2.2.1, u.2.2.2.2.2.2.2.2.2.2.2.2.2.2.1, u.2.2.2.2.2.2.2.2.2.2.2.2.2.2.2.1, u.2.2.2.2.2.2.2.2.2.2.2.2.2.2.2.2.1, u.2.2.2.2.2.2.2.2.2.2.2.2.2.2.2.2.2.1, u.2.2.2.2.2.2.2.2.2.2.2.2.2.2.2.2.2.2.1, u.2.2.2.2.2.2.2.2.2.2.2.2.2.2.2.2.2.2.2.1, u.2.2.2.2.2.2.2.2.2.2.2.2.2.2.2.2.2.2.2.2.1, u.2.2.2.2.2.2.2.2.2.2.2.2.2.2.2.2.2.2.2.2.2)) ∧ (r = 1 → j_X10_takeWord_48 w (nI w.length) (u.1, u.2.1, u.2.2.1, u.2.2.2.1, (nI (sk T n p)), u.2.2.2.2.2.1, u.2.2.2.2.2.2.1, u.2.2.2.2.2.2.2.1, u.2.2.2.2.2.2.2.2.1, u.2.2.2.2.2.2.2.2.2.1, u.2.2.2.2.2.2.2.2.2.2.1, u.2.2.2.2.2.2.2.2.2.2.2.1, u.2.2.2.2.2.2.2.2.2.2.2.2.1, u.2.2.2.2.2.2.2.2.2.2.2.2.2.1, u.2.2.2.2.2.2.2.2.2.2.2.2.2.2.1, u.2.2.2.2.2.2.2.2.2.2.2.2.2.2.2.1, u.2.2.2.2.2.2.2.2.2.2.2.2.2.2.2.2.1, u.2.2.2.2.2.2.2.2.2.2.2.2.2.2.2.2.2.1, u.2.2.2.2.2.2.2.2.2.2.2.2.2.2.2.2.2.2.1, u.2.2.2.2.2.2.2.2.2.2.2.2.2.2.2.2.2.2.2.1, u.2.2.2.2.2.2.2.2.2.2.2.2.2.2.2.2.2.2.2.2.1, u.2.2.2.2.2.2.2.2.2.2.2.2.2.2.2.2.2.2.2.2.2) post)) rfl ?_ ?_ ?_ ?_
  · intro k hk hp K hK
    refine ⟨fun q3 => ?_, fun _ => hby k (by omega) _ ⟨in_of hk (by omega), fun q3 => absurd ((hst k hk).mpr (of_decide_eq_true hp)) q3, fun _ x15 e15 => ?_⟩⟩
    · dsimp only at q3
      rw [elen, le_nI (by omega) (by omega)] at q3; omega
    · dsimp only at e15
      rw [ix_1] at e15
      subst e15
      exact hK
  · intro k hk hp hQ K
    refine ⟨fun q3 => ?_, fun _ => hby k (by omega) _ ⟨in_of hk (by omega), fun _ => ⟨fun _ => hQ.1 rfl, fun q3 => ?_⟩, fun q3 => absurd ((hst k hk).mp q3) (of_decide_eq_false hp)⟩⟩
    · dsimp only at q3
      rw [elen, le_nI (by omega) (by omega)] at q3; omega
    · exact absurd (show nI k < Int32.ofNat w.length from nI_lt hk (by omega)) q3
  · intro hQ K
    refine ⟨fun _ => hQ.2 rfl, fun q3 => ?_⟩
    exact absurd (show Int32.ofNat w.length ≤ nI w.length from (le_nI (by omega) (by omega)).mpr (Nat.le_refl _)) q3
  · cases hal : allF (fun k => decide (bc T n (sk T n p + k) = (w.getD k 0).toNatClampNeg)) w.length with
    | true =>
      rw [allF_iff] at hal
      refine ⟨fun q1 => absurd q1 (by decide), fun _ => ⟨fun q1 => ?_, fun _ => hby w.length w2 _ (q_bin (lo := 97) (hi := 122) (bc_lt hT _) (by omega) (by omega) ?_)⟩⟩
      · rw [elen, lt_nI (by omega) (by omega)] at q1; omega
      · cases hl : decide (97 ≤ bc T n (sk T n p + w.length) ∧ bc T n (sk T n p + w.length) ≤ 122) with
        | true =>
          refine ⟨fun q1 => absurd q1 (by decide), fun _ => hn (fun hd => ?_)⟩
          have h9 := hd.2
          unfold Pl at h9
          rw [hl] at h9
          exact absurd h9 (by decide)
        | false =>
          refine ⟨fun _ x24 e24 => ?_, fun q1 => absurd rfl q1⟩
          dsimp only at e24
          rw [nI_add] at e24
          subst e24
          exact hy ⟨fun i hi => of_decide_eq_true (hal i hi), hl⟩
    | false =>
      refine ⟨fun _ => hn (fun hd => ?_), fun q1 => absurd q1 (by decide)⟩
      have := (allF_iff (p := fun k => decide (bc T n (sk T n p + k) = (w.getD k 0).toNatClampNeg)) (n := w.length)).mpr (fun i hi => decide_eq_true (hd.1 i hi))
      rw [hal] at this
      exact absurd this (by decide)
end
