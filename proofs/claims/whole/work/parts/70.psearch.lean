/-! The search for the best waivers. -/
/-- what is the same through a search: m breaches, v waivers, gap G, candidates cd (a Bool a breach), all in x, and the reference's rows -/
def cdB (x : S_X1) (m v G b : Nat) : Bool := (!decide (x.2.2.2.2.2.1 b ≤ 0)) && cwB x m v G b
def cix (x : S_X1) (m v G : Nat) (b : Nat) : Nat := fb_ct (cdB x m v G) b
/-- apart from those chosen -/
def ftP (x : S_X1) (G b : Nat) (cb : Nat → Nat) (k : Nat) : Bool := !decide (ad (pp x b) (pp x (cb k)) < G)
theorem q_fits {m v G size : Nat} {x : S_X1} (bb : bB m v x) (hG4 : G ≤ 40) (hsz : size ≤ 4) {b : Nat} (hb : b < m) (u0 : S_X8) (hg : u0.2.2.2.1 = nI G) (cb : Nat → Nat) (hc : ∀ k, k < size → u0.2.2.2.2.1 k = nI (cb k) ∧ cb k < m) {post : Int32 → S_X8 × S_X1 → Prop} (h : post (b1 (allF (ftP x G b cb) size)) (u0, x)) : wp_X8_fits u0 x (nI b) (nI size) post := by
  have hm := bb.1
  unfold wp_X8_fits
  refine zl_all (fun k => (nI b, nI size, nI k, u0, x)) (ftP x G b cb) size (fun r => post r (u0, x)) rfl ?_ ?_ ?_ h
  · intro k hk hp K hK
    obtain ⟨ec, lc⟩ := hc k hk
    have hl : ad (pp x b) (pp x (cb k)) < 100 := by have h1 := (pp_is bb lc).2; have h2 := (pp_is bb hb).2; unfold ad; omega
    refine ⟨fun q => ?_, fun _ => ⟨in_of (by omega) (by omega), ?_⟩⟩
    · dsimp only at q
      rw [le_nI (by omega) (by omega)] at q; omega
    · dsimp only
      rw [cl_nI (by omega), ec]
      refine q_dist bb hb lc ⟨fun q x6 e6 => ?_, fun q => ?_⟩
      · rw [ix_1] at e6
        subst e6
        exact hK
      · rw [hg, le_nI (by omega) (by omega)] at q
        unfold ftP at hp
        rw [decide_eq_true (show ad (pp x b) (pp x (cb k)) < G by omega)] at hp
        cases hp
  · intro k hk hp hQ K
    obtain ⟨ec, lc⟩ := hc k hk
    have hl : ad (pp x b) (pp x (cb k)) < 100 := by have h1 := (pp_is bb lc).2; have h2 := (pp_is bb hb).2; unfold ad; omega
    refine ⟨fun q => ?_, fun _ => ⟨in_of (by omega) (by omega), ?_⟩⟩
    · dsimp only at q
      rw [le_nI (by omega) (by omega)] at q; omega
    · dsimp only
      rw [cl_nI (by omega), ec]
      refine q_dist bb hb lc ⟨fun q => ?_, fun _ => hQ⟩
      rw [hg, le_nI (by omega) (by omega)] at q
      unfold ftP at hp
      rw [decide_eq_false (show ¬ ad (pp x b) (pp x (cb k)) < G by omega)] at hp
      cases hp
  · intro hQ K
    refine ⟨fun _ => hQ, fun q => ?_⟩
    dsimp only at q
    rw [le_nI (by omega) (by omega)] at q; omega
/-- the reference's loop over those made -/
theorem q_made {m v G size : Nat} {x : S_X1} {u : S_X10} (bb : bB m v x) (rb : rB m x u.2.2.2.2.2.2.2.2.1) (hG : u.2.2.2.2.2.2.2.2.1 10 = nI G) (hG4 : G ≤ 40) (hsz : size ≤ 4) {b : Nat} (hb : b < m) (cb : Nat → Nat) (hc : ∀ k, k < size → u.2.2.2.2.2.2.2.2.2.2.2.2.2.2.2.2.2.2.2.1 k = nI (cb k) ∧ cb k < m) (y : Bool) (K59 : Int32 × Int32 × Int32 × S_X10 → Prop) (REC : S_X10 → Int32 → Int32 → Int32 → (S_X10 → Prop) → Prop) (sm : Int32) (post : S_X10 → Prop)
    (h1 : (y && allF (ftP x G b cb) size) = true → REC (u.1, u.2.1, u.2.2.1, u.2.2.2.1, u.2.2.2.2.1, u.2.2.2.2.2.1, u.2.2.2.2.2.2.1, u.2.2.2.2.2.2.2.1, u.2.2.2.2.2.2.2.2.1, u.2.2.2.2.2.2.2.2.2.1, u.2.2.2.2.2.2.2.2.2.2.1, u.2.2.2.2.2.2.2.2.2.2.2.1, u.2.2.2.2.2.2.2.2.2.2.2.2.1, u.2.2.2.2.2.2.2.2.2.2.2.2.2.1, u.2.2.2.2.2.2.2.2.2.2.2.2.2.2.1, u.2.2.2.2.2.2.2.2.2.2.2.2.2.2.2.1, u.2.2.2.2.2.2.2.2.2.2.2.2.2.2.2.2.1, u.2.2.2.2.2.2.2.2.2.2.2.2.2.2.2.2.2.1, u.2.2.2.2.2.2.2.2.2.2.2.2.2.2.2.2.2.2.1, (upd u.2.2.2.2.2.2.2.2.2.2.2.2.2.2.2.2.2.2.2.1 size (nI b)), u.2.2.2.2.2.2.2.2.2.2.2.2.2.2.2.2.2.2.2.2.1, u.2.2.2.2.2.2.2.2.2.2.2.2.2.2.2.2.2.2.2.2.2) (nI (size + 1)) (nI (b + 1)) (sm + x.2.2.2.2.2.1 b) (fun w => j_X10_trySets_186 K59 REC (nI size) sm (nI b) w post)) (h2 : (y && allF (ftP x G b cb) size) = false → j_X10_trySets_186 K59 REC (nI size) sm (nI b) u post) : j_X10_trySets_100 K59 REC (nI size) sm (nI b) (b1 y) u post := by
  have hm := bb.1
  unfold j_X10_trySets_100
  refine zl_seq (fun k => (nI size, sm, nI b, b1 (y && allF (ftP x G b cb) k), nI k, u)) size ?_ ?_ ?_
  · show _ = (nI size, sm, nI b, b1 (y && true), nI 0, u)
    rw [Bool.and_true]; rfl
  · intro k hk K hK
    obtain ⟨ec, lc⟩ := hc k hk
    refine ⟨fun q => ?_, fun _ => ⟨fun q => ?_, fun q => ⟨in_of (by omega) (by omega), ?_⟩⟩⟩
    · dsimp only at q
      rw [le_nI (by omega) (by omega)] at q; omega
    · dsimp only at q ⊢
      intro x32 e32
      rw [ix_1] at e32
      subst e32
      have e0 : (y && allF (ftP x G b cb) k) = false := by
        cases h9 : (y && allF (ftP x G b cb) k) with
        | false => rfl
        | true => rw [h9] at q; exact absurd q (by decide)
      have e1 : (y && allF (ftP x G b cb) (k + 1)) = false := by
        show (y && (allF (ftP x G b cb) k && ftP x G b cb k)) = false
        rw [← Bool.and_assoc, e0]; rfl
      rw [e1] at hK
      exact hK
    · dsimp only at q ⊢
      rw [cl_nI (by omega), ec]
      have e0 : (y && allF (ftP x G b cb) k) = true := by
        cases h9 : (y && allF (ftP x G b cb) k) with
        | true => rfl
        | false => rw [h9] at q; exact absurd rfl q
      have e1 : (y && allF (ftP x G b cb) (k + 1)) = ftP x G b cb k := by
        show (y && (allF (ftP x G b cb) k && ftP x G b cb k)) = _
        rw [← Bool.and_assoc, e0]; rfl
      rw [e1] at hK
      unfold ftP at hK
      rw [ad_comm] at hK
      refine q_apart bb rb hG hG4 lc hb ⟨fun q4 x32 e32 => ?_, fun q4 x32 e32 => ?_⟩
      · rw [ix_1] at e32
        subst e32
        cases h8 : (!decide (ad (pp x (cb k)) (pp x b) < G)) with
        | true => rw [h8] at q4; exact absurd q4 (by decide)
        | false => rw [h8] at hK; exact hK
      · rw [ix_1] at e32
        subst e32
        cases h8 : (!decide (ad (pp x (cb k)) (pp x b) < G)) with
        | true => rw [h8] at hK; exact hK
        | false => rw [h8] at q4; exact absurd rfl q4
  · intro K
    have i2 : (348 : Int32) + 4 * nI b + 2 = nI (350 + 4 * b) := by rw [ix_bre, ix_2]; congr 1; omega
    refine ⟨fun _ => ⟨fun q => ⟨in_of (by omega) (by omega), ?_⟩, fun q => ?_⟩, fun q => ?_⟩
    · dsimp only at q ⊢
      have e0 : (y && allF (ftP x G b cb) size) = true := by
        cases h9 : (y && allF (ftP x G b cb) size) with
        | true => rfl
        | false => rw [h9] at q; exact absurd rfl q
      unfold wp_X10_breach
      dsimp only
      rw [i2, cl_nI (by omega), cl_nI (by omega), ix_1, ix_1, ← (rb.2.2.2 b hb).2.2.1]
      exact ⟨in_of (by omega) (by omega), h1 e0⟩
    · dsimp only at q ⊢
      have e0 : (y && allF (ftP x G b cb) size) = false := by
        cases h9 : (y && allF (ftP x G b cb) size) with
        | false => rfl
        | true => rw [h9] at q; exact absurd q (by decide)
      exact h2 e0
    · dsimp only at q
      rw [le_nI (by omega) (by omega)] at q; omega
/-- the two searches' states side by side -/
def rW (m size : Nat) (cb : Nat → Nat) (ch bc ma be : Nat → Int32) (z : Nat) : Prop := (∀ k, k < size → ch k = nI (cb k) ∧ ma k = nI (cb k) ∧ cb k < m) ∧ z ≤ 4 ∧ ∀ k, k < z → bc k = be k
theorem p_upd {m size : Nat} {x : S_X1} (u0 : S_X8) (w0 : S_X10) (hsz : size ≤ 4) (sum : Int32) (cb : Nat → Nat) (ch bc ma be : Nat → Int32) (z : Nat) (s : Int32) (hW : rW m size cb ch bc ma be z) :
    ∃ (bc1 be1 : Nat → Int32) (z1 : Nat) (s1 : Int32), rW m size cb ch bc1 ma be1 z1 ∧
      (∀ (REC : S_X8 → S_X1 → Int32 → Int32 → Int32 → (S_X8 × S_X1 → Prop) → Prop) (b : Int32) (post : S_X8 × S_X1 → Prop), j_X8_extend_34 REC b (nI size) sum (u0.1, u0.2.1, u0.2.2.1, u0.2.2.2.1, ch, bc1, (nI z1), s1) x post → wp_X8_extendB REC (u0.1, u0.2.1, u0.2.2.1, u0.2.2.2.1, ch, bc, (nI z), s) x b (nI size) sum post) ∧
      (∀ (REC : S_X10 → Int32 → Int32 → Int32 → (S_X10 → Prop) → Prop) (b : Int32) (post : S_X10 → Prop), j_X10_trySets_47 REC (nI size) b sum (w0.1, w0.2.1, w0.2.2.1, w0.2.2.2.1, w0.2.2.2.2.1, w0.2.2.2.2.2.1, w0.2.2.2.2.2.2.1, w0.2.2.2.2.2.2.2.1, w0.2.2.2.2.2.2.2.2.1, w0.2.2.2.2.2.2.2.2.2.1, w0.2.2.2.2.2.2.2.2.2.2.1, w0.2.2.2.2.2.2.2.2.2.2.2.1, w0.2.2.2.2.2.2.2.2.2.2.2.2.1, w0.2.2.2.2.2.2.2.2.2.2.2.2.2.1, w0.2.2.2.2.2.2.2.2.2.2.2.2.2.2.1, w0.2.2.2.2.2.2.2.2.2.2.2.2.2.2.2.1, w0.2.2.2.2.2.2.2.2.2.2.2.2.2.2.2.2.1, w0.2.2.2.2.2.2.2.2.2.2.2.2.2.2.2.2.2.1, be1, ma, (nI z1), s1) post → wp_X10_trySetsB REC (w0.1, w0.2.1, w0.2.2.1, w0.2.2.2.1, w0.2.2.2.2.1, w0.2.2.2.2.2.1, w0.2.2.2.2.2.2.1, w0.2.2.2.2.2.2.2.1, w0.2.2.2.2.2.2.2.2.1, w0.2.2.2.2.2.2.2.2.2.1, w0.2.2.2.2.2.2.2.2.2.2.1, w0.2.2.2.2.2.2.2.2.2.2.2.1, w0.2.2.2.2.2.2.2.2.2.2.2.2.1, w0.2.2.2.2.2.2.2.2.2.2.2.2.2.1, w0.2.2.2.2.2.2.2.2.2.2.2.2.2.2.1, w0.2.2.2.2.2.2.2.2.2.2.2.2.2.2.2.1, w0.2.2.2.2.2.2.2.2.2.2.2.2.2.2.2.2.1, w0.2.2.2.2.2.2.2.2.2.2.2.2.2.2.2.2.2.1, be, ma, (nI z), s) (nI size) b sum post) := by
  obtain ⟨w1, w2, w3⟩ := hW
  by_cases hs : sum ≤ s
  · refine ⟨bc, be, z, s, ⟨w1, w2, w3⟩, ?_, ?_⟩
    · intro REC b post hp
      exact ⟨fun _ => hp, fun q => absurd hs q⟩
    · intro REC b post hp
      exact ⟨fun _ => hp, fun q => absurd hs q⟩
  · refine ⟨va_cpy ch bc 0 0 size, fun j => if j < size then ma j else be j, size, sum, ⟨w1, hsz, ?_⟩, ?_, ?_⟩
    · intro k hk
      dsimp only
      rw [cpy_in _ _ hk, if_pos hk, (w1 k hk).1, (w1 k hk).2.1]
    · intro REC b post hp
      have hcl : (nI size).toNatClampNeg = size := cl_nI (by omega)
      have hz : (0 : Int32).toNatClampNeg = 0 := by decide +kernel
      refine ⟨fun q => absurd q hs, fun _ => ⟨nI_pos (by omega), by rw [hcl, hz]; omega, by rw [hcl, hz]; omega, ?_⟩⟩
      rw [hcl]
      exact hp
    · intro REC b post hp
      refine ⟨fun q => absurd q hs, fun _ => ?_⟩
      refine zl_for (fun k v => (nI size, b, sum, nI k, (w0.1, w0.2.1, w0.2.2.1, w0.2.2.2.1, w0.2.2.2.2.1, w0.2.2.2.2.2.1, w0.2.2.2.2.2.2.1, w0.2.2.2.2.2.2.2.1, w0.2.2.2.2.2.2.2.2.1, w0.2.2.2.2.2.2.2.2.2.1, w0.2.2.2.2.2.2.2.2.2.2.1, w0.2.2.2.2.2.2.2.2.2.2.2.1, w0.2.2.2.2.2.2.2.2.2.2.2.2.1, w0.2.2.2.2.2.2.2.2.2.2.2.2.2.1, w0.2.2.2.2.2.2.2.2.2.2.2.2.2.2.1, w0.2.2.2.2.2.2.2.2.2.2.2.2.2.2.2.1, w0.2.2.2.2.2.2.2.2.2.2.2.2.2.2.2.2.1, w0.2.2.2.2.2.2.2.2.2.2.2.2.2.2.2.2.2.1, v, ma, (nI size), sum))) (fun k v => upd v k (ma k)) size be rfl ?_ ?_
      · intro k hk K hK
        refine ⟨fun q => ?_, fun _ => ⟨in_of (by omega) (by omega), fun x7 e7 => ⟨in_of (by omega) (by omega), fun x9 e9 => ?_⟩⟩⟩
        · dsimp only at q
          rw [le_nI (by omega) (by omega)] at q; omega
        · dsimp only at e7 e9 ⊢
          rw [cl_nI (by omega)] at e7 ⊢
          rw [ix_1] at e9
          subst e7 e9
          exact hK
      · intro K
        refine ⟨fun _ => ?_, fun q => ?_⟩
        · dsimp only
          rw [fo_fill]
          exact hp
        · dsimp only at q
          rw [le_nI (by omega) (by omega)] at q; omega
theorem rW_less {m size : Nat} {cb cb' : Nat → Nat} {ch bc ma be : Nat → Int32} {z : Nat} (h : rW m (size + 1) cb' ch bc ma be z) (hc : ∀ k, k < size → cb' k = cb k) : rW m size cb ch bc ma be z := by
  obtain ⟨w1, w2, w3⟩ := h
  refine ⟨fun k hk => ?_, w2, w3⟩
  obtain ⟨a1, a2, a3⟩ := w1 k (by omega)
  rw [hc k hk] at a1 a2 a3
  exact ⟨a1, a2, a3⟩
theorem p_search {m v G rem : Nat} {x : S_X1} (bb : bB m v x) (hr : x.1 = nI m) (hv4 : v ≤ 4) (hG4 : G ≤ 40) (hrem : rem = v - wct x m) (u0 : S_X8) (hcn : u0.2.1 = nI (cix x m v G m)) (hlim : u0.2.2.1 = nI rem) (hg : u0.2.2.2.1 = nI G) (hcd : ∀ b, b < m → cdB x m v G b = true → u0.1 (cix x m v G b) = nI b)
    (w0 : S_X10) (rb : rB m x w0.2.2.2.2.2.2.2.2.1) (hdv : w0.2.2.2.2.2.2.2.2.1 9 = nI v) (hdG : w0.2.2.2.2.2.2.2.2.1 10 = nI G) :
    ∀ (h size : Nat), size + h = rem → ∀ (b : Nat), b ≤ m → ∀ (sum : Int32) (cb : Nat → Nat) (ch bc ma be : Nat → Int32) (z : Nat) (s : Int32), rW m size cb ch bc ma be z →
      ∃ (ch' bc' ma' be' : Nat → Int32) (z' : Nat) (s' : Int32), rW m size cb ch' bc' ma' be' z' ∧
        (∀ (n : Nat), h + 1 ≤ n → ∀ post : S_X8 × S_X1 → Prop, post ((u0.1, u0.2.1, u0.2.2.1, u0.2.2.2.1, ch', bc', (nI z'), s'), x) → wp_X8_extend n (u0.1, u0.2.1, u0.2.2.1, u0.2.2.2.1, ch, bc, (nI z), s) x (nI (cix x m v G b)) (nI size) sum post) ∧
        (∀ (n : Nat), h + 1 ≤ n → ∀ post : S_X10 → Prop, post (w0.1, w0.2.1, w0.2.2.1, w0.2.2.2.1, w0.2.2.2.2.1, w0.2.2.2.2.2.1, w0.2.2.2.2.2.2.1, w0.2.2.2.2.2.2.2.1, w0.2.2.2.2.2.2.2.2.1, w0.2.2.2.2.2.2.2.2.2.1, w0.2.2.2.2.2.2.2.2.2.2.1, w0.2.2.2.2.2.2.2.2.2.2.2.1, w0.2.2.2.2.2.2.2.2.2.2.2.2.1, w0.2.2.2.2.2.2.2.2.2.2.2.2.2.1, w0.2.2.2.2.2.2.2.2.2.2.2.2.2.2.1, w0.2.2.2.2.2.2.2.2.2.2.2.2.2.2.2.1, w0.2.2.2.2.2.2.2.2.2.2.2.2.2.2.2.2.1, w0.2.2.2.2.2.2.2.2.2.2.2.2.2.2.2.2.2.1, be', ma', (nI z'), s') → wp_X10_trySets n (w0.1, w0.2.1, w0.2.2.1, w0.2.2.2.1, w0.2.2.2.2.1, w0.2.2.2.2.2.1, w0.2.2.2.2.2.2.1, w0.2.2.2.2.2.2.2.1, w0.2.2.2.2.2.2.2.2.1, w0.2.2.2.2.2.2.2.2.2.1, w0.2.2.2.2.2.2.2.2.2.2.1, w0.2.2.2.2.2.2.2.2.2.2.2.1, w0.2.2.2.2.2.2.2.2.2.2.2.2.1, w0.2.2.2.2.2.2.2.2.2.2.2.2.2.1, w0.2.2.2.2.2.2.2.2.2.2.2.2.2.2.1, w0.2.2.2.2.2.2.2.2.2.2.2.2.2.2.2.1, w0.2.2.2.2.2.2.2.2.2.2.2.2.2.2.2.2.1, w0.2.2.2.2.2.2.2.2.2.2.2.2.2.2.2.2.2.1, be, ma, (nI z), s) (nI size) (nI b) sum post) := by
  have hm := bb.1
  have hd12 : w0.2.2.2.2.2.2.2.2.1 12 = nI m := by rw [← rb.2.1]; exact rb.1
  have hcixle : ∀ b, cix x m v G b ≤ b := fun b => fb_ct_le _ b
  have hrem4 : rem ≤ 4 := by omega
  intro h
  induction h with
  | zero =>
    intro size hsz b hb sum cb ch bc ma be z s hW
    have e : size = rem := by omega
    obtain ⟨bc1, be1, z1, s1, hW1, k1, k2⟩ := p_upd (x := x) u0 w0 (by omega) sum cb ch bc ma be z s hW
    refine ⟨ch, bc1, ma, be1, z1, s1, hW1, ?_, ?_⟩
    · intro n hn post hp
      obtain ⟨n, rfl⟩ : ∃ n', n = n' + 1 := ⟨n - 1, by omega⟩
      refine k1 _ _ _ ⟨fun q => ?_, fun _ => hp⟩
      dsimp only at q
      rw [hlim, lt_nI (by omega) (by omega)] at q; omega
    · intro n hn post hp
      obtain ⟨n, rfl⟩ : ∃ n', n = n' + 1 := ⟨n - 1, by omega⟩
      refine k2 _ _ _ (q_leftOver (u := (w0.1, w0.2.1, w0.2.2.1, w0.2.2.2.1, w0.2.2.2.2.1, w0.2.2.2.2.2.1, w0.2.2.2.2.2.2.1, w0.2.2.2.2.2.2.2.1, w0.2.2.2.2.2.2.2.2.1, w0.2.2.2.2.2.2.2.2.2.1, w0.2.2.2.2.2.2.2.2.2.2.1, w0.2.2.2.2.2.2.2.2.2.2.2.1, w0.2.2.2.2.2.2.2.2.2.2.2.2.1, w0.2.2.2.2.2.2.2.2.2.2.2.2.2.1, w0.2.2.2.2.2.2.2.2.2.2.2.2.2.2.1, w0.2.2.2.2.2.2.2.2.2.2.2.2.2.2.2.1, w0.2.2.2.2.2.2.2.2.2.2.2.2.2.2.2.2.1, w0.2.2.2.2.2.2.2.2.2.2.2.2.2.2.2.2.2.1, be1, ma, (nI z1), s1)) bb rb hdv hv4 ⟨fun q => ?_, fun _ => hp⟩)
      exact absurd (by rw [e, hrem]) q
  | succ h ih =>
    intro size hsz b hb sum cb ch bc ma be z s hW
    obtain ⟨bc1, be1, z1, s1, hW1, k1, k2⟩ := p_upd (x := x) u0 w0 (by omega) sum cb ch bc ma be z s hW
    have key : ∀ (j b : Nat), b + j = m → ∀ (ch bc ma be : Nat → Int32) (z : Nat) (s : Int32), rW m size cb ch bc ma be z →
        ∃ (ch' bc' ma' be' : Nat → Int32) (z' : Nat) (s' : Int32), rW m size cb ch' bc' ma' be' z' ∧
          (∀ (n : Nat), h + 1 ≤ n → ∀ post : S_X8 × S_X1 → Prop, post ((u0.1, u0.2.1, u0.2.2.1, u0.2.2.2.1, ch', bc', (nI z'), s'), x) → ∃ i, zl (fun K st => j_X8_extend_46 K (wp_X8_extend n) st.1 st.2.1 st.2.2.1 st.2.2.2.1 st.2.2.2.2 post) i (nI size, sum, nI (cix x m v G b), (u0.1, u0.2.1, u0.2.2.1, u0.2.2.2.1, ch, bc, (nI z), s), x)) ∧
          (∀ (n : Nat), h + 1 ≤ n → ∀ post : S_X10 → Prop, post (w0.1, w0.2.1, w0.2.2.1, w0.2.2.2.1, w0.2.2.2.2.1, w0.2.2.2.2.2.1, w0.2.2.2.2.2.2.1, w0.2.2.2.2.2.2.2.1, w0.2.2.2.2.2.2.2.2.1, w0.2.2.2.2.2.2.2.2.2.1, w0.2.2.2.2.2.2.2.2.2.2.1, w0.2.2.2.2.2.2.2.2.2.2.2.1, w0.2.2.2.2.2.2.2.2.2.2.2.2.1, w0.2.2.2.2.2.2.2.2.2.2.2.2.2.1, w0.2.2.2.2.2.2.2.2.2.2.2.2.2.2.1, w0.2.2.2.2.2.2.2.2.2.2.2.2.2.2.2.1, w0.2.2.2.2.2.2.2.2.2.2.2.2.2.2.2.2.1, w0.2.2.2.2.2.2.2.2.2.2.2.2.2.2.2.2.2.1, be', ma', (nI z'), s') → ∃ i, zl (fun K st => j_X10_trySets_59 K (wp_X10_trySets n) st.1 st.2.1 st.2.2.1 st.2.2.2 post) i (nI size, sum, nI b, (w0.1, w0.2.1, w0.2.2.1, w0.2.2.2.1, w0.2.2.2.2.1, w0.2.2.2.2.2.1, w0.2.2.2.2.2.2.1, w0.2.2.2.2.2.2.2.1, w0.2.2.2.2.2.2.2.2.1, w0.2.2.2.2.2.2.2.2.2.1, w0.2.2.2.2.2.2.2.2.2.2.1, w0.2.2.2.2.2.2.2.2.2.2.2.1, w0.2.2.2.2.2.2.2.2.2.2.2.2.1, w0.2.2.2.2.2.2.2.2.2.2.2.2.2.1, w0.2.2.2.2.2.2.2.2.2.2.2.2.2.2.1, w0.2.2.2.2.2.2.2.2.2.2.2.2.2.2.2.1, w0.2.2.2.2.2.2.2.2.2.2.2.2.2.2.2.2.1, w0.2.2.2.2.2.2.2.2.2.2.2.2.2.2.2.2.2.1, be, ma, (nI z), s))) := by
      intro j
      induction j with
      | zero =>
        intro b hbj ch bc ma be z s hW
        have e : b = m := by omega
        subst e
        refine ⟨ch, bc, ma, be, z, s, hW, ?_, ?_⟩
        · intro n hn post hp
          refine zl_exit (fun K => ⟨fun _ => hp, fun q => ?_⟩)
          dsimp only at q
          rw [hcn, le_nI (by have := hcixle b; omega) (by have := hcixle b; omega)] at q; omega
        · intro n hn post hp
          refine zl_exit (fun K => ⟨fun _ => hp, fun q => ?_⟩)
          dsimp only at q
          rw [hd12, le_nI (by omega) (by omega)] at q; omega
      | succ j ihj =>
        intro b hbj ch bc ma be z s hW
        have hbm : b < m := by omega
        have c1 := hcixle b
        have i2 : (348 : Int32) + 4 * nI b + 2 = nI (350 + 4 * b) := by rw [ix_bre, ix_2]; congr 1; omega
        have d2 : w0.2.2.2.2.2.2.2.2.1 (350 + 4 * b) = x.2.2.2.2.2.1 b := (rb.2.2.2 b hbm).2.2.1.symm
        -- the reference comes to its loop over those made, with y = cdB
        have hRef : ∀ (ch bc ma be : Nat → Int32) (z : Nat) (s : Int32) (K59 : Int32 × Int32 × Int32 × S_X10 → Prop) (REC : S_X10 → Int32 → Int32 → Int32 → (S_X10 → Prop) → Prop) (post : S_X10 → Prop), j_X10_trySets_100 K59 REC (nI size) sum (nI b) (b1 (cdB x m v G b)) (w0.1, w0.2.1, w0.2.2.1, w0.2.2.2.1, w0.2.2.2.2.1, w0.2.2.2.2.2.1, w0.2.2.2.2.2.2.1, w0.2.2.2.2.2.2.2.1, w0.2.2.2.2.2.2.2.2.1, w0.2.2.2.2.2.2.2.2.2.1, w0.2.2.2.2.2.2.2.2.2.2.1, w0.2.2.2.2.2.2.2.2.2.2.2.1, w0.2.2.2.2.2.2.2.2.2.2.2.2.1, w0.2.2.2.2.2.2.2.2.2.2.2.2.2.1, w0.2.2.2.2.2.2.2.2.2.2.2.2.2.2.1, w0.2.2.2.2.2.2.2.2.2.2.2.2.2.2.2.1, w0.2.2.2.2.2.2.2.2.2.2.2.2.2.2.2.2.1, w0.2.2.2.2.2.2.2.2.2.2.2.2.2.2.2.2.2.1, be, ma, (nI z), s) post → j_X10_trySets_59 K59 REC (nI size) sum (nI b) (w0.1, w0.2.1, w0.2.2.1, w0.2.2.2.1, w0.2.2.2.2.1, w0.2.2.2.2.2.1, w0.2.2.2.2.2.2.1, w0.2.2.2.2.2.2.2.1, w0.2.2.2.2.2.2.2.2.1, w0.2.2.2.2.2.2.2.2.2.1, w0.2.2.2.2.2.2.2.2.2.2.1, w0.2.2.2.2.2.2.2.2.2.2.2.1, w0.2.2.2.2.2.2.2.2.2.2.2.2.1, w0.2.2.2.2.2.2.2.2.2.2.2.2.2.1, w0.2.2.2.2.2.2.2.2.2.2.2.2.2.2.1, w0.2.2.2.2.2.2.2.2.2.2.2.2.2.2.2.1, w0.2.2.2.2.2.2.2.2.2.2.2.2.2.2.2.2.1, w0.2.2.2.2.2.2.2.2.2.2.2.2.2.2.2.2.2.1, be, ma, (nI z), s) post := by
          intro ch bc ma be z s K59 REC post hp
          refine ⟨fun q => ?_, fun _ => ?_⟩
          · dsimp only at q
            rw [hd12, le_nI (by omega) (by omega)] at q; omega
          · unfold wp_X10_breach
            dsimp only
            rw [i2, cl_nI (by omega), d2]
            refine ⟨in_of (by omega) (by omega), fun q => ?_, fun q => q_canM (u := (w0.1, w0.2.1, w0.2.2.1, w0.2.2.2.1, w0.2.2.2.2.1, w0.2.2.2.2.2.1, w0.2.2.2.2.2.2.1, w0.2.2.2.2.2.2.2.1, w0.2.2.2.2.2.2.2.2.1, w0.2.2.2.2.2.2.2.2.2.1, w0.2.2.2.2.2.2.2.2.2.2.1, w0.2.2.2.2.2.2.2.2.2.2.2.1, w0.2.2.2.2.2.2.2.2.2.2.2.2.1, w0.2.2.2.2.2.2.2.2.2.2.2.2.2.1, w0.2.2.2.2.2.2.2.2.2.2.2.2.2.2.1, w0.2.2.2.2.2.2.2.2.2.2.2.2.2.2.2.1, w0.2.2.2.2.2.2.2.2.2.2.2.2.2.2.2.2.1, w0.2.2.2.2.2.2.2.2.2.2.2.2.2.2.2.2.2.1, be, ma, (nI z), s)) bb rb hdv hv4 hdG hG4 hbm ?_⟩
            · have e0 : cdB x m v G b = false := by unfold cdB; rw [decide_eq_true q]; rfl
              rw [e0] at hp; exact hp
            · have e0 : cdB x m v G b = cwB x m v G b := by unfold cdB; rw [decide_eq_false q]; rfl
              rw [e0] at hp
              cases h9 : cwB x m v G b with
              | true => rw [h9] at hp; exact ⟨fun q => absurd q (by decide), fun _ => hp⟩
              | false => rw [h9] at hp; exact ⟨fun _ => hp, fun q => absurd rfl q⟩
        have h186 : ∀ (K59 : Int32 × Int32 × Int32 × S_X10 → Prop) (REC : S_X10 → Int32 → Int32 → Int32 → (S_X10 → Prop) → Prop) (post : S_X10 → Prop) (w : S_X10), K59 (nI size, sum, nI (b + 1), w) → j_X10_trySets_186 K59 REC (nI size) sum (nI b) w post := by
          intro K59 REC post w hK x31 e31
          rw [ix_1] at e31
          subst e31
          exact hK
        cases hcb : cdB x m v G b with
        | false =>
          have ec : cix x m v G (b + 1) = cix x m v G b := by
            unfold cix
            rw [fb_ct_succ, hcb, if_neg (by decide), Nat.add_zero]
          obtain ⟨ch', bc', ma', be', z', s', hW', r1, r2⟩ := ihj (b + 1) (by omega) ch bc ma be z s hW
          refine ⟨ch', bc', ma', be', z', s', hW', ?_, ?_⟩
          · intro n hn post hp
            rw [← ec]
            exact r1 n hn post hp
          · intro n hn post hp
            refine zl_step (fun K hK => ?_) (r2 n hn post hp)
            refine hRef ch bc ma be z s K _ post ?_
            rw [hcb]
            refine q_made (u := (w0.1, w0.2.1, w0.2.2.1, w0.2.2.2.1, w0.2.2.2.2.1, w0.2.2.2.2.2.1, w0.2.2.2.2.2.2.1, w0.2.2.2.2.2.2.2.1, w0.2.2.2.2.2.2.2.2.1, w0.2.2.2.2.2.2.2.2.2.1, w0.2.2.2.2.2.2.2.2.2.2.1, w0.2.2.2.2.2.2.2.2.2.2.2.1, w0.2.2.2.2.2.2.2.2.2.2.2.2.1, w0.2.2.2.2.2.2.2.2.2.2.2.2.2.1, w0.2.2.2.2.2.2.2.2.2.2.2.2.2.2.1, w0.2.2.2.2.2.2.2.2.2.2.2.2.2.2.2.1, w0.2.2.2.2.2.2.2.2.2.2.2.2.2.2.2.2.1, w0.2.2.2.2.2.2.2.2.2.2.2.2.2.2.2.2.2.1, be, ma, (nI z), s)) bb rb hdG hG4 (by omega) hbm cb (fun k hk => ⟨(hW.1 k hk).2.1, (hW.1 k hk).2.2⟩) false K _ sum post (fun q => absurd q (by cases allF (ftP x G b cb) size <;> decide)) (fun _ => h186 K _ post _ hK)
        | true =>
          have ec : cix x m v G (b + 1) = cix x m v G b + 1 := by
            unfold cix
            rw [fb_ct_succ, hcb, if_pos rfl]
          have clt : cix x m v G b < cix x m v G m := by
            have h3 := fb_ct_mono (cdB x m v G) (show b + 1 ≤ m by omega)
            have h4 : cix x m v G (b + 1) ≤ cix x m v G m := h3
            omega
          have hcm := hcixle m
          have hcand := hcd b hbm hcb
          have e111 : ∀ (K46 : Int32 × Int32 × Int32 × S_X8 × S_X1 → Prop) (REC : S_X8 → S_X1 → Int32 → Int32 → Int32 → (S_X8 × S_X1 → Prop) → Prop) (post : S_X8 × S_X1 → Prop) (w : S_X8), K46 (nI size, sum, nI (cix x m v G (b + 1)), w, x) → j_X8_extend_111 K46 REC (nI size) sum (nI (cix x m v G b)) w x post := by
            intro K46 REC post w hK x18 e18
            rw [ix_1, ← ec] at e18
            subst e18
            exact hK
          cases hft : allF (ftP x G b cb) size with
          | false =>
            obtain ⟨ch', bc', ma', be', z', s', hW', r1, r2⟩ := ihj (b + 1) (by omega) ch bc ma be z s hW
            refine ⟨ch', bc', ma', be', z', s', hW', ?_, ?_⟩
            · intro n hn post hp
              refine zl_step (fun K hK => ⟨fun q => ?_, fun _ => ⟨in_of (by omega) (by omega), ?_⟩⟩) (r1 n hn post hp)
              · dsimp only at q
                rw [hcn, le_nI (by omega) (by omega)] at q; omega
              · dsimp only
                rw [cl_nI (by omega), hcand]
                refine q_fits bb hG4 (by omega) hbm (u0.1, u0.2.1, u0.2.2.1, u0.2.2.2.1, ch, bc, (nI z), s) hg cb (fun k hk => ⟨(hW.1 k hk).1, (hW.1 k hk).2.2⟩) ?_
                rw [hft]
                exact ⟨fun _ => e111 K _ post _ hK, fun q => absurd rfl q⟩
            · intro n hn post hp
              refine zl_step (fun K hK => ?_) (r2 n hn post hp)
              refine hRef ch bc ma be z s K _ post ?_
              rw [hcb]
              refine q_made (u := (w0.1, w0.2.1, w0.2.2.1, w0.2.2.2.1, w0.2.2.2.2.1, w0.2.2.2.2.2.1, w0.2.2.2.2.2.2.1, w0.2.2.2.2.2.2.2.1, w0.2.2.2.2.2.2.2.2.1, w0.2.2.2.2.2.2.2.2.2.1, w0.2.2.2.2.2.2.2.2.2.2.1, w0.2.2.2.2.2.2.2.2.2.2.2.1, w0.2.2.2.2.2.2.2.2.2.2.2.2.1, w0.2.2.2.2.2.2.2.2.2.2.2.2.2.1, w0.2.2.2.2.2.2.2.2.2.2.2.2.2.2.1, w0.2.2.2.2.2.2.2.2.2.2.2.2.2.2.2.1, w0.2.2.2.2.2.2.2.2.2.2.2.2.2.2.2.2.1, w0.2.2.2.2.2.2.2.2.2.2.2.2.2.2.2.2.2.1, be, ma, (nI z), s)) bb rb hdG hG4 (by omega) hbm cb (fun k hk => ⟨(hW.1 k hk).2.1, (hW.1 k hk).2.2⟩) true K _ sum post (fun q => absurd q (by rw [hft]; decide)) (fun _ => h186 K _ post _ hK)
          | true =>
            have hW2 : rW m (size + 1) (fun k => if k = size then b else cb k) (upd ch size (nI b)) bc (upd ma size (nI b)) be z := by
              refine ⟨fun k hk => ?_, hW.2.1, hW.2.2⟩
              dsimp only
              by_cases ek : k = size
              · subst ek; rw [upd_same, upd_same, if_pos rfl]; exact ⟨rfl, rfl, hbm⟩
              · rw [upd_ne _ _ ek, upd_ne _ _ ek, if_neg ek]; exact hW.1 k (by omega)
            obtain ⟨ch2, bc2, ma2, be2, z2, s2, hW3, t1, t2⟩ := ih (size + 1) (by omega) (b + 1) (by omega) (sum + x.2.2.2.2.2.1 b) _ _ bc _ be z s hW2
            have hW4 : rW m size cb ch2 bc2 ma2 be2 z2 := rW_less hW3 (fun k hk => if_neg (by omega))
            obtain ⟨ch', bc', ma', be', z', s', hW', r1, r2⟩ := ihj (b + 1) (by omega) ch2 bc2 ma2 be2 z2 s2 hW4
            refine ⟨ch', bc', ma', be', z', s', hW', ?_, ?_⟩
            · intro n hn post hp
              refine zl_step (fun K hK => ⟨fun q => ?_, fun _ => ⟨in_of (by omega) (by omega), ?_⟩⟩) (r1 n hn post hp)
              · dsimp only at q
                rw [hcn, le_nI (by omega) (by omega)] at q; omega
              · dsimp only
                rw [cl_nI (by omega), hcand]
                refine q_fits bb hG4 (by omega) hbm (u0.1, u0.2.1, u0.2.2.1, u0.2.2.2.1, ch, bc, (nI z), s) hg cb (fun k hk => ⟨(hW.1 k hk).1, (hW.1 k hk).2.2⟩) ?_
                rw [hft]
                refine ⟨fun q => absurd q (by decide), fun _ => ⟨in_of (by omega) (by omega), fun x12 e12 => ⟨in_of (by omega) (by omega), in_of (by omega) (by omega), ?_, ?_⟩⟩⟩
                · dsimp only
                  rw [hcand]
                  exact in_of (by omega) (by omega)
                · dsimp only at e12 ⊢
                  rw [hcand] at e12 ⊢
                  subst e12
                  rw [cl_nI (by omega), cl_nI (by omega), ix_1, ix_1, ← ec]
                  exact t1 n (by omega) _ (e111 K _ post _ hK)
            · intro n hn post hp
              refine zl_step (fun K hK => ?_) (r2 n hn post hp)
              refine hRef ch bc ma be z s K _ post ?_
              rw [hcb]
              refine q_made (u := (w0.1, w0.2.1, w0.2.2.1, w0.2.2.2.1, w0.2.2.2.2.1, w0.2.2.2.2.2.1, w0.2.2.2.2.2.2.1, w0.2.2.2.2.2.2.2.1, w0.2.2.2.2.2.2.2.2.1, w0.2.2.2.2.2.2.2.2.2.1, w0.2.2.2.2.2.2.2.2.2.2.1, w0.2.2.2.2.2.2.2.2.2.2.2.1, w0.2.2.2.2.2.2.2.2.2.2.2.2.1, w0.2.2.2.2.2.2.2.2.2.2.2.2.2.1, w0.2.2.2.2.2.2.2.2.2.2.2.2.2.2.1, w0.2.2.2.2.2.2.2.2.2.2.2.2.2.2.2.1, w0.2.2.2.2.2.2.2.2.2.2.2.2.2.2.2.2.1, w0.2.2.2.2.2.2.2.2.2.2.2.2.2.2.2.2.2.1, be, ma, (nI z), s)) bb rb hdG hG4 (by omega) hbm cb (fun k hk => ⟨(hW.1 k hk).2.1, (hW.1 k hk).2.2⟩) true K _ sum post (fun _ => ?_) (fun q => absurd q (by rw [hft]; decide))
              exact t2 n (by omega) _ (h186 K _ post _ hK)
    obtain ⟨ch', bc', ma', be', z', s', hW', r1, r2⟩ := key (m - b) b (by omega) ch bc1 ma be1 z1 s1 hW1
    refine ⟨ch', bc', ma', be', z', s', hW', ?_, ?_⟩
    · intro n hn post hp
      obtain ⟨n, rfl⟩ : ∃ n', n = n' + 1 := ⟨n - 1, by omega⟩
      refine k1 _ _ _ ⟨fun _ => r1 n (by omega) post hp, fun q => ?_⟩
      exact absurd (show nI size < u0.2.2.1 by rw [hlim]; exact nI_lt (by omega) (by omega)) q
    · intro n hn post hp
      obtain ⟨n, rfl⟩ : ∃ n', n = n' + 1 := ⟨n - 1, by omega⟩
      refine k2 _ _ _ (q_leftOver (u := (w0.1, w0.2.1, w0.2.2.1, w0.2.2.2.1, w0.2.2.2.2.1, w0.2.2.2.2.2.1, w0.2.2.2.2.2.2.1, w0.2.2.2.2.2.2.2.1, w0.2.2.2.2.2.2.2.2.1, w0.2.2.2.2.2.2.2.2.2.1, w0.2.2.2.2.2.2.2.2.2.2.1, w0.2.2.2.2.2.2.2.2.2.2.2.1, w0.2.2.2.2.2.2.2.2.2.2.2.2.1, w0.2.2.2.2.2.2.2.2.2.2.2.2.2.1, w0.2.2.2.2.2.2.2.2.2.2.2.2.2.2.1, w0.2.2.2.2.2.2.2.2.2.2.2.2.2.2.2.1, w0.2.2.2.2.2.2.2.2.2.2.2.2.2.2.2.2.1, w0.2.2.2.2.2.2.2.2.2.2.2.2.2.2.2.2.2.1, be1, ma, (nI z1), s1)) bb rb hdv hv4 ⟨fun _ => r2 n (by omega) post hp, fun q => ?_⟩)
      rw [eq_nI (by omega) (by omega)] at q; omega
