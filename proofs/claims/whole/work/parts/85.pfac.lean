/-! Expressions: factors. -/
theorem ne2 : ¬ (-2 : Int32) = 0 := by decide
theorem ne3 : ¬ (-3 : Int32) = 0 := by decide
theorem ne4 : ¬ (-4 : Int32) = 0 := by decide
theorem ne5 : ¬ (-5 : Int32) = 0 := by decide
def mF (u u' : S_X10) : Prop := u'.1 = u.1 ∧ u'.2.1 = u.2.1 ∧ u'.2.2.1 = u.2.2.1 ∧ u'.2.2.2.1 = u.2.2.2.1 ∧ u'.2.2.2.2.2.2.2.2.1 = u.2.2.2.2.2.2.2.2.1 ∧ u'.2.2.2.2.2.2.2.2.2.2.2.1 = u.2.2.2.2.2.2.2.2.2.2.2.1 ∧ u'.2.2.2.2.2.2.2.2.2.2.2.2.2.1 = u.2.2.2.2.2.2.2.2.2.2.2.2.2.1
theorem mF_rf (u : S_X10) : mF u u := ⟨rfl, rfl, rfl, rfl, rfl, rfl, rfl⟩
theorem mF_tr {u v w : S_X10} (h : mF u v) (h2 : mF v w) : mF u w := ⟨h2.1.trans h.1, h2.2.1.trans h.2.1, h2.2.2.1.trans h.2.2.1, h2.2.2.2.1.trans h.2.2.2.1, h2.2.2.2.2.1.trans h.2.2.2.2.1, h2.2.2.2.2.2.1.trans h.2.2.2.2.2.1, h2.2.2.2.2.2.2.trans h.2.2.2.2.2.2⟩
def dF (D D' : Nat → Int32) : Prop := ∀ i, i < 428 → ¬ i = 14 → D' i = D i
theorem dF_rf (D : Nat → Int32) : dF D D := fun _ _ _ => rfl
theorem dF_tr {D E F : Nat → Int32} (h : dF D E) (h2 : dF E F) : dF D F := fun i hi h14 => (h2 i hi h14).trans (h i hi h14)
def cod (D : Nat → Int32) (L : List Int32) : Prop := D 14 = nI L.length ∧ ∀ i, i < L.length → D (428 + i) = L.getD i 0
def rg (T B : Nat → Int32) (n : Nat) (u : S_X10) (p q d : Nat) (L : List Int32) : Prop := mt B n u ∧ u.2.2.2.2.2.1 = 0 ∧ u.2.2.2.2.1 = nI p ∧ p ≤ n ∧ sk T n p = q ∧ u.2.2.2.2.2.2.2.2.2.2.2.2.2.2.2.1 = nI d ∧ cod u.2.2.2.2.2.2.2.2.2.1 L
def rk (u u' : S_X10) : Prop := mF u u' ∧ u'.2.2.2.2.2.2.1 = u.2.2.2.2.2.2.1 ∧ u'.2.2.2.2.2.2.2.2.2.2.2.2.2.2.2.2.1 = u.2.2.2.2.2.2.2.2.2.2.2.2.2.2.2.2.1 ∧ dF u.2.2.2.2.2.2.2.2.2.1 u'.2.2.2.2.2.2.2.2.2.1
theorem rk_rf (u : S_X10) : rk u u := ⟨mF_rf u, rfl, rfl, dF_rf _⟩
theorem rk_tr {u v w : S_X10} (h : rk u v) (h2 : rk v w) : rk u w := ⟨mF_tr h.1 h2.1, h2.2.1.trans h.2.1, h2.2.2.1.trans h.2.2.1, dF_tr h.2.2.2 h2.2.2.2⟩
abbrev WC : Type := S_X3 → S_X5 → Int32 → (Int64 → S_X3 × S_X5 → Prop) → Prop
abbrev WR : Type := S_X10 → (S_X10 → Prop) → Prop
def CE (T : Nat → Int32) (n : Nat) (W : WC) (q d : Nat) (e a : Int32) : Prop := ∀ (u0 : S_X3) (x : S_X5) (post : Int64 → S_X3 × S_X5 → Prop), tk T n q x → (∀ r x', er x' e a → post r (u0, x')) → W u0 x (nI d) post
def CO (T : Nat → Int32) (n : Nat) (W : WC) (q d e : Nat) (val : S_X3 → Int64) : Prop := ∀ (u0 : S_X3) (x : S_X5) (post : Int64 → S_X3 × S_X5 → Prop), tk T n q x → (∀ x', tk T n (sk T n e) x' → post (val u0) (u0, x')) → W u0 x (nI d) post
def RE (T B : Nat → Int32) (n : Nat) (W : WR) (q d : Nat) (e a : Int32) : Prop := ∀ (u : S_X10) (p : Nat) (L : List Int32) (post : S_X10 → Prop), rg T B n u p q d L → 2 * L.length ≤ 3 * q → (∀ u', mF u u' → u'.2.2.2.2.2.1 = e → u'.2.2.2.2.2.2.1 = a → post u') → W u post
def RO (T B : Nat → Int32) (n : Nat) (W : WR) (q d e : Nat) (cs : List Int32) : Prop := ∀ (u : S_X10) (p : Nat) (L : List Int32) (post : S_X10 → Prop), rg T B n u p q d L → 2 * L.length ≤ 3 * q → (∀ u', rk u u' → rg T B n u' e (sk T n e) d (L ++ cs) → post u') → W u post
def PO (T B : Nat → Int32) (n : Nat) (Wc : WC) (Wr : WR) (q d : Nat) : Prop := (∃ e a, ¬ e = 0 ∧ CE T n Wc q d e a ∧ RE T B n Wr q d e a) ∨ ∃ e cs val, q < e ∧ e ≤ n ∧ 0 < cs.length ∧ 2 * cs.length ≤ 3 * (e - q) + 1 ∧ EV cs val ∧ vbd val ∧ CO T n Wc q d e val ∧ RO T B n Wr q d e cs
theorem r_emit {u : S_X10} {L : List Int32} {c : Int32} (h0 : u.2.2.2.2.2.1 = 0) (hL : cod u.2.2.2.2.2.2.2.2.2.1 L) (hm : L.length ≤ 1290) {post : S_X10 → Prop} (hp : ∀ D', dF u.2.2.2.2.2.2.2.2.2.1 D' → cod D' (L ++ [c]) → post (u.1, u.2.1, u.2.2.1, u.2.2.2.1, u.2.2.2.2.1, u.2.2.2.2.2.1, u.2.2.2.2.2.2.1, u.2.2.2.2.2.2.2.1, u.2.2.2.2.2.2.2.2.1, D', u.2.2.2.2.2.2.2.2.2.2.1, u.2.2.2.2.2.2.2.2.2.2.2.1, u.2.2.2.2.2.2.2.2.2.2.2.2.1, u.2.2.2.2.2.2.2.2.2.2.2.2.2.1, u.2.2.2.2.2.2.2.2.2.2.2.2.2.2.1, u.2.2.2.2.2.2.2.2.2.2.2.2.2.2.2.1, u.2.2.2.2.2.2.2.2.2.2.2.2.2.2.2.2.1, u.2.2.2.2.2.2.2.2.2.2.2.2.2.2.2.2.2.1, u.2.2.2.2.2.2.2.2.2.2.2.2.2.2.2.2.2.2.1, u.2.2.2.2.2.2.2.2.2.2.2.2.2.2.2.2.2.2.2.1, u.2.2.2.2.2.2.2.2.2.2.2.2.2.2.2.2.2.2.2.2.1, u.2.2.2.2.2.2.2.2.2.2.2.2.2.2.2.2.2.2.2.2.2)) : wp_X10_emit u c post := by
  refine r_good h0 ⟨fun _ => ?_, fun q => absurd q (by decide)⟩
  have e1 : ((428 : Int32) + u.2.2.2.2.2.2.2.2.2.1 14) = nI (428 + L.length) := by rw [hL.1, show (428 : Int32) = nI 428 from rfl, nI_add]
  have e2 : (nI (428 + L.length)).toNatClampNeg = 428 + L.length := cl_nI (by omega)
  have e3 : upd u.2.2.2.2.2.2.2.2.2.1 (428 + L.length) c 14 + 1 = nI (L.length + 1) := by rw [upd_ne _ _ (by omega), hL.1, ix_1]
  rw [e1, e2, e3]
  refine ⟨in_of (by omega) (by omega), fun x5 e5 => ?_⟩
  subst e5
  refine hp _ (fun i hi h14 => ?_) ⟨?_, fun i hi => ?_⟩
  · rw [upd_ne _ _ h14, upd_ne _ _ (by omega)]
  · rw [upd_same]; simp
  · have hi2 : i < L.length + 1 := by simpa using hi
    rw [upd_ne _ _ (by omega)]
    by_cases e : i = L.length
    · subst e
      rw [upd_same]
      exact (getD_app2 (a := L) (b := [c]) 0).symm
    · rw [upd_ne _ _ (by omega), getD_app1 (by omega)]
      exact hL.2 i (by omega)
theorem ws_12 : wOK (zsb 12) = true := by decide +kernel
theorem ws_13 : wOK (zsb 13) = true := by decide +kernel
theorem ws_14 : wOK (zsb 14) = true := by decide +kernel
theorem we_24 : zsb 24 = zsb 12 := by decide +kernel
theorem we_25 : zsb 25 = zsb 13 := by decide +kernel
theorem we_26 : zsb 26 = zsb 14 := by decide +kernel
theorem wz_12 : (zsb 12).length = 6 := by decide +kernel
theorem wz_13 : (zsb 13).length = 6 := by decide +kernel
theorem wz_14 : (zsb 14).length = 8 := by decide +kernel
section
variable {T B : Nat → Int32} {n : Nat}
theorem r_pair (RR : WR) {u : S_X10} {L : List Int32} {c v : Int32} (h0 : u.2.2.2.2.2.1 = 0) (hL : cod u.2.2.2.2.2.2.2.2.2.1 L) (hm : L.length ≤ 1280) {post : S_X10 → Prop} (hp : ∀ D', dF u.2.2.2.2.2.2.2.2.2.1 D' → cod D' (L ++ [c, v]) → post (u.1, u.2.1, u.2.2.1, u.2.2.2.1, u.2.2.2.2.1, u.2.2.2.2.2.1, u.2.2.2.2.2.2.1, u.2.2.2.2.2.2.2.1, u.2.2.2.2.2.2.2.2.1, D', u.2.2.2.2.2.2.2.2.2.2.1, u.2.2.2.2.2.2.2.2.2.2.2.1, u.2.2.2.2.2.2.2.2.2.2.2.2.1, u.2.2.2.2.2.2.2.2.2.2.2.2.2.1, u.2.2.2.2.2.2.2.2.2.2.2.2.2.2.1, u.2.2.2.2.2.2.2.2.2.2.2.2.2.2.2.1, u.2.2.2.2.2.2.2.2.2.2.2.2.2.2.2.2.1, u.2.2.2.2.2.2.2.2.2.2.2.2.2.2.2.2.2.1, u.2.2.2.2.2.2.2.2.2.2.2.2.2.2.2.2.2.2.1, u.2.2.2.2.2.2.2.2.2.2.2.2.2.2.2.2.2.2.2.1, u.2.2.2.2.2.2.2.2.2.2.2.2.2.2.2.2.2.2.2.2.1, u.2.2.2.2.2.2.2.2.2.2.2.2.2.2.2.2.2.2.2.2.2)) : j_X10_factor_157 RR v c u post := by
  refine r_emit h0 hL (by omega) (fun D1 f1 c1 => ?_)
  refine r_emit (u := (u.1, u.2.1, u.2.2.1, u.2.2.2.1, u.2.2.2.2.1, u.2.2.2.2.2.1, u.2.2.2.2.2.2.1, u.2.2.2.2.2.2.2.1, u.2.2.2.2.2.2.2.2.1, D1, u.2.2.2.2.2.2.2.2.2.2.1, u.2.2.2.2.2.2.2.2.2.2.2.1, u.2.2.2.2.2.2.2.2.2.2.2.2.1, u.2.2.2.2.2.2.2.2.2.2.2.2.2.1, u.2.2.2.2.2.2.2.2.2.2.2.2.2.2.1, u.2.2.2.2.2.2.2.2.2.2.2.2.2.2.2.1, u.2.2.2.2.2.2.2.2.2.2.2.2.2.2.2.2.1, u.2.2.2.2.2.2.2.2.2.2.2.2.2.2.2.2.2.1, u.2.2.2.2.2.2.2.2.2.2.2.2.2.2.2.2.2.2.1, u.2.2.2.2.2.2.2.2.2.2.2.2.2.2.2.2.2.2.2.1, u.2.2.2.2.2.2.2.2.2.2.2.2.2.2.2.2.2.2.2.2.1, u.2.2.2.2.2.2.2.2.2.2.2.2.2.2.2.2.2.2.2.2.2)) (L := L ++ [c]) h0 c1 (by simp <;> omega) (fun D2 f2 c2 => hp D2 (dF_tr f1 f2) ?_)
  rw [List.append_assoc] at c2
  exact c2
theorem P_factor (hT : tx T B n) {RC : WC} {RR : WR} {q d : Nat} (hqn : q ≤ n) (hd4 : d ≤ 4) (hrec : d < 4 → ∀ q', q' ≤ n → PO T B n RC RR q' (d + 1)) (hre : ∀ (u : S_X10) (post : S_X10 → Prop), ¬ u.2.2.2.2.2.1 = 0 → post u → RR u post) : PO T B n (wp_X3_factor RC) (wp_X10_factor RR) q d := by
  have hn8 := hT.1
  have k40 : Pd 40 = false := by decide
  have l40 : Pl 40 = false := by decide
  have k41 : Pd 41 = false := by decide
  have l41 : Pl 41 = false := by decide
  have hdlt : ∀ j, j ≤ 4 → (nI j < (4 : Int32) ↔ j < 4) := fun j hj => lt_nI (b := 4) (by omega) (by omega)
  have hdeq : ∀ j, j ≤ 4 → (nI j = (4 : Int32) ↔ j = 4) := fun j hj => eq_nI (b := 4) (by omega) (by omega)
  by_cases h40 : bc T n q = 40
  · have hq : q < n := bc_ne (T := T) (by omega)
    have hbv : bv (bc T n q) = (40 : Int32) := (bv_eq (bc_lt hT q) (k := 40) (by omega)).mpr h40
    have hkd : ∀ x : S_X5, tk T n q x → x.2.2.2.2.1 = (40 : Int32) := fun x hx => hx.2.2.2.2.2.2.1.trans ((kd_sign (bc_lt hT q) (k := 40) (by omega) k40 l40).mpr h40)
    by_cases hd : d = 4
    · refine Or.inl ⟨-5, nI q, by decide, ?_, ?_⟩
      · intro u0 x post hx hp
        refine ⟨fun q1 => absurd (hkd x hx) q1, fun _ => ⟨fun q2 => absurd ((hdlt d hd4).mp q2) (by omega), fun _ => ?_⟩⟩
        rw [hx.2.2.2.2.1]
        exact q_fail0 hx.2.2.1 (by decide) (fun x' hx' => hp 0 x' hx')
      · intro u p L post hg hb hps
        obtain ⟨hu, h0, hp, hpn, hsk, hne, hL⟩ := hg
        refine r_good h0 ⟨fun _ => q_next hT p hpn u hu hp ?_, fun q1 => absurd q1 (by decide)⟩
        rw [hsk]
        refine ⟨fun q1 => absurd hbv q1, fun _ => ⟨fun q2 => absurd (hne.trans ((hdeq d hd4).mpr hd)) q2, fun _ => r_report0 (u := (u.1, u.2.1, u.2.2.1, u.2.2.2.1, (nI q), u.2.2.2.2.2.1, u.2.2.2.2.2.2.1, u.2.2.2.2.2.2.2.1, u.2.2.2.2.2.2.2.2.1, u.2.2.2.2.2.2.2.2.2.1, u.2.2.2.2.2.2.2.2.2.2.1, u.2.2.2.2.2.2.2.2.2.2.2.1, u.2.2.2.2.2.2.2.2.2.2.2.2.1, u.2.2.2.2.2.2.2.2.2.2.2.2.2.1, u.2.2.2.2.2.2.2.2.2.2.2.2.2.2.1, u.2.2.2.2.2.2.2.2.2.2.2.2.2.2.2.1, u.2.2.2.2.2.2.2.2.2.2.2.2.2.2.2.2.1, u.2.2.2.2.2.2.2.2.2.2.2.2.2.2.2.2.2.1, u.2.2.2.2.2.2.2.2.2.2.2.2.2.2.2.2.2.2.1, u.2.2.2.2.2.2.2.2.2.2.2.2.2.2.2.2.2.2.2.1, u.2.2.2.2.2.2.2.2.2.2.2.2.2.2.2.2.2.2.2.2.1, u.2.2.2.2.2.2.2.2.2.2.2.2.2.2.2.2.2.2.2.2.2)) h0 (fun x25 e25 x26 e26 => hre _ _ ne5 (re_expect ne5 (fun x31 e31 => hps _ ⟨rfl, rfl, rfl, rfl, rfl, rfl, rfl⟩ rfl rfl)))⟩⟩
    · have hdl : d < 4 := by omega
      have hs1 := sk_le (T := T) (n := n) (p := q + 1) (by omega)
      have hcls : ∀ (u0 : S_X3) (x : S_X5) (post : Int64 → S_X3 × S_X5 → Prop), tk T n q x → (∀ x', tk T n (sk T n (q + 1)) x' → RC u0 x' (nI (d + 1)) (fun r_20 u_19 => wp_X5_sign u_19.2 (41 : Int32) (fun u_21 => post r_20 (u_19.1, u_21)))) → wp_X3_factor RC u0 x (nI d) post := by
        intro u0 x post hx hp
        refine ⟨fun q1 => absurd (hkd x hx) q1, fun _ => ⟨fun _ => ?_, fun q2 => absurd ((hdlt d hd4).mpr hdl) q2⟩⟩
        refine g_takeSign hT hx (k := 40) (by omega) k40 l40 (fun _ x' hx' => ⟨fun q1 => absurd q1 (by decide), fun _ => ?_⟩) (fun q1 => absurd h40 q1)
        rw [ix_1]
        exact hp x' hx'
      have href : ∀ (u : S_X10) (p : Nat) (L : List Int32) (post : S_X10 → Prop), rg T B n u p q d L → RR (u.1, u.2.1, u.2.2.1, u.2.2.2.1, (nI (q + 1)), u.2.2.2.2.2.1, u.2.2.2.2.2.2.1, u.2.2.2.2.2.2.2.1, u.2.2.2.2.2.2.2.2.1, u.2.2.2.2.2.2.2.2.2.1, u.2.2.2.2.2.2.2.2.2.2.1, u.2.2.2.2.2.2.2.2.2.2.2.1, u.2.2.2.2.2.2.2.2.2.2.2.2.1, u.2.2.2.2.2.2.2.2.2.2.2.2.2.1, u.2.2.2.2.2.2.2.2.2.2.2.2.2.2.1, (nI (d + 1)), u.2.2.2.2.2.2.2.2.2.2.2.2.2.2.2.2.1, u.2.2.2.2.2.2.2.2.2.2.2.2.2.2.2.2.2.1, u.2.2.2.2.2.2.2.2.2.2.2.2.2.2.2.2.2.2.1, u.2.2.2.2.2.2.2.2.2.2.2.2.2.2.2.2.2.2.2.1, u.2.2.2.2.2.2.2.2.2.2.2.2.2.2.2.2.2.2.2.2.1, u.2.2.2.2.2.2.2.2.2.2.2.2.2.2.2.2.2.2.2.2.2) (fun u_27 => wp_X10_expect u_27 (41 : Int32) (fun u_29 => ∀ x_31 : Int32, x_31 = u_29.2.2.2.2.2.2.2.2.2.2.2.2.2.2.2.1 - (1 : Int32) → post (u_29.1, u_29.2.1, u_29.2.2.1, u_29.2.2.2.1, u_29.2.2.2.2.1, u_29.2.2.2.2.2.1, u_29.2.2.2.2.2.2.1, u_29.2.2.2.2.2.2.2.1, u_29.2.2.2.2.2.2.2.2.1, u_29.2.2.2.2.2.2.2.2.2.1, u_29.2.2.2.2.2.2.2.2.2.2.1, u_29.2.2.2.2.2.2.2.2.2.2.2.1, u_29.2.2.2.2.2.2.2.2.2.2.2.2.1, u_29.2.2.2.2.2.2.2.2.2.2.2.2.2.1, u_29.2.2.2.2.2.2.2.2.2.2.2.2.2.2.1, x_31, u_29.2.2.2.2.2.2.2.2.2.2.2.2.2.2.2.2.1, u_29.2.2.2.2.2.2.2.2.2.2.2.2.2.2.2.2.2.1, u_29.2.2.2.2.2.2.2.2.2.2.2.2.2.2.2.2.2.2.1, u_29.2.2.2.2.2.2.2.2.2.2.2.2.2.2.2.2.2.2.2.1, u_29.2.2.2.2.2.2.2.2.2.2.2.2.2.2.2.2.2.2.2.2.1, u_29.2.2.2.2.2.2.2.2.2.2.2.2.2.2.2.2.2.2.2.2.2))) → wp_X10_factor RR u post := by
        intro u p L post hg hp1
        obtain ⟨hu, h0, hp, hpn, hsk, hne, hL⟩ := hg
        refine r_good h0 ⟨fun _ => q_next hT p hpn u hu hp ?_, fun q1 => absurd q1 (by decide)⟩
        rw [hsk]
        refine ⟨fun q1 => absurd hbv q1, fun _ => ⟨fun _ x25 e25 x26 e26 => ?_, fun q2 => absurd ((hdeq d hd4).mp (hne.symm.trans q2)) hd⟩⟩
        dsimp only at e25 e26
        rw [ix_1] at e25
        rw [hne, ix_1] at e26
        subst e25 e26
        exact hp1
      rcases hrec hdl (sk T n (q + 1)) hs1.2 with ⟨e, a, he, c1, r1⟩ | ⟨e, cs, val, f1, f2, f3, f4, f5, f6, c1, r1⟩
      · refine Or.inl ⟨e, a, he, ?_, ?_⟩
        · intro u0 x post hx hp
          exact hcls u0 x post hx (fun x' hx' => c1 u0 x' _ hx' (fun r x2 h2 => e_sign h2 (by decide) (fun x3 h3 => hp r x3 h3)))
        · intro u p L post hg hb hps
          refine href u p L post hg ?_
          obtain ⟨hu, h0, hp, hpn, hsk, hne, hL⟩ := hg
          refine r1 _ (q + 1) L _ ⟨hu, h0, rfl, by omega, rfl, rfl, hL⟩ (by omega) (fun u' hf e1 e2 => re_expect (by rw [e1]; exact he) (fun x31 e31 => hps _ ?_ e1 e2))
          exact ⟨hf.1, hf.2.1, hf.2.2.1, hf.2.2.2.1, hf.2.2.2.2.1, hf.2.2.2.2.2.1, hf.2.2.2.2.2.2⟩
      · have hs2 := sk_le (T := T) (n := n) (p := e) f2
        by_cases h41 : bc T n (sk T n e) = 41
        · have hq2 : sk T n e < n := bc_ne (T := T) (by omega)
          refine Or.inr ⟨sk T n e + 1, cs, val, by omega, by omega, f3, by omega, f5, f6, ?_, ?_⟩
          · intro u0 x post hx hp
            exact hcls u0 x post hx (fun x' hx' => c1 u0 x' _ hx' (fun x2 h2 => g_sign hT h2 (k := 41) (by omega) k41 l41 (fun _ x3 h3 => hp x3 h3) (fun q1 => absurd h41 q1)))
          · intro u p L post hg hb hps
            refine href u p L post hg ?_
            obtain ⟨hu, h0, hp, hpn, hsk, hne, hL⟩ := hg
            refine r1 _ (q + 1) L _ ⟨hu, h0, rfl, by omega, rfl, rfl, hL⟩ (by omega) (fun u' hk hg2 => ?_)
            obtain ⟨gu, g0, gp, gpn, gsk, gne, gL⟩ := hg2
            refine r_expect hT gu g0 gpn gp (k := 41) (by omega) (fun _ x31 e31 => ?_) (fun q1 => absurd h41 q1)
            dsimp only at e31
            rw [gne, show nI (d + 1) - 1 = nI d from nI_pred d] at e31
            subst e31
            obtain ⟨hf, hk2, hk3, hk4⟩ := hk
            exact hps _ ⟨⟨hf.1, hf.2.1, hf.2.2.1, hf.2.2.2.1, hf.2.2.2.2.1, hf.2.2.2.2.2.1, hf.2.2.2.2.2.2⟩, hk2, hk3, hk4⟩ ⟨gu, g0, rfl, by omega, rfl, rfl, gL⟩
        · refine Or.inl ⟨-2, nI (sk T n e), by decide, ?_, ?_⟩
          · intro u0 x post hx hp
            exact hcls u0 x post hx (fun x' hx' => c1 u0 x' _ hx' (fun x2 h2 => g_sign hT h2 (k := 41) (by omega) k41 l41 (fun q1 => absurd q1 h41) (fun _ x3 h3 => hp _ x3 h3)))
          · intro u p L post hg hb hps
            refine href u p L post hg ?_
            obtain ⟨hu, h0, hp, hpn, hsk, hne, hL⟩ := hg
            refine r1 _ (q + 1) L _ ⟨hu, h0, rfl, by omega, rfl, rfl, hL⟩ (by omega) (fun u' hk hg2 => ?_)
            obtain ⟨gu, g0, gp, gpn, gsk, gne, gL⟩ := hg2
            refine r_expect hT gu g0 gpn gp (k := 41) (by omega) (fun q1 => absurd q1 h41) (fun _ x31 e31 => ?_)
            obtain ⟨hf, hk2, hk3, hk4⟩ := hk
            exact hps _ ⟨hf.1, hf.2.1, hf.2.2.1, hf.2.2.2.1, hf.2.2.2.2.1, hf.2.2.2.2.2.1, hf.2.2.2.2.2.2⟩ rfl rfl
  · have hbv : ¬ bv (bc T n q) = (40 : Int32) := fun q1 => h40 ((bv_eq (bc_lt hT q) (k := 40) (by omega)).mp q1)
    have hcls : ∀ (u0 : S_X3) (x : S_X5) (post : Int64 → S_X3 × S_X5 → Prop), tk T n q x → (wd T n q (zsb 12) → ∀ x', tk T n (sk T n (q + 6)) x' → post u0.1.toInt64 (u0, x')) → (¬ wd T n q (zsb 12) → wd T n q (zsb 13) → ∀ x', tk T n (sk T n (q + 6)) x' → post (u0.1 - u0.1 / 4 * 4).toInt64 (u0, x')) → (¬ wd T n q (zsb 12) → ¬ wd T n q (zsb 13) → wd T n q (zsb 14) → ∀ x', tk T n (sk T n (q + 8)) x' → post u0.2.toInt64 (u0, x')) → (¬ wd T n q (zsb 12) → ¬ wd T n q (zsb 13) → ¬ wd T n q (zsb 14) → wp_X5_number x (nI 0) (nI 9999) (fun r x' => post r.toInt64 (u0, x'))) → wp_X3_factor RC u0 x (nI d) post := by
      intro u0 x post hx a1 a2 a3 a4
      have hk : ¬ x.2.2.2.2.1 = (40 : Int32) := fun q1 => h40 ((kd_sign (bc_lt hT q) (k := 40) (by omega) k40 l40).mp (hx.2.2.2.2.2.2.1.symm.trans q1))
      refine ⟨fun _ => ?_, fun q1 => absurd q1 hk⟩
      refine g_takeSign hT hx (k := 40) (by omega) k40 l40 (fun q1 => absurd q1 h40) (fun _ => ⟨fun _ => ?_, fun q1 => absurd rfl q1⟩)
      refine g_takeWord hT hx ws_12 (fun w x' hx' => ⟨fun q1 => absurd q1 (by decide), fun _ => a1 w x' (by rw [wz_12] at hx'; exact hx')⟩) (fun w12 => ⟨fun _ => ?_, fun q1 => absurd rfl q1⟩)
      refine g_takeWord hT hx ws_13 (fun w x' hx' => ⟨fun q1 => absurd q1 (by decide), fun _ => a2 w12 w x' (by rw [wz_13] at hx'; exact hx')⟩) (fun w13 => ⟨fun _ => ?_, fun q1 => absurd rfl q1⟩)
      refine g_takeWord hT hx ws_14 (fun w x' hx' => ⟨fun q1 => absurd q1 (by decide), fun _ => a3 w12 w13 w x' (by rw [wz_14] at hx'; exact hx')⟩) (fun w14 => ⟨fun _ => ?_, fun q1 => absurd rfl q1⟩)
      exact a4 w12 w13 w14
    have href : ∀ (u : S_X10) (p : Nat) (L : List Int32) (post : S_X10 → Prop), rg T B n u p q d L → (wd T n q (zsb 12) → j_X10_factor_129 RR 0 (u.1, u.2.1, u.2.2.1, u.2.2.2.1, (nI (q + 6)), u.2.2.2.2.2.1, u.2.2.2.2.2.2.1, u.2.2.2.2.2.2.2.1, u.2.2.2.2.2.2.2.2.1, u.2.2.2.2.2.2.2.2.2.1, u.2.2.2.2.2.2.2.2.2.2.1, u.2.2.2.2.2.2.2.2.2.2.2.1, u.2.2.2.2.2.2.2.2.2.2.2.2.1, u.2.2.2.2.2.2.2.2.2.2.2.2.2.1, u.2.2.2.2.2.2.2.2.2.2.2.2.2.2.1, u.2.2.2.2.2.2.2.2.2.2.2.2.2.2.2.1, u.2.2.2.2.2.2.2.2.2.2.2.2.2.2.2.2.1, u.2.2.2.2.2.2.2.2.2.2.2.2.2.2.2.2.2.1, u.2.2.2.2.2.2.2.2.2.2.2.2.2.2.2.2.2.2.1, u.2.2.2.2.2.2.2.2.2.2.2.2.2.2.2.2.2.2.2.1, u.2.2.2.2.2.2.2.2.2.2.2.2.2.2.2.2.2.2.2.2.1, u.2.2.2.2.2.2.2.2.2.2.2.2.2.2.2.2.2.2.2.2.2) post) → (¬ wd T n q (zsb 12) → wd T n q (zsb 13) → j_X10_factor_129 RR 1 (u.1, u.2.1, u.2.2.1, u.2.2.2.1, (nI (q + 6)), u.2.2.2.2.2.1, u.2.2.2.2.2.2.1, u.2.2.2.2.2.2.2.1, u.2.2.2.2.2.2.2.2.1, u.2.2.2.2.2.2.2.2.2.1, u.2.2.2.2.2.2.2.2.2.2.1, u.2.2.2.2.2.2.2.2.2.2.2.1, u.2.2.2.2.2.2.2.2.2.2.2.2.1, u.2.2.2.2.2.2.2.2.2.2.2.2.2.1, u.2.2.2.2.2.2.2.2.2.2.2.2.2.2.1, u.2.2.2.2.2.2.2.2.2.2.2.2.2.2.2.1, u.2.2.2.2.2.2.2.2.2.2.2.2.2.2.2.2.1, u.2.2.2.2.2.2.2.2.2.2.2.2.2.2.2.2.2.1, u.2.2.2.2.2.2.2.2.2.2.2.2.2.2.2.2.2.2.1, u.2.2.2.2.2.2.2.2.2.2.2.2.2.2.2.2.2.2.2.1, u.2.2.2.2.2.2.2.2.2.2.2.2.2.2.2.2.2.2.2.2.1, u.2.2.2.2.2.2.2.2.2.2.2.2.2.2.2.2.2.2.2.2.2) post) → (¬ wd T n q (zsb 12) → ¬ wd T n q (zsb 13) → wd T n q (zsb 14) → j_X10_factor_129 RR 2 (u.1, u.2.1, u.2.2.1, u.2.2.2.1, (nI (q + 8)), u.2.2.2.2.2.1, u.2.2.2.2.2.2.1, u.2.2.2.2.2.2.2.1, u.2.2.2.2.2.2.2.2.1, u.2.2.2.2.2.2.2.2.2.1, u.2.2.2.2.2.2.2.2.2.2.1, u.2.2.2.2.2.2.2.2.2.2.2.1, u.2.2.2.2.2.2.2.2.2.2.2.2.1, u.2.2.2.2.2.2.2.2.2.2.2.2.2.1, u.2.2.2.2.2.2.2.2.2.2.2.2.2.2.1, u.2.2.2.2.2.2.2.2.2.2.2.2.2.2.2.1, u.2.2.2.2.2.2.2.2.2.2.2.2.2.2.2.2.1, u.2.2.2.2.2.2.2.2.2.2.2.2.2.2.2.2.2.1, u.2.2.2.2.2.2.2.2.2.2.2.2.2.2.2.2.2.2.1, u.2.2.2.2.2.2.2.2.2.2.2.2.2.2.2.2.2.2.2.1, u.2.2.2.2.2.2.2.2.2.2.2.2.2.2.2.2.2.2.2.2.1, u.2.2.2.2.2.2.2.2.2.2.2.2.2.2.2.2.2.2.2.2.2) post) → (¬ wd T n q (zsb 12) → ¬ wd T n q (zsb 13) → ¬ wd T n q (zsb 14) → j_X10_factor_129 RR (-1) (u.1, u.2.1, u.2.2.1, u.2.2.2.1, (nI q), u.2.2.2.2.2.1, u.2.2.2.2.2.2.1, u.2.2.2.2.2.2.2.1, u.2.2.2.2.2.2.2.2.1, u.2.2.2.2.2.2.2.2.2.1, u.2.2.2.2.2.2.2.2.2.2.1, u.2.2.2.2.2.2.2.2.2.2.2.1, u.2.2.2.2.2.2.2.2.2.2.2.2.1, u.2.2.2.2.2.2.2.2.2.2.2.2.2.1, u.2.2.2.2.2.2.2.2.2.2.2.2.2.2.1, u.2.2.2.2.2.2.2.2.2.2.2.2.2.2.2.1, u.2.2.2.2.2.2.2.2.2.2.2.2.2.2.2.2.1, u.2.2.2.2.2.2.2.2.2.2.2.2.2.2.2.2.2.1, u.2.2.2.2.2.2.2.2.2.2.2.2.2.2.2.2.2.2.1, u.2.2.2.2.2.2.2.2.2.2.2.2.2.2.2.2.2.2.2.1, u.2.2.2.2.2.2.2.2.2.2.2.2.2.2.2.2.2.2.2.2.1, u.2.2.2.2.2.2.2.2.2.2.2.2.2.2.2.2.2.2.2.2.2) post) → wp_X10_factor RR u post := by
      intro u p L post hg a1 a2 a3 a4
      obtain ⟨hu, h0, hp, hpn, hsk, hne, hL⟩ := hg
      have hqq : sk T n q = q := by rw [← hsk]; exact sk_sk hpn
      refine r_good h0 ⟨fun _ => q_next hT p hpn u hu hp ?_, fun q1 => absurd q1 (by decide)⟩
      rw [hsk]
      refine ⟨fun _ => q_isDigit (bc_lt hT q) ?_, fun q1 => absurd q1 hbv⟩
      cases hdg : Pd (bc T n q) with
      | true =>
        have hnw : ∀ w, wOK w = true → ¬ wd T n q w := by
          intro w hw h
          have h1 := (wd_let hw h).1
          rw [Pl_iff] at h1
          rw [Pd_iff] at hdg
          omega
        exact ⟨fun q1 => absurd q1 (by decide), fun _ => a4 (hnw _ ws_12) (hnw _ ws_13) (hnw _ ws_14)⟩
      | false =>
        refine ⟨fun _ => ?_, fun q1 => absurd rfl q1⟩
        rw [we_24]
        refine r_takeWord hT (u := (u.1, u.2.1, u.2.2.1, u.2.2.2.1, (nI q), u.2.2.2.2.2.1, u.2.2.2.2.2.2.1, u.2.2.2.2.2.2.2.1, u.2.2.2.2.2.2.2.2.1, u.2.2.2.2.2.2.2.2.2.1, u.2.2.2.2.2.2.2.2.2.2.1, u.2.2.2.2.2.2.2.2.2.2.2.1, u.2.2.2.2.2.2.2.2.2.2.2.2.1, u.2.2.2.2.2.2.2.2.2.2.2.2.2.1, u.2.2.2.2.2.2.2.2.2.2.2.2.2.2.1, u.2.2.2.2.2.2.2.2.2.2.2.2.2.2.2.1, u.2.2.2.2.2.2.2.2.2.2.2.2.2.2.2.2.1, u.2.2.2.2.2.2.2.2.2.2.2.2.2.2.2.2.2.1, u.2.2.2.2.2.2.2.2.2.2.2.2.2.2.2.2.2.2.1, u.2.2.2.2.2.2.2.2.2.2.2.2.2.2.2.2.2.2.2.1, u.2.2.2.2.2.2.2.2.2.2.2.2.2.2.2.2.2.2.2.2.1, u.2.2.2.2.2.2.2.2.2.2.2.2.2.2.2.2.2.2.2.2.2)) (p := q) hu h0 hqn rfl ws_12 (fun w => ⟨fun q1 => absurd q1 (by decide), fun _ => ?_⟩) (fun w12 => ⟨fun _ => ?_, fun q1 => absurd rfl q1⟩)
        · rw [hqq] at w ⊢
          exact a1 w
        rw [hqq] at w12 ⊢
        rw [we_25]
        refine r_takeWord hT (u := (u.1, u.2.1, u.2.2.1, u.2.2.2.1, (nI q), u.2.2.2.2.2.1, u.2.2.2.2.2.2.1, u.2.2.2.2.2.2.2.1, u.2.2.2.2.2.2.2.2.1, u.2.2.2.2.2.2.2.2.2.1, u.2.2.2.2.2.2.2.2.2.2.1, u.2.2.2.2.2.2.2.2.2.2.2.1, u.2.2.2.2.2.2.2.2.2.2.2.2.1, u.2.2.2.2.2.2.2.2.2.2.2.2.2.1, u.2.2.2.2.2.2.2.2.2.2.2.2.2.2.1, u.2.2.2.2.2.2.2.2.2.2.2.2.2.2.2.1, u.2.2.2.2.2.2.2.2.2.2.2.2.2.2.2.2.1, u.2.2.2.2.2.2.2.2.2.2.2.2.2.2.2.2.2.1, u.2.2.2.2.2.2.2.2.2.2.2.2.2.2.2.2.2.2.1, u.2.2.2.2.2.2.2.2.2.2.2.2.2.2.2.2.2.2.2.1, u.2.2.2.2.2.2.2.2.2.2.2.2.2.2.2.2.2.2.2.2.1, u.2.2.2.2.2.2.2.2.2.2.2.2.2.2.2.2.2.2.2.2.2)) (p := q) hu h0 hqn rfl ws_13 (fun w => ⟨fun q1 => absurd q1 (by decide), fun _ => ?_⟩) (fun w13 => ⟨fun _ => ?_, fun q1 => absurd rfl q1⟩)
        · rw [hqq] at w ⊢
          exact a2 w12 w
        rw [hqq] at w13 ⊢
        rw [we_26]
        refine r_takeWord hT (u := (u.1, u.2.1, u.2.2.1, u.2.2.2.1, (nI q), u.2.2.2.2.2.1, u.2.2.2.2.2.2.1, u.2.2.2.2.2.2.2.1, u.2.2.2.2.2.2.2.2.1, u.2.2.2.2.2.2.2.2.2.1, u.2.2.2.2.2.2.2.2.2.2.1, u.2.2.2.2.2.2.2.2.2.2.2.1, u.2.2.2.2.2.2.2.2.2.2.2.2.1, u.2.2.2.2.2.2.2.2.2.2.2.2.2.1, u.2.2.2.2.2.2.2.2.2.2.2.2.2.2.1, u.2.2.2.2.2.2.2.2.2.2.2.2.2.2.2.1, u.2.2.2.2.2.2.2.2.2.2.2.2.2.2.2.2.1, u.2.2.2.2.2.2.2.2.2.2.2.2.2.2.2.2.2.1, u.2.2.2.2.2.2.2.2.2.2.2.2.2.2.2.2.2.2.1, u.2.2.2.2.2.2.2.2.2.2.2.2.2.2.2.2.2.2.2.1, u.2.2.2.2.2.2.2.2.2.2.2.2.2.2.2.2.2.2.2.2.1, u.2.2.2.2.2.2.2.2.2.2.2.2.2.2.2.2.2.2.2.2.2)) (p := q) hu h0 hqn rfl ws_14 (fun w => ⟨fun q1 => absurd q1 (by decide), fun _ => ?_⟩) (fun w14 => ⟨fun _ => ?_, fun q1 => absurd rfl q1⟩)
        · rw [hqq] at w ⊢
          exact a3 w12 w13 w
        · rw [hqq] at w14 ⊢
          exact a4 w12 w13 w14
    have hvar : ∀ (k : Nat), k < 3 → ∀ (u : S_X10) (L : List Int32) (post : S_X10 → Prop), u.2.2.2.2.2.1 = 0 → cod u.2.2.2.2.2.2.2.2.2.1 L → L.length ≤ 1280 → (∀ D', dF u.2.2.2.2.2.2.2.2.2.1 D' → cod D' (L ++ [1, nI k]) → post (u.1, u.2.1, u.2.2.1, u.2.2.2.1, u.2.2.2.2.1, u.2.2.2.2.2.1, u.2.2.2.2.2.2.1, u.2.2.2.2.2.2.2.1, u.2.2.2.2.2.2.2.2.1, D', u.2.2.2.2.2.2.2.2.2.2.1, u.2.2.2.2.2.2.2.2.2.2.2.1, u.2.2.2.2.2.2.2.2.2.2.2.2.1, u.2.2.2.2.2.2.2.2.2.2.2.2.2.1, u.2.2.2.2.2.2.2.2.2.2.2.2.2.2.1, u.2.2.2.2.2.2.2.2.2.2.2.2.2.2.2.1, u.2.2.2.2.2.2.2.2.2.2.2.2.2.2.2.2.1, u.2.2.2.2.2.2.2.2.2.2.2.2.2.2.2.2.2.1, u.2.2.2.2.2.2.2.2.2.2.2.2.2.2.2.2.2.2.1, u.2.2.2.2.2.2.2.2.2.2.2.2.2.2.2.2.2.2.2.1, u.2.2.2.2.2.2.2.2.2.2.2.2.2.2.2.2.2.2.2.2.1, u.2.2.2.2.2.2.2.2.2.2.2.2.2.2.2.2.2.2.2.2.2)) → j_X10_factor_129 RR (nI k) u post := by
      intro k hk u L post h0 hL hm hp
      have h1 : (0 : Int32) ≤ nI k := nI_pos' (by omega)
      exact ⟨fun _ => ⟨fun _ => r_pair RR h0 hL hm hp, fun q1 => absurd h1 q1⟩, fun q1 => absurd h1 q1⟩
    by_cases w12 : wd T n q (zsb 12)
    · have hle := (wd_let ws_12 w12).2.2
      rw [wz_12] at hle
      refine Or.inr ⟨q + 6, [1, 0], fun u => u.1.toInt64, by omega, hle, by decide, by simp <;> omega, ev_var0, ?_, ?_, ?_⟩
      · intro u ⟨k, hk, ek⟩ _
        dsimp only
        rw [ek, Int32.toInt_toInt64, nI_toInt (by omega)]; omega
      · intro u0 x post hx hp
        exact hcls u0 x post hx (fun _ => hp) (fun q1 => absurd w12 q1) (fun q1 => absurd w12 q1) (fun q1 => absurd w12 q1)
      · intro u p L post hg hb hps
        refine href u p L post hg (fun _ => ?_) (fun q1 => absurd w12 q1) (fun q1 => absurd w12 q1) (fun q1 => absurd w12 q1)
        obtain ⟨hu, h0, hp, hpn, hsk, hne, hL⟩ := hg
        refine hvar 0 (by omega) (u.1, u.2.1, u.2.2.1, u.2.2.2.1, (nI (q + 6)), u.2.2.2.2.2.1, u.2.2.2.2.2.2.1, u.2.2.2.2.2.2.2.1, u.2.2.2.2.2.2.2.2.1, u.2.2.2.2.2.2.2.2.2.1, u.2.2.2.2.2.2.2.2.2.2.1, u.2.2.2.2.2.2.2.2.2.2.2.1, u.2.2.2.2.2.2.2.2.2.2.2.2.1, u.2.2.2.2.2.2.2.2.2.2.2.2.2.1, u.2.2.2.2.2.2.2.2.2.2.2.2.2.2.1, u.2.2.2.2.2.2.2.2.2.2.2.2.2.2.2.1, u.2.2.2.2.2.2.2.2.2.2.2.2.2.2.2.2.1, u.2.2.2.2.2.2.2.2.2.2.2.2.2.2.2.2.2.1, u.2.2.2.2.2.2.2.2.2.2.2.2.2.2.2.2.2.2.1, u.2.2.2.2.2.2.2.2.2.2.2.2.2.2.2.2.2.2.2.1, u.2.2.2.2.2.2.2.2.2.2.2.2.2.2.2.2.2.2.2.2.1, u.2.2.2.2.2.2.2.2.2.2.2.2.2.2.2.2.2.2.2.2.2) L post h0 hL (by omega) (fun D' f1 c1 => hps _ ⟨⟨rfl, rfl, rfl, rfl, rfl, rfl, rfl⟩, rfl, rfl, f1⟩ ⟨hu, h0, rfl, hle, rfl, hne, c1⟩)
    by_cases w13 : wd T n q (zsb 13)
    · have hle := (wd_let ws_13 w13).2.2
      rw [wz_13] at hle
      refine Or.inr ⟨q + 6, [1, 1], fun u => (u.1 - u.1 / 4 * 4).toInt64, by omega, hle, by decide, by simp <;> omega, ev_var1, ?_, ?_, ?_⟩
      · intro u ⟨k, hk, ek⟩ _
        dsimp only
        rw [ek, show (4 : Int32) = nI 4 from rfl, pk_rem (by omega) (by omega) (by omega), Int32.toInt_toInt64, nI_toInt (by omega)]; omega
      · intro u0 x post hx hp
        exact hcls u0 x post hx (fun q1 => absurd q1 w12) (fun _ _ => hp) (fun _ q1 => absurd w13 q1) (fun _ q1 => absurd w13 q1)
      · intro u p L post hg hb hps
        refine href u p L post hg (fun q1 => absurd q1 w12) (fun _ _ => ?_) (fun _ q1 => absurd w13 q1) (fun _ q1 => absurd w13 q1)
        obtain ⟨hu, h0, hp, hpn, hsk, hne, hL⟩ := hg
        refine hvar 1 (by omega) (u.1, u.2.1, u.2.2.1, u.2.2.2.1, (nI (q + 6)), u.2.2.2.2.2.1, u.2.2.2.2.2.2.1, u.2.2.2.2.2.2.2.1, u.2.2.2.2.2.2.2.2.1, u.2.2.2.2.2.2.2.2.2.1, u.2.2.2.2.2.2.2.2.2.2.1, u.2.2.2.2.2.2.2.2.2.2.2.1, u.2.2.2.2.2.2.2.2.2.2.2.2.1, u.2.2.2.2.2.2.2.2.2.2.2.2.2.1, u.2.2.2.2.2.2.2.2.2.2.2.2.2.2.1, u.2.2.2.2.2.2.2.2.2.2.2.2.2.2.2.1, u.2.2.2.2.2.2.2.2.2.2.2.2.2.2.2.2.1, u.2.2.2.2.2.2.2.2.2.2.2.2.2.2.2.2.2.1, u.2.2.2.2.2.2.2.2.2.2.2.2.2.2.2.2.2.2.1, u.2.2.2.2.2.2.2.2.2.2.2.2.2.2.2.2.2.2.2.1, u.2.2.2.2.2.2.2.2.2.2.2.2.2.2.2.2.2.2.2.2.1, u.2.2.2.2.2.2.2.2.2.2.2.2.2.2.2.2.2.2.2.2.2) L post h0 hL (by omega) (fun D' f1 c1 => hps _ ⟨⟨rfl, rfl, rfl, rfl, rfl, rfl, rfl⟩, rfl, rfl, f1⟩ ⟨hu, h0, rfl, hle, rfl, hne, c1⟩)
    by_cases w14 : wd T n q (zsb 14)
    · have hle := (wd_let ws_14 w14).2.2
      rw [wz_14] at hle
      refine Or.inr ⟨q + 8, [1, 2], fun u => u.2.toInt64, by omega, hle, by decide, by simp <;> omega, ev_var2, ?_, ?_, ?_⟩
      · intro u _ ⟨k, hk, ek⟩
        dsimp only
        rw [ek, Int32.toInt_toInt64, nI_toInt (by omega)]; omega
      · intro u0 x post hx hp
        exact hcls u0 x post hx (fun q1 => absurd q1 w12) (fun _ q1 => absurd q1 w13) (fun _ _ _ => hp) (fun _ _ q1 => absurd w14 q1)
      · intro u p L post hg hb hps
        refine href u p L post hg (fun q1 => absurd q1 w12) (fun _ q1 => absurd q1 w13) (fun _ _ _ => ?_) (fun _ _ q1 => absurd w14 q1)
        obtain ⟨hu, h0, hp, hpn, hsk, hne, hL⟩ := hg
        refine hvar 2 (by omega) (u.1, u.2.1, u.2.2.1, u.2.2.2.1, (nI (q + 8)), u.2.2.2.2.2.1, u.2.2.2.2.2.2.1, u.2.2.2.2.2.2.2.1, u.2.2.2.2.2.2.2.2.1, u.2.2.2.2.2.2.2.2.2.1, u.2.2.2.2.2.2.2.2.2.2.1, u.2.2.2.2.2.2.2.2.2.2.2.1, u.2.2.2.2.2.2.2.2.2.2.2.2.1, u.2.2.2.2.2.2.2.2.2.2.2.2.2.1, u.2.2.2.2.2.2.2.2.2.2.2.2.2.2.1, u.2.2.2.2.2.2.2.2.2.2.2.2.2.2.2.1, u.2.2.2.2.2.2.2.2.2.2.2.2.2.2.2.2.1, u.2.2.2.2.2.2.2.2.2.2.2.2.2.2.2.2.2.1, u.2.2.2.2.2.2.2.2.2.2.2.2.2.2.2.2.2.2.1, u.2.2.2.2.2.2.2.2.2.2.2.2.2.2.2.2.2.2.2.1, u.2.2.2.2.2.2.2.2.2.2.2.2.2.2.2.2.2.2.2.2.1, u.2.2.2.2.2.2.2.2.2.2.2.2.2.2.2.2.2.2.2.2.2) L post h0 hL (by omega) (fun D' f1 c1 => hps _ ⟨⟨rfl, rfl, rfl, rfl, rfl, rfl, rfl⟩, rfl, rfl, f1⟩ ⟨hu, h0, rfl, hle, rfl, hne, c1⟩)
    -- a number
    have hcn : ∀ (u0 : S_X3) (x : S_X5) (post : Int64 → S_X3 × S_X5 → Prop), tk T n q x → wp_X5_number x (nI 0) (nI 9999) (fun r x' => post r.toInt64 (u0, x')) → wp_X3_factor RC u0 x (nI d) post := fun u0 x post hx hp => hcls u0 x post hx (fun q1 => absurd q1 w12) (fun _ q1 => absurd q1 w13) (fun _ _ q1 => absurd q1 w14) (fun _ _ _ => hp)
    have hrn : ∀ (u : S_X10) (p : Nat) (L : List Int32) (post : S_X10 → Prop), rg T B n u p q d L → wp_X10_number (u.1, u.2.1, u.2.2.1, u.2.2.2.1, (nI q), u.2.2.2.2.2.1, u.2.2.2.2.2.2.1, u.2.2.2.2.2.2.2.1, u.2.2.2.2.2.2.2.2.1, u.2.2.2.2.2.2.2.2.2.1, u.2.2.2.2.2.2.2.2.2.2.1, u.2.2.2.2.2.2.2.2.2.2.2.1, u.2.2.2.2.2.2.2.2.2.2.2.2.1, u.2.2.2.2.2.2.2.2.2.2.2.2.2.1, u.2.2.2.2.2.2.2.2.2.2.2.2.2.2.1, u.2.2.2.2.2.2.2.2.2.2.2.2.2.2.2.1, u.2.2.2.2.2.2.2.2.2.2.2.2.2.2.2.2.1, u.2.2.2.2.2.2.2.2.2.2.2.2.2.2.2.2.2.1, u.2.2.2.2.2.2.2.2.2.2.2.2.2.2.2.2.2.2.1, u.2.2.2.2.2.2.2.2.2.2.2.2.2.2.2.2.2.2.2.1, u.2.2.2.2.2.2.2.2.2.2.2.2.2.2.2.2.2.2.2.2.1, u.2.2.2.2.2.2.2.2.2.2.2.2.2.2.2.2.2.2.2.2.2) (nI 0) (nI 9999) (fun r u' => j_X10_factor_157 RR r 0 u' post) → wp_X10_factor RR u post := by
      intro u p L post hg hp
      refine href u p L post hg (fun q1 => absurd q1 w12) (fun _ q1 => absurd q1 w13) (fun _ _ q1 => absurd q1 w14) (fun _ _ _ => ⟨fun q1 => absurd q1 (by decide), fun _ => ?_⟩)
      have e1 : ∀ (r : Int32) (u' : S_X10), j_X10_factor_157 RR r 0 u' post → j_X10_factor_146 RR (-1) r u' post := fun r u' h => ⟨fun q1 => absurd q1 (by decide), fun _ => h⟩
      have e2 : (fun (r : Int32) (u' : S_X10) => j_X10_factor_146 RR (-1) r u' post) = (fun (r : Int32) (u' : S_X10) => j_X10_factor_157 RR r 0 u' post) := by
        funext r u'
        exact propext ⟨fun h => h.2 (by decide), e1 r u'⟩
      show wp_X10_number (u.1, u.2.1, u.2.2.1, u.2.2.2.1, (nI q), u.2.2.2.2.2.1, u.2.2.2.2.2.2.1, u.2.2.2.2.2.2.2.1, u.2.2.2.2.2.2.2.2.1, u.2.2.2.2.2.2.2.2.2.1, u.2.2.2.2.2.2.2.2.2.2.1, u.2.2.2.2.2.2.2.2.2.2.2.1, u.2.2.2.2.2.2.2.2.2.2.2.2.1, u.2.2.2.2.2.2.2.2.2.2.2.2.2.1, u.2.2.2.2.2.2.2.2.2.2.2.2.2.2.1, u.2.2.2.2.2.2.2.2.2.2.2.2.2.2.2.1, u.2.2.2.2.2.2.2.2.2.2.2.2.2.2.2.2.1, u.2.2.2.2.2.2.2.2.2.2.2.2.2.2.2.2.2.1, u.2.2.2.2.2.2.2.2.2.2.2.2.2.2.2.2.2.2.1, u.2.2.2.2.2.2.2.2.2.2.2.2.2.2.2.2.2.2.2.1, u.2.2.2.2.2.2.2.2.2.2.2.2.2.2.2.2.2.2.2.2.1, u.2.2.2.2.2.2.2.2.2.2.2.2.2.2.2.2.2.2.2.2.2) (nI 0) (nI 9999) (fun (r : Int32) (u' : S_X10) => j_X10_factor_146 RR (-1) r u' post)
      rw [e2]
      exact hp
    have hqq : ∀ (u : S_X10) (p : Nat) (L : List Int32), rg T B n u p q d L → sk T n q = q := fun u p L hg => by rw [← hg.2.2.2.2.1]; exact sk_sk hg.2.2.2.1
    cases hdg : Pd (bc T n q) with
    | false =>
      refine Or.inl ⟨-2, nI q, by decide, ?_, ?_⟩
      · intro u0 x post hx hp
        exact hcn u0 x post hx (g_number hT hx (by omega) (by omega) (fun _ x' h' => hp _ x' h') (fun q1 => absurd (hdg.symm.trans q1) (by decide)) (fun q1 => absurd (hdg.symm.trans q1) (by decide)))
      · intro u p L post hg hb hps
        have hq2 := hqq u p L hg
        refine hrn u p L post hg ?_
        obtain ⟨hu, h0, hp, hpn, hsk, hne, hL⟩ := hg
        refine r_number hT (u := (u.1, u.2.1, u.2.2.1, u.2.2.2.1, (nI q), u.2.2.2.2.2.1, u.2.2.2.2.2.2.1, u.2.2.2.2.2.2.2.1, u.2.2.2.2.2.2.2.2.1, u.2.2.2.2.2.2.2.2.2.1, u.2.2.2.2.2.2.2.2.2.2.1, u.2.2.2.2.2.2.2.2.2.2.2.1, u.2.2.2.2.2.2.2.2.2.2.2.2.1, u.2.2.2.2.2.2.2.2.2.2.2.2.2.1, u.2.2.2.2.2.2.2.2.2.2.2.2.2.2.1, u.2.2.2.2.2.2.2.2.2.2.2.2.2.2.2.1, u.2.2.2.2.2.2.2.2.2.2.2.2.2.2.2.2.1, u.2.2.2.2.2.2.2.2.2.2.2.2.2.2.2.2.2.1, u.2.2.2.2.2.2.2.2.2.2.2.2.2.2.2.2.2.2.1, u.2.2.2.2.2.2.2.2.2.2.2.2.2.2.2.2.2.2.2.1, u.2.2.2.2.2.2.2.2.2.2.2.2.2.2.2.2.2.2.2.2.1, u.2.2.2.2.2.2.2.2.2.2.2.2.2.2.2.2.2.2.2.2.2)) (p := q) hu h0 hqn rfl (by omega) (by omega) (fun _ => ?_) (fun q1 => ?_) (fun q1 => ?_)
        · refine re_emit ne2 (re_emit ne2 (hps _ ⟨rfl, rfl, rfl, rfl, rfl, rfl, rfl⟩ rfl ?_))
          dsimp only
          rw [hq2]
        · rw [hq2, hdg] at q1; exact absurd q1 (by decide)
        · rw [hq2, hdg] at q1; exact absurd q1 (by decide)
    | true =>
      obtain ⟨e1, e2, e3⟩ := dig_end hT hdg
      by_cases hr : nd T n q ≤ 9999
      · refine Or.inr ⟨ru Pd T n q, [0, nI (nd T n q)], fun _ => (nI (nd T n q)).toInt64, e1, e2, by simp, by simp <;> omega, ev_lit _, ?_, ?_, ?_⟩
        · intro u _ _
          dsimp only
          rw [Int32.toInt_toInt64, nI_toInt (by omega)]; omega
        · intro u0 x post hx hp
          exact hcn u0 x post hx (g_number hT hx (by omega) (by omega) (fun q1 => absurd (hdg.symm.trans q1) (by decide)) (fun _ q1 => absurd ⟨by omega, hr⟩ q1) (fun _ _ _ x' h' => hp x' h'))
        · intro u p L post hg hb hps
          have hq2 := hqq u p L hg
          refine hrn u p L post hg ?_
          obtain ⟨hu, h0, hp, hpn, hsk, hne, hL⟩ := hg
          refine r_number hT (u := (u.1, u.2.1, u.2.2.1, u.2.2.2.1, (nI q), u.2.2.2.2.2.1, u.2.2.2.2.2.2.1, u.2.2.2.2.2.2.2.1, u.2.2.2.2.2.2.2.2.1, u.2.2.2.2.2.2.2.2.2.1, u.2.2.2.2.2.2.2.2.2.2.1, u.2.2.2.2.2.2.2.2.2.2.2.1, u.2.2.2.2.2.2.2.2.2.2.2.2.1, u.2.2.2.2.2.2.2.2.2.2.2.2.2.1, u.2.2.2.2.2.2.2.2.2.2.2.2.2.2.1, u.2.2.2.2.2.2.2.2.2.2.2.2.2.2.2.1, u.2.2.2.2.2.2.2.2.2.2.2.2.2.2.2.2.1, u.2.2.2.2.2.2.2.2.2.2.2.2.2.2.2.2.2.1, u.2.2.2.2.2.2.2.2.2.2.2.2.2.2.2.2.2.2.1, u.2.2.2.2.2.2.2.2.2.2.2.2.2.2.2.2.2.2.2.1, u.2.2.2.2.2.2.2.2.2.2.2.2.2.2.2.2.2.2.2.2.1, u.2.2.2.2.2.2.2.2.2.2.2.2.2.2.2.2.2.2.2.2.2)) (p := q) hu h0 hqn rfl (by omega) (by omega) (fun q1 => ?_) (fun _ q1 => ?_) (fun _ _ _ => ?_)
          · rw [hq2, hdg] at q1; exact absurd q1 (by decide)
          · rw [hq2] at q1; exact absurd ⟨by omega, hr⟩ q1
          · rw [hq2]
            exact r_pair RR (u := (u.1, u.2.1, u.2.2.1, u.2.2.2.1, (nI (ru Pd T n q)), u.2.2.2.2.2.1, u.2.2.2.2.2.2.1, u.2.2.2.2.2.2.2.1, u.2.2.2.2.2.2.2.2.1, u.2.2.2.2.2.2.2.2.2.1, u.2.2.2.2.2.2.2.2.2.2.1, u.2.2.2.2.2.2.2.2.2.2.2.1, u.2.2.2.2.2.2.2.2.2.2.2.2.1, u.2.2.2.2.2.2.2.2.2.2.2.2.2.1, (nI q), u.2.2.2.2.2.2.2.2.2.2.2.2.2.2.2.1, u.2.2.2.2.2.2.2.2.2.2.2.2.2.2.2.2.1, u.2.2.2.2.2.2.2.2.2.2.2.2.2.2.2.2.2.1, u.2.2.2.2.2.2.2.2.2.2.2.2.2.2.2.2.2.2.1, u.2.2.2.2.2.2.2.2.2.2.2.2.2.2.2.2.2.2.2.1, u.2.2.2.2.2.2.2.2.2.2.2.2.2.2.2.2.2.2.2.2.1, u.2.2.2.2.2.2.2.2.2.2.2.2.2.2.2.2.2.2.2.2.2)) h0 hL (by omega) (fun D' f1 c1 => hps _ ⟨⟨rfl, rfl, rfl, rfl, rfl, rfl, rfl⟩, rfl, rfl, f1⟩ ⟨hu, h0, rfl, e2, rfl, hne, c1⟩)
      · refine Or.inl ⟨-3, nI q, by decide, ?_, ?_⟩
        · intro u0 x post hx hp
          exact hcn u0 x post hx (g_number hT hx (by omega) (by omega) (fun q1 => absurd (hdg.symm.trans q1) (by decide)) (fun _ _ x' h' => hp _ x' h') (fun _ _ q1 => absurd q1 hr))
        · intro u p L post hg hb hps
          have hq2 := hqq u p L hg
          refine hrn u p L post hg ?_
          obtain ⟨hu, h0, hp, hpn, hsk, hne, hL⟩ := hg
          refine r_number hT (u := (u.1, u.2.1, u.2.2.1, u.2.2.2.1, (nI q), u.2.2.2.2.2.1, u.2.2.2.2.2.2.1, u.2.2.2.2.2.2.2.1, u.2.2.2.2.2.2.2.2.1, u.2.2.2.2.2.2.2.2.2.1, u.2.2.2.2.2.2.2.2.2.2.1, u.2.2.2.2.2.2.2.2.2.2.2.1, u.2.2.2.2.2.2.2.2.2.2.2.2.1, u.2.2.2.2.2.2.2.2.2.2.2.2.2.1, u.2.2.2.2.2.2.2.2.2.2.2.2.2.2.1, u.2.2.2.2.2.2.2.2.2.2.2.2.2.2.2.1, u.2.2.2.2.2.2.2.2.2.2.2.2.2.2.2.2.1, u.2.2.2.2.2.2.2.2.2.2.2.2.2.2.2.2.2.1, u.2.2.2.2.2.2.2.2.2.2.2.2.2.2.2.2.2.2.1, u.2.2.2.2.2.2.2.2.2.2.2.2.2.2.2.2.2.2.2.1, u.2.2.2.2.2.2.2.2.2.2.2.2.2.2.2.2.2.2.2.2.1, u.2.2.2.2.2.2.2.2.2.2.2.2.2.2.2.2.2.2.2.2.2)) (p := q) hu h0 hqn rfl (by omega) (by omega) (fun q1 => ?_) (fun _ _ => ?_) (fun _ _ q1 => ?_)
          · rw [hq2, hdg] at q1; exact absurd q1 (by decide)
          · refine re_emit ne3 (re_emit ne3 (hps _ ⟨rfl, rfl, rfl, rfl, rfl, rfl, rfl⟩ rfl ?_))
            dsimp only
            rw [hq2]
          · rw [hq2] at q1; exact absurd q1 hr
end
