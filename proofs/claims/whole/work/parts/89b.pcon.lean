/-! The contract's line. -/
def fl (f : Nat → Int32) (v : Int32) : Nat → Int32 := fun j => if j < 40 then v else f j
def flL (f : Nat → Int64) (v : Int64) : Nat → Int64 := fun j => if j < 40 then v else f j
theorem q_fill (f : Nat → Int32) (v : Int32) (post : (Nat → Int32) → Prop) (h : post (fl f v)) : wp_J7_fill_53178 f v post := by
  unfold wp_J7_fill_53178
  refine zl_for (fun k w => (v, nI k, (40 : Int32), w)) (fun k w => upd w k v) 40 f rfl ?_ ?_
  · intro k hk K hK
    refine ⟨fun h1 => ?_, fun _ => ⟨in_of hk (by omega), fun x3 e3 => ?_⟩⟩
    · dsimp only at h1
      rw [show (40 : Int32) = nI 40 from rfl, le_nI (by omega) (by omega)] at h1; omega
    · dsimp only at e3 ⊢
      rw [ix_1] at e3
      subst e3
      rw [cl_nI (by omega)]
      exact hK
  · intro K
    refine ⟨fun _ => ?_, fun h1 => absurd (show (40 : Int32) ≤ nI 40 by decide) h1⟩
    rw [fo_fill (fun _ => v)]
    exact h
theorem q_fillL (f : Nat → Int64) (v : Int64) (post : (Nat → Int64) → Prop) (h : post (flL f v)) : wp_J7_fill_d0a16 f v post := by
  unfold wp_J7_fill_d0a16
  refine zl_for (fun k w => (v, nI k, (40 : Int32), w)) (fun k w => vp_updL w k v) 40 f rfl ?_ ?_
  · intro k hk K hK
    refine ⟨fun h1 => ?_, fun _ => ⟨in_of hk (by omega), fun x3 e3 => ?_⟩⟩
    · dsimp only at h1
      rw [show (40 : Int32) = nI 40 from rfl, le_nI (by omega) (by omega)] at h1; omega
    · dsimp only at e3 ⊢
      rw [ix_1] at e3
      subst e3
      rw [cl_nI (by omega)]
      exact hK
  · intro K
    refine ⟨fun _ => ?_, fun h1 => absurd (show (40 : Int32) ≤ nI 40 by decide) h1⟩
    rw [fo_fillL (fun _ => v)]
    exact h
def clA (a : S_X0) (r : Int32) : S_X0 := ((0 : Int32), fl a.2.1 r, fl a.2.2.1 r, fl a.2.2.2.1 (-1), fl a.2.2.2.2.1 0, fl a.2.2.2.2.2.1 0, flL a.2.2.2.2.2.2 0)
theorem q_clearA (a : S_X0) (r : Int32) (post : S_X0 → Prop) (h : post (clA a r)) : wp_X0_clear a r post :=
  q_fill _ _ _ (q_fill _ _ _ (q_fill _ _ _ (q_fill _ _ _ (q_fill _ _ _ (q_fillL _ _ _ h)))))
def dPg (r : Int32) (p : Nat) (D : Nat → Int32) : Nat → Int32 := upd (upd D (148 + 5 * p) r) (150 + 5 * p) (-1)
theorem dP_out {r : Int32} {D : Nat → Int32} {i : Nat} : ∀ k, (∀ p, p < k → ¬ i = 148 + 5 * p ∧ ¬ i = 150 + 5 * p) → fo (dPg r) k D i = D i := by
  intro k
  induction k with
  | zero => intro _; rfl
  | succ k ih =>
    intro h
    show dPg r k (fo (dPg r) k D) i = D i
    unfold dPg
    rw [upd_ne _ _ (h k (by omega)).2, upd_ne _ _ (h k (by omega)).1]
    exact ih (fun p hp => h p (by omega))
theorem dP_in {r : Int32} {D : Nat → Int32} : ∀ k p, p < k → fo (dPg r) k D (148 + 5 * p) = r ∧ fo (dPg r) k D (150 + 5 * p) = -1 := by
  intro k
  induction k with
  | zero => intro p hp; omega
  | succ k ih =>
    intro p hp
    show dPg r k (fo (dPg r) k D) (148 + 5 * p) = r ∧ dPg r k (fo (dPg r) k D) (150 + 5 * p) = -1
    unfold dPg
    by_cases e : p = k
    · subst e
      refine ⟨?_, upd_same _ _ _⟩
      rw [upd_ne _ _ (by omega), upd_same]
    · rw [upd_ne _ _ (by omega), upd_ne _ _ (by omega), upd_ne _ _ (by omega), upd_ne _ _ (by omega)]
      exact ih p (by omega)
theorem e_con {x6 : S_X6} {y : S_X5} {t : S_X7} {a : S_X0} {br : S_X1} {e ae : Int32} (h : er y e ae) {post : S_X6 × S_X5 × S_X2 → Prop} (hp : ∀ y' c', er y' e ae → c'.2.2 = br → post (x6, y', c')) : j_X6_readContract_36 x6 y (t, a, br) post :=
  e_number h (fun y1 h1 => e_number h1 (fun y2 h2 => q_clearA _ _ _ (e_number h2 (fun y3 h3 => e_number h3 (fun y4 h4 => e_sign h4 (by decide) (fun y5 h5 => hp y5 _ h5 rfl))))))
theorem re_con {u : S_X10} (h : ¬ u.2.2.2.2.2.1 = 0) {post : S_X10 → Prop} (hp : ∀ D', post (u.1, u.2.1, u.2.2.1, u.2.2.2.1, u.2.2.2.2.1, u.2.2.2.2.2.1, u.2.2.2.2.2.2.1, u.2.2.2.2.2.2.2.1, u.2.2.2.2.2.2.2.2.1, D', u.2.2.2.2.2.2.2.2.2.2.1, u.2.2.2.2.2.2.2.2.2.2.2.1, u.2.2.2.2.2.2.2.2.2.2.2.2.1, u.2.2.2.2.2.2.2.2.2.2.2.2.2.1, u.2.2.2.2.2.2.2.2.2.2.2.2.2.2.1, u.2.2.2.2.2.2.2.2.2.2.2.2.2.2.2.1, u.2.2.2.2.2.2.2.2.2.2.2.2.2.2.2.2.1, u.2.2.2.2.2.2.2.2.2.2.2.2.2.2.2.2.2.1, u.2.2.2.2.2.2.2.2.2.2.2.2.2.2.2.2.2.2.1, u.2.2.2.2.2.2.2.2.2.2.2.2.2.2.2.2.2.2.2.1, u.2.2.2.2.2.2.2.2.2.2.2.2.2.2.2.2.2.2.2.2.1, u.2.2.2.2.2.2.2.2.2.2.2.2.2.2.2.2.2.2.2.2.2)) : j_X10_readContract_19 u post := by
  refine re_number h ?_
  refine re_number ?_ ?_
  · exact h
  refine re_number ?_ ?_
  · exact h
  refine re_number ?_ ?_
  · exact h
  refine re_expect ?_ ?_
  · exact h
  refine r_bad ?_ ?_
  · exact h
  exact ⟨fun q => absurd rfl q, fun _ => hp _⟩
theorem w_15 : wOK (zsb 15) = true := by decide +kernel
theorem we_27 : zsb 27 = zsb 15 := by decide +kernel
section
variable {T B : Nat → Int32} {n : Nat}
theorem P_con (hT : tx T B n) {q : Nat} (hqn : q ≤ n) :
    (∃ e ae, ¬ e = 0 ∧ (∀ (x6 : S_X6) (x : S_X5) (t : S_X7) (a : S_X0) (br : S_X1) (post : S_X6 × S_X5 × S_X2 → Prop), tk T n q x → (∀ x' c', er x' e ae → c'.2.2 = br → post (x6, x', c')) → wp_X6_readContract x6 x (t, a, br) post) ∧ ∀ (u : S_X10) (p : Nat) (post : S_X10 → Prop), gu T B n u p q → (∀ u', mF u u' → u'.2.2.2.2.2.1 = e → u'.2.2.2.2.2.2.1 = ae → post u') → wp_X10_readContract u post) ∨
    ∃ e N r pr fe, 2 ≤ N ∧ N ≤ 40 ∧ r ≤ 9999 ∧ pr ≤ 999 ∧ fe ≤ 99 ∧ e ≤ n ∧ (∀ (x6 : S_X6) (x : S_X5) (t : S_X7) (a : S_X0) (br : S_X1) (post : S_X6 × S_X5 × S_X2 → Prop), tk T n q x → (∀ x', tk T n (sk T n e) x' → post (x6, x', (((nI N), (nI pr), (nI fe), t.2.2.2.1, t.2.2.2.2.1, t.2.2.2.2.2.1, t.2.2.2.2.2.2.1, t.2.2.2.2.2.2.2.1, t.2.2.2.2.2.2.2.2.1, t.2.2.2.2.2.2.2.2.2.1, t.2.2.2.2.2.2.2.2.2.2.1, t.2.2.2.2.2.2.2.2.2.2.2.1, t.2.2.2.2.2.2.2.2.2.2.2.2.1, t.2.2.2.2.2.2.2.2.2.2.2.2.2.1, t.2.2.2.2.2.2.2.2.2.2.2.2.2.2.1, t.2.2.2.2.2.2.2.2.2.2.2.2.2.2.2), clA a (nI r), br))) → wp_X6_readContract x6 x (t, a, br) post) ∧ ∀ (u : S_X10) (p : Nat) (post : S_X10 → Prop), gu T B n u p q → (∀ u', mF u u' → u'.2.2.2.2.2.2.1 = u.2.2.2.2.2.2.1 → u'.2.2.2.2.2.2.2.2.2.2.2.2.2.2.2.2.1 = u.2.2.2.2.2.2.2.2.2.2.2.2.2.2.2.2.1 → u'.2.2.2.2.2.2.2.2.2.2.2.2.2.2.2.1 = u.2.2.2.2.2.2.2.2.2.2.2.2.2.2.2.1 → gu T B n u' e (sk T n e) → u'.2.2.2.2.2.2.2.2.2.1 = fo (dPg (nI r)) N (upd (upd (upd u.2.2.2.2.2.2.2.2.2.1 0 (nI N)) 2 (nI pr)) 3 (nI fe)) → post u') → wp_X10_readContract u post := by
  have hn8 := hT.1
  by_cases hw : wd T n q (zsb 15)
  · have hle : q + (zsb 15).length ≤ n := (wd_let w_15 hw).2.2
    have hsk0 := sk_le (T := T) (n := n) (p := q + (zsb 15).length) hle
    have hcl : ∀ (x6 : S_X6) (x : S_X5) (c : S_X2) (post : S_X6 × S_X5 × S_X2 → Prop), tk T n q x → (∀ y, tk T n (sk T n (q + (zsb 15).length)) y → j_X6_readContract_36 x6 y c post) → wp_X6_readContract x6 x c post := fun x6 x c post hx hp => g_takeWord hT hx w_15 (fun _ y hy => ⟨fun _ => hp y hy, fun q1 => absurd q1 (by decide)⟩) (fun q1 => absurd hw q1)
    have hrf : ∀ (u : S_X10) (p : Nat) (post : S_X10 → Prop), gu T B n u p q → j_X10_readContract_19 (u.1, u.2.1, u.2.2.1, u.2.2.2.1, (nI (q + (zsb 15).length)), u.2.2.2.2.2.1, u.2.2.2.2.2.2.1, u.2.2.2.2.2.2.2.1, u.2.2.2.2.2.2.2.2.1, u.2.2.2.2.2.2.2.2.2.1, u.2.2.2.2.2.2.2.2.2.2.1, u.2.2.2.2.2.2.2.2.2.2.2.1, u.2.2.2.2.2.2.2.2.2.2.2.2.1, u.2.2.2.2.2.2.2.2.2.2.2.2.2.1, u.2.2.2.2.2.2.2.2.2.2.2.2.2.2.1, u.2.2.2.2.2.2.2.2.2.2.2.2.2.2.2.1, u.2.2.2.2.2.2.2.2.2.2.2.2.2.2.2.2.1, u.2.2.2.2.2.2.2.2.2.2.2.2.2.2.2.2.2.1, u.2.2.2.2.2.2.2.2.2.2.2.2.2.2.2.2.2.2.1, u.2.2.2.2.2.2.2.2.2.2.2.2.2.2.2.2.2.2.2.1, u.2.2.2.2.2.2.2.2.2.2.2.2.2.2.2.2.2.2.2.2.1, u.2.2.2.2.2.2.2.2.2.2.2.2.2.2.2.2.2.2.2.2.2) post → wp_X10_readContract u post := by
      intro u p post ⟨hu, h0, hpp, hpn, hsk⟩ hp
      subst hsk
      unfold wp_X10_readContract
      rw [we_27]
      exact r_takeWord hT hu h0 hpn hpp w_15 (fun _ => ⟨fun _ => hp, fun q1 => absurd q1 (by decide)⟩) (fun q1 => absurd hw q1)
    rcases P_num hT (q := sk T n (q + (zsb 15).length)) (lo := 2) (hi := 40) (by omega) (by omega) with ⟨e0, he0, c0, r0⟩ | ⟨e0, d0, dl0, dh0, f0, g0, c0, r0⟩
    · refine Or.inl ⟨e0, nI (sk T n (q + (zsb 15).length)), he0, fun x6 x t a br post hx hp => ?_, fun u p post hg hps => ?_⟩
      · exact hcl x6 x _ post hx (fun x0 hx0 => c0 x0 _ hx0 (fun y hz => e_number hz (fun y1 hz => q_clearA _ _ _ (e_number hz (fun y2 hz => e_number hz (fun y3 hz => e_sign hz (by decide) (fun y9 h9 => hp y9 _ h9 rfl)))))))
      · refine hrf u p post hg ?_
        obtain ⟨hu, h0, -, -, -⟩ := hg
        exact r0 _ _ _ ⟨hu, h0, rfl, by omega, rfl⟩ (fun rr u1 hf k1 k2 => re_number (by rw [k1]; exact he0) (re_number (by rw [k1]; exact he0) (re_number (by rw [k1]; exact he0) (re_expect (by rw [k1]; exact he0) (r_bad (by rw [k1]; exact he0) ⟨fun q1 => absurd rfl q1, fun _ => hps _ hf k1 k2⟩)))))
    · have hsk1 := sk_le (T := T) (n := n) (p := e0) g0
      rcases P_num hT (q := sk T n e0) (lo := 0) (hi := 9999) (by omega) (by omega) with ⟨e1, he1, c1, r1⟩ | ⟨e1, d1, dl1, dh1, f1, g1, c1, r1⟩
      · refine Or.inl ⟨e1, nI (sk T n e0), he1, fun x6 x t a br post hx hp => ?_, fun u p post hg hps => ?_⟩
        · exact hcl x6 x _ post hx (fun x0 hx0 => c0 x0 _ hx0 (fun x1 hx1 => c1 x1 _ hx1 (fun y hz => q_clearA _ _ _ (e_number hz (fun y2 hz => e_number hz (fun y3 hz => e_sign hz (by decide) (fun y9 h9 => hp y9 _ h9 rfl)))))))
        · refine hrf u p post hg ?_
          obtain ⟨hu, h0, -, -, -⟩ := hg
          exact r0 _ _ _ ⟨hu, h0, rfl, by omega, rfl⟩ (r1 _ _ _ ⟨hu, h0, rfl, by omega, rfl⟩ (fun rr u1 hf k1 k2 => re_number (by rw [k1]; exact he1) (re_number (by rw [k1]; exact he1) (re_expect (by rw [k1]; exact he1) (r_bad (by rw [k1]; exact he1) ⟨fun q1 => absurd rfl q1, fun _ => hps _ hf k1 k2⟩)))))
      · have hsk2 := sk_le (T := T) (n := n) (p := e1) g1
        rcases P_num hT (q := sk T n e1) (lo := 0) (hi := 999) (by omega) (by omega) with ⟨e2, he2, c2, r2⟩ | ⟨e2, d2, dl2, dh2, f2, g2, c2, r2⟩
        · refine Or.inl ⟨e2, nI (sk T n e1), he2, fun x6 x t a br post hx hp => ?_, fun u p post hg hps => ?_⟩
          · exact hcl x6 x _ post hx (fun x0 hx0 => c0 x0 _ hx0 (fun x1 hx1 => c1 x1 _ hx1 (fun x2 hx2 => q_clearA _ _ _ (c2 x2 _ hx2 (fun y hz => e_number hz (fun y3 hz => e_sign hz (by decide) (fun y9 h9 => hp y9 _ h9 rfl)))))))
          · refine hrf u p post hg ?_
            obtain ⟨hu, h0, -, -, -⟩ := hg
            exact r0 _ _ _ ⟨hu, h0, rfl, by omega, rfl⟩ (r1 _ _ _ ⟨hu, h0, rfl, by omega, rfl⟩ (r2 _ _ _ ⟨hu, h0, rfl, by omega, rfl⟩ (fun rr u1 hf k1 k2 => re_number (by rw [k1]; exact he2) (re_expect (by rw [k1]; exact he2) (r_bad (by rw [k1]; exact he2) ⟨fun q1 => absurd rfl q1, fun _ => hps _ hf k1 k2⟩)))))
        · have hsk3 := sk_le (T := T) (n := n) (p := e2) g2
          rcases P_num hT (q := sk T n e2) (lo := 0) (hi := 99) (by omega) (by omega) with ⟨e3, he3, c3, r3⟩ | ⟨e3, d3, dl3, dh3, f3, g3, c3, r3⟩
          · refine Or.inl ⟨e3, nI (sk T n e2), he3, fun x6 x t a br post hx hp => ?_, fun u p post hg hps => ?_⟩
            · exact hcl x6 x _ post hx (fun x0 hx0 => c0 x0 _ hx0 (fun x1 hx1 => c1 x1 _ hx1 (fun x2 hx2 => q_clearA _ _ _ (c2 x2 _ hx2 (fun x3 hx3 => c3 x3 _ hx3 (fun y hz => e_sign hz (by decide) (fun y9 h9 => hp y9 _ h9 rfl)))))))
            · refine hrf u p post hg ?_
              obtain ⟨hu, h0, -, -, -⟩ := hg
              exact r0 _ _ _ ⟨hu, h0, rfl, by omega, rfl⟩ (r1 _ _ _ ⟨hu, h0, rfl, by omega, rfl⟩ (r2 _ _ _ ⟨hu, h0, rfl, by omega, rfl⟩ (r3 _ _ _ ⟨hu, h0, rfl, by omega, rfl⟩ (fun rr u1 hf k1 k2 => re_expect (by rw [k1]; exact he3) (r_bad (by rw [k1]; exact he3) ⟨fun q1 => absurd rfl q1, fun _ => hps _ hf k1 k2⟩)))))
          · have hsk4 := sk_le (T := T) (n := n) (p := e3) g3
            rcases P_semi hT (q := sk T n e3) with ⟨cs1, rs1⟩ | ⟨hlt, cs1, rs1⟩
            · refine Or.inl ⟨-2, nI (sk T n e3), by decide, fun x6 x t a br post hx hp => ?_, fun u p post hg hps => ?_⟩
              · exact hcl x6 x _ post hx (fun x0 hx0 => c0 x0 _ hx0 (fun x1 hx1 => c1 x1 _ hx1 (fun x2 hx2 => q_clearA _ _ _ (c2 x2 _ hx2 (fun x3 hx3 => c3 x3 _ hx3 (fun x4 hx4 => cs1 x4 _ hx4 (fun y9 h9 => hp y9 _ h9 rfl)))))))
              · refine hrf u p post hg ?_
                obtain ⟨hu, h0, -, -, -⟩ := hg
                exact r0 _ _ _ ⟨hu, h0, rfl, by omega, rfl⟩ (r1 _ _ _ ⟨hu, h0, rfl, by omega, rfl⟩ (r2 _ _ _ ⟨hu, h0, rfl, by omega, rfl⟩ (r3 _ _ _ ⟨hu, h0, rfl, by omega, rfl⟩ (rs1 _ _ _ ⟨hu, h0, rfl, by omega, rfl⟩ (fun u1 hf k1 k2 => r_bad (by rw [k1]; decide) ⟨fun q1 => absurd rfl q1, fun _ => hps _ hf k1 k2⟩)))))
            · refine Or.inr ⟨sk T n e3 + 1, d0, d1, d2, d3, dl0, dh0, dh1, dh2, dh3, by omega, fun x6 x t a br post hx hp => ?_, fun u p post hg hps => ?_⟩
              · exact hcl x6 x _ post hx (fun x0 hx0 => c0 x0 _ hx0 (fun x1 hx1 => c1 x1 _ hx1 (fun x2 hx2 => q_clearA _ _ _ (c2 x2 _ hx2 (fun x3 hx3 => c3 x3 _ hx3 (fun x4 hx4 => cs1 x4 _ hx4 (fun y9 h9 => hp y9 h9)))))))
              · refine hrf u p post hg ?_
                obtain ⟨hu, h0, -, -, -⟩ := hg
                refine r0 _ _ _ ⟨hu, h0, rfl, by omega, rfl⟩ (r1 _ _ _ ⟨hu, h0, rfl, by omega, rfl⟩ (r2 _ _ _ ⟨hu, h0, rfl, by omega, rfl⟩ (r3 _ _ _ ⟨hu, h0, rfl, by omega, rfl⟩ (rs1 _ _ _ ⟨hu, h0, rfl, by omega, rfl⟩ (r_good (u := (u.1, u.2.1, u.2.2.1, u.2.2.2.1, (nI (sk T n e3 + 1)), u.2.2.2.2.2.1, u.2.2.2.2.2.2.1, u.2.2.2.2.2.2.2.1, u.2.2.2.2.2.2.2.2.1, (upd (upd (upd u.2.2.2.2.2.2.2.2.2.1 0 (nI d0)) 2 (nI d2)) 3 (nI d3)), u.2.2.2.2.2.2.2.2.2.2.1, u.2.2.2.2.2.2.2.2.2.2.2.1, u.2.2.2.2.2.2.2.2.2.2.2.2.1, u.2.2.2.2.2.2.2.2.2.2.2.2.2.1, (nI (sk T n e2)), u.2.2.2.2.2.2.2.2.2.2.2.2.2.2.2.1, u.2.2.2.2.2.2.2.2.2.2.2.2.2.2.2.2.1, u.2.2.2.2.2.2.2.2.2.2.2.2.2.2.2.2.2.1, u.2.2.2.2.2.2.2.2.2.2.2.2.2.2.2.2.2.2.1, u.2.2.2.2.2.2.2.2.2.2.2.2.2.2.2.2.2.2.2.1, u.2.2.2.2.2.2.2.2.2.2.2.2.2.2.2.2.2.2.2.2.1, u.2.2.2.2.2.2.2.2.2.2.2.2.2.2.2.2.2.2.2.2.2)) h0 ⟨fun _ => ?_, fun q1 => absurd q1 (by decide)⟩)))))
                have hz : ∀ k, fo (dPg (nI d1)) k (upd (upd (upd u.2.2.2.2.2.2.2.2.2.1 0 (nI d0)) 2 (nI d2)) 3 (nI d3)) 0 = nI d0 := fun k => by rw [dP_out k (fun p _ => by omega), upd_ne _ _ (by omega), upd_ne _ _ (by omega), upd_same]
                refine zl_for (fun k Dk => (nI d1, nI k, (u.1, u.2.1, u.2.2.1, u.2.2.2.1, (nI (sk T n e3 + 1)), u.2.2.2.2.2.1, u.2.2.2.2.2.2.1, u.2.2.2.2.2.2.2.1, u.2.2.2.2.2.2.2.2.1, Dk, u.2.2.2.2.2.2.2.2.2.2.1, u.2.2.2.2.2.2.2.2.2.2.2.1, u.2.2.2.2.2.2.2.2.2.2.2.2.1, u.2.2.2.2.2.2.2.2.2.2.2.2.2.1, (nI (sk T n e2)), u.2.2.2.2.2.2.2.2.2.2.2.2.2.2.2.1, u.2.2.2.2.2.2.2.2.2.2.2.2.2.2.2.2.1, u.2.2.2.2.2.2.2.2.2.2.2.2.2.2.2.2.2.1, u.2.2.2.2.2.2.2.2.2.2.2.2.2.2.2.2.2.2.1, u.2.2.2.2.2.2.2.2.2.2.2.2.2.2.2.2.2.2.2.1, u.2.2.2.2.2.2.2.2.2.2.2.2.2.2.2.2.2.2.2.2.1, u.2.2.2.2.2.2.2.2.2.2.2.2.2.2.2.2.2.2.2.2.2))) (dPg (nI d1)) d0 (upd (upd (upd u.2.2.2.2.2.2.2.2.2.1 0 (nI d0)) 2 (nI d2)) 3 (nI d3)) rfl ?_ ?_
                · intro k hk K hK
                  have i1 : (148 : Int32) + 5 * nI k = nI (148 + 5 * k) := ix_per k
                  have i2 : nI (148 + 5 * k) + 2 = nI (150 + 5 * k) := by rw [ix_2]; congr 1; omega
                  refine ⟨fun q1 => ?_, fun _ => ?_⟩
                  · dsimp only at q1
                    rw [hz, le_nI (by omega) (by omega)] at q1; omega
                  · unfold wp_X10_period
                    dsimp only
                    rw [i1, i2, cl_nI (by omega), cl_nI (by omega)]
                    refine ⟨in_of (by omega) (by omega), in_of (by omega) (by omega), fun x26 e26 => ?_⟩
                    rw [ix_1] at e26
                    subst e26
                    exact hK
                · intro K
                  refine ⟨fun _ => hps _ ⟨rfl, rfl, rfl, rfl, rfl, rfl, rfl⟩ rfl rfl rfl ⟨hu, h0, rfl, by omega, rfl⟩ rfl, fun q1 => ?_⟩
                  dsimp only at q1
                  rw [hz, le_nI (by omega) (by omega)] at q1; omega
  · refine Or.inl ⟨-2, nI q, by decide, fun x6 x t a br post hx hp => ?_, fun u p post hg hps => ?_⟩
    · refine g_takeWord hT hx w_15 (fun q1 => absurd q1 hw) (fun _ => ⟨fun q1 => absurd rfl q1, fun _ => ?_⟩)
      rw [hx.2.2.2.2.1]
      exact q_fail0 hx.2.2.1 (by decide) (fun y hy => e_con hy hp)
    · obtain ⟨hu, h0, hpp, hpn, hsk⟩ := hg
      subst hsk
      unfold wp_X10_readContract
      rw [we_27]
      exact r_takeWord hT hu h0 hpn hpp w_15 (fun q1 => absurd q1 hw) (fun _ => ⟨fun q1 => absurd rfl q1, fun _ => r_report0 (u := (u.1, u.2.1, u.2.2.1, u.2.2.2.1, (nI (sk T n p)), u.2.2.2.2.2.1, u.2.2.2.2.2.2.1, u.2.2.2.2.2.2.2.1, u.2.2.2.2.2.2.2.2.1, u.2.2.2.2.2.2.2.2.2.1, u.2.2.2.2.2.2.2.2.2.2.1, u.2.2.2.2.2.2.2.2.2.2.2.1, u.2.2.2.2.2.2.2.2.2.2.2.2.1, u.2.2.2.2.2.2.2.2.2.2.2.2.2.1, u.2.2.2.2.2.2.2.2.2.2.2.2.2.2.1, u.2.2.2.2.2.2.2.2.2.2.2.2.2.2.2.1, u.2.2.2.2.2.2.2.2.2.2.2.2.2.2.2.2.1, u.2.2.2.2.2.2.2.2.2.2.2.2.2.2.2.2.2.1, u.2.2.2.2.2.2.2.2.2.2.2.2.2.2.2.2.2.2.1, u.2.2.2.2.2.2.2.2.2.2.2.2.2.2.2.2.2.2.2.1, u.2.2.2.2.2.2.2.2.2.2.2.2.2.2.2.2.2.2.2.2.1, u.2.2.2.2.2.2.2.2.2.2.2.2.2.2.2.2.2.2.2.2.2)) h0 (re_con ne2 (fun D' => hps _ ⟨rfl, rfl, rfl, rfl, rfl, rfl, rfl⟩ rfl rfl))⟩)
end
