/-! Expressions: terms, sums. -/
theorem zl_mk {σ : Type} {B : (σ → Prop) → σ → Prop} {n : Nat} {s : σ} (h : B (zl B n) s) : zl B (n + 1) s := h
theorem opv_2 (a b : Int64) : opv 2 a b = lmt (a + b) := by unfold opv; rw [if_pos rfl]
theorem opv_3 (a b : Int64) : opv 3 a b = lmt (a - b) := by unfold opv; rw [if_neg (by decide), if_pos rfl]
theorem opv_4 (a b : Int64) : opv 4 a b = lmt (a * b) := by unfold opv; rw [if_neg (by decide), if_neg (by decide), if_pos rfl]
theorem opv_5 (a b : Int64) : opv 5 a b = lmt (quo a b) := by unfold opv; rw [if_neg (by decide), if_neg (by decide), if_neg (by decide)]
theorem c_limited {v : Int64} {post : Int64 → Unit → Prop} (h : post (lmt v) ()) : wp_X3_limited v post := h
section
variable {T B : Nat → Int32} {n : Nat}
theorem x_term (RC : WC) (d : Nat) {x : S_X5} {e a : Int32} (h : er x e a) (v : Int64) (k : Int32) (u0 : S_X3) (post : Int64 → S_X3 × S_X5 → Prop) (hp : ∀ r x', er x' e a → post r (u0, x')) : zl (fun K st => j_X3_term_10 K RC st.1 st.2.1 st.2.2.1 st.2.2.2.1 st.2.2.2.2 post) 1 (nI d, v, k, u0, x) :=
  ⟨fun _ => hp v x h, fun _ => e_takeSign h (by decide) ⟨fun _ => e_takeSign h (by decide) ⟨fun _ => hp v x h, fun q => absurd rfl q⟩, fun q => absurd rfl q⟩⟩
theorem y_term (RR : WR) {u : S_X10} (h : ¬ u.2.2.2.2.2.1 = 0) (post : S_X10 → Prop) (hp : post u) : zl (fun K st => j_X10_term_4 K RR st post) 1 u := by
  refine zl_mk ?_
  show j_X10_term_4 _ RR u post
  show wp_X10_isGood u _
  exact r_bad h ⟨fun _ => hp, fun q => absurd rfl q⟩
theorem P_termL (hT : tx T B n) {RC : WC} {RR : WR} {d : Nat} (hf : ∀ q', q' ≤ n → PO T B n (wp_X3_factor RC) (wp_X10_factor RR) q' d) : ∀ (j e0 : Nat) (cs0 : List Int32) (val0 : S_X3 → Int64), n - e0 ≤ j → e0 ≤ n → 0 < cs0.length → EV cs0 val0 → vbd val0 →
    (∃ e a, ¬ e = 0 ∧ (∃ m, ∀ (u0 : S_X3) (x : S_X5) (k : Nat) (post : Int64 → S_X3 × S_X5 → Prop), tk T n (sk T n e0) x → k ≤ sk T n e0 → (∀ r x', er x' e a → post r (u0, x')) → zl (fun K st => j_X3_term_10 K RC st.1 st.2.1 st.2.2.1 st.2.2.2.1 st.2.2.2.2 post) m (nI d, val0 u0, nI k, u0, x)) ∧ ∃ m, ∀ (u : S_X10) (L : List Int32) (post : S_X10 → Prop), rg T B n u e0 (sk T n e0) d L → 2 * L.length ≤ 3 * e0 + 1 → (∀ u', mF u u' → u'.2.2.2.2.2.1 = e → u'.2.2.2.2.2.2.1 = a → post u') → zl (fun K st => j_X10_term_4 K RR st post) m u) ∨
    ∃ e cs val, e0 ≤ e ∧ e ≤ n ∧ EV (cs0 ++ cs) val ∧ vbd val ∧ 2 * cs.length ≤ 3 * (e - e0) ∧ (∃ m, ∀ (u0 : S_X3) (x : S_X5) (k : Nat) (post : Int64 → S_X3 × S_X5 → Prop), tk T n (sk T n e0) x → k ≤ sk T n e0 → (∀ x', tk T n (sk T n e) x' → post (val u0) (u0, x')) → zl (fun K st => j_X3_term_10 K RC st.1 st.2.1 st.2.2.1 st.2.2.2.1 st.2.2.2.2 post) m (nI d, val0 u0, nI k, u0, x)) ∧ ∃ m, ∀ (u : S_X10) (L : List Int32) (post : S_X10 → Prop), rg T B n u e0 (sk T n e0) d L → 2 * L.length ≤ 3 * e0 + 1 → (∀ u', rk u u' → rg T B n u' e (sk T n e) d (L ++ cs) → post u') → zl (fun K st => j_X10_term_4 K RR st post) m u := by
  intro j
  have hn8 := hT.1
  have hlt : ∀ k, k < 800 → ¬ (800 : Int32) ≤ nI k := fun k hk q => by rw [show (800 : Int32) = nI 800 from rfl, le_nI (by omega) (by omega)] at q; omega
  induction j with
  | zero =>
    intro e0 cs0 val0 hj he hl hev hvb
    have hs := sk_le (T := T) (n := n) (p := e0) he
    have h9 : bc T n (sk T n e0) = 999 := bc_out (by omega)
    have hss : sk T n (sk T n e0) = sk T n e0 := sk_sk he
    have hbv : ∀ k, k < 256 → ¬ bv (bc T n (sk T n e0)) = nI k := fun k hk q => by have := (bv_eq (bc_lt hT _) hk).mp q; omega
    refine Or.inr ⟨sk T n e0, [], val0, hs.1, hs.2, by rw [List.append_nil]; exact hev, hvb, by simp, ⟨1, fun u0 x k post hx hk hp => ?_⟩, ⟨1, fun u L post hg hb hp => ?_⟩⟩
    · have hp2 := hp x (by rw [hss]; exact hx)
      exact ⟨fun _ => hp2, fun _ => g_takeSign hT hx (k := 42) (by omega) (by decide) (by decide) (fun q => absurd q (by omega)) (fun _ => ⟨fun _ => g_takeSign hT hx (k := 47) (by omega) (by decide) (by decide) (fun q => absurd q (by omega)) (fun _ => ⟨fun _ => hp2, fun q => absurd rfl q⟩), fun q => absurd rfl q⟩)⟩
    · obtain ⟨hu, h0, hpp, hpn, hsk, hne, hL⟩ := hg
      refine zl_mk ?_
      show j_X10_term_4 _ RR u post
      show wp_X10_isGood u _
      refine r_good h0 ⟨fun q => absurd q (by decide), fun _ => q_next hT e0 he u hu hpp ⟨fun q => absurd q (hbv 42 (by omega)), fun _ => q_next hT (sk T n e0) hs.2 (u.1, u.2.1, u.2.2.1, u.2.2.2.1, (nI (sk T n e0)), u.2.2.2.2.2.1, u.2.2.2.2.2.2.1, u.2.2.2.2.2.2.2.1, u.2.2.2.2.2.2.2.2.1, u.2.2.2.2.2.2.2.2.2.1, u.2.2.2.2.2.2.2.2.2.2.1, u.2.2.2.2.2.2.2.2.2.2.2.1, u.2.2.2.2.2.2.2.2.2.2.2.2.1, u.2.2.2.2.2.2.2.2.2.2.2.2.2.1, u.2.2.2.2.2.2.2.2.2.2.2.2.2.2.1, u.2.2.2.2.2.2.2.2.2.2.2.2.2.2.2.1, u.2.2.2.2.2.2.2.2.2.2.2.2.2.2.2.2.1, u.2.2.2.2.2.2.2.2.2.2.2.2.2.2.2.2.2.1, u.2.2.2.2.2.2.2.2.2.2.2.2.2.2.2.2.2.2.1, u.2.2.2.2.2.2.2.2.2.2.2.2.2.2.2.2.2.2.2.1, u.2.2.2.2.2.2.2.2.2.2.2.2.2.2.2.2.2.2.2.2.1, u.2.2.2.2.2.2.2.2.2.2.2.2.2.2.2.2.2.2.2.2.2) hu rfl ⟨fun _ => hp _ ⟨⟨rfl, rfl, rfl, rfl, rfl, rfl, rfl⟩, rfl, rfl, dF_rf _⟩ ⟨hu, h0, ?_, hs.2, rfl, hne, ?_⟩, fun q => ?_⟩⟩⟩
      · dsimp only
        rw [hss]
      · rw [List.append_nil]; exact hL
      · rw [hss] at q
        exact absurd q (hbv 47 (by omega))
  | succ j ih =>
    intro e0 cs0 val0 hj he hl hev hvb
    have hs := sk_le (T := T) (n := n) (p := e0) he
    have hss : sk T n (sk T n e0) = sk T n e0 := sk_sk he
    have hbv : ∀ k, k < 256 → (bv (bc T n (sk T n e0)) = nI k ↔ bc T n (sk T n e0) = k) := fun k hk => bv_eq (bc_lt hT _) hk
    by_cases hc42 : bc T n (sk T n e0) = 42
    · have hc := hc42
      have hq : sk T n e0 < n := bc_ne (T := T) (by omega)
      have hs3 := sk_le (T := T) (n := n) (p := sk T n e0 + 1) (by omega)
      rcases hf (sk T n (sk T n e0 + 1)) hs3.2 with ⟨e, a, hea, c1, r1⟩ | ⟨e1, cs1, v1, f1, f2, f3, f4, f5, f6, c1, r1⟩
      · refine Or.inl ⟨e, a, hea, ⟨2, fun u0 x kk post hx hk hp => ?_⟩, ⟨2, fun u L post hg hb hp => ?_⟩⟩
        · exact ⟨fun q => absurd q (hlt kk (by omega)), fun _ => g_takeSign hT hx (k := 42) (by omega) (by decide) (by decide) (fun _ x' hx' => ⟨fun q => absurd q (by decide), fun _ => c1 u0 x' _ hx' (fun r x2 h2 => fun x20 e20 => x_term RC d h2 _ _ u0 post hp)⟩) (fun q => absurd hc q)⟩
        · obtain ⟨hu, h0, hpp, hpn, hsk, hne, hL⟩ := hg
          refine zl_mk ?_
          show j_X10_term_4 _ RR u post
          show wp_X10_isGood u _
          refine r_good h0 ⟨fun q => absurd q (by decide), fun _ => q_next hT e0 he u hu hpp ⟨fun _ => q_next hT (sk T n e0) hs.2 (u.1, u.2.1, u.2.2.1, u.2.2.2.1, (nI (sk T n e0)), u.2.2.2.2.2.1, u.2.2.2.2.2.2.1, u.2.2.2.2.2.2.2.1, u.2.2.2.2.2.2.2.2.1, u.2.2.2.2.2.2.2.2.2.1, u.2.2.2.2.2.2.2.2.2.2.1, u.2.2.2.2.2.2.2.2.2.2.2.1, u.2.2.2.2.2.2.2.2.2.2.2.2.1, u.2.2.2.2.2.2.2.2.2.2.2.2.2.1, u.2.2.2.2.2.2.2.2.2.2.2.2.2.2.1, u.2.2.2.2.2.2.2.2.2.2.2.2.2.2.2.1, u.2.2.2.2.2.2.2.2.2.2.2.2.2.2.2.2.1, u.2.2.2.2.2.2.2.2.2.2.2.2.2.2.2.2.2.1, u.2.2.2.2.2.2.2.2.2.2.2.2.2.2.2.2.2.2.1, u.2.2.2.2.2.2.2.2.2.2.2.2.2.2.2.2.2.2.2.1, u.2.2.2.2.2.2.2.2.2.2.2.2.2.2.2.2.2.2.2.2.1, u.2.2.2.2.2.2.2.2.2.2.2.2.2.2.2.2.2.2.2.2.2) hu rfl ⟨fun q => absurd (by rw [hss]; exact (hbv 42 (by omega)).mpr hc) q, fun _ x15 e15 => ?_⟩, fun q => absurd ((hbv 42 (by omega)).mpr hc) q⟩⟩
          dsimp only at e15
          rw [hss, ix_1] at e15
          subst e15
          exact r1 (u.1, u.2.1, u.2.2.1, u.2.2.2.1, (nI (sk T n e0 + 1)), u.2.2.2.2.2.1, u.2.2.2.2.2.2.1, u.2.2.2.2.2.2.2.1, u.2.2.2.2.2.2.2.2.1, u.2.2.2.2.2.2.2.2.2.1, u.2.2.2.2.2.2.2.2.2.2.1, u.2.2.2.2.2.2.2.2.2.2.2.1, u.2.2.2.2.2.2.2.2.2.2.2.2.1, u.2.2.2.2.2.2.2.2.2.2.2.2.2.1, u.2.2.2.2.2.2.2.2.2.2.2.2.2.2.1, u.2.2.2.2.2.2.2.2.2.2.2.2.2.2.2.1, u.2.2.2.2.2.2.2.2.2.2.2.2.2.2.2.2.1, u.2.2.2.2.2.2.2.2.2.2.2.2.2.2.2.2.2.1, u.2.2.2.2.2.2.2.2.2.2.2.2.2.2.2.2.2.2.1, u.2.2.2.2.2.2.2.2.2.2.2.2.2.2.2.2.2.2.2.1, u.2.2.2.2.2.2.2.2.2.2.2.2.2.2.2.2.2.2.2.2.1, u.2.2.2.2.2.2.2.2.2.2.2.2.2.2.2.2.2.2.2.2.2) (sk T n e0 + 1) L _ ⟨hu, h0, rfl, by omega, rfl, hne, hL⟩ (by omega) (fun u' hf2 g1 g2 => ⟨fun q => absurd q (by decide), fun _ => re_emit (by rw [g1]; exact hea) (y_term RR (by rw [g1]; exact hea) post (hp u' hf2 g1 g2))⟩)
      · have hev2 : EV (cs0 ++ (cs1 ++ [nI 4])) (fun u => opv 4 (val0 u) (v1 u)) := ev_op (k := 4) (by omega) hev f5 hl f3 hvb
        have hlen : (cs0 ++ (cs1 ++ [nI 4])).length = cs0.length + (cs1.length + 1) := by simp
        rcases ih e1 (cs0 ++ (cs1 ++ [nI 4])) (fun u => opv 4 (val0 u) (v1 u)) (by omega) f2 (by omega) hev2 (fun u _ _ => opv_bd _ _ _) with ⟨e, a, hea, ⟨m1, c2⟩, ⟨m2, r2⟩⟩ | ⟨e, cs, val, i1, i2, i3, i4, i5, ⟨m1, c2⟩, ⟨m2, r2⟩⟩
        · refine Or.inl ⟨e, a, hea, ⟨m1 + 1, fun u0 x kk post hx hk hp => ?_⟩, ⟨m2 + 1, fun u L post hg hb hp => ?_⟩⟩
          · have hs4 := sk_le (T := T) (n := n) (p := e1) f2
            exact ⟨fun q => absurd q (hlt kk (by omega)), fun _ => g_takeSign hT hx (k := 42) (by omega) (by decide) (by decide) (fun _ x' hx' => ⟨fun q => absurd q (by decide), fun _ => c1 u0 x' _ hx' (fun x2 h2 => c_limited (by rw [← opv_4]; exact fun x20 e20 => by rw [ix_1] at e20; subst e20; exact c2 u0 x2 (kk + 1) post h2 (by omega) hp))⟩) (fun q => absurd hc q)⟩
          · obtain ⟨hu, h0, hpp, hpn, hsk, hne, hL⟩ := hg
            refine zl_mk ?_
            show j_X10_term_4 _ RR u post
            show wp_X10_isGood u _
            refine r_good h0 ⟨fun q => absurd q (by decide), fun _ => q_next hT e0 he u hu hpp ⟨fun _ => q_next hT (sk T n e0) hs.2 (u.1, u.2.1, u.2.2.1, u.2.2.2.1, (nI (sk T n e0)), u.2.2.2.2.2.1, u.2.2.2.2.2.2.1, u.2.2.2.2.2.2.2.1, u.2.2.2.2.2.2.2.2.1, u.2.2.2.2.2.2.2.2.2.1, u.2.2.2.2.2.2.2.2.2.2.1, u.2.2.2.2.2.2.2.2.2.2.2.1, u.2.2.2.2.2.2.2.2.2.2.2.2.1, u.2.2.2.2.2.2.2.2.2.2.2.2.2.1, u.2.2.2.2.2.2.2.2.2.2.2.2.2.2.1, u.2.2.2.2.2.2.2.2.2.2.2.2.2.2.2.1, u.2.2.2.2.2.2.2.2.2.2.2.2.2.2.2.2.1, u.2.2.2.2.2.2.2.2.2.2.2.2.2.2.2.2.2.1, u.2.2.2.2.2.2.2.2.2.2.2.2.2.2.2.2.2.2.1, u.2.2.2.2.2.2.2.2.2.2.2.2.2.2.2.2.2.2.2.1, u.2.2.2.2.2.2.2.2.2.2.2.2.2.2.2.2.2.2.2.2.1, u.2.2.2.2.2.2.2.2.2.2.2.2.2.2.2.2.2.2.2.2.2) hu rfl ⟨fun q => absurd (by rw [hss]; exact (hbv 42 (by omega)).mpr hc) q, fun _ x15 e15 => ?_⟩, fun q => absurd ((hbv 42 (by omega)).mpr hc) q⟩⟩
            dsimp only at e15
            rw [hss, ix_1] at e15
            subst e15
            refine r1 (u.1, u.2.1, u.2.2.1, u.2.2.2.1, (nI (sk T n e0 + 1)), u.2.2.2.2.2.1, u.2.2.2.2.2.2.1, u.2.2.2.2.2.2.2.1, u.2.2.2.2.2.2.2.2.1, u.2.2.2.2.2.2.2.2.2.1, u.2.2.2.2.2.2.2.2.2.2.1, u.2.2.2.2.2.2.2.2.2.2.2.1, u.2.2.2.2.2.2.2.2.2.2.2.2.1, u.2.2.2.2.2.2.2.2.2.2.2.2.2.1, u.2.2.2.2.2.2.2.2.2.2.2.2.2.2.1, u.2.2.2.2.2.2.2.2.2.2.2.2.2.2.2.1, u.2.2.2.2.2.2.2.2.2.2.2.2.2.2.2.2.1, u.2.2.2.2.2.2.2.2.2.2.2.2.2.2.2.2.2.1, u.2.2.2.2.2.2.2.2.2.2.2.2.2.2.2.2.2.2.1, u.2.2.2.2.2.2.2.2.2.2.2.2.2.2.2.2.2.2.2.1, u.2.2.2.2.2.2.2.2.2.2.2.2.2.2.2.2.2.2.2.2.1, u.2.2.2.2.2.2.2.2.2.2.2.2.2.2.2.2.2.2.2.2.2) (sk T n e0 + 1) L _ ⟨hu, h0, rfl, by omega, rfl, hne, hL⟩ (by omega) (fun ub hk2 hg2 => ⟨fun q => absurd q (by decide), fun _ => ?_⟩)
            obtain ⟨gu, g0, gp, gpn, gsk, gne, gL⟩ := hg2
            refine r_emit g0 gL (by simp <;> omega) (fun D' d1 d2 => ?_)
            refine r2 (ub.1, ub.2.1, ub.2.2.1, ub.2.2.2.1, ub.2.2.2.2.1, ub.2.2.2.2.2.1, ub.2.2.2.2.2.2.1, ub.2.2.2.2.2.2.2.1, ub.2.2.2.2.2.2.2.2.1, D', ub.2.2.2.2.2.2.2.2.2.2.1, ub.2.2.2.2.2.2.2.2.2.2.2.1, ub.2.2.2.2.2.2.2.2.2.2.2.2.1, ub.2.2.2.2.2.2.2.2.2.2.2.2.2.1, ub.2.2.2.2.2.2.2.2.2.2.2.2.2.2.1, ub.2.2.2.2.2.2.2.2.2.2.2.2.2.2.2.1, ub.2.2.2.2.2.2.2.2.2.2.2.2.2.2.2.2.1, ub.2.2.2.2.2.2.2.2.2.2.2.2.2.2.2.2.2.1, ub.2.2.2.2.2.2.2.2.2.2.2.2.2.2.2.2.2.2.1, ub.2.2.2.2.2.2.2.2.2.2.2.2.2.2.2.2.2.2.2.1, ub.2.2.2.2.2.2.2.2.2.2.2.2.2.2.2.2.2.2.2.2.1, ub.2.2.2.2.2.2.2.2.2.2.2.2.2.2.2.2.2.2.2.2.2) (L ++ cs1 ++ [nI 4]) post ⟨gu, g0, gp, gpn, rfl, gne, d2⟩ (by simp <;> omega) (fun u2 hf2 g1 g2 => hp u2 (mF_tr hk2.1 hf2) g1 g2)
        · refine Or.inr ⟨e, (cs1 ++ [nI 4]) ++ cs, val, by omega, i2, by rw [← List.append_assoc]; exact i3, i4, by simp <;> omega, ⟨m1 + 1, fun u0 x kk post hx hk hp => ?_⟩, ⟨m2 + 1, fun u L post hg hb hp => ?_⟩⟩
          · have hs4 := sk_le (T := T) (n := n) (p := e1) f2
            exact ⟨fun q => absurd q (hlt kk (by omega)), fun _ => g_takeSign hT hx (k := 42) (by omega) (by decide) (by decide) (fun _ x' hx' => ⟨fun q => absurd q (by decide), fun _ => c1 u0 x' _ hx' (fun x2 h2 => c_limited (by rw [← opv_4]; exact fun x20 e20 => by rw [ix_1] at e20; subst e20; exact c2 u0 x2 (kk + 1) post h2 (by omega) hp))⟩) (fun q => absurd hc q)⟩
          · obtain ⟨hu, h0, hpp, hpn, hsk, hne, hL⟩ := hg
            refine zl_mk ?_
            show j_X10_term_4 _ RR u post
            show wp_X10_isGood u _
            refine r_good h0 ⟨fun q => absurd q (by decide), fun _ => q_next hT e0 he u hu hpp ⟨fun _ => q_next hT (sk T n e0) hs.2 (u.1, u.2.1, u.2.2.1, u.2.2.2.1, (nI (sk T n e0)), u.2.2.2.2.2.1, u.2.2.2.2.2.2.1, u.2.2.2.2.2.2.2.1, u.2.2.2.2.2.2.2.2.1, u.2.2.2.2.2.2.2.2.2.1, u.2.2.2.2.2.2.2.2.2.2.1, u.2.2.2.2.2.2.2.2.2.2.2.1, u.2.2.2.2.2.2.2.2.2.2.2.2.1, u.2.2.2.2.2.2.2.2.2.2.2.2.2.1, u.2.2.2.2.2.2.2.2.2.2.2.2.2.2.1, u.2.2.2.2.2.2.2.2.2.2.2.2.2.2.2.1, u.2.2.2.2.2.2.2.2.2.2.2.2.2.2.2.2.1, u.2.2.2.2.2.2.2.2.2.2.2.2.2.2.2.2.2.1, u.2.2.2.2.2.2.2.2.2.2.2.2.2.2.2.2.2.2.1, u.2.2.2.2.2.2.2.2.2.2.2.2.2.2.2.2.2.2.2.1, u.2.2.2.2.2.2.2.2.2.2.2.2.2.2.2.2.2.2.2.2.1, u.2.2.2.2.2.2.2.2.2.2.2.2.2.2.2.2.2.2.2.2.2) hu rfl ⟨fun q => absurd (by rw [hss]; exact (hbv 42 (by omega)).mpr hc) q, fun _ x15 e15 => ?_⟩, fun q => absurd ((hbv 42 (by omega)).mpr hc) q⟩⟩
            dsimp only at e15
            rw [hss, ix_1] at e15
            subst e15
            refine r1 (u.1, u.2.1, u.2.2.1, u.2.2.2.1, (nI (sk T n e0 + 1)), u.2.2.2.2.2.1, u.2.2.2.2.2.2.1, u.2.2.2.2.2.2.2.1, u.2.2.2.2.2.2.2.2.1, u.2.2.2.2.2.2.2.2.2.1, u.2.2.2.2.2.2.2.2.2.2.1, u.2.2.2.2.2.2.2.2.2.2.2.1, u.2.2.2.2.2.2.2.2.2.2.2.2.1, u.2.2.2.2.2.2.2.2.2.2.2.2.2.1, u.2.2.2.2.2.2.2.2.2.2.2.2.2.2.1, u.2.2.2.2.2.2.2.2.2.2.2.2.2.2.2.1, u.2.2.2.2.2.2.2.2.2.2.2.2.2.2.2.2.1, u.2.2.2.2.2.2.2.2.2.2.2.2.2.2.2.2.2.1, u.2.2.2.2.2.2.2.2.2.2.2.2.2.2.2.2.2.2.1, u.2.2.2.2.2.2.2.2.2.2.2.2.2.2.2.2.2.2.2.1, u.2.2.2.2.2.2.2.2.2.2.2.2.2.2.2.2.2.2.2.2.1, u.2.2.2.2.2.2.2.2.2.2.2.2.2.2.2.2.2.2.2.2.2) (sk T n e0 + 1) L _ ⟨hu, h0, rfl, by omega, rfl, hne, hL⟩ (by omega) (fun ub hk2 hg2 => ⟨fun q => absurd q (by decide), fun _ => ?_⟩)
            obtain ⟨gu, g0, gp, gpn, gsk, gne, gL⟩ := hg2
            refine r_emit g0 gL (by simp <;> omega) (fun D' d1 d2 => ?_)
            refine r2 (ub.1, ub.2.1, ub.2.2.1, ub.2.2.2.1, ub.2.2.2.2.1, ub.2.2.2.2.2.1, ub.2.2.2.2.2.2.1, ub.2.2.2.2.2.2.2.1, ub.2.2.2.2.2.2.2.2.1, D', ub.2.2.2.2.2.2.2.2.2.2.1, ub.2.2.2.2.2.2.2.2.2.2.2.1, ub.2.2.2.2.2.2.2.2.2.2.2.2.1, ub.2.2.2.2.2.2.2.2.2.2.2.2.2.1, ub.2.2.2.2.2.2.2.2.2.2.2.2.2.2.1, ub.2.2.2.2.2.2.2.2.2.2.2.2.2.2.2.1, ub.2.2.2.2.2.2.2.2.2.2.2.2.2.2.2.2.1, ub.2.2.2.2.2.2.2.2.2.2.2.2.2.2.2.2.2.1, ub.2.2.2.2.2.2.2.2.2.2.2.2.2.2.2.2.2.2.1, ub.2.2.2.2.2.2.2.2.2.2.2.2.2.2.2.2.2.2.2.1, ub.2.2.2.2.2.2.2.2.2.2.2.2.2.2.2.2.2.2.2.2.1, ub.2.2.2.2.2.2.2.2.2.2.2.2.2.2.2.2.2.2.2.2.2) (L ++ cs1 ++ [nI 4]) post ⟨gu, g0, gp, gpn, rfl, gne, d2⟩ (by simp <;> omega) (fun u2 hk3 hg3 => hp u2 ?_ ?_)
            · exact rk_tr hk2 ⟨hk3.1, hk3.2.1, hk3.2.2.1, dF_tr d1 hk3.2.2.2⟩
            · rw [show L ++ (cs1 ++ [nI 4] ++ cs) = L ++ cs1 ++ [nI 4] ++ cs by simp]
              exact hg3
    by_cases hc47 : bc T n (sk T n e0) = 47
    · have hc := hc47
      have hq : sk T n e0 < n := bc_ne (T := T) (by omega)
      have hs3 := sk_le (T := T) (n := n) (p := sk T n e0 + 1) (by omega)
      rcases hf (sk T n (sk T n e0 + 1)) hs3.2 with ⟨e, a, hea, c1, r1⟩ | ⟨e1, cs1, v1, f1, f2, f3, f4, f5, f6, c1, r1⟩
      · refine Or.inl ⟨e, a, hea, ⟨2, fun u0 x kk post hx hk hp => ?_⟩, ⟨2, fun u L post hg hb hp => ?_⟩⟩
        · exact ⟨fun q => absurd q (hlt kk (by omega)), fun _ => g_takeSign hT hx (k := 42) (by omega) (by decide) (by decide) (fun q => absurd q (by omega)) (fun _ => ⟨fun _ => g_takeSign hT hx (k := 47) (by omega) (by decide) (by decide) (fun _ x' hx' => ⟨fun q => absurd q (by decide), fun _ => c1 u0 x' _ hx' (fun r x2 h2 => c_quotient (fun x20 e20 => x_term RC d h2 _ _ u0 post hp))⟩) (fun q => absurd hc q), fun q => absurd rfl q⟩)⟩
        · obtain ⟨hu, h0, hpp, hpn, hsk, hne, hL⟩ := hg
          refine zl_mk ?_
          show j_X10_term_4 _ RR u post
          show wp_X10_isGood u _
          refine r_good h0 ⟨fun q => absurd q (by decide), fun _ => q_next hT e0 he u hu hpp ⟨fun q => absurd ((hbv 42 (by omega)).mp q) (by omega), fun _ => q_next hT (sk T n e0) hs.2 (u.1, u.2.1, u.2.2.1, u.2.2.2.1, (nI (sk T n e0)), u.2.2.2.2.2.1, u.2.2.2.2.2.2.1, u.2.2.2.2.2.2.2.1, u.2.2.2.2.2.2.2.2.1, u.2.2.2.2.2.2.2.2.2.1, u.2.2.2.2.2.2.2.2.2.2.1, u.2.2.2.2.2.2.2.2.2.2.2.1, u.2.2.2.2.2.2.2.2.2.2.2.2.1, u.2.2.2.2.2.2.2.2.2.2.2.2.2.1, u.2.2.2.2.2.2.2.2.2.2.2.2.2.2.1, u.2.2.2.2.2.2.2.2.2.2.2.2.2.2.2.1, u.2.2.2.2.2.2.2.2.2.2.2.2.2.2.2.2.1, u.2.2.2.2.2.2.2.2.2.2.2.2.2.2.2.2.2.1, u.2.2.2.2.2.2.2.2.2.2.2.2.2.2.2.2.2.2.1, u.2.2.2.2.2.2.2.2.2.2.2.2.2.2.2.2.2.2.2.1, u.2.2.2.2.2.2.2.2.2.2.2.2.2.2.2.2.2.2.2.2.1, u.2.2.2.2.2.2.2.2.2.2.2.2.2.2.2.2.2.2.2.2.2) hu rfl ⟨fun q => absurd (by rw [hss]; exact (hbv 47 (by omega)).mpr hc) q, fun _ => q_next hT (sk T n e0) hs.2 (u.1, u.2.1, u.2.2.1, u.2.2.2.1, (nI (sk T n (sk T n e0))), u.2.2.2.2.2.1, u.2.2.2.2.2.2.1, u.2.2.2.2.2.2.2.1, u.2.2.2.2.2.2.2.2.1, u.2.2.2.2.2.2.2.2.2.1, u.2.2.2.2.2.2.2.2.2.2.1, u.2.2.2.2.2.2.2.2.2.2.2.1, u.2.2.2.2.2.2.2.2.2.2.2.2.1, u.2.2.2.2.2.2.2.2.2.2.2.2.2.1, u.2.2.2.2.2.2.2.2.2.2.2.2.2.2.1, u.2.2.2.2.2.2.2.2.2.2.2.2.2.2.2.1, u.2.2.2.2.2.2.2.2.2.2.2.2.2.2.2.2.1, u.2.2.2.2.2.2.2.2.2.2.2.2.2.2.2.2.2.1, u.2.2.2.2.2.2.2.2.2.2.2.2.2.2.2.2.2.2.1, u.2.2.2.2.2.2.2.2.2.2.2.2.2.2.2.2.2.2.2.1, u.2.2.2.2.2.2.2.2.2.2.2.2.2.2.2.2.2.2.2.2.1, u.2.2.2.2.2.2.2.2.2.2.2.2.2.2.2.2.2.2.2.2.2) hu (by show nI (sk T n (sk T n e0)) = nI (sk T n e0); rw [hss]) ⟨fun _ x15 e15 => ?_, fun q => by rw [hss] at q; exact absurd ((hbv 42 (by omega)).mp q) (by omega)⟩⟩⟩⟩
          dsimp only at e15
          rw [hss, ix_1] at e15
          subst e15
          exact r1 (u.1, u.2.1, u.2.2.1, u.2.2.2.1, (nI (sk T n e0 + 1)), u.2.2.2.2.2.1, u.2.2.2.2.2.2.1, u.2.2.2.2.2.2.2.1, u.2.2.2.2.2.2.2.2.1, u.2.2.2.2.2.2.2.2.2.1, u.2.2.2.2.2.2.2.2.2.2.1, u.2.2.2.2.2.2.2.2.2.2.2.1, u.2.2.2.2.2.2.2.2.2.2.2.2.1, u.2.2.2.2.2.2.2.2.2.2.2.2.2.1, u.2.2.2.2.2.2.2.2.2.2.2.2.2.2.1, u.2.2.2.2.2.2.2.2.2.2.2.2.2.2.2.1, u.2.2.2.2.2.2.2.2.2.2.2.2.2.2.2.2.1, u.2.2.2.2.2.2.2.2.2.2.2.2.2.2.2.2.2.1, u.2.2.2.2.2.2.2.2.2.2.2.2.2.2.2.2.2.2.1, u.2.2.2.2.2.2.2.2.2.2.2.2.2.2.2.2.2.2.2.1, u.2.2.2.2.2.2.2.2.2.2.2.2.2.2.2.2.2.2.2.2.1, u.2.2.2.2.2.2.2.2.2.2.2.2.2.2.2.2.2.2.2.2.2) (sk T n e0 + 1) L _ ⟨hu, h0, rfl, by omega, rfl, hne, hL⟩ (by omega) (fun u' hf2 g1 g2 => ⟨fun _ => re_emit (by rw [g1]; exact hea) (y_term RR (by rw [g1]; exact hea) post (hp u' hf2 g1 g2)), fun q => absurd rfl q⟩)
      · have hev2 : EV (cs0 ++ (cs1 ++ [nI 5])) (fun u => opv 5 (val0 u) (v1 u)) := ev_op (k := 5) (by omega) hev f5 hl f3 hvb
        have hlen : (cs0 ++ (cs1 ++ [nI 5])).length = cs0.length + (cs1.length + 1) := by simp
        rcases ih e1 (cs0 ++ (cs1 ++ [nI 5])) (fun u => opv 5 (val0 u) (v1 u)) (by omega) f2 (by omega) hev2 (fun u _ _ => opv_bd _ _ _) with ⟨e, a, hea, ⟨m1, c2⟩, ⟨m2, r2⟩⟩ | ⟨e, cs, val, i1, i2, i3, i4, i5, ⟨m1, c2⟩, ⟨m2, r2⟩⟩
        · refine Or.inl ⟨e, a, hea, ⟨m1 + 1, fun u0 x kk post hx hk hp => ?_⟩, ⟨m2 + 1, fun u L post hg hb hp => ?_⟩⟩
          · have hs4 := sk_le (T := T) (n := n) (p := e1) f2
            exact ⟨fun q => absurd q (hlt kk (by omega)), fun _ => g_takeSign hT hx (k := 42) (by omega) (by decide) (by decide) (fun q => absurd q (by omega)) (fun _ => ⟨fun _ => g_takeSign hT hx (k := 47) (by omega) (by decide) (by decide) (fun _ x' hx' => ⟨fun q => absurd q (by decide), fun _ => c1 u0 x' _ hx' (fun x2 h2 => c_quotient (c_limited (by rw [← opv_5]; exact fun x20 e20 => by rw [ix_1] at e20; subst e20; exact c2 u0 x2 (kk + 1) post h2 (by omega) hp)))⟩) (fun q => absurd hc q), fun q => absurd rfl q⟩)⟩
          · obtain ⟨hu, h0, hpp, hpn, hsk, hne, hL⟩ := hg
            refine zl_mk ?_
            show j_X10_term_4 _ RR u post
            show wp_X10_isGood u _
            refine r_good h0 ⟨fun q => absurd q (by decide), fun _ => q_next hT e0 he u hu hpp ⟨fun q => absurd ((hbv 42 (by omega)).mp q) (by omega), fun _ => q_next hT (sk T n e0) hs.2 (u.1, u.2.1, u.2.2.1, u.2.2.2.1, (nI (sk T n e0)), u.2.2.2.2.2.1, u.2.2.2.2.2.2.1, u.2.2.2.2.2.2.2.1, u.2.2.2.2.2.2.2.2.1, u.2.2.2.2.2.2.2.2.2.1, u.2.2.2.2.2.2.2.2.2.2.1, u.2.2.2.2.2.2.2.2.2.2.2.1, u.2.2.2.2.2.2.2.2.2.2.2.2.1, u.2.2.2.2.2.2.2.2.2.2.2.2.2.1, u.2.2.2.2.2.2.2.2.2.2.2.2.2.2.1, u.2.2.2.2.2.2.2.2.2.2.2.2.2.2.2.1, u.2.2.2.2.2.2.2.2.2.2.2.2.2.2.2.2.1, u.2.2.2.2.2.2.2.2.2.2.2.2.2.2.2.2.2.1, u.2.2.2.2.2.2.2.2.2.2.2.2.2.2.2.2.2.2.1, u.2.2.2.2.2.2.2.2.2.2.2.2.2.2.2.2.2.2.2.1, u.2.2.2.2.2.2.2.2.2.2.2.2.2.2.2.2.2.2.2.2.1, u.2.2.2.2.2.2.2.2.2.2.2.2.2.2.2.2.2.2.2.2.2) hu rfl ⟨fun q => absurd (by rw [hss]; exact (hbv 47 (by omega)).mpr hc) q, fun _ => q_next hT (sk T n e0) hs.2 (u.1, u.2.1, u.2.2.1, u.2.2.2.1, (nI (sk T n (sk T n e0))), u.2.2.2.2.2.1, u.2.2.2.2.2.2.1, u.2.2.2.2.2.2.2.1, u.2.2.2.2.2.2.2.2.1, u.2.2.2.2.2.2.2.2.2.1, u.2.2.2.2.2.2.2.2.2.2.1, u.2.2.2.2.2.2.2.2.2.2.2.1, u.2.2.2.2.2.2.2.2.2.2.2.2.1, u.2.2.2.2.2.2.2.2.2.2.2.2.2.1, u.2.2.2.2.2.2.2.2.2.2.2.2.2.2.1, u.2.2.2.2.2.2.2.2.2.2.2.2.2.2.2.1, u.2.2.2.2.2.2.2.2.2.2.2.2.2.2.2.2.1, u.2.2.2.2.2.2.2.2.2.2.2.2.2.2.2.2.2.1, u.2.2.2.2.2.2.2.2.2.2.2.2.2.2.2.2.2.2.1, u.2.2.2.2.2.2.2.2.2.2.2.2.2.2.2.2.2.2.2.1, u.2.2.2.2.2.2.2.2.2.2.2.2.2.2.2.2.2.2.2.2.1, u.2.2.2.2.2.2.2.2.2.2.2.2.2.2.2.2.2.2.2.2.2) hu (by show nI (sk T n (sk T n e0)) = nI (sk T n e0); rw [hss]) ⟨fun _ x15 e15 => ?_, fun q => by rw [hss] at q; exact absurd ((hbv 42 (by omega)).mp q) (by omega)⟩⟩⟩⟩
            dsimp only at e15
            rw [hss, ix_1] at e15
            subst e15
            refine r1 (u.1, u.2.1, u.2.2.1, u.2.2.2.1, (nI (sk T n e0 + 1)), u.2.2.2.2.2.1, u.2.2.2.2.2.2.1, u.2.2.2.2.2.2.2.1, u.2.2.2.2.2.2.2.2.1, u.2.2.2.2.2.2.2.2.2.1, u.2.2.2.2.2.2.2.2.2.2.1, u.2.2.2.2.2.2.2.2.2.2.2.1, u.2.2.2.2.2.2.2.2.2.2.2.2.1, u.2.2.2.2.2.2.2.2.2.2.2.2.2.1, u.2.2.2.2.2.2.2.2.2.2.2.2.2.2.1, u.2.2.2.2.2.2.2.2.2.2.2.2.2.2.2.1, u.2.2.2.2.2.2.2.2.2.2.2.2.2.2.2.2.1, u.2.2.2.2.2.2.2.2.2.2.2.2.2.2.2.2.2.1, u.2.2.2.2.2.2.2.2.2.2.2.2.2.2.2.2.2.2.1, u.2.2.2.2.2.2.2.2.2.2.2.2.2.2.2.2.2.2.2.1, u.2.2.2.2.2.2.2.2.2.2.2.2.2.2.2.2.2.2.2.2.1, u.2.2.2.2.2.2.2.2.2.2.2.2.2.2.2.2.2.2.2.2.2) (sk T n e0 + 1) L _ ⟨hu, h0, rfl, by omega, rfl, hne, hL⟩ (by omega) (fun ub hk2 hg2 => ⟨fun _ => ?_, fun q => absurd rfl q⟩)
            obtain ⟨gu, g0, gp, gpn, gsk, gne, gL⟩ := hg2
            refine r_emit g0 gL (by simp <;> omega) (fun D' d1 d2 => ?_)
            refine r2 (ub.1, ub.2.1, ub.2.2.1, ub.2.2.2.1, ub.2.2.2.2.1, ub.2.2.2.2.2.1, ub.2.2.2.2.2.2.1, ub.2.2.2.2.2.2.2.1, ub.2.2.2.2.2.2.2.2.1, D', ub.2.2.2.2.2.2.2.2.2.2.1, ub.2.2.2.2.2.2.2.2.2.2.2.1, ub.2.2.2.2.2.2.2.2.2.2.2.2.1, ub.2.2.2.2.2.2.2.2.2.2.2.2.2.1, ub.2.2.2.2.2.2.2.2.2.2.2.2.2.2.1, ub.2.2.2.2.2.2.2.2.2.2.2.2.2.2.2.1, ub.2.2.2.2.2.2.2.2.2.2.2.2.2.2.2.2.1, ub.2.2.2.2.2.2.2.2.2.2.2.2.2.2.2.2.2.1, ub.2.2.2.2.2.2.2.2.2.2.2.2.2.2.2.2.2.2.1, ub.2.2.2.2.2.2.2.2.2.2.2.2.2.2.2.2.2.2.2.1, ub.2.2.2.2.2.2.2.2.2.2.2.2.2.2.2.2.2.2.2.2.1, ub.2.2.2.2.2.2.2.2.2.2.2.2.2.2.2.2.2.2.2.2.2) (L ++ cs1 ++ [nI 5]) post ⟨gu, g0, gp, gpn, rfl, gne, d2⟩ (by simp <;> omega) (fun u2 hf2 g1 g2 => hp u2 (mF_tr hk2.1 hf2) g1 g2)
        · refine Or.inr ⟨e, (cs1 ++ [nI 5]) ++ cs, val, by omega, i2, by rw [← List.append_assoc]; exact i3, i4, by simp <;> omega, ⟨m1 + 1, fun u0 x kk post hx hk hp => ?_⟩, ⟨m2 + 1, fun u L post hg hb hp => ?_⟩⟩
          · have hs4 := sk_le (T := T) (n := n) (p := e1) f2
            exact ⟨fun q => absurd q (hlt kk (by omega)), fun _ => g_takeSign hT hx (k := 42) (by omega) (by decide) (by decide) (fun q => absurd q (by omega)) (fun _ => ⟨fun _ => g_takeSign hT hx (k := 47) (by omega) (by decide) (by decide) (fun _ x' hx' => ⟨fun q => absurd q (by decide), fun _ => c1 u0 x' _ hx' (fun x2 h2 => c_quotient (c_limited (by rw [← opv_5]; exact fun x20 e20 => by rw [ix_1] at e20; subst e20; exact c2 u0 x2 (kk + 1) post h2 (by omega) hp)))⟩) (fun q => absurd hc q), fun q => absurd rfl q⟩)⟩
          · obtain ⟨hu, h0, hpp, hpn, hsk, hne, hL⟩ := hg
            refine zl_mk ?_
            show j_X10_term_4 _ RR u post
            show wp_X10_isGood u _
            refine r_good h0 ⟨fun q => absurd q (by decide), fun _ => q_next hT e0 he u hu hpp ⟨fun q => absurd ((hbv 42 (by omega)).mp q) (by omega), fun _ => q_next hT (sk T n e0) hs.2 (u.1, u.2.1, u.2.2.1, u.2.2.2.1, (nI (sk T n e0)), u.2.2.2.2.2.1, u.2.2.2.2.2.2.1, u.2.2.2.2.2.2.2.1, u.2.2.2.2.2.2.2.2.1, u.2.2.2.2.2.2.2.2.2.1, u.2.2.2.2.2.2.2.2.2.2.1, u.2.2.2.2.2.2.2.2.2.2.2.1, u.2.2.2.2.2.2.2.2.2.2.2.2.1, u.2.2.2.2.2.2.2.2.2.2.2.2.2.1, u.2.2.2.2.2.2.2.2.2.2.2.2.2.2.1, u.2.2.2.2.2.2.2.2.2.2.2.2.2.2.2.1, u.2.2.2.2.2.2.2.2.2.2.2.2.2.2.2.2.1, u.2.2.2.2.2.2.2.2.2.2.2.2.2.2.2.2.2.1, u.2.2.2.2.2.2.2.2.2.2.2.2.2.2.2.2.2.2.1, u.2.2.2.2.2.2.2.2.2.2.2.2.2.2.2.2.2.2.2.1, u.2.2.2.2.2.2.2.2.2.2.2.2.2.2.2.2.2.2.2.2.1, u.2.2.2.2.2.2.2.2.2.2.2.2.2.2.2.2.2.2.2.2.2) hu rfl ⟨fun q => absurd (by rw [hss]; exact (hbv 47 (by omega)).mpr hc) q, fun _ => q_next hT (sk T n e0) hs.2 (u.1, u.2.1, u.2.2.1, u.2.2.2.1, (nI (sk T n (sk T n e0))), u.2.2.2.2.2.1, u.2.2.2.2.2.2.1, u.2.2.2.2.2.2.2.1, u.2.2.2.2.2.2.2.2.1, u.2.2.2.2.2.2.2.2.2.1, u.2.2.2.2.2.2.2.2.2.2.1, u.2.2.2.2.2.2.2.2.2.2.2.1, u.2.2.2.2.2.2.2.2.2.2.2.2.1, u.2.2.2.2.2.2.2.2.2.2.2.2.2.1, u.2.2.2.2.2.2.2.2.2.2.2.2.2.2.1, u.2.2.2.2.2.2.2.2.2.2.2.2.2.2.2.1, u.2.2.2.2.2.2.2.2.2.2.2.2.2.2.2.2.1, u.2.2.2.2.2.2.2.2.2.2.2.2.2.2.2.2.2.1, u.2.2.2.2.2.2.2.2.2.2.2.2.2.2.2.2.2.2.1, u.2.2.2.2.2.2.2.2.2.2.2.2.2.2.2.2.2.2.2.1, u.2.2.2.2.2.2.2.2.2.2.2.2.2.2.2.2.2.2.2.2.1, u.2.2.2.2.2.2.2.2.2.2.2.2.2.2.2.2.2.2.2.2.2) hu (by show nI (sk T n (sk T n e0)) = nI (sk T n e0); rw [hss]) ⟨fun _ x15 e15 => ?_, fun q => by rw [hss] at q; exact absurd ((hbv 42 (by omega)).mp q) (by omega)⟩⟩⟩⟩
            dsimp only at e15
            rw [hss, ix_1] at e15
            subst e15
            refine r1 (u.1, u.2.1, u.2.2.1, u.2.2.2.1, (nI (sk T n e0 + 1)), u.2.2.2.2.2.1, u.2.2.2.2.2.2.1, u.2.2.2.2.2.2.2.1, u.2.2.2.2.2.2.2.2.1, u.2.2.2.2.2.2.2.2.2.1, u.2.2.2.2.2.2.2.2.2.2.1, u.2.2.2.2.2.2.2.2.2.2.2.1, u.2.2.2.2.2.2.2.2.2.2.2.2.1, u.2.2.2.2.2.2.2.2.2.2.2.2.2.1, u.2.2.2.2.2.2.2.2.2.2.2.2.2.2.1, u.2.2.2.2.2.2.2.2.2.2.2.2.2.2.2.1, u.2.2.2.2.2.2.2.2.2.2.2.2.2.2.2.2.1, u.2.2.2.2.2.2.2.2.2.2.2.2.2.2.2.2.2.1, u.2.2.2.2.2.2.2.2.2.2.2.2.2.2.2.2.2.2.1, u.2.2.2.2.2.2.2.2.2.2.2.2.2.2.2.2.2.2.2.1, u.2.2.2.2.2.2.2.2.2.2.2.2.2.2.2.2.2.2.2.2.1, u.2.2.2.2.2.2.2.2.2.2.2.2.2.2.2.2.2.2.2.2.2) (sk T n e0 + 1) L _ ⟨hu, h0, rfl, by omega, rfl, hne, hL⟩ (by omega) (fun ub hk2 hg2 => ⟨fun _ => ?_, fun q => absurd rfl q⟩)
            obtain ⟨gu, g0, gp, gpn, gsk, gne, gL⟩ := hg2
            refine r_emit g0 gL (by simp <;> omega) (fun D' d1 d2 => ?_)
            refine r2 (ub.1, ub.2.1, ub.2.2.1, ub.2.2.2.1, ub.2.2.2.2.1, ub.2.2.2.2.2.1, ub.2.2.2.2.2.2.1, ub.2.2.2.2.2.2.2.1, ub.2.2.2.2.2.2.2.2.1, D', ub.2.2.2.2.2.2.2.2.2.2.1, ub.2.2.2.2.2.2.2.2.2.2.2.1, ub.2.2.2.2.2.2.2.2.2.2.2.2.1, ub.2.2.2.2.2.2.2.2.2.2.2.2.2.1, ub.2.2.2.2.2.2.2.2.2.2.2.2.2.2.1, ub.2.2.2.2.2.2.2.2.2.2.2.2.2.2.2.1, ub.2.2.2.2.2.2.2.2.2.2.2.2.2.2.2.2.1, ub.2.2.2.2.2.2.2.2.2.2.2.2.2.2.2.2.2.1, ub.2.2.2.2.2.2.2.2.2.2.2.2.2.2.2.2.2.2.1, ub.2.2.2.2.2.2.2.2.2.2.2.2.2.2.2.2.2.2.2.1, ub.2.2.2.2.2.2.2.2.2.2.2.2.2.2.2.2.2.2.2.2.1, ub.2.2.2.2.2.2.2.2.2.2.2.2.2.2.2.2.2.2.2.2.2) (L ++ cs1 ++ [nI 5]) post ⟨gu, g0, gp, gpn, rfl, gne, d2⟩ (by simp <;> omega) (fun u2 hk3 hg3 => hp u2 ?_ ?_)
            · exact rk_tr hk2 ⟨hk3.1, hk3.2.1, hk3.2.2.1, dF_tr d1 hk3.2.2.2⟩
            · rw [show L ++ (cs1 ++ [nI 5] ++ cs) = L ++ cs1 ++ [nI 5] ++ cs by simp]
              exact hg3
    refine Or.inr ⟨sk T n e0, [], val0, hs.1, hs.2, by rw [List.append_nil]; exact hev, hvb, by simp, ⟨1, fun u0 x k post hx hk hp => ?_⟩, ⟨1, fun u L post hg hb hp => ?_⟩⟩
    · have hp2 := hp x (by rw [hss]; exact hx)
      exact ⟨fun _ => hp2, fun _ => g_takeSign hT hx (k := 42) (by omega) (by decide) (by decide) (fun q => absurd q hc42) (fun _ => ⟨fun _ => g_takeSign hT hx (k := 47) (by omega) (by decide) (by decide) (fun q => absurd q hc47) (fun _ => ⟨fun _ => hp2, fun q => absurd rfl q⟩), fun q => absurd rfl q⟩)⟩
    · obtain ⟨hu, h0, hpp, hpn, hsk, hne, hL⟩ := hg
      refine zl_mk ?_
      show j_X10_term_4 _ RR u post
      show wp_X10_isGood u _
      refine r_good h0 ⟨fun q => absurd q (by decide), fun _ => q_next hT e0 he u hu hpp ⟨fun q => absurd ((hbv 42 (by omega)).mp q) hc42, fun _ => q_next hT (sk T n e0) hs.2 (u.1, u.2.1, u.2.2.1, u.2.2.2.1, (nI (sk T n e0)), u.2.2.2.2.2.1, u.2.2.2.2.2.2.1, u.2.2.2.2.2.2.2.1, u.2.2.2.2.2.2.2.2.1, u.2.2.2.2.2.2.2.2.2.1, u.2.2.2.2.2.2.2.2.2.2.1, u.2.2.2.2.2.2.2.2.2.2.2.1, u.2.2.2.2.2.2.2.2.2.2.2.2.1, u.2.2.2.2.2.2.2.2.2.2.2.2.2.1, u.2.2.2.2.2.2.2.2.2.2.2.2.2.2.1, u.2.2.2.2.2.2.2.2.2.2.2.2.2.2.2.1, u.2.2.2.2.2.2.2.2.2.2.2.2.2.2.2.2.1, u.2.2.2.2.2.2.2.2.2.2.2.2.2.2.2.2.2.1, u.2.2.2.2.2.2.2.2.2.2.2.2.2.2.2.2.2.2.1, u.2.2.2.2.2.2.2.2.2.2.2.2.2.2.2.2.2.2.2.1, u.2.2.2.2.2.2.2.2.2.2.2.2.2.2.2.2.2.2.2.2.1, u.2.2.2.2.2.2.2.2.2.2.2.2.2.2.2.2.2.2.2.2.2) hu rfl ⟨fun _ => hp _ ⟨⟨rfl, rfl, rfl, rfl, rfl, rfl, rfl⟩, rfl, rfl, dF_rf _⟩ ⟨hu, h0, ?_, hs.2, rfl, hne, ?_⟩, fun q => ?_⟩⟩⟩
      · dsimp only
        rw [hss]
      · rw [List.append_nil]; exact hL
      · rw [hss] at q
        exact absurd ((hbv 47 (by omega)).mp q) hc47
theorem P_term (hT : tx T B n) {RC : WC} {RR : WR} {d : Nat} (hf : ∀ q', q' ≤ n → PO T B n (wp_X3_factor RC) (wp_X10_factor RR) q' d) {q : Nat} (hqn : q ≤ n) : PO T B n (wp_X3_term RC) (wp_X10_term RR) q d := by
  have hn8 := hT.1
  rcases hf q hqn with ⟨e, a, hea, c1, r1⟩ | ⟨e1, cs1, v1, f1, f2, f3, f4, f5, f6, c1, r1⟩
  · refine Or.inl ⟨e, a, hea, fun u0 x post hx hp => ?_, fun u p L post hg hb hp => ?_⟩
    · exact c1 u0 x _ hx (fun r x2 h2 => ⟨1, x_term RC d h2 _ _ u0 post hp⟩)
    · exact r1 u p L _ hg hb (fun u' hf2 g1 g2 => ⟨1, y_term RR (by rw [g1]; exact hea) post (hp u' hf2 g1 g2)⟩)
  · rcases P_termL hT hf (n - e1) e1 cs1 v1 (Nat.le_refl _) f2 f3 f5 f6 with ⟨e, a, hea, ⟨m1, c2⟩, ⟨m2, r2⟩⟩ | ⟨e, cs, val, i1, i2, i3, i4, i5, ⟨m1, c2⟩, ⟨m2, r2⟩⟩
    · refine Or.inl ⟨e, a, hea, fun u0 x post hx hp => ?_, fun u p L post hg hb hp => ?_⟩
      · exact c1 u0 x _ hx (fun x2 h2 => ⟨m1, c2 u0 x2 0 post h2 (by omega) hp⟩)
      · exact r1 u p L _ hg hb (fun u' hk2 hg2 => ⟨m2, r2 u' (L ++ cs1) post hg2 (by simp <;> omega) (fun u2 hf2 g1 g2 => hp u2 (mF_tr hk2.1 hf2) g1 g2)⟩)
    · refine Or.inr ⟨e, cs1 ++ cs, val, by omega, i2, by simp <;> omega, by simp <;> omega, i3, i4, fun u0 x post hx hp => ?_, fun u p L post hg hb hp => ?_⟩
      · exact c1 u0 x _ hx (fun x2 h2 => ⟨m1, c2 u0 x2 0 post h2 (by omega) hp⟩)
      · exact r1 u p L _ hg hb (fun u' hk2 hg2 => ⟨m2, r2 u' (L ++ cs1) post hg2 (by simp <;> omega) (fun u2 hk3 hg3 => hp u2 (rk_tr hk2 hk3) (by rw [← List.append_assoc]; exact hg3))⟩)
theorem x_sum (RC : WC) (d : Nat) {x : S_X5} {e a : Int32} (h : er x e a) (v : Int64) (k : Int32) (u0 : S_X3) (post : Int64 → S_X3 × S_X5 → Prop) (hp : ∀ r x', er x' e a → post r (u0, x')) : zl (fun K st => j_X3_sum_10 K RC st.1 st.2.1 st.2.2.1 st.2.2.2.1 st.2.2.2.2 post) 1 (nI d, v, k, u0, x) :=
  ⟨fun _ => hp v x h, fun _ => e_takeSign h (by decide) ⟨fun _ => e_takeSign h (by decide) ⟨fun _ => hp v x h, fun q => absurd rfl q⟩, fun q => absurd rfl q⟩⟩
theorem y_sum (RR : WR) {u : S_X10} (h : ¬ u.2.2.2.2.2.1 = 0) (post : S_X10 → Prop) (hp : post u) : zl (fun K st => j_X10_sum_4 K RR st post) 1 u := by
  refine zl_mk ?_
  show j_X10_sum_4 _ RR u post
  show wp_X10_isGood u _
  exact r_bad h ⟨fun _ => hp, fun q => absurd rfl q⟩
theorem P_sumL (hT : tx T B n) {RC : WC} {RR : WR} {d : Nat} (hf : ∀ q', q' ≤ n → PO T B n (wp_X3_term RC) (wp_X10_term RR) q' d) : ∀ (j e0 : Nat) (cs0 : List Int32) (val0 : S_X3 → Int64), n - e0 ≤ j → e0 ≤ n → 0 < cs0.length → EV cs0 val0 → vbd val0 →
    (∃ e a, ¬ e = 0 ∧ (∃ m, ∀ (u0 : S_X3) (x : S_X5) (k : Nat) (post : Int64 → S_X3 × S_X5 → Prop), tk T n (sk T n e0) x → k ≤ sk T n e0 → (∀ r x', er x' e a → post r (u0, x')) → zl (fun K st => j_X3_sum_10 K RC st.1 st.2.1 st.2.2.1 st.2.2.2.1 st.2.2.2.2 post) m (nI d, val0 u0, nI k, u0, x)) ∧ ∃ m, ∀ (u : S_X10) (L : List Int32) (post : S_X10 → Prop), rg T B n u e0 (sk T n e0) d L → 2 * L.length ≤ 3 * e0 + 1 → (∀ u', mF u u' → u'.2.2.2.2.2.1 = e → u'.2.2.2.2.2.2.1 = a → post u') → zl (fun K st => j_X10_sum_4 K RR st post) m u) ∨
    ∃ e cs val, e0 ≤ e ∧ e ≤ n ∧ EV (cs0 ++ cs) val ∧ vbd val ∧ 2 * cs.length ≤ 3 * (e - e0) ∧ (∃ m, ∀ (u0 : S_X3) (x : S_X5) (k : Nat) (post : Int64 → S_X3 × S_X5 → Prop), tk T n (sk T n e0) x → k ≤ sk T n e0 → (∀ x', tk T n (sk T n e) x' → post (val u0) (u0, x')) → zl (fun K st => j_X3_sum_10 K RC st.1 st.2.1 st.2.2.1 st.2.2.2.1 st.2.2.2.2 post) m (nI d, val0 u0, nI k, u0, x)) ∧ ∃ m, ∀ (u : S_X10) (L : List Int32) (post : S_X10 → Prop), rg T B n u e0 (sk T n e0) d L → 2 * L.length ≤ 3 * e0 + 1 → (∀ u', rk u u' → rg T B n u' e (sk T n e) d (L ++ cs) → post u') → zl (fun K st => j_X10_sum_4 K RR st post) m u := by
  intro j
  have hn8 := hT.1
  have hlt : ∀ k, k < 800 → ¬ (800 : Int32) ≤ nI k := fun k hk q => by rw [show (800 : Int32) = nI 800 from rfl, le_nI (by omega) (by omega)] at q; omega
  induction j with
  | zero =>
    intro e0 cs0 val0 hj he hl hev hvb
    have hs := sk_le (T := T) (n := n) (p := e0) he
    have h9 : bc T n (sk T n e0) = 999 := bc_out (by omega)
    have hss : sk T n (sk T n e0) = sk T n e0 := sk_sk he
    have hbv : ∀ k, k < 256 → ¬ bv (bc T n (sk T n e0)) = nI k := fun k hk q => by have := (bv_eq (bc_lt hT _) hk).mp q; omega
    refine Or.inr ⟨sk T n e0, [], val0, hs.1, hs.2, by rw [List.append_nil]; exact hev, hvb, by simp, ⟨1, fun u0 x k post hx hk hp => ?_⟩, ⟨1, fun u L post hg hb hp => ?_⟩⟩
    · have hp2 := hp x (by rw [hss]; exact hx)
      exact ⟨fun _ => hp2, fun _ => g_takeSign hT hx (k := 43) (by omega) (by decide) (by decide) (fun q => absurd q (by omega)) (fun _ => ⟨fun _ => g_takeSign hT hx (k := 45) (by omega) (by decide) (by decide) (fun q => absurd q (by omega)) (fun _ => ⟨fun _ => hp2, fun q => absurd rfl q⟩), fun q => absurd rfl q⟩)⟩
    · obtain ⟨hu, h0, hpp, hpn, hsk, hne, hL⟩ := hg
      refine zl_mk ?_
      show j_X10_sum_4 _ RR u post
      show wp_X10_isGood u _
      refine r_good h0 ⟨fun q => absurd q (by decide), fun _ => q_next hT e0 he u hu hpp ⟨fun q => absurd q (hbv 43 (by omega)), fun _ => q_next hT (sk T n e0) hs.2 (u.1, u.2.1, u.2.2.1, u.2.2.2.1, (nI (sk T n e0)), u.2.2.2.2.2.1, u.2.2.2.2.2.2.1, u.2.2.2.2.2.2.2.1, u.2.2.2.2.2.2.2.2.1, u.2.2.2.2.2.2.2.2.2.1, u.2.2.2.2.2.2.2.2.2.2.1, u.2.2.2.2.2.2.2.2.2.2.2.1, u.2.2.2.2.2.2.2.2.2.2.2.2.1, u.2.2.2.2.2.2.2.2.2.2.2.2.2.1, u.2.2.2.2.2.2.2.2.2.2.2.2.2.2.1, u.2.2.2.2.2.2.2.2.2.2.2.2.2.2.2.1, u.2.2.2.2.2.2.2.2.2.2.2.2.2.2.2.2.1, u.2.2.2.2.2.2.2.2.2.2.2.2.2.2.2.2.2.1, u.2.2.2.2.2.2.2.2.2.2.2.2.2.2.2.2.2.2.1, u.2.2.2.2.2.2.2.2.2.2.2.2.2.2.2.2.2.2.2.1, u.2.2.2.2.2.2.2.2.2.2.2.2.2.2.2.2.2.2.2.2.1, u.2.2.2.2.2.2.2.2.2.2.2.2.2.2.2.2.2.2.2.2.2) hu rfl ⟨fun _ => hp _ ⟨⟨rfl, rfl, rfl, rfl, rfl, rfl, rfl⟩, rfl, rfl, dF_rf _⟩ ⟨hu, h0, ?_, hs.2, rfl, hne, ?_⟩, fun q => ?_⟩⟩⟩
      · dsimp only
        rw [hss]
      · rw [List.append_nil]; exact hL
      · rw [hss] at q
        exact absurd q (hbv 45 (by omega))
  | succ j ih =>
    intro e0 cs0 val0 hj he hl hev hvb
    have hs := sk_le (T := T) (n := n) (p := e0) he
    have hss : sk T n (sk T n e0) = sk T n e0 := sk_sk he
    have hbv : ∀ k, k < 256 → (bv (bc T n (sk T n e0)) = nI k ↔ bc T n (sk T n e0) = k) := fun k hk => bv_eq (bc_lt hT _) hk
    by_cases hc43 : bc T n (sk T n e0) = 43
    · have hc := hc43
      have hq : sk T n e0 < n := bc_ne (T := T) (by omega)
      have hs3 := sk_le (T := T) (n := n) (p := sk T n e0 + 1) (by omega)
      rcases hf (sk T n (sk T n e0 + 1)) hs3.2 with ⟨e, a, hea, c1, r1⟩ | ⟨e1, cs1, v1, f1, f2, f3, f4, f5, f6, c1, r1⟩
      · refine Or.inl ⟨e, a, hea, ⟨2, fun u0 x kk post hx hk hp => ?_⟩, ⟨2, fun u L post hg hb hp => ?_⟩⟩
        · exact ⟨fun q => absurd q (hlt kk (by omega)), fun _ => g_takeSign hT hx (k := 43) (by omega) (by decide) (by decide) (fun _ x' hx' => ⟨fun q => absurd q (by decide), fun _ => c1 u0 x' _ hx' (fun r x2 h2 => fun x20 e20 => x_sum RC d h2 _ _ u0 post hp)⟩) (fun q => absurd hc q)⟩
        · obtain ⟨hu, h0, hpp, hpn, hsk, hne, hL⟩ := hg
          refine zl_mk ?_
          show j_X10_sum_4 _ RR u post
          show wp_X10_isGood u _
          refine r_good h0 ⟨fun q => absurd q (by decide), fun _ => q_next hT e0 he u hu hpp ⟨fun _ => q_next hT (sk T n e0) hs.2 (u.1, u.2.1, u.2.2.1, u.2.2.2.1, (nI (sk T n e0)), u.2.2.2.2.2.1, u.2.2.2.2.2.2.1, u.2.2.2.2.2.2.2.1, u.2.2.2.2.2.2.2.2.1, u.2.2.2.2.2.2.2.2.2.1, u.2.2.2.2.2.2.2.2.2.2.1, u.2.2.2.2.2.2.2.2.2.2.2.1, u.2.2.2.2.2.2.2.2.2.2.2.2.1, u.2.2.2.2.2.2.2.2.2.2.2.2.2.1, u.2.2.2.2.2.2.2.2.2.2.2.2.2.2.1, u.2.2.2.2.2.2.2.2.2.2.2.2.2.2.2.1, u.2.2.2.2.2.2.2.2.2.2.2.2.2.2.2.2.1, u.2.2.2.2.2.2.2.2.2.2.2.2.2.2.2.2.2.1, u.2.2.2.2.2.2.2.2.2.2.2.2.2.2.2.2.2.2.1, u.2.2.2.2.2.2.2.2.2.2.2.2.2.2.2.2.2.2.2.1, u.2.2.2.2.2.2.2.2.2.2.2.2.2.2.2.2.2.2.2.2.1, u.2.2.2.2.2.2.2.2.2.2.2.2.2.2.2.2.2.2.2.2.2) hu rfl ⟨fun q => absurd (by rw [hss]; exact (hbv 43 (by omega)).mpr hc) q, fun _ x15 e15 => ?_⟩, fun q => absurd ((hbv 43 (by omega)).mpr hc) q⟩⟩
          dsimp only at e15
          rw [hss, ix_1] at e15
          subst e15
          exact r1 (u.1, u.2.1, u.2.2.1, u.2.2.2.1, (nI (sk T n e0 + 1)), u.2.2.2.2.2.1, u.2.2.2.2.2.2.1, u.2.2.2.2.2.2.2.1, u.2.2.2.2.2.2.2.2.1, u.2.2.2.2.2.2.2.2.2.1, u.2.2.2.2.2.2.2.2.2.2.1, u.2.2.2.2.2.2.2.2.2.2.2.1, u.2.2.2.2.2.2.2.2.2.2.2.2.1, u.2.2.2.2.2.2.2.2.2.2.2.2.2.1, u.2.2.2.2.2.2.2.2.2.2.2.2.2.2.1, u.2.2.2.2.2.2.2.2.2.2.2.2.2.2.2.1, u.2.2.2.2.2.2.2.2.2.2.2.2.2.2.2.2.1, u.2.2.2.2.2.2.2.2.2.2.2.2.2.2.2.2.2.1, u.2.2.2.2.2.2.2.2.2.2.2.2.2.2.2.2.2.2.1, u.2.2.2.2.2.2.2.2.2.2.2.2.2.2.2.2.2.2.2.1, u.2.2.2.2.2.2.2.2.2.2.2.2.2.2.2.2.2.2.2.2.1, u.2.2.2.2.2.2.2.2.2.2.2.2.2.2.2.2.2.2.2.2.2) (sk T n e0 + 1) L _ ⟨hu, h0, rfl, by omega, rfl, hne, hL⟩ (by omega) (fun u' hf2 g1 g2 => ⟨fun q => absurd q (by decide), fun _ => re_emit (by rw [g1]; exact hea) (y_sum RR (by rw [g1]; exact hea) post (hp u' hf2 g1 g2))⟩)
      · have hev2 : EV (cs0 ++ (cs1 ++ [nI 2])) (fun u => opv 2 (val0 u) (v1 u)) := ev_op (k := 2) (by omega) hev f5 hl f3 hvb
        have hlen : (cs0 ++ (cs1 ++ [nI 2])).length = cs0.length + (cs1.length + 1) := by simp
        rcases ih e1 (cs0 ++ (cs1 ++ [nI 2])) (fun u => opv 2 (val0 u) (v1 u)) (by omega) f2 (by omega) hev2 (fun u _ _ => opv_bd _ _ _) with ⟨e, a, hea, ⟨m1, c2⟩, ⟨m2, r2⟩⟩ | ⟨e, cs, val, i1, i2, i3, i4, i5, ⟨m1, c2⟩, ⟨m2, r2⟩⟩
        · refine Or.inl ⟨e, a, hea, ⟨m1 + 1, fun u0 x kk post hx hk hp => ?_⟩, ⟨m2 + 1, fun u L post hg hb hp => ?_⟩⟩
          · have hs4 := sk_le (T := T) (n := n) (p := e1) f2
            exact ⟨fun q => absurd q (hlt kk (by omega)), fun _ => g_takeSign hT hx (k := 43) (by omega) (by decide) (by decide) (fun _ x' hx' => ⟨fun q => absurd q (by decide), fun _ => c1 u0 x' _ hx' (fun x2 h2 => c_limited (by rw [← opv_2]; exact fun x20 e20 => by rw [ix_1] at e20; subst e20; exact c2 u0 x2 (kk + 1) post h2 (by omega) hp))⟩) (fun q => absurd hc q)⟩
          · obtain ⟨hu, h0, hpp, hpn, hsk, hne, hL⟩ := hg
            refine zl_mk ?_
            show j_X10_sum_4 _ RR u post
            show wp_X10_isGood u _
            refine r_good h0 ⟨fun q => absurd q (by decide), fun _ => q_next hT e0 he u hu hpp ⟨fun _ => q_next hT (sk T n e0) hs.2 (u.1, u.2.1, u.2.2.1, u.2.2.2.1, (nI (sk T n e0)), u.2.2.2.2.2.1, u.2.2.2.2.2.2.1, u.2.2.2.2.2.2.2.1, u.2.2.2.2.2.2.2.2.1, u.2.2.2.2.2.2.2.2.2.1, u.2.2.2.2.2.2.2.2.2.2.1, u.2.2.2.2.2.2.2.2.2.2.2.1, u.2.2.2.2.2.2.2.2.2.2.2.2.1, u.2.2.2.2.2.2.2.2.2.2.2.2.2.1, u.2.2.2.2.2.2.2.2.2.2.2.2.2.2.1, u.2.2.2.2.2.2.2.2.2.2.2.2.2.2.2.1, u.2.2.2.2.2.2.2.2.2.2.2.2.2.2.2.2.1, u.2.2.2.2.2.2.2.2.2.2.2.2.2.2.2.2.2.1, u.2.2.2.2.2.2.2.2.2.2.2.2.2.2.2.2.2.2.1, u.2.2.2.2.2.2.2.2.2.2.2.2.2.2.2.2.2.2.2.1, u.2.2.2.2.2.2.2.2.2.2.2.2.2.2.2.2.2.2.2.2.1, u.2.2.2.2.2.2.2.2.2.2.2.2.2.2.2.2.2.2.2.2.2) hu rfl ⟨fun q => absurd (by rw [hss]; exact (hbv 43 (by omega)).mpr hc) q, fun _ x15 e15 => ?_⟩, fun q => absurd ((hbv 43 (by omega)).mpr hc) q⟩⟩
            dsimp only at e15
            rw [hss, ix_1] at e15
            subst e15
            refine r1 (u.1, u.2.1, u.2.2.1, u.2.2.2.1, (nI (sk T n e0 + 1)), u.2.2.2.2.2.1, u.2.2.2.2.2.2.1, u.2.2.2.2.2.2.2.1, u.2.2.2.2.2.2.2.2.1, u.2.2.2.2.2.2.2.2.2.1, u.2.2.2.2.2.2.2.2.2.2.1, u.2.2.2.2.2.2.2.2.2.2.2.1, u.2.2.2.2.2.2.2.2.2.2.2.2.1, u.2.2.2.2.2.2.2.2.2.2.2.2.2.1, u.2.2.2.2.2.2.2.2.2.2.2.2.2.2.1, u.2.2.2.2.2.2.2.2.2.2.2.2.2.2.2.1, u.2.2.2.2.2.2.2.2.2.2.2.2.2.2.2.2.1, u.2.2.2.2.2.2.2.2.2.2.2.2.2.2.2.2.2.1, u.2.2.2.2.2.2.2.2.2.2.2.2.2.2.2.2.2.2.1, u.2.2.2.2.2.2.2.2.2.2.2.2.2.2.2.2.2.2.2.1, u.2.2.2.2.2.2.2.2.2.2.2.2.2.2.2.2.2.2.2.2.1, u.2.2.2.2.2.2.2.2.2.2.2.2.2.2.2.2.2.2.2.2.2) (sk T n e0 + 1) L _ ⟨hu, h0, rfl, by omega, rfl, hne, hL⟩ (by omega) (fun ub hk2 hg2 => ⟨fun q => absurd q (by decide), fun _ => ?_⟩)
            obtain ⟨gu, g0, gp, gpn, gsk, gne, gL⟩ := hg2
            refine r_emit g0 gL (by simp <;> omega) (fun D' d1 d2 => ?_)
            refine r2 (ub.1, ub.2.1, ub.2.2.1, ub.2.2.2.1, ub.2.2.2.2.1, ub.2.2.2.2.2.1, ub.2.2.2.2.2.2.1, ub.2.2.2.2.2.2.2.1, ub.2.2.2.2.2.2.2.2.1, D', ub.2.2.2.2.2.2.2.2.2.2.1, ub.2.2.2.2.2.2.2.2.2.2.2.1, ub.2.2.2.2.2.2.2.2.2.2.2.2.1, ub.2.2.2.2.2.2.2.2.2.2.2.2.2.1, ub.2.2.2.2.2.2.2.2.2.2.2.2.2.2.1, ub.2.2.2.2.2.2.2.2.2.2.2.2.2.2.2.1, ub.2.2.2.2.2.2.2.2.2.2.2.2.2.2.2.2.1, ub.2.2.2.2.2.2.2.2.2.2.2.2.2.2.2.2.2.1, ub.2.2.2.2.2.2.2.2.2.2.2.2.2.2.2.2.2.2.1, ub.2.2.2.2.2.2.2.2.2.2.2.2.2.2.2.2.2.2.2.1, ub.2.2.2.2.2.2.2.2.2.2.2.2.2.2.2.2.2.2.2.2.1, ub.2.2.2.2.2.2.2.2.2.2.2.2.2.2.2.2.2.2.2.2.2) (L ++ cs1 ++ [nI 2]) post ⟨gu, g0, gp, gpn, rfl, gne, d2⟩ (by simp <;> omega) (fun u2 hf2 g1 g2 => hp u2 (mF_tr hk2.1 hf2) g1 g2)
        · refine Or.inr ⟨e, (cs1 ++ [nI 2]) ++ cs, val, by omega, i2, by rw [← List.append_assoc]; exact i3, i4, by simp <;> omega, ⟨m1 + 1, fun u0 x kk post hx hk hp => ?_⟩, ⟨m2 + 1, fun u L post hg hb hp => ?_⟩⟩
          · have hs4 := sk_le (T := T) (n := n) (p := e1) f2
            exact ⟨fun q => absurd q (hlt kk (by omega)), fun _ => g_takeSign hT hx (k := 43) (by omega) (by decide) (by decide) (fun _ x' hx' => ⟨fun q => absurd q (by decide), fun _ => c1 u0 x' _ hx' (fun x2 h2 => c_limited (by rw [← opv_2]; exact fun x20 e20 => by rw [ix_1] at e20; subst e20; exact c2 u0 x2 (kk + 1) post h2 (by omega) hp))⟩) (fun q => absurd hc q)⟩
          · obtain ⟨hu, h0, hpp, hpn, hsk, hne, hL⟩ := hg
            refine zl_mk ?_
            show j_X10_sum_4 _ RR u post
            show wp_X10_isGood u _
            refine r_good h0 ⟨fun q => absurd q (by decide), fun _ => q_next hT e0 he u hu hpp ⟨fun _ => q_next hT (sk T n e0) hs.2 (u.1, u.2.1, u.2.2.1, u.2.2.2.1, (nI (sk T n e0)), u.2.2.2.2.2.1, u.2.2.2.2.2.2.1, u.2.2.2.2.2.2.2.1, u.2.2.2.2.2.2.2.2.1, u.2.2.2.2.2.2.2.2.2.1, u.2.2.2.2.2.2.2.2.2.2.1, u.2.2.2.2.2.2.2.2.2.2.2.1, u.2.2.2.2.2.2.2.2.2.2.2.2.1, u.2.2.2.2.2.2.2.2.2.2.2.2.2.1, u.2.2.2.2.2.2.2.2.2.2.2.2.2.2.1, u.2.2.2.2.2.2.2.2.2.2.2.2.2.2.2.1, u.2.2.2.2.2.2.2.2.2.2.2.2.2.2.2.2.1, u.2.2.2.2.2.2.2.2.2.2.2.2.2.2.2.2.2.1, u.2.2.2.2.2.2.2.2.2.2.2.2.2.2.2.2.2.2.1, u.2.2.2.2.2.2.2.2.2.2.2.2.2.2.2.2.2.2.2.1, u.2.2.2.2.2.2.2.2.2.2.2.2.2.2.2.2.2.2.2.2.1, u.2.2.2.2.2.2.2.2.2.2.2.2.2.2.2.2.2.2.2.2.2) hu rfl ⟨fun q => absurd (by rw [hss]; exact (hbv 43 (by omega)).mpr hc) q, fun _ x15 e15 => ?_⟩, fun q => absurd ((hbv 43 (by omega)).mpr hc) q⟩⟩
            dsimp only at e15
            rw [hss, ix_1] at e15
            subst e15
            refine r1 (u.1, u.2.1, u.2.2.1, u.2.2.2.1, (nI (sk T n e0 + 1)), u.2.2.2.2.2.1, u.2.2.2.2.2.2.1, u.2.2.2.2.2.2.2.1, u.2.2.2.2.2.2.2.2.1, u.2.2.2.2.2.2.2.2.2.1, u.2.2.2.2.2.2.2.2.2.2.1, u.2.2.2.2.2.2.2.2.2.2.2.1, u.2.2.2.2.2.2.2.2.2.2.2.2.1, u.2.2.2.2.2.2.2.2.2.2.2.2.2.1, u.2.2.2.2.2.2.2.2.2.2.2.2.2.2.1, u.2.2.2.2.2.2.2.2.2.2.2.2.2.2.2.1, u.2.2.2.2.2.2.2.2.2.2.2.2.2.2.2.2.1, u.2.2.2.2.2.2.2.2.2.2.2.2.2.2.2.2.2.1, u.2.2.2.2.2.2.2.2.2.2.2.2.2.2.2.2.2.2.1, u.2.2.2.2.2.2.2.2.2.2.2.2.2.2.2.2.2.2.2.1, u.2.2.2.2.2.2.2.2.2.2.2.2.2.2.2.2.2.2.2.2.1, u.2.2.2.2.2.2.2.2.2.2.2.2.2.2.2.2.2.2.2.2.2) (sk T n e0 + 1) L _ ⟨hu, h0, rfl, by omega, rfl, hne, hL⟩ (by omega) (fun ub hk2 hg2 => ⟨fun q => absurd q (by decide), fun _ => ?_⟩)
            obtain ⟨gu, g0, gp, gpn, gsk, gne, gL⟩ := hg2
            refine r_emit g0 gL (by simp <;> omega) (fun D' d1 d2 => ?_)
            refine r2 (ub.1, ub.2.1, ub.2.2.1, ub.2.2.2.1, ub.2.2.2.2.1, ub.2.2.2.2.2.1, ub.2.2.2.2.2.2.1, ub.2.2.2.2.2.2.2.1, ub.2.2.2.2.2.2.2.2.1, D', ub.2.2.2.2.2.2.2.2.2.2.1, ub.2.2.2.2.2.2.2.2.2.2.2.1, ub.2.2.2.2.2.2.2.2.2.2.2.2.1, ub.2.2.2.2.2.2.2.2.2.2.2.2.2.1, ub.2.2.2.2.2.2.2.2.2.2.2.2.2.2.1, ub.2.2.2.2.2.2.2.2.2.2.2.2.2.2.2.1, ub.2.2.2.2.2.2.2.2.2.2.2.2.2.2.2.2.1, ub.2.2.2.2.2.2.2.2.2.2.2.2.2.2.2.2.2.1, ub.2.2.2.2.2.2.2.2.2.2.2.2.2.2.2.2.2.2.1, ub.2.2.2.2.2.2.2.2.2.2.2.2.2.2.2.2.2.2.2.1, ub.2.2.2.2.2.2.2.2.2.2.2.2.2.2.2.2.2.2.2.2.1, ub.2.2.2.2.2.2.2.2.2.2.2.2.2.2.2.2.2.2.2.2.2) (L ++ cs1 ++ [nI 2]) post ⟨gu, g0, gp, gpn, rfl, gne, d2⟩ (by simp <;> omega) (fun u2 hk3 hg3 => hp u2 ?_ ?_)
            · exact rk_tr hk2 ⟨hk3.1, hk3.2.1, hk3.2.2.1, dF_tr d1 hk3.2.2.2⟩
            · rw [show L ++ (cs1 ++ [nI 2] ++ cs) = L ++ cs1 ++ [nI 2] ++ cs by simp]
              exact hg3
    by_cases hc45 : bc T n (sk T n e0) = 45
    · have hc := hc45
      have hq : sk T n e0 < n := bc_ne (T := T) (by omega)
      have hs3 := sk_le (T := T) (n := n) (p := sk T n e0 + 1) (by omega)
      rcases hf (sk T n (sk T n e0 + 1)) hs3.2 with ⟨e, a, hea, c1, r1⟩ | ⟨e1, cs1, v1, f1, f2, f3, f4, f5, f6, c1, r1⟩
      · refine Or.inl ⟨e, a, hea, ⟨2, fun u0 x kk post hx hk hp => ?_⟩, ⟨2, fun u L post hg hb hp => ?_⟩⟩
        · exact ⟨fun q => absurd q (hlt kk (by omega)), fun _ => g_takeSign hT hx (k := 43) (by omega) (by decide) (by decide) (fun q => absurd q (by omega)) (fun _ => ⟨fun _ => g_takeSign hT hx (k := 45) (by omega) (by decide) (by decide) (fun _ x' hx' => ⟨fun q => absurd q (by decide), fun _ => c1 u0 x' _ hx' (fun r x2 h2 => fun x20 e20 => x_sum RC d h2 _ _ u0 post hp)⟩) (fun q => absurd hc q), fun q => absurd rfl q⟩)⟩
        · obtain ⟨hu, h0, hpp, hpn, hsk, hne, hL⟩ := hg
          refine zl_mk ?_
          show j_X10_sum_4 _ RR u post
          show wp_X10_isGood u _
          refine r_good h0 ⟨fun q => absurd q (by decide), fun _ => q_next hT e0 he u hu hpp ⟨fun q => absurd ((hbv 43 (by omega)).mp q) (by omega), fun _ => q_next hT (sk T n e0) hs.2 (u.1, u.2.1, u.2.2.1, u.2.2.2.1, (nI (sk T n e0)), u.2.2.2.2.2.1, u.2.2.2.2.2.2.1, u.2.2.2.2.2.2.2.1, u.2.2.2.2.2.2.2.2.1, u.2.2.2.2.2.2.2.2.2.1, u.2.2.2.2.2.2.2.2.2.2.1, u.2.2.2.2.2.2.2.2.2.2.2.1, u.2.2.2.2.2.2.2.2.2.2.2.2.1, u.2.2.2.2.2.2.2.2.2.2.2.2.2.1, u.2.2.2.2.2.2.2.2.2.2.2.2.2.2.1, u.2.2.2.2.2.2.2.2.2.2.2.2.2.2.2.1, u.2.2.2.2.2.2.2.2.2.2.2.2.2.2.2.2.1, u.2.2.2.2.2.2.2.2.2.2.2.2.2.2.2.2.2.1, u.2.2.2.2.2.2.2.2.2.2.2.2.2.2.2.2.2.2.1, u.2.2.2.2.2.2.2.2.2.2.2.2.2.2.2.2.2.2.2.1, u.2.2.2.2.2.2.2.2.2.2.2.2.2.2.2.2.2.2.2.2.1, u.2.2.2.2.2.2.2.2.2.2.2.2.2.2.2.2.2.2.2.2.2) hu rfl ⟨fun q => absurd (by rw [hss]; exact (hbv 45 (by omega)).mpr hc) q, fun _ => q_next hT (sk T n e0) hs.2 (u.1, u.2.1, u.2.2.1, u.2.2.2.1, (nI (sk T n (sk T n e0))), u.2.2.2.2.2.1, u.2.2.2.2.2.2.1, u.2.2.2.2.2.2.2.1, u.2.2.2.2.2.2.2.2.1, u.2.2.2.2.2.2.2.2.2.1, u.2.2.2.2.2.2.2.2.2.2.1, u.2.2.2.2.2.2.2.2.2.2.2.1, u.2.2.2.2.2.2.2.2.2.2.2.2.1, u.2.2.2.2.2.2.2.2.2.2.2.2.2.1, u.2.2.2.2.2.2.2.2.2.2.2.2.2.2.1, u.2.2.2.2.2.2.2.2.2.2.2.2.2.2.2.1, u.2.2.2.2.2.2.2.2.2.2.2.2.2.2.2.2.1, u.2.2.2.2.2.2.2.2.2.2.2.2.2.2.2.2.2.1, u.2.2.2.2.2.2.2.2.2.2.2.2.2.2.2.2.2.2.1, u.2.2.2.2.2.2.2.2.2.2.2.2.2.2.2.2.2.2.2.1, u.2.2.2.2.2.2.2.2.2.2.2.2.2.2.2.2.2.2.2.2.1, u.2.2.2.2.2.2.2.2.2.2.2.2.2.2.2.2.2.2.2.2.2) hu (by show nI (sk T n (sk T n e0)) = nI (sk T n e0); rw [hss]) ⟨fun _ x15 e15 => ?_, fun q => by rw [hss] at q; exact absurd ((hbv 43 (by omega)).mp q) (by omega)⟩⟩⟩⟩
          dsimp only at e15
          rw [hss, ix_1] at e15
          subst e15
          exact r1 (u.1, u.2.1, u.2.2.1, u.2.2.2.1, (nI (sk T n e0 + 1)), u.2.2.2.2.2.1, u.2.2.2.2.2.2.1, u.2.2.2.2.2.2.2.1, u.2.2.2.2.2.2.2.2.1, u.2.2.2.2.2.2.2.2.2.1, u.2.2.2.2.2.2.2.2.2.2.1, u.2.2.2.2.2.2.2.2.2.2.2.1, u.2.2.2.2.2.2.2.2.2.2.2.2.1, u.2.2.2.2.2.2.2.2.2.2.2.2.2.1, u.2.2.2.2.2.2.2.2.2.2.2.2.2.2.1, u.2.2.2.2.2.2.2.2.2.2.2.2.2.2.2.1, u.2.2.2.2.2.2.2.2.2.2.2.2.2.2.2.2.1, u.2.2.2.2.2.2.2.2.2.2.2.2.2.2.2.2.2.1, u.2.2.2.2.2.2.2.2.2.2.2.2.2.2.2.2.2.2.1, u.2.2.2.2.2.2.2.2.2.2.2.2.2.2.2.2.2.2.2.1, u.2.2.2.2.2.2.2.2.2.2.2.2.2.2.2.2.2.2.2.2.1, u.2.2.2.2.2.2.2.2.2.2.2.2.2.2.2.2.2.2.2.2.2) (sk T n e0 + 1) L _ ⟨hu, h0, rfl, by omega, rfl, hne, hL⟩ (by omega) (fun u' hf2 g1 g2 => ⟨fun _ => re_emit (by rw [g1]; exact hea) (y_sum RR (by rw [g1]; exact hea) post (hp u' hf2 g1 g2)), fun q => absurd rfl q⟩)
      · have hev2 : EV (cs0 ++ (cs1 ++ [nI 3])) (fun u => opv 3 (val0 u) (v1 u)) := ev_op (k := 3) (by omega) hev f5 hl f3 hvb
        have hlen : (cs0 ++ (cs1 ++ [nI 3])).length = cs0.length + (cs1.length + 1) := by simp
        rcases ih e1 (cs0 ++ (cs1 ++ [nI 3])) (fun u => opv 3 (val0 u) (v1 u)) (by omega) f2 (by omega) hev2 (fun u _ _ => opv_bd _ _ _) with ⟨e, a, hea, ⟨m1, c2⟩, ⟨m2, r2⟩⟩ | ⟨e, cs, val, i1, i2, i3, i4, i5, ⟨m1, c2⟩, ⟨m2, r2⟩⟩
        · refine Or.inl ⟨e, a, hea, ⟨m1 + 1, fun u0 x kk post hx hk hp => ?_⟩, ⟨m2 + 1, fun u L post hg hb hp => ?_⟩⟩
          · have hs4 := sk_le (T := T) (n := n) (p := e1) f2
            exact ⟨fun q => absurd q (hlt kk (by omega)), fun _ => g_takeSign hT hx (k := 43) (by omega) (by decide) (by decide) (fun q => absurd q (by omega)) (fun _ => ⟨fun _ => g_takeSign hT hx (k := 45) (by omega) (by decide) (by decide) (fun _ x' hx' => ⟨fun q => absurd q (by decide), fun _ => c1 u0 x' _ hx' (fun x2 h2 => c_limited (by rw [← opv_3]; exact fun x20 e20 => by rw [ix_1] at e20; subst e20; exact c2 u0 x2 (kk + 1) post h2 (by omega) hp))⟩) (fun q => absurd hc q), fun q => absurd rfl q⟩)⟩
          · obtain ⟨hu, h0, hpp, hpn, hsk, hne, hL⟩ := hg
            refine zl_mk ?_
            show j_X10_sum_4 _ RR u post
            show wp_X10_isGood u _
            refine r_good h0 ⟨fun q => absurd q (by decide), fun _ => q_next hT e0 he u hu hpp ⟨fun q => absurd ((hbv 43 (by omega)).mp q) (by omega), fun _ => q_next hT (sk T n e0) hs.2 (u.1, u.2.1, u.2.2.1, u.2.2.2.1, (nI (sk T n e0)), u.2.2.2.2.2.1, u.2.2.2.2.2.2.1, u.2.2.2.2.2.2.2.1, u.2.2.2.2.2.2.2.2.1, u.2.2.2.2.2.2.2.2.2.1, u.2.2.2.2.2.2.2.2.2.2.1, u.2.2.2.2.2.2.2.2.2.2.2.1, u.2.2.2.2.2.2.2.2.2.2.2.2.1, u.2.2.2.2.2.2.2.2.2.2.2.2.2.1, u.2.2.2.2.2.2.2.2.2.2.2.2.2.2.1, u.2.2.2.2.2.2.2.2.2.2.2.2.2.2.2.1, u.2.2.2.2.2.2.2.2.2.2.2.2.2.2.2.2.1, u.2.2.2.2.2.2.2.2.2.2.2.2.2.2.2.2.2.1, u.2.2.2.2.2.2.2.2.2.2.2.2.2.2.2.2.2.2.1, u.2.2.2.2.2.2.2.2.2.2.2.2.2.2.2.2.2.2.2.1, u.2.2.2.2.2.2.2.2.2.2.2.2.2.2.2.2.2.2.2.2.1, u.2.2.2.2.2.2.2.2.2.2.2.2.2.2.2.2.2.2.2.2.2) hu rfl ⟨fun q => absurd (by rw [hss]; exact (hbv 45 (by omega)).mpr hc) q, fun _ => q_next hT (sk T n e0) hs.2 (u.1, u.2.1, u.2.2.1, u.2.2.2.1, (nI (sk T n (sk T n e0))), u.2.2.2.2.2.1, u.2.2.2.2.2.2.1, u.2.2.2.2.2.2.2.1, u.2.2.2.2.2.2.2.2.1, u.2.2.2.2.2.2.2.2.2.1, u.2.2.2.2.2.2.2.2.2.2.1, u.2.2.2.2.2.2.2.2.2.2.2.1, u.2.2.2.2.2.2.2.2.2.2.2.2.1, u.2.2.2.2.2.2.2.2.2.2.2.2.2.1, u.2.2.2.2.2.2.2.2.2.2.2.2.2.2.1, u.2.2.2.2.2.2.2.2.2.2.2.2.2.2.2.1, u.2.2.2.2.2.2.2.2.2.2.2.2.2.2.2.2.1, u.2.2.2.2.2.2.2.2.2.2.2.2.2.2.2.2.2.1, u.2.2.2.2.2.2.2.2.2.2.2.2.2.2.2.2.2.2.1, u.2.2.2.2.2.2.2.2.2.2.2.2.2.2.2.2.2.2.2.1, u.2.2.2.2.2.2.2.2.2.2.2.2.2.2.2.2.2.2.2.2.1, u.2.2.2.2.2.2.2.2.2.2.2.2.2.2.2.2.2.2.2.2.2) hu (by show nI (sk T n (sk T n e0)) = nI (sk T n e0); rw [hss]) ⟨fun _ x15 e15 => ?_, fun q => by rw [hss] at q; exact absurd ((hbv 43 (by omega)).mp q) (by omega)⟩⟩⟩⟩
            dsimp only at e15
            rw [hss, ix_1] at e15
            subst e15
            refine r1 (u.1, u.2.1, u.2.2.1, u.2.2.2.1, (nI (sk T n e0 + 1)), u.2.2.2.2.2.1, u.2.2.2.2.2.2.1, u.2.2.2.2.2.2.2.1, u.2.2.2.2.2.2.2.2.1, u.2.2.2.2.2.2.2.2.2.1, u.2.2.2.2.2.2.2.2.2.2.1, u.2.2.2.2.2.2.2.2.2.2.2.1, u.2.2.2.2.2.2.2.2.2.2.2.2.1, u.2.2.2.2.2.2.2.2.2.2.2.2.2.1, u.2.2.2.2.2.2.2.2.2.2.2.2.2.2.1, u.2.2.2.2.2.2.2.2.2.2.2.2.2.2.2.1, u.2.2.2.2.2.2.2.2.2.2.2.2.2.2.2.2.1, u.2.2.2.2.2.2.2.2.2.2.2.2.2.2.2.2.2.1, u.2.2.2.2.2.2.2.2.2.2.2.2.2.2.2.2.2.2.1, u.2.2.2.2.2.2.2.2.2.2.2.2.2.2.2.2.2.2.2.1, u.2.2.2.2.2.2.2.2.2.2.2.2.2.2.2.2.2.2.2.2.1, u.2.2.2.2.2.2.2.2.2.2.2.2.2.2.2.2.2.2.2.2.2) (sk T n e0 + 1) L _ ⟨hu, h0, rfl, by omega, rfl, hne, hL⟩ (by omega) (fun ub hk2 hg2 => ⟨fun _ => ?_, fun q => absurd rfl q⟩)
            obtain ⟨gu, g0, gp, gpn, gsk, gne, gL⟩ := hg2
            refine r_emit g0 gL (by simp <;> omega) (fun D' d1 d2 => ?_)
            refine r2 (ub.1, ub.2.1, ub.2.2.1, ub.2.2.2.1, ub.2.2.2.2.1, ub.2.2.2.2.2.1, ub.2.2.2.2.2.2.1, ub.2.2.2.2.2.2.2.1, ub.2.2.2.2.2.2.2.2.1, D', ub.2.2.2.2.2.2.2.2.2.2.1, ub.2.2.2.2.2.2.2.2.2.2.2.1, ub.2.2.2.2.2.2.2.2.2.2.2.2.1, ub.2.2.2.2.2.2.2.2.2.2.2.2.2.1, ub.2.2.2.2.2.2.2.2.2.2.2.2.2.2.1, ub.2.2.2.2.2.2.2.2.2.2.2.2.2.2.2.1, ub.2.2.2.2.2.2.2.2.2.2.2.2.2.2.2.2.1, ub.2.2.2.2.2.2.2.2.2.2.2.2.2.2.2.2.2.1, ub.2.2.2.2.2.2.2.2.2.2.2.2.2.2.2.2.2.2.1, ub.2.2.2.2.2.2.2.2.2.2.2.2.2.2.2.2.2.2.2.1, ub.2.2.2.2.2.2.2.2.2.2.2.2.2.2.2.2.2.2.2.2.1, ub.2.2.2.2.2.2.2.2.2.2.2.2.2.2.2.2.2.2.2.2.2) (L ++ cs1 ++ [nI 3]) post ⟨gu, g0, gp, gpn, rfl, gne, d2⟩ (by simp <;> omega) (fun u2 hf2 g1 g2 => hp u2 (mF_tr hk2.1 hf2) g1 g2)
        · refine Or.inr ⟨e, (cs1 ++ [nI 3]) ++ cs, val, by omega, i2, by rw [← List.append_assoc]; exact i3, i4, by simp <;> omega, ⟨m1 + 1, fun u0 x kk post hx hk hp => ?_⟩, ⟨m2 + 1, fun u L post hg hb hp => ?_⟩⟩
          · have hs4 := sk_le (T := T) (n := n) (p := e1) f2
            exact ⟨fun q => absurd q (hlt kk (by omega)), fun _ => g_takeSign hT hx (k := 43) (by omega) (by decide) (by decide) (fun q => absurd q (by omega)) (fun _ => ⟨fun _ => g_takeSign hT hx (k := 45) (by omega) (by decide) (by decide) (fun _ x' hx' => ⟨fun q => absurd q (by decide), fun _ => c1 u0 x' _ hx' (fun x2 h2 => c_limited (by rw [← opv_3]; exact fun x20 e20 => by rw [ix_1] at e20; subst e20; exact c2 u0 x2 (kk + 1) post h2 (by omega) hp))⟩) (fun q => absurd hc q), fun q => absurd rfl q⟩)⟩
          · obtain ⟨hu, h0, hpp, hpn, hsk, hne, hL⟩ := hg
            refine zl_mk ?_
            show j_X10_sum_4 _ RR u post
            show wp_X10_isGood u _
            refine r_good h0 ⟨fun q => absurd q (by decide), fun _ => q_next hT e0 he u hu hpp ⟨fun q => absurd ((hbv 43 (by omega)).mp q) (by omega), fun _ => q_next hT (sk T n e0) hs.2 (u.1, u.2.1, u.2.2.1, u.2.2.2.1, (nI (sk T n e0)), u.2.2.2.2.2.1, u.2.2.2.2.2.2.1, u.2.2.2.2.2.2.2.1, u.2.2.2.2.2.2.2.2.1, u.2.2.2.2.2.2.2.2.2.1, u.2.2.2.2.2.2.2.2.2.2.1, u.2.2.2.2.2.2.2.2.2.2.2.1, u.2.2.2.2.2.2.2.2.2.2.2.2.1, u.2.2.2.2.2.2.2.2.2.2.2.2.2.1, u.2.2.2.2.2.2.2.2.2.2.2.2.2.2.1, u.2.2.2.2.2.2.2.2.2.2.2.2.2.2.2.1, u.2.2.2.2.2.2.2.2.2.2.2.2.2.2.2.2.1, u.2.2.2.2.2.2.2.2.2.2.2.2.2.2.2.2.2.1, u.2.2.2.2.2.2.2.2.2.2.2.2.2.2.2.2.2.2.1, u.2.2.2.2.2.2.2.2.2.2.2.2.2.2.2.2.2.2.2.1, u.2.2.2.2.2.2.2.2.2.2.2.2.2.2.2.2.2.2.2.2.1, u.2.2.2.2.2.2.2.2.2.2.2.2.2.2.2.2.2.2.2.2.2) hu rfl ⟨fun q => absurd (by rw [hss]; exact (hbv 45 (by omega)).mpr hc) q, fun _ => q_next hT (sk T n e0) hs.2 (u.1, u.2.1, u.2.2.1, u.2.2.2.1, (nI (sk T n (sk T n e0))), u.2.2.2.2.2.1, u.2.2.2.2.2.2.1, u.2.2.2.2.2.2.2.1, u.2.2.2.2.2.2.2.2.1, u.2.2.2.2.2.2.2.2.2.1, u.2.2.2.2.2.2.2.2.2.2.1, u.2.2.2.2.2.2.2.2.2.2.2.1, u.2.2.2.2.2.2.2.2.2.2.2.2.1, u.2.2.2.2.2.2.2.2.2.2.2.2.2.1, u.2.2.2.2.2.2.2.2.2.2.2.2.2.2.1, u.2.2.2.2.2.2.2.2.2.2.2.2.2.2.2.1, u.2.2.2.2.2.2.2.2.2.2.2.2.2.2.2.2.1, u.2.2.2.2.2.2.2.2.2.2.2.2.2.2.2.2.2.1, u.2.2.2.2.2.2.2.2.2.2.2.2.2.2.2.2.2.2.1, u.2.2.2.2.2.2.2.2.2.2.2.2.2.2.2.2.2.2.2.1, u.2.2.2.2.2.2.2.2.2.2.2.2.2.2.2.2.2.2.2.2.1, u.2.2.2.2.2.2.2.2.2.2.2.2.2.2.2.2.2.2.2.2.2) hu (by show nI (sk T n (sk T n e0)) = nI (sk T n e0); rw [hss]) ⟨fun _ x15 e15 => ?_, fun q => by rw [hss] at q; exact absurd ((hbv 43 (by omega)).mp q) (by omega)⟩⟩⟩⟩
            dsimp only at e15
            rw [hss, ix_1] at e15
            subst e15
            refine r1 (u.1, u.2.1, u.2.2.1, u.2.2.2.1, (nI (sk T n e0 + 1)), u.2.2.2.2.2.1, u.2.2.2.2.2.2.1, u.2.2.2.2.2.2.2.1, u.2.2.2.2.2.2.2.2.1, u.2.2.2.2.2.2.2.2.2.1, u.2.2.2.2.2.2.2.2.2.2.1, u.2.2.2.2.2.2.2.2.2.2.2.1, u.2.2.2.2.2.2.2.2.2.2.2.2.1, u.2.2.2.2.2.2.2.2.2.2.2.2.2.1, u.2.2.2.2.2.2.2.2.2.2.2.2.2.2.1, u.2.2.2.2.2.2.2.2.2.2.2.2.2.2.2.1, u.2.2.2.2.2.2.2.2.2.2.2.2.2.2.2.2.1, u.2.2.2.2.2.2.2.2.2.2.2.2.2.2.2.2.2.1, u.2.2.2.2.2.2.2.2.2.2.2.2.2.2.2.2.2.2.1, u.2.2.2.2.2.2.2.2.2.2.2.2.2.2.2.2.2.2.2.1, u.2.2.2.2.2.2.2.2.2.2.2.2.2.2.2.2.2.2.2.2.1, u.2.2.2.2.2.2.2.2.2.2.2.2.2.2.2.2.2.2.2.2.2) (sk T n e0 + 1) L _ ⟨hu, h0, rfl, by omega, rfl, hne, hL⟩ (by omega) (fun ub hk2 hg2 => ⟨fun _ => ?_, fun q => absurd rfl q⟩)
            obtain ⟨gu, g0, gp, gpn, gsk, gne, gL⟩ := hg2
            refine r_emit g0 gL (by simp <;> omega) (fun D' d1 d2 => ?_)
            refine r2 (ub.1, ub.2.1, ub.2.2.1, ub.2.2.2.1, ub.2.2.2.2.1, ub.2.2.2.2.2.1, ub.2.2.2.2.2.2.1, ub.2.2.2.2.2.2.2.1, ub.2.2.2.2.2.2.2.2.1, D', ub.2.2.2.2.2.2.2.2.2.2.1, ub.2.2.2.2.2.2.2.2.2.2.2.1, ub.2.2.2.2.2.2.2.2.2.2.2.2.1, ub.2.2.2.2.2.2.2.2.2.2.2.2.2.1, ub.2.2.2.2.2.2.2.2.2.2.2.2.2.2.1, ub.2.2.2.2.2.2.2.2.2.2.2.2.2.2.2.1, ub.2.2.2.2.2.2.2.2.2.2.2.2.2.2.2.2.1, ub.2.2.2.2.2.2.2.2.2.2.2.2.2.2.2.2.2.1, ub.2.2.2.2.2.2.2.2.2.2.2.2.2.2.2.2.2.2.1, ub.2.2.2.2.2.2.2.2.2.2.2.2.2.2.2.2.2.2.2.1, ub.2.2.2.2.2.2.2.2.2.2.2.2.2.2.2.2.2.2.2.2.1, ub.2.2.2.2.2.2.2.2.2.2.2.2.2.2.2.2.2.2.2.2.2) (L ++ cs1 ++ [nI 3]) post ⟨gu, g0, gp, gpn, rfl, gne, d2⟩ (by simp <;> omega) (fun u2 hk3 hg3 => hp u2 ?_ ?_)
            · exact rk_tr hk2 ⟨hk3.1, hk3.2.1, hk3.2.2.1, dF_tr d1 hk3.2.2.2⟩
            · rw [show L ++ (cs1 ++ [nI 3] ++ cs) = L ++ cs1 ++ [nI 3] ++ cs by simp]
              exact hg3
    refine Or.inr ⟨sk T n e0, [], val0, hs.1, hs.2, by rw [List.append_nil]; exact hev, hvb, by simp, ⟨1, fun u0 x k post hx hk hp => ?_⟩, ⟨1, fun u L post hg hb hp => ?_⟩⟩
    · have hp2 := hp x (by rw [hss]; exact hx)
      exact ⟨fun _ => hp2, fun _ => g_takeSign hT hx (k := 43) (by omega) (by decide) (by decide) (fun q => absurd q hc43) (fun _ => ⟨fun _ => g_takeSign hT hx (k := 45) (by omega) (by decide) (by decide) (fun q => absurd q hc45) (fun _ => ⟨fun _ => hp2, fun q => absurd rfl q⟩), fun q => absurd rfl q⟩)⟩
    · obtain ⟨hu, h0, hpp, hpn, hsk, hne, hL⟩ := hg
      refine zl_mk ?_
      show j_X10_sum_4 _ RR u post
      show wp_X10_isGood u _
      refine r_good h0 ⟨fun q => absurd q (by decide), fun _ => q_next hT e0 he u hu hpp ⟨fun q => absurd ((hbv 43 (by omega)).mp q) hc43, fun _ => q_next hT (sk T n e0) hs.2 (u.1, u.2.1, u.2.2.1, u.2.2.2.1, (nI (sk T n e0)), u.2.2.2.2.2.1, u.2.2.2.2.2.2.1, u.2.2.2.2.2.2.2.1, u.2.2.2.2.2.2.2.2.1, u.2.2.2.2.2.2.2.2.2.1, u.2.2.2.2.2.2.2.2.2.2.1, u.2.2.2.2.2.2.2.2.2.2.2.1, u.2.2.2.2.2.2.2.2.2.2.2.2.1, u.2.2.2.2.2.2.2.2.2.2.2.2.2.1, u.2.2.2.2.2.2.2.2.2.2.2.2.2.2.1, u.2.2.2.2.2.2.2.2.2.2.2.2.2.2.2.1, u.2.2.2.2.2.2.2.2.2.2.2.2.2.2.2.2.1, u.2.2.2.2.2.2.2.2.2.2.2.2.2.2.2.2.2.1, u.2.2.2.2.2.2.2.2.2.2.2.2.2.2.2.2.2.2.1, u.2.2.2.2.2.2.2.2.2.2.2.2.2.2.2.2.2.2.2.1, u.2.2.2.2.2.2.2.2.2.2.2.2.2.2.2.2.2.2.2.2.1, u.2.2.2.2.2.2.2.2.2.2.2.2.2.2.2.2.2.2.2.2.2) hu rfl ⟨fun _ => hp _ ⟨⟨rfl, rfl, rfl, rfl, rfl, rfl, rfl⟩, rfl, rfl, dF_rf _⟩ ⟨hu, h0, ?_, hs.2, rfl, hne, ?_⟩, fun q => ?_⟩⟩⟩
      · dsimp only
        rw [hss]
      · rw [List.append_nil]; exact hL
      · rw [hss] at q
        exact absurd ((hbv 45 (by omega)).mp q) hc45
theorem P_sum (hT : tx T B n) {RC : WC} {RR : WR} {d : Nat} (hf : ∀ q', q' ≤ n → PO T B n (wp_X3_term RC) (wp_X10_term RR) q' d) {q : Nat} (hqn : q ≤ n) : PO T B n (wp_X3_sumB RC) (wp_X10_sumB RR) q d := by
  have hn8 := hT.1
  rcases hf q hqn with ⟨e, a, hea, c1, r1⟩ | ⟨e1, cs1, v1, f1, f2, f3, f4, f5, f6, c1, r1⟩
  · refine Or.inl ⟨e, a, hea, fun u0 x post hx hp => ?_, fun u p L post hg hb hp => ?_⟩
    · exact c1 u0 x _ hx (fun r x2 h2 => ⟨1, x_sum RC d h2 _ _ u0 post hp⟩)
    · exact r1 u p L _ hg hb (fun u' hf2 g1 g2 => ⟨1, y_sum RR (by rw [g1]; exact hea) post (hp u' hf2 g1 g2)⟩)
  · rcases P_sumL hT hf (n - e1) e1 cs1 v1 (Nat.le_refl _) f2 f3 f5 f6 with ⟨e, a, hea, ⟨m1, c2⟩, ⟨m2, r2⟩⟩ | ⟨e, cs, val, i1, i2, i3, i4, i5, ⟨m1, c2⟩, ⟨m2, r2⟩⟩
    · refine Or.inl ⟨e, a, hea, fun u0 x post hx hp => ?_, fun u p L post hg hb hp => ?_⟩
      · exact c1 u0 x _ hx (fun x2 h2 => ⟨m1, c2 u0 x2 0 post h2 (by omega) hp⟩)
      · exact r1 u p L _ hg hb (fun u' hk2 hg2 => ⟨m2, r2 u' (L ++ cs1) post hg2 (by simp <;> omega) (fun u2 hf2 g1 g2 => hp u2 (mF_tr hk2.1 hf2) g1 g2)⟩)
    · refine Or.inr ⟨e, cs1 ++ cs, val, by omega, i2, by simp <;> omega, by simp <;> omega, i3, i4, fun u0 x post hx hp => ?_, fun u p L post hg hb hp => ?_⟩
      · exact c1 u0 x _ hx (fun x2 h2 => ⟨m1, c2 u0 x2 0 post h2 (by omega) hp⟩)
      · exact r1 u p L _ hg hb (fun u' hk2 hg2 => ⟨m2, r2 u' (L ++ cs1) post hg2 (by simp <;> omega) (fun u2 hk3 hg3 => hp u2 (rk_tr hk2 hk3) (by rw [← List.append_assoc]; exact hg3))⟩)
theorem r_sumE (k : Nat) (u : S_X10) (post : S_X10 → Prop) (h : ¬ u.2.2.2.2.2.1 = 0) (hp : post u) : wp_X10_sum (k + 1) u post := by
  show wp_X10_sumB (wp_X10_sum k) u post
  show wp_X10_term (wp_X10_sum k) u _
  show wp_X10_factor (wp_X10_sum k) u _
  show wp_X10_isGood u _
  exact r_bad h ⟨fun q => absurd rfl q, fun _ => ⟨1, y_term (wp_X10_sum k) h _ ⟨1, y_sum (wp_X10_sum k) h post hp⟩⟩⟩
theorem P_expr (hT : tx T B n) : ∀ (j : Nat), j ≤ 4 → ∀ q, q ≤ n → PO T B n (wp_X3_sum (j + 2)) (wp_X10_sum (j + 4)) q (4 - j) := by
  intro j
  induction j with
  | zero =>
    intro _ q hq
    exact P_sum hT (fun q1 h1 => P_term hT (fun q2 h2 => P_factor hT h2 (by omega) (fun h => absurd h (by omega)) (fun u post h hp => r_sumE 2 u post h hp)) h1) hq
  | succ j ih =>
    intro hj q hq
    refine P_sum hT (fun q1 h1 => P_term hT (fun q2 h2 => P_factor hT h2 (by omega) (fun h q3 h3 => ?_) (fun u post h hp => r_sumE (j + 3) u post h hp)) h1) hq
    rw [show 4 - (j + 1) + 1 = 4 - j by omega]
    exact ih (by omega) q3 h3
theorem P_demand (hT : tx T B n) (q : Nat) (hq : q ≤ n) : PO T B n (wp_X3_sum 6) (wp_X10_sum 8) q 0 := P_expr hT 4 (by omega) q hq
end
