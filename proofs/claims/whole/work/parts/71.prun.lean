/-! bestWaiving and bestWaiver. -/
theorem P_run {t : S_X7} {m v : Nat} {x : S_X1} (bt : bT t) (hv : t.2.2.2.2.2.2.2.2.1 = nI v) (hv4 : v ≤ 4) (bb : bB m v x) (hr : x.1 = nI m) (u0 : S_X8) (w : S_X10) (ht : rT t w.2.2.2.2.2.2.2.2.1) (rb : rB m x w.2.2.2.2.2.2.2.2.1) :
    ∃ (u0' : S_X8) (be ma : Nat → Int32) (z : Nat) (s : Int32), u0'.2.2.2.2.2.2.2 = s ∧ u0'.2.2.2.2.2.2.1 = nI z ∧ z ≤ 4 ∧ (∀ k, k < z → u0'.2.2.2.2.2.1 k = be k) ∧ (∀ post : S_X8 × S_X7 × S_X1 → Prop, post (u0', t, x) → wp_X8_run u0 t x post) ∧ (∀ post : S_X10 → Prop, post (w.1, w.2.1, w.2.2.1, w.2.2.2.1, w.2.2.2.2.1, w.2.2.2.2.2.1, w.2.2.2.2.2.2.1, w.2.2.2.2.2.2.2.1, w.2.2.2.2.2.2.2.2.1, w.2.2.2.2.2.2.2.2.2.1, w.2.2.2.2.2.2.2.2.2.2.1, w.2.2.2.2.2.2.2.2.2.2.2.1, w.2.2.2.2.2.2.2.2.2.2.2.2.1, w.2.2.2.2.2.2.2.2.2.2.2.2.2.1, w.2.2.2.2.2.2.2.2.2.2.2.2.2.2.1, w.2.2.2.2.2.2.2.2.2.2.2.2.2.2.2.1, w.2.2.2.2.2.2.2.2.2.2.2.2.2.2.2.2.1, w.2.2.2.2.2.2.2.2.2.2.2.2.2.2.2.2.2.1, be, ma, (nI z), s) → wp_X10_findBest w post) := by
  have hm := bb.1
  have hwc := bb.2.2.2.2
  obtain ⟨G, hG4, hG⟩ := bt.2.2.2.2.2.2.2.2.2.1
  have hcixle : ∀ b, cix x m v G b ≤ b := fun b => fb_ct_le _ b
  -- the candidates
  let g : Nat → (Nat → Int32) → (Nat → Int32) := fun k f => if cdB x m v G k then upd f (cix x m v G k) (nI k) else f
  have hcand : ∀ b, b < m → cdB x m v G b = true → (fo g m u0.1) (cix x m v G b) = nI b := by
    have key := fo_inv (g := g) (fun k f => ∀ b, b < k → cdB x m v G b = true → f (cix x m v G b) = nI b) m u0.1 ?_ (fun b hb => absurd hb (by omega))
    · exact key m (Nat.le_refl m)
    · intro k f hk hI b hb hcb
      show (if cdB x m v G k then upd f (cix x m v G k) (nI k) else f) (cix x m v G b) = nI b
      by_cases e : b = k
      · subst e
        rw [if_pos hcb, upd_same]
      · have hlt : b + 1 ≤ k := by omega
        have h1 : cix x m v G (b + 1) ≤ cix x m v G k := fb_ct_mono _ hlt
        have h2 : cix x m v G (b + 1) = cix x m v G b + 1 := by unfold cix; rw [fb_ct_succ, hcb, if_pos rfl]
        cases hck : cdB x m v G k with
        | true => rw [if_pos rfl, upd_ne _ _ (by omega)]; exact hI b (by omega) hcb
        | false => rw [if_neg (by decide)]; exact hI b (by omega) hcb
  have hrun : ∀ post : S_X8 × S_X7 × S_X1 → Prop, wp_X8_extend 6 (fo g m u0.1, nI (cix x m v G m), nI (v - wct x m), nI G, u0.2.2.2.2.1, u0.2.2.2.2.2.1, nI 0, (0 : Int32)) x (nI 0) (nI 0) 0 (fun w => post (w.1, t, w.2)) → wp_X8_run u0 t x post := by
    intro post hp x1 e1
    have ex1 : x1 = nI (v - wct x m) := by
      rw [e1, hv, bb.2.2.2.1, pk_sub hwc, show (4 : Int32) = nI 4 from rfl, if_neg (fun q => by rw [lt_nI (by omega) (by omega)] at q; omega)]
    subst ex1
    rw [hG]
    refine zl_for (fun k f => (nI k, (f, nI (cix x m v G k), nI (v - wct x m), nI G, u0.2.2.2.2.1, u0.2.2.2.2.2.1, (0 : Int32), (0 : Int32)), t, x)) g m u0.1 rfl ?_ ?_
    · intro k hk K hK
      have h88 : ∀ w : S_X8, K (nI (k + 1), w, t, x) → j_X8_run_88 K (nI k) w t x post := by
        intro w hw x12 e12
        rw [ix_1] at e12
        subst e12
        exact hw
      have c1 := hcixle k
      refine ⟨fun q => ?_, fun _ => ⟨in_of (by omega) (by omega), fun q => h88 _ ?_, fun q => q_canC bb hr hv hv4 hG hG4 hk ?_⟩⟩
      · dsimp only at q
        rw [hr, le_nI (by omega) (by omega)] at q; omega
      · dsimp only at q
        rw [cl_nI (by omega)] at q
        have e0 : cdB x m v G k = false := by unfold cdB; rw [decide_eq_true q]; rfl
        have e2 : cix x m v G (k + 1) = cix x m v G k := by unfold cix; rw [fb_ct_succ, e0, if_neg (by decide), Nat.add_zero]
        rw [e2] at hK
        have e3 : g k (fo g k u0.1) = fo g k u0.1 := by show (if cdB x m v G k then _ else _) = _; rw [e0, if_neg (by decide)]
        rw [e3] at hK
        exact hK
      · dsimp only at q
        rw [cl_nI (by omega)] at q
        have e0 : cdB x m v G k = cwB x m v G k := by unfold cdB; rw [decide_eq_false q]; rfl
        cases h9 : cwB x m v G k with
        | true =>
          rw [h9] at e0
          have e2 : cix x m v G (k + 1) = cix x m v G k + 1 := by unfold cix; rw [fb_ct_succ, e0, if_pos rfl]
          have e3 : g k (fo g k u0.1) = upd (fo g k u0.1) (cix x m v G k) (nI k) := by show (if cdB x m v G k then _ else _) = _; rw [e0, if_pos rfl]
          rw [e2, e3] at hK
          refine ⟨fun q2 => absurd q2 (by decide), fun _ => ⟨in_of (by omega) (by omega), fun x11 e11 => h88 _ ?_⟩⟩
          dsimp only at e11 ⊢
          rw [ix_1] at e11
          subst e11
          rw [cl_nI (by omega)]
          exact hK
        | false =>
          rw [h9] at e0
          have e2 : cix x m v G (k + 1) = cix x m v G k := by unfold cix; rw [fb_ct_succ, e0, if_neg (by decide), Nat.add_zero]
          have e3 : g k (fo g k u0.1) = fo g k u0.1 := by show (if cdB x m v G k then _ else _) = _; rw [e0, if_neg (by decide)]
          rw [e2, e3] at hK
          exact ⟨fun _ => h88 _ hK, fun q2 => absurd rfl q2⟩
    · intro K
      refine ⟨fun _ => hp, fun q => ?_⟩
      dsimp only at q
      rw [hr, le_nI (by omega) (by omega)] at q; omega
  obtain ⟨ch, bc, ma, be, z, s, ⟨w1, w2, w3⟩, r1, r2⟩ := p_search bb hr hv4 hG4 rfl (fo g m u0.1, nI (cix x m v G m), nI (v - wct x m), nI G, u0.2.2.2.2.1, u0.2.2.2.2.2.1, nI 0, (0 : Int32)) rfl rfl rfl hcand w rb (by rw [← ht.1.2.2.2.2.2.2.2.2.1]; exact hv) (by rw [← ht.1.2.2.2.2.2.2.2.2.2.1]; exact hG) (v - wct x m) 0 (by omega) 0 (by omega) 0 (fun _ => 0) u0.2.2.2.2.1 u0.2.2.2.2.2.1 w.2.2.2.2.2.2.2.2.2.2.2.2.2.2.2.2.2.2.2.1 w.2.2.2.2.2.2.2.2.2.2.2.2.2.2.2.2.2.2.1 0 0 ⟨fun k hk => absurd hk (by omega), by omega, fun k hk => absurd hk (by omega)⟩
  exact ⟨_, be, ma, z, s, rfl, rfl, w2, w3, fun post hp => hrun post (r1 6 (by omega) _ hp), fun post hp => r2 6 (by omega) post hp⟩
