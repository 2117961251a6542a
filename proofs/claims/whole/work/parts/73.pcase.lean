/-! The law's invariant; the cases that only read. -/
def by8 (x : Int32) : Prop := x.toInt8.toInt32 = x
def rX (inp : S_X5) (buf : Nat → Int32) (bl : Int32) : Prop := ∃ f, f ≤ 800 ∧ inp.2.1 = nI f ∧ bl = nI f ∧ ∀ i, i < f → by8 (inp.1 i) ∧ buf i = inp.1 i &&& 255
def dCl (c : S_X2) : Prop := c.2.2.1 = 0 ∧ c.2.2.2.1 = 0 ∧ c.2.2.2.2.1 = 0 ∧ ∀ k, k < 20 → c.2.2.2.2.2.2.2.2 k = 0
def RL (v : S_L) : Prop := rC v.2.2.1 v.2.2.2.2.2.2.2.2.2.2.2.1.2.2.2.2.2.2.2.2.1 v.2.2.2.2.2.2.2.2.2.2.2.1.2.2.2.2.2.2.2.2.2.2.2.1 ∧ v.2.1 = v.2.2.2.2.2.2.2.2.2.2.2.1.2.2.2.2.2.2.2.1 ∧ rX v.2.2.2.2.2.1 v.2.2.2.2.2.2.2.2.2.2.2.1.2.1 v.2.2.2.2.2.2.2.2.2.2.2.1.2.2.1 ∧ dCl v.2.2.2.2.2.2.2.1 ∧ rH v.2.2.2.1 v.2.2.2.2.2.2.2.2.2.2.2.2.2 v.2.2.2.2.2.2.2.2.2.2.2.1.2.2.2.2.2.2.2.2.2.2.2.2.2.1 v.2.2.2.2.2.2.2.2.2.2.2.2.1
theorem nb0 : narrow .boolean (.int (0 : Int32)) = .int 0 := by rfl
theorem nb1 : narrow .boolean (.int (1 : Int32)) = .int 1 := by rfl
theorem q_fails0 {u : S_X10} (hu : u.1 = 0) {k : Int32} {post : Int32 → S_X10 → Prop} (h : post 0 u) : wp_X10_fails u 0 k post := ⟨fun _ => ⟨fun _ => h, fun q => absurd hu q⟩, fun q => absurd rfl q⟩
theorem q_fails1 {u : S_X10} (hu : u.1 = 0) {k : Int32} (hk : ¬ k = 0) {post : Int32 → S_X10 → Prop} (h : post 1 (k, u.2.1, u.2.2.1, u.2.2.2.1, u.2.2.2.2.1, u.2.2.2.2.2.1, u.2.2.2.2.2.2.1, u.2.2.2.2.2.2.2.1, u.2.2.2.2.2.2.2.2.1, u.2.2.2.2.2.2.2.2.2.1, u.2.2.2.2.2.2.2.2.2.2.1, u.2.2.2.2.2.2.2.2.2.2.2.1, u.2.2.2.2.2.2.2.2.2.2.2.2.1, u.2.2.2.2.2.2.2.2.2.2.2.2.2.1, u.2.2.2.2.2.2.2.2.2.2.2.2.2.2.1, u.2.2.2.2.2.2.2.2.2.2.2.2.2.2.2.1, u.2.2.2.2.2.2.2.2.2.2.2.2.2.2.2.2.1, u.2.2.2.2.2.2.2.2.2.2.2.2.2.2.2.2.2.1, u.2.2.2.2.2.2.2.2.2.2.2.2.2.2.2.2.2.2.1, u.2.2.2.2.2.2.2.2.2.2.2.2.2.2.2.2.2.2.2.1, u.2.2.2.2.2.2.2.2.2.2.2.2.2.2.2.2.2.2.2.2.1, u.2.2.2.2.2.2.2.2.2.2.2.2.2.2.2.2.2.2.2.2.2)) : wp_X10_fails u 1 k post := ⟨fun q => absurd q (by decide), fun _ => ⟨fun q => absurd hu q, fun _ => ⟨fun q => absurd q hk, fun _ => h⟩⟩⟩
theorem q_in0 {p lo hi : Int32} {post : Int32 → Unit → Prop} (h : p < lo ∨ hi < p) (hp : post 0 ()) : wp_X10_in p lo hi post := by
  refine ⟨fun _ => hp, fun q => ⟨fun _ => hp, fun q2 => ?_⟩⟩
  rcases h with h | h
  · exact absurd h q
  · exact absurd h q2
theorem q_in1 {p lo hi : Int32} {post : Int32 → Unit → Prop} (h1 : ¬ p < lo) (h2 : ¬ hi < p) (hp : post 1 ()) : wp_X10_in p lo hi post := ⟨fun q => absurd q h1, fun _ => ⟨fun q => absurd q h2, fun _ => hp⟩⟩
theorem n_pred (n j : Nat) (hn : n < 1000000) (hj : j < 1000000) : nI n - 1 < nI j ↔ n ≤ j := by
  rw [fa_lt, show (1 : Int32) = nI 1 from rfl, pk_sub_toInt (by omega) (by omega), nI_toInt (by omega)]
  omega
theorem n_predI (n : Nat) (hn : n < 1000000) {p : Int32} (h : nI n ≤ p) : nI n - 1 < p := by
  rw [fa_lt, show (1 : Int32) = nI 1 from rfl, pk_sub_toInt (by omega) (by omega)]
  rw [fa_le, nI_toInt (by omega)] at h
  omega
theorem q_noPer1 {u : S_X10} {n : Nat} (hn : n ≤ 40) (hu : u.1 = 0) (h0 : u.2.2.2.2.2.2.2.2.1 0 = nI n) {p : Int32} (h : p < 0 ∨ nI n ≤ p) {post : Int32 → S_X10 → Prop} (hp : post 1 ((1 : Int32), u.2.1, u.2.2.1, u.2.2.2.1, u.2.2.2.2.1, u.2.2.2.2.2.1, u.2.2.2.2.2.2.1, u.2.2.2.2.2.2.2.1, u.2.2.2.2.2.2.2.2.1, u.2.2.2.2.2.2.2.2.2.1, u.2.2.2.2.2.2.2.2.2.2.1, u.2.2.2.2.2.2.2.2.2.2.2.1, u.2.2.2.2.2.2.2.2.2.2.2.2.1, u.2.2.2.2.2.2.2.2.2.2.2.2.2.1, u.2.2.2.2.2.2.2.2.2.2.2.2.2.2.1, u.2.2.2.2.2.2.2.2.2.2.2.2.2.2.2.1, u.2.2.2.2.2.2.2.2.2.2.2.2.2.2.2.2.1, u.2.2.2.2.2.2.2.2.2.2.2.2.2.2.2.2.2.1, u.2.2.2.2.2.2.2.2.2.2.2.2.2.2.2.2.2.2.1, u.2.2.2.2.2.2.2.2.2.2.2.2.2.2.2.2.2.2.2.1, u.2.2.2.2.2.2.2.2.2.2.2.2.2.2.2.2.2.2.2.2.1, u.2.2.2.2.2.2.2.2.2.2.2.2.2.2.2.2.2.2.2.2.2)) : wp_X10_noPeriod u p post := by
  unfold wp_X10_noPeriod
  rw [h0]
  refine q_in0 (h.elim Or.inl (fun q => Or.inr (n_predI n (by omega) q))) ⟨fun q => absurd rfl q, fun _ => q_fails1 hu (by decide) ⟨nb1, hp⟩⟩
theorem q_noPer0 {u : S_X10} {n j : Nat} (hn : n ≤ 40) (hu : u.1 = 0) (h0 : u.2.2.2.2.2.2.2.2.1 0 = nI n) (hj : j < n) {post : Int32 → S_X10 → Prop} (hp : post 0 u) : wp_X10_noPeriod u (nI j) post := by
  unfold wp_X10_noPeriod
  rw [h0]
  refine q_in1 (nI_pos (by omega)) (fun q => by rw [n_pred _ _ (by omega) (by omega)] at q; omega) ⟨fun _ => q_fails0 hu ⟨nb0, hp⟩, fun q => absurd q (by decide)⟩
theorem q_noBre1 {u : S_X10} {n : Nat} (hn : n ≤ 40) (hu : u.1 = 0) (h0 : u.2.2.2.2.2.2.2.2.1 12 = nI n) {p : Int32} (h : p < 0 ∨ nI n ≤ p) {post : Int32 → S_X10 → Prop} (hp : post 1 ((1 : Int32), u.2.1, u.2.2.1, u.2.2.2.1, u.2.2.2.2.1, u.2.2.2.2.2.1, u.2.2.2.2.2.2.1, u.2.2.2.2.2.2.2.1, u.2.2.2.2.2.2.2.2.1, u.2.2.2.2.2.2.2.2.2.1, u.2.2.2.2.2.2.2.2.2.2.1, u.2.2.2.2.2.2.2.2.2.2.2.1, u.2.2.2.2.2.2.2.2.2.2.2.2.1, u.2.2.2.2.2.2.2.2.2.2.2.2.2.1, u.2.2.2.2.2.2.2.2.2.2.2.2.2.2.1, u.2.2.2.2.2.2.2.2.2.2.2.2.2.2.2.1, u.2.2.2.2.2.2.2.2.2.2.2.2.2.2.2.2.1, u.2.2.2.2.2.2.2.2.2.2.2.2.2.2.2.2.2.1, u.2.2.2.2.2.2.2.2.2.2.2.2.2.2.2.2.2.2.1, u.2.2.2.2.2.2.2.2.2.2.2.2.2.2.2.2.2.2.2.1, u.2.2.2.2.2.2.2.2.2.2.2.2.2.2.2.2.2.2.2.2.1, u.2.2.2.2.2.2.2.2.2.2.2.2.2.2.2.2.2.2.2.2.2)) : wp_X10_noBreach u p post := by
  unfold wp_X10_noBreach
  rw [h0]
  refine q_in0 (h.elim Or.inl (fun q => Or.inr (n_predI n (by omega) q))) ⟨fun q => absurd rfl q, fun _ => q_fails1 hu (by decide) ⟨nb1, hp⟩⟩
theorem q_noBre0 {u : S_X10} {n j : Nat} (hn : n ≤ 40) (hu : u.1 = 0) (h0 : u.2.2.2.2.2.2.2.2.1 12 = nI n) (hj : j < n) {post : Int32 → S_X10 → Prop} (hp : post 0 u) : wp_X10_noBreach u (nI j) post := by
  unfold wp_X10_noBreach
  rw [h0]
  refine q_in1 (nI_pos (by omega)) (fun q => by rw [n_pred _ _ (by omega) (by omega)] at q; omega) ⟨fun _ => q_fails0 hu ⟨nb0, hp⟩, fun q => absurd q (by decide)⟩
abbrev caseOK (w : Int32 → Int32 → Int32 → Int32 → Int32 → S_L → (S_L → Prop) → Prop) : Prop := ∀ (v : S_L), RL v → ∀ (x1 x2 x3 x4 x5 : Int32) (K : S_L → Prop), (∀ v', RL v' → K v') → w x1 x2 x3 x4 x5 v K
theorem C_2 : caseOK wl_2 := by
  intro v h x1 x2 x3 x4 x5 K hK
  exact ⟨h.2.1, hK _ h⟩
theorem C_3 : caseOK wl_3 := by
  intro v h x1 x2 x3 x4 x5 K hK
  exact ⟨h.1.1.1.1, hK _ h⟩
theorem C_4 : caseOK wl_4 := by
  intro v h x1 x2 x3 x4 x5 K hK
  obtain ⟨ht, bt, ⟨n, k, hn, htn, hk, hclk, ra, ba, hi⟩, hB⟩ := h.1
  exact ⟨ra.1, hK _ h⟩
theorem C_15 : caseOK wl_15 := by
  intro v h x1 x2 x3 x4 x5 K hK
  obtain ⟨-, -, -, ⟨m, w, -, -, rb, bb⟩⟩ := h.1
  exact ⟨rb.2.1, hK _ h⟩
theorem C_16 : caseOK wl_16 := by
  intro v h x1 x2 x3 x4 x5 K hK
  obtain ⟨-, -, -, ⟨m, w, -, -, rb, bb⟩⟩ := h.1
  exact ⟨rb.2.2.1, hK _ h⟩
theorem C_11 : caseOK wl_11 := by
  intro v h x1 x2 x3 x4 x5 K hK
  obtain ⟨r, g1, g2⟩ := P_balance h.1
  refine g1 _ _ ?_
  exact g2 {|v.2.2.2.2.2.2.2.2.2.2.2.1%M thrown := (0 : Int32)|} _ rfl rfl ⟨rfl, hK _ h⟩
theorem C_32 : caseOK wl_32 := by
  intro v h x1 x2 x3 x4 x5 K hK
  obtain ⟨r, g1, g2⟩ := P_checksum h.1
  refine g1 _ _ ?_
  exact g2 v.2.2.2.2.2.2.2.2.2.2.2.1 _ rfl rfl ⟨rfl, hK _ h⟩
theorem C_24 : caseOK wl_24 := by
  intro v h x1 x2 x3 x4 x5 K hK
  obtain ⟨r, tr', fu, sp, g1, g2⟩ := P_projected h.1 v.2.1 v.2.2.2.2.2.2.2.2.2.2.1
  exact g1 _ (g2 _ ⟨rfl, hK _ h⟩)
theorem C_5 : caseOK wl_5 := by
  intro v h x1 x2 x3 x4 x5 K hK
  obtain ⟨ht, bt, ⟨n, k, hn, htn, hk, hclk, ra, ba, hi⟩, hB⟩ := h.1
  have hd0 : v.2.2.2.2.2.2.2.2.2.2.2.1.2.2.2.2.2.2.2.2.1 0 = nI n := by rw [← ht.1.1]; exact htn
  have hbad : x1 < 0 ∨ nI n ≤ x1 → wl_5 x1 x2 x3 x4 x5 v K := by
    intro q
    have hr : ∀ (post : Int32 → S_X10 → Prop), post 0 {|v.2.2.2.2.2.2.2.2.2.2.2.1%M thrown := (1 : Int32)|} → wp_X10_reservedIn v.2.2.2.2.2.2.2.2.2.2.2.1 x1 post := fun post hp => q_noPer1 (u := {|v.2.2.2.2.2.2.2.2.2.2.2.1%M thrown := (0 : Int32)|}) hn rfl hd0 q ⟨fun q2 => absurd q2 (by decide), fun _ => hp⟩
    refine ⟨fun _ => ⟨rfl, hr _ ⟨rfl, fun q2 => absurd q2 (by decide), fun _ => hK _ h⟩⟩, fun q1 => ⟨fun q2 => ?_, fun _ => ⟨rfl, hr _ ⟨rfl, fun q2 => absurd q2 (by decide), fun _ => hK _ h⟩⟩⟩⟩
    rcases q with q | q
    · exact absurd q q1
    · rw [htn] at q2; exact absurd q (fa_of_lt q2).2.1
  rcases pk_ix x1 (n := n) (by omega) with q | q | ⟨j, hj, e⟩
  · exact hbad (Or.inl q)
  · exact hbad (Or.inr q)
  · subst e
    have ei : (148 : Int32) + 5 * nI j = nI (148 + 5 * j) := ix_per j
    refine ⟨fun q => absurd q (nI_pos (by omega)), fun _ => ⟨fun _ => ⟨in_of (by omega) (by omega), ?_⟩, fun q => absurd (show nI j < v.2.2.1.1.1 by rw [htn]; exact nI_lt hj (by omega)) q⟩⟩
    refine q_noPer0 (u := {|v.2.2.2.2.2.2.2.2.2.2.2.1%M thrown := (0 : Int32)|}) hn rfl hd0 hj ⟨fun _ => ?_, fun q => absurd rfl q⟩
    unfold wp_X10_period
    dsimp only
    rw [ei]
    refine ⟨in_of (by omega) (by omega), rfl, fun _ => ⟨?_, hK _ h⟩, fun q => absurd rfl q⟩
    rw [updL_same, cl_nI (by omega), cl_nI (by omega)]
    exact congrArg Int32.toInt64 (ra.2 j hj).1
theorem C_6 : caseOK wl_6 := by
  intro v h x1 x2 x3 x4 x5 K hK
  obtain ⟨ht, bt, ⟨n, k, hn, htn, hk, hclk, ra, ba, hi⟩, hB⟩ := h.1
  have hd0 : v.2.2.2.2.2.2.2.2.2.2.2.1.2.2.2.2.2.2.2.2.1 0 = nI n := by rw [← ht.1.1]; exact htn
  have hbad : x1 < 0 ∨ nI n ≤ x1 → wl_6 x1 x2 x3 x4 x5 v K := by
    intro q
    have hr : ∀ (post : Int32 → S_X10 → Prop), post 0 {|v.2.2.2.2.2.2.2.2.2.2.2.1%M thrown := (1 : Int32)|} → wp_X10_forecastOf v.2.2.2.2.2.2.2.2.2.2.2.1 x1 post := fun post hp => q_noPer1 (u := {|v.2.2.2.2.2.2.2.2.2.2.2.1%M thrown := (0 : Int32)|}) hn rfl hd0 q ⟨fun q2 => absurd q2 (by decide), fun _ => hp⟩
    refine ⟨fun _ => ⟨rfl, hr _ ⟨rfl, fun q2 => absurd q2 (by decide), fun _ => hK _ h⟩⟩, fun q1 => ⟨fun q2 => ?_, fun _ => ⟨rfl, hr _ ⟨rfl, fun q2 => absurd q2 (by decide), fun _ => hK _ h⟩⟩⟩⟩
    rcases q with q | q
    · exact absurd q q1
    · rw [htn] at q2; exact absurd q (fa_of_lt q2).2.1
  rcases pk_ix x1 (n := n) (by omega) with q | q | ⟨j, hj, e⟩
  · exact hbad (Or.inl q)
  · exact hbad (Or.inr q)
  · subst e
    have ei : (148 : Int32) + 5 * nI j + 1 = nI (149 + 5 * j) := by rw [ix_per, ix_1]; congr 1; omega
    refine ⟨fun q => absurd q (nI_pos (by omega)), fun _ => ⟨fun _ => ⟨in_of (by omega) (by omega), ?_⟩, fun q => absurd (show nI j < v.2.2.1.1.1 by rw [htn]; exact nI_lt hj (by omega)) q⟩⟩
    refine q_noPer0 (u := {|v.2.2.2.2.2.2.2.2.2.2.2.1%M thrown := (0 : Int32)|}) hn rfl hd0 hj ⟨fun _ => ?_, fun q => absurd rfl q⟩
    unfold wp_X10_period
    dsimp only
    rw [ei]
    refine ⟨in_of (by omega) (by omega), rfl, fun _ => ⟨?_, hK _ h⟩, fun q => absurd rfl q⟩
    rw [updL_same, cl_nI (by omega), cl_nI (by omega)]
    exact congrArg Int32.toInt64 (ra.2 j hj).2.1
theorem C_7 : caseOK wl_7 := by
  intro v h x1 x2 x3 x4 x5 K hK
  obtain ⟨ht, bt, ⟨n, k, hn, htn, hk, hclk, ra, ba, hi⟩, hB⟩ := h.1
  have hd0 : v.2.2.2.2.2.2.2.2.2.2.2.1.2.2.2.2.2.2.2.2.1 0 = nI n := by rw [← ht.1.1]; exact htn
  have hbad : x1 < 0 ∨ nI n ≤ x1 → wl_7 x1 x2 x3 x4 x5 v K := by
    intro q
    have hr : ∀ (post : Int32 → S_X10 → Prop), post 0 {|v.2.2.2.2.2.2.2.2.2.2.2.1%M thrown := (1 : Int32)|} → wp_X10_orderOf v.2.2.2.2.2.2.2.2.2.2.2.1 x1 post := fun post hp => q_noPer1 (u := {|v.2.2.2.2.2.2.2.2.2.2.2.1%M thrown := (0 : Int32)|}) hn rfl hd0 q ⟨fun q2 => absurd q2 (by decide), fun _ => hp⟩
    refine ⟨fun _ => ⟨rfl, hr _ ⟨rfl, fun q2 => absurd q2 (by decide), fun _ => hK _ h⟩⟩, fun q1 => ⟨fun q2 => ?_, fun _ => ⟨rfl, hr _ ⟨rfl, fun q2 => absurd q2 (by decide), fun _ => hK _ h⟩⟩⟩⟩
    rcases q with q | q
    · exact absurd q q1
    · rw [htn] at q2; exact absurd q (fa_of_lt q2).2.1
  rcases pk_ix x1 (n := n) (by omega) with q | q | ⟨j, hj, e⟩
  · exact hbad (Or.inl q)
  · exact hbad (Or.inr q)
  · subst e
    have ei : (148 : Int32) + 5 * nI j + 2 = nI (150 + 5 * j) := by rw [ix_per, ix_2]; congr 1; omega
    refine ⟨fun q => absurd q (nI_pos (by omega)), fun _ => ⟨fun _ => ⟨in_of (by omega) (by omega), ?_⟩, fun q => absurd (show nI j < v.2.2.1.1.1 by rw [htn]; exact nI_lt hj (by omega)) q⟩⟩
    refine q_noPer0 (u := {|v.2.2.2.2.2.2.2.2.2.2.2.1%M thrown := (0 : Int32)|}) hn rfl hd0 hj ⟨fun _ => ?_, fun q => absurd rfl q⟩
    unfold wp_X10_period
    dsimp only
    rw [ei]
    refine ⟨in_of (by omega) (by omega), rfl, fun _ => ⟨?_, hK _ h⟩, fun q => absurd rfl q⟩
    rw [updL_same, cl_nI (by omega), cl_nI (by omega)]
    exact congrArg Int32.toInt64 (ra.2 j hj).2.2.1
theorem C_8 : caseOK wl_8 := by
  intro v h x1 x2 x3 x4 x5 K hK
  obtain ⟨ht, bt, ⟨n, k, hn, htn, hk, hclk, ra, ba, hi⟩, hB⟩ := h.1
  have hd0 : v.2.2.2.2.2.2.2.2.2.2.2.1.2.2.2.2.2.2.2.2.1 0 = nI n := by rw [← ht.1.1]; exact htn
  have hbad : x1 < 0 ∨ nI n ≤ x1 → wl_8 x1 x2 x3 x4 x5 v K := by
    intro q
    have hr : ∀ (post : Int32 → S_X10 → Prop), post 0 {|v.2.2.2.2.2.2.2.2.2.2.2.1%M thrown := (1 : Int32)|} → wp_X10_openUnits v.2.2.2.2.2.2.2.2.2.2.2.1 x1 post := fun post hp => q_noPer1 (u := {|v.2.2.2.2.2.2.2.2.2.2.2.1%M thrown := (0 : Int32)|}) hn rfl hd0 q ⟨fun q2 => absurd q2 (by decide), fun _ => hp⟩
    refine ⟨fun _ => ⟨rfl, hr _ ⟨rfl, fun q2 => absurd q2 (by decide), fun _ => hK _ h⟩⟩, fun q1 => ⟨fun q2 => ?_, fun _ => ⟨rfl, hr _ ⟨rfl, fun q2 => absurd q2 (by decide), fun _ => hK _ h⟩⟩⟩⟩
    rcases q with q | q
    · exact absurd q q1
    · rw [htn] at q2; exact absurd q (fa_of_lt q2).2.1
  rcases pk_ix x1 (n := n) (by omega) with q | q | ⟨j, hj, e⟩
  · exact hbad (Or.inl q)
  · exact hbad (Or.inr q)
  · subst e
    have ei : (148 : Int32) + 5 * nI j + 3 = nI (151 + 5 * j) := by rw [ix_per, ix_3]; congr 1; omega
    refine ⟨fun q => absurd q (nI_pos (by omega)), fun _ => ⟨fun _ => ⟨in_of (by omega) (by omega), ?_⟩, fun q => absurd (show nI j < v.2.2.1.1.1 by rw [htn]; exact nI_lt hj (by omega)) q⟩⟩
    refine q_noPer0 (u := {|v.2.2.2.2.2.2.2.2.2.2.2.1%M thrown := (0 : Int32)|}) hn rfl hd0 hj ⟨fun _ => ?_, fun q => absurd rfl q⟩
    unfold wp_X10_period
    dsimp only
    rw [ei]
    refine ⟨in_of (by omega) (by omega), rfl, fun _ => ⟨?_, hK _ h⟩, fun q => absurd rfl q⟩
    rw [updL_same, cl_nI (by omega), cl_nI (by omega)]
    exact congrArg Int32.toInt64 (ra.2 j hj).2.2.2.1
theorem C_9 : caseOK wl_9 := by
  intro v h x1 x2 x3 x4 x5 K hK
  obtain ⟨ht, bt, ⟨n, k, hn, htn, hk, hclk, ra, ba, hi⟩, hB⟩ := h.1
  have hd0 : v.2.2.2.2.2.2.2.2.2.2.2.1.2.2.2.2.2.2.2.2.1 0 = nI n := by rw [← ht.1.1]; exact htn
  have hbad : x1 < 0 ∨ nI n ≤ x1 → wl_9 x1 x2 x3 x4 x5 v K := by
    intro q
    have hr : ∀ (post : Int32 → S_X10 → Prop), post 0 {|v.2.2.2.2.2.2.2.2.2.2.2.1%M thrown := (1 : Int32)|} → wp_X10_missedUnits v.2.2.2.2.2.2.2.2.2.2.2.1 x1 post := fun post hp => q_noPer1 (u := {|v.2.2.2.2.2.2.2.2.2.2.2.1%M thrown := (0 : Int32)|}) hn rfl hd0 q ⟨fun q2 => absurd q2 (by decide), fun _ => hp⟩
    refine ⟨fun _ => ⟨rfl, hr _ ⟨rfl, fun q2 => absurd q2 (by decide), fun _ => hK _ h⟩⟩, fun q1 => ⟨fun q2 => ?_, fun _ => ⟨rfl, hr _ ⟨rfl, fun q2 => absurd q2 (by decide), fun _ => hK _ h⟩⟩⟩⟩
    rcases q with q | q
    · exact absurd q q1
    · rw [htn] at q2; exact absurd q (fa_of_lt q2).2.1
  rcases pk_ix x1 (n := n) (by omega) with q | q | ⟨j, hj, e⟩
  · exact hbad (Or.inl q)
  · exact hbad (Or.inr q)
  · subst e
    have ei : (148 : Int32) + 5 * nI j + 4 = nI (152 + 5 * j) := by rw [ix_per, ix_4]; congr 1; omega
    refine ⟨fun q => absurd q (nI_pos (by omega)), fun _ => ⟨fun _ => ⟨in_of (by omega) (by omega), ?_⟩, fun q => absurd (show nI j < v.2.2.1.1.1 by rw [htn]; exact nI_lt hj (by omega)) q⟩⟩
    refine q_noPer0 (u := {|v.2.2.2.2.2.2.2.2.2.2.2.1%M thrown := (0 : Int32)|}) hn rfl hd0 hj ⟨fun _ => ?_, fun q => absurd rfl q⟩
    unfold wp_X10_period
    dsimp only
    rw [ei]
    refine ⟨in_of (by omega) (by omega), rfl, fun _ => ⟨?_, hK _ h⟩, fun q => absurd rfl q⟩
    rw [updL_same, cl_nI (by omega), cl_nI (by omega)]
    exact congrArg Int32.toInt64 (ra.2 j hj).2.2.2.2
theorem C_10 : caseOK wl_10 := by
  intro v h x1 x2 x3 x4 x5 K hK
  obtain ⟨ht, bt, ⟨n, k, hn, htn, hk, hclk, ra, ba, hi⟩, hB⟩ := h.1
  have hd0 : v.2.2.2.2.2.2.2.2.2.2.2.1.2.2.2.2.2.2.2.2.1 0 = nI n := by rw [← ht.1.1]; exact htn
  have hbad : x1 < 0 ∨ nI n ≤ x1 → wl_10 x1 x2 x3 x4 x5 v K := by
    intro q
    have hr : ∀ (post : Int64 → S_X10 → Prop), post 0 {|v.2.2.2.2.2.2.2.2.2.2.2.1%M thrown := (1 : Int32)|} → wp_X10_invoice v.2.2.2.2.2.2.2.2.2.2.2.1 x1 post := fun post hp => q_noPer1 (u := {|v.2.2.2.2.2.2.2.2.2.2.2.1%M thrown := (0 : Int32)|}) hn rfl hd0 q ⟨fun q2 => absurd q2 (by decide), fun _ => hp⟩
    refine ⟨fun _ => ⟨rfl, hr _ ⟨rfl, fun q2 => absurd q2 (by decide), fun _ => hK _ h⟩⟩, fun q1 => ⟨fun q2 => ?_, fun _ => ⟨rfl, hr _ ⟨rfl, fun q2 => absurd q2 (by decide), fun _ => hK _ h⟩⟩⟩⟩
    rcases q with q | q
    · exact absurd q q1
    · rw [htn] at q2; exact absurd q (fa_of_lt q2).2.1
  rcases pk_ix x1 (n := n) (by omega) with q | q | ⟨j, hj, e⟩
  · exact hbad (Or.inl q)
  · exact hbad (Or.inr q)
  · subst e
    refine ⟨fun q => absurd q (nI_pos (by omega)), fun _ => ⟨fun _ => ⟨in_of (by omega) (by omega), ?_⟩, fun q => absurd (show nI j < v.2.2.1.1.1 by rw [htn]; exact nI_lt hj (by omega)) q⟩⟩
    refine q_noPer0 (u := {|v.2.2.2.2.2.2.2.2.2.2.2.1%M thrown := (0 : Int32)|}) hn rfl hd0 hj ⟨fun _ => ⟨in_of (by omega) (by omega), rfl, fun _ => ⟨?_, hK _ h⟩, fun q => absurd rfl q⟩, fun q => absurd rfl q⟩
    rw [updL_same, cl_nI (by omega)]
    exact hi j hj
theorem C_17 : caseOK wl_17 := by
  intro v h x1 x2 x3 x4 x5 K hK
  obtain ⟨-, -, -, ⟨n, w, -, -, rb, bb⟩⟩ := h.1
  have hn := bb.1
  have hd0 : v.2.2.2.2.2.2.2.2.2.2.2.1.2.2.2.2.2.2.2.2.1 12 = nI n := by rw [← rb.2.1]; exact rb.1
  have hbad : x1 < 0 ∨ nI n ≤ x1 → wl_17 x1 x2 x3 x4 x5 v K := by
    intro q
    have hr : ∀ (post : Int32 → S_X10 → Prop), post 0 {|v.2.2.2.2.2.2.2.2.2.2.2.1%M thrown := (1 : Int32)|} → wp_X10_breachPeriod v.2.2.2.2.2.2.2.2.2.2.2.1 x1 post := fun post hp => q_noBre1 (u := {|v.2.2.2.2.2.2.2.2.2.2.2.1%M thrown := (0 : Int32)|}) (by omega) rfl hd0 q ⟨fun q2 => absurd q2 (by decide), fun _ => hp⟩
    refine ⟨fun _ => ⟨rfl, hr _ ⟨rfl, fun q2 => absurd q2 (by decide), fun _ => hK _ h⟩⟩, fun q1 => ⟨fun q2 => ?_, fun _ => ⟨rfl, hr _ ⟨rfl, fun q2 => absurd q2 (by decide), fun _ => hK _ h⟩⟩⟩⟩
    rcases q with q | q
    · exact absurd q q1
    · rw [rb.1] at q2; exact absurd q (fa_of_lt q2).2.1
  rcases pk_ix x1 (n := n) (by omega) with q | q | ⟨j, hj, e⟩
  · exact hbad (Or.inl q)
  · exact hbad (Or.inr q)
  · subst e
    have ei : (348 : Int32) + 4 * nI j = nI (348 + 4 * j) := ix_bre j
    refine ⟨fun q => absurd q (nI_pos (by omega)), fun _ => ⟨fun _ => ⟨in_of (by omega) (by omega), ?_⟩, fun q => absurd (show nI j < v.2.2.1.2.2.1 by rw [rb.1]; exact nI_lt hj (by omega)) q⟩⟩
    refine q_noBre0 (u := {|v.2.2.2.2.2.2.2.2.2.2.2.1%M thrown := (0 : Int32)|}) (by omega) rfl hd0 hj ⟨fun _ => ?_, fun q => absurd rfl q⟩
    unfold wp_X10_breach
    dsimp only
    rw [ei]
    refine ⟨in_of (by omega) (by omega), rfl, fun _ => ⟨?_, hK _ h⟩, fun q => absurd rfl q⟩
    rw [updL_same, cl_nI (by omega), cl_nI (by omega)]
    exact congrArg Int32.toInt64 (rb.2.2.2 j hj).1
theorem C_18 : caseOK wl_18 := by
  intro v h x1 x2 x3 x4 x5 K hK
  obtain ⟨-, -, -, ⟨n, w, -, -, rb, bb⟩⟩ := h.1
  have hn := bb.1
  have hd0 : v.2.2.2.2.2.2.2.2.2.2.2.1.2.2.2.2.2.2.2.2.1 12 = nI n := by rw [← rb.2.1]; exact rb.1
  have hbad : x1 < 0 ∨ nI n ≤ x1 → wl_18 x1 x2 x3 x4 x5 v K := by
    intro q
    have hr : ∀ (post : Int32 → S_X10 → Prop), post 0 {|v.2.2.2.2.2.2.2.2.2.2.2.1%M thrown := (1 : Int32)|} → wp_X10_breachKind v.2.2.2.2.2.2.2.2.2.2.2.1 x1 post := fun post hp => q_noBre1 (u := {|v.2.2.2.2.2.2.2.2.2.2.2.1%M thrown := (0 : Int32)|}) (by omega) rfl hd0 q ⟨fun q2 => absurd q2 (by decide), fun _ => hp⟩
    refine ⟨fun _ => ⟨rfl, hr _ ⟨rfl, fun q2 => absurd q2 (by decide), fun _ => hK _ h⟩⟩, fun q1 => ⟨fun q2 => ?_, fun _ => ⟨rfl, hr _ ⟨rfl, fun q2 => absurd q2 (by decide), fun _ => hK _ h⟩⟩⟩⟩
    rcases q with q | q
    · exact absurd q q1
    · rw [rb.1] at q2; exact absurd q (fa_of_lt q2).2.1
  rcases pk_ix x1 (n := n) (by omega) with q | q | ⟨j, hj, e⟩
  · exact hbad (Or.inl q)
  · exact hbad (Or.inr q)
  · subst e
    have ei : (348 : Int32) + 4 * nI j + 1 = nI (349 + 4 * j) := by rw [ix_bre, ix_1]; congr 1; omega
    refine ⟨fun q => absurd q (nI_pos (by omega)), fun _ => ⟨fun _ => ⟨in_of (by omega) (by omega), ?_⟩, fun q => absurd (show nI j < v.2.2.1.2.2.1 by rw [rb.1]; exact nI_lt hj (by omega)) q⟩⟩
    refine q_noBre0 (u := {|v.2.2.2.2.2.2.2.2.2.2.2.1%M thrown := (0 : Int32)|}) (by omega) rfl hd0 hj ⟨fun _ => ?_, fun q => absurd rfl q⟩
    unfold wp_X10_breach
    dsimp only
    rw [ei]
    refine ⟨in_of (by omega) (by omega), rfl, fun _ => ⟨?_, hK _ h⟩, fun q => absurd rfl q⟩
    rw [updL_same, cl_nI (by omega), cl_nI (by omega)]
    exact congrArg Int32.toInt64 (rb.2.2.2 j hj).2.1
theorem C_19 : caseOK wl_19 := by
  intro v h x1 x2 x3 x4 x5 K hK
  obtain ⟨-, -, -, ⟨n, w, -, -, rb, bb⟩⟩ := h.1
  have hn := bb.1
  have hd0 : v.2.2.2.2.2.2.2.2.2.2.2.1.2.2.2.2.2.2.2.2.1 12 = nI n := by rw [← rb.2.1]; exact rb.1
  have hbad : x1 < 0 ∨ nI n ≤ x1 → wl_19 x1 x2 x3 x4 x5 v K := by
    intro q
    have hr : ∀ (post : Int32 → S_X10 → Prop), post 0 {|v.2.2.2.2.2.2.2.2.2.2.2.1%M thrown := (1 : Int32)|} → wp_X10_breachPenalty v.2.2.2.2.2.2.2.2.2.2.2.1 x1 post := fun post hp => q_noBre1 (u := {|v.2.2.2.2.2.2.2.2.2.2.2.1%M thrown := (0 : Int32)|}) (by omega) rfl hd0 q ⟨fun q2 => absurd q2 (by decide), fun _ => hp⟩
    refine ⟨fun _ => ⟨rfl, hr _ ⟨rfl, fun q2 => absurd q2 (by decide), fun _ => hK _ h⟩⟩, fun q1 => ⟨fun q2 => ?_, fun _ => ⟨rfl, hr _ ⟨rfl, fun q2 => absurd q2 (by decide), fun _ => hK _ h⟩⟩⟩⟩
    rcases q with q | q
    · exact absurd q q1
    · rw [rb.1] at q2; exact absurd q (fa_of_lt q2).2.1
  rcases pk_ix x1 (n := n) (by omega) with q | q | ⟨j, hj, e⟩
  · exact hbad (Or.inl q)
  · exact hbad (Or.inr q)
  · subst e
    have ei : (348 : Int32) + 4 * nI j + 2 = nI (350 + 4 * j) := by rw [ix_bre, ix_2]; congr 1; omega
    refine ⟨fun q => absurd q (nI_pos (by omega)), fun _ => ⟨fun _ => ⟨in_of (by omega) (by omega), ?_⟩, fun q => absurd (show nI j < v.2.2.1.2.2.1 by rw [rb.1]; exact nI_lt hj (by omega)) q⟩⟩
    refine q_noBre0 (u := {|v.2.2.2.2.2.2.2.2.2.2.2.1%M thrown := (0 : Int32)|}) (by omega) rfl hd0 hj ⟨fun _ => ?_, fun q => absurd rfl q⟩
    unfold wp_X10_breach
    dsimp only
    rw [ei]
    refine ⟨in_of (by omega) (by omega), rfl, fun _ => ⟨?_, hK _ h⟩, fun q => absurd rfl q⟩
    rw [updL_same, cl_nI (by omega), cl_nI (by omega)]
    exact congrArg Int32.toInt64 (rb.2.2.2 j hj).2.2.1
theorem C_20 : caseOK wl_20 := by
  intro v h x1 x2 x3 x4 x5 K hK
  obtain ⟨-, -, -, ⟨n, w, -, -, rb, bb⟩⟩ := h.1
  have hn := bb.1
  have hd0 : v.2.2.2.2.2.2.2.2.2.2.2.1.2.2.2.2.2.2.2.2.1 12 = nI n := by rw [← rb.2.1]; exact rb.1
  have hbad : x1 < 0 ∨ nI n ≤ x1 → wl_20 x1 x2 x3 x4 x5 v K := by
    intro q
    have hr : ∀ (post : Int32 → S_X10 → Prop), post 0 {|v.2.2.2.2.2.2.2.2.2.2.2.1%M thrown := (1 : Int32)|} → wp_X10_isWaived v.2.2.2.2.2.2.2.2.2.2.2.1 x1 post := fun post hp => q_noBre1 (u := {|v.2.2.2.2.2.2.2.2.2.2.2.1%M thrown := (0 : Int32)|}) (by omega) rfl hd0 q ⟨fun _ => hp, fun q2 => absurd q2 (by decide)⟩
    refine ⟨fun _ => ⟨rfl, hr _ ⟨rfl, fun q2 => absurd q2 (by decide), fun _ => hK _ h⟩⟩, fun q1 => ⟨fun q2 => ?_, fun _ => ⟨rfl, hr _ ⟨rfl, fun q2 => absurd q2 (by decide), fun _ => hK _ h⟩⟩⟩⟩
    rcases q with q | q
    · exact absurd q q1
    · rw [rb.1] at q2; exact absurd q (fa_of_lt q2).2.1
  rcases pk_ix x1 (n := n) (by omega) with q | q | ⟨j, hj, e⟩
  · exact hbad (Or.inl q)
  · exact hbad (Or.inr q)
  · subst e
    have ei : (348 : Int32) + 4 * nI j + 3 = nI (351 + 4 * j) := by rw [ix_bre, ix_3]; congr 1; omega
    have hw := bb.2.1 j (by omega)
    have hdw := (rb.2.2.2 j hj).2.2.2
    have hr : ∀ (post : Int32 → S_X10 → Prop), (v.2.2.1.2.2.2.2.2.2.2.2 j = 0 → post 0 {|v.2.2.2.2.2.2.2.2.2.2.2.1%M thrown := (0 : Int32)|}) → (v.2.2.1.2.2.2.2.2.2.2.2 j = 1 → post 1 {|v.2.2.2.2.2.2.2.2.2.2.2.1%M thrown := (0 : Int32)|}) → wp_X10_isWaived v.2.2.2.2.2.2.2.2.2.2.2.1 (nI j) post := by
      intro post p0 p1
      refine q_noBre0 (u := {|v.2.2.2.2.2.2.2.2.2.2.2.1%M thrown := (0 : Int32)|}) (by omega) rfl hd0 hj ⟨fun q => absurd rfl q, fun _ => ?_⟩
      unfold wp_X10_breach
      dsimp only
      rw [ei, cl_nI (by omega), ← hdw]
      refine ⟨in_of (by omega) (by omega), fun q => p0 ?_, fun q => p1 q⟩
      rcases hw with hw | hw
      · exact hw
      · exact absurd hw q
    have hcl : (nI j).toNatClampNeg = j := cl_nI (by omega)
    refine ⟨fun q => absurd q (nI_pos (by omega)), fun _ => ⟨fun _ => ⟨in_of (by omega) (by omega), ?_⟩, fun q => absurd (show nI j < v.2.2.1.2.2.1 by rw [rb.1]; exact nI_lt hj (by omega)) q⟩⟩
    dsimp only
    rw [hcl]
    rcases hw with hw | hw
    · rw [hw]
      refine ⟨nb0, fun _ => hr _ (fun _ => ?_) (fun q => absurd (hw.symm.trans q) (by decide)), fun q => absurd rfl q⟩
      exact ⟨rfl, fun _ => ⟨fun q => absurd rfl q, fun _ => ⟨updL_same _ _ _, hK _ h⟩⟩, fun q => absurd rfl q⟩
    · rw [hw]
      refine ⟨nb1, fun q => absurd q (by decide), fun _ => hr _ (fun q => absurd (hw.symm.trans q) (by decide)) (fun _ => ?_)⟩
      exact ⟨rfl, fun _ => ⟨fun _ => ⟨updL_same _ _ _, hK _ h⟩, fun q => absurd q (by decide)⟩, fun q => absurd rfl q⟩
