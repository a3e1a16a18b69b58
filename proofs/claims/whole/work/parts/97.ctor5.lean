/-! rests: the class's answer is the reference's -/
theorem g_eq (own other a b c : Int32) (u : ab_S) : fX10_getsBy own other a b c u = some (pR_g a b c own other, u) := by
  unfold fX10_getsBy pR_g
  cases decide (own = 1) <;> cases decide (other = 1) <;> rfl
theorem w_eq (x : Int32) (u : ab_S) : fX10_within x 0 9 u = some (pR_b x, u) := by
  unfold fX10_within pR_b
  by_cases e : x < 0
  · simp only [e, i10, i00, decide_true, decide_false, cnd_t, cnd_f, gd_nil, gd_t, b1_0, b1_1, sw_nil, sw_cons, obs]
  · by_cases e2 : x ≤ 9
    · simp only [e, e2, i10, i00, decide_true, decide_false, cnd_t, cnd_f, gd_nil, gd_t, b1_0, b1_1, sw_nil, sw_cons, obs]
    · simp only [e, e2, i10, i00, decide_true, decide_false, cnd_t, cnd_f, gd_nil, gd_t, b1_0, b1_1, sw_nil, sw_cons, obs]
theorem k_div : ∀ k, k < 4 → nI k / 2 = nI k >>> ((1 : Int32) &&& 31) ∧ nI k - (nI k >>> ((1 : Int32) &&& 31)) * 2 = nI k &&& 1 := by decide +kernel
theorem r_step {k : Nat} (hk : k < 4) (N : Nat) (v1 v2 v3 v4 v6 v7 : Int32) (u : ab_S) : fX10_rests_52 (N + 1) v1 v2 v3 v4 1 v6 v7 (nI k) u = bif decide (pR_i v1 v2 v3 (nI k) = 0) then fX10_rests_52 N v1 v2 v3 v4 1 (v6 + 0) v7 (nI (k + 1)) u else (bif decide (v6 = v4) then fX10_rests_52 N v1 v2 v3 v4 1 (v6 + 1) (nI k) (nI (k + 1)) u else fX10_rests_52 N v1 v2 v3 v4 1 (v6 + 1) v7 (nI (k + 1)) u) := by
  obtain ⟨e1, e2⟩ := k_div k hk
  have lt : (nI k < 4) = True := eq_true (show nI k < nI 4 from (nI_ltI (by omega) (by decide)).mpr hk)
  have ek : nI k + 1 = nI (k + 1) := nI_1 k
  rw [fX10_rests_52]
  simp only [lt, i10, decide_true, decide_false, cnd_t, cnd_f, e2, e1, g_eq, obs, show ((2 : Nat) = 0) = False from eq_false (by decide), not_false_eq_true, gd_t, gd_nil]
  unfold fX10_rests_130 fX10_rests_151 pR_i
  by_cases c1 : pR_g v1 v2 v3 (1 - nI k >>> ((1 : Int32) &&& 31)) (nI k &&& 1) ≤ pR_g v1 v2 v3 (nI k >>> ((1 : Int32) &&& 31)) (nI k &&& 1)
  · by_cases c2 : pR_g v1 v2 v3 (1 - (nI k &&& 1)) (nI k >>> ((1 : Int32) &&& 31)) ≤ pR_g v1 v2 v3 (nI k &&& 1) (nI k >>> ((1 : Int32) &&& 31))
    · by_cases c3 : v6 = v4
      · simp only [c1, c2, c3, i10, i00, decide_true, decide_false, cnd_t, cnd_f, gd_nil, gd_t, b1_0, b1_1, sw_nil, sw_cons, obs, ek]
      · simp only [c1, c2, c3, i10, i00, decide_true, decide_false, cnd_t, cnd_f, gd_nil, gd_t, b1_0, b1_1, sw_nil, sw_cons, obs, ek]
    · simp only [c1, c2, i10, i00, decide_true, decide_false, cnd_t, cnd_f, gd_nil, gd_t, b1_0, b1_1, sw_nil, sw_cons, obs, ek]
  · simp only [c1, i10, i00, decide_true, decide_false, cnd_t, cnd_f, gd_nil, gd_t, b1_0, b1_1, sw_nil, sw_cons, obs, ek]
theorem r_end (N : Nat) (v1 v2 v3 v4 v6 v7 : Int32) (u : ab_S) : fX10_rests_52 (N + 1) v1 v2 v3 v4 1 v6 v7 (nI 4) u = fX10_rests_174 v4 1 v6 v7 u := by
  rw [fX10_rests_52]
  simp only [show (nI 4 < 4) = False from eq_false (by decide +kernel), decide_false, cnd_f]
theorem c_step {k : Nat} (hk : k < 4) (N : Nat) (v1 v2 v3 v4 v5 : Int32) : pR_44 (N + 1) v1 v2 v3 v4 v5 (nI k) = bif decide (pR_i v1 v2 v3 (nI k) = 0) then pR_44 N v1 v2 v3 v4 v5 (nI (k + 1)) else (bif decide (v5 = v4) then some (nI k) else pR_44 N v1 v2 v3 v4 (v5 + 1) (nI (k + 1))) := by
  have lt : (nI k < 4) = True := eq_true (show nI k < nI 4 from (nI_ltI (by omega) (by decide)).mpr hk)
  rw [pR_44]
  simp only [lt, decide_true, cnd_t, show nI k + 1 = nI (k + 1) from nI_1 k]
theorem c_end (N : Nat) (v1 v2 v3 v4 v5 : Int32) : pR_44 (N + 1) v1 v2 v3 v4 v5 (nI 4) = pR_80 v4 v5 := by
  rw [pR_44]
  simp only [show (nI 4 < 4) = False from eq_false (by decide +kernel), decide_false, cnd_f]
theorem add0 (x : Int32) : x + 0 = x := Int32.add_zero x
theorem le00 : ((0 : Int32) ≤ 0) = True := eq_true (by decide +kernel)
theorem le10 : ((1 : Int32) ≤ 0) = False := eq_false (by decide +kernel)
-- found already
theorem r_A (v1 v2 v3 : Int32) {w r : Nat} (hw : w < 100) (hr : r < 4) : ∀ d k j N (u : ab_S), k + d = 4 → d < N → w < j → j ≤ k → fX10_rests_52 N v1 v2 v3 (nI w) 1 (nI j) (nI r) (nI k) u = some (nI r, sI u 0 0 0) := by
  intro d
  induction d with
  | zero =>
    intro k j N u hd hN hj hk
    obtain ⟨N, rfl⟩ : ∃ m, N = m + 1 := ⟨N - 1, by omega⟩
    have ek : k = 4 := by omega
    subst ek
    rw [r_end]
    unfold fX10_rests_174 fX10_rests_195
    simp only [i10, i10, i00, decide_true, decide_false, cnd_t, cnd_f, gd_nil, gd_t, b1_0, b1_1, sw_nil, sw_cons, obs, show (nI w < 0) = False from eq_false (nI_pos (by omega)), show (nI r < 0) = False from eq_false (nI_pos (by omega)), sI_at, sI_l, sJ_at, sJ_i, sJ_m, sM_at, sM_i, sM_l, Nat.reduceEqDiff, false_and, and_false, true_and, and_true, and_self, if_false, if_true, ite_false, ite_true, le00]
  | succ d ih =>
    intro k j N u hd hN hj hk
    obtain ⟨N, rfl⟩ : ∃ m, N = m + 1 := ⟨N - 1, by omega⟩
    have ne : (nI j = nI w) = False := eq_false fun z => by
      have := (nI_eq2 (by omega) (by omega)).mp z
      omega
    rw [r_step (by omega)]
    by_cases e : pR_i v1 v2 v3 (nI k) = 0
    · simp only [e, i10, i00, decide_true, decide_false, cnd_t, cnd_f, gd_nil, gd_t, b1_0, b1_1, sw_nil, sw_cons, obs, add0]
      exact ih (k + 1) j N u (by omega) (by omega) hj (by omega)
    · simp only [e, ne, i10, i00, decide_true, decide_false, cnd_t, cnd_f, gd_nil, gd_t, b1_0, b1_1, sw_nil, sw_cons, obs, show nI j + 1 = nI (j + 1) from nI_1 j]
      exact ih (k + 1) (j + 1) N u (by omega) (by omega) (by omega) (by omega)
-- one is looked for
theorem r_B (v1 v2 v3 : Int32) {w : Nat} (hw : w < 100) : ∀ d k j N (u : ab_S), k + d = 4 → d < N → j ≤ w → j ≤ k → (∃ r, pR_44 N v1 v2 v3 (nI w) (nI j) (nI k) = some r ∧ fX10_rests_52 N v1 v2 v3 (nI w) 1 (nI j) (-1) (nI k) u = some (r, sI u 0 0 0)) ∨ (pR_44 N v1 v2 v3 (nI w) (nI j) (nI k) = none ∧ ∃ x, fX10_rests_52 N v1 v2 v3 (nI w) 1 (nI j) (-1) (nI k) u = some (x, sI u 0 0 1)) := by
  intro d
  induction d with
  | zero =>
    intro k j N u hd hN hj hk
    obtain ⟨N, rfl⟩ : ∃ m, N = m + 1 := ⟨N - 1, by omega⟩
    have ek : k = 4 := by omega
    subst ek
    rw [r_end, c_end]
    refine Or.inr ⟨?_, 0, ?_⟩
    · unfold pR_80
      simp only [show (nI w = -1) = False from eq_false (fun z => (nI_nm1 (by omega)).mp z), decide_false, cnd_f]
    · unfold fX10_rests_174 fX10_rests_195
      simp only [i10, i10, i00, decide_true, decide_false, cnd_t, cnd_f, gd_nil, gd_t, b1_0, b1_1, sw_nil, sw_cons, obs, show (nI w < 0) = False from eq_false (nI_pos (by omega)), show ((-1 : Int32) < 0) = True from eq_true (by decide +kernel), sI_at, sI_l, sJ_at, sJ_i, sJ_m, sM_at, sM_i, sM_l, Nat.reduceEqDiff, false_and, and_false, true_and, and_true, and_self, if_false, if_true, ite_false, ite_true, le10]
  | succ d ih =>
    intro k j N u hd hN hj hk
    obtain ⟨N, rfl⟩ : ∃ m, N = m + 1 := ⟨N - 1, by omega⟩
    rw [r_step (by omega), c_step (by omega)]
    by_cases e : pR_i v1 v2 v3 (nI k) = 0
    · simp only [e, i10, i00, decide_true, decide_false, cnd_t, cnd_f, gd_nil, gd_t, b1_0, b1_1, sw_nil, sw_cons, obs, add0]
      exact ih (k + 1) j N u (by omega) (by omega) hj (by omega)
    · by_cases e2 : j = w
      · subst e2
        simp only [e, i10, i00, decide_true, decide_false, cnd_t, cnd_f, gd_nil, gd_t, b1_0, b1_1, sw_nil, sw_cons, obs]
        refine Or.inl ⟨nI k, rfl, ?_⟩
        rw [show nI j + 1 = nI (j + 1) from nI_1 j]
        exact r_A v1 v2 v3 hw (by omega) d (k + 1) (j + 1) N u (by omega) (by omega) (by omega) (by omega)
      · have ne : (nI j = nI w) = False := eq_false fun z => e2 ((nI_eq2 (by omega) (by omega)).mp z)
        simp only [e, ne, i10, i00, decide_true, decide_false, cnd_t, cnd_f, gd_nil, gd_t, b1_0, b1_1, sw_nil, sw_cons, obs, show nI j + 1 = nI (j + 1) from nI_1 j]
        exact ih (k + 1) (j + 1) N u (by omega) (by omega) (by omega) (by omega)
-- far away
theorem r_F (v1 v2 v3 v4 : Int32) (h4 : ¬ v4 < 0) (hb : ∀ j, j < 5 → ¬ nI j = v4) : ∀ d k j N (u : ab_S), k + d = 4 → d < N → j ≤ k → pR_44 N v1 v2 v3 v4 (nI j) (nI k) = none ∧ ∃ x, fX10_rests_52 N v1 v2 v3 v4 1 (nI j) (-1) (nI k) u = some (x, sI u 0 0 1) := by
  intro d
  induction d with
  | zero =>
    intro k j N u hd hN hk
    obtain ⟨N, rfl⟩ : ∃ m, N = m + 1 := ⟨N - 1, by omega⟩
    have ek : k = 4 := by omega
    subst ek
    rw [r_end, c_end]
    refine ⟨?_, 0, ?_⟩
    · unfold pR_80
      simp only [show (v4 = -1) = False from eq_false (fun z => h4 (by rw [z]; decide +kernel)), decide_false, cnd_f]
    · unfold fX10_rests_174 fX10_rests_195
      simp only [i10, i10, i00, decide_true, decide_false, cnd_t, cnd_f, gd_nil, gd_t, b1_0, b1_1, sw_nil, sw_cons, obs, h4, show ((-1 : Int32) < 0) = True from eq_true (by decide +kernel), sI_at, sI_l, sJ_at, sJ_i, sJ_m, sM_at, sM_i, sM_l, Nat.reduceEqDiff, false_and, and_false, true_and, and_true, and_self, if_false, if_true, ite_false, ite_true, le10]
  | succ d ih =>
    intro k j N u hd hN hk
    obtain ⟨N, rfl⟩ : ∃ m, N = m + 1 := ⟨N - 1, by omega⟩
    rw [r_step (by omega), c_step (by omega)]
    by_cases e : pR_i v1 v2 v3 (nI k) = 0
    · simp only [e, i10, i00, decide_true, decide_false, cnd_t, cnd_f, gd_nil, gd_t, b1_0, b1_1, sw_nil, sw_cons, obs, add0]
      exact ih (k + 1) j N u (by omega) (by omega) (by omega)
    · simp only [e, hb j (by omega), i10, i00, decide_true, decide_false, cnd_t, cnd_f, gd_nil, gd_t, b1_0, b1_1, sw_nil, sw_cons, obs, show nI j + 1 = nI (j + 1) from nI_1 j]
      exact ih (k + 1) (j + 1) N u (by omega) (by omega) (by omega)
-- how many there are
theorem r_C (v1 v2 v3 : Int32) : ∀ d k j N (v7 : Int32) (u : ab_S), k + d = 4 → d < N → j ≤ k → ∃ r, pR_44 N v1 v2 v3 (-1) (nI j) (nI k) = some r ∧ fX10_rests_52 N v1 v2 v3 (-1) 1 (nI j) v7 (nI k) u = some (r, sI u 0 0 0) := by
  intro d
  induction d with
  | zero =>
    intro k j N v7 u hd hN hk
    obtain ⟨N, rfl⟩ : ∃ m, N = m + 1 := ⟨N - 1, by omega⟩
    have ek : k = 4 := by omega
    subst ek
    rw [r_end, c_end]
    refine ⟨nI j, ?_, ?_⟩
    · unfold pR_80
      simp only [i10, i00, decide_true, decide_false, cnd_t, cnd_f, gd_nil, gd_t, b1_0, b1_1, sw_nil, sw_cons, obs]
    · unfold fX10_rests_174 fX10_rests_195
      simp only [i10, i10, i00, decide_true, decide_false, cnd_t, cnd_f, gd_nil, gd_t, b1_0, b1_1, sw_nil, sw_cons, obs, show ((-1 : Int32) < 0) = True from eq_true (by decide +kernel), sI_at, sI_l, sJ_at, sJ_i, sJ_m, sM_at, sM_i, sM_l, Nat.reduceEqDiff, false_and, and_false, true_and, and_true, and_self, if_false, if_true, ite_false, ite_true, le00]
  | succ d ih =>
    intro k j N v7 u hd hN hk
    obtain ⟨N, rfl⟩ : ∃ m, N = m + 1 := ⟨N - 1, by omega⟩
    have ne : (nI j = -1) = False := eq_false (fun z => (nI_nm1 (by omega)).mp z)
    rw [r_step (by omega), c_step (by omega)]
    by_cases e : pR_i v1 v2 v3 (nI k) = 0
    · simp only [e, i10, i00, decide_true, decide_false, cnd_t, cnd_f, gd_nil, gd_t, b1_0, b1_1, sw_nil, sw_cons, obs, add0]
      exact ih (k + 1) j N v7 u (by omega) (by omega) (by omega)
    · simp only [e, ne, i10, i00, decide_true, decide_false, cnd_t, cnd_f, gd_nil, gd_t, b1_0, b1_1, sw_nil, sw_cons, obs, show nI j + 1 = nI (j + 1) from nI_1 j]
      exact ih (k + 1) (j + 1) N v7 u (by omega) (by omega) (by omega)
theorem Inv.th {u v : ab_S} (h : Inv u v) (x : Int32) : Inv u (sI v 0 0 x) := by
  obtain ⟨Z, s, h⟩ := h
  exact ⟨Z, s, h.qu Fr.rfl' (Fr.sI (by show dMu 0 0; unfold dMu; omega))⟩
theorem i_S44 : lw_S44 Inv rsC0 := by
  intro u v a0 a1 a2 a3 hI
  have bad : ∃ v1, fX10_rests_41 a0 a1 a2 a3 0 v = some (0, v1) ∧ v1 = sI v 0 0 1 := by
    refine ⟨_, ?_, rfl⟩
    unfold fX10_rests_41
    rw [show fu = 4999 + 1 from rfl, fX10_rests_52]
    unfold fX10_rests_174 fX10_rests_195
    simp only [show ((0 : Int32) < 4) = True from eq_true (by decide +kernel), i00, i10, i00, decide_true, decide_false, cnd_t, cnd_f, gd_nil, gd_t, b1_0, b1_1, sw_nil, sw_cons, obs, sI_at, sI_l, sJ_at, sJ_i, sJ_m, sM_at, sM_i, sM_l, Nat.reduceEqDiff, false_and, and_false, true_and, and_true, and_self, if_false, if_true, ite_false, ite_true, le10]
  have badE : rsC0 a0 a1 a2 a3 = none → fX10_rests a0 a1 a2 a3 v = fX10_rests_41 a0 a1 a2 a3 0 v → ∃ (rb th : Int32) (v1 v2 : ab_S), fX10_rests a0 a1 a2 a3 v = some (rb, v1) ∧ fX10_thrown v1 = some (th, v2) ∧ Inv u v2 ∧ ((∃ r, rsC0 a0 a1 a2 a3 = some r ∧ th = 0 ∧ rb = r) ∨ (rsC0 a0 a1 a2 a3 = none ∧ th = 1)) := by
    intro h1 h2
    obtain ⟨v1, e1, e2⟩ := bad
    subst e2
    refine ⟨0, 1, sI v 0 0 1, sI v 0 0 1, h2.trans e1, ?_, hI.th 1, Or.inr ⟨h1, rfl⟩⟩
    unfold fX10_thrown
    rw [sI_at, if_pos ⟨rfl, rfl⟩]
  by_cases b0 : pR_b a0 = 0
  · refine badE ?_ ?_
    · unfold rsC0; simp only [b0, i10, i00, decide_true, decide_false, cnd_t, cnd_f, gd_nil, gd_t, b1_0, b1_1, sw_nil, sw_cons, obs]
    · unfold fX10_rests; rw [w_eq]; simp only [b0, i10, i00, decide_true, decide_false, cnd_t, cnd_f, gd_nil, gd_t, b1_0, b1_1, sw_nil, sw_cons, obs]
  by_cases b1 : pR_b a1 = 0
  · refine badE ?_ ?_
    · unfold rsC0; simp only [b0, b1, i10, i00, decide_true, decide_false, cnd_t, cnd_f, gd_nil, gd_t, b1_0, b1_1, sw_nil, sw_cons, obs]
    · unfold fX10_rests; rw [w_eq]; simp only [b0, b1, w_eq, i10, i00, decide_true, decide_false, cnd_t, cnd_f, gd_nil, gd_t, b1_0, b1_1, sw_nil, sw_cons, obs]
  by_cases b2 : pR_b a2 = 0
  · refine badE ?_ ?_
    · unfold rsC0; simp only [b0, b1, b2, i10, i00, decide_true, decide_false, cnd_t, cnd_f, gd_nil, gd_t, b1_0, b1_1, sw_nil, sw_cons, obs]
    · unfold fX10_rests; rw [w_eq]; simp only [b0, b1, b2, w_eq, i10, i00, decide_true, decide_false, cnd_t, cnd_f, gd_nil, gd_t, b1_0, b1_1, sw_nil, sw_cons, obs]
  by_cases b3 : a3 < -1
  · refine badE ?_ ?_
    · unfold rsC0; simp only [b0, b1, b2, b3, i10, i00, decide_true, decide_false, cnd_t, cnd_f, gd_nil, gd_t, b1_0, b1_1, sw_nil, sw_cons, obs]
    · unfold fX10_rests; rw [w_eq]; simp only [b0, b1, b2, b3, w_eq, i10, i00, decide_true, decide_false, cnd_t, cnd_f, gd_nil, gd_t, b1_0, b1_1, sw_nil, sw_cons, obs]
  have eR : fX10_rests a0 a1 a2 a3 v = fX10_rests_52 5000 a0 a1 a2 a3 1 0 (-1) 0 v := by
    unfold fX10_rests fX10_rests_41
    rw [w_eq]
    simp only [b0, b1, b2, b3, w_eq, i10, i00, decide_true, decide_false, cnd_t, cnd_f, gd_nil, gd_t, b1_0, b1_1, sw_nil, sw_cons, obs, fu]
  have eC : rsC0 a0 a1 a2 a3 = pR_44 5000 a0 a1 a2 a3 0 0 := by
    unfold rsC0; simp only [b0, b1, b2, b3, i10, i00, decide_true, decide_false, cnd_t, cnd_f, gd_nil, gd_t, b1_0, b1_1, sw_nil, sw_cons, obs]
  have good : ∀ r, pR_44 5000 a0 a1 a2 a3 0 0 = some r → fX10_rests_52 5000 a0 a1 a2 a3 1 0 (-1) 0 v = some (r, sI v 0 0 0) → ∃ (rb th : Int32) (v1 v2 : ab_S), fX10_rests a0 a1 a2 a3 v = some (rb, v1) ∧ fX10_thrown v1 = some (th, v2) ∧ Inv u v2 ∧ ((∃ r, rsC0 a0 a1 a2 a3 = some r ∧ th = 0 ∧ rb = r) ∨ (rsC0 a0 a1 a2 a3 = none ∧ th = 1)) := by
    intro r h1 h2
    refine ⟨r, 0, sI v 0 0 0, sI v 0 0 0, eR.trans h2, ?_, hI.th 0, Or.inl ⟨r, eC.trans h1, rfl, rfl⟩⟩
    unfold fX10_thrown
    rw [sI_at, if_pos ⟨rfl, rfl⟩]
  have none' : pR_44 5000 a0 a1 a2 a3 0 0 = none → (∃ x, fX10_rests_52 5000 a0 a1 a2 a3 1 0 (-1) 0 v = some (x, sI v 0 0 1)) → ∃ (rb th : Int32) (v1 v2 : ab_S), fX10_rests a0 a1 a2 a3 v = some (rb, v1) ∧ fX10_thrown v1 = some (th, v2) ∧ Inv u v2 ∧ ((∃ r, rsC0 a0 a1 a2 a3 = some r ∧ th = 0 ∧ rb = r) ∨ (rsC0 a0 a1 a2 a3 = none ∧ th = 1)) := by
    rintro h1 ⟨x, h2⟩
    refine ⟨x, 1, sI v 0 0 1, sI v 0 0 1, eR.trans h2, ?_, hI.th 1, Or.inr ⟨eC.trans h1, rfl⟩⟩
    unfold fX10_thrown
    rw [sI_at, if_pos ⟨rfl, rfl⟩]
  by_cases e4 : a3 = -1
  · subst e4
    obtain ⟨r, h1, h2⟩ := r_C a0 a1 a2 4 0 0 5000 (-1) v rfl (by decide) (Nat.le_refl 0)
    exact good r h1 h2
  have h4 : ¬ a3 < 0 := by
    intro z
    rw [Int32.lt_iff_toInt_lt, show (0 : Int32).toInt = 0 by decide +kernel] at z
    rw [Int32.lt_iff_toInt_lt, show (-1 : Int32).toInt = -1 by decide +kernel] at b3
    exact e4 (Int32.toInt_inj.mp (by rw [show (-1 : Int32).toInt = -1 by decide +kernel]; omega))
  obtain ⟨w, hw, e5⟩ := nI_of h4
  subst e5
  by_cases w5 : w < 5
  · obtain ⟨r, h1, h2⟩ | ⟨h1, h2⟩ := r_B a0 a1 a2 (w := w) (by omega) 4 0 0 5000 v rfl (by decide) (Nat.zero_le w) (Nat.le_refl 0)
    · exact good r h1 h2
    · exact none' h1 h2
  · obtain ⟨h1, h2⟩ := r_F a0 a1 a2 (nI w) h4 (fun j hj z => by
      have := (nI_eq2 (by omega) hw).mp z
      omega) 4 0 0 5000 v rfl (by decide) (Nat.le_refl 0)
    exact none' h1 h2
/-! constructors with loops: rows -/
section NWJ
variable {p : Program} {l : Launch} {e : Env} {R : Room} {s : State} {m : MethodId} {args : Array Value} {below : List Frame} {meth : Method} {c : Code} {H : Heap} {locs : List Loc} {cells slots : Nat} {Q : State → Prop}
variable {cc : ByteArray} {pc : Nat} {ls : Array Slot} {rest : List Value} {A : Nat → Prop} {E : ab_E} {ws : va_W} {H0 : Heap} {a N : Nat}
theorem nw_iast (hexec : p.tables.exec = Jvm.exec) (hb : c.code = cc) (hK : va_K (E.1, E.2.1) vwCl (ab_ty E) s) (hX : nw_W E A H0 ws N H locs) (q0 : Nat) {n : Nat} {f : Nat → Int32} (ha : ws[q0]? = some (a, .inl (ab_cA E 0, n, .inl f))) {i x : Int32} (hin : vp_in i n) (hdg : decode cc pc = .ok (.iastore, 1))
    (kk : ∀ (H1 : Heap) (locs1 : List Loc), nw_W E A H0 (ws.set q0 (a, .inl (ab_cA E 0, n, .inl (upd f i.toNatClampNeg x)))) N H1 locs1 → W p l e R s m args below meth c H1 locs1 cells slots Q (F0 m (pc + 1) ls rest)) : W p l e R s m args below meth c H locs cells slots Q (F0 m pc ls (.int x :: .int i :: .ref a :: rest)) := by
  obtain ⟨hP, hD, hS, hz⟩ := hX
  refine W.iast hexec hb (hP q0 _ ha) ((hK.2 0 _ (ab_ty_at E (by decide))).1 n (fun j => .int (f j))) (fun q => by cases q) (by show ¬ (i < 0 ∨ (arrV _ _ _).slots.size ≤ _); rw [arrV_size]; exact hin) rfl rfl hdg fun H1 e z oq => ?_
  refine kk H1 _ ⟨hP.set hD ha ?_ oq, hD.set ha, hS.put z oq (hD.2 q0 _ ha), z.trans hz⟩
  show H1[a]? = some (vp_cell _ _)
  rw [e]
  rw [vp_cell_i, vp_cell_i, arrV_store]
  congr 2
  funext q
  by_cases hq : q = i.toNatClampNeg
  · subst hq
    simp [updV, upd]
  · simp [updV, upd, hq]
theorem nw_last (hexec : p.tables.exec = Jvm.exec) (hb : c.code = cc) (hK : va_K (E.1, E.2.1) vwCl (ab_ty E) s) (hX : nw_W E A H0 ws N H locs) (q0 : Nat) {n : Nat} {f : Nat → Int64} (ha : ws[q0]? = some (a, .inl (ab_cA E 1, n, .inr (.inl f)))) {i : Int32} {x : Int64} (hin : vp_in i n) (hdg : decode cc pc = .ok (.lastore, 1))
    (kk : ∀ (H1 : Heap) (locs1 : List Loc), nw_W E A H0 (ws.set q0 (a, .inl (ab_cA E 1, n, .inr (.inl (vp_updL f i.toNatClampNeg x))))) N H1 locs1 → W p l e R s m args below meth c H1 locs1 cells slots Q (F0 m (pc + 1) ls rest)) : W p l e R s m args below meth c H locs cells slots Q (F0 m pc ls (.long x :: .int i :: .ref a :: rest)) := by
  obtain ⟨hP, hD, hS, hz⟩ := hX
  refine W.last hexec hb (hP q0 _ ha) ((hK.2 1 _ (ab_ty_at E (by decide))).1 n (fun j => .long (f j))) (fun q => by cases q) (by show ¬ (i < 0 ∨ (arrV _ _ _).slots.size ≤ _); rw [arrV_size]; exact hin) rfl rfl hdg fun H1 e z oq => ?_
  refine kk H1 _ ⟨hP.set hD ha ?_ oq, hD.set ha, hS.put z oq (hD.2 q0 _ ha), z.trans hz⟩
  show H1[a]? = some (vp_cell _ _)
  rw [e]
  rw [vp_cell_l, vp_cell_l, arrV_store]
  congr 2
  funext q
  by_cases hq : q = i.toNatClampNeg
  · subst hq
    simp [updV, vp_updL]
  · simp [updV, vp_updL, hq]
theorem nw_anew {own C : String} {index k : Nat} (hexec : p.tables.exec = Jvm.exec) (hb : c.code = cc) (hown : s.vm.findClass own = some m.cls) (hclink : (Cond.classLink own index C).before args s = true) (hover : (Cond.arrayOver (.object C)).before args s = true) (hK : va_K (E.1, E.2.1) vwCl (ab_ty E) s) (hk6 : k < 6) (hty : ab_el k = .object C) (hX : nw_W E A H0 ws N H locs) (hA : ∀ q, H0.size ≤ q → A q)
    {n : Int32} {N' : Nat} (hn : ¬ n < 0) (hN : n.toNatClampNeg = N') (hbytes : N' * 4 ≤ 536870912) (hcells : cells + 1 ≤ R.cells) (hslots : slots + N' ≤ R.slots) (hdg : decode cc pc = .ok (.anewarray index, 3))
    (kk : ∀ (H1 : Heap), nw_W E A H0 (ws ++ [(N, .inl (ab_cA E k, N', .inr (.inr (.inr (.inr (fun _ => none))))))]) (N + 1) H1 locs → W p l e R s m args below meth c H1 locs (cells + 1) (slots + N') Q (F0 m (pc + 3) ls (.ref N :: rest))) : W p l e R s m args below meth c H locs cells slots Q (F0 m pc ls (.int n :: rest)) := by
  obtain ⟨hP, hD, hS, hz⟩ := hX
  subst hN
  subst hz
  refine W.anew hexec hb hown hclink hover rfl hdg rfl hn hbytes hcells hslots fun cA kA comp f1 f2 f3 f4 => ?_
  have hcA : cA = ab_cA E k := by
    have h2 := (hK.2 k _ (ab_ty_at E hk6)).2
    rw [show (ab_cA E k, ab_el k).2 = .object C from hty] at h2
    obtain ⟨kA', comp', g1, g2, g3, g4⟩ := h2
    exact Option.some.inj (f1.symm.trans g4)
  subst hcA
  generalize hH1 : H.push ({ cls := ab_cA E k, slots := Array.replicate n.toNatClampNeg .null, vm := .none } : Cell) = H1
  have z1 : H1.size = H.size + 1 := by rw [← hH1, Array.size_push]
  have e1 : H1[H.size]? = some (arrV (ab_cA E k) n.toNatClampNeg (fun _ => .null)) := by rw [← hH1, Array.getElem?_push_size, ← arrV_new]
  have o1 : ∀ q : Nat, q < H.size → H1[q]? = H[q]? := fun q hq => by rw [← hH1, Array.getElem?_push, if_neg (Nat.ne_of_lt hq)]
  have hk : ∀ (k : Nat) (x : Nat × va_E), ws[k]? = some x → H1[x.1]? = H[x.1]? := fun k x hx => o1 x.1 ((hP k x hx).lt)
  refine kk H1 ⟨(hP.kept hk).app (fun k x hx => ?_), hD.push hP rfl (hA _ hS.1), ⟨Nat.le_trans hS.1 (by omega), fun x h1 h2 => (o1 x (Nat.lt_of_lt_of_le h1 hS.1)).trans (hS.2.1 x h1 h2), hS.2.2⟩, z1⟩
  have hz : k < 1 := (List.getElem?_eq_some_iff.mp hx).1
  rw [show k = 0 by omega] at hx
  cases hx
  show H1[H.size]? = some (vp_cell _ _)
  rw [vp_cell_q]
  exact e1
end NWJ
section NWK
variable {own : Nat} {b : ByteArray} {R : Room} {nL : Nat} {E : ab_E} {a N0 N1 kF mF : Nat} {WF : va_W} {pc pc2 : Nat} {L : List (Nat × Value)} {st : List Value} {ws : va_W} {n cells slots : Nat}
theorem ng_eq {ws' : va_W} {n' cells' slots' : Nat} (hw : ws = ws') (hn : n = n') (hc : cells = cells') (hs : slots = slots') (k : nw_G own b R nL E a N0 N1 kF mF WF pc L st ws' n' cells' slots') : nw_G own b R nL E a N0 N1 kF mF WF pc L st ws n cells slots := by
  subst hw hn hc hs
  exact k
theorem ng_il1 {x : Int32} (hd : decode b pc = .ok (.iload_n 1, 1)) (hp : pc + 1 = pc2) (j : Nat) (hj : L[j]? = some (1, .int x)) (k : nw_G own b R nL E a N0 N1 kF mF WF pc2 L (.int x :: st) ws n cells slots) : nw_G own b R nL E a N0 N1 kF mF WF pc L st ws n cells slots := by
  intro p l e s m args below meth c H locs ls hfl F hml X hl
  subst hp
  exact lv_iload_n F.1 F.2.1 hd rfl (lv_at hl j hj) (k p l e s m args below meth c H locs ls hfl F hml X hl)
theorem ng_is1 {x : Int32} {L' : List (Nat × Value)} (hd : decode b pc = .ok (.istore_n 1, 1)) (hp : pc + 1 = pc2) (hn : 1 < nL) (hL : (1, Value.int x) :: L.filter (fun q => !(q.1 == 1) && !(q.1 + 1 == 1 && q.2.category == 2)) = L') (k : nw_G own b R nL E a N0 N1 kF mF WF pc2 L' st ws n cells slots) : nw_G own b R nL E a N0 N1 kF mF WF pc L (.int x :: st) ws n cells slots := by
  intro p l e s m args below meth c H locs ls hfl F hml X hl
  subst hp
  exact lv_istore_n F.1 F.2.1 hd rfl hl hn hL (fun ls' hl' => k p l e s m args below meth c H locs ls' hfl F hml X hl')
theorem ng_inc {x v : Int32} {L' : List (Nat × Value)} (hd : decode b pc = .ok (.iinc 1 1, 3)) (hp : pc + 3 = pc2) (hn : 1 < nL) (j : Nat) (hj : L[j]? = some (1, .int x)) (hv : x + Int32.ofInt 1 = v) (hL : (1, Value.int v) :: L.filter (fun q => !(q.1 == 1) && !(q.1 + 1 == 1 && q.2.category == 2)) = L') (k : nw_G own b R nL E a N0 N1 kF mF WF pc2 L' st ws n cells slots) : nw_G own b R nL E a N0 N1 kF mF WF pc L st ws n cells slots := by
  intro p l e s m args below meth c H locs ls hfl F hml X hl
  subst hp
  exact lv_iinc F.1 F.2.1 hd hl hj hv hn hL (fun ls' hl' => k p l e s m args below meth c H locs ls' hfl F hml X hl')
theorem ng_alen {x e : Nat} {a0 : vp_A} {v : Int32} (hd : decode b pc = .ok (.arraylength, 1)) (hp : pc + 1 = pc2) (q0 : Nat) (he : ws[q0]? = some (x, .inl (ab_cA E e, a0))) (h6 : e < 6) (hv : Int32.ofNat a0.1 = v) (k : nw_G own b R nL E a N0 N1 kF mF WF pc2 L (.int v :: st) ws n cells slots) : nw_G own b R nL E a N0 N1 kF mF WF pc L (.ref x :: st) ws n cells slots := by
  intro p l e s m args below meth c H locs ls hfl F hml X hl
  subst hp
  obtain ⟨hx, hb, hown, hts, hNW, hK, -⟩ := id F
  exact va_alen hx hb hK X.1 q0 _ he (ab_ty_at E h6) hv hd (k p l e s m args below meth c H locs ls hfl F hml X hl)
theorem ng_iast {x n' : Nat} {f : Nat → Int32} {i v : Int32} (hd : decode b pc = .ok (.iastore, 1)) (hp : pc + 1 = pc2) (q0 : Nat) (he : ws[q0]? = some (x, .inl (ab_cA E 0, n', .inl f))) (hin : vp_in i n') (k : nw_G own b R nL E a N0 N1 kF mF WF pc2 L st (ws.set q0 (x, .inl (ab_cA E 0, n', .inl (upd f i.toNatClampNeg v)))) n cells slots) : nw_G own b R nL E a N0 N1 kF mF WF pc L (.int v :: .int i :: .ref x :: st) ws n cells slots := by
  intro p l e s m args below meth c H locs ls hfl F hml X hl
  subst hp
  obtain ⟨hx, hb, hown, hts, hNW, hK, -⟩ := id F
  exact nw_iast hx hb hK X q0 he hin hd (fun H1 locs1 X1 => k p l e s m args below meth c H1 locs1 ls hfl F hml X1 hl)
theorem ng_last {x n' : Nat} {f : Nat → Int64} {i : Int32} {v : Int64} (hd : decode b pc = .ok (.lastore, 1)) (hp : pc + 1 = pc2) (q0 : Nat) (he : ws[q0]? = some (x, .inl (ab_cA E 1, n', .inr (.inl f)))) (hin : vp_in i n') (k : nw_G own b R nL E a N0 N1 kF mF WF pc2 L st (ws.set q0 (x, .inl (ab_cA E 1, n', .inr (.inl (vp_updL f i.toNatClampNeg v))))) n cells slots) : nw_G own b R nL E a N0 N1 kF mF WF pc L (.long v :: .int i :: .ref x :: st) ws n cells slots := by
  intro p l e s m args below meth c H locs ls hfl F hml X hl
  subst hp
  obtain ⟨hx, hb, hown, hts, hNW, hK, -⟩ := id F
  exact nw_last hx hb hK X q0 he hin hd (fun H1 locs1 X1 => k p l e s m args below meth c H1 locs1 ls hfl F hml X1 hl)
theorem ng_ldc2 {idx : Nat} {v : Int64} (hd : decode b pc = .ok (.ldc2_w idx, 3)) (hp : pc + 3 = pc2) (hk : Cond.constantLong (ab_cn own) idx v ∈ ab_W0) (k : nw_G own b R nL E a N0 N1 kF mF WF pc2 L (.long v :: st) ws n cells slots) : nw_G own b R nL E a N0 N1 kF mF WF pc L st ws n cells slots := by
  intro p l e s m args below meth c H locs ls hfl F hml X hl
  subst hp
  obtain ⟨hx, hb, hown, hts, -⟩ := id F
  exact lv_ldc2 hx hb hown (hts _ hk) hd (k p l e s m args below meth c H locs ls hfl F hml X hl)
theorem ng_anew {C : String} {idx q : Nat} {i : Int32} {N' : Nat} (hd : decode b pc = .ok (.anewarray idx, 3)) (hp : pc + 3 = pc2) (hq6 : q < 6) (hty : ab_el q = .object C) (hlk : Cond.classLink (ab_cn own) idx C ∈ ab_W0) (hov : Cond.arrayOver (.object C) ∈ ab_W0) (hn : ¬ i < 0) (hN : i.toNatClampNeg = N') (hbytes : N' * 4 ≤ 536870912) (hR : cells + 1 ≤ R.cells ∧ slots + N' ≤ R.slots) (k : nw_G own b R nL E a N0 N1 kF mF WF pc2 L (.ref n :: st) (ws ++ [(n, .inl (ab_cA E q, N', .inr (.inr (.inr (.inr (fun _ => none))))))]) (n + 1) (cells + 1) (slots + N')) : nw_G own b R nL E a N0 N1 kF mF WF pc L (.int i :: st) ws n cells slots := by
  intro p l e s m args below meth c H locs ls hfl F hml X hl
  subst hp
  obtain ⟨hx, hb, hown, hts, hNW, hK, hsz, -⟩ := id F
  exact nw_anew hx hb hown (hts _ hlk) (hts _ hov) hK hq6 hty X (fun y hy => Or.inr (by rw [← hsz]; exact hy)) hn hN hbytes hR.1 hR.2 hd (fun H1 X1 => k p l e s m args below meth c H1 locs ls hfl F hml X1 hl)
theorem ng_ast {x v n' ci qe : Nat} {r : vw_C} {vs : List Value} {f : Nat → Option Nat} {i : Int32} (hd : decode b pc = .ok (.aastore, 1)) (hp : pc + 1 = pc2) (h6 : qe < 6) (hty : ab_el qe = .object r.1) (q0 : Nat) (he : ws[q0]? = some (x, .inl (ab_cA E qe, n', .inr (.inr (.inr (.inr f)))))) (qk : Nat) (hv : ws[qk]? = some (v, .inr (ci, vs))) (hr : vwCl[ci]? = some r) (hin : vp_in i n') (k : nw_G own b R nL E a N0 N1 kF mF WF pc2 L st (ws.set q0 (x, .inl (ab_cA E qe, n', .inr (.inr (.inr (.inr (va_up f i.toNatClampNeg (some v)))))))) n cells slots) : nw_G own b R nL E a N0 N1 kF mF WF pc L (.ref v :: .int i :: .ref x :: st) ws n cells slots := by
  intro p l e s m args below meth c H locs ls hfl F hml X hl
  subst hp
  obtain ⟨hx, hb, hown, hts, hNW, hK, -⟩ := id F
  exact nw_ast hx hb hK X q0 qe qk ci he (by rw [ab_ty_at E h6, hty]) hv hr hin hd (fun H1 locs1 X1 => k p l e s m args below meth c H1 locs1 ls hfl F hml X1 hl)
end NWK
-- ===== Standing =====
theorem nf5 : ∀ j, j < (ab_fs 5).length → defaultValue (ab_tt 5 j) = vp_V ([.null, .null, .null, .long 0, .int 0] : List Value) j := fun j hj => match j, hj with
  | 0, _ => rfl
  | 1, _ => rfl
  | 2, _ => rfl
  | 3, _ => rfl
  | 4, _ => rfl
  | n + 5, h => absurd h (by show ¬ (n + 5 < 5); omega)
def h8f (k : Nat) : Nat → Int32 := fun j => if j < k then -1 else 0
theorem h8_up {k : Nat} (hk : k < 8) : upd (h8f k) (nI k).toNatClampNeg (-1) = h8f (k + 1) := by
  have e : (nI k).toNatClampNeg = k := nI_clamp (by omega)
  rw [e]
  funext j
  simp only [upd, h8f]
  by_cases h1 : j = k
  · subst h1
    simp
  · by_cases h2 : j < k
    · simp [h1, h2, show j < k + 1 by omega]
    · simp [h1, h2, show ¬ j < k + 1 by omega]
def w5s (E : ab_E) (a N0 k : Nat) : va_W := [(a, .inr (5, [.ref (N0), .ref (N0 + 1), .ref (N0 + 2), .long 0, .int 0])), (N0, .inl (ab_cA E 0, (8, .inl (h8f k)))), (N0 + 1, .inl (ab_cA E 0, (6, .inl (fun _ => 0)))), (N0 + 2, .inl (ab_cA E 0, (6, .inl (fun _ => 0))))]
def nW5 (E : ab_E) (a N0 : Nat) : va_W := w5s E a N0 8
theorem nl5 {E : ab_E} {a N0 : Nat} : ∀ d k, k + d = 8 → nw_G 5 cX5_init { frames := 1, cells := 3, slots := 20, locals := 40 } 2 E a N0 (N0 + 3) 3 20 (nW5 E a N0) 30 [(1, .int (nI k)), (0, .ref a)] [] (w5s E a N0 k) (N0 + 3) 3 20 := by
  intro d
  induction d with
  | zero =>
    intro k hk
    have ek : k = 8 := by omega
    subst ek
    refine ng_il1 (pc2 := 31) (by decide +kernel) rfl 0 rfl ?_
    refine ng_al0 (pc2 := 32) (x := a) (by decide +kernel) rfl 1 rfl ?_
    refine ng_get (idx := 9) (pc2 := 35) (by decide +kernel) (by decide) 0 rfl 0 (by decide) (by decide +kernel) rfl rfl rfl ?_
    refine ng_alen (e := 0) (v := 8) (pc2 := 36) (by decide +kernel) rfl 1 rfl (by decide) rfl ?_
    refine ng_ige1 (tgt := 52) (off := 16) (by decide +kernel) (by decide) (by decide +kernel) ?_
    exact ng_vret (by decide +kernel) rfl rfl rfl rfl
  | succ d ih =>
    intro k hk
    refine ng_il1 (pc2 := 31) (by decide +kernel) rfl 0 rfl ?_
    refine ng_al0 (pc2 := 32) (x := a) (by decide +kernel) rfl 1 rfl ?_
    refine ng_get (idx := 9) (pc2 := 35) (by decide +kernel) (by decide) 0 rfl 0 (by decide) (by decide +kernel) rfl rfl rfl ?_
    refine ng_alen (e := 0) (v := 8) (pc2 := 36) (by decide +kernel) rfl 1 rfl (by decide) rfl ?_
    refine ng_ige0 (tgt := 52) (off := 16) (pc2 := 39) (by decide +kernel) (by decide) (show nI k < nI 8 from (nI_ltI (by omega) (by decide)).mpr (by omega)) rfl ?_
    refine ng_al0 (pc2 := 40) (x := a) (by decide +kernel) rfl 1 rfl ?_
    refine ng_get (idx := 9) (pc2 := 43) (by decide +kernel) (by decide) 0 rfl 0 (by decide) (by decide +kernel) rfl rfl rfl ?_
    refine ng_il1 (pc2 := 44) (by decide +kernel) rfl 0 rfl ?_
    refine ng_ic (v := -1) (x := -1) (pc2 := 45) (by decide +kernel) (by decide +kernel) rfl ?_
    refine ng_iast (pc2 := 46) (by decide +kernel) rfl 1 rfl (vp_in_nI (by omega) (by decide)) ?_
    refine ng_inc (pc2 := 49) (v := nI (k + 1)) (L' := [(1, .int (nI (k + 1))), (0, .ref a)]) (by decide +kernel) rfl (by decide) 0 rfl (nI_1 k) rfl ?_
    refine ng_goto (off := -19) (tgt := 30) (by decide +kernel) (by decide) ?_
    refine ng_eq (ws' := w5s E a N0 (k + 1)) ?_ rfl rfl rfl (ih (k + 1) (by omega))
    rw [h8_up (show k < 8 by omega)]
    rfl
theorem nC5 : nw_C yX5_init cX5_init 2 { frames := 1, cells := 3, slots := 20, locals := 40 } 5 [.null, .null, .null, .long 0, .int 0] 3 nW5 := by
  refine nw_entry (own := 5) (by decide +kernel) rfl rfl (by decide) (fun E a N0 hlt => ?_)
  refine ng_al0 (pc2 := 1) (x := a) (by decide +kernel) rfl 0 rfl ?_
  refine ng_obj (idx := 3) (pc2 := 4) (by decide +kernel) ⟨by decide +kernel, by decide +kernel, by decide +kernel⟩ ⟨by decide, by decide⟩ rfl ?_
  refine ng_al0 (pc2 := 5) (x := a) (by decide +kernel) rfl 0 rfl ?_
  refine ng_bi (w := 8) (x := 8) (pc2 := 7) (by decide +kernel) (by decide +kernel) rfl ?_
  refine ng_arr (N' := 8) (a0 := (8, .inl (fun _ => 0))) (pc2 := 9) (by decide +kernel) 0 (by decide) rfl (by decide +kernel) (nz0 8) (by decide +kernel) (by decide +kernel) (Nat.le_of_ble_eq_true rfl) ⟨Nat.le_of_ble_eq_true rfl, Nat.le_of_ble_eq_true rfl⟩ rfl ?_
  refine ng_put (idx := 9) (pc2 := 12) (by decide +kernel) (by decide) 0 rfl 0 (by decide) (by decide +kernel) rfl rfl rfl rfl (by show 0 < 5; decide) rfl ?_
  refine ng_al0 (pc2 := 13) (x := a) (by decide +kernel) rfl 0 rfl ?_
  refine ng_bi (w := 6) (x := 6) (pc2 := 15) (by decide +kernel) (by decide +kernel) rfl ?_
  refine ng_arr (N' := 6) (a0 := (6, .inl (fun _ => 0))) (pc2 := 17) (by decide +kernel) 0 (by decide) rfl (by decide +kernel) (nz0 6) (by decide +kernel) (by decide +kernel) (Nat.le_of_ble_eq_true rfl) ⟨Nat.le_of_ble_eq_true rfl, Nat.le_of_ble_eq_true rfl⟩ rfl ?_
  refine ng_put (idx := 15) (pc2 := 20) (by decide +kernel) (by decide) 0 rfl 1 (by decide) (by decide +kernel) rfl rfl rfl rfl (by show 1 < 5; decide) rfl ?_
  refine ng_al0 (pc2 := 21) (x := a) (by decide +kernel) rfl 0 rfl ?_
  refine ng_bi (w := 6) (x := 6) (pc2 := 23) (by decide +kernel) (by decide +kernel) rfl ?_
  refine ng_arr (N' := 6) (a0 := (6, .inl (fun _ => 0))) (pc2 := 25) (by decide +kernel) 0 (by decide) rfl (by decide +kernel) (nz0 6) (by decide +kernel) (by decide +kernel) (Nat.le_of_ble_eq_true rfl) ⟨Nat.le_of_ble_eq_true rfl, Nat.le_of_ble_eq_true rfl⟩ rfl ?_
  refine ng_put (idx := 18) (pc2 := 28) (by decide +kernel) (by decide) 0 rfl 2 (by decide) (by decide +kernel) rfl rfl rfl rfl (by show 2 < 5; decide) rfl ?_
  refine ng_ic (v := 0) (x := 0) (pc2 := 29) (by decide +kernel) (by decide +kernel) rfl ?_
  refine ng_is1 (pc2 := 30) (L' := [(1, .int (nI 0)), (0, .ref a)]) (by decide +kernel) rfl (by decide) rfl ?_
  refine ng_eq (ws' := w5s E a N0 0) ?_ rfl rfl rfl (nl5 8 0 rfl)
  unfold w5s
  rw [show h8f 0 = (fun _ => 0) from funext fun j => by simp [h8f]]
  rfl
/-! the constructors' judgement with one thing more that holds at the start (wip/gen/mg.py) -/
section NWL
variable {p : Program} {l : Launch} {e : Env} {R : Room} {s : State} {m : MethodId} {args : Array Value} {below : List Frame} {meth : Method} {c : Code} {H : Heap} {locs : List Loc} {cells slots : Nat} {Q : State → Prop}
variable {cc : ByteArray} {pc : Nat} {ls : Array Slot} {rest : List Value} {A : Nat → Prop} {E : ab_E} {ws : va_W} {H0 : Heap} {a N : Nat}
theorem nw_putN {own ref C : String} {T : u_T} {Nf ci index : Nat} {Ts : List Cond} (hexec : p.tables.exec = Jvm.exec) (hb : c.code = cc) (hts : ∀ w ∈ Ts, w.before args s = true) (hin : ∀ w ∈ u_ws C T Nf, w ∈ Ts) (ty0 : Nat → FieldType) (hty : ∀ k, k < Nf → parseFieldDescriptor (T k).2.2.1 = some (ty0 k)) (hnm : ∀ a, a < Nf → ∀ b, b < Nf → a ≠ b → (T a).2.1 ≠ (T b).2.1) (hown : s.vm.findClass own = some m.cls) (hK : va_K (E.1, E.2.1) vwCl (ab_ty E) s) (hX : nw_W E A H0 ws N H locs) (q0 : Nat) {fs : List Value} (he : ws[q0]? = some (a, .inr (ci, fs))) (hc : vwCl[ci]? = some (C, T, Nf)) (k : Nat) (hk : k < Nf) (hlink : (Cond.fieldLink own index ref (T k).2.1 (T k).2.2.1).before args s = true) (hsame : ∀ x, s.fieldFound? (T k).1 (T k).2.1 (T k).2.2.1 = some x → s.fieldFound? ref (T k).2.1 (T k).2.2.1 = some x) (hfin : (T k).2.2.2 = false) {ty : FieldType} {v : Value} (hd : parseFieldDescriptor (T k).2.2.1 = some ty) (hn : narrow ty v = v) (hfit : fits ty v = true) (hl : k < fs.length)
    (hdg : decode cc pc = .ok (.putfield index, 3)) (kk : ∀ (H1 : Heap) (locs1 : List Loc), nw_W E A H0 (ws.set q0 (a, .inr (ci, fs.set k v))) N H1 locs1 → W p l e R s m args below meth c H1 locs1 cells slots Q (F0 m (pc + 3) ls rest)) : W p l e R s m args below meth c H locs cells slots Q (F0 m pc ls (v :: .ref a :: rest)) := by
  obtain ⟨hP, hD, hS0, hz⟩ := hX
  have hap := va_apart (own := own) hts hin ty0 hty hnm hK hc
  obtain ⟨r, h1, cell, q1, q2, q3, q4⟩ := hP q0 _ he
  have hr : r = (C, T, Nf) := Option.some.inj (h1.symm.trans hc)
  subst hr
  obtain ⟨hS, hfc, kC, hkC, hkind⟩ := hK.1 ci _ hc
  obtain ⟨cf, kf, fi, f, hi, hsl⟩ := hS k hk
  have hlay := hts _ (hin _ (u_in_lay hk))
  unfold u_lay at hlay
  rw [if_neg (by rw [hfin]; decide)] at hlay
  have hst := (u_facts hfc hkC (u_lays hts hin hk) hi).1
  have h6 := u_store hfc hkC hkind hlay hi hd hn hfit
  refine W.putK hexec hb (f := f) ⟨hown, hlink, ⟨_, _, _, hsame _ hi⟩, hst⟩ (by rw [q2]; exact h6) q1 q3 (by rw [hsl]; exact k2_hasslot (q4 k hk)) rfl rfl hdg fun H' e1 e2 e3 => ?_
  rw [hsl] at e1 ⊢
  exact kk H' _ ⟨hP.set hD he ⟨_, hc, t_OB.to (V := updV (vp_V fs) k v) ⟨_, e1, q2, q3, t_set q4 hap hk v⟩ (fun j _ => vp_updV_set hl v j)⟩ e3, hD.set he, hS0.put e2 e3 (hD.2 q0 _ he), e2.trans hz⟩
end NWL
def mg_G (XX : State → Prop) (own : Nat) (b : ByteArray) (R : Room) (nL : Nat) (E : ab_E) (a N0 N1 kF mF : Nat) (WF : va_W) (pc : Nat) (L : List (Nat × Value)) (st : List Value) (ws : va_W) (n cells slots : Nat) : Prop :=
  ∀ (p : Program) (l : Launch) (e : Env) (s : State) (m : MethodId) (args : Array Value) (below : List Frame) (meth : Method) (c : Code) (H : Heap) (locs : List Loc) (ls : Array Slot), (l.flags = flags0 ∧ XX s) → nw_F p s m args meth c E own b N0 → c.maxLocals = nL →
    nw_W E (nw_A a N0) s.heap ws n H locs → lv_has ls nL L → W p l e R s m args below meth c H locs cells slots (MQ below (nw_Q E a N0 N1 WF) args s kF mF (nw_A a N0)) (F0 m pc ls st)
theorem mg_al0 {XX : State → Prop} {own : Nat} {b : ByteArray} {R : Room} {nL : Nat} {E : ab_E} {a N0 N1 kF mF : Nat} {WF : va_W} {pc pc2 : Nat} {L : List (Nat × Value)} {st : List Value} {ws : va_W} {n cells slots : Nat} {x : Nat} (hd : decode b pc = .ok (.aload_n 0, 1)) (hp : pc + 1 = pc2) (j : Nat) (hj : L[j]? = some (0, .ref x)) (k : mg_G XX own b R nL E a N0 N1 kF mF WF pc2 L (.ref x :: st) ws n cells slots) : mg_G XX own b R nL E a N0 N1 kF mF WF pc L st ws n cells slots := by
  intro p l e s m args below meth c H locs ls hfl F hml X hl
  subst hp
  exact lv_aload_n F.1 F.2.1 hd rfl (lv_at hl j hj) (k p l e s m args below meth c H locs ls hfl F hml X hl)
theorem mg_ic {XX : State → Prop} {own : Nat} {b : ByteArray} {R : Room} {nL : Nat} {E : ab_E} {a N0 N1 kF mF : Nat} {WF : va_W} {pc pc2 : Nat} {L : List (Nat × Value)} {st : List Value} {ws : va_W} {n cells slots : Nat} {v : Int} {x : Int32} (hd : decode b pc = .ok (.iconst v, 1)) (hv : Int32.ofInt v = x) (hp : pc + 1 = pc2) (k : mg_G XX own b R nL E a N0 N1 kF mF WF pc2 L (.int x :: st) ws n cells slots) : mg_G XX own b R nL E a N0 N1 kF mF WF pc L st ws n cells slots := by
  intro p l e s m args below meth c H locs ls hfl F hml X hl
  subst hp
  exact lv_iconst F.1 F.2.1 hd hv (k p l e s m args below meth c H locs ls hfl F hml X hl)
theorem mg_dup {XX : State → Prop} {own : Nat} {b : ByteArray} {R : Room} {nL : Nat} {E : ab_E} {a N0 N1 kF mF : Nat} {WF : va_W} {pc pc2 : Nat} {L : List (Nat × Value)} {st : List Value} {ws : va_W} {n cells slots : Nat} {x : Value} (hd : decode b pc = .ok (.dup, 1)) (hx : x.category = 1) (hp : pc + 1 = pc2) (k : mg_G XX own b R nL E a N0 N1 kF mF WF pc2 L (x :: x :: st) ws n cells slots) : mg_G XX own b R nL E a N0 N1 kF mF WF pc L (x :: st) ws n cells slots := by
  intro p l e s m args below meth c H locs ls hfl F hml X hl
  subst hp
  exact lv_dup F.1 F.2.1 hd hx (k p l e s m args below meth c H locs ls hfl F hml X hl)
theorem mg_obj {XX : State → Prop} {own : Nat} {b : ByteArray} {R : Room} {nL : Nat} {E : ab_E} {a N0 N1 kF mF : Nat} {WF : va_W} {pc pc2 : Nat} {L : List (Nat × Value)} {st : List Value} {ws : va_W} {n cells slots : Nat} {x idx : Nat} (hd : decode b pc = .ok (.invokespecial idx, 3)) (hlk : Cond.methodLink (ab_cn own) idx Lib.objectInit ∈ ab_W0 ∧ Cond.instanceMethod Lib.objectInit ∈ ab_W0 ∧ Cond.code Lib.objectInit ⟨#[0xb1]⟩ 1 none ∈ ab_W0) (hR : 1 ≤ R.frames ∧ (st.map fun v => v.category).sum + 14 ≤ R.locals) (hp : pc + 3 = pc2)
    (k : mg_G XX own b R nL E a N0 N1 kF mF WF pc2 L st ws n cells slots) : mg_G XX own b R nL E a N0 N1 kF mF WF pc L (.ref x :: st) ws n cells slots := by
  intro p l e s m args below meth c H locs ls hfl F hml X hl
  subst hp
  obtain ⟨hx, hb, hown, hts, -⟩ := id F
  exact W.objInit hx hb hown (hts _ hlk.1) (hts _ hlk.2.1) (hts _ hlk.2.2) rfl (by rw [hml]; exact hl.1) rfl hd hR.1 (by show 2 * 0 + (st.map fun v => v.category).sum + 12 ≤ R.locals; omega) (k p l e s m args below meth c H locs ls hfl F hml X hl)
theorem mg_arr {XX : State → Prop} {own : Nat} {b : ByteArray} {R : Room} {nL : Nat} {E : ab_E} {a N0 N1 kF mF : Nat} {WF : va_W} {pc pc2 : Nat} {L : List (Nat × Value)} {st : List Value} {ws : va_W} {n cells slots : Nat} {atype : ArrayType} {i : Int32} {N' : Nat} {a0 : vp_A} (hd : decode b pc = .ok (.newarray atype, 2)) (q : Nat) (hq6 : q < 6) (hty : newarray.typeOf atype = ab_el q) (harr : Cond.arrayClass (newarray.typeOf atype) ∈ ab_W0) (ha : ∀ cA : ClassId, vp_cell cA a0 = arrV cA N' (fun _ => defaultValue (newarray.typeOf atype))) (hn : ¬ i < 0) (hN : i.toNatClampNeg = N') (hbytes : N' * componentBytes (newarray.typeOf atype) ≤ 536870912) (hR : cells + 1 ≤ R.cells ∧ slots + N' ≤ R.slots) (hp : pc + 2 = pc2)
    (k : mg_G XX own b R nL E a N0 N1 kF mF WF pc2 L (.ref n :: st) (ws ++ [(n, .inl (ab_cA E q, a0))]) (n + 1) (cells + 1) (slots + N')) : mg_G XX own b R nL E a N0 N1 kF mF WF pc L (.int i :: st) ws n cells slots := by
  intro p l e s m args below meth c H locs ls hfl F hml X hl
  subst hp
  obtain ⟨hx, hb, hown, hts, hNW, hK, hsz, -⟩ := id F
  exact nw_arr hx hb hK (hts _ harr) q hq6 hty X (fun y hy => Or.inr (by rw [← hsz]; exact hy)) ha hn hN hbytes hR.1 hR.2 hd (fun H1 X1 => k p l e s m args below meth c H1 locs ls hfl F hml X1 hl)
theorem mg_vret {XX : State → Prop} {own : Nat} {b : ByteArray} {R : Room} {nL : Nat} {E : ab_E} {a N0 N1 kF mF : Nat} {WF : va_W} {pc : Nat} {L : List (Nat × Value)} {st : List Value} {ws : va_W} {n cells slots : Nat} (hd : decode b pc = .ok (.return_, 1)) (hn : n = N1) (hk : cells = kF) (hm : slots = mF) (hws : ws = WF) : mg_G XX own b R nL E a N0 N1 kF mF WF pc L [] ws n cells slots := by
  intro p l e s m args below meth c H locs ls hfl F hml X hl
  subst hn
  subst hk
  subst hm
  subst hws
  obtain ⟨hx, hb, hown, hts, hNW, hK, hsz, hnm, hr, hlk⟩ := id F
  exact W.vret hx hb hr (fun t ht _ => ⟨rfl, by rw [ht]; exact X.1, by rw [ht]; exact X.2.2.2, X.2.2.1.F ht, X.2.1⟩) X.2.2.1.2.2 hd hlk
theorem mg_bi {XX : State → Prop} {own : Nat} {b : ByteArray} {R : Room} {nL : Nat} {E : ab_E} {a N0 N1 kF mF : Nat} {WF : va_W} {pc pc2 : Nat} {L : List (Nat × Value)} {st : List Value} {ws : va_W} {n cells slots : Nat} {w : Int} {x : Int32} (hd : decode b pc = .ok (.bipush w, 2)) (hv : (Int8.ofInt w).toInt32 = x) (hp : pc + 2 = pc2) (k : mg_G XX own b R nL E a N0 N1 kF mF WF pc2 L (.int x :: st) ws n cells slots) : mg_G XX own b R nL E a N0 N1 kF mF WF pc L st ws n cells slots := by
  intro p l e s m args below meth c H locs ls hfl F hml X hl
  subst hp
  exact lv_bipush F.1 F.2.1 hd hv (k p l e s m args below meth c H locs ls hfl F hml X hl)
theorem mg_si {XX : State → Prop} {own : Nat} {b : ByteArray} {R : Room} {nL : Nat} {E : ab_E} {a N0 N1 kF mF : Nat} {WF : va_W} {pc pc2 : Nat} {L : List (Nat × Value)} {st : List Value} {ws : va_W} {n cells slots : Nat} {w : Int} {x : Int32} (hd : decode b pc = .ok (.sipush w, 3)) (hv : (Int16.ofInt w).toInt32 = x) (hp : pc + 3 = pc2) (k : mg_G XX own b R nL E a N0 N1 kF mF WF pc2 L (.int x :: st) ws n cells slots) : mg_G XX own b R nL E a N0 N1 kF mF WF pc L st ws n cells slots := by
  intro p l e s m args below meth c H locs ls hfl F hml X hl
  subst hp
  exact lv_sipush F.1 F.2.1 hd hv (k p l e s m args below meth c H locs ls hfl F hml X hl)
theorem mg_put {XX : State → Prop} {own : Nat} {b : ByteArray} {R : Room} {nL : Nat} {E : ab_E} {a N0 N1 kF mF : Nat} {WF : va_W} {pc pc2 : Nat} {L : List (Nat × Value)} {st : List Value} {ws : va_W} {n cells slots : Nat} {x idx : Nat} {fs : List Value} {v : Value} (hd : decode b pc = .ok (.putfield idx, 3)) (ho : own < 10) (q0 : Nat) (he : ws[q0]? = some (x, .inr (own, fs))) (f : Nat) (hf : f < (ab_fs own).length) (hlk : Cond.fieldLink (ab_cn own) idx (ab_cn own) (ab_TT own f).2.1 (ab_TT own f).2.2.1 ∈ ab_W0) (hfin : (ab_TT own f).2.2.2 = true) (hdecl : (ab_TT own f).1 = ab_cn own) (hn : narrow (ab_tt own f) v = v) (hfit : fits (ab_tt own f) v = true) (hl9 : f < fs.length) (hp : pc + 3 = pc2)
    (k : mg_G XX own b R nL E a N0 N1 kF mF WF pc2 L st (ws.set q0 (x, .inr (own, fs.set f v))) n cells slots) : mg_G XX own b R nL E a N0 N1 kF mF WF pc L (v :: .ref x :: st) ws n cells slots := by
  intro p l e s m args below meth c H locs ls hfl F hml X hl
  subst hp
  obtain ⟨hx, hb, hown, hts, hNW, hK, hsz, hnm, hr, hlk9⟩ := id F
  exact nw_putF hx hb (T := ab_TT own) (ref := ab_cn own) hts (ab_ww ho) (ab_tt own) (ab_ty_ok ho) (ab_nm_ok ho) hown hK X q0 he (ab_vw ho) f hf (hts _ hlk) (fun y hy => by rw [hdecl] at hy; exact hy) hfin hnm hdecl (ab_ty_ok ho f hf) hn hfit hl9 hd (fun H1 locs1 X1 => k p l e s m args below meth c H1 locs1 ls hfl F hml X1 hl)
theorem mg_new {XX : State → Prop} {own : Nat} {b : ByteArray} {R : Room} {nL : Nat} {E : ab_E} {a N0 N1 kF mF : Nat} {WF : va_W} {pc pc2 : Nat} {L : List (Nat × Value)} {st : List Value} {ws : va_W} {n cells slots : Nat} {ci idx : Nat} {fs : List Value} (hd : decode b pc = .ok (.new idx, 3)) (hci : ci < 10) (hcl : Cond.classLink (ab_cn own) idx (ab_cn ci) ∈ ab_W0) (hins : Cond.instantiable (ab_cn ci) (ab_fs ci).length ∈ ab_W0) (hini : Cond.initialized (ab_cn ci) ∈ ab_W0) (hfs : ∀ j, j < (ab_fs ci).length → defaultValue (ab_tt ci j) = vp_V fs j) (hR : cells + 1 ≤ R.cells ∧ slots + (ab_fs ci).length ≤ R.slots) (hp : pc + 3 = pc2)
    (k : mg_G XX own b R nL E a N0 N1 kF mF WF pc2 L (.ref n :: st) (ws ++ [(n, .inr (ci, fs))]) (n + 1) (cells + 1) (slots + (ab_fs ci).length)) : mg_G XX own b R nL E a N0 N1 kF mF WF pc L st ws n cells slots := by
  intro p l e s m args below meth c H locs ls hfl F hml X hl
  subst hp
  obtain ⟨hx, hb, hown, hts, hNW, hK, hsz, -⟩ := id F
  exact nw_obj hx hb hts (ab_ww hci) (ab_tt ci) (ab_ty_ok hci) hown (hts _ hcl) (hts _ hins) (hts _ hini) hK X (fun y hy => Or.inr (by rw [← hsz]; exact hy)) (ab_vw hci) hfs hR.1 hR.2 hd (fun H1 X1 => k p l e s m args below meth c H1 locs ls hfl F hml X1 hl)
theorem mg_call {XX : State → Prop} {own : Nat} {b : ByteArray} {R : Room} {nL : Nat} {E : ab_E} {a N0 N1 kF mF : Nat} {WF : va_W} {pc pc2 : Nat} {L : List (Nat × Value)} {st : List Value} {w0 : va_W} {x n cells slots : Nat}
    {y : MethodName} {b' : ByteArray} {nL' : Nat} {R' : Room} {ci : Nat} {fs : List Value} {k' idx : Nat} {WF' : ab_E → Nat → Nat → va_W} (hM : nw_C y b' nL' R' ci fs k' WF') (hc : Cond.code y b' nL' none ∈ ab_W0) (hini : Cond.initialized y.cls ∈ ab_W0) (hinst : Cond.instanceMethod y ∈ ab_W0) (hyn : y.name = "<init>") (hyc : y.cls ≠ "java/lang/invoke/MethodHandle" ∧ y.cls ≠ "java/lang/invoke/VarHandle") (hpar : (parseMethodDescriptor y.desc).map (fun d => d.parameters.length) = some 0)
    (hlk : ab_lp own idx y ∨ ab_ln' own idx y) (hd : decode b pc = .ok (.invokespecial idx, 3)) (hcat : (st.map fun v => v.category).sum ≤ 8) (hRf : R'.frames + 1 ≤ R.frames ∧ 8 + (nL' + 11) + R'.locals ≤ R.locals) (hR : cells + R'.cells ≤ R.cells ∧ slots + R'.slots ≤ R.slots) (hp : pc + 3 = pc2)
    (k : mg_G XX own b R nL E a N0 N1 kF mF WF pc2 L st (w0 ++ WF' E x n) (n + k') (cells + R'.cells) (slots + R'.slots)) : mg_G XX own b R nL E a N0 N1 kF mF WF pc L (.ref x :: st) (w0 ++ [(x, .inr (ci, fs))]) n cells slots := by
  intro p l e s m args below meth c H locs ls hfl F hml X hl
  subst hp
  obtain ⟨hx, hb, hown, hts, hNW, hK, hsz, -⟩ := id F
  obtain ⟨hP, hD, hS, hn⟩ := X
  have hPx : va_P (E.1, E.2.1) vwCl [(x, .inr (ci, fs))] H := fun i q hq => by
    match i, hq with
    | 0, hq => cases hq; exact hP w0.length _ (by rw [List.getElem?_append_right (Nat.le_refl _)]; simp)
    | i + 1, hq => simp at hq
  have hP0 : va_P (E.1, E.2.1) vwCl w0 H := fun i q hq => hP i q (by rw [List.getElem?_append_left (List.getElem?_eq_some_iff.mp hq).1]; exact hq)
  have hA0 : ∀ (i : Nat) (q : Nat × va_E), w0[i]? = some q → nw_A a N0 q.1 := fun i q hq => hD.2 i q (by rw [List.getElem?_append_left (List.getElem?_eq_some_iff.mp hq).1]; exact hq)
  have hx0 : (w0 ++ [(x, (Sum.inr (ci, fs) : va_E))])[w0.length]? = some (x, .inr (ci, fs)) := by rw [List.getElem?_append_right (Nat.le_refl _)]; simp
  have hAx : nw_A a N0 x := hD.2 w0.length _ hx0
  have hne : ∀ (i : Nat) (q : Nat × va_E), w0[i]? = some q → q.1 ≠ x := fun i q hq h => by
    have hi := (List.getElem?_eq_some_iff.mp hq).1
    have h2 := hD.1 i w0.length q _ (by rw [List.getElem?_append_left hi]; exact hq) hx0 h
    omega
  have hN0 : N0 ≤ n := by rw [← hn, ← hsz]; exact hS.1
  have hpv : PreS s H (va_Pc [.ref x] (nw_B E x n ci fs)) [.ref x] := ⟨nw_B_blind E x n ci fs _, fun U hU hW => ⟨rfl, va_K.moved hW.alike hK, by rw [hU]; exact hPx, by rw [hU]; exact hn, ab_NW.moved hW hNW⟩⟩
  have hfix : CallFix p m c b nL s args ab_W0 (ab_cn own) := ⟨hx, hb, hml, hown, hts⟩
  have hlen : ∀ sig, parseMethodDescriptor y.desc = some sig → 0 = sig.parameters.length := fun sig h => by
    rw [h] at hpar
    exact (Option.some.inj hpar).symm
  have hmon : 2 * (F0 m pc ls (.ref x :: st)).monitorRoom + (st.map fun v => v.category).sum ≤ 8 := lv_room hcat
  have hrun : va_Run p l e R s m args below meth c H locs cells slots R'.cells R'.slots (F0 m pc ls (.ref x :: st)) st (nw_Q E x n (n + k') (WF' E x n) [Value.ref x].toArray) (nw_A x n) := by
    rcases hlk with h | h
    · exact va_runI (As := []) hfix (hM l E x n hfl.1) ⟨⟨rfl, rfl, hRf.1, hRf.2, ab_ws hts hc, List.mem_cons_self, hts _ hc, hts _ hini, hyc, hlen, hts _ h⟩, hyn, hts _ hinst⟩ hpv rfl rfl hl.1 rfl hmon hd hR
    · exact va_runIN (As := []) hfix (hM l E x n hfl.1) ⟨⟨⟨rfl, rfl, hRf.1, hRf.2, ab_ws hts hc, List.mem_cons_self⟩, hts _ hc, hts _ hini, hyc, hlen, va_Nw.use rfl (hNW _ h rfl)⟩, hyn, hts _ hinst⟩ hpv rfl rfl hl.1 rfl hmon hd hR
  intro T hT Y
  obtain ⟨v, st₀, t, T', Lc, h0, Y', hLc, e1, e2, ⟨hv, hP', hz', ⟨hz, hk⟩, hD'⟩, stp⟩ := hrun T hT Y
  cases hv
  rw [h0] at hz hk
  have hsub : ∀ q, nw_A x n q → nw_A a N0 q := fun q h => by
    rcases h with h | h
    · rw [h]; exact hAx
    · exact Or.inr (Nat.le_trans hN0 h)
  have hlt : ∀ (i : Nat) (q : Nat × va_E), w0[i]? = some q → q.1 < n := fun i q hq => by rw [← hn]; exact (hP0 i q hq).lt
  have hX1 : nw_W E (nw_A a N0) s.heap (w0 ++ WF' E x n) (n + k') T'.heap (locs ++ Lc) := by
    rw [e1]
    refine ⟨(hP0.kept (fun i q hq => hk q.1 (by rw [hn]; exact hlt i q hq) (fun h => ?_))).app hP', ⟨fun i j pq qq hi hj h => ?_, fun i q hq => ?_⟩, ⟨Nat.le_trans hS.1 hz, fun q h1 h2 => by rw [hk q (Nat.lt_of_lt_of_le h1 hS.1) (fun h => h2 (hsub q h))]; exact hS.2.1 q h1 h2, fun q hq => ?_⟩, hz'⟩
    · rcases h with h | h
      · exact hne i q hq h
      · have := hlt i q hq; omega
    · by_cases h1 : i < w0.length
      · rw [List.getElem?_append_left h1] at hi
        by_cases h2 : j < w0.length
        · rw [List.getElem?_append_left h2] at hj
          exact hD.1 i j pq qq (by rw [List.getElem?_append_left h1]; exact hi) (by rw [List.getElem?_append_left h2]; exact hj) h
        · rw [List.getElem?_append_right (by omega)] at hj
          rcases hD'.2 _ _ hj with h3 | h3
          · exact absurd (h.trans h3) (hne i pq hi)
          · have := hlt i pq hi; omega
      · rw [List.getElem?_append_right (by omega)] at hi
        by_cases h2 : j < w0.length
        · rw [List.getElem?_append_left h2] at hj
          rcases hD'.2 _ _ hi with h3 | h3
          · exact absurd (h.symm.trans h3) (hne j qq hj)
          · have := hlt j qq hj; omega
        · rw [List.getElem?_append_right (by omega)] at hj
          have := hD'.1 _ _ pq qq hi hj h
          omega
    · by_cases h1 : i < w0.length
      · rw [List.getElem?_append_left h1] at hq
        exact hA0 i q hq
      · rw [List.getElem?_append_right (by omega)] at hq
        exact hsub _ (hD'.2 _ _ hq)
    · rcases List.mem_append.mp hq with h | h
      · exact hS.2.2 q h
      · exact hsub _ (hLc q h)
  obtain ⟨t2, b1, b2⟩ := k p l e s m args below meth c T'.heap (locs ++ Lc) ls hfl F hml hX1 hl T' rfl Y'
  exact ⟨t2, stp t2 b1, b2⟩
theorem mg_get {XX : State → Prop} {own : Nat} {b : ByteArray} {R : Room} {nL : Nat} {E : ab_E} {a N0 N1 kF mF : Nat} {WF : va_W} {pc pc2 : Nat} {L : List (Nat × Value)} {st : List Value} {ws : va_W} {n cells slots : Nat} {x idx : Nat} {fs : List Value} {v : Value} (hd : decode b pc = .ok (.getfield idx, 3)) (ho : own < 10) (q0 : Nat) (he : ws[q0]? = some (x, .inr (own, fs))) (f : Nat) (hf : f < (ab_fs own).length) (hlk : Cond.fieldLink (ab_cn own) idx (ab_cn own) (ab_TT own f).2.1 (ab_TT own f).2.2.1 ∈ ab_W0) (hdecl : (ab_TT own f).1 = ab_cn own) (hv : fs[f]? = some v) (hp : pc + 3 = pc2)
    (k : mg_G XX own b R nL E a N0 N1 kF mF WF pc2 L (v :: st) ws n cells slots) : mg_G XX own b R nL E a N0 N1 kF mF WF pc L (.ref x :: st) ws n cells slots := by
  intro p l e s m args below meth c H locs ls hfl F hml X hl
  subst hp
  obtain ⟨hx, hb, hown, hts, hNW, hK, hsz, hnm, hr, hlk9⟩ := id F
  exact va_get hx hb (T := ab_TT own) (ref := ab_cn own) hts (ab_ww ho) hown hK X.1 q0 he (ab_vw ho) f hf (hts _ hlk) (fun y hy => by rw [hdecl] at hy; exact hy) hv hd (k p l e s m args below meth c H locs ls hfl F hml X hl)
theorem mg_goto {XX : State → Prop} {own : Nat} {b : ByteArray} {R : Room} {nL : Nat} {E : ab_E} {a N0 N1 kF mF : Nat} {WF : va_W} {pc : Nat} {L : List (Nat × Value)} {st : List Value} {ws : va_W} {n cells slots : Nat} {off : Int} {tgt : Nat} (hd : decode b pc = .ok (.goto off, 3)) (ht : (pc : Int) + off = (tgt : Int)) (k : mg_G XX own b R nL E a N0 N1 kF mF WF tgt L st ws n cells slots) : mg_G XX own b R nL E a N0 N1 kF mF WF pc L st ws n cells slots := by
  intro p l e s m args below meth c H locs ls hfl F hml X hl
  exact lv_goto F.1 F.2.1 hd ht (k p l e s m args below meth c H locs ls hfl F hml X hl)
theorem mg_ige0 {XX : State → Prop} {own : Nat} {b : ByteArray} {R : Room} {nL : Nat} {E : ab_E} {a N0 N1 kF mF : Nat} {WF : va_W} {pc pc2 : Nat} {L : List (Nat × Value)} {st : List Value} {ws : va_W} {n cells slots : Nat} {x y : Int32} {off : Int} (hd : decode b pc = .ok (.if_icmp .ge off, 3)) {tgt : Nat} (ht : (pc : Int) + off = (tgt : Int)) (h : x < y) (hp : pc + 3 = pc2) (k : mg_G XX own b R nL E a N0 N1 kF mF WF pc2 L st ws n cells slots) : mg_G XX own b R nL E a N0 N1 kF mF WF pc L (.int y :: .int x :: st) ws n cells slots := by
  intro p l e s m args below meth c H locs ls hfl F hml X hl
  subst hp
  exact lv_icmp_ge F.1 F.2.1 hd ht (fun h2 => absurd h (Int32.not_lt.mpr h2)) (fun _ => k p l e s m args below meth c H locs ls hfl F hml X hl)
theorem mg_ige1 {XX : State → Prop} {own : Nat} {b : ByteArray} {R : Room} {nL : Nat} {E : ab_E} {a N0 N1 kF mF : Nat} {WF : va_W} {pc : Nat} {L : List (Nat × Value)} {st : List Value} {ws : va_W} {n cells slots : Nat} {x y : Int32} {off : Int} (hd : decode b pc = .ok (.if_icmp .ge off, 3)) {tgt : Nat} (ht : (pc : Int) + off = (tgt : Int)) (h : y ≤ x) (k : mg_G XX own b R nL E a N0 N1 kF mF WF tgt L st ws n cells slots) : mg_G XX own b R nL E a N0 N1 kF mF WF pc L (.int y :: .int x :: st) ws n cells slots := by
  intro p l e s m args below meth c H locs ls hfl F hml X hl
  exact lv_icmp_ge F.1 F.2.1 hd ht (fun _ => k p l e s m args below meth c H locs ls hfl F hml X hl) (fun h2 => absurd h h2)
theorem mg_eq {XX : State → Prop} {own : Nat} {b : ByteArray} {R : Room} {nL : Nat} {E : ab_E} {a N0 N1 kF mF : Nat} {WF : va_W} {pc : Nat} {L : List (Nat × Value)} {st : List Value} {ws : va_W} {n cells slots : Nat} {ws' : va_W} {n' cells' slots' : Nat} (hw : ws = ws') (hn : n = n') (hc : cells = cells') (hs : slots = slots') (k : mg_G XX own b R nL E a N0 N1 kF mF WF pc L st ws' n' cells' slots') : mg_G XX own b R nL E a N0 N1 kF mF WF pc L st ws n cells slots := by
  subst hw hn hc hs
  exact k
theorem mg_il1 {XX : State → Prop} {own : Nat} {b : ByteArray} {R : Room} {nL : Nat} {E : ab_E} {a N0 N1 kF mF : Nat} {WF : va_W} {pc pc2 : Nat} {L : List (Nat × Value)} {st : List Value} {ws : va_W} {n cells slots : Nat} {x : Int32} (hd : decode b pc = .ok (.iload_n 1, 1)) (hp : pc + 1 = pc2) (j : Nat) (hj : L[j]? = some (1, .int x)) (k : mg_G XX own b R nL E a N0 N1 kF mF WF pc2 L (.int x :: st) ws n cells slots) : mg_G XX own b R nL E a N0 N1 kF mF WF pc L st ws n cells slots := by
  intro p l e s m args below meth c H locs ls hfl F hml X hl
  subst hp
  exact lv_iload_n F.1 F.2.1 hd rfl (lv_at hl j hj) (k p l e s m args below meth c H locs ls hfl F hml X hl)
theorem mg_is1 {XX : State → Prop} {own : Nat} {b : ByteArray} {R : Room} {nL : Nat} {E : ab_E} {a N0 N1 kF mF : Nat} {WF : va_W} {pc pc2 : Nat} {L : List (Nat × Value)} {st : List Value} {ws : va_W} {n cells slots : Nat} {x : Int32} {L' : List (Nat × Value)} (hd : decode b pc = .ok (.istore_n 1, 1)) (hp : pc + 1 = pc2) (hn : 1 < nL) (hL : (1, Value.int x) :: L.filter (fun q => !(q.1 == 1) && !(q.1 + 1 == 1 && q.2.category == 2)) = L') (k : mg_G XX own b R nL E a N0 N1 kF mF WF pc2 L' st ws n cells slots) : mg_G XX own b R nL E a N0 N1 kF mF WF pc L (.int x :: st) ws n cells slots := by
  intro p l e s m args below meth c H locs ls hfl F hml X hl
  subst hp
  exact lv_istore_n F.1 F.2.1 hd rfl hl hn hL (fun ls' hl' => k p l e s m args below meth c H locs ls' hfl F hml X hl')
theorem mg_inc {XX : State → Prop} {own : Nat} {b : ByteArray} {R : Room} {nL : Nat} {E : ab_E} {a N0 N1 kF mF : Nat} {WF : va_W} {pc pc2 : Nat} {L : List (Nat × Value)} {st : List Value} {ws : va_W} {n cells slots : Nat} {x v : Int32} {L' : List (Nat × Value)} (hd : decode b pc = .ok (.iinc 1 1, 3)) (hp : pc + 3 = pc2) (hn : 1 < nL) (j : Nat) (hj : L[j]? = some (1, .int x)) (hv : x + Int32.ofInt 1 = v) (hL : (1, Value.int v) :: L.filter (fun q => !(q.1 == 1) && !(q.1 + 1 == 1 && q.2.category == 2)) = L') (k : mg_G XX own b R nL E a N0 N1 kF mF WF pc2 L' st ws n cells slots) : mg_G XX own b R nL E a N0 N1 kF mF WF pc L st ws n cells slots := by
  intro p l e s m args below meth c H locs ls hfl F hml X hl
  subst hp
  exact lv_iinc F.1 F.2.1 hd hl hj hv hn hL (fun ls' hl' => k p l e s m args below meth c H locs ls' hfl F hml X hl')
theorem mg_alen {XX : State → Prop} {own : Nat} {b : ByteArray} {R : Room} {nL : Nat} {E : ab_E} {a N0 N1 kF mF : Nat} {WF : va_W} {pc pc2 : Nat} {L : List (Nat × Value)} {st : List Value} {ws : va_W} {n cells slots : Nat} {x e : Nat} {a0 : vp_A} {v : Int32} (hd : decode b pc = .ok (.arraylength, 1)) (hp : pc + 1 = pc2) (q0 : Nat) (he : ws[q0]? = some (x, .inl (ab_cA E e, a0))) (h6 : e < 6) (hv : Int32.ofNat a0.1 = v) (k : mg_G XX own b R nL E a N0 N1 kF mF WF pc2 L (.int v :: st) ws n cells slots) : mg_G XX own b R nL E a N0 N1 kF mF WF pc L (.ref x :: st) ws n cells slots := by
  intro p l e s m args below meth c H locs ls hfl F hml X hl
  subst hp
  obtain ⟨hx, hb, hown, hts, hNW, hK, -⟩ := id F
  exact va_alen hx hb hK X.1 q0 _ he (ab_ty_at E h6) hv hd (k p l e s m args below meth c H locs ls hfl F hml X hl)
theorem mg_last {XX : State → Prop} {own : Nat} {b : ByteArray} {R : Room} {nL : Nat} {E : ab_E} {a N0 N1 kF mF : Nat} {WF : va_W} {pc pc2 : Nat} {L : List (Nat × Value)} {st : List Value} {ws : va_W} {n cells slots : Nat} {x n' : Nat} {f : Nat → Int64} {i : Int32} {v : Int64} (hd : decode b pc = .ok (.lastore, 1)) (hp : pc + 1 = pc2) (q0 : Nat) (he : ws[q0]? = some (x, .inl (ab_cA E 1, n', .inr (.inl f)))) (hin : vp_in i n') (k : mg_G XX own b R nL E a N0 N1 kF mF WF pc2 L st (ws.set q0 (x, .inl (ab_cA E 1, n', .inr (.inl (vp_updL f i.toNatClampNeg v))))) n cells slots) : mg_G XX own b R nL E a N0 N1 kF mF WF pc L (.long v :: .int i :: .ref x :: st) ws n cells slots := by
  intro p l e s m args below meth c H locs ls hfl F hml X hl
  subst hp
  obtain ⟨hx, hb, hown, hts, hNW, hK, -⟩ := id F
  exact nw_last hx hb hK X q0 he hin hd (fun H1 locs1 X1 => k p l e s m args below meth c H1 locs1 ls hfl F hml X1 hl)
theorem mg_ldc2 {XX : State → Prop} {own : Nat} {b : ByteArray} {R : Room} {nL : Nat} {E : ab_E} {a N0 N1 kF mF : Nat} {WF : va_W} {pc pc2 : Nat} {L : List (Nat × Value)} {st : List Value} {ws : va_W} {n cells slots : Nat} {idx : Nat} {v : Int64} (hd : decode b pc = .ok (.ldc2_w idx, 3)) (hp : pc + 3 = pc2) (hk : Cond.constantLong (ab_cn own) idx v ∈ ab_W0) (k : mg_G XX own b R nL E a N0 N1 kF mF WF pc2 L (.long v :: st) ws n cells slots) : mg_G XX own b R nL E a N0 N1 kF mF WF pc L st ws n cells slots := by
  intro p l e s m args below meth c H locs ls hfl F hml X hl
  subst hp
  obtain ⟨hx, hb, hown, hts, -⟩ := id F
  exact lv_ldc2 hx hb hown (hts _ hk) hd (k p l e s m args below meth c H locs ls hfl F hml X hl)
theorem mg_anew {XX : State → Prop} {own : Nat} {b : ByteArray} {R : Room} {nL : Nat} {E : ab_E} {a N0 N1 kF mF : Nat} {WF : va_W} {pc pc2 : Nat} {L : List (Nat × Value)} {st : List Value} {ws : va_W} {n cells slots : Nat} {C : String} {idx q : Nat} {i : Int32} {N' : Nat} (hd : decode b pc = .ok (.anewarray idx, 3)) (hp : pc + 3 = pc2) (hq6 : q < 6) (hty : ab_el q = .object C) (hlk : Cond.classLink (ab_cn own) idx C ∈ ab_W0) (hov : ∀ s : State, XX s → va_AO C s) (hn : ¬ i < 0) (hN : i.toNatClampNeg = N') (hbytes : N' * 4 ≤ 536870912) (hR : cells + 1 ≤ R.cells ∧ slots + N' ≤ R.slots) (k : mg_G XX own b R nL E a N0 N1 kF mF WF pc2 L (.ref n :: st) (ws ++ [(n, .inl (ab_cA E q, N', .inr (.inr (.inr (.inr (fun _ => none))))))]) (n + 1) (cells + 1) (slots + N')) : mg_G XX own b R nL E a N0 N1 kF mF WF pc L (.int i :: st) ws n cells slots := by
  intro p l e s m args below meth c H locs ls hfl F hml X hl
  subst hp
  obtain ⟨hx, hb, hown, hts, hNW, hK, hsz, -⟩ := id F
  exact nw_anew hx hb hown (hts _ hlk) (va_AO.use (hov _ hfl.2)) hK hq6 hty X (fun y hy => Or.inr (by rw [← hsz]; exact hy)) hn hN hbytes hR.1 hR.2 hd (fun H1 X1 => k p l e s m args below meth c H1 locs ls hfl F hml X1 hl)
theorem mg_ast {XX : State → Prop} {own : Nat} {b : ByteArray} {R : Room} {nL : Nat} {E : ab_E} {a N0 N1 kF mF : Nat} {WF : va_W} {pc pc2 : Nat} {L : List (Nat × Value)} {st : List Value} {ws : va_W} {n cells slots : Nat} {x v n' ci qe : Nat} {r : vw_C} {vs : List Value} {f : Nat → Option Nat} {i : Int32} (hd : decode b pc = .ok (.aastore, 1)) (hp : pc + 1 = pc2) (h6 : qe < 6) (hty : ab_el qe = .object r.1) (q0 : Nat) (he : ws[q0]? = some (x, .inl (ab_cA E qe, n', .inr (.inr (.inr (.inr f)))))) (qk : Nat) (hv : ws[qk]? = some (v, .inr (ci, vs))) (hr : vwCl[ci]? = some r) (hin : vp_in i n') (k : mg_G XX own b R nL E a N0 N1 kF mF WF pc2 L st (ws.set q0 (x, .inl (ab_cA E qe, n', .inr (.inr (.inr (.inr (va_up f i.toNatClampNeg (some v)))))))) n cells slots) : mg_G XX own b R nL E a N0 N1 kF mF WF pc L (.ref v :: .int i :: .ref x :: st) ws n cells slots := by
  intro p l e s m args below meth c H locs ls hfl F hml X hl
  subst hp
  obtain ⟨hx, hb, hown, hts, hNW, hK, -⟩ := id F
  exact nw_ast hx hb hK X q0 qe qk ci he (by rw [ab_ty_at E h6, hty]) hv hr hin hd (fun H1 locs1 X1 => k p l e s m args below meth c H1 locs1 ls hfl F hml X1 hl)
theorem mg_putN {XX : State → Prop} {own : Nat} {b : ByteArray} {R : Room} {nL : Nat} {E : ab_E} {a N0 N1 kF mF : Nat} {WF : va_W} {pc pc2 : Nat} {L : List (Nat × Value)} {st : List Value} {ws : va_W} {n cells slots : Nat} {x idx : Nat} {fs : List Value} {v : Value} (hd : decode b pc = .ok (.putfield idx, 3)) (ho : own < 10) (q0 : Nat) (he : ws[q0]? = some (x, .inr (own, fs))) (f : Nat) (hf : f < (ab_fs own).length) (hlk : Cond.fieldLink (ab_cn own) idx (ab_cn own) (ab_TT own f).2.1 (ab_TT own f).2.2.1 ∈ ab_W0) (hfin : (ab_TT own f).2.2.2 = false) (hdecl : (ab_TT own f).1 = ab_cn own) (hn : narrow (ab_tt own f) v = v) (hfit : fits (ab_tt own f) v = true) (hl9 : f < fs.length) (hp : pc + 3 = pc2)
    (k : mg_G XX own b R nL E a N0 N1 kF mF WF pc2 L st (ws.set q0 (x, .inr (own, fs.set f v))) n cells slots) : mg_G XX own b R nL E a N0 N1 kF mF WF pc L (v :: .ref x :: st) ws n cells slots := by
  intro p l e s m args below meth c H locs ls hfl F hml X hl
  subst hp
  obtain ⟨hx, hb, hown, hts, hNW, hK, hsz, hnm, hr, hlk9⟩ := id F
  exact nw_putN hx hb (T := ab_TT own) (ref := ab_cn own) hts (ab_ww ho) (ab_tt own) (ab_ty_ok ho) (ab_nm_ok ho) hown hK X q0 he (ab_vw ho) f hf (hts _ hlk) (fun y hy => by rw [hdecl] at hy; exact hy) hfin (ab_ty_ok ho f hf) hn hfit hl9 hd (fun H1 locs1 X1 => k p l e s m args below meth c H1 locs1 ls hfl F hml X1 hl)
-- a contract with one thing more at the start
def mg_C (XX : ab_E → Nat → Nat → State → Prop) (y : MethodName) (b : ByteArray) (nL : Nat) (R : Room) (ci : Nat) (fs : List Value) (k : Nat) (WF : ab_E → Nat → Nat → va_W) : Prop :=
  ∀ (l : Launch) (E : ab_E) (a N0 : Nat), l.flags = flags0 → Met l y (Cond.code y b nL none :: ab_W0) R (va_Pc [.ref a] (fun U => nw_B E a N0 ci fs U ∧ XX E a N0 U)) (nw_Q E a N0 (N0 + k) (WF E a N0)) R.cells R.slots (nw_A a N0)
theorem mg_entry {XX : ab_E → Nat → Nat → State → Prop} {own : Nat} {y : MethodName} {b : ByteArray} {nL : Nat} {R : Room} {ci : Nat} {fs : List Value} {k : Nat} {WF : ab_E → Nat → Nat → va_W} (hy : plainName y.cls = true) (hc : y.cls = ab_cn own) (hi : y.name = "<init>") (hnL : 1 ≤ nL)
    (hG : ∀ (E : ab_E) (a N0 : Nat), a < N0 → mg_G (XX E a N0) own b R nL E a N0 (N0 + k) R.cells R.slots (WF E a N0) 0 [(0, .ref a)] [] [(a, .inr (ci, fs))] N0 0 0) : mg_C XX y b nL R ci fs k WF := by
  intro l E a N0 hfl
  refine Met.ofW (cc := b) (maxL := nL) (ret := none) hy rfl ?_
  intro p e s m args below meth c s₁ B hml hv
  obtain ⟨rfl, ⟨hK, hP, hsz, hNW⟩, hXX⟩ := hv
  have hts := atoms_spec (ws := Cond.code y b nL none :: ab_W0) B.pre
  have hown : s.vm.findClass (ab_cn own) = some m.cls := by rw [← hc]; exact findClass_of_methodNamed B.named
  have hin : meth.name = "<init>" := (name_of_methodNamed B.named B.method).1.trans hi
  have hlt : a < N0 := by rw [← hsz]; exact (hP 0 _ rfl).lt
  have hl := lv_entry ([.ref a]) (n := nL) hnL
  rw [lg_entry_eq]
  refine hG E a N0 hlt p l e s m _ below meth c s.heap [] _ ⟨hfl, hXX⟩ ⟨B.exec, B.bytes, hown, fun w hw => hts w (List.mem_cons_of_mem _ hw), hNW, hK, hsz, hin, B.returns, B.notSynchronized⟩ hml ⟨hP, ⟨fun i j p q hp hq h => ?_, fun i q hq => ?_⟩, va_S.rf, hsz⟩ hl
  · have h1 : i < 1 := (List.getElem?_eq_some_iff.mp hp).1
    have h2 : j < 1 := (List.getElem?_eq_some_iff.mp hq).1
    omega
  · match i, hq with
    | 0, hq => cases hq; exact Or.inl rfl
    | i + 1, hq => simp at hq
-- a world looked into
theorem gx_put {α : Type} {x z : α} {S W : List α} : List.set ((x :: S) ++ W) 0 z = z :: (S ++ W) := rfl
theorem gx_get {α : Type} {x y : α} {A r : List α} {n : Nat} (h : A.length = n) : (x :: (A ++ y :: r))[n + 1]? = some y := by
  subst h
  rw [List.getElem?_cons_succ, List.getElem?_append_right (Nat.le_refl _), Nat.sub_self]
  rfl
theorem gx_get2 {α : Type} {x y y1 : α} {A r : List α} {n : Nat} (h : A.length = n) : (x :: (A ++ y1 :: y :: r))[n + 2]? = some y := by
  subst h
  rw [List.getElem?_cons_succ, List.getElem?_append_right (Nat.le_succ _), show A.length.succ - A.length = 1 by omega]
  rfl
theorem gx_getA {α : Type} {x y : α} {A r B : List α} {n : Nat} (h : A.length = n) : ((x :: (A ++ y :: r)) ++ B)[n + 1]? = some y := by
  rw [List.cons_append, List.append_assoc, List.cons_append]
  exact gx_get h
theorem gx_getA2 {α : Type} {x y y1 : α} {A r B : List α} {n : Nat} (h : A.length = n) : ((x :: (A ++ y1 :: y :: r)) ++ B)[n + 2]? = some y := by
  rw [List.cons_append, List.append_assoc, List.cons_append, List.cons_append]
  exact gx_get2 h
theorem gx_setA {α : Type} {x y z : α} {A r B : List α} {n : Nat} (h : A.length = n) : ((x :: (A ++ y :: r)) ++ B).set (n + 1) z = x :: (A ++ z :: (r ++ B)) := by
  subst h
  rw [List.cons_append, List.append_assoc, List.cons_append, List.set_cons_succ, List.set_append_right _ _ (Nat.le_refl _), Nat.sub_self, List.set_cons_zero]
theorem gx_setA2 {α : Type} {x y y1 z : α} {A r B : List α} {n : Nat} (h : A.length = n) : ((x :: (A ++ y1 :: y :: r)) ++ B).set (n + 2) z = x :: (A ++ y1 :: z :: (r ++ B)) := by
  subst h
  rw [List.cons_append, List.append_assoc, List.cons_append, List.cons_append, List.set_cons_succ, List.set_append_right _ _ (Nat.le_succ _), show A.length.succ - A.length = 1 by omega]
  rfl
theorem gx_last {α : Type} {A r : List α} {y : α} : (A ++ y :: r)[A.length]? = some y := by
  rw [List.getElem?_append_right (Nat.le_refl _), Nat.sub_self]
  rfl
/-! the constructor of SoulRaffle (wip/gen/ctor8.py) -/
def XX8 (s : State) : Prop := va_AO "SoulRaffle$Standing" s ∧ va_AO "SoulRaffle$Seen" s
def s8_1 (E : ab_E) (N0 : Nat) : va_W := nW6 E (N0) (N0 + 1)
def s8_2 (E : ab_E) (N0 : Nat) : va_W := s8_1 E N0 ++ nW2 E (N0 + 5) (N0 + 5 + 1)
def s8_3 (E : ab_E) (N0 : Nat) : va_W := s8_2 E N0 ++ nW2 E (N0 + 17) (N0 + 17 + 1)
def s8_4 (E : ab_E) (N0 : Nat) : va_W := s8_3 E N0 ++ nW7 E (N0 + 29) (N0 + 29 + 1)
def s8_5 (E : ab_E) (N0 : Nat) : va_W := s8_4 E N0 ++ nW7 E (N0 + 33) (N0 + 33 + 1)
def s8_6 (E : ab_E) (N0 : Nat) : va_W := s8_5 E N0 ++ nW5 E (N0 + 37) (N0 + 37 + 1)
def s8_7 (E : ab_E) (N0 : Nat) : va_W := s8_6 E N0 ++ nW5 E (N0 + 41) (N0 + 41 + 1)
def s8_8 (E : ab_E) (N0 : Nat) : va_W := s8_7 E N0 ++ nW4 E (N0 + 45) (N0 + 45 + 1)
theorem s8_len (E : ab_E) (N0 : Nat) : (s8_8 E N0).length = 49 := rfl
def qfn (b0 w k : Nat) : Nat → Option Nat := fun j => if j < k then some (b0 + w * j) else none
theorem qfn_up {b0 w k : Nat} (hk : k < 100) : va_up (qfn b0 w k) (nI k).toNatClampNeg (some (b0 + w * k)) = qfn b0 w (k + 1) := by
  have e : (nI k).toNatClampNeg = k := nI_clamp (by omega)
  rw [e]
  funext j
  simp only [va_up, qfn]
  by_cases h1 : j = k
  · subst h1
    simp
  · by_cases h2 : j < k
    · simp [h1, h2, show j < k + 1 by omega]
    · simp [h1, h2, show ¬ j < k + 1 by omega]
theorem qfn_0 (b0 w : Nat) : qfn b0 w 0 = fun _ => none := funext fun j => by simp [qfn]
def pS8 (E : ab_E) (N0 : Nat) : Nat → va_W
  | 0 => []
  | k + 1 => pS8 E N0 k ++ nW5 E (N0 + 50 + 4 * k) (N0 + 50 + 4 * k + 1)
theorem pS8_len (E : ab_E) (N0 : Nat) : ∀ k, (pS8 E N0 k).length = 4 * k
  | 0 => rfl
  | k + 1 => by
    rw [pS8, List.length_append, pS8_len E N0 k]
    rfl
def mS8 (E : ab_E) (N0 : Nat) : Nat → va_W
  | 0 => []
  | k + 1 => mS8 E N0 k ++ (nW5 E (N0 + 117 + 8 * k) (N0 + 117 + 8 * k + 1) ++ nW4 E (N0 + 121 + 8 * k) (N0 + 121 + 8 * k + 1))
theorem mS8_len (E : ab_E) (N0 : Nat) : ∀ k, (mS8 E N0 k).length = 8 * k
  | 0 => rfl
  | k + 1 => by
    rw [mS8, List.length_append, mS8_len E N0 k]
    rfl
def w8a (E : ab_E) (a N0 k : Nat) : va_W := (a, .inr (8, [.ref (N0), .ref (N0 + 5), .ref (N0 + 17), .ref (N0 + 29), .ref (N0 + 33), .ref (N0 + 37), .ref (N0 + 41), .ref (N0 + 45), .ref (N0 + 49), .int 0, .int 0, .null, .null, .null, .null, .null])) :: (s8_8 E N0 ++ ((N0 + 49, .inl (ab_cA E 4, 16, .inr (.inr (.inr (.inr (qfn (N0 + 50) 4 k)))))) :: pS8 E N0 k))
theorem w8a_len (E : ab_E) (a N0 k : Nat) : (w8a E a N0 k).length = 51 + 4 * k := by
  unfold w8a
  rw [List.length_cons, List.length_append, s8_len, List.length_cons, pS8_len]
  omega
def s8b (E : ab_E) (N0 : Nat) : va_W := s8_8 E N0 ++ ((N0 + 49, .inl (ab_cA E 4, 16, .inr (.inr (.inr (.inr (qfn (N0 + 50) 4 16)))))) :: pS8 E N0 16)
theorem s8b_len (E : ab_E) (N0 : Nat) : (s8b E N0).length = 114 := by
  unfold s8b
  rw [List.length_append, s8_len, List.length_cons, pS8_len]
def m8 (E : ab_E) (N0 i j : Nat) (r : va_W) : va_W := (N0 + 114, .inl (ab_cA E 4, 4, .inr (.inr (.inr (.inr (qfn (N0 + 117) 8 i)))))) :: (N0 + 115, .inl (ab_cA E 5, 4, .inr (.inr (.inr (.inr (qfn (N0 + 121) 8 j)))))) :: (N0 + 116, .inl (ab_cA E 3, 4, .inl (fun _ => 0))) :: r
def w8b (E : ab_E) (a N0 k : Nat) : va_W := (a, .inr (8, [.ref (N0), .ref (N0 + 5), .ref (N0 + 17), .ref (N0 + 29), .ref (N0 + 33), .ref (N0 + 37), .ref (N0 + 41), .ref (N0 + 45), .ref (N0 + 49), .int 0, .int 0, .ref (N0 + 114), .ref (N0 + 115), .ref (N0 + 116), .null, .null])) :: (s8b E N0 ++ m8 E N0 k k (mS8 E N0 k))
def w8c (E : ab_E) (a N0 k : Nat) : va_W := (a, .inr (8, [.ref (N0), .ref (N0 + 5), .ref (N0 + 17), .ref (N0 + 29), .ref (N0 + 33), .ref (N0 + 37), .ref (N0 + 41), .ref (N0 + 45), .ref (N0 + 49), .int 0, .int 0, .ref (N0 + 114), .ref (N0 + 115), .ref (N0 + 116), .null, .null])) :: (s8b E N0 ++ m8 E N0 (k + 1) k (mS8 E N0 k ++ nW5 E (N0 + 117 + 8 * k) (N0 + 117 + 8 * k + 1)))
theorem w8b_len (E : ab_E) (a N0 k : Nat) : (w8b E a N0 k).length = 118 + 8 * k := by
  unfold w8b m8
  rw [List.length_cons, List.length_append, s8b_len, List.length_cons, List.length_cons, List.length_cons, mS8_len]
  omega
theorem w8c_len (E : ab_E) (a N0 k : Nat) : (w8c E a N0 k).length = 122 + 8 * k := by
  unfold w8c m8
  rw [List.length_cons, List.length_append, s8b_len, List.length_cons, List.length_cons, List.length_cons, List.length_append, mS8_len]
  show 114 + (8 * k + 4 + 1 + 1 + 1) + 1 = _
  omega
def nW8 (E : ab_E) (a N0 : Nat) : va_W := (a, .inr (8, [.ref (N0), .ref (N0 + 5), .ref (N0 + 17), .ref (N0 + 29), .ref (N0 + 33), .ref (N0 + 37), .ref (N0 + 41), .ref (N0 + 45), .ref (N0 + 49), .int 0, .int 0, .ref (N0 + 114), .ref (N0 + 115), .ref (N0 + 116), .ref (N0 + 149), .ref (N0 + 153)])) :: (s8b E N0 ++ m8 E N0 4 4 (mS8 E N0 4 ++ (nW3 E (N0 + 149) (N0 + 149 + 1) ++ nW0 E (N0 + 153) (N0 + 153 + 1))))
theorem nf8 : ∀ j, j < (ab_fs 8).length → defaultValue (ab_tt 8 j) = vp_V ([.null, .null, .null, .null, .null, .null, .null, .null, .null, .int 0, .int 0, .null, .null, .null, .null, .null] : List Value) j := fun j hj => match j, hj with
  | 0, _ => rfl
  | 1, _ => rfl
  | 2, _ => rfl
  | 3, _ => rfl
  | 4, _ => rfl
  | 5, _ => rfl
  | 6, _ => rfl
  | 7, _ => rfl
  | 8, _ => rfl
  | 9, _ => rfl
  | 10, _ => rfl
  | 11, _ => rfl
  | 12, _ => rfl
  | 13, _ => rfl
  | 14, _ => rfl
  | 15, _ => rfl
  | n + 16, h => absurd h (by show ¬ (n + 16 < 16); omega)
theorem nl8e {E : ab_E} {a N0 : Nat} {L : List (Nat × Value)} (hL : L = [(1, .int (nI 4)), (0, .ref a)]) : mg_G XX8 8 cX9_init { frames := 3, cells := 156, slots := 9852, locals := 140 } 2 E a N0 (N0 + 156) 156 9852 (nW8 E a N0) 206 L [] (w8b E a N0 4) (N0 + 149) 149 8028 := by
  subst hL
  refine mg_al0 (pc2 := 207) (x := a) (by decide +kernel) rfl 1 rfl ?_
  refine mg_new (ci := 3) (fs := [.null, .null, .null, .int 0]) (idx := 68) (pc2 := 210) (by decide +kernel) (by decide) (by decide +kernel) (by decide +kernel) (by decide +kernel) nf3 ⟨Nat.le_of_ble_eq_true rfl, Nat.le_of_ble_eq_true rfl⟩ rfl ?_
  refine mg_dup (pc2 := 211) (by decide +kernel) rfl rfl ?_
  refine mg_call (k' := 3) (idx := 70) (pc2 := 214) nC3 (by decide +kernel) (by decide +kernel) (by decide +kernel) rfl ⟨by decide, by decide⟩ (by decide +kernel) (Or.inr (by unfold ab_ln'; decide +kernel)) (by decide +kernel) (Nat.le_of_ble_eq_true rfl) ⟨by decide, by decide⟩ ⟨Nat.le_of_ble_eq_true rfl, Nat.le_of_ble_eq_true rfl⟩ rfl ?_
  refine mg_put (idx := 71) (pc2 := 217) (by decide +kernel) (by decide) 0 rfl 14 (by decide) (by decide +kernel) rfl rfl rfl rfl (by show 14 < 16; decide) rfl ?_
  refine mg_eq (ws' := (a, .inr (8, [.ref (N0), .ref (N0 + 5), .ref (N0 + 17), .ref (N0 + 29), .ref (N0 + 33), .ref (N0 + 37), .ref (N0 + 41), .ref (N0 + 45), .ref (N0 + 49), .int 0, .int 0, .ref (N0 + 114), .ref (N0 + 115), .ref (N0 + 116), .ref (N0 + 149), .null])) :: (s8b E N0 ++ m8 E N0 4 4 (mS8 E N0 4 ++ nW3 E (N0 + 149) (N0 + 149 + 1)))) (n' := N0 + 153) (cells' := 153) (slots' := 8050) (by unfold w8b m8; simp only [List.cons_append, List.append_assoc, List.set_cons_zero]; rfl) rfl rfl rfl ?_
  refine mg_al0 (pc2 := 218) (x := a) (by decide +kernel) rfl 1 rfl ?_
  refine mg_new (ci := 0) (fs := [.int 0, .int 0, .null, .null]) (idx := 75) (pc2 := 221) (by decide +kernel) (by decide) (by decide +kernel) (by decide +kernel) (by decide +kernel) nf0 ⟨Nat.le_of_ble_eq_true rfl, Nat.le_of_ble_eq_true rfl⟩ rfl ?_
  refine mg_dup (pc2 := 222) (by decide +kernel) rfl rfl ?_
  refine mg_call (k' := 2) (idx := 77) (pc2 := 225) nC0 (by decide +kernel) (by decide +kernel) (by decide +kernel) rfl ⟨by decide, by decide⟩ (by decide +kernel) (Or.inr (by unfold ab_ln'; decide +kernel)) (by decide +kernel) (Nat.le_of_ble_eq_true rfl) ⟨by decide, by decide⟩ ⟨Nat.le_of_ble_eq_true rfl, Nat.le_of_ble_eq_true rfl⟩ rfl ?_
  refine mg_put (idx := 78) (pc2 := 228) (by decide +kernel) (by decide) 0 rfl 15 (by decide) (by decide +kernel) rfl rfl rfl rfl (by show 15 < 16; decide) rfl ?_
  exact mg_vret (st := []) (by decide +kernel) rfl rfl rfl (by unfold nW8 m8; simp only [List.cons_append, List.append_assoc, List.set_cons_zero]; rfl)
theorem nl8b {E : ab_E} {a N0 : Nat} : ∀ d k, k + d = 4 → mg_G XX8 8 cX9_init { frames := 3, cells := 156, slots := 9852, locals := 140 } 2 E a N0 (N0 + 156) 156 9852 (nW8 E a N0) 156 [(1, .int (nI k)), (0, .ref a)] [] (w8b E a N0 k) (N0 + 117 + 8 * k) (117 + 8 * k) (7816 + 53 * k) := by
  intro d
  induction d with
  | zero =>
    intro k hk
    have ek : k = 4 := by omega
    subst ek
    refine mg_il1 (pc2 := 157) (by decide +kernel) rfl 0 rfl ?_
    refine mg_al0 (pc2 := 158) (x := a) (by decide +kernel) rfl 1 rfl ?_
    refine mg_get (idx := 57) (pc2 := 161) (by decide +kernel) (by decide) 0 rfl 11 (by decide) (by decide +kernel) rfl rfl rfl ?_
    refine mg_alen (e := 4) (v := 4) (pc2 := 162) (by decide +kernel) rfl 115 (gx_get (n := 114) (s8b_len E N0)) (by decide) rfl ?_
    refine mg_ige1 (tgt := 206) (off := 44) (by decide +kernel) (by decide) (by decide +kernel) ?_
    exact nl8e rfl
  | succ d ih =>
    intro k hk
    have hk4 : k < 4 := by omega
    refine mg_il1 (pc2 := 157) (by decide +kernel) rfl 0 rfl ?_
    refine mg_al0 (pc2 := 158) (x := a) (by decide +kernel) rfl 1 rfl ?_
    refine mg_get (idx := 57) (pc2 := 161) (by decide +kernel) (by decide) 0 rfl 11 (by decide) (by decide +kernel) rfl rfl rfl ?_
    refine mg_alen (e := 4) (v := 4) (pc2 := 162) (by decide +kernel) rfl 115 (gx_get (n := 114) (s8b_len E N0)) (by decide) rfl ?_
    refine mg_ige0 (tgt := 206) (off := 44) (pc2 := 165) (by decide +kernel) (by decide) (show nI k < nI 4 from (nI_ltI (by omega) (by decide)).mpr (by omega)) rfl ?_
    refine mg_il1 (pc2 := 166) (by decide +kernel) rfl 0 rfl ?_
    refine mg_al0 (pc2 := 167) (x := a) (by decide +kernel) rfl 1 rfl ?_
    refine mg_get (idx := 60) (pc2 := 170) (by decide +kernel) (by decide) 0 rfl 12 (by decide) (by decide +kernel) rfl rfl rfl ?_
    refine mg_alen (e := 5) (v := 4) (pc2 := 171) (by decide +kernel) rfl 116 (gx_get2 (n := 114) (s8b_len E N0)) (by decide) rfl ?_
    refine mg_ige0 (tgt := 206) (off := 35) (pc2 := 174) (by decide +kernel) (by decide) (show nI k < nI 4 from (nI_ltI (by omega) (by decide)).mpr (by omega)) rfl ?_
    refine mg_al0 (pc2 := 175) (x := a) (by decide +kernel) rfl 1 rfl ?_
    refine mg_get (idx := 57) (pc2 := 178) (by decide +kernel) (by decide) 0 rfl 11 (by decide) (by decide +kernel) rfl rfl rfl ?_
    refine mg_il1 (pc2 := 179) (by decide +kernel) rfl 0 rfl ?_
    refine mg_new (ci := 5) (fs := [.null, .null, .null, .long 0, .int 0]) (idx := 36) (pc2 := 182) (by decide +kernel) (by decide) (by decide +kernel) (by decide +kernel) (by decide +kernel) nf5 ⟨by show 117 + 8 * k + 1 ≤ 156; omega, by show 7816 + 53 * k + 5 ≤ 9852; omega⟩ rfl ?_
    refine mg_dup (pc2 := 183) (by decide +kernel) rfl rfl ?_
    refine mg_call (k' := 3) (idx := 38) (pc2 := 186) nC5 (by decide +kernel) (by decide +kernel) (by decide +kernel) rfl ⟨by decide, by decide⟩ (by decide +kernel) (Or.inr (by unfold ab_ln'; decide +kernel)) (by decide +kernel) (Nat.le_of_ble_eq_true rfl) ⟨by decide, by decide⟩ ⟨by show 117 + 8 * k + 1 + 3 ≤ 156; omega, by show 7816 + 53 * k + 5 + 20 ≤ 9852; omega⟩ rfl ?_
    refine mg_ast (qe := 4) (ci := 5) (r := ("SoulRaffle$Standing", ab_TT 5, 5)) (vs := [.ref (N0 + 117 + 8 * k + 1), .ref (N0 + 117 + 8 * k + 1 + 1), .ref (N0 + 117 + 8 * k + 1 + 2), .long 0, .int 0]) (pc2 := 187) (by decide +kernel) rfl (by decide) rfl 115 (gx_getA (n := 114) (s8b_len E N0)) (w8b E a N0 k).length gx_last rfl (vp_in_nI hk4 (by decide)) ?_
    refine mg_eq (ws' := w8c E a N0 k) (n' := N0 + 121 + 8 * k) (cells' := 117 + 8 * k + 4) (slots' := 7816 + 53 * k + 25) (by rw [qfn_up (show k < 100 by omega)]; exact gx_setA (n := 114) (s8b_len E N0)) (by show N0 + 117 + 8 * k + 1 + 3 = _; omega) (by show 117 + 8 * k + 1 + 3 = _; omega) (by show 7816 + 53 * k + 5 + 20 = _; omega) ?_
    refine mg_al0 (pc2 := 188) (x := a) (by decide +kernel) rfl 1 rfl ?_
    refine mg_get (idx := 60) (pc2 := 191) (by decide +kernel) (by decide) 0 rfl 12 (by decide) (by decide +kernel) rfl rfl rfl ?_
    refine mg_il1 (pc2 := 192) (by decide +kernel) rfl 0 rfl ?_
    refine mg_new (ci := 4) (fs := [.null, .null, .null, .int 0]) (idx := 46) (pc2 := 195) (by decide +kernel) (by decide) (by decide +kernel) (by decide +kernel) (by decide +kernel) nf4 ⟨by show 117 + 8 * k + 4 + 1 ≤ 156; omega, by show 7816 + 53 * k + 25 + 4 ≤ 9852; omega⟩ rfl ?_
    refine mg_dup (pc2 := 196) (by decide +kernel) rfl rfl ?_
    refine mg_call (k' := 3) (idx := 48) (pc2 := 199) nC4 (by decide +kernel) (by decide +kernel) (by decide +kernel) rfl ⟨by decide, by decide⟩ (by decide +kernel) (Or.inr (by unfold ab_ln'; decide +kernel)) (by decide +kernel) (Nat.le_of_ble_eq_true rfl) ⟨by decide, by decide⟩ ⟨by show 117 + 8 * k + 4 + 1 + 3 ≤ 156; omega, by show 7816 + 53 * k + 25 + 4 + 24 ≤ 9852; omega⟩ rfl ?_
    refine mg_ast (qe := 5) (ci := 4) (r := ("SoulRaffle$Seen", ab_TT 4, 4)) (vs := [.ref (N0 + 121 + 8 * k + 1), .ref (N0 + 121 + 8 * k + 1 + 1), .ref (N0 + 121 + 8 * k + 1 + 2), .int 0]) (pc2 := 200) (by decide +kernel) rfl (by decide) rfl 116 (gx_getA2 (n := 114) (s8b_len E N0)) (w8c E a N0 k).length gx_last rfl (vp_in_nI hk4 (by decide)) ?_
    refine mg_inc (pc2 := 203) (v := nI (k + 1)) (L' := [(1, .int (nI (k + 1))), (0, .ref a)]) (by decide +kernel) rfl (by decide) 0 rfl (nI_1 k) rfl ?_
    refine mg_goto (off := -47) (tgt := 156) (by decide +kernel) (by decide) ?_
    refine mg_eq (ws' := w8b E a N0 (k + 1)) ?_ (by show N0 + 121 + 8 * k + 1 + 3 = _; omega) (by show 117 + 8 * k + 4 + 1 + 3 = _; omega) (by show 7816 + 53 * k + 25 + 4 + 24 = _; omega) (ih (k + 1) (by omega))
    rw [qfn_up (show k < 100 by omega)]
    refine (gx_setA2 (n := 114) (s8b_len E N0)).trans ?_
    show _ = (a, _) :: (s8b E N0 ++ m8 E N0 (k + 1) (k + 1) (mS8 E N0 k ++ (nW5 E (N0 + 117 + 8 * k) (N0 + 117 + 8 * k + 1) ++ nW4 E (N0 + 121 + 8 * k) (N0 + 121 + 8 * k + 1))))
    rw [← List.append_assoc (mS8 E N0 k)]
    rfl
theorem nl8m {E : ab_E} {a N0 : Nat} {L : List (Nat × Value)} (hL : L = [(1, .int (nI 16)), (0, .ref a)]) : mg_G XX8 8 cX9_init { frames := 3, cells := 156, slots := 9852, locals := 140 } 2 E a N0 (N0 + 156) 156 9852 (nW8 E a N0) 131 L [] (w8a E a N0 16) (N0 + 114) 114 7804 := by
  subst hL
  refine mg_al0 (pc2 := 132) (x := a) (by decide +kernel) rfl 1 rfl ?_
  refine mg_ic (v := 4) (x := 4) (pc2 := 133) (by decide +kernel) (by decide +kernel) rfl ?_
  refine mg_anew (C := "SoulRaffle$Standing") (q := 4) (idx := 36) (N' := 4) (pc2 := 136) (by decide +kernel) rfl (by decide) rfl (by decide +kernel) (fun _ h => h.1) (by decide +kernel) (by decide +kernel) (Nat.le_of_ble_eq_true rfl) ⟨Nat.le_of_ble_eq_true rfl, Nat.le_of_ble_eq_true rfl⟩ ?_
  refine mg_put (idx := 57) (pc2 := 139) (by decide +kernel) (by decide) 0 rfl 11 (by decide) (by decide +kernel) rfl rfl rfl rfl (by show 11 < 16; decide) rfl ?_
  refine mg_al0 (pc2 := 140) (x := a) (by decide +kernel) rfl 1 rfl ?_
  refine mg_ic (v := 4) (x := 4) (pc2 := 141) (by decide +kernel) (by decide +kernel) rfl ?_
  refine mg_anew (C := "SoulRaffle$Seen") (q := 5) (idx := 46) (N' := 4) (pc2 := 144) (by decide +kernel) rfl (by decide) rfl (by decide +kernel) (fun _ h => h.2) (by decide +kernel) (by decide +kernel) (Nat.le_of_ble_eq_true rfl) ⟨Nat.le_of_ble_eq_true rfl, Nat.le_of_ble_eq_true rfl⟩ ?_
  refine mg_put (idx := 60) (pc2 := 147) (by decide +kernel) (by decide) 0 rfl 12 (by decide) (by decide +kernel) rfl rfl rfl rfl (by show 12 < 16; decide) rfl ?_
  refine mg_al0 (pc2 := 148) (x := a) (by decide +kernel) rfl 1 rfl ?_
  refine mg_ic (v := 4) (x := 4) (pc2 := 149) (by decide +kernel) (by decide +kernel) rfl ?_
  refine mg_arr (N' := 4) (a0 := (4, .inl (fun _ => 0))) (pc2 := 151) (by decide +kernel) 3 (by decide) rfl (by decide +kernel) (nz3 4) (by decide +kernel) (by decide +kernel) (Nat.le_of_ble_eq_true rfl) ⟨Nat.le_of_ble_eq_true rfl, Nat.le_of_ble_eq_true rfl⟩ rfl ?_
  refine mg_put (idx := 64) (pc2 := 154) (by decide +kernel) (by decide) 0 rfl 13 (by decide) (by decide +kernel) rfl rfl rfl rfl (by show 13 < 16; decide) rfl ?_
  refine mg_ic (v := 0) (x := 0) (pc2 := 155) (by decide +kernel) (by decide +kernel) rfl ?_
  refine mg_is1 (pc2 := 156) (L' := [(1, .int (nI 0)), (0, .ref a)]) (by decide +kernel) rfl (by decide) rfl ?_
  refine mg_eq (ws' := w8b E a N0 0) (n' := N0 + 117 + 8 * 0) (cells' := 117 + 8 * 0) (slots' := 7816 + 53 * 0) ?_ rfl rfl rfl (nl8b 4 0 rfl)
  unfold w8a w8b m8 s8b
  rw [qfn_0, qfn_0]
  simp only [List.cons_append, List.append_assoc, List.set_cons_zero]
  rfl
theorem nl8a {E : ab_E} {a N0 : Nat} : ∀ d k, k + d = 16 → mg_G XX8 8 cX9_init { frames := 3, cells := 156, slots := 9852, locals := 140 } 2 E a N0 (N0 + 156) 156 9852 (nW8 E a N0) 103 [(1, .int (nI k)), (0, .ref a)] [] (w8a E a N0 k) (N0 + 50 + 4 * k) (50 + 4 * k) (7404 + 25 * k) := by
  intro d
  induction d with
  | zero =>
    intro k hk
    have ek : k = 16 := by omega
    subst ek
    refine mg_il1 (pc2 := 104) (by decide +kernel) rfl 0 rfl ?_
    refine mg_al0 (pc2 := 105) (x := a) (by decide +kernel) rfl 1 rfl ?_
    refine mg_get (idx := 53) (pc2 := 108) (by decide +kernel) (by decide) 0 rfl 8 (by decide) (by decide +kernel) rfl rfl rfl ?_
    refine mg_alen (e := 4) (v := 16) (pc2 := 109) (by decide +kernel) rfl 50 (gx_get (n := 49) (s8_len E N0)) (by decide) rfl ?_
    refine mg_ige1 (tgt := 131) (off := 22) (by decide +kernel) (by decide) (by decide +kernel) ?_
    exact nl8m rfl
  | succ d ih =>
    intro k hk
    have hk16 : k < 16 := by omega
    refine mg_il1 (pc2 := 104) (by decide +kernel) rfl 0 rfl ?_
    refine mg_al0 (pc2 := 105) (x := a) (by decide +kernel) rfl 1 rfl ?_
    refine mg_get (idx := 53) (pc2 := 108) (by decide +kernel) (by decide) 0 rfl 8 (by decide) (by decide +kernel) rfl rfl rfl ?_
    refine mg_alen (e := 4) (v := 16) (pc2 := 109) (by decide +kernel) rfl 50 (gx_get (n := 49) (s8_len E N0)) (by decide) rfl ?_
    refine mg_ige0 (tgt := 131) (off := 22) (pc2 := 112) (by decide +kernel) (by decide) (show nI k < nI 16 from (nI_ltI (by omega) (by decide)).mpr (by omega)) rfl ?_
    refine mg_al0 (pc2 := 113) (x := a) (by decide +kernel) rfl 1 rfl ?_
    refine mg_get (idx := 53) (pc2 := 116) (by decide +kernel) (by decide) 0 rfl 8 (by decide) (by decide +kernel) rfl rfl rfl ?_
    refine mg_il1 (pc2 := 117) (by decide +kernel) rfl 0 rfl ?_
    refine mg_new (ci := 5) (fs := [.null, .null, .null, .long 0, .int 0]) (idx := 36) (pc2 := 120) (by decide +kernel) (by decide) (by decide +kernel) (by decide +kernel) (by decide +kernel) nf5 ⟨by show 50 + 4 * k + 1 ≤ 156; omega, by show 7404 + 25 * k + 5 ≤ 9852; omega⟩ rfl ?_
    refine mg_dup (pc2 := 121) (by decide +kernel) rfl rfl ?_
    refine mg_call (k' := 3) (idx := 38) (pc2 := 124) nC5 (by decide +kernel) (by decide +kernel) (by decide +kernel) rfl ⟨by decide, by decide⟩ (by decide +kernel) (Or.inr (by unfold ab_ln'; decide +kernel)) (by decide +kernel) (Nat.le_of_ble_eq_true rfl) ⟨by decide, by decide⟩ ⟨by show 50 + 4 * k + 1 + 3 ≤ 156; omega, by show 7404 + 25 * k + 5 + 20 ≤ 9852; omega⟩ rfl ?_
    refine mg_ast (qe := 4) (ci := 5) (r := ("SoulRaffle$Standing", ab_TT 5, 5)) (vs := [.ref (N0 + 50 + 4 * k + 1), .ref (N0 + 50 + 4 * k + 1 + 1), .ref (N0 + 50 + 4 * k + 1 + 2), .long 0, .int 0]) (pc2 := 125) (by decide +kernel) rfl (by decide) rfl 50 (gx_getA (n := 49) (s8_len E N0)) (w8a E a N0 k).length gx_last rfl (vp_in_nI hk16 (by decide)) ?_
    refine mg_inc (pc2 := 128) (v := nI (k + 1)) (L' := [(1, .int (nI (k + 1))), (0, .ref a)]) (by decide +kernel) rfl (by decide) 0 rfl (nI_1 k) rfl ?_
    refine mg_goto (off := -25) (tgt := 103) (by decide +kernel) (by decide) ?_
    refine mg_eq (ws' := w8a E a N0 (k + 1)) ?_ (by show N0 + 50 + 4 * k + 1 + 3 = _; omega) (by show 50 + 4 * k + 1 + 3 = _; omega) (by show 7404 + 25 * k + 5 + 20 = _; omega) (ih (k + 1) (by omega))
    rw [qfn_up (show k < 100 by omega)]
    exact gx_setA (n := 49) (s8_len E N0)
theorem nC8 : mg_C (fun _ _ _ => XX8) yX9_init cX9_init 2 { frames := 3, cells := 156, slots := 9852, locals := 140 } 8 [.null, .null, .null, .null, .null, .null, .null, .null, .null, .int 0, .int 0, .null, .null, .null, .null, .null] 156 nW8 := by
  refine mg_entry (own := 8) (by decide +kernel) rfl rfl (by decide) (fun E a N0 hlt => ?_)
  refine mg_al0 (pc2 := 1) (x := a) (by decide +kernel) rfl 0 rfl ?_
  refine mg_obj (idx := 1) (pc2 := 4) (by decide +kernel) ⟨by decide +kernel, by decide +kernel, by decide +kernel⟩ ⟨by decide, by decide⟩ rfl ?_
  refine mg_al0 (pc2 := 5) (x := a) (by decide +kernel) rfl 0 rfl ?_
  refine mg_new (ci := 6) (fs := [.null, .int 0, .null, .null, .null, .int 0, .int 0, .int 0, .int 0, .long 0, .int 0]) (idx := 7) (pc2 := 8) (by decide +kernel) (by decide) (by decide +kernel) (by decide +kernel) (by decide +kernel) nf6 ⟨Nat.le_of_ble_eq_true rfl, Nat.le_of_ble_eq_true rfl⟩ rfl ?_
  refine mg_dup (pc2 := 9) (by decide +kernel) rfl rfl ?_
  refine mg_call (k' := 4) (idx := 9) (pc2 := 12) nC6 (by decide +kernel) (by decide +kernel) (by decide +kernel) rfl ⟨by decide, by decide⟩ (by decide +kernel) (Or.inr (by unfold ab_ln'; decide +kernel)) (by decide +kernel) (Nat.le_of_ble_eq_true rfl) ⟨by decide, by decide⟩ ⟨Nat.le_of_ble_eq_true rfl, Nat.le_of_ble_eq_true rfl⟩ rfl ?_
  refine mg_put (idx := 10) (pc2 := 15) (by decide +kernel) (by decide) 0 rfl 0 (by decide) (by decide +kernel) rfl rfl rfl rfl (by show 0 < 16; decide) rfl ?_
  refine mg_eq (ws' := (a, .inr (8, [.ref (N0), .null, .null, .null, .null, .null, .null, .null, .null, .int 0, .int 0, .null, .null, .null, .null, .null])) :: s8_1 E N0) (n' := N0 + 5) (cells' := 5) (slots' := 4014) gx_put rfl rfl rfl ?_
  refine mg_al0 (pc2 := 16) (x := a) (by decide +kernel) rfl 0 rfl ?_
  refine mg_new (ci := 2) (fs := [.int 0, .int 0, .null, .null, .null, .null, .null, .null, .null, .int 0, .int 0, .int 0, .null, .null]) (idx := 16) (pc2 := 19) (by decide +kernel) (by decide) (by decide +kernel) (by decide +kernel) (by decide +kernel) nf2 ⟨Nat.le_of_ble_eq_true rfl, Nat.le_of_ble_eq_true rfl⟩ rfl ?_
  refine mg_dup (pc2 := 20) (by decide +kernel) rfl rfl ?_
  refine mg_call (k' := 11) (idx := 18) (pc2 := 23) nC2 (by decide +kernel) (by decide +kernel) (by decide +kernel) rfl ⟨by decide, by decide⟩ (by decide +kernel) (Or.inr (by unfold ab_ln'; decide +kernel)) (by decide +kernel) (Nat.le_of_ble_eq_true rfl) ⟨by decide, by decide⟩ ⟨Nat.le_of_ble_eq_true rfl, Nat.le_of_ble_eq_true rfl⟩ rfl ?_
  refine mg_putN (idx := 19) (pc2 := 26) (by decide +kernel) (by decide) 0 rfl 1 (by decide) (by decide +kernel) rfl rfl rfl rfl (by show 1 < 16; decide) rfl ?_
  refine mg_eq (ws' := (a, .inr (8, [.ref (N0), .ref (N0 + 5), .null, .null, .null, .null, .null, .null, .null, .int 0, .int 0, .null, .null, .null, .null, .null])) :: s8_2 E N0) (n' := N0 + 17) (cells' := 17) (slots' := 5538) gx_put rfl rfl rfl ?_
  refine mg_al0 (pc2 := 27) (x := a) (by decide +kernel) rfl 0 rfl ?_
  refine mg_new (ci := 2) (fs := [.int 0, .int 0, .null, .null, .null, .null, .null, .null, .null, .int 0, .int 0, .int 0, .null, .null]) (idx := 16) (pc2 := 30) (by decide +kernel) (by decide) (by decide +kernel) (by decide +kernel) (by decide +kernel) nf2 ⟨Nat.le_of_ble_eq_true rfl, Nat.le_of_ble_eq_true rfl⟩ rfl ?_
  refine mg_dup (pc2 := 31) (by decide +kernel) rfl rfl ?_
  refine mg_call (k' := 11) (idx := 18) (pc2 := 34) nC2 (by decide +kernel) (by decide +kernel) (by decide +kernel) rfl ⟨by decide, by decide⟩ (by decide +kernel) (Or.inr (by unfold ab_ln'; decide +kernel)) (by decide +kernel) (Nat.le_of_ble_eq_true rfl) ⟨by decide, by decide⟩ ⟨Nat.le_of_ble_eq_true rfl, Nat.le_of_ble_eq_true rfl⟩ rfl ?_
  refine mg_putN (idx := 23) (pc2 := 37) (by decide +kernel) (by decide) 0 rfl 2 (by decide) (by decide +kernel) rfl rfl rfl rfl (by show 2 < 16; decide) rfl ?_
  refine mg_eq (ws' := (a, .inr (8, [.ref (N0), .ref (N0 + 5), .ref (N0 + 17), .null, .null, .null, .null, .null, .null, .int 0, .int 0, .null, .null, .null, .null, .null])) :: s8_3 E N0) (n' := N0 + 29) (cells' := 29) (slots' := 7062) gx_put rfl rfl rfl ?_
  refine mg_al0 (pc2 := 38) (x := a) (by decide +kernel) rfl 0 rfl ?_
  refine mg_new (ci := 7) (fs := [.int 0, .null, .null, .null]) (idx := 26) (pc2 := 41) (by decide +kernel) (by decide) (by decide +kernel) (by decide +kernel) (by decide +kernel) nf7 ⟨Nat.le_of_ble_eq_true rfl, Nat.le_of_ble_eq_true rfl⟩ rfl ?_
  refine mg_dup (pc2 := 42) (by decide +kernel) rfl rfl ?_
  refine mg_call (k' := 3) (idx := 28) (pc2 := 45) nC7 (by decide +kernel) (by decide +kernel) (by decide +kernel) rfl ⟨by decide, by decide⟩ (by decide +kernel) (Or.inr (by unfold ab_ln'; decide +kernel)) (by decide +kernel) (Nat.le_of_ble_eq_true rfl) ⟨by decide, by decide⟩ ⟨Nat.le_of_ble_eq_true rfl, Nat.le_of_ble_eq_true rfl⟩ rfl ?_
  refine mg_putN (idx := 29) (pc2 := 48) (by decide +kernel) (by decide) 0 rfl 3 (by decide) (by decide +kernel) rfl rfl rfl rfl (by show 3 < 16; decide) rfl ?_
  refine mg_eq (ws' := (a, .inr (8, [.ref (N0), .ref (N0 + 5), .ref (N0 + 17), .ref (N0 + 29), .null, .null, .null, .null, .null, .int 0, .int 0, .null, .null, .null, .null, .null])) :: s8_4 E N0) (n' := N0 + 33) (cells' := 33) (slots' := 7186) gx_put rfl rfl rfl ?_
  refine mg_al0 (pc2 := 49) (x := a) (by decide +kernel) rfl 0 rfl ?_
  refine mg_new (ci := 7) (fs := [.int 0, .null, .null, .null]) (idx := 26) (pc2 := 52) (by decide +kernel) (by decide) (by decide +kernel) (by decide +kernel) (by decide +kernel) nf7 ⟨Nat.le_of_ble_eq_true rfl, Nat.le_of_ble_eq_true rfl⟩ rfl ?_
  refine mg_dup (pc2 := 53) (by decide +kernel) rfl rfl ?_
  refine mg_call (k' := 3) (idx := 28) (pc2 := 56) nC7 (by decide +kernel) (by decide +kernel) (by decide +kernel) rfl ⟨by decide, by decide⟩ (by decide +kernel) (Or.inr (by unfold ab_ln'; decide +kernel)) (by decide +kernel) (Nat.le_of_ble_eq_true rfl) ⟨by decide, by decide⟩ ⟨Nat.le_of_ble_eq_true rfl, Nat.le_of_ble_eq_true rfl⟩ rfl ?_
  refine mg_putN (idx := 33) (pc2 := 59) (by decide +kernel) (by decide) 0 rfl 4 (by decide) (by decide +kernel) rfl rfl rfl rfl (by show 4 < 16; decide) rfl ?_
  refine mg_eq (ws' := (a, .inr (8, [.ref (N0), .ref (N0 + 5), .ref (N0 + 17), .ref (N0 + 29), .ref (N0 + 33), .null, .null, .null, .null, .int 0, .int 0, .null, .null, .null, .null, .null])) :: s8_5 E N0) (n' := N0 + 37) (cells' := 37) (slots' := 7310) gx_put rfl rfl rfl ?_
  refine mg_al0 (pc2 := 60) (x := a) (by decide +kernel) rfl 0 rfl ?_
  refine mg_new (ci := 5) (fs := [.null, .null, .null, .long 0, .int 0]) (idx := 36) (pc2 := 63) (by decide +kernel) (by decide) (by decide +kernel) (by decide +kernel) (by decide +kernel) nf5 ⟨Nat.le_of_ble_eq_true rfl, Nat.le_of_ble_eq_true rfl⟩ rfl ?_
  refine mg_dup (pc2 := 64) (by decide +kernel) rfl rfl ?_
  refine mg_call (k' := 3) (idx := 38) (pc2 := 67) nC5 (by decide +kernel) (by decide +kernel) (by decide +kernel) rfl ⟨by decide, by decide⟩ (by decide +kernel) (Or.inr (by unfold ab_ln'; decide +kernel)) (by decide +kernel) (Nat.le_of_ble_eq_true rfl) ⟨by decide, by decide⟩ ⟨Nat.le_of_ble_eq_true rfl, Nat.le_of_ble_eq_true rfl⟩ rfl ?_
  refine mg_put (idx := 39) (pc2 := 70) (by decide +kernel) (by decide) 0 rfl 5 (by decide) (by decide +kernel) rfl rfl rfl rfl (by show 5 < 16; decide) rfl ?_
  refine mg_eq (ws' := (a, .inr (8, [.ref (N0), .ref (N0 + 5), .ref (N0 + 17), .ref (N0 + 29), .ref (N0 + 33), .ref (N0 + 37), .null, .null, .null, .int 0, .int 0, .null, .null, .null, .null, .null])) :: s8_6 E N0) (n' := N0 + 41) (cells' := 41) (slots' := 7335) gx_put rfl rfl rfl ?_
  refine mg_al0 (pc2 := 71) (x := a) (by decide +kernel) rfl 0 rfl ?_
  refine mg_new (ci := 5) (fs := [.null, .null, .null, .long 0, .int 0]) (idx := 36) (pc2 := 74) (by decide +kernel) (by decide) (by decide +kernel) (by decide +kernel) (by decide +kernel) nf5 ⟨Nat.le_of_ble_eq_true rfl, Nat.le_of_ble_eq_true rfl⟩ rfl ?_
  refine mg_dup (pc2 := 75) (by decide +kernel) rfl rfl ?_
  refine mg_call (k' := 3) (idx := 38) (pc2 := 78) nC5 (by decide +kernel) (by decide +kernel) (by decide +kernel) rfl ⟨by decide, by decide⟩ (by decide +kernel) (Or.inr (by unfold ab_ln'; decide +kernel)) (by decide +kernel) (Nat.le_of_ble_eq_true rfl) ⟨by decide, by decide⟩ ⟨Nat.le_of_ble_eq_true rfl, Nat.le_of_ble_eq_true rfl⟩ rfl ?_
  refine mg_put (idx := 43) (pc2 := 81) (by decide +kernel) (by decide) 0 rfl 6 (by decide) (by decide +kernel) rfl rfl rfl rfl (by show 6 < 16; decide) rfl ?_
  refine mg_eq (ws' := (a, .inr (8, [.ref (N0), .ref (N0 + 5), .ref (N0 + 17), .ref (N0 + 29), .ref (N0 + 33), .ref (N0 + 37), .ref (N0 + 41), .null, .null, .int 0, .int 0, .null, .null, .null, .null, .null])) :: s8_7 E N0) (n' := N0 + 45) (cells' := 45) (slots' := 7360) gx_put rfl rfl rfl ?_
  refine mg_al0 (pc2 := 82) (x := a) (by decide +kernel) rfl 0 rfl ?_
  refine mg_new (ci := 4) (fs := [.null, .null, .null, .int 0]) (idx := 46) (pc2 := 85) (by decide +kernel) (by decide) (by decide +kernel) (by decide +kernel) (by decide +kernel) nf4 ⟨Nat.le_of_ble_eq_true rfl, Nat.le_of_ble_eq_true rfl⟩ rfl ?_
  refine mg_dup (pc2 := 86) (by decide +kernel) rfl rfl ?_
  refine mg_call (k' := 3) (idx := 48) (pc2 := 89) nC4 (by decide +kernel) (by decide +kernel) (by decide +kernel) rfl ⟨by decide, by decide⟩ (by decide +kernel) (Or.inr (by unfold ab_ln'; decide +kernel)) (by decide +kernel) (Nat.le_of_ble_eq_true rfl) ⟨by decide, by decide⟩ ⟨Nat.le_of_ble_eq_true rfl, Nat.le_of_ble_eq_true rfl⟩ rfl ?_
  refine mg_put (idx := 49) (pc2 := 92) (by decide +kernel) (by decide) 0 rfl 7 (by decide) (by decide +kernel) rfl rfl rfl rfl (by show 7 < 16; decide) rfl ?_
  refine mg_eq (ws' := (a, .inr (8, [.ref (N0), .ref (N0 + 5), .ref (N0 + 17), .ref (N0 + 29), .ref (N0 + 33), .ref (N0 + 37), .ref (N0 + 41), .ref (N0 + 45), .null, .int 0, .int 0, .null, .null, .null, .null, .null])) :: s8_8 E N0) (n' := N0 + 49) (cells' := 49) (slots' := 7388) gx_put rfl rfl rfl ?_
  refine mg_al0 (pc2 := 93) (x := a) (by decide +kernel) rfl 0 rfl ?_
  refine mg_bi (w := 16) (x := 16) (pc2 := 95) (by decide +kernel) (by decide +kernel) rfl ?_
  refine mg_anew (C := "SoulRaffle$Standing") (q := 4) (idx := 36) (N' := 16) (pc2 := 98) (by decide +kernel) rfl (by decide) rfl (by decide +kernel) (fun _ h => h.1) (by decide +kernel) (by decide +kernel) (Nat.le_of_ble_eq_true rfl) ⟨Nat.le_of_ble_eq_true rfl, Nat.le_of_ble_eq_true rfl⟩ ?_
  refine mg_put (idx := 53) (pc2 := 101) (by decide +kernel) (by decide) 0 rfl 8 (by decide) (by decide +kernel) rfl rfl rfl rfl (by show 8 < 16; decide) rfl ?_
  refine mg_ic (v := 0) (x := 0) (pc2 := 102) (by decide +kernel) (by decide +kernel) rfl ?_
  refine mg_is1 (pc2 := 103) (L' := [(1, .int (nI 0)), (0, .ref a)]) (by decide +kernel) rfl (by decide) rfl ?_
  refine mg_eq (ws' := w8a E a N0 0) (n' := N0 + 50 + 4 * 0) (cells' := 50 + 4 * 0) (slots' := 7404 + 25 * 0) ?_ rfl rfl rfl (nl8a 16 0 rfl)
  unfold w8a
  rw [qfn_0]
  simp only [List.cons_append, List.append_assoc, List.set_cons_zero]
  rfl
/-! the constructor of SoulRaffleModel (wip/gen/ctor9.py) -/
def E9 (E : ab_E) (a N0 : Nat) : ab_E := (E.1, (E.2.1, (E.2.2.1, ((fun p => match p with
  | 0 => a
  | q + 1 => N0 + q), E.2.2.2.2))))
def XX9 (E : ab_E) (a N0 : Nat) (U : State) : Prop := ab_SF (E9 E a N0) (nw_A a N0) U U.heap
def wdf9 : Nat → (Nat → Int64)
  | 0 => fun _ => 0
  | k + 1 => vp_updL (wdf9 k) (Int32.toNatClampNeg (Int32.ofNat k)) (match k with
    | 0 => 1119812451
    | 1 => 6395136
    | 2 => 375665
    | 3 => 43890888
    | 4 => 561
    | 5 => 22961072
    | 6 => 969441
    | 7 => 316998
    | 8 => 45076385548
    | 9 => 3540
    | 10 => 993947
    | 11 => 4672922
    | 12 => 30596128
    | 13 => 30919646
    | 14 => 665530
    | 15 => 660603
    | 16 => 19741
    | 17 => 1891
    | 18 => 573
    | 19 => 30910767
    | 20 => 671333
    | 21 => 620569
    | 22 => 1078055329
    | _ => 0)
theorem wdf9_at : ∀ k, k < 23 → wdf9 23 k = lN (wdL.getD k 0) := by decide +kernel
def s9_1 (E : ab_E) (N0 : Nat) : va_W := [(N0, .inl (ab_cA E 0, (1000, .inl (fun _ => 0))))]
def s9_2 (E : ab_E) (N0 : Nat) : va_W := s9_1 E N0 ++ [(N0 + 1, .inl (ab_cA E 0, (1002, .inl (fun _ => 0))))]
def s9_3 (E : ab_E) (N0 : Nat) : va_W := s9_2 E N0 ++ [(N0 + 2, .inl (ab_cA E 0, (1002, .inl (fun _ => 0))))]
def s9_4 (E : ab_E) (N0 : Nat) : va_W := s9_3 E N0 ++ [(N0 + 3, .inl (ab_cA E 1, (1002, .inr (.inl (fun _ => 0)))))]
def s9_5 (E : ab_E) (N0 : Nat) : va_W := s9_4 E N0 ++ [(N0 + 4, .inl (ab_cA E 1, (23, .inr (.inl (wdf9 23)))))]
def s9_6 (E : ab_E) (N0 : Nat) : va_W := s9_5 E N0 ++ [(N0 + 5, .inl (ab_cA E 0, (180, .inl (fun _ => 0))))]
def s9_7 (E : ab_E) (N0 : Nat) : va_W := s9_6 E N0 ++ [(N0 + 6, .inl (ab_cA E 0, (2200, .inl (fun _ => 0))))]
def s9_8 (E : ab_E) (N0 : Nat) : va_W := s9_7 E N0 ++ [(N0 + 7, .inl (ab_cA E 0, (2200, .inl (fun _ => 0))))]
def s9_9 (E : ab_E) (N0 : Nat) : va_W := s9_8 E N0 ++ [(N0 + 8, .inl (ab_cA E 1, (14, .inr (.inl (fun _ => 0)))))]
def s9_10 (E : ab_E) (N0 : Nat) : va_W := s9_9 E N0 ++ [(N0 + 9, .inl (ab_cA E 1, (14, .inr (.inl (fun _ => 0)))))]
def s9_11 (E : ab_E) (N0 : Nat) : va_W := s9_10 E N0 ++ [(N0 + 10, .inl (ab_cA E 0, (14, .inl (fun _ => 0))))]
def s9_12 (E : ab_E) (N0 : Nat) : va_W := s9_11 E N0 ++ [(N0 + 11, .inl (ab_cA E 0, (14, .inl (fun _ => 0))))]
def s9_13 (E : ab_E) (N0 : Nat) : va_W := s9_12 E N0 ++ [(N0 + 12, .inl (ab_cA E 0, (250, .inl (fun _ => 0))))]
def s9_14 (E : ab_E) (N0 : Nat) : va_W := s9_13 E N0 ++ [(N0 + 13, .inl (ab_cA E 0, (4, .inl (fun _ => 0))))]
def s9_15 (E : ab_E) (N0 : Nat) : va_W := s9_14 E N0 ++ [(N0 + 14, .inl (ab_cA E 0, (1100, .inl (fun _ => 0))))]
def s9_16 (E : ab_E) (N0 : Nat) : va_W := s9_15 E N0 ++ [(N0 + 15, .inl (ab_cA E 0, (1081, .inl (fun _ => 0))))]
def s9_17 (E : ab_E) (N0 : Nat) : va_W := s9_16 E N0 ++ [(N0 + 16, .inl (ab_cA E 3, (4, .inl (fun _ => 0))))]
def s9_18 (E : ab_E) (N0 : Nat) : va_W := s9_17 E N0 ++ [(N0 + 17, .inl (ab_cA E 0, (6, .inl (fun _ => 0))))]
def s9_19 (E : ab_E) (N0 : Nat) : va_W := s9_18 E N0 ++ [(N0 + 18, .inl (ab_cA E 0, (6, .inl (fun _ => 0))))]
def s9_20 (E : ab_E) (N0 : Nat) : va_W := s9_19 E N0 ++ [(N0 + 19, .inl (ab_cA E 0, (6, .inl (fun _ => 0))))]
def s9_21 (E : ab_E) (N0 : Nat) : va_W := s9_20 E N0 ++ [(N0 + 20, .inl (ab_cA E 0, (6, .inl (fun _ => 0))))]
def s9_22 (E : ab_E) (N0 : Nat) : va_W := s9_21 E N0 ++ [(N0 + 21, .inl (ab_cA E 0, (6, .inl (fun _ => 0))))]
def v9L : Nat → (Nat → Int64)
  | 5 => wdf9 23
  | _ => fun _ => 0
def v9 : ab_S := (fun _ _ => 0, v9L, fun _ => 0)
theorem cons2 {α : Type} {x y : α} {xs ys : List α} (h : x = y) (t : xs = ys) : x :: xs = y :: ys := by rw [h, t]
theorem map23 {α : Type} (f : Nat → α) : (List.range 23).map f = [f 0, f 1, f 2, f 3, f 4, f 5, f 6, f 7, f 8, f 9, f 10, f 11, f 12, f 13, f 14, f 15, f 16, f 17, f 18, f 19, f 20, f 21, f 22] := rfl
theorem map33 {α : Type} (f : Nat → α) : (List.range 33).map f = [f 0, f 1, f 2, f 3, f 4, f 5, f 6, f 7, f 8, f 9, f 10, f 11, f 12, f 13, f 14, f 15, f 16, f 17, f 18, f 19, f 20, f 21, f 22, f 23, f 24, f 25, f 26, f 27, f 28, f 29, f 30, f 31, f 32] := rfl
theorem o9_eq (E : ab_E) (a N0 : Nat) : (.inr (9, [.int 0, .ref (N0), .int 0, .int 0, .ref (N0 + 1), .ref (N0 + 2), .ref (N0 + 3), .int 0, .int 0, .ref (N0 + 4), .ref (N0 + 5), .ref (N0 + 6), .ref (N0 + 7), .int 0, .ref (N0 + 8), .ref (N0 + 9), .ref (N0 + 10), .ref (N0 + 11), .int 0, .int 0, .int 0, .ref (N0 + 12), .ref (N0 + 13), .ref (N0 + 14), .ref (N0 + 15), .int 0, .ref (N0 + 16), .ref (N0 + 17), .ref (N0 + 18), .ref (N0 + 19), .ref (N0 + 20), .ref (N0 + 21), .int 0]) : va_E) = ab_cell (E9 E a N0) v9 0 (kO 9) := by
  show _ = (.inr (9, (List.range 33).map fun k => ab_fv (E9 E a N0) v9 0 (ab_fk 9 k) k) : va_E)
  rw [map33]
  refine congrArg (fun z => (.inr (9, z) : va_E)) ?_
  exact cons2 rfl (cons2 rfl (cons2 rfl (cons2 rfl (cons2 rfl (cons2 rfl (cons2 rfl (cons2 rfl (cons2 rfl (cons2 rfl (cons2 rfl (cons2 rfl (cons2 rfl (cons2 rfl (cons2 rfl (cons2 rfl (cons2 rfl (cons2 rfl (cons2 rfl (cons2 rfl (cons2 rfl (cons2 rfl (cons2 rfl (cons2 rfl (cons2 rfl (cons2 rfl (cons2 rfl (cons2 rfl (cons2 rfl (cons2 rfl (cons2 rfl (cons2 rfl (cons2 rfl (rfl)))))))))))))))))))))))))))))))))
theorem w9_eq (E : ab_E) (a N0 : Nat) : (a, (.inr (9, [.int 0, .ref (N0), .int 0, .int 0, .ref (N0 + 1), .ref (N0 + 2), .ref (N0 + 3), .int 0, .int 0, .ref (N0 + 4), .ref (N0 + 5), .ref (N0 + 6), .ref (N0 + 7), .int 0, .ref (N0 + 8), .ref (N0 + 9), .ref (N0 + 10), .ref (N0 + 11), .int 0, .int 0, .int 0, .ref (N0 + 12), .ref (N0 + 13), .ref (N0 + 14), .ref (N0 + 15), .int 0, .ref (N0 + 16), .ref (N0 + 17), .ref (N0 + 18), .ref (N0 + 19), .ref (N0 + 20), .ref (N0 + 21), .int 0]) : va_E)) :: s9_22 E N0 = ab_wd (E9 E a N0) 1 v9 := by
  unfold ab_wd
  rw [show (ab_sh 1).length = 23 from rfl, map23]
  unfold s9_22 s9_21 s9_20 s9_19 s9_18 s9_17 s9_16 s9_15 s9_14 s9_13 s9_12 s9_11 s9_10 s9_9 s9_8 s9_7 s9_6 s9_5 s9_4 s9_3 s9_2 s9_1
  simp only [List.append_assoc, List.cons_append, List.nil_append]
  exact cons2 (congrArg (fun z => (a, z)) (o9_eq E a N0)) (cons2 rfl (cons2 rfl (cons2 rfl (cons2 rfl (cons2 rfl (cons2 rfl (cons2 rfl (cons2 rfl (cons2 rfl (cons2 rfl (cons2 rfl (cons2 rfl (cons2 rfl (cons2 rfl (cons2 rfl (cons2 rfl (cons2 rfl (cons2 rfl (cons2 rfl (cons2 rfl (cons2 rfl (cons2 rfl (rfl)))))))))))))))))))))))
theorem e9_re (E : ab_E) (a N0 : Nat) : ab_re (E9 E a N0) (kO 9) 0 = a := rfl
theorem e9_A {E : ab_E} {a N0 q : Nat} (h : ab_A (E9 E a N0) 1 q) : nw_A a N0 q := by
  obtain ⟨p, hp, rfl⟩ := h
  cases p with
  | zero => exact Or.inl rfl
  | succ p => exact Or.inr (Nat.le_add_right _ _)
/-- a method of the pool, called on the new object -/
theorem mg_pool {E : ab_E} {a N0 : Nat} {b b' : ByteArray} {R : Room} {nL nL' d' k kF mF pc pc2 slots : Nat} {L : List (Nat × Value)} {WF : va_W} {y : MethodName} {bs : List ab_V} {v v' : ab_S} {r0 : Option (Unit × ab_S)} {st0 : List Value} (hM0 : ab_C 1 y b' nL' none d' (vR (kO 9) 0 :: bs) v wV r0) (hr0 : r0 = some ((), v')) (hnum : bs.all ab_num = true) (hI : ab_mI y b' nL' none bs.length) (hV : ab_mV y) (hci : ab_cn 9 = y.cls) (hlp : ab_lp 9 k y) (hd : decode b pc = .ok (.invokevirtual k, 3)) (hst0 : st0 = (bs.map (ab_vm E)).reverse ++ [.ref a]) (hR : d' + 1 ≤ R.frames ∧ 8 + (nL' + 11) + 64 * d' ≤ R.locals ∧ 22 ≤ R.cells ∧ slots ≤ R.slots) (hp : pc + 3 = pc2)
    (kk : mg_G (XX9 E a N0) 9 b R nL E a N0 (N0 + 22) kF mF WF pc2 L [] (ab_wd (E9 E a N0) 1 v') (N0 + 22) 22 slots) : mg_G (XX9 E a N0) 9 b R nL E a N0 (N0 + 22) kF mF WF pc L st0 (ab_wd (E9 E a N0) 1 v) (N0 + 22) 22 slots := by
  intro p l e s m args below meth c H locs ls hfl F hml X hl
  subst hp
  subst hst0
  obtain ⟨hex, hb, hown, hts, hNW, hK, hsz, hnm, hret, hlk⟩ := id F
  obtain ⟨hP, hD, hS, hn⟩ := X
  have h6 : (ab_sh 1)[0]? = some (kO 9) := rfl
  have hoka : ab_oks 1 (vR (kO 9) 0 :: bs) := fun v hv => by
    rcases List.mem_cons.mp hv with h | h
    · rw [h]; exact ab_ia_of (by decide) h6
    · have h1 := List.all_eq_true.mp hnum v h
      rcases v with x | x | x
      · trivial
      · trivial
      · cases h1
  have hM2 := hM0 () v' hr0 hoka l (E9 E a N0) hfl.1
  have hrec : ∃ cellB : Cell, H[a]? = some cellB ∧ cellB.vm.isStatics = false ∧ s.vm.findClass y.cls = some cellB.cls := by
    rw [← hci]
    exact va_recv hK hP (ab_vw (by decide)) (ab_wd_at (E9 E a N0) h6)
  have hkeep : ∀ q : Nat, q < s.heap.size → ¬ nw_A a N0 q → H[q]? = s.heap[q]? := hS.2.1
  have hpre : ∀ U : State, U.heap = H → s.WarmedH U.vm → va_Pc ((vR (kO 9) 0 :: bs).map (ab_vm (E9 E a N0))) (ab_B (E9 E a N0) 1 v) (Value.ref a :: bs.map (ab_vm E)).toArray U := by
    intro U hU hW
    refine ⟨?_, va_K.moved hW.alike hK, by rw [hU]; exact hP, ab_D_self hD, by rw [hU]; exact ab_SF.moved hW ((ab_SF.kept hfl.2 hkeep).narrow (fun q h => e9_A h)), ab_NW.moved hW hNW, fun j hj h => by cases h⟩
    rw [ab_num_map E (E9 E a N0) bs hnum]
    rfl
  have hpv : PreV s H y.cls a (va_Pc ((vR (kO 9) 0 :: bs).map (ab_vm (E9 E a N0))) (ab_B (E9 E a N0) 1 v)) (bs.map (ab_vm E)) := ⟨ab_B_blind (E9 E a N0) 1 v _, hrec, hpre⟩
  have hfix : CallFix p m c b nL s args ab_W0 (ab_cn 9) := ⟨hex, hb, hml, hown, hts⟩
  have hmon : 2 * (F0 m pc ls ((bs.map (ab_vm E)).reverse ++ [.ref a])).monitorRoom + (([] : List Value).map fun v => v.category).sum ≤ 8 := lv_room (by simp)
  have hCB : CallB R s args (ab_cn 9) k y b' nL' none (Cond.code y b' nL' none :: ab_W0) (ab_rm d') 0 0 bs.length := by
    obtain ⟨h1, h2, h3, h4, h5⟩ := hI
    refine ⟨rfl, rfl, hR.1, hR.2.1, ab_ws hts h1, List.mem_cons_self, hts _ h1, hts _ h2, h3, fun sig h => ?_, hts _ hlp⟩
    rw [h] at h4
    exact (Option.some.inj h4).symm
  have hrun : va_Run p l e R s m args below meth c H locs 22 slots 0 0 (F0 m pc ls ((bs.map (ab_vm E)).reverse ++ [.ref a])) [] (ab_Q (E9 E a N0) 1 wV () v' (Value.ref a :: bs.map (ab_vm E)).toArray) (ab_A (E9 E a N0) 1) :=
    va_runV hfix hM2 ⟨hCB, hts _ hV.1, hts _ hV.2⟩ hpv rfl (by simp) hl.1 rfl hmon hd ⟨hR.2.2.1, hR.2.2.2⟩
  intro T hT Y
  obtain ⟨v1, st₀, t, T', Lc, h0, Y', hLc, e1, e2, ⟨hv, hP', hW', hz, hk⟩, stp⟩ := hrun T hT Y
  cases hv
  rw [h0] at hz hk
  have hup : T'.heap.size ≤ N0 + 22 := by
    have := Y'.heapSize
    rw [hsz] at this
    exact this
  have hX1 : nw_W E (nw_A a N0) s.heap (ab_wd (E9 E a N0) 1 v') (N0 + 22) T'.heap (locs ++ Lc) := by
    refine ⟨by rw [e1]; exact hP', ab_D_eq hD, ⟨Nat.le_trans hS.1 (by rw [e1]; exact hz), fun q h1 h2 => ?_, fun q hq => ?_⟩, ?_⟩
    · rw [e1, hk q (Nat.lt_of_lt_of_le h1 hS.1) (fun h => h2 (e9_A h))]
      exact hS.2.1 q h1 h2
    · rcases List.mem_append.mp hq with h | h
      · exact hS.2.2 q h
      · exact e9_A (hLc q h)
    · have : N0 + 22 ≤ T'.heap.size := by rw [e1, ← hn]; exact hz
      omega
  obtain ⟨t2, b1, b2⟩ := kk p l e s m args below meth c T'.heap (locs ++ Lc) ls hfl F hml hX1 hl T' rfl Y'
  exact ⟨t2, stp t2 b1, b2⟩
theorem nf9 : ∀ j, j < (ab_fs 9).length → defaultValue (ab_tt 9 j) = vp_V ([.int 0, .null, .int 0, .int 0, .null, .null, .null, .int 0, .int 0, .null, .null, .null, .null, .int 0, .null, .null, .null, .null, .int 0, .int 0, .int 0, .null, .null, .null, .null, .int 0, .null, .null, .null, .null, .null, .null, .int 0] : List Value) j := fun j hj => match j, hj with
  | 0, _ => rfl
  | 1, _ => rfl
  | 2, _ => rfl
  | 3, _ => rfl
  | 4, _ => rfl
  | 5, _ => rfl
  | 6, _ => rfl
  | 7, _ => rfl
  | 8, _ => rfl
  | 9, _ => rfl
  | 10, _ => rfl
  | 11, _ => rfl
  | 12, _ => rfl
  | 13, _ => rfl
  | 14, _ => rfl
  | 15, _ => rfl
  | 16, _ => rfl
  | 17, _ => rfl
  | 18, _ => rfl
  | 19, _ => rfl
  | 20, _ => rfl
  | 21, _ => rfl
  | 22, _ => rfl
  | 23, _ => rfl
  | 24, _ => rfl
  | 25, _ => rfl
  | 26, _ => rfl
  | 27, _ => rfl
  | 28, _ => rfl
  | 29, _ => rfl
  | 30, _ => rfl
  | 31, _ => rfl
  | 32, _ => rfl
  | n + 33, h => absurd h (by show ¬ (n + 33 < 33); omega)
theorem nC9 {v1 v2 : ab_S} (h1 : fX10_standsAsAlways 0 v9 = some ((), v1)) (h2 : fX10_begins v1 = some ((), v2)) : mg_C XX9 yX10_init cX10_init 1 { frames := 12, cells := 22, slots := 11134, locals := 1600 } 9 [.int 0, .null, .int 0, .int 0, .null, .null, .null, .int 0, .int 0, .null, .null, .null, .null, .int 0, .null, .null, .null, .null, .int 0, .int 0, .int 0, .null, .null, .null, .null, .int 0, .null, .null, .null, .null, .null, .null, .int 0] 22 (fun E a N0 => ab_wd (E9 E a N0) 1 v2) := by
  refine mg_entry (own := 9) (by decide +kernel) rfl rfl (by decide) (fun E a N0 hlt => ?_)
  refine mg_al0 (pc2 := 1) (x := a) (by decide +kernel) rfl 0 rfl ?_
  refine mg_obj (idx := 18) (pc2 := 4) (by decide +kernel) ⟨by decide +kernel, by decide +kernel, by decide +kernel⟩ ⟨by decide, by decide⟩ rfl ?_
  refine mg_al0 (pc2 := 5) (x := a) (by decide +kernel) rfl 0 rfl ?_
  refine mg_si (w := 1000) (x := 1000) (pc2 := 8) (by decide +kernel) (by decide +kernel) rfl ?_
  refine mg_arr (N' := 1000) (a0 := (1000, .inl (fun _ => 0))) (pc2 := 10) (by decide +kernel) 0 (by decide) rfl (by decide +kernel) (nz0 1000) (by decide +kernel) (by decide +kernel) (Nat.le_of_ble_eq_true rfl) ⟨Nat.le_of_ble_eq_true rfl, Nat.le_of_ble_eq_true rfl⟩ rfl ?_
  refine mg_put (idx := 14) (pc2 := 13) (by decide +kernel) (by decide) 0 rfl 1 (by decide) (by decide +kernel) rfl rfl rfl rfl (by show 1 < 33; decide) rfl ?_
  refine mg_eq (ws' := (a, .inr (9, [.int 0, .ref (N0), .int 0, .int 0, .null, .null, .null, .int 0, .int 0, .null, .null, .null, .null, .int 0, .null, .null, .null, .null, .int 0, .int 0, .int 0, .null, .null, .null, .null, .int 0, .null, .null, .null, .null, .null, .null, .int 0])) :: s9_1 E N0) (n' := N0 + 1) (cells' := 1) (slots' := 1000) gx_put rfl rfl rfl ?_
  refine mg_al0 (pc2 := 14) (x := a) (by decide +kernel) rfl 0 rfl ?_
  refine mg_si (w := 1002) (x := 1002) (pc2 := 17) (by decide +kernel) (by decide +kernel) rfl ?_
  refine mg_arr (N' := 1002) (a0 := (1002, .inl (fun _ => 0))) (pc2 := 19) (by decide +kernel) 0 (by decide) rfl (by decide +kernel) (nz0 1002) (by decide +kernel) (by decide +kernel) (Nat.le_of_ble_eq_true rfl) ⟨Nat.le_of_ble_eq_true rfl, Nat.le_of_ble_eq_true rfl⟩ rfl ?_
  refine mg_put (idx := 24) (pc2 := 22) (by decide +kernel) (by decide) 0 rfl 4 (by decide) (by decide +kernel) rfl rfl rfl rfl (by show 4 < 33; decide) rfl ?_
  refine mg_eq (ws' := (a, .inr (9, [.int 0, .ref (N0), .int 0, .int 0, .ref (N0 + 1), .null, .null, .int 0, .int 0, .null, .null, .null, .null, .int 0, .null, .null, .null, .null, .int 0, .int 0, .int 0, .null, .null, .null, .null, .int 0, .null, .null, .null, .null, .null, .null, .int 0])) :: s9_2 E N0) (n' := N0 + 2) (cells' := 2) (slots' := 2002) gx_put rfl rfl rfl ?_
  refine mg_al0 (pc2 := 23) (x := a) (by decide +kernel) rfl 0 rfl ?_
  refine mg_si (w := 1002) (x := 1002) (pc2 := 26) (by decide +kernel) (by decide +kernel) rfl ?_
  refine mg_arr (N' := 1002) (a0 := (1002, .inl (fun _ => 0))) (pc2 := 28) (by decide +kernel) 0 (by decide) rfl (by decide +kernel) (nz0 1002) (by decide +kernel) (by decide +kernel) (Nat.le_of_ble_eq_true rfl) ⟨Nat.le_of_ble_eq_true rfl, Nat.le_of_ble_eq_true rfl⟩ rfl ?_
  refine mg_put (idx := 27) (pc2 := 31) (by decide +kernel) (by decide) 0 rfl 5 (by decide) (by decide +kernel) rfl rfl rfl rfl (by show 5 < 33; decide) rfl ?_
  refine mg_eq (ws' := (a, .inr (9, [.int 0, .ref (N0), .int 0, .int 0, .ref (N0 + 1), .ref (N0 + 2), .null, .int 0, .int 0, .null, .null, .null, .null, .int 0, .null, .null, .null, .null, .int 0, .int 0, .int 0, .null, .null, .null, .null, .int 0, .null, .null, .null, .null, .null, .null, .int 0])) :: s9_3 E N0) (n' := N0 + 3) (cells' := 3) (slots' := 3004) gx_put rfl rfl rfl ?_
  refine mg_al0 (pc2 := 32) (x := a) (by decide +kernel) rfl 0 rfl ?_
  refine mg_si (w := 1002) (x := 1002) (pc2 := 35) (by decide +kernel) (by decide +kernel) rfl ?_
  refine mg_arr (N' := 1002) (a0 := (1002, .inr (.inl (fun _ => 0)))) (pc2 := 37) (by decide +kernel) 1 (by decide) rfl (by decide +kernel) (nz1 1002) (by decide +kernel) (by decide +kernel) (Nat.le_of_ble_eq_true rfl) ⟨Nat.le_of_ble_eq_true rfl, Nat.le_of_ble_eq_true rfl⟩ rfl ?_
  refine mg_put (idx := 30) (pc2 := 40) (by decide +kernel) (by decide) 0 rfl 6 (by decide) (by decide +kernel) rfl rfl rfl rfl (by show 6 < 33; decide) rfl ?_
  refine mg_eq (ws' := (a, .inr (9, [.int 0, .ref (N0), .int 0, .int 0, .ref (N0 + 1), .ref (N0 + 2), .ref (N0 + 3), .int 0, .int 0, .null, .null, .null, .null, .int 0, .null, .null, .null, .null, .int 0, .int 0, .int 0, .null, .null, .null, .null, .int 0, .null, .null, .null, .null, .null, .null, .int 0])) :: s9_4 E N0) (n' := N0 + 4) (cells' := 4) (slots' := 4006) gx_put rfl rfl rfl ?_
  refine mg_al0 (pc2 := 41) (x := a) (by decide +kernel) rfl 0 rfl ?_
  refine mg_bi (w := 23) (x := 23) (pc2 := 43) (by decide +kernel) (by decide +kernel) rfl ?_
  refine mg_arr (N' := 23) (a0 := (23, .inr (.inl (fun _ => 0)))) (pc2 := 45) (by decide +kernel) 1 (by decide) rfl (by decide +kernel) (nz1 23) (by decide +kernel) (by decide +kernel) (Nat.le_of_ble_eq_true rfl) ⟨Nat.le_of_ble_eq_true rfl, Nat.le_of_ble_eq_true rfl⟩ rfl ?_
  refine mg_eq (ws' := (a, .inr (9, [.int 0, .ref (N0), .int 0, .int 0, .ref (N0 + 1), .ref (N0 + 2), .ref (N0 + 3), .int 0, .int 0, .null, .null, .null, .null, .int 0, .null, .null, .null, .null, .int 0, .int 0, .int 0, .null, .null, .null, .null, .int 0, .null, .null, .null, .null, .null, .null, .int 0])) :: (s9_4 E N0 ++ [(N0 + 4, .inl (ab_cA E 1, (23, .inr (.inl (wdf9 0)))))])) (n' := N0 + 5) (cells' := 5) (slots' := 4029) rfl rfl rfl rfl ?_
  refine mg_dup (pc2 := 46) (by decide +kernel) rfl rfl ?_
  refine mg_ic (v := 0) (x := 0) (pc2 := 47) (by decide +kernel) (by decide +kernel) rfl ?_
  refine mg_ldc2 (idx := 34) (v := 1119812451) (pc2 := 50) (by decide +kernel) rfl (by decide +kernel) ?_
  refine mg_last (f := wdf9 0) (pc2 := 51) (by decide +kernel) rfl 5 rfl (show vp_in (nI 0) 23 from vp_in_nI (by decide) (by decide)) ?_
  refine mg_eq (ws' := (a, .inr (9, [.int 0, .ref (N0), .int 0, .int 0, .ref (N0 + 1), .ref (N0 + 2), .ref (N0 + 3), .int 0, .int 0, .null, .null, .null, .null, .int 0, .null, .null, .null, .null, .int 0, .int 0, .int 0, .null, .null, .null, .null, .int 0, .null, .null, .null, .null, .null, .null, .int 0])) :: (s9_4 E N0 ++ [(N0 + 4, .inl (ab_cA E 1, (23, .inr (.inl (wdf9 1)))))])) (n' := N0 + 5) (cells' := 5) (slots' := 4029) rfl rfl rfl rfl ?_
  refine mg_dup (pc2 := 52) (by decide +kernel) rfl rfl ?_
  refine mg_ic (v := 1) (x := 1) (pc2 := 53) (by decide +kernel) (by decide +kernel) rfl ?_
  refine mg_ldc2 (idx := 36) (v := 6395136) (pc2 := 56) (by decide +kernel) rfl (by decide +kernel) ?_
  refine mg_last (f := wdf9 1) (pc2 := 57) (by decide +kernel) rfl 5 rfl (show vp_in (nI 1) 23 from vp_in_nI (by decide) (by decide)) ?_
  refine mg_eq (ws' := (a, .inr (9, [.int 0, .ref (N0), .int 0, .int 0, .ref (N0 + 1), .ref (N0 + 2), .ref (N0 + 3), .int 0, .int 0, .null, .null, .null, .null, .int 0, .null, .null, .null, .null, .int 0, .int 0, .int 0, .null, .null, .null, .null, .int 0, .null, .null, .null, .null, .null, .null, .int 0])) :: (s9_4 E N0 ++ [(N0 + 4, .inl (ab_cA E 1, (23, .inr (.inl (wdf9 2)))))])) (n' := N0 + 5) (cells' := 5) (slots' := 4029) rfl rfl rfl rfl ?_
  refine mg_dup (pc2 := 58) (by decide +kernel) rfl rfl ?_
  refine mg_ic (v := 2) (x := 2) (pc2 := 59) (by decide +kernel) (by decide +kernel) rfl ?_
  refine mg_ldc2 (idx := 38) (v := 375665) (pc2 := 62) (by decide +kernel) rfl (by decide +kernel) ?_
  refine mg_last (f := wdf9 2) (pc2 := 63) (by decide +kernel) rfl 5 rfl (show vp_in (nI 2) 23 from vp_in_nI (by decide) (by decide)) ?_
  refine mg_eq (ws' := (a, .inr (9, [.int 0, .ref (N0), .int 0, .int 0, .ref (N0 + 1), .ref (N0 + 2), .ref (N0 + 3), .int 0, .int 0, .null, .null, .null, .null, .int 0, .null, .null, .null, .null, .int 0, .int 0, .int 0, .null, .null, .null, .null, .int 0, .null, .null, .null, .null, .null, .null, .int 0])) :: (s9_4 E N0 ++ [(N0 + 4, .inl (ab_cA E 1, (23, .inr (.inl (wdf9 3)))))])) (n' := N0 + 5) (cells' := 5) (slots' := 4029) rfl rfl rfl rfl ?_
  refine mg_dup (pc2 := 64) (by decide +kernel) rfl rfl ?_
  refine mg_ic (v := 3) (x := 3) (pc2 := 65) (by decide +kernel) (by decide +kernel) rfl ?_
  refine mg_ldc2 (idx := 40) (v := 43890888) (pc2 := 68) (by decide +kernel) rfl (by decide +kernel) ?_
  refine mg_last (f := wdf9 3) (pc2 := 69) (by decide +kernel) rfl 5 rfl (show vp_in (nI 3) 23 from vp_in_nI (by decide) (by decide)) ?_
  refine mg_eq (ws' := (a, .inr (9, [.int 0, .ref (N0), .int 0, .int 0, .ref (N0 + 1), .ref (N0 + 2), .ref (N0 + 3), .int 0, .int 0, .null, .null, .null, .null, .int 0, .null, .null, .null, .null, .int 0, .int 0, .int 0, .null, .null, .null, .null, .int 0, .null, .null, .null, .null, .null, .null, .int 0])) :: (s9_4 E N0 ++ [(N0 + 4, .inl (ab_cA E 1, (23, .inr (.inl (wdf9 4)))))])) (n' := N0 + 5) (cells' := 5) (slots' := 4029) rfl rfl rfl rfl ?_
  refine mg_dup (pc2 := 70) (by decide +kernel) rfl rfl ?_
  refine mg_ic (v := 4) (x := 4) (pc2 := 71) (by decide +kernel) (by decide +kernel) rfl ?_
  refine mg_ldc2 (idx := 42) (v := 561) (pc2 := 74) (by decide +kernel) rfl (by decide +kernel) ?_
  refine mg_last (f := wdf9 4) (pc2 := 75) (by decide +kernel) rfl 5 rfl (show vp_in (nI 4) 23 from vp_in_nI (by decide) (by decide)) ?_
  refine mg_eq (ws' := (a, .inr (9, [.int 0, .ref (N0), .int 0, .int 0, .ref (N0 + 1), .ref (N0 + 2), .ref (N0 + 3), .int 0, .int 0, .null, .null, .null, .null, .int 0, .null, .null, .null, .null, .int 0, .int 0, .int 0, .null, .null, .null, .null, .int 0, .null, .null, .null, .null, .null, .null, .int 0])) :: (s9_4 E N0 ++ [(N0 + 4, .inl (ab_cA E 1, (23, .inr (.inl (wdf9 5)))))])) (n' := N0 + 5) (cells' := 5) (slots' := 4029) rfl rfl rfl rfl ?_
  refine mg_dup (pc2 := 76) (by decide +kernel) rfl rfl ?_
  refine mg_ic (v := 5) (x := 5) (pc2 := 77) (by decide +kernel) (by decide +kernel) rfl ?_
  refine mg_ldc2 (idx := 44) (v := 22961072) (pc2 := 80) (by decide +kernel) rfl (by decide +kernel) ?_
  refine mg_last (f := wdf9 5) (pc2 := 81) (by decide +kernel) rfl 5 rfl (show vp_in (nI 5) 23 from vp_in_nI (by decide) (by decide)) ?_
  refine mg_eq (ws' := (a, .inr (9, [.int 0, .ref (N0), .int 0, .int 0, .ref (N0 + 1), .ref (N0 + 2), .ref (N0 + 3), .int 0, .int 0, .null, .null, .null, .null, .int 0, .null, .null, .null, .null, .int 0, .int 0, .int 0, .null, .null, .null, .null, .int 0, .null, .null, .null, .null, .null, .null, .int 0])) :: (s9_4 E N0 ++ [(N0 + 4, .inl (ab_cA E 1, (23, .inr (.inl (wdf9 6)))))])) (n' := N0 + 5) (cells' := 5) (slots' := 4029) rfl rfl rfl rfl ?_
  refine mg_dup (pc2 := 82) (by decide +kernel) rfl rfl ?_
  refine mg_bi (w := 6) (x := 6) (pc2 := 84) (by decide +kernel) (by decide +kernel) rfl ?_
  refine mg_ldc2 (idx := 46) (v := 969441) (pc2 := 87) (by decide +kernel) rfl (by decide +kernel) ?_
  refine mg_last (f := wdf9 6) (pc2 := 88) (by decide +kernel) rfl 5 rfl (show vp_in (nI 6) 23 from vp_in_nI (by decide) (by decide)) ?_
  refine mg_eq (ws' := (a, .inr (9, [.int 0, .ref (N0), .int 0, .int 0, .ref (N0 + 1), .ref (N0 + 2), .ref (N0 + 3), .int 0, .int 0, .null, .null, .null, .null, .int 0, .null, .null, .null, .null, .int 0, .int 0, .int 0, .null, .null, .null, .null, .int 0, .null, .null, .null, .null, .null, .null, .int 0])) :: (s9_4 E N0 ++ [(N0 + 4, .inl (ab_cA E 1, (23, .inr (.inl (wdf9 7)))))])) (n' := N0 + 5) (cells' := 5) (slots' := 4029) rfl rfl rfl rfl ?_
  refine mg_dup (pc2 := 89) (by decide +kernel) rfl rfl ?_
  refine mg_bi (w := 7) (x := 7) (pc2 := 91) (by decide +kernel) (by decide +kernel) rfl ?_
  refine mg_ldc2 (idx := 48) (v := 316998) (pc2 := 94) (by decide +kernel) rfl (by decide +kernel) ?_
  refine mg_last (f := wdf9 7) (pc2 := 95) (by decide +kernel) rfl 5 rfl (show vp_in (nI 7) 23 from vp_in_nI (by decide) (by decide)) ?_
  refine mg_eq (ws' := (a, .inr (9, [.int 0, .ref (N0), .int 0, .int 0, .ref (N0 + 1), .ref (N0 + 2), .ref (N0 + 3), .int 0, .int 0, .null, .null, .null, .null, .int 0, .null, .null, .null, .null, .int 0, .int 0, .int 0, .null, .null, .null, .null, .int 0, .null, .null, .null, .null, .null, .null, .int 0])) :: (s9_4 E N0 ++ [(N0 + 4, .inl (ab_cA E 1, (23, .inr (.inl (wdf9 8)))))])) (n' := N0 + 5) (cells' := 5) (slots' := 4029) rfl rfl rfl rfl ?_
  refine mg_dup (pc2 := 96) (by decide +kernel) rfl rfl ?_
  refine mg_bi (w := 8) (x := 8) (pc2 := 98) (by decide +kernel) (by decide +kernel) rfl ?_
  refine mg_ldc2 (idx := 50) (v := 45076385548) (pc2 := 101) (by decide +kernel) rfl (by decide +kernel) ?_
  refine mg_last (f := wdf9 8) (pc2 := 102) (by decide +kernel) rfl 5 rfl (show vp_in (nI 8) 23 from vp_in_nI (by decide) (by decide)) ?_
  refine mg_eq (ws' := (a, .inr (9, [.int 0, .ref (N0), .int 0, .int 0, .ref (N0 + 1), .ref (N0 + 2), .ref (N0 + 3), .int 0, .int 0, .null, .null, .null, .null, .int 0, .null, .null, .null, .null, .int 0, .int 0, .int 0, .null, .null, .null, .null, .int 0, .null, .null, .null, .null, .null, .null, .int 0])) :: (s9_4 E N0 ++ [(N0 + 4, .inl (ab_cA E 1, (23, .inr (.inl (wdf9 9)))))])) (n' := N0 + 5) (cells' := 5) (slots' := 4029) rfl rfl rfl rfl ?_
  refine mg_dup (pc2 := 103) (by decide +kernel) rfl rfl ?_
  refine mg_bi (w := 9) (x := 9) (pc2 := 105) (by decide +kernel) (by decide +kernel) rfl ?_
  refine mg_ldc2 (idx := 52) (v := 3540) (pc2 := 108) (by decide +kernel) rfl (by decide +kernel) ?_
  refine mg_last (f := wdf9 9) (pc2 := 109) (by decide +kernel) rfl 5 rfl (show vp_in (nI 9) 23 from vp_in_nI (by decide) (by decide)) ?_
  refine mg_eq (ws' := (a, .inr (9, [.int 0, .ref (N0), .int 0, .int 0, .ref (N0 + 1), .ref (N0 + 2), .ref (N0 + 3), .int 0, .int 0, .null, .null, .null, .null, .int 0, .null, .null, .null, .null, .int 0, .int 0, .int 0, .null, .null, .null, .null, .int 0, .null, .null, .null, .null, .null, .null, .int 0])) :: (s9_4 E N0 ++ [(N0 + 4, .inl (ab_cA E 1, (23, .inr (.inl (wdf9 10)))))])) (n' := N0 + 5) (cells' := 5) (slots' := 4029) rfl rfl rfl rfl ?_
  refine mg_dup (pc2 := 110) (by decide +kernel) rfl rfl ?_
  refine mg_bi (w := 10) (x := 10) (pc2 := 112) (by decide +kernel) (by decide +kernel) rfl ?_
  refine mg_ldc2 (idx := 54) (v := 993947) (pc2 := 115) (by decide +kernel) rfl (by decide +kernel) ?_
  refine mg_last (f := wdf9 10) (pc2 := 116) (by decide +kernel) rfl 5 rfl (show vp_in (nI 10) 23 from vp_in_nI (by decide) (by decide)) ?_
  refine mg_eq (ws' := (a, .inr (9, [.int 0, .ref (N0), .int 0, .int 0, .ref (N0 + 1), .ref (N0 + 2), .ref (N0 + 3), .int 0, .int 0, .null, .null, .null, .null, .int 0, .null, .null, .null, .null, .int 0, .int 0, .int 0, .null, .null, .null, .null, .int 0, .null, .null, .null, .null, .null, .null, .int 0])) :: (s9_4 E N0 ++ [(N0 + 4, .inl (ab_cA E 1, (23, .inr (.inl (wdf9 11)))))])) (n' := N0 + 5) (cells' := 5) (slots' := 4029) rfl rfl rfl rfl ?_
  refine mg_dup (pc2 := 117) (by decide +kernel) rfl rfl ?_
  refine mg_bi (w := 11) (x := 11) (pc2 := 119) (by decide +kernel) (by decide +kernel) rfl ?_
  refine mg_ldc2 (idx := 56) (v := 4672922) (pc2 := 122) (by decide +kernel) rfl (by decide +kernel) ?_
  refine mg_last (f := wdf9 11) (pc2 := 123) (by decide +kernel) rfl 5 rfl (show vp_in (nI 11) 23 from vp_in_nI (by decide) (by decide)) ?_
  refine mg_eq (ws' := (a, .inr (9, [.int 0, .ref (N0), .int 0, .int 0, .ref (N0 + 1), .ref (N0 + 2), .ref (N0 + 3), .int 0, .int 0, .null, .null, .null, .null, .int 0, .null, .null, .null, .null, .int 0, .int 0, .int 0, .null, .null, .null, .null, .int 0, .null, .null, .null, .null, .null, .null, .int 0])) :: (s9_4 E N0 ++ [(N0 + 4, .inl (ab_cA E 1, (23, .inr (.inl (wdf9 12)))))])) (n' := N0 + 5) (cells' := 5) (slots' := 4029) rfl rfl rfl rfl ?_
  refine mg_dup (pc2 := 124) (by decide +kernel) rfl rfl ?_
  refine mg_bi (w := 12) (x := 12) (pc2 := 126) (by decide +kernel) (by decide +kernel) rfl ?_
  refine mg_ldc2 (idx := 58) (v := 30596128) (pc2 := 129) (by decide +kernel) rfl (by decide +kernel) ?_
  refine mg_last (f := wdf9 12) (pc2 := 130) (by decide +kernel) rfl 5 rfl (show vp_in (nI 12) 23 from vp_in_nI (by decide) (by decide)) ?_
  refine mg_eq (ws' := (a, .inr (9, [.int 0, .ref (N0), .int 0, .int 0, .ref (N0 + 1), .ref (N0 + 2), .ref (N0 + 3), .int 0, .int 0, .null, .null, .null, .null, .int 0, .null, .null, .null, .null, .int 0, .int 0, .int 0, .null, .null, .null, .null, .int 0, .null, .null, .null, .null, .null, .null, .int 0])) :: (s9_4 E N0 ++ [(N0 + 4, .inl (ab_cA E 1, (23, .inr (.inl (wdf9 13)))))])) (n' := N0 + 5) (cells' := 5) (slots' := 4029) rfl rfl rfl rfl ?_
  refine mg_dup (pc2 := 131) (by decide +kernel) rfl rfl ?_
  refine mg_bi (w := 13) (x := 13) (pc2 := 133) (by decide +kernel) (by decide +kernel) rfl ?_
  refine mg_ldc2 (idx := 60) (v := 30919646) (pc2 := 136) (by decide +kernel) rfl (by decide +kernel) ?_
  refine mg_last (f := wdf9 13) (pc2 := 137) (by decide +kernel) rfl 5 rfl (show vp_in (nI 13) 23 from vp_in_nI (by decide) (by decide)) ?_
  refine mg_eq (ws' := (a, .inr (9, [.int 0, .ref (N0), .int 0, .int 0, .ref (N0 + 1), .ref (N0 + 2), .ref (N0 + 3), .int 0, .int 0, .null, .null, .null, .null, .int 0, .null, .null, .null, .null, .int 0, .int 0, .int 0, .null, .null, .null, .null, .int 0, .null, .null, .null, .null, .null, .null, .int 0])) :: (s9_4 E N0 ++ [(N0 + 4, .inl (ab_cA E 1, (23, .inr (.inl (wdf9 14)))))])) (n' := N0 + 5) (cells' := 5) (slots' := 4029) rfl rfl rfl rfl ?_
  refine mg_dup (pc2 := 138) (by decide +kernel) rfl rfl ?_
  refine mg_bi (w := 14) (x := 14) (pc2 := 140) (by decide +kernel) (by decide +kernel) rfl ?_
  refine mg_ldc2 (idx := 62) (v := 665530) (pc2 := 143) (by decide +kernel) rfl (by decide +kernel) ?_
  refine mg_last (f := wdf9 14) (pc2 := 144) (by decide +kernel) rfl 5 rfl (show vp_in (nI 14) 23 from vp_in_nI (by decide) (by decide)) ?_
  refine mg_eq (ws' := (a, .inr (9, [.int 0, .ref (N0), .int 0, .int 0, .ref (N0 + 1), .ref (N0 + 2), .ref (N0 + 3), .int 0, .int 0, .null, .null, .null, .null, .int 0, .null, .null, .null, .null, .int 0, .int 0, .int 0, .null, .null, .null, .null, .int 0, .null, .null, .null, .null, .null, .null, .int 0])) :: (s9_4 E N0 ++ [(N0 + 4, .inl (ab_cA E 1, (23, .inr (.inl (wdf9 15)))))])) (n' := N0 + 5) (cells' := 5) (slots' := 4029) rfl rfl rfl rfl ?_
  refine mg_dup (pc2 := 145) (by decide +kernel) rfl rfl ?_
  refine mg_bi (w := 15) (x := 15) (pc2 := 147) (by decide +kernel) (by decide +kernel) rfl ?_
  refine mg_ldc2 (idx := 64) (v := 660603) (pc2 := 150) (by decide +kernel) rfl (by decide +kernel) ?_
  refine mg_last (f := wdf9 15) (pc2 := 151) (by decide +kernel) rfl 5 rfl (show vp_in (nI 15) 23 from vp_in_nI (by decide) (by decide)) ?_
  refine mg_eq (ws' := (a, .inr (9, [.int 0, .ref (N0), .int 0, .int 0, .ref (N0 + 1), .ref (N0 + 2), .ref (N0 + 3), .int 0, .int 0, .null, .null, .null, .null, .int 0, .null, .null, .null, .null, .int 0, .int 0, .int 0, .null, .null, .null, .null, .int 0, .null, .null, .null, .null, .null, .null, .int 0])) :: (s9_4 E N0 ++ [(N0 + 4, .inl (ab_cA E 1, (23, .inr (.inl (wdf9 16)))))])) (n' := N0 + 5) (cells' := 5) (slots' := 4029) rfl rfl rfl rfl ?_
  refine mg_dup (pc2 := 152) (by decide +kernel) rfl rfl ?_
  refine mg_bi (w := 16) (x := 16) (pc2 := 154) (by decide +kernel) (by decide +kernel) rfl ?_
  refine mg_ldc2 (idx := 66) (v := 19741) (pc2 := 157) (by decide +kernel) rfl (by decide +kernel) ?_
  refine mg_last (f := wdf9 16) (pc2 := 158) (by decide +kernel) rfl 5 rfl (show vp_in (nI 16) 23 from vp_in_nI (by decide) (by decide)) ?_
  refine mg_eq (ws' := (a, .inr (9, [.int 0, .ref (N0), .int 0, .int 0, .ref (N0 + 1), .ref (N0 + 2), .ref (N0 + 3), .int 0, .int 0, .null, .null, .null, .null, .int 0, .null, .null, .null, .null, .int 0, .int 0, .int 0, .null, .null, .null, .null, .int 0, .null, .null, .null, .null, .null, .null, .int 0])) :: (s9_4 E N0 ++ [(N0 + 4, .inl (ab_cA E 1, (23, .inr (.inl (wdf9 17)))))])) (n' := N0 + 5) (cells' := 5) (slots' := 4029) rfl rfl rfl rfl ?_
  refine mg_dup (pc2 := 159) (by decide +kernel) rfl rfl ?_
  refine mg_bi (w := 17) (x := 17) (pc2 := 161) (by decide +kernel) (by decide +kernel) rfl ?_
  refine mg_ldc2 (idx := 68) (v := 1891) (pc2 := 164) (by decide +kernel) rfl (by decide +kernel) ?_
  refine mg_last (f := wdf9 17) (pc2 := 165) (by decide +kernel) rfl 5 rfl (show vp_in (nI 17) 23 from vp_in_nI (by decide) (by decide)) ?_
  refine mg_eq (ws' := (a, .inr (9, [.int 0, .ref (N0), .int 0, .int 0, .ref (N0 + 1), .ref (N0 + 2), .ref (N0 + 3), .int 0, .int 0, .null, .null, .null, .null, .int 0, .null, .null, .null, .null, .int 0, .int 0, .int 0, .null, .null, .null, .null, .int 0, .null, .null, .null, .null, .null, .null, .int 0])) :: (s9_4 E N0 ++ [(N0 + 4, .inl (ab_cA E 1, (23, .inr (.inl (wdf9 18)))))])) (n' := N0 + 5) (cells' := 5) (slots' := 4029) rfl rfl rfl rfl ?_
  refine mg_dup (pc2 := 166) (by decide +kernel) rfl rfl ?_
  refine mg_bi (w := 18) (x := 18) (pc2 := 168) (by decide +kernel) (by decide +kernel) rfl ?_
  refine mg_ldc2 (idx := 70) (v := 573) (pc2 := 171) (by decide +kernel) rfl (by decide +kernel) ?_
  refine mg_last (f := wdf9 18) (pc2 := 172) (by decide +kernel) rfl 5 rfl (show vp_in (nI 18) 23 from vp_in_nI (by decide) (by decide)) ?_
  refine mg_eq (ws' := (a, .inr (9, [.int 0, .ref (N0), .int 0, .int 0, .ref (N0 + 1), .ref (N0 + 2), .ref (N0 + 3), .int 0, .int 0, .null, .null, .null, .null, .int 0, .null, .null, .null, .null, .int 0, .int 0, .int 0, .null, .null, .null, .null, .int 0, .null, .null, .null, .null, .null, .null, .int 0])) :: (s9_4 E N0 ++ [(N0 + 4, .inl (ab_cA E 1, (23, .inr (.inl (wdf9 19)))))])) (n' := N0 + 5) (cells' := 5) (slots' := 4029) rfl rfl rfl rfl ?_
  refine mg_dup (pc2 := 173) (by decide +kernel) rfl rfl ?_
  refine mg_bi (w := 19) (x := 19) (pc2 := 175) (by decide +kernel) (by decide +kernel) rfl ?_
  refine mg_ldc2 (idx := 72) (v := 30910767) (pc2 := 178) (by decide +kernel) rfl (by decide +kernel) ?_
  refine mg_last (f := wdf9 19) (pc2 := 179) (by decide +kernel) rfl 5 rfl (show vp_in (nI 19) 23 from vp_in_nI (by decide) (by decide)) ?_
  refine mg_eq (ws' := (a, .inr (9, [.int 0, .ref (N0), .int 0, .int 0, .ref (N0 + 1), .ref (N0 + 2), .ref (N0 + 3), .int 0, .int 0, .null, .null, .null, .null, .int 0, .null, .null, .null, .null, .int 0, .int 0, .int 0, .null, .null, .null, .null, .int 0, .null, .null, .null, .null, .null, .null, .int 0])) :: (s9_4 E N0 ++ [(N0 + 4, .inl (ab_cA E 1, (23, .inr (.inl (wdf9 20)))))])) (n' := N0 + 5) (cells' := 5) (slots' := 4029) rfl rfl rfl rfl ?_
  refine mg_dup (pc2 := 180) (by decide +kernel) rfl rfl ?_
  refine mg_bi (w := 20) (x := 20) (pc2 := 182) (by decide +kernel) (by decide +kernel) rfl ?_
  refine mg_ldc2 (idx := 74) (v := 671333) (pc2 := 185) (by decide +kernel) rfl (by decide +kernel) ?_
  refine mg_last (f := wdf9 20) (pc2 := 186) (by decide +kernel) rfl 5 rfl (show vp_in (nI 20) 23 from vp_in_nI (by decide) (by decide)) ?_
  refine mg_eq (ws' := (a, .inr (9, [.int 0, .ref (N0), .int 0, .int 0, .ref (N0 + 1), .ref (N0 + 2), .ref (N0 + 3), .int 0, .int 0, .null, .null, .null, .null, .int 0, .null, .null, .null, .null, .int 0, .int 0, .int 0, .null, .null, .null, .null, .int 0, .null, .null, .null, .null, .null, .null, .int 0])) :: (s9_4 E N0 ++ [(N0 + 4, .inl (ab_cA E 1, (23, .inr (.inl (wdf9 21)))))])) (n' := N0 + 5) (cells' := 5) (slots' := 4029) rfl rfl rfl rfl ?_
  refine mg_dup (pc2 := 187) (by decide +kernel) rfl rfl ?_
  refine mg_bi (w := 21) (x := 21) (pc2 := 189) (by decide +kernel) (by decide +kernel) rfl ?_
  refine mg_ldc2 (idx := 76) (v := 620569) (pc2 := 192) (by decide +kernel) rfl (by decide +kernel) ?_
  refine mg_last (f := wdf9 21) (pc2 := 193) (by decide +kernel) rfl 5 rfl (show vp_in (nI 21) 23 from vp_in_nI (by decide) (by decide)) ?_
  refine mg_eq (ws' := (a, .inr (9, [.int 0, .ref (N0), .int 0, .int 0, .ref (N0 + 1), .ref (N0 + 2), .ref (N0 + 3), .int 0, .int 0, .null, .null, .null, .null, .int 0, .null, .null, .null, .null, .int 0, .int 0, .int 0, .null, .null, .null, .null, .int 0, .null, .null, .null, .null, .null, .null, .int 0])) :: (s9_4 E N0 ++ [(N0 + 4, .inl (ab_cA E 1, (23, .inr (.inl (wdf9 22)))))])) (n' := N0 + 5) (cells' := 5) (slots' := 4029) rfl rfl rfl rfl ?_
  refine mg_dup (pc2 := 194) (by decide +kernel) rfl rfl ?_
  refine mg_bi (w := 22) (x := 22) (pc2 := 196) (by decide +kernel) (by decide +kernel) rfl ?_
  refine mg_ldc2 (idx := 78) (v := 1078055329) (pc2 := 199) (by decide +kernel) rfl (by decide +kernel) ?_
  refine mg_last (f := wdf9 22) (pc2 := 200) (by decide +kernel) rfl 5 rfl (show vp_in (nI 22) 23 from vp_in_nI (by decide) (by decide)) ?_
  refine mg_eq (ws' := (a, .inr (9, [.int 0, .ref (N0), .int 0, .int 0, .ref (N0 + 1), .ref (N0 + 2), .ref (N0 + 3), .int 0, .int 0, .null, .null, .null, .null, .int 0, .null, .null, .null, .null, .int 0, .int 0, .int 0, .null, .null, .null, .null, .int 0, .null, .null, .null, .null, .null, .null, .int 0])) :: (s9_4 E N0 ++ [(N0 + 4, .inl (ab_cA E 1, (23, .inr (.inl (wdf9 23)))))])) (n' := N0 + 5) (cells' := 5) (slots' := 4029) rfl rfl rfl rfl ?_
  refine mg_put (idx := 80) (pc2 := 203) (by decide +kernel) (by decide) 0 rfl 9 (by decide) (by decide +kernel) rfl rfl rfl rfl (by show 9 < 33; decide) rfl ?_
  refine mg_eq (ws' := (a, .inr (9, [.int 0, .ref (N0), .int 0, .int 0, .ref (N0 + 1), .ref (N0 + 2), .ref (N0 + 3), .int 0, .int 0, .ref (N0 + 4), .null, .null, .null, .int 0, .null, .null, .null, .null, .int 0, .int 0, .int 0, .null, .null, .null, .null, .int 0, .null, .null, .null, .null, .null, .null, .int 0])) :: s9_5 E N0) (n' := N0 + 5) (cells' := 5) (slots' := 4029) gx_put rfl rfl rfl ?_
  refine mg_al0 (pc2 := 204) (x := a) (by decide +kernel) rfl 0 rfl ?_
  refine mg_si (w := 180) (x := 180) (pc2 := 207) (by decide +kernel) (by decide +kernel) rfl ?_
  refine mg_arr (N' := 180) (a0 := (180, .inl (fun _ => 0))) (pc2 := 209) (by decide +kernel) 0 (by decide) rfl (by decide +kernel) (nz0 180) (by decide +kernel) (by decide +kernel) (Nat.le_of_ble_eq_true rfl) ⟨Nat.le_of_ble_eq_true rfl, Nat.le_of_ble_eq_true rfl⟩ rfl ?_
  refine mg_put (idx := 83) (pc2 := 212) (by decide +kernel) (by decide) 0 rfl 10 (by decide) (by decide +kernel) rfl rfl rfl rfl (by show 10 < 33; decide) rfl ?_
  refine mg_eq (ws' := (a, .inr (9, [.int 0, .ref (N0), .int 0, .int 0, .ref (N0 + 1), .ref (N0 + 2), .ref (N0 + 3), .int 0, .int 0, .ref (N0 + 4), .ref (N0 + 5), .null, .null, .int 0, .null, .null, .null, .null, .int 0, .int 0, .int 0, .null, .null, .null, .null, .int 0, .null, .null, .null, .null, .null, .null, .int 0])) :: s9_6 E N0) (n' := N0 + 6) (cells' := 6) (slots' := 4209) gx_put rfl rfl rfl ?_
  refine mg_al0 (pc2 := 213) (x := a) (by decide +kernel) rfl 0 rfl ?_
  refine mg_si (w := 2200) (x := 2200) (pc2 := 216) (by decide +kernel) (by decide +kernel) rfl ?_
  refine mg_arr (N' := 2200) (a0 := (2200, .inl (fun _ => 0))) (pc2 := 218) (by decide +kernel) 0 (by decide) rfl (by decide +kernel) (nz0 2200) (by decide +kernel) (by decide +kernel) (Nat.le_of_ble_eq_true rfl) ⟨Nat.le_of_ble_eq_true rfl, Nat.le_of_ble_eq_true rfl⟩ rfl ?_
  refine mg_put (idx := 86) (pc2 := 221) (by decide +kernel) (by decide) 0 rfl 11 (by decide) (by decide +kernel) rfl rfl rfl rfl (by show 11 < 33; decide) rfl ?_
  refine mg_eq (ws' := (a, .inr (9, [.int 0, .ref (N0), .int 0, .int 0, .ref (N0 + 1), .ref (N0 + 2), .ref (N0 + 3), .int 0, .int 0, .ref (N0 + 4), .ref (N0 + 5), .ref (N0 + 6), .null, .int 0, .null, .null, .null, .null, .int 0, .int 0, .int 0, .null, .null, .null, .null, .int 0, .null, .null, .null, .null, .null, .null, .int 0])) :: s9_7 E N0) (n' := N0 + 7) (cells' := 7) (slots' := 6409) gx_put rfl rfl rfl ?_
  refine mg_al0 (pc2 := 222) (x := a) (by decide +kernel) rfl 0 rfl ?_
  refine mg_si (w := 2200) (x := 2200) (pc2 := 225) (by decide +kernel) (by decide +kernel) rfl ?_
  refine mg_arr (N' := 2200) (a0 := (2200, .inl (fun _ => 0))) (pc2 := 227) (by decide +kernel) 0 (by decide) rfl (by decide +kernel) (nz0 2200) (by decide +kernel) (by decide +kernel) (Nat.le_of_ble_eq_true rfl) ⟨Nat.le_of_ble_eq_true rfl, Nat.le_of_ble_eq_true rfl⟩ rfl ?_
  refine mg_put (idx := 89) (pc2 := 230) (by decide +kernel) (by decide) 0 rfl 12 (by decide) (by decide +kernel) rfl rfl rfl rfl (by show 12 < 33; decide) rfl ?_
  refine mg_eq (ws' := (a, .inr (9, [.int 0, .ref (N0), .int 0, .int 0, .ref (N0 + 1), .ref (N0 + 2), .ref (N0 + 3), .int 0, .int 0, .ref (N0 + 4), .ref (N0 + 5), .ref (N0 + 6), .ref (N0 + 7), .int 0, .null, .null, .null, .null, .int 0, .int 0, .int 0, .null, .null, .null, .null, .int 0, .null, .null, .null, .null, .null, .null, .int 0])) :: s9_8 E N0) (n' := N0 + 8) (cells' := 8) (slots' := 8609) gx_put rfl rfl rfl ?_
  refine mg_al0 (pc2 := 231) (x := a) (by decide +kernel) rfl 0 rfl ?_
  refine mg_bi (w := 14) (x := 14) (pc2 := 233) (by decide +kernel) (by decide +kernel) rfl ?_
  refine mg_arr (N' := 14) (a0 := (14, .inr (.inl (fun _ => 0)))) (pc2 := 235) (by decide +kernel) 1 (by decide) rfl (by decide +kernel) (nz1 14) (by decide +kernel) (by decide +kernel) (Nat.le_of_ble_eq_true rfl) ⟨Nat.le_of_ble_eq_true rfl, Nat.le_of_ble_eq_true rfl⟩ rfl ?_
  refine mg_put (idx := 92) (pc2 := 238) (by decide +kernel) (by decide) 0 rfl 14 (by decide) (by decide +kernel) rfl rfl rfl rfl (by show 14 < 33; decide) rfl ?_
  refine mg_eq (ws' := (a, .inr (9, [.int 0, .ref (N0), .int 0, .int 0, .ref (N0 + 1), .ref (N0 + 2), .ref (N0 + 3), .int 0, .int 0, .ref (N0 + 4), .ref (N0 + 5), .ref (N0 + 6), .ref (N0 + 7), .int 0, .ref (N0 + 8), .null, .null, .null, .int 0, .int 0, .int 0, .null, .null, .null, .null, .int 0, .null, .null, .null, .null, .null, .null, .int 0])) :: s9_9 E N0) (n' := N0 + 9) (cells' := 9) (slots' := 8623) gx_put rfl rfl rfl ?_
  refine mg_al0 (pc2 := 239) (x := a) (by decide +kernel) rfl 0 rfl ?_
  refine mg_bi (w := 14) (x := 14) (pc2 := 241) (by decide +kernel) (by decide +kernel) rfl ?_
  refine mg_arr (N' := 14) (a0 := (14, .inr (.inl (fun _ => 0)))) (pc2 := 243) (by decide +kernel) 1 (by decide) rfl (by decide +kernel) (nz1 14) (by decide +kernel) (by decide +kernel) (Nat.le_of_ble_eq_true rfl) ⟨Nat.le_of_ble_eq_true rfl, Nat.le_of_ble_eq_true rfl⟩ rfl ?_
  refine mg_put (idx := 95) (pc2 := 246) (by decide +kernel) (by decide) 0 rfl 15 (by decide) (by decide +kernel) rfl rfl rfl rfl (by show 15 < 33; decide) rfl ?_
  refine mg_eq (ws' := (a, .inr (9, [.int 0, .ref (N0), .int 0, .int 0, .ref (N0 + 1), .ref (N0 + 2), .ref (N0 + 3), .int 0, .int 0, .ref (N0 + 4), .ref (N0 + 5), .ref (N0 + 6), .ref (N0 + 7), .int 0, .ref (N0 + 8), .ref (N0 + 9), .null, .null, .int 0, .int 0, .int 0, .null, .null, .null, .null, .int 0, .null, .null, .null, .null, .null, .null, .int 0])) :: s9_10 E N0) (n' := N0 + 10) (cells' := 10) (slots' := 8637) gx_put rfl rfl rfl ?_
  refine mg_al0 (pc2 := 247) (x := a) (by decide +kernel) rfl 0 rfl ?_
  refine mg_bi (w := 14) (x := 14) (pc2 := 249) (by decide +kernel) (by decide +kernel) rfl ?_
  refine mg_arr (N' := 14) (a0 := (14, .inl (fun _ => 0))) (pc2 := 251) (by decide +kernel) 0 (by decide) rfl (by decide +kernel) (nz0 14) (by decide +kernel) (by decide +kernel) (Nat.le_of_ble_eq_true rfl) ⟨Nat.le_of_ble_eq_true rfl, Nat.le_of_ble_eq_true rfl⟩ rfl ?_
  refine mg_put (idx := 98) (pc2 := 254) (by decide +kernel) (by decide) 0 rfl 16 (by decide) (by decide +kernel) rfl rfl rfl rfl (by show 16 < 33; decide) rfl ?_
  refine mg_eq (ws' := (a, .inr (9, [.int 0, .ref (N0), .int 0, .int 0, .ref (N0 + 1), .ref (N0 + 2), .ref (N0 + 3), .int 0, .int 0, .ref (N0 + 4), .ref (N0 + 5), .ref (N0 + 6), .ref (N0 + 7), .int 0, .ref (N0 + 8), .ref (N0 + 9), .ref (N0 + 10), .null, .int 0, .int 0, .int 0, .null, .null, .null, .null, .int 0, .null, .null, .null, .null, .null, .null, .int 0])) :: s9_11 E N0) (n' := N0 + 11) (cells' := 11) (slots' := 8651) gx_put rfl rfl rfl ?_
  refine mg_al0 (pc2 := 255) (x := a) (by decide +kernel) rfl 0 rfl ?_
  refine mg_bi (w := 14) (x := 14) (pc2 := 257) (by decide +kernel) (by decide +kernel) rfl ?_
  refine mg_arr (N' := 14) (a0 := (14, .inl (fun _ => 0))) (pc2 := 259) (by decide +kernel) 0 (by decide) rfl (by decide +kernel) (nz0 14) (by decide +kernel) (by decide +kernel) (Nat.le_of_ble_eq_true rfl) ⟨Nat.le_of_ble_eq_true rfl, Nat.le_of_ble_eq_true rfl⟩ rfl ?_
  refine mg_put (idx := 101) (pc2 := 262) (by decide +kernel) (by decide) 0 rfl 17 (by decide) (by decide +kernel) rfl rfl rfl rfl (by show 17 < 33; decide) rfl ?_
  refine mg_eq (ws' := (a, .inr (9, [.int 0, .ref (N0), .int 0, .int 0, .ref (N0 + 1), .ref (N0 + 2), .ref (N0 + 3), .int 0, .int 0, .ref (N0 + 4), .ref (N0 + 5), .ref (N0 + 6), .ref (N0 + 7), .int 0, .ref (N0 + 8), .ref (N0 + 9), .ref (N0 + 10), .ref (N0 + 11), .int 0, .int 0, .int 0, .null, .null, .null, .null, .int 0, .null, .null, .null, .null, .null, .null, .int 0])) :: s9_12 E N0) (n' := N0 + 12) (cells' := 12) (slots' := 8665) gx_put rfl rfl rfl ?_
  refine mg_al0 (pc2 := 263) (x := a) (by decide +kernel) rfl 0 rfl ?_
  refine mg_si (w := 250) (x := 250) (pc2 := 266) (by decide +kernel) (by decide +kernel) rfl ?_
  refine mg_arr (N' := 250) (a0 := (250, .inl (fun _ => 0))) (pc2 := 268) (by decide +kernel) 0 (by decide) rfl (by decide +kernel) (nz0 250) (by decide +kernel) (by decide +kernel) (Nat.le_of_ble_eq_true rfl) ⟨Nat.le_of_ble_eq_true rfl, Nat.le_of_ble_eq_true rfl⟩ rfl ?_
  refine mg_put (idx := 104) (pc2 := 271) (by decide +kernel) (by decide) 0 rfl 21 (by decide) (by decide +kernel) rfl rfl rfl rfl (by show 21 < 33; decide) rfl ?_
  refine mg_eq (ws' := (a, .inr (9, [.int 0, .ref (N0), .int 0, .int 0, .ref (N0 + 1), .ref (N0 + 2), .ref (N0 + 3), .int 0, .int 0, .ref (N0 + 4), .ref (N0 + 5), .ref (N0 + 6), .ref (N0 + 7), .int 0, .ref (N0 + 8), .ref (N0 + 9), .ref (N0 + 10), .ref (N0 + 11), .int 0, .int 0, .int 0, .ref (N0 + 12), .null, .null, .null, .int 0, .null, .null, .null, .null, .null, .null, .int 0])) :: s9_13 E N0) (n' := N0 + 13) (cells' := 13) (slots' := 8915) gx_put rfl rfl rfl ?_
  refine mg_al0 (pc2 := 272) (x := a) (by decide +kernel) rfl 0 rfl ?_
  refine mg_ic (v := 4) (x := 4) (pc2 := 273) (by decide +kernel) (by decide +kernel) rfl ?_
  refine mg_arr (N' := 4) (a0 := (4, .inl (fun _ => 0))) (pc2 := 275) (by decide +kernel) 0 (by decide) rfl (by decide +kernel) (nz0 4) (by decide +kernel) (by decide +kernel) (Nat.le_of_ble_eq_true rfl) ⟨Nat.le_of_ble_eq_true rfl, Nat.le_of_ble_eq_true rfl⟩ rfl ?_
  refine mg_put (idx := 107) (pc2 := 278) (by decide +kernel) (by decide) 0 rfl 22 (by decide) (by decide +kernel) rfl rfl rfl rfl (by show 22 < 33; decide) rfl ?_
  refine mg_eq (ws' := (a, .inr (9, [.int 0, .ref (N0), .int 0, .int 0, .ref (N0 + 1), .ref (N0 + 2), .ref (N0 + 3), .int 0, .int 0, .ref (N0 + 4), .ref (N0 + 5), .ref (N0 + 6), .ref (N0 + 7), .int 0, .ref (N0 + 8), .ref (N0 + 9), .ref (N0 + 10), .ref (N0 + 11), .int 0, .int 0, .int 0, .ref (N0 + 12), .ref (N0 + 13), .null, .null, .int 0, .null, .null, .null, .null, .null, .null, .int 0])) :: s9_14 E N0) (n' := N0 + 14) (cells' := 14) (slots' := 8919) gx_put rfl rfl rfl ?_
  refine mg_al0 (pc2 := 279) (x := a) (by decide +kernel) rfl 0 rfl ?_
  refine mg_si (w := 1100) (x := 1100) (pc2 := 282) (by decide +kernel) (by decide +kernel) rfl ?_
  refine mg_arr (N' := 1100) (a0 := (1100, .inl (fun _ => 0))) (pc2 := 284) (by decide +kernel) 0 (by decide) rfl (by decide +kernel) (nz0 1100) (by decide +kernel) (by decide +kernel) (Nat.le_of_ble_eq_true rfl) ⟨Nat.le_of_ble_eq_true rfl, Nat.le_of_ble_eq_true rfl⟩ rfl ?_
  refine mg_put (idx := 110) (pc2 := 287) (by decide +kernel) (by decide) 0 rfl 23 (by decide) (by decide +kernel) rfl rfl rfl rfl (by show 23 < 33; decide) rfl ?_
  refine mg_eq (ws' := (a, .inr (9, [.int 0, .ref (N0), .int 0, .int 0, .ref (N0 + 1), .ref (N0 + 2), .ref (N0 + 3), .int 0, .int 0, .ref (N0 + 4), .ref (N0 + 5), .ref (N0 + 6), .ref (N0 + 7), .int 0, .ref (N0 + 8), .ref (N0 + 9), .ref (N0 + 10), .ref (N0 + 11), .int 0, .int 0, .int 0, .ref (N0 + 12), .ref (N0 + 13), .ref (N0 + 14), .null, .int 0, .null, .null, .null, .null, .null, .null, .int 0])) :: s9_15 E N0) (n' := N0 + 15) (cells' := 15) (slots' := 10019) gx_put rfl rfl rfl ?_
  refine mg_al0 (pc2 := 288) (x := a) (by decide +kernel) rfl 0 rfl ?_
  refine mg_si (w := 1081) (x := 1081) (pc2 := 291) (by decide +kernel) (by decide +kernel) rfl ?_
  refine mg_arr (N' := 1081) (a0 := (1081, .inl (fun _ => 0))) (pc2 := 293) (by decide +kernel) 0 (by decide) rfl (by decide +kernel) (nz0 1081) (by decide +kernel) (by decide +kernel) (Nat.le_of_ble_eq_true rfl) ⟨Nat.le_of_ble_eq_true rfl, Nat.le_of_ble_eq_true rfl⟩ rfl ?_
  refine mg_put (idx := 113) (pc2 := 296) (by decide +kernel) (by decide) 0 rfl 24 (by decide) (by decide +kernel) rfl rfl rfl rfl (by show 24 < 33; decide) rfl ?_
  refine mg_eq (ws' := (a, .inr (9, [.int 0, .ref (N0), .int 0, .int 0, .ref (N0 + 1), .ref (N0 + 2), .ref (N0 + 3), .int 0, .int 0, .ref (N0 + 4), .ref (N0 + 5), .ref (N0 + 6), .ref (N0 + 7), .int 0, .ref (N0 + 8), .ref (N0 + 9), .ref (N0 + 10), .ref (N0 + 11), .int 0, .int 0, .int 0, .ref (N0 + 12), .ref (N0 + 13), .ref (N0 + 14), .ref (N0 + 15), .int 0, .null, .null, .null, .null, .null, .null, .int 0])) :: s9_16 E N0) (n' := N0 + 16) (cells' := 16) (slots' := 11100) gx_put rfl rfl rfl ?_
  refine mg_al0 (pc2 := 297) (x := a) (by decide +kernel) rfl 0 rfl ?_
  refine mg_ic (v := 4) (x := 4) (pc2 := 298) (by decide +kernel) (by decide +kernel) rfl ?_
  refine mg_arr (N' := 4) (a0 := (4, .inl (fun _ => 0))) (pc2 := 300) (by decide +kernel) 3 (by decide) rfl (by decide +kernel) (nz3 4) (by decide +kernel) (by decide +kernel) (Nat.le_of_ble_eq_true rfl) ⟨Nat.le_of_ble_eq_true rfl, Nat.le_of_ble_eq_true rfl⟩ rfl ?_
  refine mg_put (idx := 116) (pc2 := 303) (by decide +kernel) (by decide) 0 rfl 26 (by decide) (by decide +kernel) rfl rfl rfl rfl (by show 26 < 33; decide) rfl ?_
  refine mg_eq (ws' := (a, .inr (9, [.int 0, .ref (N0), .int 0, .int 0, .ref (N0 + 1), .ref (N0 + 2), .ref (N0 + 3), .int 0, .int 0, .ref (N0 + 4), .ref (N0 + 5), .ref (N0 + 6), .ref (N0 + 7), .int 0, .ref (N0 + 8), .ref (N0 + 9), .ref (N0 + 10), .ref (N0 + 11), .int 0, .int 0, .int 0, .ref (N0 + 12), .ref (N0 + 13), .ref (N0 + 14), .ref (N0 + 15), .int 0, .ref (N0 + 16), .null, .null, .null, .null, .null, .int 0])) :: s9_17 E N0) (n' := N0 + 17) (cells' := 17) (slots' := 11104) gx_put rfl rfl rfl ?_
  refine mg_al0 (pc2 := 304) (x := a) (by decide +kernel) rfl 0 rfl ?_
  refine mg_bi (w := 6) (x := 6) (pc2 := 306) (by decide +kernel) (by decide +kernel) rfl ?_
  refine mg_arr (N' := 6) (a0 := (6, .inl (fun _ => 0))) (pc2 := 308) (by decide +kernel) 0 (by decide) rfl (by decide +kernel) (nz0 6) (by decide +kernel) (by decide +kernel) (Nat.le_of_ble_eq_true rfl) ⟨Nat.le_of_ble_eq_true rfl, Nat.le_of_ble_eq_true rfl⟩ rfl ?_
  refine mg_put (idx := 120) (pc2 := 311) (by decide +kernel) (by decide) 0 rfl 27 (by decide) (by decide +kernel) rfl rfl rfl rfl (by show 27 < 33; decide) rfl ?_
  refine mg_eq (ws' := (a, .inr (9, [.int 0, .ref (N0), .int 0, .int 0, .ref (N0 + 1), .ref (N0 + 2), .ref (N0 + 3), .int 0, .int 0, .ref (N0 + 4), .ref (N0 + 5), .ref (N0 + 6), .ref (N0 + 7), .int 0, .ref (N0 + 8), .ref (N0 + 9), .ref (N0 + 10), .ref (N0 + 11), .int 0, .int 0, .int 0, .ref (N0 + 12), .ref (N0 + 13), .ref (N0 + 14), .ref (N0 + 15), .int 0, .ref (N0 + 16), .ref (N0 + 17), .null, .null, .null, .null, .int 0])) :: s9_18 E N0) (n' := N0 + 18) (cells' := 18) (slots' := 11110) gx_put rfl rfl rfl ?_
  refine mg_al0 (pc2 := 312) (x := a) (by decide +kernel) rfl 0 rfl ?_
  refine mg_bi (w := 6) (x := 6) (pc2 := 314) (by decide +kernel) (by decide +kernel) rfl ?_
  refine mg_arr (N' := 6) (a0 := (6, .inl (fun _ => 0))) (pc2 := 316) (by decide +kernel) 0 (by decide) rfl (by decide +kernel) (nz0 6) (by decide +kernel) (by decide +kernel) (Nat.le_of_ble_eq_true rfl) ⟨Nat.le_of_ble_eq_true rfl, Nat.le_of_ble_eq_true rfl⟩ rfl ?_
  refine mg_put (idx := 123) (pc2 := 319) (by decide +kernel) (by decide) 0 rfl 28 (by decide) (by decide +kernel) rfl rfl rfl rfl (by show 28 < 33; decide) rfl ?_
  refine mg_eq (ws' := (a, .inr (9, [.int 0, .ref (N0), .int 0, .int 0, .ref (N0 + 1), .ref (N0 + 2), .ref (N0 + 3), .int 0, .int 0, .ref (N0 + 4), .ref (N0 + 5), .ref (N0 + 6), .ref (N0 + 7), .int 0, .ref (N0 + 8), .ref (N0 + 9), .ref (N0 + 10), .ref (N0 + 11), .int 0, .int 0, .int 0, .ref (N0 + 12), .ref (N0 + 13), .ref (N0 + 14), .ref (N0 + 15), .int 0, .ref (N0 + 16), .ref (N0 + 17), .ref (N0 + 18), .null, .null, .null, .int 0])) :: s9_19 E N0) (n' := N0 + 19) (cells' := 19) (slots' := 11116) gx_put rfl rfl rfl ?_
  refine mg_al0 (pc2 := 320) (x := a) (by decide +kernel) rfl 0 rfl ?_
  refine mg_bi (w := 6) (x := 6) (pc2 := 322) (by decide +kernel) (by decide +kernel) rfl ?_
  refine mg_arr (N' := 6) (a0 := (6, .inl (fun _ => 0))) (pc2 := 324) (by decide +kernel) 0 (by decide) rfl (by decide +kernel) (nz0 6) (by decide +kernel) (by decide +kernel) (Nat.le_of_ble_eq_true rfl) ⟨Nat.le_of_ble_eq_true rfl, Nat.le_of_ble_eq_true rfl⟩ rfl ?_
  refine mg_put (idx := 126) (pc2 := 327) (by decide +kernel) (by decide) 0 rfl 29 (by decide) (by decide +kernel) rfl rfl rfl rfl (by show 29 < 33; decide) rfl ?_
  refine mg_eq (ws' := (a, .inr (9, [.int 0, .ref (N0), .int 0, .int 0, .ref (N0 + 1), .ref (N0 + 2), .ref (N0 + 3), .int 0, .int 0, .ref (N0 + 4), .ref (N0 + 5), .ref (N0 + 6), .ref (N0 + 7), .int 0, .ref (N0 + 8), .ref (N0 + 9), .ref (N0 + 10), .ref (N0 + 11), .int 0, .int 0, .int 0, .ref (N0 + 12), .ref (N0 + 13), .ref (N0 + 14), .ref (N0 + 15), .int 0, .ref (N0 + 16), .ref (N0 + 17), .ref (N0 + 18), .ref (N0 + 19), .null, .null, .int 0])) :: s9_20 E N0) (n' := N0 + 20) (cells' := 20) (slots' := 11122) gx_put rfl rfl rfl ?_
  refine mg_al0 (pc2 := 328) (x := a) (by decide +kernel) rfl 0 rfl ?_
  refine mg_bi (w := 6) (x := 6) (pc2 := 330) (by decide +kernel) (by decide +kernel) rfl ?_
  refine mg_arr (N' := 6) (a0 := (6, .inl (fun _ => 0))) (pc2 := 332) (by decide +kernel) 0 (by decide) rfl (by decide +kernel) (nz0 6) (by decide +kernel) (by decide +kernel) (Nat.le_of_ble_eq_true rfl) ⟨Nat.le_of_ble_eq_true rfl, Nat.le_of_ble_eq_true rfl⟩ rfl ?_
  refine mg_put (idx := 129) (pc2 := 335) (by decide +kernel) (by decide) 0 rfl 30 (by decide) (by decide +kernel) rfl rfl rfl rfl (by show 30 < 33; decide) rfl ?_
  refine mg_eq (ws' := (a, .inr (9, [.int 0, .ref (N0), .int 0, .int 0, .ref (N0 + 1), .ref (N0 + 2), .ref (N0 + 3), .int 0, .int 0, .ref (N0 + 4), .ref (N0 + 5), .ref (N0 + 6), .ref (N0 + 7), .int 0, .ref (N0 + 8), .ref (N0 + 9), .ref (N0 + 10), .ref (N0 + 11), .int 0, .int 0, .int 0, .ref (N0 + 12), .ref (N0 + 13), .ref (N0 + 14), .ref (N0 + 15), .int 0, .ref (N0 + 16), .ref (N0 + 17), .ref (N0 + 18), .ref (N0 + 19), .ref (N0 + 20), .null, .int 0])) :: s9_21 E N0) (n' := N0 + 21) (cells' := 21) (slots' := 11128) gx_put rfl rfl rfl ?_
  refine mg_al0 (pc2 := 336) (x := a) (by decide +kernel) rfl 0 rfl ?_
  refine mg_bi (w := 6) (x := 6) (pc2 := 338) (by decide +kernel) (by decide +kernel) rfl ?_
  refine mg_arr (N' := 6) (a0 := (6, .inl (fun _ => 0))) (pc2 := 340) (by decide +kernel) 0 (by decide) rfl (by decide +kernel) (nz0 6) (by decide +kernel) (by decide +kernel) (Nat.le_of_ble_eq_true rfl) ⟨Nat.le_of_ble_eq_true rfl, Nat.le_of_ble_eq_true rfl⟩ rfl ?_
  refine mg_put (idx := 132) (pc2 := 343) (by decide +kernel) (by decide) 0 rfl 31 (by decide) (by decide +kernel) rfl rfl rfl rfl (by show 31 < 33; decide) rfl ?_
  refine mg_eq (ws' := (a, .inr (9, [.int 0, .ref (N0), .int 0, .int 0, .ref (N0 + 1), .ref (N0 + 2), .ref (N0 + 3), .int 0, .int 0, .ref (N0 + 4), .ref (N0 + 5), .ref (N0 + 6), .ref (N0 + 7), .int 0, .ref (N0 + 8), .ref (N0 + 9), .ref (N0 + 10), .ref (N0 + 11), .int 0, .int 0, .int 0, .ref (N0 + 12), .ref (N0 + 13), .ref (N0 + 14), .ref (N0 + 15), .int 0, .ref (N0 + 16), .ref (N0 + 17), .ref (N0 + 18), .ref (N0 + 19), .ref (N0 + 20), .ref (N0 + 21), .int 0])) :: s9_22 E N0) (n' := N0 + 22) (cells' := 22) (slots' := 11134) gx_put rfl rfl rfl ?_
  refine mg_eq (ws' := ab_wd (E9 E a N0) 1 v9) (n' := N0 + 22) (cells' := 22) (slots' := 11134) (w9_eq E a N0) rfl rfl rfl ?_
  refine mg_al0 (pc2 := 344) (x := a) (by decide +kernel) rfl 0 rfl ?_
  refine mg_ic (v := 0) (x := 0) (pc2 := 345) (by decide +kernel) (by decide +kernel) rfl ?_
  refine mg_pool (k := 135) (pc2 := 348) (bs := [vI 0]) (CX10_standsAsAlways 0 v9) h1 rfl miX10_standsAsAlways mvX10_standsAsAlways rfl (ab_inT 1457 (by decide +kernel) (by decide +kernel)) (by decide +kernel) rfl ⟨by decide, by decide, Nat.le_refl _, Nat.le_refl _⟩ rfl ?_
  refine mg_al0 (pc2 := 349) (x := a) (by decide +kernel) rfl 0 rfl ?_
  refine mg_pool (k := 139) (pc2 := 352) (bs := []) (CX10_begins v1) h2 rfl miX10_begins mvX10_begins rfl (ab_inT 1461 (by decide +kernel) (by decide +kernel)) (by decide +kernel) rfl ⟨by decide, by decide, Nat.le_refl _, Nat.le_refl _⟩ rfl ?_
  exact mg_vret (st := []) (by decide +kernel) rfl rfl rfl rfl
