/-! rests: the class's answer is the reference's -/
theorem g_eq (own other a b c : Int32) (u : ab_S) : fX10_getsBy own other a b c u = some (pR_g a b c own other, u) := by
  unfold fX10_getsBy pR_g
  cases decide (own = 1) <;> cases decide (other = 1) <;> rfl
theorem w_eq (x : Int32) (u : ab_S) : fX10_within x 0 9 u = some (pR_b x, u) := by
  unfold fX10_within pR_b
  by_cases e : x < 0
  · simp only [e, i10, i00, decide_true, decide_false, cnd_t, cnd_f, gd_nil, gd_t, b1_0, b1_1, sw_nil, sw_cons, obs]
  · by_cases e2 : x ≤ 9
    · simp only [e, e2, i10, i00, decide_true, decide_false, cnd_t, cnd_f, gd_nil, gd_t, b1_0, b1_1, sw_nil, sw_cons, obs]
    · simp only [e, e2, i10, i00, decide_true, decide_false, cnd_t, cnd_f, gd_nil, gd_t, b1_0, b1_1, sw_nil, sw_cons, obs]
theorem k_div : ∀ k, k < 4 → nI k / 2 = nI k >>> ((1 : Int32) &&& 31) ∧ nI k - (nI k >>> ((1 : Int32) &&& 31)) * 2 = nI k &&& 1 := by decide +kernel
theorem r_step {k : Nat} (hk : k < 4) (N : Nat) (v1 v2 v3 v4 v6 v7 : Int32) (u : ab_S) : fX10_rests_52 (N + 1) v1 v2 v3 v4 1 v6 v7 (nI k) u = bif decide (pR_i v1 v2 v3 (nI k) = 0) then fX10_rests_52 N v1 v2 v3 v4 1 (v6 + 0) v7 (nI (k + 1)) u else (bif decide (v6 = v4) then fX10_rests_52 N v1 v2 v3 v4 1 (v6 + 1) (nI k) (nI (k + 1)) u else fX10_rests_52 N v1 v2 v3 v4 1 (v6 + 1) v7 (nI (k + 1)) u) := by
  obtain ⟨e1, e2⟩ := k_div k hk
  have lt : (nI k < 4) = True := eq_true (show nI k < nI 4 from (nI_ltI (by omega) (by decide)).mpr hk)
  have ek : nI k + 1 = nI (k + 1) := nI_1 k
  rw [fX10_rests_52]
  simp only [lt, i10, decide_true, decide_false, cnd_t, cnd_f, e2, e1, g_eq, obs, show ((2 : Nat) = 0) = False from eq_false (by decide), not_false_eq_true, gd_t, gd_nil]
  unfold fX10_rests_130 fX10_rests_151 pR_i
  by_cases c1 : pR_g v1 v2 v3 (1 - nI k >>> ((1 : Int32) &&& 31)) (nI k &&& 1) ≤ pR_g v1 v2 v3 (nI k >>> ((1 : Int32) &&& 31)) (nI k &&& 1)
  · by_cases c2 : pR_g v1 v2 v3 (1 - (nI k &&& 1)) (nI k >>> ((1 : Int32) &&& 31)) ≤ pR_g v1 v2 v3 (nI k &&& 1) (nI k >>> ((1 : Int32) &&& 31))
    · by_cases c3 : v6 = v4
      · simp only [c1, c2, c3, i10, i00, decide_true, decide_false, cnd_t, cnd_f, gd_nil, gd_t, b1_0, b1_1, sw_nil, sw_cons, obs, ek]
      · simp only [c1, c2, c3, i10, i00, decide_true, decide_false, cnd_t, cnd_f, gd_nil, gd_t, b1_0, b1_1, sw_nil, sw_cons, obs, ek]
    · simp only [c1, c2, i10, i00, decide_true, decide_false, cnd_t, cnd_f, gd_nil, gd_t, b1_0, b1_1, sw_nil, sw_cons, obs, ek]
  · simp only [c1, i10, i00, decide_true, decide_false, cnd_t, cnd_f, gd_nil, gd_t, b1_0, b1_1, sw_nil, sw_cons, obs, ek]
theorem r_end (N : Nat) (v1 v2 v3 v4 v6 v7 : Int32) (u : ab_S) : fX10_rests_52 (N + 1) v1 v2 v3 v4 1 v6 v7 (nI 4) u = fX10_rests_174 v4 1 v6 v7 u := by
  rw [fX10_rests_52]
  simp only [show (nI 4 < 4) = False from eq_false (by decide +kernel), decide_false, cnd_f]
theorem c_step {k : Nat} (hk : k < 4) (N : Nat) (v1 v2 v3 v4 v5 : Int32) : pR_44 (N + 1) v1 v2 v3 v4 v5 (nI k) = bif decide (pR_i v1 v2 v3 (nI k) = 0) then pR_44 N v1 v2 v3 v4 v5 (nI (k + 1)) else (bif decide (v5 = v4) then some (nI k) else pR_44 N v1 v2 v3 v4 (v5 + 1) (nI (k + 1))) := by
  have lt : (nI k < 4) = True := eq_true (show nI k < nI 4 from (nI_ltI (by omega) (by decide)).mpr hk)
  rw [pR_44]
  simp only [lt, decide_true, cnd_t, show nI k + 1 = nI (k + 1) from nI_1 k]
theorem c_end (N : Nat) (v1 v2 v3 v4 v5 : Int32) : pR_44 (N + 1) v1 v2 v3 v4 v5 (nI 4) = pR_80 v4 v5 := by
  rw [pR_44]
  simp only [show (nI 4 < 4) = False from eq_false (by decide +kernel), decide_false, cnd_f]
theorem add0 (x : Int32) : x + 0 = x := Int32.add_zero x
theorem le00 : ((0 : Int32) ≤ 0) = True := eq_true (by decide +kernel)
theorem le10 : ((1 : Int32) ≤ 0) = False := eq_false (by decide +kernel)
-- found already
theorem r_A (v1 v2 v3 : Int32) {w r : Nat} (hw : w < 100) (hr : r < 4) : ∀ d k j N (u : ab_S), k + d = 4 → d < N → w < j → j ≤ k → fX10_rests_52 N v1 v2 v3 (nI w) 1 (nI j) (nI r) (nI k) u = some (nI r, sI u 0 0 0) := by
  intro d
  induction d with
  | zero =>
    intro k j N u hd hN hj hk
    obtain ⟨N, rfl⟩ : ∃ m, N = m + 1 := ⟨N - 1, by omega⟩
    have ek : k = 4 := by omega
    subst ek
    rw [r_end]
    unfold fX10_rests_174 fX10_rests_195
    simp only [i10, i10, i00, decide_true, decide_false, cnd_t, cnd_f, gd_nil, gd_t, b1_0, b1_1, sw_nil, sw_cons, obs, show (nI w < 0) = False from eq_false (nI_pos (by omega)), show (nI r < 0) = False from eq_false (nI_pos (by omega)), sI_at, sI_l, sJ_at, sJ_i, sJ_m, sM_at, sM_i, sM_l, Nat.reduceEqDiff, false_and, and_false, true_and, and_true, and_self, if_false, if_true, ite_false, ite_true, le00]
  | succ d ih =>
    intro k j N u hd hN hj hk
    obtain ⟨N, rfl⟩ : ∃ m, N = m + 1 := ⟨N - 1, by omega⟩
    have ne : (nI j = nI w) = False := eq_false fun z => by
      have := (nI_eq2 (by omega) (by omega)).mp z
      omega
    rw [r_step (by omega)]
    by_cases e : pR_i v1 v2 v3 (nI k) = 0
    · simp only [e, i10, i00, decide_true, decide_false, cnd_t, cnd_f, gd_nil, gd_t, b1_0, b1_1, sw_nil, sw_cons, obs, add0]
      exact ih (k + 1) j N u (by omega) (by omega) hj (by omega)
    · simp only [e, ne, i10, i00, decide_true, decide_false, cnd_t, cnd_f, gd_nil, gd_t, b1_0, b1_1, sw_nil, sw_cons, obs, show nI j + 1 = nI (j + 1) from nI_1 j]
      exact ih (k + 1) (j + 1) N u (by omega) (by omega) (by omega) (by omega)
-- one is looked for
theorem r_B (v1 v2 v3 : Int32) {w : Nat} (hw : w < 100) : ∀ d k j N (u : ab_S), k + d = 4 → d < N → j ≤ w → j ≤ k → (∃ r, pR_44 N v1 v2 v3 (nI w) (nI j) (nI k) = some r ∧ fX10_rests_52 N v1 v2 v3 (nI w) 1 (nI j) (-1) (nI k) u = some (r, sI u 0 0 0)) ∨ (pR_44 N v1 v2 v3 (nI w) (nI j) (nI k) = none ∧ ∃ x, fX10_rests_52 N v1 v2 v3 (nI w) 1 (nI j) (-1) (nI k) u = some (x, sI u 0 0 1)) := by
  intro d
  induction d with
  | zero =>
    intro k j N u hd hN hj hk
    obtain ⟨N, rfl⟩ : ∃ m, N = m + 1 := ⟨N - 1, by omega⟩
    have ek : k = 4 := by omega
    subst ek
    rw [r_end, c_end]
    refine Or.inr ⟨?_, 0, ?_⟩
    · unfold pR_80
      simp only [show (nI w = -1) = False from eq_false (fun z => (nI_nm1 (by omega)).mp z), decide_false, cnd_f]
    · unfold fX10_rests_174 fX10_rests_195
      simp only [i10, i10, i00, decide_true, decide_false, cnd_t, cnd_f, gd_nil, gd_t, b1_0, b1_1, sw_nil, sw_cons, obs, show (nI w < 0) = False from eq_false (nI_pos (by omega)), show ((-1 : Int32) < 0) = True from eq_true (by decide +kernel), sI_at, sI_l, sJ_at, sJ_i, sJ_m, sM_at, sM_i, sM_l, Nat.reduceEqDiff, false_and, and_false, true_and, and_true, and_self, if_false, if_true, ite_false, ite_true, le10]
  | succ d ih =>
    intro k j N u hd hN hj hk
    obtain ⟨N, rfl⟩ : ∃ m, N = m + 1 := ⟨N - 1, by omega⟩
    rw [r_step (by omega), c_step (by omega)]
    by_cases e : pR_i v1 v2 v3 (nI k) = 0
    · simp only [e, i10, i00, decide_true, decide_false, cnd_t, cnd_f, gd_nil, gd_t, b1_0, b1_1, sw_nil, sw_cons, obs, add0]
      exact ih (k + 1) j N u (by omega) (by omega) hj (by omega)
    · by_cases e2 : j = w
      · subst e2
        simp only [e, i10, i00, decide_true, decide_false, cnd_t, cnd_f, gd_nil, gd_t, b1_0, b1_1, sw_nil, sw_cons, obs]
        refine Or.inl ⟨nI k, rfl, ?_⟩
        rw [show nI j + 1 = nI (j + 1) from nI_1 j]
        exact r_A v1 v2 v3 hw (by omega) d (k + 1) (j + 1) N u (by omega) (by omega) (by omega) (by omega)
      · have ne : (nI j = nI w) = False := eq_false fun z => e2 ((nI_eq2 (by omega) (by omega)).mp z)
        simp only [e, ne, i10, i00, decide_true, decide_false, cnd_t, cnd_f, gd_nil, gd_t, b1_0, b1_1, sw_nil, sw_cons, obs, show nI j + 1 = nI (j + 1) from nI_1 j]
        exact ih (k + 1) (j + 1) N u (by omega) (by omega) (by omega) (by omega)
-- far away
theorem r_F (v1 v2 v3 v4 : Int32) (h4 : ¬ v4 < 0) (hb : ∀ j, j < 5 → ¬ nI j = v4) : ∀ d k j N (u : ab_S), k + d = 4 → d < N → j ≤ k → pR_44 N v1 v2 v3 v4 (nI j) (nI k) = none ∧ ∃ x, fX10_rests_52 N v1 v2 v3 v4 1 (nI j) (-1) (nI k) u = some (x, sI u 0 0 1) := by
  intro d
  induction d with
  | zero =>
    intro k j N u hd hN hk
    obtain ⟨N, rfl⟩ : ∃ m, N = m + 1 := ⟨N - 1, by omega⟩
    have ek : k = 4 := by omega
    subst ek
    rw [r_end, c_end]
    refine ⟨?_, 0, ?_⟩
    · unfold pR_80
      simp only [show (v4 = -1) = False from eq_false (fun z => h4 (by rw [z]; decide +kernel)), decide_false, cnd_f]
    · unfold fX10_rests_174 fX10_rests_195
      simp only [i10, i10, i00, decide_true, decide_false, cnd_t, cnd_f, gd_nil, gd_t, b1_0, b1_1, sw_nil, sw_cons, obs, h4, show ((-1 : Int32) < 0) = True from eq_true (by decide +kernel), sI_at, sI_l, sJ_at, sJ_i, sJ_m, sM_at, sM_i, sM_l, Nat.reduceEqDiff, false_and, and_false, true_and, and_true, and_self, if_false, if_true, ite_false, ite_true, le10]
  | succ d ih =>
    intro k j N u hd hN hk
    obtain ⟨N, rfl⟩ : ∃ m, N = m + 1 := ⟨N - 1, by omega⟩
    rw [r_step (by omega), c_step (by omega)]
    by_cases e : pR_i v1 v2 v3 (nI k) = 0
    · simp only [e, i10, i00, decide_true, decide_false, cnd_t, cnd_f, gd_nil, gd_t, b1_0, b1_1, sw_nil, sw_cons, obs, add0]
      exact ih (k + 1) j N u (by omega) (by omega) (by omega)
    · simp only [e, hb j (by omega), i10, i00, decide_true, decide_false, cnd_t, cnd_f, gd_nil, gd_t, b1_0, b1_1, sw_nil, sw_cons, obs, show nI j + 1 = nI (j + 1) from nI_1 j]
      exact ih (k + 1) (j + 1) N u (by omega) (by omega) (by omega)
-- how many there are
theorem r_C (v1 v2 v3 : Int32) : ∀ d k j N (v7 : Int32) (u : ab_S), k + d = 4 → d < N → j ≤ k → ∃ r, pR_44 N v1 v2 v3 (-1) (nI j) (nI k) = some r ∧ fX10_rests_52 N v1 v2 v3 (-1) 1 (nI j) v7 (nI k) u = some (r, sI u 0 0 0) := by
  intro d
  induction d with
  | zero =>
    intro k j N v7 u hd hN hk
    obtain ⟨N, rfl⟩ : ∃ m, N = m + 1 := ⟨N - 1, by omega⟩
    have ek : k = 4 := by omega
    subst ek
    rw [r_end, c_end]
    refine ⟨nI j, ?_, ?_⟩
    · unfold pR_80
      simp only [i10, i00, decide_true, decide_false, cnd_t, cnd_f, gd_nil, gd_t, b1_0, b1_1, sw_nil, sw_cons, obs]
    · unfold fX10_rests_174 fX10_rests_195
      simp only [i10, i10, i00, decide_true, decide_false, cnd_t, cnd_f, gd_nil, gd_t, b1_0, b1_1, sw_nil, sw_cons, obs, show ((-1 : Int32) < 0) = True from eq_true (by decide +kernel), sI_at, sI_l, sJ_at, sJ_i, sJ_m, sM_at, sM_i, sM_l, Nat.reduceEqDiff, false_and, and_false, true_and, and_true, and_self, if_false, if_true, ite_false, ite_true, le00]
  | succ d ih =>
    intro k j N v7 u hd hN hk
    obtain ⟨N, rfl⟩ : ∃ m, N = m + 1 := ⟨N - 1, by omega⟩
    have ne : (nI j = -1) = False := eq_false (fun z => (nI_nm1 (by omega)).mp z)
    rw [r_step (by omega), c_step (by omega)]
    by_cases e : pR_i v1 v2 v3 (nI k) = 0
    · simp only [e, i10, i00, decide_true, decide_false, cnd_t, cnd_f, gd_nil, gd_t, b1_0, b1_1, sw_nil, sw_cons, obs, add0]
      exact ih (k + 1) j N v7 u (by omega) (by omega) (by omega)
    · simp only [e, ne, i10, i00, decide_true, decide_false, cnd_t, cnd_f, gd_nil, gd_t, b1_0, b1_1, sw_nil, sw_cons, obs, show nI j + 1 = nI (j + 1) from nI_1 j]
      exact ih (k + 1) (j + 1) N v7 u (by omega) (by omega) (by omega)
theorem Inv.th {u v : ab_S} (h : Inv u v) (x : Int32) : Inv u (sI v 0 0 x) := by
  obtain ⟨Z, s, h⟩ := h
  exact ⟨Z, s, h.qu Fr.rfl' (Fr.sI (by show dMu 0 0; unfold dMu; omega))⟩
theorem i_S44 : lw_S44 Inv rsC0 := by
  intro u v a0 a1 a2 a3 hI
  have bad : ∃ v1, fX10_rests_41 a0 a1 a2 a3 0 v = some (0, v1) ∧ v1 = sI v 0 0 1 := by
    refine ⟨_, ?_, rfl⟩
    unfold fX10_rests_41
    rw [show fu = 4999 + 1 from rfl, fX10_rests_52]
    unfold fX10_rests_174 fX10_rests_195
    simp only [show ((0 : Int32) < 4) = True from eq_true (by decide +kernel), i00, i10, i00, decide_true, decide_false, cnd_t, cnd_f, gd_nil, gd_t, b1_0, b1_1, sw_nil, sw_cons, obs, sI_at, sI_l, sJ_at, sJ_i, sJ_m, sM_at, sM_i, sM_l, Nat.reduceEqDiff, false_and, and_false, true_and, and_true, and_self, if_false, if_true, ite_false, ite_true, le10]
  have badE : rsC0 a0 a1 a2 a3 = none → fX10_rests a0 a1 a2 a3 v = fX10_rests_41 a0 a1 a2 a3 0 v → ∃ (rb th : Int32) (v1 v2 : ab_S), fX10_rests a0 a1 a2 a3 v = some (rb, v1) ∧ fX10_thrown v1 = some (th, v2) ∧ Inv u v2 ∧ ((∃ r, rsC0 a0 a1 a2 a3 = some r ∧ th = 0 ∧ rb = r) ∨ (rsC0 a0 a1 a2 a3 = none ∧ th = 1)) := by
    intro h1 h2
    obtain ⟨v1, e1, e2⟩ := bad
    subst e2
    refine ⟨0, 1, sI v 0 0 1, sI v 0 0 1, h2.trans e1, ?_, hI.th 1, Or.inr ⟨h1, rfl⟩⟩
    unfold fX10_thrown
    rw [sI_at, if_pos ⟨rfl, rfl⟩]
  by_cases b0 : pR_b a0 = 0
  · refine badE ?_ ?_
    · unfold rsC0; simp only [b0, i10, i00, decide_true, decide_false, cnd_t, cnd_f, gd_nil, gd_t, b1_0, b1_1, sw_nil, sw_cons, obs]
    · unfold fX10_rests; rw [w_eq]; simp only [b0, i10, i00, decide_true, decide_false, cnd_t, cnd_f, gd_nil, gd_t, b1_0, b1_1, sw_nil, sw_cons, obs]
  by_cases b1 : pR_b a1 = 0
  · refine badE ?_ ?_
    · unfold rsC0; simp only [b0, b1, i10, i00, decide_true, decide_false, cnd_t, cnd_f, gd_nil, gd_t, b1_0, b1_1, sw_nil, sw_cons, obs]
    · unfold fX10_rests; rw [w_eq]; simp only [b0, b1, w_eq, i10, i00, decide_true, decide_false, cnd_t, cnd_f, gd_nil, gd_t, b1_0, b1_1, sw_nil, sw_cons, obs]
  by_cases b2 : pR_b a2 = 0
  · refine badE ?_ ?_
    · unfold rsC0; simp only [b0, b1, b2, i10, i00, decide_true, decide_false, cnd_t, cnd_f, gd_nil, gd_t, b1_0, b1_1, sw_nil, sw_cons, obs]
    · unfold fX10_rests; rw [w_eq]; simp only [b0, b1, b2, w_eq, i10, i00, decide_true, decide_false, cnd_t, cnd_f, gd_nil, gd_t, b1_0, b1_1, sw_nil, sw_cons, obs]
  by_cases b3 : a3 < -1
  · refine badE ?_ ?_
    · unfold rsC0; simp only [b0, b1, b2, b3, i10, i00, decide_true, decide_false, cnd_t, cnd_f, gd_nil, gd_t, b1_0, b1_1, sw_nil, sw_cons, obs]
    · unfold fX10_rests; rw [w_eq]; simp only [b0, b1, b2, b3, w_eq, i10, i00, decide_true, decide_false, cnd_t, cnd_f, gd_nil, gd_t, b1_0, b1_1, sw_nil, sw_cons, obs]
  have eR : fX10_rests a0 a1 a2 a3 v = fX10_rests_52 5000 a0 a1 a2 a3 1 0 (-1) 0 v := by
    unfold fX10_rests fX10_rests_41
    rw [w_eq]
    simp only [b0, b1, b2, b3, w_eq, i10, i00, decide_true, decide_false, cnd_t, cnd_f, gd_nil, gd_t, b1_0, b1_1, sw_nil, sw_cons, obs, fu]
  have eC : rsC0 a0 a1 a2 a3 = pR_44 5000 a0 a1 a2 a3 0 0 := by
    unfold rsC0; simp only [b0, b1, b2, b3, i10, i00, decide_true, decide_false, cnd_t, cnd_f, gd_nil, gd_t, b1_0, b1_1, sw_nil, sw_cons, obs]
  have good : ∀ r, pR_44 5000 a0 a1 a2 a3 0 0 = some r → fX10_rests_52 5000 a0 a1 a2 a3 1 0 (-1) 0 v = some (r, sI v 0 0 0) → ∃ (rb th : Int32) (v1 v2 : ab_S), fX10_rests a0 a1 a2 a3 v = some (rb, v1) ∧ fX10_thrown v1 = some (th, v2) ∧ Inv u v2 ∧ ((∃ r, rsC0 a0 a1 a2 a3 = some r ∧ th = 0 ∧ rb = r) ∨ (rsC0 a0 a1 a2 a3 = none ∧ th = 1)) := by
    intro r h1 h2
    refine ⟨r, 0, sI v 0 0 0, sI v 0 0 0, eR.trans h2, ?_, hI.th 0, Or.inl ⟨r, eC.trans h1, rfl, rfl⟩⟩
    unfold fX10_thrown
    rw [sI_at, if_pos ⟨rfl, rfl⟩]
  have none' : pR_44 5000 a0 a1 a2 a3 0 0 = none → (∃ x, fX10_rests_52 5000 a0 a1 a2 a3 1 0 (-1) 0 v = some (x, sI v 0 0 1)) → ∃ (rb th : Int32) (v1 v2 : ab_S), fX10_rests a0 a1 a2 a3 v = some (rb, v1) ∧ fX10_thrown v1 = some (th, v2) ∧ Inv u v2 ∧ ((∃ r, rsC0 a0 a1 a2 a3 = some r ∧ th = 0 ∧ rb = r) ∨ (rsC0 a0 a1 a2 a3 = none ∧ th = 1)) := by
    rintro h1 ⟨x, h2⟩
    refine ⟨x, 1, sI v 0 0 1, sI v 0 0 1, eR.trans h2, ?_, hI.th 1, Or.inr ⟨eC.trans h1, rfl⟩⟩
    unfold fX10_thrown
    rw [sI_at, if_pos ⟨rfl, rfl⟩]
  by_cases e4 : a3 = -1
  · subst e4
    obtain ⟨r, h1, h2⟩ := r_C a0 a1 a2 4 0 0 5000 (-1) v rfl (by decide) (Nat.le_refl 0)
    exact good r h1 h2
  have h4 : ¬ a3 < 0 := by
    intro z
    rw [Int32.lt_iff_toInt_lt, show (0 : Int32).toInt = 0 by decide +kernel] at z
    rw [Int32.lt_iff_toInt_lt, show (-1 : Int32).toInt = -1 by decide +kernel] at b3
    exact e4 (Int32.toInt_inj.mp (by rw [show (-1 : Int32).toInt = -1 by decide +kernel]; omega))
  obtain ⟨w, hw, e5⟩ := nI_of h4
  subst e5
  by_cases w5 : w < 5
  · obtain ⟨r, h1, h2⟩ | ⟨h1, h2⟩ := r_B a0 a1 a2 (w := w) (by omega) 4 0 0 5000 v rfl (by decide) (Nat.zero_le w) (Nat.le_refl 0)
    · exact good r h1 h2
    · exact none' h1 h2
  · obtain ⟨h1, h2⟩ := r_F a0 a1 a2 (nI w) h4 (fun j hj z => by
      have := (nI_eq2 (by omega) hw).mp z
      omega) 4 0 0 5000 v rfl (by decide) (Nat.le_refl 0)
    exact none' h1 h2
