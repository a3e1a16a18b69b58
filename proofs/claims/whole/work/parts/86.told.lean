/-! names told, looked up on both sides -/
section PU
variable {u v u' v' : ab_S} {n T i : Nat}
theorem c_index {n0 o0 m : Nat} (hm : m ≤ n0) (hn : n0 ≤ 100) (x : Int64) : ∃ r, fX9_indexOf n0 o0 (nI m) x u = some (r, u) ∧ ((∃ j, j < m ∧ u.2.1 o0 j = x ∧ r = nI j) ∨ (r = -1 ∧ ∀ j, j < m → u.2.1 o0 j ≠ x)) := by
  have loop : ∀ d k N, k + d = m → d < N → ∃ r, fX9_indexOf_3 n0 o0 N (nI m) x (nI k) u = some (r, u) ∧ ((∃ j, k ≤ j ∧ j < m ∧ u.2.1 o0 j = x ∧ r = nI j) ∨ (r = -1 ∧ ∀ j, k ≤ j → j < m → u.2.1 o0 j ≠ x)) := by
    intro d
    induction d with
    | zero =>
      intro k N hk hN
      obtain ⟨N, rfl⟩ : ∃ m, N = m + 1 := ⟨N - 1, by omega⟩
      rw [fX9_indexOf_3]
      simp (disch := first | omega | decide) only [i10, i00, decide_true, decide_false, cnd_t, cnd_f, gd_nil, gd_t, b1_0, b1_1, sw_nil, sw_cons, obs, Nat.not_lt_zero, nI_addo, nI_oadd, nI_add, nI_mulo, nI_omul, nI_mul, nI_lto, nI_leo, nI_olt, nI_ole, nI_eqo, nI_oeq, nI_lt2, nI_le2, nI_eq2, nI_nm1, nI_m1n, nI_lt0, nI_lem1, nc_nI, nc_o, ix_nI, ix_o, show ¬ k < m by omega]
      exact ⟨-1, rfl, Or.inr ⟨rfl, fun j h1 h2 => by omega⟩⟩
    | succ d ih =>
      intro k N hk hN
      obtain ⟨N, rfl⟩ : ∃ m, N = m + 1 := ⟨N - 1, by omega⟩
      rw [fX9_indexOf_3, show Int32.ofNat n0 = nI n0 from rfl]
      simp (disch := first | omega | decide) only [i10, i00, decide_true, decide_false, cnd_t, cnd_f, gd_nil, gd_t, b1_0, b1_1, sw_nil, sw_cons, obs, Nat.not_lt_zero, nI_addo, nI_oadd, nI_add, nI_mulo, nI_omul, nI_mul, nI_lto, nI_leo, nI_olt, nI_ole, nI_eqo, nI_oeq, nI_lt2, nI_le2, nI_eq2, nI_nm1, nI_m1n, nI_lt0, nI_lem1, nc_nI, nc_o, ix_nI, ix_o, show k < m by omega, show k < n0 by omega]
      by_cases e : u.2.1 o0 k = x
      · simp only [e, i10, i00, decide_true, decide_false, cnd_t, cnd_f, gd_nil, gd_t, b1_0, b1_1, sw_nil, sw_cons, obs]
        exact ⟨nI k, rfl, Or.inl ⟨k, Nat.le_refl k, by omega, e, rfl⟩⟩
      · simp only [e, i10, i00, decide_true, decide_false, cnd_t, cnd_f, gd_nil, gd_t, b1_0, b1_1, sw_nil, sw_cons, obs]
        obtain ⟨r, h1, h2⟩ := ih (k + 1) N (by omega) (by omega)
        refine ⟨r, h1, ?_⟩
        obtain ⟨j, g1, g2, g3, g4⟩ | ⟨g1, g2⟩ := h2
        · exact Or.inl ⟨j, by omega, g2, g3, g4⟩
        · refine Or.inr ⟨g1, fun j h3 h4 => ?_⟩
          by_cases ej : j = k
          · subst ej; exact e
          · exact g2 j (by omega) h4
  obtain ⟨r, h1, h2⟩ := loop m 0 fu (by omega) (show m < 5000 by omega)
  refine ⟨r, h1, ?_⟩
  obtain ⟨j, -, g2, g3, g4⟩ | ⟨g1, g2⟩ := h2
  · exact Or.inl ⟨j, g2, g3, g4⟩
  · exact Or.inr ⟨g1, fun j hj => g2 j (Nat.zero_le j) hj⟩
theorem m_nameAt0 {m : Nat} (h7 : v.1 0 7 = nI i) (hi : i ≤ 1000) (hc : v.1 0 18 = nI m) (hm : m ≤ 14) : ∃ r, fX10_nameAt 0 v = some (r, v) ∧ ((∃ q, q < m ∧ v.2.1 9 q = v.2.1 4 i ∧ r = v.1 11 q) ∨ (r = -1 ∧ ∀ q, q < m → v.2.1 9 q ≠ v.2.1 4 i)) := by
  have loop : ∀ d k N, k + d = m → d < N → ∃ r, fX10_nameAt_2 N 0 (nI k) v = some (r, v) ∧ ((∃ q, k ≤ q ∧ q < m ∧ v.2.1 9 q = v.2.1 4 i ∧ r = v.1 11 q) ∨ (r = -1 ∧ ∀ q, k ≤ q → q < m → v.2.1 9 q ≠ v.2.1 4 i)) := by
    intro d
    induction d with
    | zero =>
      intro k N hk hN
      obtain ⟨N, rfl⟩ : ∃ m, N = m + 1 := ⟨N - 1, by omega⟩
      rw [fX10_nameAt_2]
      unfold fX10_nameAt_18
      rw [hc]
      simp (disch := first | omega | decide) only [i10, i00, decide_true, decide_false, cnd_t, cnd_f, gd_nil, gd_t, b1_0, b1_1, sw_nil, sw_cons, obs, Nat.not_lt_zero, nI_addo, nI_oadd, nI_add, nI_mulo, nI_omul, nI_mul, nI_lto, nI_leo, nI_olt, nI_ole, nI_eqo, nI_oeq, nI_lt2, nI_le2, nI_eq2, nI_nm1, nI_m1n, nI_lt0, nI_lem1, nc_nI, nc_o, ix_nI, ix_o, show ¬ k < m by omega]
      exact ⟨-1, rfl, Or.inr ⟨rfl, fun j h1 h2 => by omega⟩⟩
    | succ d ih =>
      intro k N hk hN
      obtain ⟨N, rfl⟩ : ∃ m, N = m + 1 := ⟨N - 1, by omega⟩
      rw [fX10_nameAt_2]
      unfold fX10_nameAt_18 fX10_nameAt_40
      rw [hc, h7]
      simp (disch := first | omega | decide) only [i10, i00, decide_true, decide_false, cnd_t, cnd_f, gd_nil, gd_t, b1_0, b1_1, sw_nil, sw_cons, obs, Nat.not_lt_zero, nI_addo, nI_oadd, nI_add, nI_mulo, nI_omul, nI_mul, nI_lto, nI_leo, nI_olt, nI_ole, nI_eqo, nI_oeq, nI_lt2, nI_le2, nI_eq2, nI_nm1, nI_m1n, nI_lt0, nI_lem1, nc_nI, nc_o, ix_nI, ix_o, show k < m by omega]
      by_cases e : v.2.1 9 k = v.2.1 4 i
      · simp only [e, i10, i00, decide_true, decide_false, cnd_t, cnd_f, gd_nil, gd_t, b1_0, b1_1, sw_nil, sw_cons, obs]
        exact ⟨_, rfl, Or.inl ⟨k, Nat.le_refl k, by omega, e, rfl⟩⟩
      · simp only [e, i10, i00, decide_true, decide_false, cnd_t, cnd_f, gd_nil, gd_t, b1_0, b1_1, sw_nil, sw_cons, obs]
        obtain ⟨r, h1, h2⟩ := ih (k + 1) N (by omega) (by omega)
        refine ⟨r, h1, ?_⟩
        obtain ⟨j, g1, g2, g3, g4⟩ | ⟨g1, g2⟩ := h2
        · exact Or.inl ⟨j, by omega, g2, g3, g4⟩
        · refine Or.inr ⟨g1, fun j h3 h4 => ?_⟩
          by_cases ej : j = k
          · subst ej; exact e
          · exact g2 j (by omega) h4
  obtain ⟨r, h1, h2⟩ := loop m 0 fu (by omega) (show m < 5000 by omega)
  refine ⟨r, h1, ?_⟩
  obtain ⟨j, -, g2, g3, g4⟩ | ⟨g1, g2⟩ := h2
  · exact Or.inl ⟨j, g2, g3, g4⟩
  · exact Or.inr ⟨g1, fun j hj => g2 j (Nat.zero_le j) hj⟩
theorem m_nameAt1 {m : Nat} (h7 : v.1 0 7 = nI i) (hi : i ≤ 1000) (hc : v.1 0 19 = nI m) (hm : m ≤ 14) : ∃ r, fX10_nameAt 1 v = some (r, v) ∧ ((∃ q, q < m ∧ v.2.1 10 q = v.2.1 4 i ∧ r = v.1 12 q) ∨ (r = -1 ∧ ∀ q, q < m → v.2.1 10 q ≠ v.2.1 4 i)) := by
  have loop : ∀ d k N, k + d = m → d < N → ∃ r, fX10_nameAt_2 N 1 (nI k) v = some (r, v) ∧ ((∃ q, k ≤ q ∧ q < m ∧ v.2.1 10 q = v.2.1 4 i ∧ r = v.1 12 q) ∨ (r = -1 ∧ ∀ q, k ≤ q → q < m → v.2.1 10 q ≠ v.2.1 4 i)) := by
    intro d
    induction d with
    | zero =>
      intro k N hk hN
      obtain ⟨N, rfl⟩ : ∃ m, N = m + 1 := ⟨N - 1, by omega⟩
      rw [fX10_nameAt_2]
      unfold fX10_nameAt_18
      rw [hc]
      simp (disch := first | omega | decide) only [i10, i00, decide_true, decide_false, cnd_t, cnd_f, gd_nil, gd_t, b1_0, b1_1, sw_nil, sw_cons, obs, Nat.not_lt_zero, nI_addo, nI_oadd, nI_add, nI_mulo, nI_omul, nI_mul, nI_lto, nI_leo, nI_olt, nI_ole, nI_eqo, nI_oeq, nI_lt2, nI_le2, nI_eq2, nI_nm1, nI_m1n, nI_lt0, nI_lem1, nc_nI, nc_o, ix_nI, ix_o, show ¬ k < m by omega]
      exact ⟨-1, rfl, Or.inr ⟨rfl, fun j h1 h2 => by omega⟩⟩
    | succ d ih =>
      intro k N hk hN
      obtain ⟨N, rfl⟩ : ∃ m, N = m + 1 := ⟨N - 1, by omega⟩
      rw [fX10_nameAt_2]
      unfold fX10_nameAt_18 fX10_nameAt_40
      rw [hc, h7]
      simp (disch := first | omega | decide) only [i10, i00, decide_true, decide_false, cnd_t, cnd_f, gd_nil, gd_t, b1_0, b1_1, sw_nil, sw_cons, obs, Nat.not_lt_zero, nI_addo, nI_oadd, nI_add, nI_mulo, nI_omul, nI_mul, nI_lto, nI_leo, nI_olt, nI_ole, nI_eqo, nI_oeq, nI_lt2, nI_le2, nI_eq2, nI_nm1, nI_m1n, nI_lt0, nI_lem1, nc_nI, nc_o, ix_nI, ix_o, show k < m by omega]
      by_cases e : v.2.1 10 k = v.2.1 4 i
      · simp only [e, i10, i00, decide_true, decide_false, cnd_t, cnd_f, gd_nil, gd_t, b1_0, b1_1, sw_nil, sw_cons, obs]
        exact ⟨_, rfl, Or.inl ⟨k, Nat.le_refl k, by omega, e, rfl⟩⟩
      · simp only [e, i10, i00, decide_true, decide_false, cnd_t, cnd_f, gd_nil, gd_t, b1_0, b1_1, sw_nil, sw_cons, obs]
        obtain ⟨r, h1, h2⟩ := ih (k + 1) N (by omega) (by omega)
        refine ⟨r, h1, ?_⟩
        obtain ⟨j, g1, g2, g3, g4⟩ | ⟨g1, g2⟩ := h2
        · exact Or.inl ⟨j, by omega, g2, g3, g4⟩
        · refine Or.inr ⟨g1, fun j h3 h4 => ?_⟩
          by_cases ej : j = k
          · subst ej; exact e
          · exact g2 j (by omega) h4
  obtain ⟨r, h1, h2⟩ := loop m 0 fu (by omega) (show m < 5000 by omega)
  refine ⟨r, h1, ?_⟩
  obtain ⟨j, -, g2, g3, g4⟩ | ⟨g1, g2⟩ := h2
  · exact Or.inl ⟨j, g2, g3, g4⟩
  · exact Or.inr ⟨g1, fun j hj => g2 j (Nat.zero_le j) hj⟩
-- what stands under a name on both sides
def lkR (np ng o : Nat) (u : ab_S) (x : Int64) (r : Int32) : Prop := (∃ p, p < np ∧ u.2.1 (o + 1) p = x ∧ r = nI p) ∨ (∃ k, k < ng ∧ u.2.1 (o + 2) k = x ∧ r = nI (20 + k)) ∨ (r = -1 ∧ (∀ p, p < np → u.2.1 (o + 1) p ≠ x) ∧ (∀ k, k < ng → u.2.1 (o + 2) k ≠ x))
theorem nm_look {np ng o a1 a2 : Nat} (hp6 : np ≤ 6) (hg8 : ng ≤ 8) (h : nmR np ng o a1 a2 u v) {x y : Int64} (hw : WR x y) {r : Int32} (hr : (∃ q, q < np + ng ∧ v.2.1 a1 q = y ∧ r = v.1 a2 q) ∨ (r = -1 ∧ ∀ q, q < np + ng → v.2.1 a1 q ≠ y)) : lkR np ng o u x r := by
  obtain ⟨h1, h2, h3, h4, h5, h6⟩ := h
  obtain ⟨q, q1, q2, q3⟩ | ⟨q1, q2⟩ := hr
  · subst q3
    obtain ⟨p, p1, p2, p3⟩ | ⟨k, k1, k2, k3⟩ := h1 q q1
    · rw [q2] at p3
      exact Or.inl ⟨p, p1, (p3.inj hw).mpr rfl, p2⟩
    · rw [q2] at k3
      exact Or.inr (Or.inl ⟨k, k1, (k3.inj hw).mpr rfl, k2⟩)
  · refine Or.inr (Or.inr ⟨q1, fun p hp e => ?_, fun k hk e => ?_⟩)
    · obtain ⟨j, j1, j2⟩ := h2 p hp
      obtain ⟨p', p1, p2, p3⟩ | ⟨k, k1, k2, k3⟩ := h1 j j1
      · have ep : p = p' := ((nI_eq2 (by omega) (by omega)).mp (j2.symm.trans p2))
        subst ep
        exact q2 j j1 ((p3.inj hw).mp e)
      · have ep := ((nI_eq2 (by omega) (by omega)).mp (j2.symm.trans k2))
        omega
    · obtain ⟨j, j1, j2⟩ := h3 k hk
      obtain ⟨p', p1, p2, p3⟩ | ⟨k', k1, k2, k3⟩ := h1 j j1
      · have ep := ((nI_eq2 (by omega) (by omega)).mp (j2.symm.trans p2))
        omega
      · have ep := ((nI_eq2 (by omega) (by omega)).mp (j2.symm.trans k2))
        have ek : k = k' := by omega
        subst ek
        exact q2 j j1 ((k3.inj hw).mp e)
end PU
/-! a told name taken on both sides -/
section PU
variable {u v u' v' : ab_S} {n T i : Nat}
theorem wi_in {k : Nat} (h : k ≤ 7) (u : ab_S) : fX10_within (nI k) 0 7 u = some (1, u) := by
  unfold fX10_within
  simp (disch := first | omega | decide) only [i10, i00, decide_true, decide_false, cnd_t, cnd_f, gd_nil, gd_t, b1_0, b1_1, sw_nil, sw_cons, obs, Nat.not_lt_zero, nI_addo, nI_oadd, nI_add, nI_mulo, nI_omul, nI_mul, nI_lto, nI_leo, nI_olt, nI_ole, nI_eqo, nI_oeq, nI_lt2, nI_le2, nI_eq2, nI_nm1, nI_m1n, nI_lt0, nI_lem1, nc_nI, nc_o, ix_nI, ix_o, h]
theorem wi_out {k : Nat} (h : 8 ≤ k) (hk : k < 100) (u : ab_S) : fX10_within (nI k) 0 7 u = some (0, u) := by
  unfold fX10_within
  simp (disch := first | omega | decide) only [i10, i00, decide_true, decide_false, cnd_t, cnd_f, gd_nil, gd_t, b1_0, b1_1, sw_nil, sw_cons, obs, Nat.not_lt_zero, nI_addo, nI_oadd, nI_add, nI_mulo, nI_omul, nI_mul, nI_lto, nI_leo, nI_olt, nI_ole, nI_eqo, nI_oeq, nI_lt2, nI_le2, nI_eq2, nI_nm1, nI_m1n, nI_lt0, nI_lem1, nc_nI, nc_o, ix_nI, ix_o, show ¬ k ≤ 7 by omega]
theorem wi_neg {x : Int32} (h : x < 0) (u : ab_S) : fX10_within x 0 7 u = some (0, u) := by
  unfold fX10_within
  simp only [h, i10, i00, decide_true, decide_false, cnd_t, cnd_f, gd_nil, gd_t, b1_0, b1_1, sw_nil, sw_cons, obs]
theorem mF19 {f : Nat} (h : mF f v) (a b c : Int32) : ∃ v', fX10_takeTold_19 a b c v = some (0, v') ∧ mF f v' ∧ Fr dSv v v' := by
  obtain ⟨h1, h2⟩ := h.nz
  refine ⟨sI v 0 7 (v.1 0 7 + 0), ?_, ?_, Fr.sI ⟨rfl, Or.inl rfl⟩⟩
  · unfold fX10_takeTold_19 fX10_takeTold_37 fX10_takeTold_65 fX10_takeTold_87 fX10_takeTold_104
    simp only [sI_at, sI_l, sJ_at, sJ_i, sJ_m, sM_at, sM_i, sM_l, Nat.reduceEqDiff, false_and, and_false, true_and, and_true, and_self, if_false, if_true, ite_false, ite_true, h1, h2, i10, i00, decide_true, decide_false, cnd_t, cnd_f, gd_nil, gd_t, b1_0, b1_1, sw_nil, sw_cons, obs]
  · unfold mF
    simp only [sI_at, sI_l, sJ_at, sJ_i, sJ_m, sM_at, sM_i, sM_l, Nat.reduceEqDiff, false_and, and_false, true_and, and_true, and_self, if_false, if_true, ite_false, ite_true]
    exact h
theorem mF87 {f : Nat} (h : mF f v) (s : Int32) : ∃ v', fX10_takeTold_87 s v = some (0, v') ∧ mF f v' ∧ Fr dSv v v' := by
  obtain ⟨h1, h2⟩ := h.nz
  refine ⟨sI v 0 7 (v.1 0 7 + 0), ?_, ?_, Fr.sI ⟨rfl, Or.inl rfl⟩⟩
  · unfold fX10_takeTold_87 fX10_takeTold_104
    simp only [sI_at, sI_l, sJ_at, sJ_i, sJ_m, sM_at, sM_i, sM_l, Nat.reduceEqDiff, false_and, and_false, true_and, and_true, and_self, if_false, if_true, ite_false, ite_true, h1, h2, i10, i00, decide_true, decide_false, cnd_t, cnd_f, gd_nil, gd_t, b1_0, b1_1, sw_nil, sw_cons, obs]
  · unfold mF
    simp only [sI_at, sI_l, sJ_at, sJ_i, sJ_m, sM_at, sM_i, sM_l, Nat.reduceEqDiff, false_and, and_false, true_and, and_true, and_self, if_false, if_true, ite_false, ite_true]
    exact h
theorem mF.mk8 {f : Nat} (h1 : 1 ≤ f) (h2 : f < 20000) : mF f (sI v 0 8 (nI f)) := ⟨by simp only [sI_at, sI_l, sJ_at, sJ_i, sJ_m, sM_at, sM_i, sM_l, Nat.reduceEqDiff, false_and, and_false, true_and, and_true, and_self, if_false, if_true, ite_false, ite_true], h1, h2⟩
-- the reference's answer once the name is looked up
theorem told_ok (h : pR n T i u v) {k : Nat} (hk : k ≤ 7) {m : Int32} (hm : ¬ ((m >>> (nI k &&& 31)) &&& 1 = 1)) : fX10_takeTold_37 m (nI k) v = some (nI k, sI v 0 7 (nI (i + 1))) := by
  have h7 := h.at
  have h8 := h.ok
  have le0 : ((0 : Int32) ≤ 0) = True := eq_true (by decide +kernel)
  unfold fX10_takeTold_37 fX10_takeTold_65 fX10_takeTold_87 fX10_takeTold_104
  rw [wi_in hk]
  simp only [sI_at, sI_l, sJ_at, sJ_i, sJ_m, sM_at, sM_i, sM_l, Nat.reduceEqDiff, false_and, and_false, true_and, and_true, and_self, if_false, if_true, ite_false, ite_true, h7, h8, le0, hm, i10, i00, decide_true, decide_false, cnd_t, cnd_f, gd_nil, gd_t, b1_0, b1_1, sw_nil, sw_cons, obs, nI_addo]
theorem told_bad (h : pR n T i u v) {x : Int32} (m : Int32) (hx : fX10_within x 0 7 v = some (0, v)) {f : Nat} (hw : fX10_wrong 2 v = some ((), sI v 0 8 (nI f))) (h1 : 1 ≤ f) (h2 : f < 20000) : ∃ v', fX10_takeTold_37 m x v = some (0, v') ∧ mF f v' ∧ Fr dSv v v' := by
  obtain ⟨v', q1, q2, q3⟩ := mF87 (v := sI v 0 8 (nI f)) (mF.mk8 h1 h2) x
  refine ⟨v', ?_, q2, (Fr.sI ⟨rfl, Or.inr rfl⟩).trans q3⟩
  unfold fX10_takeTold_37
  rw [hx]
  simp only [h.ok, i10, i00, decide_true, decide_false, cnd_t, cnd_f, gd_nil, gd_t, b1_0, b1_1, sw_nil, sw_cons, obs, hw]
  exact q1
theorem told_mask (h : pR n T i u v) {k : Nat} (hk : k ≤ 7) {m : Int32} (hm : (m >>> (nI k &&& 31)) &&& 1 = 1) {f : Nat} (hw : fX10_wrong 3 v = some ((), sI v 0 8 (nI f))) (h1 : 1 ≤ f) (h2 : f < 20000) : ∃ v', fX10_takeTold_37 m (nI k) v = some (0, v') ∧ mF f v' ∧ Fr dSv v v' := by
  obtain ⟨v', q1, q2, q3⟩ := mF87 (v := sI v 0 8 (nI f)) (mF.mk8 h1 h2) (nI k)
  refine ⟨v', ?_, q2, (Fr.sI ⟨rfl, Or.inr rfl⟩).trans q3⟩
  unfold fX10_takeTold_37 fX10_takeTold_65
  rw [wi_in hk]
  simp only [h.ok, hm, i10, i00, decide_true, decide_false, cnd_t, cnd_f, gd_nil, gd_t, b1_0, b1_1, sw_nil, sw_cons, obs, hw]
  exact q1
theorem sub20_neg : ∀ p, p < 6 → nI p - 20 < 0 := by decide +kernel
theorem sub20 (k : Nat) : nI (20 + k) - 20 = nI k := by
  show nI (20 + k) - nI 20 = nI k
  rw [nI_sub (Nat.le_add_right 20 k), Nat.add_sub_cancel_left]
theorem mask0 : ∀ k, k < 8 → ¬ (((0 : Int32) >>> (nI k &&& 31)) &&& 1 = 1) := by decide +kernel
theorem p_toldP0 {np ng o : Nat} (hp6 : np ≤ 6) (hg8 : ng ≤ 8) (h : pR n T i u v) (hN : nmR np ng o 9 11 u v) (hc : v.1 0 18 = nI (np + ng)) : (∃ p u', p < np ∧ fX6_takeToldName 6 (o + 1) (nI np) u = some (nI p, u') ∧ fX10_takeTold 0 0 0 v = some (nI p, sI v 0 7 (nI (i + 1))) ∧ pR n T (i + 1) u' (sI v 0 7 (nI (i + 1))) ∧ Fr dSu u u') ∨ (∃ f v', fX6_takeToldName 6 (o + 1) (nI np) u = some (-1, sI u 1 10 (nI f)) ∧ fX10_takeTold 0 0 0 v = some (0, v') ∧ mF f v' ∧ Fr dSv v v') := by
  have hi := h.i1000
  have h8 := h.ok
  have le0 : ((0 : Int32) ≤ 0) = True := eq_true (by decide +kernel)
  obtain ⟨b, b1, b2, b3⟩ := p_isName h
  unfold fX6_takeToldName fX10_takeTold
  rw [b1, b2]
  cases b
  · obtain ⟨f, f1, f2, f3, f4⟩ := p_fail h 1 (by decide) (by decide)
    have f3' : fX6_fail 1 u = some (0, sI u 1 10 (nI f)) := f3
    have f4' : fX10_wrong 1 v = some ((), sI v 0 8 (nI f)) := f4
    obtain ⟨v', q1, q2, q3⟩ := mF19 (v := sI v 0 8 (nI f)) (mF.mk8 f1 f2) 0 0 0
    refine Or.inr ⟨f, v', ?_, ?_, q2, (Fr.sI ⟨rfl, Or.inr rfl⟩).trans q3⟩
    · simp only [b01, Bool.false_eq_true, if_false, i10, i00, decide_true, decide_false, cnd_t, cnd_f, gd_nil, gd_t, b1_0, b1_1, sw_nil, sw_cons, obs, f3']
    · simp only [b01, Bool.false_eq_true, if_false, i10, i00, decide_true, decide_false, cnd_t, cnd_f, gd_nil, gd_t, b1_0, b1_1, sw_nil, sw_cons, obs, h8, f4']
      exact q1
  · have hb1 : fX6_isName u = some (1, u) := b1
    have hk := b3 rfl
    have hk0 : u.1 1 7 ≠ 0 := by rw [hk]; decide +kernel
    have hw := h.word.2 hk
    obtain ⟨rc, c1, c2⟩ := c_index (u := u) (o0 := o + 1) (n0 := 6) hp6 (by decide) (u.2.1 1 9)
    obtain ⟨r, r1, r2⟩ := m_nameAt0 h.at hi hc (by omega)
    have hl := nm_look hp6 hg8 hN hw r2
    obtain ⟨f, f1, f2, f3, f4⟩ := p_fail h 2 (by decide) (by decide)
    have f3' : fX6_fail 2 u = some (0, sI u 1 10 (nI f)) := f3
    have f4' : fX10_wrong 2 v = some ((), sI v 0 8 (nI f)) := f4
    have bad : rc = -1 → fX10_within (r - 0) 0 7 v = some (0, v) → (∃ p u', p < np ∧ ((some (b01 true, u)).bind fun q1 => bif decide (q1.1 = 0) then (fX6_fail 1 q1.2).bind fun q5 => some ((-1 : Int32), q5.2) else (fX9_indexOf 6 (o + 1) (nI np) (q1.2.2.1 1 9) q1.2).bind fun q2 => bif decide (q2.1 = (-1)) then (fX6_fail 2 q2.2).bind fun q4 => some ((-1), q4.2) else (fX6_step q2.2).bind fun q3 => some (q2.1, q3.2)) = some (nI p, u') ∧ (bif decide (v.1 0 8 = 0) then (some (b01 true, v)).bind fun q5 => bif decide (q5.1 = 0) then (fX10_wrong 1 q5.2).bind fun q6 => fX10_takeTold_19 0 0 0 q6.2 else fX10_takeTold_19 0 0 0 q5.2 else fX10_takeTold_19 0 0 0 v) = some (nI p, sI v 0 7 (nI (i + 1))) ∧ pR n T (i + 1) u' (sI v 0 7 (nI (i + 1))) ∧ Fr dSu u u') ∨ (∃ f v', ((some (b01 true, u)).bind fun q1 => bif decide (q1.1 = 0) then (fX6_fail 1 q1.2).bind fun q5 => some ((-1 : Int32), q5.2) else (fX9_indexOf 6 (o + 1) (nI np) (q1.2.2.1 1 9) q1.2).bind fun q2 => bif decide (q2.1 = (-1)) then (fX6_fail 2 q2.2).bind fun q4 => some ((-1), q4.2) else (fX6_step q2.2).bind fun q3 => some (q2.1, q3.2)) = some (-1, sI u 1 10 (nI f)) ∧ (bif decide (v.1 0 8 = 0) then (some (b01 true, v)).bind fun q5 => bif decide (q5.1 = 0) then (fX10_wrong 1 q5.2).bind fun q6 => fX10_takeTold_19 0 0 0 q6.2 else fX10_takeTold_19 0 0 0 q5.2 else fX10_takeTold_19 0 0 0 v) = some (0, v') ∧ mF f v' ∧ Fr dSv v v') := by
      intro er hin
      subst er
      obtain ⟨v', q1, q2, q3⟩ := told_bad h 0 hin f4' f1 f2
      refine Or.inr ⟨f, v', ?_, ?_, q2, q3⟩
      · simp only [b01, if_true, i10, i00, decide_true, decide_false, cnd_t, cnd_f, gd_nil, gd_t, b1_0, b1_1, sw_nil, sw_cons, obs, c1, f3']
      · unfold fX10_takeTold_19
        simp only [b01, if_true, i10, i00, decide_true, decide_false, cnd_t, cnd_f, gd_nil, gd_t, b1_0, b1_1, sw_nil, sw_cons, obs, h8, le0, r1]
        exact q1
    obtain ⟨p, p1, p2, p3⟩ | ⟨k, k1, k2, k3⟩ | ⟨e1, e2, e3⟩ := hl
    · obtain ⟨j, j1, j2, j3⟩ | ⟨j1, j2⟩ := c2
      · have ej := hN.2.2.2.1 j p j1 p1 (j2.trans p2.symm)
        subst ej
        obtain ⟨u', s1, s2, s3⟩ := p_step h hk0
        have n1 : (nI j = -1) ↔ False := nI_nm1 (by omega)
        have ok := told_ok h (k := j) (by omega) (mask0 j (by omega))
        have e0 : nI j - 0 = nI j := Int32.sub_zero (nI j)
        refine Or.inl ⟨j, u', j1, ?_, ?_, s2, s3⟩
        · simp only [b01, if_true, i10, i00, decide_true, decide_false, cnd_t, cnd_f, gd_nil, gd_t, b1_0, b1_1, sw_nil, sw_cons, obs, c1, n1, s1, j3]
        · unfold fX10_takeTold_19
          simp only [b01, if_true, i10, i00, decide_true, decide_false, cnd_t, cnd_f, gd_nil, gd_t, b1_0, b1_1, sw_nil, sw_cons, obs, h8, le0, r1, p3, e0]
          exact ok
      · exact absurd p2 (j2 p p1)
    · refine bad ?_ (by rw [k3, show nI (20 + k) - 0 = nI (20 + k) from Int32.sub_zero _]; exact wi_out (by omega) (by omega) v)
      obtain ⟨j, j1, j2, j3⟩ | ⟨j1, j2⟩ := c2
      · exact absurd (j2.trans k2.symm) (hN.2.2.2.2.2 j k j1 k1)
      · exact j1
    · refine bad ?_ (by rw [e1]; exact wi_neg (by decide +kernel) v)
      obtain ⟨j, j1, j2, j3⟩ | ⟨j1, j2⟩ := c2
      · exact absurd j2 (e2 j j1)
      · exact j1
theorem p_toldP1 {np ng o : Nat} (hp6 : np ≤ 6) (hg8 : ng ≤ 8) (h : pR n T i u v) (hN : nmR np ng o 10 12 u v) (hc : v.1 0 19 = nI (np + ng)) : (∃ p u', p < np ∧ fX6_takeToldName 6 (o + 1) (nI np) u = some (nI p, u') ∧ fX10_takeTold 1 0 0 v = some (nI p, sI v 0 7 (nI (i + 1))) ∧ pR n T (i + 1) u' (sI v 0 7 (nI (i + 1))) ∧ Fr dSu u u') ∨ (∃ f v', fX6_takeToldName 6 (o + 1) (nI np) u = some (-1, sI u 1 10 (nI f)) ∧ fX10_takeTold 1 0 0 v = some (0, v') ∧ mF f v' ∧ Fr dSv v v') := by
  have hi := h.i1000
  have h8 := h.ok
  have le0 : ((0 : Int32) ≤ 0) = True := eq_true (by decide +kernel)
  obtain ⟨b, b1, b2, b3⟩ := p_isName h
  unfold fX6_takeToldName fX10_takeTold
  rw [b1, b2]
  cases b
  · obtain ⟨f, f1, f2, f3, f4⟩ := p_fail h 1 (by decide) (by decide)
    have f3' : fX6_fail 1 u = some (0, sI u 1 10 (nI f)) := f3
    have f4' : fX10_wrong 1 v = some ((), sI v 0 8 (nI f)) := f4
    obtain ⟨v', q1, q2, q3⟩ := mF19 (v := sI v 0 8 (nI f)) (mF.mk8 f1 f2) 1 0 0
    refine Or.inr ⟨f, v', ?_, ?_, q2, (Fr.sI ⟨rfl, Or.inr rfl⟩).trans q3⟩
    · simp only [b01, Bool.false_eq_true, if_false, i10, i00, decide_true, decide_false, cnd_t, cnd_f, gd_nil, gd_t, b1_0, b1_1, sw_nil, sw_cons, obs, f3']
    · simp only [b01, Bool.false_eq_true, if_false, i10, i00, decide_true, decide_false, cnd_t, cnd_f, gd_nil, gd_t, b1_0, b1_1, sw_nil, sw_cons, obs, h8, f4']
      exact q1
  · have hb1 : fX6_isName u = some (1, u) := b1
    have hk := b3 rfl
    have hk0 : u.1 1 7 ≠ 0 := by rw [hk]; decide +kernel
    have hw := h.word.2 hk
    obtain ⟨rc, c1, c2⟩ := c_index (u := u) (o0 := o + 1) (n0 := 6) hp6 (by decide) (u.2.1 1 9)
    obtain ⟨r, r1, r2⟩ := m_nameAt1 h.at hi hc (by omega)
    have hl := nm_look hp6 hg8 hN hw r2
    obtain ⟨f, f1, f2, f3, f4⟩ := p_fail h 2 (by decide) (by decide)
    have f3' : fX6_fail 2 u = some (0, sI u 1 10 (nI f)) := f3
    have f4' : fX10_wrong 2 v = some ((), sI v 0 8 (nI f)) := f4
    have bad : rc = -1 → fX10_within (r - 0) 0 7 v = some (0, v) → (∃ p u', p < np ∧ ((some (b01 true, u)).bind fun q1 => bif decide (q1.1 = 0) then (fX6_fail 1 q1.2).bind fun q5 => some ((-1 : Int32), q5.2) else (fX9_indexOf 6 (o + 1) (nI np) (q1.2.2.1 1 9) q1.2).bind fun q2 => bif decide (q2.1 = (-1)) then (fX6_fail 2 q2.2).bind fun q4 => some ((-1), q4.2) else (fX6_step q2.2).bind fun q3 => some (q2.1, q3.2)) = some (nI p, u') ∧ (bif decide (v.1 0 8 = 0) then (some (b01 true, v)).bind fun q5 => bif decide (q5.1 = 0) then (fX10_wrong 1 q5.2).bind fun q6 => fX10_takeTold_19 1 0 0 q6.2 else fX10_takeTold_19 1 0 0 q5.2 else fX10_takeTold_19 1 0 0 v) = some (nI p, sI v 0 7 (nI (i + 1))) ∧ pR n T (i + 1) u' (sI v 0 7 (nI (i + 1))) ∧ Fr dSu u u') ∨ (∃ f v', ((some (b01 true, u)).bind fun q1 => bif decide (q1.1 = 0) then (fX6_fail 1 q1.2).bind fun q5 => some ((-1 : Int32), q5.2) else (fX9_indexOf 6 (o + 1) (nI np) (q1.2.2.1 1 9) q1.2).bind fun q2 => bif decide (q2.1 = (-1)) then (fX6_fail 2 q2.2).bind fun q4 => some ((-1), q4.2) else (fX6_step q2.2).bind fun q3 => some (q2.1, q3.2)) = some (-1, sI u 1 10 (nI f)) ∧ (bif decide (v.1 0 8 = 0) then (some (b01 true, v)).bind fun q5 => bif decide (q5.1 = 0) then (fX10_wrong 1 q5.2).bind fun q6 => fX10_takeTold_19 1 0 0 q6.2 else fX10_takeTold_19 1 0 0 q5.2 else fX10_takeTold_19 1 0 0 v) = some (0, v') ∧ mF f v' ∧ Fr dSv v v') := by
      intro er hin
      subst er
      obtain ⟨v', q1, q2, q3⟩ := told_bad h 0 hin f4' f1 f2
      refine Or.inr ⟨f, v', ?_, ?_, q2, q3⟩
      · simp only [b01, if_true, i10, i00, decide_true, decide_false, cnd_t, cnd_f, gd_nil, gd_t, b1_0, b1_1, sw_nil, sw_cons, obs, c1, f3']
      · unfold fX10_takeTold_19
        simp only [b01, if_true, i10, i00, decide_true, decide_false, cnd_t, cnd_f, gd_nil, gd_t, b1_0, b1_1, sw_nil, sw_cons, obs, h8, le0, r1]
        exact q1
    obtain ⟨p, p1, p2, p3⟩ | ⟨k, k1, k2, k3⟩ | ⟨e1, e2, e3⟩ := hl
    · obtain ⟨j, j1, j2, j3⟩ | ⟨j1, j2⟩ := c2
      · have ej := hN.2.2.2.1 j p j1 p1 (j2.trans p2.symm)
        subst ej
        obtain ⟨u', s1, s2, s3⟩ := p_step h hk0
        have n1 : (nI j = -1) ↔ False := nI_nm1 (by omega)
        have ok := told_ok h (k := j) (by omega) (mask0 j (by omega))
        have e0 : nI j - 0 = nI j := Int32.sub_zero (nI j)
        refine Or.inl ⟨j, u', j1, ?_, ?_, s2, s3⟩
        · simp only [b01, if_true, i10, i00, decide_true, decide_false, cnd_t, cnd_f, gd_nil, gd_t, b1_0, b1_1, sw_nil, sw_cons, obs, c1, n1, s1, j3]
        · unfold fX10_takeTold_19
          simp only [b01, if_true, i10, i00, decide_true, decide_false, cnd_t, cnd_f, gd_nil, gd_t, b1_0, b1_1, sw_nil, sw_cons, obs, h8, le0, r1, p3, e0]
          exact ok
      · exact absurd p2 (j2 p p1)
    · refine bad ?_ (by rw [k3, show nI (20 + k) - 0 = nI (20 + k) from Int32.sub_zero _]; exact wi_out (by omega) (by omega) v)
      obtain ⟨j, j1, j2, j3⟩ | ⟨j1, j2⟩ := c2
      · exact absurd (j2.trans k2.symm) (hN.2.2.2.2.2 j k j1 k1)
      · exact j1
    · refine bad ?_ (by rw [e1]; exact wi_neg (by decide +kernel) v)
      obtain ⟨j, j1, j2, j3⟩ | ⟨j1, j2⟩ := c2
      · exact absurd j2 (e2 j j1)
      · exact j1
theorem p_toldG0 {np ng o : Nat} (hp6 : np ≤ 6) (hg8 : ng ≤ 8) (h : pR n T i u v) (hN : nmR np ng o 9 11 u v) (hc : v.1 0 18 = nI (np + ng)) (m : Int32) (hm : fX6_isName u = some (1, u) → ∀ k, k < ng → u.2.1 (o + 2) k = u.2.1 1 9 → ¬ ((m >>> (nI k &&& 31)) &&& 1 = 1)) : (∃ k u', k < ng ∧ fX6_takeToldName 8 (o + 2) (nI ng) u = some (nI k, u') ∧ fX10_takeTold 0 20 m v = some (nI k, sI v 0 7 (nI (i + 1))) ∧ pR n T (i + 1) u' (sI v 0 7 (nI (i + 1))) ∧ Fr dSu u u' ∧ u.2.1 (o + 2) k = u.2.1 1 9) ∨ (∃ f v', fX6_takeToldName 8 (o + 2) (nI ng) u = some (-1, sI u 1 10 (nI f)) ∧ fX10_takeTold 0 20 m v = some (0, v') ∧ mF f v' ∧ Fr dSv v v') := by
  have hi := h.i1000
  have h8 := h.ok
  have le0 : ((0 : Int32) ≤ 0) = True := eq_true (by decide +kernel)
  obtain ⟨b, b1, b2, b3⟩ := p_isName h
  unfold fX6_takeToldName fX10_takeTold
  rw [b1, b2]
  cases b
  · obtain ⟨f, f1, f2, f3, f4⟩ := p_fail h 1 (by decide) (by decide)
    have f3' : fX6_fail 1 u = some (0, sI u 1 10 (nI f)) := f3
    have f4' : fX10_wrong 1 v = some ((), sI v 0 8 (nI f)) := f4
    obtain ⟨v', q1, q2, q3⟩ := mF19 (v := sI v 0 8 (nI f)) (mF.mk8 f1 f2) 0 20 m
    refine Or.inr ⟨f, v', ?_, ?_, q2, (Fr.sI ⟨rfl, Or.inr rfl⟩).trans q3⟩
    · simp only [b01, Bool.false_eq_true, if_false, i10, i00, decide_true, decide_false, cnd_t, cnd_f, gd_nil, gd_t, b1_0, b1_1, sw_nil, sw_cons, obs, f3']
    · simp only [b01, Bool.false_eq_true, if_false, i10, i00, decide_true, decide_false, cnd_t, cnd_f, gd_nil, gd_t, b1_0, b1_1, sw_nil, sw_cons, obs, h8, f4']
      exact q1
  · have hb1 : fX6_isName u = some (1, u) := b1
    have hk := b3 rfl
    have hk0 : u.1 1 7 ≠ 0 := by rw [hk]; decide +kernel
    have hw := h.word.2 hk
    obtain ⟨rc, c1, c2⟩ := c_index (u := u) (o0 := o + 2) (n0 := 8) hg8 (by decide) (u.2.1 1 9)
    obtain ⟨r, r1, r2⟩ := m_nameAt0 h.at hi hc (by omega)
    have hl := nm_look hp6 hg8 hN hw r2
    obtain ⟨f, f1, f2, f3, f4⟩ := p_fail h 2 (by decide) (by decide)
    have f3' : fX6_fail 2 u = some (0, sI u 1 10 (nI f)) := f3
    have f4' : fX10_wrong 2 v = some ((), sI v 0 8 (nI f)) := f4
    have bad : rc = -1 → fX10_within (r - 20) 0 7 v = some (0, v) → (∃ k u', k < ng ∧ ((some (b01 true, u)).bind fun q1 => bif decide (q1.1 = 0) then (fX6_fail 1 q1.2).bind fun q5 => some ((-1 : Int32), q5.2) else (fX9_indexOf 8 (o + 2) (nI ng) (q1.2.2.1 1 9) q1.2).bind fun q2 => bif decide (q2.1 = (-1)) then (fX6_fail 2 q2.2).bind fun q4 => some ((-1), q4.2) else (fX6_step q2.2).bind fun q3 => some (q2.1, q3.2)) = some (nI k, u') ∧ (bif decide (v.1 0 8 = 0) then (some (b01 true, v)).bind fun q5 => bif decide (q5.1 = 0) then (fX10_wrong 1 q5.2).bind fun q6 => fX10_takeTold_19 0 20 m q6.2 else fX10_takeTold_19 0 20 m q5.2 else fX10_takeTold_19 0 20 m v) = some (nI k, sI v 0 7 (nI (i + 1))) ∧ pR n T (i + 1) u' (sI v 0 7 (nI (i + 1))) ∧ Fr dSu u u' ∧ u.2.1 (o + 2) k = u.2.1 1 9) ∨ (∃ f v', ((some (b01 true, u)).bind fun q1 => bif decide (q1.1 = 0) then (fX6_fail 1 q1.2).bind fun q5 => some ((-1 : Int32), q5.2) else (fX9_indexOf 8 (o + 2) (nI ng) (q1.2.2.1 1 9) q1.2).bind fun q2 => bif decide (q2.1 = (-1)) then (fX6_fail 2 q2.2).bind fun q4 => some ((-1), q4.2) else (fX6_step q2.2).bind fun q3 => some (q2.1, q3.2)) = some (-1, sI u 1 10 (nI f)) ∧ (bif decide (v.1 0 8 = 0) then (some (b01 true, v)).bind fun q5 => bif decide (q5.1 = 0) then (fX10_wrong 1 q5.2).bind fun q6 => fX10_takeTold_19 0 20 m q6.2 else fX10_takeTold_19 0 20 m q5.2 else fX10_takeTold_19 0 20 m v) = some (0, v') ∧ mF f v' ∧ Fr dSv v v') := by
      intro er hin
      subst er
      obtain ⟨v', q1, q2, q3⟩ := told_bad h m hin f4' f1 f2
      refine Or.inr ⟨f, v', ?_, ?_, q2, q3⟩
      · simp only [b01, if_true, i10, i00, decide_true, decide_false, cnd_t, cnd_f, gd_nil, gd_t, b1_0, b1_1, sw_nil, sw_cons, obs, c1, f3']
      · unfold fX10_takeTold_19
        simp only [b01, if_true, i10, i00, decide_true, decide_false, cnd_t, cnd_f, gd_nil, gd_t, b1_0, b1_1, sw_nil, sw_cons, obs, h8, le0, r1]
        exact q1
    obtain ⟨p, p1, p2, p3⟩ | ⟨k, k1, k2, k3⟩ | ⟨e1, e2, e3⟩ := hl
    · refine bad ?_ (by rw [p3]; exact wi_neg (sub20_neg p (by omega)) v)
      obtain ⟨j, j1, j2, j3⟩ | ⟨j1, j2⟩ := c2
      · exact absurd (p2.trans j2.symm) (hN.2.2.2.2.2 p j p1 j1)
      · exact j1
    · obtain ⟨j, j1, j2, j3⟩ | ⟨j1, j2⟩ := c2
      · have ej := hN.2.2.2.2.1 j k j1 k1 (j2.trans k2.symm)
        subst ej
        obtain ⟨u', s1, s2, s3⟩ := p_step h hk0
        have n1 : (nI j = -1) ↔ False := nI_nm1 (by omega)
        have ok := told_ok h (k := j) (by omega) (hm hb1 j j1 j2)
        refine Or.inl ⟨j, u', j1, ?_, ?_, s2, s3, j2⟩
        · simp only [b01, if_true, i10, i00, decide_true, decide_false, cnd_t, cnd_f, gd_nil, gd_t, b1_0, b1_1, sw_nil, sw_cons, obs, c1, n1, s1, j3]
        · unfold fX10_takeTold_19
          simp only [b01, if_true, i10, i00, decide_true, decide_false, cnd_t, cnd_f, gd_nil, gd_t, b1_0, b1_1, sw_nil, sw_cons, obs, h8, le0, r1, k3, sub20]
          exact ok
      · exact absurd k2 (j2 k k1)
    · refine bad ?_ (by rw [e1]; exact wi_neg (by decide +kernel) v)
      obtain ⟨j, j1, j2, j3⟩ | ⟨j1, j2⟩ := c2
      · exact absurd j2 (e3 j j1)
      · exact j1
theorem p_toldX0 {np ng o : Nat} (hp6 : np ≤ 6) (hg8 : ng ≤ 8) (h : pR n T i u v) (hN : nmR np ng o 9 11 u v) (hc : v.1 0 18 = nI (np + ng)) (hn : fX6_isName u = some (1, u)) {k : Nat} (hk : k < ng) (hx : u.2.1 (o + 2) k = u.2.1 1 9) (m : Int32) (hm : (m >>> (nI k &&& 31)) &&& 1 = 1) : ∃ f v', fX6_fail 3 u = some (0, sI u 1 10 (nI f)) ∧ fX10_takeTold 0 20 m v = some (0, v') ∧ mF f v' ∧ Fr dSv v v' := by
  have hi := h.i1000
  have h8 := h.ok
  have le0 : ((0 : Int32) ≤ 0) = True := eq_true (by decide +kernel)
  obtain ⟨b, b1, b2, b3⟩ := p_isName h
  have eb : b = true := by
    cases b
    · rw [b1] at hn
      exact absurd (Prod.mk.inj (Option.some.inj hn)).1 (by decide +kernel)
    · rfl
  subst eb
  have hw := h.word.2 (b3 rfl)
  obtain ⟨r, r1, r2⟩ := m_nameAt0 h.at hi hc (by omega)
  have hl := nm_look hp6 hg8 hN hw r2
  obtain ⟨f, f1, f2, f3, f4⟩ := p_fail h 3 (by decide) (by decide)
  have er : r = nI (20 + k) := by
    obtain ⟨p, p1, p2, p3⟩ | ⟨j, j1, j2, j3⟩ | ⟨e1, e2, e3⟩ := hl
    · exact absurd (p2.trans hx.symm) (hN.2.2.2.2.2 p k p1 hk)
    · have ej := hN.2.2.2.2.1 j k j1 hk (j2.trans hx.symm)
      rw [j3, ej]
    · exact absurd hx (e3 k hk)
  obtain ⟨v', q1, q2, q3⟩ := told_mask h (k := k) (by omega) hm f4 f1 f2
  refine ⟨f, v', f3, ?_, q2, q3⟩
  unfold fX10_takeTold fX10_takeTold_19
  rw [b2]
  simp only [b01, if_true, i10, i00, decide_true, decide_false, cnd_t, cnd_f, gd_nil, gd_t, b1_0, b1_1, sw_nil, sw_cons, obs, h8, le0, r1, er, sub20]
  exact q1
theorem p_toldG1 {np ng o : Nat} (hp6 : np ≤ 6) (hg8 : ng ≤ 8) (h : pR n T i u v) (hN : nmR np ng o 10 12 u v) (hc : v.1 0 19 = nI (np + ng)) (m : Int32) (hm : fX6_isName u = some (1, u) → ∀ k, k < ng → u.2.1 (o + 2) k = u.2.1 1 9 → ¬ ((m >>> (nI k &&& 31)) &&& 1 = 1)) : (∃ k u', k < ng ∧ fX6_takeToldName 8 (o + 2) (nI ng) u = some (nI k, u') ∧ fX10_takeTold 1 20 m v = some (nI k, sI v 0 7 (nI (i + 1))) ∧ pR n T (i + 1) u' (sI v 0 7 (nI (i + 1))) ∧ Fr dSu u u' ∧ u.2.1 (o + 2) k = u.2.1 1 9) ∨ (∃ f v', fX6_takeToldName 8 (o + 2) (nI ng) u = some (-1, sI u 1 10 (nI f)) ∧ fX10_takeTold 1 20 m v = some (0, v') ∧ mF f v' ∧ Fr dSv v v') := by
  have hi := h.i1000
  have h8 := h.ok
  have le0 : ((0 : Int32) ≤ 0) = True := eq_true (by decide +kernel)
  obtain ⟨b, b1, b2, b3⟩ := p_isName h
  unfold fX6_takeToldName fX10_takeTold
  rw [b1, b2]
  cases b
  · obtain ⟨f, f1, f2, f3, f4⟩ := p_fail h 1 (by decide) (by decide)
    have f3' : fX6_fail 1 u = some (0, sI u 1 10 (nI f)) := f3
    have f4' : fX10_wrong 1 v = some ((), sI v 0 8 (nI f)) := f4
    obtain ⟨v', q1, q2, q3⟩ := mF19 (v := sI v 0 8 (nI f)) (mF.mk8 f1 f2) 1 20 m
    refine Or.inr ⟨f, v', ?_, ?_, q2, (Fr.sI ⟨rfl, Or.inr rfl⟩).trans q3⟩
    · simp only [b01, Bool.false_eq_true, if_false, i10, i00, decide_true, decide_false, cnd_t, cnd_f, gd_nil, gd_t, b1_0, b1_1, sw_nil, sw_cons, obs, f3']
    · simp only [b01, Bool.false_eq_true, if_false, i10, i00, decide_true, decide_false, cnd_t, cnd_f, gd_nil, gd_t, b1_0, b1_1, sw_nil, sw_cons, obs, h8, f4']
      exact q1
  · have hb1 : fX6_isName u = some (1, u) := b1
    have hk := b3 rfl
    have hk0 : u.1 1 7 ≠ 0 := by rw [hk]; decide +kernel
    have hw := h.word.2 hk
    obtain ⟨rc, c1, c2⟩ := c_index (u := u) (o0 := o + 2) (n0 := 8) hg8 (by decide) (u.2.1 1 9)
    obtain ⟨r, r1, r2⟩ := m_nameAt1 h.at hi hc (by omega)
    have hl := nm_look hp6 hg8 hN hw r2
    obtain ⟨f, f1, f2, f3, f4⟩ := p_fail h 2 (by decide) (by decide)
    have f3' : fX6_fail 2 u = some (0, sI u 1 10 (nI f)) := f3
    have f4' : fX10_wrong 2 v = some ((), sI v 0 8 (nI f)) := f4
    have bad : rc = -1 → fX10_within (r - 20) 0 7 v = some (0, v) → (∃ k u', k < ng ∧ ((some (b01 true, u)).bind fun q1 => bif decide (q1.1 = 0) then (fX6_fail 1 q1.2).bind fun q5 => some ((-1 : Int32), q5.2) else (fX9_indexOf 8 (o + 2) (nI ng) (q1.2.2.1 1 9) q1.2).bind fun q2 => bif decide (q2.1 = (-1)) then (fX6_fail 2 q2.2).bind fun q4 => some ((-1), q4.2) else (fX6_step q2.2).bind fun q3 => some (q2.1, q3.2)) = some (nI k, u') ∧ (bif decide (v.1 0 8 = 0) then (some (b01 true, v)).bind fun q5 => bif decide (q5.1 = 0) then (fX10_wrong 1 q5.2).bind fun q6 => fX10_takeTold_19 1 20 m q6.2 else fX10_takeTold_19 1 20 m q5.2 else fX10_takeTold_19 1 20 m v) = some (nI k, sI v 0 7 (nI (i + 1))) ∧ pR n T (i + 1) u' (sI v 0 7 (nI (i + 1))) ∧ Fr dSu u u' ∧ u.2.1 (o + 2) k = u.2.1 1 9) ∨ (∃ f v', ((some (b01 true, u)).bind fun q1 => bif decide (q1.1 = 0) then (fX6_fail 1 q1.2).bind fun q5 => some ((-1 : Int32), q5.2) else (fX9_indexOf 8 (o + 2) (nI ng) (q1.2.2.1 1 9) q1.2).bind fun q2 => bif decide (q2.1 = (-1)) then (fX6_fail 2 q2.2).bind fun q4 => some ((-1), q4.2) else (fX6_step q2.2).bind fun q3 => some (q2.1, q3.2)) = some (-1, sI u 1 10 (nI f)) ∧ (bif decide (v.1 0 8 = 0) then (some (b01 true, v)).bind fun q5 => bif decide (q5.1 = 0) then (fX10_wrong 1 q5.2).bind fun q6 => fX10_takeTold_19 1 20 m q6.2 else fX10_takeTold_19 1 20 m q5.2 else fX10_takeTold_19 1 20 m v) = some (0, v') ∧ mF f v' ∧ Fr dSv v v') := by
      intro er hin
      subst er
      obtain ⟨v', q1, q2, q3⟩ := told_bad h m hin f4' f1 f2
      refine Or.inr ⟨f, v', ?_, ?_, q2, q3⟩
      · simp only [b01, if_true, i10, i00, decide_true, decide_false, cnd_t, cnd_f, gd_nil, gd_t, b1_0, b1_1, sw_nil, sw_cons, obs, c1, f3']
      · unfold fX10_takeTold_19
        simp only [b01, if_true, i10, i00, decide_true, decide_false, cnd_t, cnd_f, gd_nil, gd_t, b1_0, b1_1, sw_nil, sw_cons, obs, h8, le0, r1]
        exact q1
    obtain ⟨p, p1, p2, p3⟩ | ⟨k, k1, k2, k3⟩ | ⟨e1, e2, e3⟩ := hl
    · refine bad ?_ (by rw [p3]; exact wi_neg (sub20_neg p (by omega)) v)
      obtain ⟨j, j1, j2, j3⟩ | ⟨j1, j2⟩ := c2
      · exact absurd (p2.trans j2.symm) (hN.2.2.2.2.2 p j p1 j1)
      · exact j1
    · obtain ⟨j, j1, j2, j3⟩ | ⟨j1, j2⟩ := c2
      · have ej := hN.2.2.2.2.1 j k j1 k1 (j2.trans k2.symm)
        subst ej
        obtain ⟨u', s1, s2, s3⟩ := p_step h hk0
        have n1 : (nI j = -1) ↔ False := nI_nm1 (by omega)
        have ok := told_ok h (k := j) (by omega) (hm hb1 j j1 j2)
        refine Or.inl ⟨j, u', j1, ?_, ?_, s2, s3, j2⟩
        · simp only [b01, if_true, i10, i00, decide_true, decide_false, cnd_t, cnd_f, gd_nil, gd_t, b1_0, b1_1, sw_nil, sw_cons, obs, c1, n1, s1, j3]
        · unfold fX10_takeTold_19
          simp only [b01, if_true, i10, i00, decide_true, decide_false, cnd_t, cnd_f, gd_nil, gd_t, b1_0, b1_1, sw_nil, sw_cons, obs, h8, le0, r1, k3, sub20]
          exact ok
      · exact absurd k2 (j2 k k1)
    · refine bad ?_ (by rw [e1]; exact wi_neg (by decide +kernel) v)
      obtain ⟨j, j1, j2, j3⟩ | ⟨j1, j2⟩ := c2
      · exact absurd j2 (e3 j j1)
      · exact j1
theorem p_toldX1 {np ng o : Nat} (hp6 : np ≤ 6) (hg8 : ng ≤ 8) (h : pR n T i u v) (hN : nmR np ng o 10 12 u v) (hc : v.1 0 19 = nI (np + ng)) (hn : fX6_isName u = some (1, u)) {k : Nat} (hk : k < ng) (hx : u.2.1 (o + 2) k = u.2.1 1 9) (m : Int32) (hm : (m >>> (nI k &&& 31)) &&& 1 = 1) : ∃ f v', fX6_fail 3 u = some (0, sI u 1 10 (nI f)) ∧ fX10_takeTold 1 20 m v = some (0, v') ∧ mF f v' ∧ Fr dSv v v' := by
  have hi := h.i1000
  have h8 := h.ok
  have le0 : ((0 : Int32) ≤ 0) = True := eq_true (by decide +kernel)
  obtain ⟨b, b1, b2, b3⟩ := p_isName h
  have eb : b = true := by
    cases b
    · rw [b1] at hn
      exact absurd (Prod.mk.inj (Option.some.inj hn)).1 (by decide +kernel)
    · rfl
  subst eb
  have hw := h.word.2 (b3 rfl)
  obtain ⟨r, r1, r2⟩ := m_nameAt1 h.at hi hc (by omega)
  have hl := nm_look hp6 hg8 hN hw r2
  obtain ⟨f, f1, f2, f3, f4⟩ := p_fail h 3 (by decide) (by decide)
  have er : r = nI (20 + k) := by
    obtain ⟨p, p1, p2, p3⟩ | ⟨j, j1, j2, j3⟩ | ⟨e1, e2, e3⟩ := hl
    · exact absurd (p2.trans hx.symm) (hN.2.2.2.2.2 p k p1 hk)
    · have ej := hN.2.2.2.2.1 j k j1 hk (j2.trans hx.symm)
      rw [j3, ej]
    · exact absurd hx (e3 k hk)
  obtain ⟨v', q1, q2, q3⟩ := told_mask h (k := k) (by omega) hm f4 f1 f2
  refine ⟨f, v', f3, ?_, q2, q3⟩
  unfold fX10_takeTold fX10_takeTold_19
  rw [b2]
  simp only [b01, if_true, i10, i00, decide_true, decide_false, cnd_t, cnd_f, gd_nil, gd_t, b1_0, b1_1, sw_nil, sw_cons, obs, h8, le0, r1, er, sub20]
  exact q1
end PU
