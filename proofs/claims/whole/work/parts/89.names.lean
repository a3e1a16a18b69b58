/-! names told, looked up on both sides -/
section PU
variable {u v u' v' : ab_S} {n T i : Nat}
theorem c_index {n0 o0 m : Nat} (hm : m ≤ n0) (hn : n0 ≤ 100) (x : Int64) : ∃ r, fX9_indexOf n0 o0 (nI m) x u = some (r, u) ∧ ((∃ j, j < m ∧ u.2.1 o0 j = x ∧ r = nI j) ∨ (r = -1 ∧ ∀ j, j < m → u.2.1 o0 j ≠ x)) := by
  have loop : ∀ d k N, k + d = m → d < N → ∃ r, fX9_indexOf_3 n0 o0 N (nI m) x (nI k) u = some (r, u) ∧ ((∃ j, k ≤ j ∧ j < m ∧ u.2.1 o0 j = x ∧ r = nI j) ∨ (r = -1 ∧ ∀ j, k ≤ j → j < m → u.2.1 o0 j ≠ x)) := by
    intro d
    induction d with
    | zero =>
      intro k N hk hN
      obtain ⟨N, rfl⟩ : ∃ m, N = m + 1 := ⟨N - 1, by omega⟩
      rw [fX9_indexOf_3]
      simp (disch := first | omega | decide) only [i10, i00, decide_true, decide_false, cnd_t, cnd_f, gd_nil, gd_t, b1_0, b1_1, sw_nil, sw_cons, obs, Nat.not_lt_zero, nI_addo, nI_oadd, nI_add, nI_mulo, nI_omul, nI_mul, nI_lto, nI_leo, nI_olt, nI_ole, nI_eqo, nI_oeq, nI_lt2, nI_le2, nI_eq2, nI_nm1, nI_m1n, nI_lt0, nI_lem1, nc_nI, nc_o, ix_nI, ix_o, show ¬ k < m by omega]
      exact ⟨-1, rfl, Or.inr ⟨rfl, fun j h1 h2 => by omega⟩⟩
    | succ d ih =>
      intro k N hk hN
      obtain ⟨N, rfl⟩ : ∃ m, N = m + 1 := ⟨N - 1, by omega⟩
      rw [fX9_indexOf_3, show Int32.ofNat n0 = nI n0 from rfl]
      simp (disch := first | omega | decide) only [i10, i00, decide_true, decide_false, cnd_t, cnd_f, gd_nil, gd_t, b1_0, b1_1, sw_nil, sw_cons, obs, Nat.not_lt_zero, nI_addo, nI_oadd, nI_add, nI_mulo, nI_omul, nI_mul, nI_lto, nI_leo, nI_olt, nI_ole, nI_eqo, nI_oeq, nI_lt2, nI_le2, nI_eq2, nI_nm1, nI_m1n, nI_lt0, nI_lem1, nc_nI, nc_o, ix_nI, ix_o, show k < m by omega, show k < n0 by omega]
      by_cases e : u.2.1 o0 k = x
      · simp only [e, i10, i00, decide_true, decide_false, cnd_t, cnd_f, gd_nil, gd_t, b1_0, b1_1, sw_nil, sw_cons, obs]
        exact ⟨nI k, rfl, Or.inl ⟨k, Nat.le_refl k, by omega, e, rfl⟩⟩
      · simp only [e, i10, i00, decide_true, decide_false, cnd_t, cnd_f, gd_nil, gd_t, b1_0, b1_1, sw_nil, sw_cons, obs]
        obtain ⟨r, h1, h2⟩ := ih (k + 1) N (by omega) (by omega)
        refine ⟨r, h1, ?_⟩
        obtain ⟨j, g1, g2, g3, g4⟩ | ⟨g1, g2⟩ := h2
        · exact Or.inl ⟨j, by omega, g2, g3, g4⟩
        · refine Or.inr ⟨g1, fun j h3 h4 => ?_⟩
          by_cases ej : j = k
          · subst ej; exact e
          · exact g2 j (by omega) h4
  obtain ⟨r, h1, h2⟩ := loop m 0 fu (by omega) (show m < 5000 by omega)
  refine ⟨r, h1, ?_⟩
  obtain ⟨j, -, g2, g3, g4⟩ | ⟨g1, g2⟩ := h2
  · exact Or.inl ⟨j, g2, g3, g4⟩
  · exact Or.inr ⟨g1, fun j hj => g2 j (Nat.zero_le j) hj⟩
theorem m_nameAt0 {m : Nat} (h7 : v.1 0 7 = nI i) (hi : i ≤ 1000) (hc : v.1 0 18 = nI m) (hm : m ≤ 14) : ∃ r, fX10_nameAt 0 v = some (r, v) ∧ ((∃ q, q < m ∧ v.2.1 9 q = v.2.1 4 i ∧ r = v.1 11 q) ∨ (r = -1 ∧ ∀ q, q < m → v.2.1 9 q ≠ v.2.1 4 i)) := by
  have loop : ∀ d k N, k + d = m → d < N → ∃ r, fX10_nameAt_2 N 0 (nI k) v = some (r, v) ∧ ((∃ q, k ≤ q ∧ q < m ∧ v.2.1 9 q = v.2.1 4 i ∧ r = v.1 11 q) ∨ (r = -1 ∧ ∀ q, k ≤ q → q < m → v.2.1 9 q ≠ v.2.1 4 i)) := by
    intro d
    induction d with
    | zero =>
      intro k N hk hN
      obtain ⟨N, rfl⟩ : ∃ m, N = m + 1 := ⟨N - 1, by omega⟩
      rw [fX10_nameAt_2]
      unfold fX10_nameAt_18
      rw [hc]
      simp (disch := first | omega | decide) only [i10, i00, decide_true, decide_false, cnd_t, cnd_f, gd_nil, gd_t, b1_0, b1_1, sw_nil, sw_cons, obs, Nat.not_lt_zero, nI_addo, nI_oadd, nI_add, nI_mulo, nI_omul, nI_mul, nI_lto, nI_leo, nI_olt, nI_ole, nI_eqo, nI_oeq, nI_lt2, nI_le2, nI_eq2, nI_nm1, nI_m1n, nI_lt0, nI_lem1, nc_nI, nc_o, ix_nI, ix_o, show ¬ k < m by omega]
      exact ⟨-1, rfl, Or.inr ⟨rfl, fun j h1 h2 => by omega⟩⟩
    | succ d ih =>
      intro k N hk hN
      obtain ⟨N, rfl⟩ : ∃ m, N = m + 1 := ⟨N - 1, by omega⟩
      rw [fX10_nameAt_2]
      unfold fX10_nameAt_18 fX10_nameAt_40
      rw [hc, h7]
      simp (disch := first | omega | decide) only [i10, i00, decide_true, decide_false, cnd_t, cnd_f, gd_nil, gd_t, b1_0, b1_1, sw_nil, sw_cons, obs, Nat.not_lt_zero, nI_addo, nI_oadd, nI_add, nI_mulo, nI_omul, nI_mul, nI_lto, nI_leo, nI_olt, nI_ole, nI_eqo, nI_oeq, nI_lt2, nI_le2, nI_eq2, nI_nm1, nI_m1n, nI_lt0, nI_lem1, nc_nI, nc_o, ix_nI, ix_o, show k < m by omega]
      by_cases e : v.2.1 9 k = v.2.1 4 i
      · simp only [e, i10, i00, decide_true, decide_false, cnd_t, cnd_f, gd_nil, gd_t, b1_0, b1_1, sw_nil, sw_cons, obs]
        exact ⟨_, rfl, Or.inl ⟨k, Nat.le_refl k, by omega, e, rfl⟩⟩
      · simp only [e, i10, i00, decide_true, decide_false, cnd_t, cnd_f, gd_nil, gd_t, b1_0, b1_1, sw_nil, sw_cons, obs]
        obtain ⟨r, h1, h2⟩ := ih (k + 1) N (by omega) (by omega)
        refine ⟨r, h1, ?_⟩
        obtain ⟨j, g1, g2, g3, g4⟩ | ⟨g1, g2⟩ := h2
        · exact Or.inl ⟨j, by omega, g2, g3, g4⟩
        · refine Or.inr ⟨g1, fun j h3 h4 => ?_⟩
          by_cases ej : j = k
          · subst ej; exact e
          · exact g2 j (by omega) h4
  obtain ⟨r, h1, h2⟩ := loop m 0 fu (by omega) (show m < 5000 by omega)
  refine ⟨r, h1, ?_⟩
  obtain ⟨j, -, g2, g3, g4⟩ | ⟨g1, g2⟩ := h2
  · exact Or.inl ⟨j, g2, g3, g4⟩
  · exact Or.inr ⟨g1, fun j hj => g2 j (Nat.zero_le j) hj⟩
theorem m_nameAt1 {m : Nat} (h7 : v.1 0 7 = nI i) (hi : i ≤ 1000) (hc : v.1 0 19 = nI m) (hm : m ≤ 14) : ∃ r, fX10_nameAt 1 v = some (r, v) ∧ ((∃ q, q < m ∧ v.2.1 10 q = v.2.1 4 i ∧ r = v.1 12 q) ∨ (r = -1 ∧ ∀ q, q < m → v.2.1 10 q ≠ v.2.1 4 i)) := by
  have loop : ∀ d k N, k + d = m → d < N → ∃ r, fX10_nameAt_2 N 1 (nI k) v = some (r, v) ∧ ((∃ q, k ≤ q ∧ q < m ∧ v.2.1 10 q = v.2.1 4 i ∧ r = v.1 12 q) ∨ (r = -1 ∧ ∀ q, k ≤ q → q < m → v.2.1 10 q ≠ v.2.1 4 i)) := by
    intro d
    induction d with
    | zero =>
      intro k N hk hN
      obtain ⟨N, rfl⟩ : ∃ m, N = m + 1 := ⟨N - 1, by omega⟩
      rw [fX10_nameAt_2]
      unfold fX10_nameAt_18
      rw [hc]
      simp (disch := first | omega | decide) only [i10, i00, decide_true, decide_false, cnd_t, cnd_f, gd_nil, gd_t, b1_0, b1_1, sw_nil, sw_cons, obs, Nat.not_lt_zero, nI_addo, nI_oadd, nI_add, nI_mulo, nI_omul, nI_mul, nI_lto, nI_leo, nI_olt, nI_ole, nI_eqo, nI_oeq, nI_lt2, nI_le2, nI_eq2, nI_nm1, nI_m1n, nI_lt0, nI_lem1, nc_nI, nc_o, ix_nI, ix_o, show ¬ k < m by omega]
      exact ⟨-1, rfl, Or.inr ⟨rfl, fun j h1 h2 => by omega⟩⟩
    | succ d ih =>
      intro k N hk hN
      obtain ⟨N, rfl⟩ : ∃ m, N = m + 1 := ⟨N - 1, by omega⟩
      rw [fX10_nameAt_2]
      unfold fX10_nameAt_18 fX10_nameAt_40
      rw [hc, h7]
      simp (disch := first | omega | decide) only [i10, i00, decide_true, decide_false, cnd_t, cnd_f, gd_nil, gd_t, b1_0, b1_1, sw_nil, sw_cons, obs, Nat.not_lt_zero, nI_addo, nI_oadd, nI_add, nI_mulo, nI_omul, nI_mul, nI_lto, nI_leo, nI_olt, nI_ole, nI_eqo, nI_oeq, nI_lt2, nI_le2, nI_eq2, nI_nm1, nI_m1n, nI_lt0, nI_lem1, nc_nI, nc_o, ix_nI, ix_o, show k < m by omega]
      by_cases e : v.2.1 10 k = v.2.1 4 i
      · simp only [e, i10, i00, decide_true, decide_false, cnd_t, cnd_f, gd_nil, gd_t, b1_0, b1_1, sw_nil, sw_cons, obs]
        exact ⟨_, rfl, Or.inl ⟨k, Nat.le_refl k, by omega, e, rfl⟩⟩
      · simp only [e, i10, i00, decide_true, decide_false, cnd_t, cnd_f, gd_nil, gd_t, b1_0, b1_1, sw_nil, sw_cons, obs]
        obtain ⟨r, h1, h2⟩ := ih (k + 1) N (by omega) (by omega)
        refine ⟨r, h1, ?_⟩
        obtain ⟨j, g1, g2, g3, g4⟩ | ⟨g1, g2⟩ := h2
        · exact Or.inl ⟨j, by omega, g2, g3, g4⟩
        · refine Or.inr ⟨g1, fun j h3 h4 => ?_⟩
          by_cases ej : j = k
          · subst ej; exact e
          · exact g2 j (by omega) h4
  obtain ⟨r, h1, h2⟩ := loop m 0 fu (by omega) (show m < 5000 by omega)
  refine ⟨r, h1, ?_⟩
  obtain ⟨j, -, g2, g3, g4⟩ | ⟨g1, g2⟩ := h2
  · exact Or.inl ⟨j, g2, g3, g4⟩
  · exact Or.inr ⟨g1, fun j hj => g2 j (Nat.zero_le j) hj⟩
-- what stands under a name on both sides
def lkR (np ng o : Nat) (u : ab_S) (x : Int64) (r : Int32) : Prop := (∃ p, p < np ∧ u.2.1 (o + 1) p = x ∧ r = nI p) ∨ (∃ k, k < ng ∧ u.2.1 (o + 2) k = x ∧ r = nI (20 + k)) ∨ (r = -1 ∧ (∀ p, p < np → u.2.1 (o + 1) p ≠ x) ∧ (∀ k, k < ng → u.2.1 (o + 2) k ≠ x))
theorem nm_look {np ng o a1 a2 : Nat} (hp6 : np ≤ 6) (hg8 : ng ≤ 8) (h : nmR np ng o a1 a2 u v) {x y : Int64} (hw : WR x y) {r : Int32} (hr : (∃ q, q < np + ng ∧ v.2.1 a1 q = y ∧ r = v.1 a2 q) ∨ (r = -1 ∧ ∀ q, q < np + ng → v.2.1 a1 q ≠ y)) : lkR np ng o u x r := by
  obtain ⟨h1, h2, h3, h4, h5, h6⟩ := h
  obtain ⟨q, q1, q2, q3⟩ | ⟨q1, q2⟩ := hr
  · subst q3
    obtain ⟨p, p1, p2, p3⟩ | ⟨k, k1, k2, k3⟩ := h1 q q1
    · rw [q2] at p3
      exact Or.inl ⟨p, p1, (p3.inj hw).mpr rfl, p2⟩
    · rw [q2] at k3
      exact Or.inr (Or.inl ⟨k, k1, (k3.inj hw).mpr rfl, k2⟩)
  · refine Or.inr (Or.inr ⟨q1, fun p hp e => ?_, fun k hk e => ?_⟩)
    · obtain ⟨j, j1, j2⟩ := h2 p hp
      obtain ⟨p', p1, p2, p3⟩ | ⟨k, k1, k2, k3⟩ := h1 j j1
      · have ep : p = p' := ((nI_eq2 (by omega) (by omega)).mp (j2.symm.trans p2))
        subst ep
        exact q2 j j1 ((p3.inj hw).mp e)
      · have ep := ((nI_eq2 (by omega) (by omega)).mp (j2.symm.trans k2))
        omega
    · obtain ⟨j, j1, j2⟩ := h3 k hk
      obtain ⟨p', p1, p2, p3⟩ | ⟨k', k1, k2, k3⟩ := h1 j j1
      · have ep := ((nI_eq2 (by omega) (by omega)).mp (j2.symm.trans p2))
        omega
      · have ep := ((nI_eq2 (by omega) (by omega)).mp (j2.symm.trans k2))
        have ek : k = k' := by omega
        subst ek
        exact q2 j j1 ((k3.inj hw).mp e)
end PU
