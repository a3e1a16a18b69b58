/-! the line of a liking -/
section PU
variable {u v u' v' : ab_S} {n T i o : Nat}
theorem c_like {p k : Nat} (hp : p < 6) (hk : k < 8) : fX2_likeOf o (nI p) (nI k) u = some (u.1 (o + 7) (p * 8 + k), u) := by
  unfold fX2_likeOf
  have e : nI p * 8 + nI k = nI (p * 8 + k) := by
    rw [show nI p * 8 = nI (p * 8) from nI_mul p 8]
    exact nI_add _ _
  rw [e, c_at (by omega) (by decide)]
  simp only [obs]
-- the reference gathers what the person likes already
theorem m_likes {p : Nat} (hp : p < 6) (h8 : v.1 0 8 = 0) (P : Nat → Bool) (hP : ∀ k, k < 8 → ∃ l, l ≤ 20 ∧ v.1 6 (122 + 8 * p + k) = nI l ∧ (P k = true ↔ 0 < l)) : ∀ d k N, k + d = 8 → d < N → fX10_readLike_28 N (nI (122 + 8 * p)) (nI (bS P k)) (nI k) v = fX10_readLike_68 (nI (122 + 8 * p)) (nI (bS P 8)) v := by
  intro d
  induction d with
  | zero =>
    intro k N hk hN
    obtain ⟨N, rfl⟩ : ∃ m, N = m + 1 := ⟨N - 1, by omega⟩
    have ek : k = 8 := by omega
    subst ek
    rw [fX10_readLike_28]
    simp only [show (nI 8 < 8) = False from eq_false (by decide +kernel), i10, i00, decide_true, decide_false, cnd_t, cnd_f, gd_nil, gd_t, b1_0, b1_1, sw_nil, sw_cons, obs]
  | succ d ih =>
    intro k N hk hN
    obtain ⟨N, rfl⟩ : ∃ m, N = m + 1 := ⟨N - 1, by omega⟩
    obtain ⟨l, l1, l2, l3⟩ := hP k (by omega)
    have hb : bS P k < 256 := bS_256 (by omega)
    rw [fX10_readLike_28, h8]
    simp (disch := first | omega | decide) only [i10, i00, decide_true, decide_false, cnd_t, cnd_f, gd_nil, gd_t, b1_0, b1_1, sw_nil, sw_cons, obs, Nat.not_lt_zero, nI_addo, nI_oadd, nI_add, nI_mulo, nI_omul, nI_mul, nI_lto, nI_leo, nI_olt, nI_ole, nI_eqo, nI_oeq, nI_lt2, nI_le2, nI_eq2, nI_nm1, nI_m1n, nI_lt0, nI_lem1, nc_nI, nc_o, ix_nI, ix_o, show k < 8 by omega, l2]
    rw [← ih (k + 1) N (by omega) (by omega)]
    by_cases e : P k = true
    · have e1 : ¬ l ≤ 0 := by have := l3.mp e; omega
      simp only [e1, i10, i00, decide_true, decide_false, cnd_t, cnd_f, gd_nil, gd_t, b1_0, b1_1, sw_nil, sw_cons, obs]
      rw [zb_or hb (by omega)]
      simp only [bS, e, if_true]
    · have e1 : l ≤ 0 := by
        have := mt l3.mpr e
        omega
      simp only [e1, i10, i00, decide_true, decide_false, cnd_t, cnd_f, gd_nil, gd_t, b1_0, b1_1, sw_nil, sw_cons, obs]
      rw [show nI (bS P k) ||| 0 = nI (bS P k) from Int32.or_zero]
      simp only [bS, e, if_false, Bool.false_eq_true]
end PU
