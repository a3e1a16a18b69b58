/-! copies, starts, rights: both sides -/
section PU
variable {Z : dZ} {o o1 b : Nat} {s : Nat → Int32} {u v : ab_S}
theorem pm_S.congr {s' : Nat → Int32} (h : pm_S b s v) (e : ∀ j, j < 22 → s j = s' j) : pm_S b s' v := fun k hk => (h k hk).trans (e k hk)
theorem pc_S.congr {s' : Nat → Int32} (h : pc_S o s u) (e : ∀ j, j < 22 → s j = s' j) : pc_S o s' u := by
  obtain ⟨h1, h2, h3, h4, h5⟩ := h
  exact ⟨h1.trans (e 0 (by decide)), by rw [← e 1 (by decide)]; exact h2, fun k hk => (h3 k hk).trans (e _ (by omega)), fun k hk => (h4 k hk).trans (e _ (by omega)), fun k hk => (h5 k hk).trans (e _ (by omega))⟩
theorem pv_S.congr {s' : Nat → Int32} (hE : pE Z) (h : pv_S Z s) (e : ∀ j, j < 22 → s j = s' j) : pv_S Z s' := by
  have hg := hE.2.1
  obtain ⟨h1, h2, h3, h4, h5, h6⟩ := h
  exact ⟨fun k hk => by rw [← e _ (by omega)]; exact h1 k hk, fun k a c => by rw [← e _ (by omega)]; exact h2 k a c, fun p hp => by rw [← e _ (by omega)]; exact h3 p hp, fun p hp => by rw [← e _ (by omega)]; exact h4 p hp, fun p hp a => by rw [← e _ (by omega), ← e _ (by omega)]; exact h5 p hp a, by rw [← e 1 (by decide)]; exact h6⟩
-- ===== copies =====
theorem c_copy2 {n a c : Nat} (hac : a ≠ c) (hn : n < 2147483648) : ∀ (d k m : Nat) (u : ab_S), k + d = n → d < m → ∃ u', fX9_copy_2 n a n c m (nI k) u = some ((), u') ∧ (∀ j, k ≤ j → j < n → u'.1 c j = u.1 a j) ∧ Fr (fun x j => x = c ∧ k ≤ j) u u' := by
  have en : Int32.ofNat n = nI n := rfl
  intro d
  induction d with
  | zero =>
    intro k m u hk hm
    obtain ⟨m, rfl⟩ : ∃ i, m = i + 1 := ⟨m - 1, by omega⟩
    have e : k = n := by omega
    subst e
    refine ⟨u, ?_, fun j a c => by omega, Fr.rfl'⟩
    rw [fX9_copy_2, en]
    simp (disch := first | omega | decide) only [i10, i00, decide_true, decide_false, cnd_t, cnd_f, gd_nil, gd_t, b1_0, b1_1, sw_nil, sw_cons, obs, Nat.not_lt_zero, nI_addo, nI_oadd, nI_add, nI_mulo, nI_omul, nI_mul, nI_lto, nI_leo, nI_olt, nI_ole, nI_eqo, nI_oeq, nI_lt2, nI_le2, nI_eq2, nI_nm1, nI_m1n, nI_lt0, nI_lem1, nc_nI, nc_o, ix_nI, ix_o, Nat.lt_irrefl]
  | succ d ih =>
    intro k m u hk hm
    obtain ⟨m, rfl⟩ : ∃ i, m = i + 1 := ⟨m - 1, by omega⟩
    have hk8 : k < n := by omega
    obtain ⟨u', q, h1, h2⟩ := ih (k + 1) m (sI u c k (u.1 a k)) (by omega) (by omega)
    refine ⟨u', ?_, ?_, ?_⟩
    · rw [fX9_copy_2, en]
      simp (disch := first | omega | decide) only [i10, i00, decide_true, decide_false, cnd_t, cnd_f, gd_nil, gd_t, b1_0, b1_1, sw_nil, sw_cons, obs, Nat.not_lt_zero, nI_addo, nI_oadd, nI_add, nI_mulo, nI_omul, nI_mul, nI_lto, nI_leo, nI_olt, nI_ole, nI_eqo, nI_oeq, nI_lt2, nI_le2, nI_eq2, nI_nm1, nI_m1n, nI_lt0, nI_lem1, nc_nI, nc_o, ix_nI, ix_o, hk8]
      exact q
    · intro j hj hjn
      by_cases e : j = k
      · subst e
        rw [h2.1 c j (by intro z; omega), sI_at, if_pos ⟨rfl, rfl⟩]
      · rw [h1 j (by omega) hjn, sI_at, if_neg (by intro z; exact hac z.1)]
    · exact Fr.trans (Fr.sI ⟨rfl, Nat.le_refl k⟩) (h2.mono fun x j z => ⟨z.1, by omega⟩)
theorem c_copy {n a c : Nat} (hac : a ≠ c) (hn : n < 4000) : ∃ u', fX9_copy n a n c u = some ((), u') ∧ (∀ j, j < n → u'.1 c j = u.1 a j) ∧ Fr (fun x _ => x = c) u u' := by
  obtain ⟨u', q, h1, h2⟩ := c_copy2 hac (show n < 2147483648 by omega) n 0 fu u (Nat.zero_add _) (by simp only [fu]; omega)
  exact ⟨u', q, fun j hj => h1 j (Nat.zero_le j) hj, h2.mono fun x j z => z.1⟩
theorem c_copyOf {o0 : Nat} (hd : o0 + 4 ≤ o1 ∨ o1 + 4 ≤ o0) (h : pc_S o1 s u) : ∃ u', fX5_copyOf o0 o1 u = some ((), u') ∧ Fc o0 u u' ∧ pc_S o0 s u' := by
  obtain ⟨h1, h2, h3, h4, h5⟩ := h
  obtain ⟨u1, q1, a1, f1⟩ := c_copy (u := u) (n := 8) (a := o1 + 1) (c := o0 + 1) (by omega) (by decide)
  obtain ⟨u2, q2, a2, f2⟩ := c_copy (u := u1) (n := 6) (a := o1 + 2) (c := o0 + 2) (by omega) (by decide)
  obtain ⟨u3, q3, a3, f3⟩ := c_copy (u := u2) (n := 6) (a := o1 + 3) (c := o0 + 3) (by omega) (by decide)
  have g3 : ∀ a k, a ≠ o0 + 1 → a ≠ o0 + 2 → a ≠ o0 + 3 → u3.1 a k = u.1 a k := fun a k x y z => (f3.1 a k z).trans ((f2.1 a k y).trans (f1.1 a k x))
  have l3 : ∀ a k, a ≠ o0 + 1 → a ≠ o0 + 2 → a ≠ o0 + 3 → u3.2.1 a k = u.2.1 a k := fun a k x y z => (f3.2.1 a k z).trans ((f2.2.1 a k y).trans (f1.2.1 a k x))
  have e4 : (sJ u3 o0 3 (u3.2.1 o1 3)).1 o1 4 = s 0 := by rw [sJ_i, g3 _ _ (by omega) (by omega) (by omega), h1]
  have e3 : u3.2.1 o1 3 = (s 1).toInt64 := by rw [l3 _ _ (by omega) (by omega) (by omega), h2]
  refine ⟨sI (sJ u3 o0 3 (s 1).toInt64) o0 4 (s 0), ?_, ?_, ?_, ?_, ?_, ?_, ?_⟩
  · unfold fX5_copyOf
    rw [q1]
    simp only [obs]
    rw [q2]
    simp only [obs]
    rw [q3]
    simp only [obs]
    rw [e4, e3]
  · refine Fr.trans (f1.mono ?_) (Fr.trans (f2.mono ?_) (Fr.trans (f3.mono ?_) (Fr.trans (Fr.sJ ⟨by omega, by omega⟩) (Fr.sI ⟨by omega, by omega⟩)))) <;> (intro a k z; exact ⟨by omega, by omega⟩)
  · rw [sI_at, if_pos ⟨rfl, rfl⟩]
  · rw [sI_l, sJ_at, if_pos ⟨rfl, rfl⟩]
  · intro k hk
    rw [sI_at, if_neg (by omega), sJ_i, f3.1 _ _ (by omega), f2.1 _ _ (by omega), a1 k hk, h3 k hk]
  · intro k hk
    rw [sI_at, if_neg (by omega), sJ_i, f3.1 _ _ (by omega), a2 k hk, f1.1 _ _ (by omega), h4 k hk]
  · intro k hk
    rw [sI_at, if_neg (by omega), sJ_i, a3 k hk, f2.1 _ _ (by omega), f1.1 _ _ (by omega), h5 k hk]
theorem m_copy3 {f t n : Nat} (hd : f + n ≤ t ∨ t + n ≤ f) (hf : f + n ≤ 1081) (ht : t + n ≤ 1081) : ∀ (d k m : Nat) (v : ab_S), k + d = n → d < m → ∃ v', fX10_copies_3 m (nI f) (nI t) (nI n) (nI k) v = some ((), v') ∧ (∀ j, k ≤ j → j < n → v'.1 16 (t + j) = v.1 16 (f + j)) ∧ Fr (fun x j => x = 16 ∧ t + k ≤ j ∧ j < t + n) v v' := by
  intro d
  induction d with
  | zero =>
    intro k m v hk hm
    obtain ⟨m, rfl⟩ : ∃ i, m = i + 1 := ⟨m - 1, by omega⟩
    have e : k = n := by omega
    subst e
    refine ⟨v, ?_, fun j a c => by omega, Fr.rfl'⟩
    rw [fX10_copies_3]
    simp (disch := first | omega | decide) only [i10, i00, decide_true, decide_false, cnd_t, cnd_f, gd_nil, gd_t, b1_0, b1_1, sw_nil, sw_cons, obs, Nat.not_lt_zero, nI_addo, nI_oadd, nI_add, nI_mulo, nI_omul, nI_mul, nI_lto, nI_leo, nI_olt, nI_ole, nI_eqo, nI_oeq, nI_lt2, nI_le2, nI_eq2, nI_nm1, nI_m1n, nI_lt0, nI_lem1, nc_nI, nc_o, ix_nI, ix_o, Nat.lt_irrefl]
  | succ d ih =>
    intro k m v hk hm
    obtain ⟨m, rfl⟩ : ∃ i, m = i + 1 := ⟨m - 1, by omega⟩
    have hk8 : k < n := by omega
    obtain ⟨v', q, h1, h2⟩ := ih (k + 1) m (sI v 16 (t + k) (v.1 16 (f + k))) (by omega) (by omega)
    refine ⟨v', ?_, ?_, ?_⟩
    · rw [fX10_copies_3]
      simp (disch := first | omega | decide) only [i10, i00, decide_true, decide_false, cnd_t, cnd_f, gd_nil, gd_t, b1_0, b1_1, sw_nil, sw_cons, obs, Nat.not_lt_zero, nI_addo, nI_oadd, nI_add, nI_mulo, nI_omul, nI_mul, nI_lto, nI_leo, nI_olt, nI_ole, nI_eqo, nI_oeq, nI_lt2, nI_le2, nI_eq2, nI_nm1, nI_m1n, nI_lt0, nI_lem1, nc_nI, nc_o, ix_nI, ix_o, hk8]
      exact q
    · intro j hj hjn
      by_cases e : j = k
      · subst e
        rw [h2.1 16 (t + j) (by intro z; omega), sI_at, if_pos ⟨rfl, rfl⟩]
      · rw [h1 j (by omega) hjn, sI_at, if_neg (by intro z; omega)]
    · exact Fr.trans (Fr.sI ⟨rfl, by omega, by omega⟩) (h2.mono fun x j z => ⟨z.1, by omega, by omega⟩)
theorem m_copy {f t n : Nat} (hd : f + n ≤ t ∨ t + n ≤ f) (hf : f + n ≤ 1081) (ht : t + n ≤ 1081) : ∃ v', fX10_copies (nI f) (nI t) (nI n) v = some ((), v') ∧ (∀ j, j < n → v'.1 16 (t + j) = v.1 16 (f + j)) ∧ Fr (fun x j => x = 16 ∧ t ≤ j ∧ j < t + n) v v' := by
  obtain ⟨v', q, h1, h2⟩ := m_copy3 hd hf ht n 0 fu v (Nat.zero_add _) (by simp only [fu]; omega)
  exact ⟨v', q, fun j hj => h1 j (Nat.zero_le j) hj, h2.mono fun x j z => ⟨z.1, by omega, z.2.2⟩⟩
theorem m_copyS {f t : Nat} (hd : f + 22 ≤ t ∨ t + 22 ≤ f) (hf : f ≤ 1059) (ht : t ≤ 1059) (h : pm_S f s v) : ∃ v', fX10_copies (nI f) (nI t) (nI 22) v = some ((), v') ∧ Fr (fun x j => x = 16 ∧ t ≤ j ∧ j < t + 22) v v' ∧ pm_S t s v' := by
  obtain ⟨v', q, h1, h2⟩ := m_copy (v := v) (n := 22) hd (by omega) (by omega)
  exact ⟨v', q, h2, fun k hk => (h1 k hk).trans (h k hk)⟩
-- ===== starts =====
def s0 (Z : dZ) (j : Nat) : Int32 := if j = 1 then Z.2.2.1 6 2 else if 2 ≤ j ∧ j < 10 then -1 else if 10 ≤ j ∧ j < 10 + Z.1 then Z.2.2.1 6 (5 + 2 * (j - 10)) else 0
theorem pv_s0 (hE : pE Z) : pv_S Z (s0 Z) := by
  have hg := hE.2.1
  have hp6 := hE.1
  have e0 : (0 : Int32) = nI 0 := rfl
  refine ⟨fun k hk => Or.inl ?_, fun k a c => ?_, fun p hp => ?_, fun p hp => ⟨0, by omega, ?_⟩, fun p hp a => ⟨?_, ?_⟩, ?_⟩
  · unfold s0; rw [if_neg (by omega), if_pos (by omega)]
  · unfold s0; rw [if_neg (by omega), if_pos (by omega)]
  · unfold s0
    rw [if_neg (by omega), if_neg (by omega)]
    by_cases e : p < Z.1
    · rw [if_pos (by omega), show 10 + p - 10 = p by omega]
      exact hE.2.2.2.2.2.1 p e
    · rw [if_neg (by omega)]
      exact ⟨0, by omega, rfl⟩
  · unfold s0; rw [if_neg (by omega), if_neg (by omega), if_neg (by omega), e0]
  · unfold s0; rw [if_neg (by omega), if_neg (by omega), if_neg (by omega)]
  · unfold s0; rw [if_neg (by omega), if_neg (by omega), if_neg (by omega)]
  · obtain ⟨g, h1, h2⟩ := hE.2.2.2.2.2.2.1
    exact ⟨g, by omega, by unfold s0; rw [if_pos rfl]; exact h2⟩
theorem c_start26 (hE : pE Z) (ho : o1 + 12 ≤ o) : ∀ (d k n : Nat) (u : ab_S), pc_O Z o1 u → (∀ j, j < 8 → u.1 (o + 1) j = -1) → (∀ j, j < k → u.1 (o + 2) j = s0 Z (10 + j) ∧ u.1 (o + 3) j = 0) → k + d = 6 → d < n → ∃ u', fX5_startOf_26 o o1 n (nI k) u = some ((), u') ∧ Fc o u u' ∧ pc_S o (s0 Z) u' := by
  have hg := hE.2.1
  have hp6 := hE.1
  intro d
  induction d with
  | zero =>
    intro k n u hO hh hd hk hn
    obtain ⟨n, rfl⟩ : ∃ i, n = i + 1 := ⟨n - 1, by omega⟩
    have e : k = 6 := by omega
    subst e
    refine ⟨sI (sJ u o 3 ((Z.2.2.1 6 2).toInt64)) o 4 0, ?_, Fr.trans (Fr.sJ ⟨by omega, by omega⟩) (Fr.sI ⟨by omega, by omega⟩), ?_, ?_, ?_, ?_, ?_⟩
    · rw [fX5_startOf_26]
      simp (disch := first | omega | decide) only [i10, i00, decide_true, decide_false, cnd_t, cnd_f, gd_nil, gd_t, b1_0, b1_1, sw_nil, sw_cons, obs, Nat.not_lt_zero, nI_addo, nI_oadd, nI_add, nI_mulo, nI_omul, nI_mul, nI_lto, nI_leo, nI_olt, nI_ole, nI_eqo, nI_oeq, nI_lt2, nI_le2, nI_eq2, nI_nm1, nI_m1n, nI_lt0, nI_lem1, nc_nI, nc_o, ix_nI, ix_o, Nat.lt_irrefl, hO.2.2.1]
    · rw [sI_at, if_pos ⟨rfl, rfl⟩]; rfl
    · rw [sI_l, sJ_at, if_pos ⟨rfl, rfl⟩]; rfl
    · intro k hk
      rw [sI_at, if_neg (by omega), sJ_i, hh k hk]
      unfold s0; rw [if_neg (by omega), if_pos (by omega)]
    · intro k hk
      rw [sI_at, if_neg (by omega), sJ_i, (hd k hk).1]
    · intro k hk
      rw [sI_at, if_neg (by omega), sJ_i, (hd k hk).2]
      unfold s0; rw [if_neg (by omega), if_neg (by omega), if_neg (by omega)]
  | succ d ih =>
    intro k n u hO hh hd hk hn
    obtain ⟨n, rfl⟩ : ∃ i, n = i + 1 := ⟨n - 1, by omega⟩
    have hk8 : k < 6 := by omega
    have hO1 : pc_O Z o1 (sI u (o + 3) k 0) := hO.fc ho (Fr.sI ⟨by omega, by omega⟩)
    have hO2 : pc_O Z o1 (sI (sI u (o + 3) k 0) (o + 2) k (s0 Z (10 + k))) := hO1.fc ho (Fr.sI ⟨by omega, by omega⟩)
    obtain ⟨u', q, f, sS⟩ := ih (k + 1) n (sI (sI u (o + 3) k 0) (o + 2) k (s0 Z (10 + k))) hO2 (fun j hj => by rw [sI_at, if_neg (by omega), sI_at, if_neg (by omega)]; exact hh j hj) (fun j hj => by
      by_cases e : j = k
      · subst e
        refine ⟨?_, ?_⟩
        · rw [sI_at, if_pos ⟨rfl, rfl⟩]
        · rw [sI_at, if_neg (by omega), sI_at, if_pos ⟨rfl, rfl⟩]
      · refine ⟨?_, ?_⟩
        · rw [sI_at, if_neg (by omega), sI_at, if_neg (by omega)]; exact (hd j (by omega)).1
        · rw [sI_at, if_neg (by omega), sI_at, if_neg (by omega)]; exact (hd j (by omega)).2) (by omega) (by omega)
    refine ⟨u', ?_, Fr.trans (Fr.trans (Fr.sI ⟨by omega, by omega⟩) (Fr.sI ⟨by omega, by omega⟩)) f, sS⟩
    rw [fX5_startOf_26, c_put hk8 (by decide)]
    simp (disch := first | omega | decide) only [i10, i00, decide_true, decide_false, cnd_t, cnd_f, gd_nil, gd_t, b1_0, b1_1, sw_nil, sw_cons, obs, Nat.not_lt_zero, nI_addo, nI_oadd, nI_add, nI_mulo, nI_omul, nI_mul, nI_lto, nI_leo, nI_olt, nI_ole, nI_eqo, nI_oeq, nI_lt2, nI_le2, nI_eq2, nI_nm1, nI_m1n, nI_lt0, nI_lem1, nc_nI, nc_o, ix_nI, ix_o, hk8, hO1.1]
    have es : s0 Z (10 + k) = if k < Z.1 then Z.2.2.1 6 (5 + 2 * k) else 0 := by
      unfold s0
      rw [if_neg (by omega), if_neg (by omega)]
      by_cases e : k < Z.1
      · rw [if_pos (by omega), if_pos e, show 10 + k - 10 = k by omega]
      · rw [if_neg (by omega), if_neg e]
    rw [es] at q
    by_cases e : k < Z.1
    · simp only [e, i10, i00, decide_true, decide_false, cnd_t, cnd_f, gd_nil, gd_t, b1_0, b1_1, sw_nil, sw_cons, obs, if_true] at q ⊢
      rw [c_at hk8 (by decide), hO1.2.2.2.2.1 k e]
      simp only [obs]
      unfold fX5_startOf_66
      rw [c_put hk8 (by decide)]
      simp only [obs, nI_addo]
      exact q
    · simp only [e, i10, i00, decide_true, decide_false, cnd_t, cnd_f, gd_nil, gd_t, b1_0, b1_1, sw_nil, sw_cons, obs, if_false] at q ⊢
      unfold fX5_startOf_66
      rw [c_put hk8 (by decide)]
      simp only [obs, nI_addo]
      exact q
theorem c_start2 (hE : pE Z) (ho : o1 + 12 ≤ o) : ∀ (d k n : Nat) (u : ab_S), pc_O Z o1 u → (∀ j, j < k → u.1 (o + 1) j = -1) → k + d = 8 → d < n → ∃ u', fX5_startOf_2 o o1 n (nI k) u = some ((), u') ∧ Fc o u u' ∧ pc_S o (s0 Z) u' := by
  intro d
  induction d with
  | zero =>
    intro k n u hO hd hk hn
    obtain ⟨n, rfl⟩ : ∃ i, n = i + 1 := ⟨n - 1, by omega⟩
    have e : k = 8 := by omega
    subst e
    obtain ⟨u', q, f, sS⟩ := c_start26 hE ho 6 0 fu u hO hd (fun j hj => absurd hj (Nat.not_lt_zero j)) rfl (by decide)
    refine ⟨u', ?_, f, sS⟩
    rw [fX5_startOf_2]
    simp (disch := first | omega | decide) only [i10, i00, decide_true, decide_false, cnd_t, cnd_f, gd_nil, gd_t, b1_0, b1_1, sw_nil, sw_cons, obs, Nat.not_lt_zero, nI_addo, nI_oadd, nI_add, nI_mulo, nI_omul, nI_mul, nI_lto, nI_leo, nI_olt, nI_ole, nI_eqo, nI_oeq, nI_lt2, nI_le2, nI_eq2, nI_nm1, nI_m1n, nI_lt0, nI_lem1, nc_nI, nc_o, ix_nI, ix_o, Nat.lt_irrefl]
    exact q
  | succ d ih =>
    intro k n u hO hd hk hn
    obtain ⟨n, rfl⟩ : ∃ i, n = i + 1 := ⟨n - 1, by omega⟩
    have hk8 : k < 8 := by omega
    obtain ⟨u', q, f, sS⟩ := ih (k + 1) n (sI u (o + 1) k (-1)) (hO.fc ho (Fr.sI ⟨by omega, by omega⟩)) (fun j hj => by
      by_cases e : j = k
      · subst e
        rw [sI_at, if_pos ⟨rfl, rfl⟩]
      · rw [sI_at, if_neg (by omega)]; exact hd j (by omega)) (by omega) (by omega)
    refine ⟨u', ?_, Fr.trans (Fr.sI ⟨by omega, by omega⟩) f, sS⟩
    rw [fX5_startOf_2]
    simp (disch := first | omega | decide) only [i10, i00, decide_true, decide_false, cnd_t, cnd_f, gd_nil, gd_t, b1_0, b1_1, sw_nil, sw_cons, obs, Nat.not_lt_zero, nI_addo, nI_oadd, nI_add, nI_mulo, nI_omul, nI_mul, nI_lto, nI_leo, nI_olt, nI_ole, nI_eqo, nI_oeq, nI_lt2, nI_le2, nI_eq2, nI_nm1, nI_m1n, nI_lt0, nI_lem1, nc_nI, nc_o, ix_nI, ix_o, hk8]
    exact q
theorem c_start (hE : pE Z) (ho : o1 + 12 ≤ o) (hO : pc_O Z o1 u) : ∃ u', fX5_startOf o o1 u = some ((), u') ∧ Fc o u u' ∧ pc_S o (s0 Z) u' := c_start2 hE ho 8 0 fu u hO (fun j hj => absurd hj (Nat.not_lt_zero j)) rfl (by decide)
theorem m_start64 (hE : pE Z) (hb : b ≤ 1050) : ∀ (d k n : Nat) (s : Nat → Int32) (v : ab_S), pm_O Z v → pm_S b s v → (∀ j, j < 22 → ¬ (10 + k ≤ j ∧ j < 10 + Z.1) → s j = s0 Z j) → k + d = Z.1 → d < n → ∃ v', fX10_starts_64 n (nI b) (nI k) v = some ((), v') ∧ Fm b v v' ∧ pm_S b (s0 Z) v' := by
  have hp6 := hE.1
  intro d
  induction d with
  | zero =>
    intro k n s v hm hs hd hk hn
    obtain ⟨n, rfl⟩ : ∃ i, n = i + 1 := ⟨n - 1, by omega⟩
    have e : k = Z.1 := by omega
    subst e
    refine ⟨v, ?_, Fr.rfl', hs.congr fun j hj => hd j hj (by omega)⟩
    rw [fX10_starts_64, m_persons hE hm]
    simp (disch := first | omega | decide) only [i10, i00, decide_true, decide_false, cnd_t, cnd_f, gd_nil, gd_t, b1_0, b1_1, sw_nil, sw_cons, obs, Nat.not_lt_zero, nI_addo, nI_oadd, nI_add, nI_mulo, nI_omul, nI_mul, nI_lto, nI_leo, nI_olt, nI_ole, nI_eqo, nI_oeq, nI_lt2, nI_le2, nI_eq2, nI_nm1, nI_m1n, nI_lt0, nI_lem1, nc_nI, nc_o, ix_nI, ix_o, Nat.lt_irrefl]
  | succ d ih =>
    intro k n s v hm hs hd hk hn
    obtain ⟨n, rfl⟩ : ∃ i, n = i + 1 := ⟨n - 1, by omega⟩
    have hk8 : k < Z.1 := by omega
    have f0 : Fm b v (sI v 16 (b + 10 + k) (Z.2.2.1 6 (5 + 2 * k))) := Fm.put (k := 10 + k) (by omega) (by omega)
    obtain ⟨v', q, f, sS⟩ := ih (k + 1) n (su s (10 + k) (Z.2.2.1 6 (5 + 2 * k))) _ (hm.fm f0) (hs.put (i := b + 10 + k) (by omega)) (fun j hj hz => by
      by_cases e : j = 10 + k
      · subst e
        rw [su_eq]
        unfold s0
        rw [if_neg (by omega), if_neg (by omega), if_pos (by omega), show 10 + k - 10 = k by omega]
      · rw [su_ne e]; exact hd j hj (by omega)) (by omega) (by omega)
    refine ⟨v', ?_, f0.trans f, sS⟩
    rw [fX10_starts_64, m_persons hE hm]
    simp (disch := first | omega | decide) only [i10, i00, decide_true, decide_false, cnd_t, cnd_f, gd_nil, gd_t, b1_0, b1_1, sw_nil, sw_cons, obs, Nat.not_lt_zero, nI_addo, nI_oadd, nI_add, nI_mulo, nI_omul, nI_mul, nI_lto, nI_leo, nI_olt, nI_ole, nI_eqo, nI_oeq, nI_lt2, nI_le2, nI_eq2, nI_nm1, nI_m1n, nI_lt0, nI_lem1, nc_nI, nc_o, ix_nI, ix_o, hk8]
    rw [m_coin0 hE hm hk8]
    simp (disch := first | omega | decide) only [i10, i00, decide_true, decide_false, cnd_t, cnd_f, gd_nil, gd_t, b1_0, b1_1, sw_nil, sw_cons, obs, Nat.not_lt_zero, nI_addo, nI_oadd, nI_add, nI_mulo, nI_omul, nI_mul, nI_lto, nI_leo, nI_olt, nI_ole, nI_eqo, nI_oeq, nI_lt2, nI_le2, nI_eq2, nI_nm1, nI_m1n, nI_lt0, nI_lem1, nc_nI, nc_o, ix_nI, ix_o]
    exact q
theorem m_start39 (hE : pE Z) (hb : b ≤ 1050) : ∀ (d k n : Nat) (s : Nat → Int32) (v : ab_S), pm_O Z v → pm_S b s v → (∀ j, j < 22 → ¬ (10 ≤ j ∧ j < 10 + Z.1) → ¬ (2 + k ≤ j ∧ j < 10) → s j = s0 Z j) → k + d = 8 → d < n → ∃ v', fX10_starts_39 n (nI b) (nI k) v = some ((), v') ∧ Fm b v v' ∧ pm_S b (s0 Z) v' := by
  have hp6 := hE.1
  intro d
  induction d with
  | zero =>
    intro k n s v hm hs hd hk hn
    obtain ⟨n, rfl⟩ : ∃ i, n = i + 1 := ⟨n - 1, by omega⟩
    have e : k = 8 := by omega
    subst e
    obtain ⟨v', q, f, sS⟩ := m_start64 hE hb Z.1 0 fu s v hm hs (fun j hj z => hd j hj (by omega) (by omega)) (Nat.zero_add _) (by simp only [fu]; omega)
    refine ⟨v', ?_, f, sS⟩
    rw [fX10_starts_39]
    simp (disch := first | omega | decide) only [i10, i00, decide_true, decide_false, cnd_t, cnd_f, gd_nil, gd_t, b1_0, b1_1, sw_nil, sw_cons, obs, Nat.not_lt_zero, nI_addo, nI_oadd, nI_add, nI_mulo, nI_omul, nI_mul, nI_lto, nI_leo, nI_olt, nI_ole, nI_eqo, nI_oeq, nI_lt2, nI_le2, nI_eq2, nI_nm1, nI_m1n, nI_lt0, nI_lem1, nc_nI, nc_o, ix_nI, ix_o, Nat.lt_irrefl]
    exact q
  | succ d ih =>
    intro k n s v hm hs hd hk hn
    obtain ⟨n, rfl⟩ : ∃ i, n = i + 1 := ⟨n - 1, by omega⟩
    have hk8 : k < 8 := by omega
    have f0 : Fm b v (sI v 16 (b + 2 + k) (-1)) := Fm.put (k := 2 + k) (by omega) (by omega)
    obtain ⟨v', q, f, sS⟩ := ih (k + 1) n (su s (2 + k) (-1)) _ (hm.fm f0) (hs.put (i := b + 2 + k) (by omega)) (fun j hj hz hy => by
      by_cases e : j = 2 + k
      · subst e
        rw [su_eq]
        unfold s0
        rw [if_neg (by omega), if_pos (by omega)]
      · rw [su_ne e]; exact hd j hj hz (by omega)) (by omega) (by omega)
    refine ⟨v', ?_, f0.trans f, sS⟩
    rw [fX10_starts_39]
    simp (disch := first | omega | decide) only [i10, i00, decide_true, decide_false, cnd_t, cnd_f, gd_nil, gd_t, b1_0, b1_1, sw_nil, sw_cons, obs, Nat.not_lt_zero, nI_addo, nI_oadd, nI_add, nI_mulo, nI_omul, nI_mul, nI_lto, nI_leo, nI_olt, nI_ole, nI_eqo, nI_oeq, nI_lt2, nI_le2, nI_eq2, nI_nm1, nI_m1n, nI_lt0, nI_lem1, nc_nI, nc_o, ix_nI, ix_o, hk8]
    exact q
theorem m_start2 (hE : pE Z) (hb : b ≤ 1050) : ∀ (d k n : Nat) (s : Nat → Int32) (v : ab_S), pm_O Z v → pm_S b s v → (∀ j, j < k → s j = 0) → k + d = 22 → d < n → ∃ v', fX10_starts_2 n (nI b) (nI k) v = some ((), v') ∧ Fm b v v' ∧ pm_S b (s0 Z) v' := by
  have hp6 := hE.1
  intro d
  induction d with
  | zero =>
    intro k n s v hm hs hd hk hn
    obtain ⟨n, rfl⟩ : ∃ i, n = i + 1 := ⟨n - 1, by omega⟩
    have e : k = 22 := by omega
    subst e
    have f0 : Fm b v (sI v 16 (b + 1) (Z.2.2.1 6 2)) := Fm.put (k := 1) (by omega) (by omega)
    obtain ⟨v', q, f, sS⟩ := m_start39 hE hb 8 0 fu (su s 1 (Z.2.2.1 6 2)) _ (hm.fm f0) (hs.put rfl) (fun j hj z y => by
      by_cases e : j = 1
      · subst e
        rw [su_eq]; rfl
      · rw [su_ne e, hd j hj]
        unfold s0
        rw [if_neg e, if_neg (by omega), if_neg (by omega)]) rfl (by decide)
    refine ⟨v', ?_, f0.trans f, sS⟩
    rw [fX10_starts_2]
    simp (disch := first | omega | decide) only [i10, i00, decide_true, decide_false, cnd_t, cnd_f, gd_nil, gd_t, b1_0, b1_1, sw_nil, sw_cons, obs, Nat.not_lt_zero, nI_addo, nI_oadd, nI_add, nI_mulo, nI_omul, nI_mul, nI_lto, nI_leo, nI_olt, nI_ole, nI_eqo, nI_oeq, nI_lt2, nI_le2, nI_eq2, nI_nm1, nI_m1n, nI_lt0, nI_lem1, nc_nI, nc_o, ix_nI, ix_o, Nat.lt_irrefl, hm.1 2 (by decide)]
    exact q
  | succ d ih =>
    intro k n s v hm hs hd hk hn
    obtain ⟨n, rfl⟩ : ∃ i, n = i + 1 := ⟨n - 1, by omega⟩
    have hk8 : k < 22 := by omega
    have f0 : Fm b v (sI v 16 (b + k) 0) := Fm.put (k := k) (by omega) (by omega)
    obtain ⟨v', q, f, sS⟩ := ih (k + 1) n (su s k 0) _ (hm.fm f0) (hs.put rfl) (fun j hj => by
      by_cases e : j = k
      · subst e
        rw [su_eq]
      · rw [su_ne e]; exact hd j (by omega)) (by omega) (by omega)
    refine ⟨v', ?_, f0.trans f, sS⟩
    rw [fX10_starts_2]
    simp (disch := first | omega | decide) only [i10, i00, decide_true, decide_false, cnd_t, cnd_f, gd_nil, gd_t, b1_0, b1_1, sw_nil, sw_cons, obs, Nat.not_lt_zero, nI_addo, nI_oadd, nI_add, nI_mulo, nI_omul, nI_mul, nI_lto, nI_leo, nI_olt, nI_ole, nI_eqo, nI_oeq, nI_lt2, nI_le2, nI_eq2, nI_nm1, nI_m1n, nI_lt0, nI_lem1, nc_nI, nc_o, ix_nI, ix_o, hk8]
    exact q
theorem m_start (hE : pE Z) (hb : b ≤ 1050) (hm : pm_O Z v) : ∃ v', fX10_starts (nI b) v = some ((), v') ∧ Fm b v v' ∧ pm_S b (s0 Z) v' := m_start2 hE hb 22 0 fu (fun k => v.1 16 (b + k)) v hm (fun k hk => rfl) (fun j hj => absurd hj (Nat.not_lt_zero j)) rfl (by decide)
-- ===== rights =====
def rS (Z : dZ) (s : Nat → Int32) : Nat := bS (fun k => decide (s (2 + k) = Z.2.2.1 6 (17 + 2 * k))) Z.2.1
theorem rS_bit (k : Nat) : (rS Z s).testBit k = (decide (k < Z.2.1) && decide (s (2 + k) = Z.2.2.1 6 (17 + 2 * k))) := bS_bit _ _ _
theorem rS_lt (hE : pE Z) : rS Z s < 256 := bS_256 hE.2.1
theorem rS_lt2 : rS Z s < 2 ^ Z.2.1 := bS_lt _ _
theorem c_rights (hE : pE Z) (hO : pc_O Z o1 u) (h : pc_S o s u) : fX5_rightBits o o1 u = some (nI (rS Z s), u) := by
  have hg := hE.2.1
  have key : ∀ (d k n : Nat), k + d = Z.2.1 → d < n → fX5_rightBits_4 o o1 n (nI (bS (fun k => decide (s (2 + k) = Z.2.2.1 6 (17 + 2 * k))) k)) (nI k) u = some (nI (rS Z s), u) := by
    intro d
    induction d with
    | zero =>
      intro k n hk hn
      obtain ⟨n, rfl⟩ : ∃ i, n = i + 1 := ⟨n - 1, by omega⟩
      have e : k = Z.2.1 := by omega
      subst e
      rw [fX5_rightBits_4, hO.2.1]
      simp (disch := first | omega | decide) only [i10, i00, decide_true, decide_false, cnd_t, cnd_f, gd_nil, gd_t, b1_0, b1_1, sw_nil, sw_cons, obs, Nat.not_lt_zero, nI_addo, nI_oadd, nI_add, nI_mulo, nI_omul, nI_mul, nI_lto, nI_leo, nI_olt, nI_ole, nI_eqo, nI_oeq, nI_lt2, nI_le2, nI_eq2, nI_nm1, nI_m1n, nI_lt0, nI_lem1, nc_nI, nc_o, ix_nI, ix_o, Nat.lt_irrefl]
      rfl
    | succ d ih =>
      intro k n hk hn
      obtain ⟨n, rfl⟩ : ∃ i, n = i + 1 := ⟨n - 1, by omega⟩
      have hk8 : k < Z.2.1 := by omega
      have ih := ih (k + 1) n (by omega) (by omega)
      rw [fX5_rightBits_4, hO.2.1, c_hold h (by omega)]
      simp (disch := first | omega | decide) only [i10, i00, decide_true, decide_false, cnd_t, cnd_f, gd_nil, gd_t, b1_0, b1_1, sw_nil, sw_cons, obs, nI_lt2, hk8]
      rw [c_own hE hO hk8]
      simp (disch := first | omega | decide) only [i10, i00, decide_true, decide_false, cnd_t, cnd_f, gd_nil, gd_t, b1_0, b1_1, sw_nil, sw_cons, obs, nI_addo, zb_or (bS_256 (show k ≤ 8 by omega)) (show k < 8 by omega)]
      rw [bS] at ih
      by_cases e : s (2 + k) = Z.2.2.1 6 (17 + 2 * k)
      · simp only [e, i10, i00, decide_true, decide_false, cnd_t, cnd_f, gd_nil, gd_t, b1_0, b1_1, sw_nil, sw_cons, obs, if_true] at ih ⊢
        exact ih
      · simp only [e, i10, i00, decide_true, decide_false, cnd_t, cnd_f, gd_nil, gd_t, b1_0, b1_1, sw_nil, sw_cons, obs, Bool.false_eq_true, if_false] at ih ⊢
        exact ih
  exact key Z.2.1 0 fu (Nat.zero_add _) (by simp only [fu]; omega)
theorem m_rights (hE : pE Z) (hm : pm_O Z v) (h : pm_S b s v) (hb : b ≤ 1050) : fX10_rightsOf (nI b) v = some (nI (rS Z s), v) := by
  have hg := hE.2.1
  have key : ∀ (d k n : Nat), k + d = Z.2.1 → d < n → fX10_rightsOf_4 n (nI b) (nI (bS (fun k => decide (s (2 + k) = Z.2.2.1 6 (17 + 2 * k))) k)) (nI k) v = some (nI (rS Z s), v) := by
    intro d
    induction d with
    | zero =>
      intro k n hk hn
      obtain ⟨n, rfl⟩ : ∃ i, n = i + 1 := ⟨n - 1, by omega⟩
      have e : k = Z.2.1 := by omega
      subst e
      rw [fX10_rightsOf_4, m_goods hE hm]
      simp (disch := first | omega | decide) only [i10, i00, decide_true, decide_false, cnd_t, cnd_f, gd_nil, gd_t, b1_0, b1_1, sw_nil, sw_cons, obs, Nat.not_lt_zero, nI_addo, nI_oadd, nI_add, nI_mulo, nI_omul, nI_mul, nI_lto, nI_leo, nI_olt, nI_ole, nI_eqo, nI_oeq, nI_lt2, nI_le2, nI_eq2, nI_nm1, nI_m1n, nI_lt0, nI_lem1, nc_nI, nc_o, ix_nI, ix_o, Nat.lt_irrefl]
      rfl
    | succ d ih =>
      intro k n hk hn
      obtain ⟨n, rfl⟩ : ∃ i, n = i + 1 := ⟨n - 1, by omega⟩
      have hk8 : k < Z.2.1 := by omega
      have ih := ih (k + 1) n (by omega) (by omega)
      rw [fX10_rightsOf_4, m_goods hE hm]
      simp (disch := first | omega | decide) only [i10, i00, decide_true, decide_false, cnd_t, cnd_f, gd_nil, gd_t, b1_0, b1_1, sw_nil, sw_cons, obs, Nat.not_lt_zero, nI_addo, nI_oadd, nI_add, nI_mulo, nI_omul, nI_mul, nI_lto, nI_leo, nI_olt, nI_ole, nI_eqo, nI_oeq, nI_lt2, nI_le2, nI_eq2, nI_nm1, nI_m1n, nI_lt0, nI_lem1, nc_nI, nc_o, ix_nI, ix_o, hk8]
      rw [m_own hE hm hk8]
      simp (disch := first | omega | decide) only [i10, i00, decide_true, decide_false, cnd_t, cnd_f, gd_nil, gd_t, b1_0, b1_1, sw_nil, sw_cons, obs, Int32.or_zero, zb_or (bS_256 (show k ≤ 8 by omega)) (show k < 8 by omega), h.at (k := 2 + k) (by omega) (show b + 2 + k = b + (2 + k) by omega)]
      rw [bS] at ih
      by_cases e : s (2 + k) = Z.2.2.1 6 (17 + 2 * k)
      · simp only [e, i10, i00, decide_true, decide_false, cnd_t, cnd_f, gd_nil, gd_t, b1_0, b1_1, sw_nil, sw_cons, obs, if_true] at ih ⊢
        exact ih
      · simp only [e, i10, i00, decide_true, decide_false, cnd_t, cnd_f, gd_nil, gd_t, b1_0, b1_1, sw_nil, sw_cons, obs, Bool.false_eq_true, if_false] at ih ⊢
        exact ih
  exact key Z.2.1 0 fu (Nat.zero_add _) (by simp only [fu]; omega)
end PU
