/-! tokens: the text cut on both sides -/
def sgL : List Nat := [40, 41, 60, 61, 43, 45, 42, 59]
def ctx (c : Nat) : Prop := c = 10 ∨ (32 ≤ c ∧ c ≤ 126)
theorem ctx_lt {c : Nat} (h : ctx c) : c ≤ 126 := by unfold ctx at h; omega
theorem i8_128 : ∀ c, c < 128 → (Int32.toInt8 (nI c)).toInt32 = nI c := by decide +kernel
theorem c_lt1 {c : Nat} (h : 97 ≤ c ∧ c ≤ 122) (u : ab_S) : fX6_isLetter (nI c) u = some (1, u) := by
  unfold fX6_isLetter
  simp (disch := first | omega | decide) only [i10, i00, decide_true, decide_false, cnd_t, cnd_f, gd_nil, gd_t, b1_0, b1_1, sw_nil, sw_cons, obs, Nat.not_lt_zero, nI_addo, nI_oadd, nI_add, nI_mulo, nI_omul, nI_mul, nI_lto, nI_leo, nI_olt, nI_ole, nI_eqo, nI_oeq, nI_lt2, nI_le2, nI_eq2, nI_nm1, nI_m1n, nI_lt0, nI_lem1, nc_nI, nc_o, ix_nI, ix_o, show ¬ c < 97 by omega, show c ≤ 122 by omega]
theorem c_lt0 {c : Nat} (h : ¬ (97 ≤ c ∧ c ≤ 122)) (hc : c ≤ 126) (u : ab_S) : fX6_isLetter (nI c) u = some (0, u) := by
  unfold fX6_isLetter
  by_cases e : c < 97
  · simp (disch := first | omega | decide) only [i10, i00, decide_true, decide_false, cnd_t, cnd_f, gd_nil, gd_t, b1_0, b1_1, sw_nil, sw_cons, obs, Nat.not_lt_zero, nI_addo, nI_oadd, nI_add, nI_mulo, nI_omul, nI_mul, nI_lto, nI_leo, nI_olt, nI_ole, nI_eqo, nI_oeq, nI_lt2, nI_le2, nI_eq2, nI_nm1, nI_m1n, nI_lt0, nI_lem1, nc_nI, nc_o, ix_nI, ix_o, e]
  · simp (disch := first | omega | decide) only [i10, i00, decide_true, decide_false, cnd_t, cnd_f, gd_nil, gd_t, b1_0, b1_1, sw_nil, sw_cons, obs, Nat.not_lt_zero, nI_addo, nI_oadd, nI_add, nI_mulo, nI_omul, nI_mul, nI_lto, nI_leo, nI_olt, nI_ole, nI_eqo, nI_oeq, nI_lt2, nI_le2, nI_eq2, nI_nm1, nI_m1n, nI_lt0, nI_lem1, nc_nI, nc_o, ix_nI, ix_o, e, show ¬ c ≤ 122 by omega]
theorem c_dg1 {c : Nat} (h : 48 ≤ c ∧ c ≤ 57) (u : ab_S) : fX6_isDigit (nI c) u = some (1, u) := by
  unfold fX6_isDigit
  simp (disch := first | omega | decide) only [i10, i00, decide_true, decide_false, cnd_t, cnd_f, gd_nil, gd_t, b1_0, b1_1, sw_nil, sw_cons, obs, Nat.not_lt_zero, nI_addo, nI_oadd, nI_add, nI_mulo, nI_omul, nI_mul, nI_lto, nI_leo, nI_olt, nI_ole, nI_eqo, nI_oeq, nI_lt2, nI_le2, nI_eq2, nI_nm1, nI_m1n, nI_lt0, nI_lem1, nc_nI, nc_o, ix_nI, ix_o, show ¬ c < 48 by omega, show c ≤ 57 by omega]
theorem c_dg0 {c : Nat} (h : ¬ (48 ≤ c ∧ c ≤ 57)) (hc : c ≤ 126) (u : ab_S) : fX6_isDigit (nI c) u = some (0, u) := by
  unfold fX6_isDigit
  by_cases e : c < 48
  · simp (disch := first | omega | decide) only [i10, i00, decide_true, decide_false, cnd_t, cnd_f, gd_nil, gd_t, b1_0, b1_1, sw_nil, sw_cons, obs, Nat.not_lt_zero, nI_addo, nI_oadd, nI_add, nI_mulo, nI_omul, nI_mul, nI_lto, nI_leo, nI_olt, nI_ole, nI_eqo, nI_oeq, nI_lt2, nI_le2, nI_eq2, nI_nm1, nI_m1n, nI_lt0, nI_lem1, nc_nI, nc_o, ix_nI, ix_o, e]
  · simp (disch := first | omega | decide) only [i10, i00, decide_true, decide_false, cnd_t, cnd_f, gd_nil, gd_t, b1_0, b1_1, sw_nil, sw_cons, obs, Nat.not_lt_zero, nI_addo, nI_oadd, nI_add, nI_mulo, nI_omul, nI_mul, nI_lto, nI_leo, nI_olt, nI_ole, nI_eqo, nI_oeq, nI_lt2, nI_le2, nI_eq2, nI_nm1, nI_m1n, nI_lt0, nI_lem1, nc_nI, nc_o, ix_nI, ix_o, e, show ¬ c ≤ 57 by omega]
theorem m_lt1 {c : Nat} (h : 97 ≤ c ∧ c ≤ 122) (u : ab_S) : fX10_isLetter (nI c) u = some (1, u) := c_lt1 h u
theorem m_lt0 {c : Nat} (h : ¬ (97 ≤ c ∧ c ≤ 122)) (hc : c ≤ 126) (u : ab_S) : fX10_isLetter (nI c) u = some (0, u) := c_lt0 h hc u
theorem m_dg1 {c : Nat} (h : 48 ≤ c ∧ c ≤ 57) (u : ab_S) : fX10_isDigit (nI c) u = some (1, u) := c_dg1 h u
theorem m_dg0 {c : Nat} (h : ¬ (48 ≤ c ∧ c ≤ 57)) (hc : c ≤ 126) (u : ab_S) : fX10_isDigit (nI c) u = some (0, u) := c_dg0 h hc u
theorem by_at : ∀ k, k < 8 → ab_by.getD k 0 = nI (sgL.getD k 0) ∧ sgL.getD k 0 < 128 := by decide +kernel
theorem ix_loop (c : Nat) (hc : c ≤ 126) (u : ab_S) : ∀ (d k n : Nat), k + d = 8 → d < n → ∃ r, fJ1_indexOfChar_4cfef_7 n 8 (nI c) (nI k) u = some (r, u) ∧ ((∃ j, k ≤ j ∧ j < 8 ∧ sgL.getD j 0 = c) → ¬ r < 0) ∧ ((∀ j, k ≤ j → j < 8 → sgL.getD j 0 ≠ c) → r < 0) := by
  intro d
  induction d with
  | zero =>
    intro k n hk hn
    obtain ⟨n, rfl⟩ : ∃ m, n = m + 1 := ⟨n - 1, by omega⟩
    rw [fJ1_indexOfChar_4cfef_7]
    simp (disch := first | omega | decide) only [i10, i00, decide_true, decide_false, cnd_t, cnd_f, gd_nil, gd_t, b1_0, b1_1, sw_nil, sw_cons, obs, Nat.not_lt_zero, nI_addo, nI_oadd, nI_add, nI_mulo, nI_omul, nI_mul, nI_lto, nI_leo, nI_olt, nI_ole, nI_eqo, nI_oeq, nI_lt2, nI_le2, nI_eq2, nI_nm1, nI_m1n, nI_lt0, nI_lem1, nc_nI, nc_o, ix_nI, ix_o, show ¬ k < 8 by omega]
    exact ⟨-1, rfl, fun ⟨j, h1, h2, _⟩ => by omega, fun _ => by decide⟩
  | succ d ih =>
    intro k n hk hn
    obtain ⟨n, rfl⟩ : ∃ m, n = m + 1 := ⟨n - 1, by omega⟩
    obtain ⟨a1, a2⟩ := by_at k (by omega)
    rw [fJ1_indexOfChar_4cfef_7]
    simp (disch := first | omega | decide) only [i10, i00, decide_true, decide_false, cnd_t, cnd_f, gd_nil, gd_t, b1_0, b1_1, sw_nil, sw_cons, obs, Nat.not_lt_zero, nI_addo, nI_oadd, nI_add, nI_mulo, nI_omul, nI_mul, nI_lto, nI_leo, nI_olt, nI_ole, nI_eqo, nI_oeq, nI_lt2, nI_le2, nI_eq2, nI_nm1, nI_m1n, nI_lt0, nI_lem1, nc_nI, nc_o, ix_nI, ix_o, show k < 8 by omega, a1]
    by_cases e : sgL.getD k 0 = c
    · simp only [e, i10, i00, decide_true, decide_false, cnd_t, cnd_f, gd_nil, gd_t, b1_0, b1_1, sw_nil, sw_cons, obs]
      refine ⟨_, rfl, fun _ => by rw [nI_lt0 (by omega)]; exact id, fun h => absurd e (h k (Nat.le_refl k) (by omega))⟩
    · simp only [e, i10, i00, decide_true, decide_false, cnd_t, cnd_f, gd_nil, gd_t, b1_0, b1_1, sw_nil, sw_cons, obs]
      obtain ⟨r, h1, h2, h3⟩ := ih (k + 1) n (by omega) (by omega)
      refine ⟨r, h1, fun ⟨j, g1, g2, g3⟩ => h2 ⟨j, ?_, g2, g3⟩, fun h => h3 fun j g1 g2 => h j (by omega) g2⟩
      by_cases ej : j = k
      · subst ej; exact absurd g3 e
      · omega
theorem c_sg (c : Nat) (hc : c ≤ 126) (u : ab_S) : ∃ r, fJ0_indexOf_0f7a4 (nI c) u = some (r, u) ∧ (c ∈ sgL → ¬ r < 0) ∧ (c ∉ sgL → r < 0) := by
  obtain ⟨r, h1, h2, h3⟩ := ix_loop c hc u 8 0 fu rfl (by decide)
  have e8 : ((8 : Int32) >>> ((0 : Int32) &&& 31)) = 8 := by decide +kernel
  have y0 : ab_y1 0 = true := by decide +kernel
  have h1' : fJ1_indexOfChar_4cfef_7 fu 8 (nI c) 0 u = some (r, u) := h1
  have ef : fJ0_indexOf_0f7a4 (nI c) u = some (r, u) := by
    unfold fJ0_indexOf_0f7a4 fJ0_indexOf_7cf53 fJ0_isLatin1_aae02 fJ0_length_8abf5 fJ0_coder_7d493 fJ1_indexOf_4cfef fJ1_canEncode_9a6ad fJ1_indexOfChar_4cfef
    simp (disch := first | omega | decide) only [i10, i00, decide_true, decide_false, cnd_t, cnd_f, gd_nil, gd_t, b1_0, b1_1, sw_nil, sw_cons, obs, Nat.not_lt_zero, nI_addo, nI_oadd, nI_add, nI_mulo, nI_omul, nI_mul, nI_lto, nI_leo, nI_olt, nI_ole, nI_eqo, nI_oeq, nI_lt2, nI_le2, nI_eq2, nI_nm1, nI_m1n, nI_lt0, nI_lem1, nc_nI, nc_o, ix_nI, ix_o, e8, y0, show ((1 : Nat) = 0) = False from eq_false (by decide), show ((0 : Nat) = 0) = True from eq_true rfl, show c ≤ 255 by omega, i8_128 c (by omega), show ((0 : Int32) < 0) = False from eq_false (by decide), show ((8 : Int32) < 8) = False from eq_false (by decide), if_false, show ((0 : Int32) < 8) = True from eq_true (by decide), h1']
  refine ⟨r, ef, fun h => h2 ?_, fun h => h3 fun j _ hj e => h ?_⟩
  · have key : ∀ c, c < 127 → c ∈ sgL → ∃ j, j < 8 ∧ sgL.getD j 0 = c := by decide +kernel
    obtain ⟨j, h1, h2⟩ := key c (by omega) h
    exact ⟨j, Nat.zero_le j, h1, h2⟩
  · subst e
    have key : ∀ j, j < 8 → sgL.getD j 0 ∈ sgL := by decide +kernel
    exact key j hj
theorem m_sg1 {c : Nat} (h : c ∈ sgL) (u : ab_S) : fX10_isSignOf (nI c) u = some (1, u) := by
  have hc : c = 40 ∨ c = 41 ∨ c = 60 ∨ c = 61 ∨ c = 43 ∨ c = 45 ∨ c = 42 ∨ c = 59 := by
    simpa only [sgL, List.mem_cons, List.mem_nil_iff, or_false, List.not_mem_nil] using h
  unfold fX10_isSignOf
  obtain e | e | e | e | e | e | e | e := hc <;> (subst e; simp (disch := first | omega | decide) only [i10, i00, decide_true, decide_false, cnd_t, cnd_f, gd_nil, gd_t, b1_0, b1_1, sw_nil, sw_cons, obs, Nat.not_lt_zero, nI_addo, nI_oadd, nI_add, nI_mulo, nI_omul, nI_mul, nI_lto, nI_leo, nI_olt, nI_ole, nI_eqo, nI_oeq, nI_lt2, nI_le2, nI_eq2, nI_nm1, nI_m1n, nI_lt0, nI_lem1, nc_nI, nc_o, ix_nI, ix_o, show ((40 : Nat) = 41) = False from eq_false (by decide)] <;> rfl)
theorem m_sg0 {c : Nat} (h : c ∉ sgL) (hc : c ≤ 126) (u : ab_S) : fX10_isSignOf (nI c) u = some (0, u) := by
  have hc : ¬ c = 40 ∧ ¬ c = 41 ∧ ¬ c = 60 ∧ ¬ c = 61 ∧ ¬ c = 43 ∧ ¬ c = 45 ∧ ¬ c = 42 ∧ ¬ c = 59 := by
    simpa only [sgL, List.mem_cons, List.mem_nil_iff, or_false, List.not_mem_nil, not_or] using h
  obtain ⟨h1, h2, h3, h4, h5, h6, h7, h8⟩ := hc
  unfold fX10_isSignOf
  simp (disch := first | omega | decide) only [i10, i00, decide_true, decide_false, cnd_t, cnd_f, gd_nil, gd_t, b1_0, b1_1, sw_nil, sw_cons, obs, Nat.not_lt_zero, nI_addo, nI_oadd, nI_add, nI_mulo, nI_omul, nI_mul, nI_lto, nI_leo, nI_olt, nI_ole, nI_eqo, nI_oeq, nI_lt2, nI_le2, nI_eq2, nI_nm1, nI_m1n, nI_lt0, nI_lem1, nc_nI, nc_o, ix_nI, ix_o, h1, h2, h3, h4, h5, h6, h7, h8]
