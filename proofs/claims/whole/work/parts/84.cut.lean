/-! tokens: the text cut on both sides -/
def sgL : List Nat := [40, 41, 60, 61, 43, 45, 42, 59]
def ctx (c : Nat) : Prop := c = 10 ∨ (32 ≤ c ∧ c ≤ 126)
theorem ctx_lt {c : Nat} (h : ctx c) : c ≤ 126 := by unfold ctx at h; omega
theorem i8_128 : ∀ c, c < 128 → (Int32.toInt8 (nI c)).toInt32 = nI c := by decide +kernel
theorem c_lt1 {c : Nat} (h : 97 ≤ c ∧ c ≤ 122) (u : ab_S) : fX6_isLetter (nI c) u = some (1, u) := by
  unfold fX6_isLetter
  simp (disch := first | omega | decide) only [i10, i00, decide_true, decide_false, cnd_t, cnd_f, gd_nil, gd_t, b1_0, b1_1, sw_nil, sw_cons, obs, Nat.not_lt_zero, nI_addo, nI_oadd, nI_add, nI_mulo, nI_omul, nI_mul, nI_lto, nI_leo, nI_olt, nI_ole, nI_eqo, nI_oeq, nI_lt2, nI_le2, nI_eq2, nI_nm1, nI_m1n, nI_lt0, nI_lem1, nc_nI, nc_o, ix_nI, ix_o, show ¬ c < 97 by omega, show c ≤ 122 by omega]
theorem c_lt0 {c : Nat} (h : ¬ (97 ≤ c ∧ c ≤ 122)) (hc : c ≤ 126) (u : ab_S) : fX6_isLetter (nI c) u = some (0, u) := by
  unfold fX6_isLetter
  by_cases e : c < 97
  · simp (disch := first | omega | decide) only [i10, i00, decide_true, decide_false, cnd_t, cnd_f, gd_nil, gd_t, b1_0, b1_1, sw_nil, sw_cons, obs, Nat.not_lt_zero, nI_addo, nI_oadd, nI_add, nI_mulo, nI_omul, nI_mul, nI_lto, nI_leo, nI_olt, nI_ole, nI_eqo, nI_oeq, nI_lt2, nI_le2, nI_eq2, nI_nm1, nI_m1n, nI_lt0, nI_lem1, nc_nI, nc_o, ix_nI, ix_o, e]
  · simp (disch := first | omega | decide) only [i10, i00, decide_true, decide_false, cnd_t, cnd_f, gd_nil, gd_t, b1_0, b1_1, sw_nil, sw_cons, obs, Nat.not_lt_zero, nI_addo, nI_oadd, nI_add, nI_mulo, nI_omul, nI_mul, nI_lto, nI_leo, nI_olt, nI_ole, nI_eqo, nI_oeq, nI_lt2, nI_le2, nI_eq2, nI_nm1, nI_m1n, nI_lt0, nI_lem1, nc_nI, nc_o, ix_nI, ix_o, e, show ¬ c ≤ 122 by omega]
theorem c_dg1 {c : Nat} (h : 48 ≤ c ∧ c ≤ 57) (u : ab_S) : fX6_isDigit (nI c) u = some (1, u) := by
  unfold fX6_isDigit
  simp (disch := first | omega | decide) only [i10, i00, decide_true, decide_false, cnd_t, cnd_f, gd_nil, gd_t, b1_0, b1_1, sw_nil, sw_cons, obs, Nat.not_lt_zero, nI_addo, nI_oadd, nI_add, nI_mulo, nI_omul, nI_mul, nI_lto, nI_leo, nI_olt, nI_ole, nI_eqo, nI_oeq, nI_lt2, nI_le2, nI_eq2, nI_nm1, nI_m1n, nI_lt0, nI_lem1, nc_nI, nc_o, ix_nI, ix_o, show ¬ c < 48 by omega, show c ≤ 57 by omega]
theorem c_dg0 {c : Nat} (h : ¬ (48 ≤ c ∧ c ≤ 57)) (hc : c ≤ 126) (u : ab_S) : fX6_isDigit (nI c) u = some (0, u) := by
  unfold fX6_isDigit
  by_cases e : c < 48
  · simp (disch := first | omega | decide) only [i10, i00, decide_true, decide_false, cnd_t, cnd_f, gd_nil, gd_t, b1_0, b1_1, sw_nil, sw_cons, obs, Nat.not_lt_zero, nI_addo, nI_oadd, nI_add, nI_mulo, nI_omul, nI_mul, nI_lto, nI_leo, nI_olt, nI_ole, nI_eqo, nI_oeq, nI_lt2, nI_le2, nI_eq2, nI_nm1, nI_m1n, nI_lt0, nI_lem1, nc_nI, nc_o, ix_nI, ix_o, e]
  · simp (disch := first | omega | decide) only [i10, i00, decide_true, decide_false, cnd_t, cnd_f, gd_nil, gd_t, b1_0, b1_1, sw_nil, sw_cons, obs, Nat.not_lt_zero, nI_addo, nI_oadd, nI_add, nI_mulo, nI_omul, nI_mul, nI_lto, nI_leo, nI_olt, nI_ole, nI_eqo, nI_oeq, nI_lt2, nI_le2, nI_eq2, nI_nm1, nI_m1n, nI_lt0, nI_lem1, nc_nI, nc_o, ix_nI, ix_o, e, show ¬ c ≤ 57 by omega]
theorem m_lt1 {c : Nat} (h : 97 ≤ c ∧ c ≤ 122) (u : ab_S) : fX10_isLetter (nI c) u = some (1, u) := c_lt1 h u
theorem m_lt0 {c : Nat} (h : ¬ (97 ≤ c ∧ c ≤ 122)) (hc : c ≤ 126) (u : ab_S) : fX10_isLetter (nI c) u = some (0, u) := c_lt0 h hc u
theorem m_dg1 {c : Nat} (h : 48 ≤ c ∧ c ≤ 57) (u : ab_S) : fX10_isDigit (nI c) u = some (1, u) := c_dg1 h u
theorem m_dg0 {c : Nat} (h : ¬ (48 ≤ c ∧ c ≤ 57)) (hc : c ≤ 126) (u : ab_S) : fX10_isDigit (nI c) u = some (0, u) := c_dg0 h hc u
theorem by_at : ∀ k, k < 8 → ab_by.getD k 0 = nI (sgL.getD k 0) ∧ sgL.getD k 0 < 128 := by decide +kernel
theorem ix_loop (c : Nat) (hc : c ≤ 126) (u : ab_S) : ∀ (d k n : Nat), k + d = 8 → d < n → ∃ r, fJ1_indexOfChar_4cfef_7 n 8 (nI c) (nI k) u = some (r, u) ∧ ((∃ j, k ≤ j ∧ j < 8 ∧ sgL.getD j 0 = c) → ¬ r < 0) ∧ ((∀ j, k ≤ j → j < 8 → sgL.getD j 0 ≠ c) → r < 0) := by
  intro d
  induction d with
  | zero =>
    intro k n hk hn
    obtain ⟨n, rfl⟩ : ∃ m, n = m + 1 := ⟨n - 1, by omega⟩
    rw [fJ1_indexOfChar_4cfef_7]
    simp (disch := first | omega | decide) only [i10, i00, decide_true, decide_false, cnd_t, cnd_f, gd_nil, gd_t, b1_0, b1_1, sw_nil, sw_cons, obs, Nat.not_lt_zero, nI_addo, nI_oadd, nI_add, nI_mulo, nI_omul, nI_mul, nI_lto, nI_leo, nI_olt, nI_ole, nI_eqo, nI_oeq, nI_lt2, nI_le2, nI_eq2, nI_nm1, nI_m1n, nI_lt0, nI_lem1, nc_nI, nc_o, ix_nI, ix_o, show ¬ k < 8 by omega]
    exact ⟨-1, rfl, fun ⟨j, h1, h2, _⟩ => by omega, fun _ => by decide⟩
  | succ d ih =>
    intro k n hk hn
    obtain ⟨n, rfl⟩ : ∃ m, n = m + 1 := ⟨n - 1, by omega⟩
    obtain ⟨a1, a2⟩ := by_at k (by omega)
    rw [fJ1_indexOfChar_4cfef_7]
    simp (disch := first | omega | decide) only [i10, i00, decide_true, decide_false, cnd_t, cnd_f, gd_nil, gd_t, b1_0, b1_1, sw_nil, sw_cons, obs, Nat.not_lt_zero, nI_addo, nI_oadd, nI_add, nI_mulo, nI_omul, nI_mul, nI_lto, nI_leo, nI_olt, nI_ole, nI_eqo, nI_oeq, nI_lt2, nI_le2, nI_eq2, nI_nm1, nI_m1n, nI_lt0, nI_lem1, nc_nI, nc_o, ix_nI, ix_o, show k < 8 by omega, a1]
    by_cases e : sgL.getD k 0 = c
    · simp only [e, i10, i00, decide_true, decide_false, cnd_t, cnd_f, gd_nil, gd_t, b1_0, b1_1, sw_nil, sw_cons, obs]
      refine ⟨_, rfl, fun _ => by rw [nI_lt0 (by omega)]; exact id, fun h => absurd e (h k (Nat.le_refl k) (by omega))⟩
    · simp only [e, i10, i00, decide_true, decide_false, cnd_t, cnd_f, gd_nil, gd_t, b1_0, b1_1, sw_nil, sw_cons, obs]
      obtain ⟨r, h1, h2, h3⟩ := ih (k + 1) n (by omega) (by omega)
      refine ⟨r, h1, fun ⟨j, g1, g2, g3⟩ => h2 ⟨j, ?_, g2, g3⟩, fun h => h3 fun j g1 g2 => h j (by omega) g2⟩
      by_cases ej : j = k
      · subst ej; exact absurd g3 e
      · omega
theorem c_sg (c : Nat) (hc : c ≤ 126) (u : ab_S) : ∃ r, fJ0_indexOf_0f7a4 (nI c) u = some (r, u) ∧ (c ∈ sgL → ¬ r < 0) ∧ (c ∉ sgL → r < 0) := by
  obtain ⟨r, h1, h2, h3⟩ := ix_loop c hc u 8 0 fu rfl (by decide)
  have e8 : ((8 : Int32) >>> ((0 : Int32) &&& 31)) = 8 := by decide +kernel
  have y0 : ab_y1 0 = true := by decide +kernel
  have h1' : fJ1_indexOfChar_4cfef_7 fu 8 (nI c) 0 u = some (r, u) := h1
  have ef : fJ0_indexOf_0f7a4 (nI c) u = some (r, u) := by
    unfold fJ0_indexOf_0f7a4 fJ0_indexOf_7cf53 fJ0_isLatin1_aae02 fJ0_length_8abf5 fJ0_coder_7d493 fJ1_indexOf_4cfef fJ1_canEncode_9a6ad fJ1_indexOfChar_4cfef
    simp (disch := first | omega | decide) only [i10, i00, decide_true, decide_false, cnd_t, cnd_f, gd_nil, gd_t, b1_0, b1_1, sw_nil, sw_cons, obs, Nat.not_lt_zero, nI_addo, nI_oadd, nI_add, nI_mulo, nI_omul, nI_mul, nI_lto, nI_leo, nI_olt, nI_ole, nI_eqo, nI_oeq, nI_lt2, nI_le2, nI_eq2, nI_nm1, nI_m1n, nI_lt0, nI_lem1, nc_nI, nc_o, ix_nI, ix_o, e8, y0, show ((1 : Nat) = 0) = False from eq_false (by decide), show ((0 : Nat) = 0) = True from eq_true rfl, show c ≤ 255 by omega, i8_128 c (by omega), show ((0 : Int32) < 0) = False from eq_false (by decide), show ((8 : Int32) < 8) = False from eq_false (by decide), if_false, show ((0 : Int32) < 8) = True from eq_true (by decide), h1']
  refine ⟨r, ef, fun h => h2 ?_, fun h => h3 fun j _ hj e => h ?_⟩
  · have key : ∀ c, c < 127 → c ∈ sgL → ∃ j, j < 8 ∧ sgL.getD j 0 = c := by decide +kernel
    obtain ⟨j, h1, h2⟩ := key c (by omega) h
    exact ⟨j, Nat.zero_le j, h1, h2⟩
  · subst e
    have key : ∀ j, j < 8 → sgL.getD j 0 ∈ sgL := by decide +kernel
    exact key j hj
theorem m_sg1 {c : Nat} (h : c ∈ sgL) (u : ab_S) : fX10_isSignOf (nI c) u = some (1, u) := by
  have hc : c = 40 ∨ c = 41 ∨ c = 60 ∨ c = 61 ∨ c = 43 ∨ c = 45 ∨ c = 42 ∨ c = 59 := by
    simpa only [sgL, List.mem_cons, List.mem_nil_iff, or_false, List.not_mem_nil] using h
  unfold fX10_isSignOf
  obtain e | e | e | e | e | e | e | e := hc <;> (subst e; simp (disch := first | omega | decide) only [i10, i00, decide_true, decide_false, cnd_t, cnd_f, gd_nil, gd_t, b1_0, b1_1, sw_nil, sw_cons, obs, Nat.not_lt_zero, nI_addo, nI_oadd, nI_add, nI_mulo, nI_omul, nI_mul, nI_lto, nI_leo, nI_olt, nI_ole, nI_eqo, nI_oeq, nI_lt2, nI_le2, nI_eq2, nI_nm1, nI_m1n, nI_lt0, nI_lem1, nc_nI, nc_o, ix_nI, ix_o, show ((40 : Nat) = 41) = False from eq_false (by decide)] <;> rfl)
theorem m_sg0 {c : Nat} (h : c ∉ sgL) (hc : c ≤ 126) (u : ab_S) : fX10_isSignOf (nI c) u = some (0, u) := by
  have hc : ¬ c = 40 ∧ ¬ c = 41 ∧ ¬ c = 60 ∧ ¬ c = 61 ∧ ¬ c = 43 ∧ ¬ c = 45 ∧ ¬ c = 42 ∧ ¬ c = 59 := by
    simpa only [sgL, List.mem_cons, List.mem_nil_iff, or_false, List.not_mem_nil, not_or] using h
  obtain ⟨h1, h2, h3, h4, h5, h6, h7, h8⟩ := hc
  unfold fX10_isSignOf
  simp (disch := first | omega | decide) only [i10, i00, decide_true, decide_false, cnd_t, cnd_f, gd_nil, gd_t, b1_0, b1_1, sw_nil, sw_cons, obs, Nat.not_lt_zero, nI_addo, nI_oadd, nI_add, nI_mulo, nI_omul, nI_mul, nI_lto, nI_leo, nI_olt, nI_ole, nI_eqo, nI_oeq, nI_lt2, nI_le2, nI_eq2, nI_nm1, nI_m1n, nI_lt0, nI_lem1, nc_nI, nc_o, ix_nI, ix_o, h1, h2, h3, h4, h5, h6, h7, h8]
/-! tokens: words, numbers, the whole text -/
def txC (c : Nat → Nat) (n : Nat) (u : ab_S) : Prop := u.1 1 1 = nI n ∧ ∀ i, i < n → u.1 2 i = nI (c i)
def txM (c : Nat → Nat) (n : Nat) (v : ab_S) : Prop := v.1 0 3 = nI n ∧ ∀ i, i < n → v.1 1 i = nI (c i)
def tkK (kc : Int32) (xc : Int64) (km : Int32) (xm : Int64) : Prop := (kc = 1 ∧ km = 4) ∨ (kc = 2 ∧ km = 1 ∧ WR xc xm) ∨ (kc = 3 ∧ km = 2 ∧ ∃ n, n < 10000 ∧ xc = lN n ∧ xm = lN n) ∨ (kc = 4 ∧ km = 3 ∧ ∃ c, c ∈ sgL ∧ xc = lN c ∧ xm = lN c)
theorem enc_snoc (b : Nat) (ds : List Nat) (d : Nat) : enc b (ds ++ [d]) = enc b ds * b + d := by
  unfold enc
  rw [List.foldl_append]
  rfl
theorem c_sgn {c : Nat → Nat} {n : Nat} {u : ab_S} (h : txC c n u) (hn : n ≤ 1000) {i : Nat} (hi : i < n) (hc : c i ≤ 126) : fX6_signAt (nI i) u = some (nI (c i), u) := by
  unfold fX6_signAt
  have e1 : ab_c1 (nI (c i)) = true := (show ∀ c, c < 128 → ab_c1 (nI c) = true by decide +kernel) _ (by omega)
  simp (disch := first | omega | decide) only [i10, i00, decide_true, decide_false, cnd_t, cnd_f, gd_nil, gd_t, b1_0, b1_1, sw_nil, sw_cons, obs, Nat.not_lt_zero, nI_addo, nI_oadd, nI_add, nI_mulo, nI_omul, nI_mul, nI_lto, nI_leo, nI_olt, nI_ole, nI_eqo, nI_oeq, nI_lt2, nI_le2, nI_eq2, nI_nm1, nI_m1n, nI_lt0, nI_lem1, nc_nI, nc_o, ix_nI, ix_o, show i < 1000 by omega, h.2 i hi, e1]
section PU
variable {u v : ab_S} {c : Nat → Nat} {n : Nat}
theorem w_loop (hu : txC c n u) (hv : txM c n v) (hn : n ≤ 1000) (hx : ∀ i, i < n → ctx (c i)) (k17 : Int32 → Int32 → ab_S → Option (Unit × ab_S)) (t p : Nat) (ht : t ≤ 1000) : ∀ d q N M x y, q + d = n → d < N → d < M → p ≤ q → (q - p ≤ 8 → ∃ ds : List Nat, ds.length = q - p ∧ (∀ e, e ∈ ds → 1 ≤ e ∧ e ≤ 26) ∧ x = lN (enc 27 ds) ∧ y = lN (enc 37 ds)) → ∃ e kc xc km xm, q ≤ e ∧ e ≤ n ∧ (q < n → (97 ≤ c q ∧ c q ≤ 122) → q < e) ∧ fX6_scanWord_4 N (nI p) (nI q) x u = (fX6_add kc (nI p) xc u).bind (fun q1 => some (nI e, q1.2)) ∧ fX10_cutAll_70 k17 M (nI t) (nI q) (nI p) y v = fX10_cutAll_265 k17 (nI t) (nI e) xm (sI v 2 t km) ∧ (p < e → tkK kc xc km xm) := by
  have fin : ∀ q x y, p ≤ q → q ≤ n → (q - p ≤ 8 → ∃ ds : List Nat, ds.length = q - p ∧ (∀ e, e ∈ ds → 1 ≤ e ∧ e ≤ 26) ∧ x = lN (enc 27 ds) ∧ y = lN (enc 37 ds)) → ∃ kc xc km xm, fX6_scanWord_39 (nI p) (nI q) x u = (fX6_add kc (nI p) xc u).bind (fun q1 => some (nI q, q1.2)) ∧ fX10_cutAll_129 k17 (nI t) (nI q) (nI p) y v = fX10_cutAll_265 k17 (nI t) (nI q) xm (sI v 2 t km) ∧ (p < q → tkK kc xc km xm) := by
    intro q x y hpq hqn hd
    unfold fX6_scanWord_39 fX6_scanWord_53 fX10_cutAll_129
    by_cases e : q - p ≤ 8
    · simp (disch := first | omega | decide) only [i10, i00, decide_true, decide_false, cnd_t, cnd_f, gd_nil, gd_t, b1_0, b1_1, sw_nil, sw_cons, obs, Nat.not_lt_zero, nI_addo, nI_oadd, nI_add, nI_mulo, nI_omul, nI_mul, nI_lto, nI_leo, nI_olt, nI_ole, nI_eqo, nI_oeq, nI_lt2, nI_le2, nI_eq2, nI_nm1, nI_m1n, nI_lt0, nI_lem1, nc_nI, nc_o, ix_nI, ix_o, nI_sub hpq, e]
      obtain ⟨ds, h1, h2, h3, h4⟩ := hd e
      exact ⟨2, x, 1, y, rfl, rfl, fun hp => Or.inr (Or.inl ⟨rfl, rfl, ds, by omega, by omega, h2, h3, h4⟩)⟩
    · simp (disch := first | omega | decide) only [i10, i00, decide_true, decide_false, cnd_t, cnd_f, gd_nil, gd_t, b1_0, b1_1, sw_nil, sw_cons, obs, Nat.not_lt_zero, nI_addo, nI_oadd, nI_add, nI_mulo, nI_omul, nI_mul, nI_lto, nI_leo, nI_olt, nI_ole, nI_eqo, nI_oeq, nI_lt2, nI_le2, nI_eq2, nI_nm1, nI_m1n, nI_lt0, nI_lem1, nc_nI, nc_o, ix_nI, ix_o, nI_sub hpq, e]
      exact ⟨1, x, 4, y, rfl, rfl, fun _ => Or.inl ⟨rfl, rfl⟩⟩
  intro d
  induction d with
  | zero =>
    intro q N M x y hq hN hM hp hd
    obtain ⟨N, rfl⟩ : ∃ m, N = m + 1 := ⟨N - 1, by omega⟩
    obtain ⟨M, rfl⟩ : ∃ m, M = m + 1 := ⟨M - 1, by omega⟩
    obtain ⟨kc, xc, km, xm, f1, f2, f3⟩ := fin q x y hp (by omega) hd
    rw [fX6_scanWord_4, fX10_cutAll_70, hu.1, hv.1]
    simp (disch := first | omega | decide) only [i10, i00, decide_true, decide_false, cnd_t, cnd_f, gd_nil, gd_t, b1_0, b1_1, sw_nil, sw_cons, obs, Nat.not_lt_zero, nI_addo, nI_oadd, nI_add, nI_mulo, nI_omul, nI_mul, nI_lto, nI_leo, nI_olt, nI_ole, nI_eqo, nI_oeq, nI_lt2, nI_le2, nI_eq2, nI_nm1, nI_m1n, nI_lt0, nI_lem1, nc_nI, nc_o, ix_nI, ix_o, show ¬ q < n by omega]
    exact ⟨q, kc, xc, km, xm, Nat.le_refl q, by omega, (by intro h; first | exact h.elim | omega), f1, f2, f3⟩
  | succ d ih =>
    intro q N M x y hq hN hM hp hd
    obtain ⟨N, rfl⟩ : ∃ m, N = m + 1 := ⟨N - 1, by omega⟩
    obtain ⟨M, rfl⟩ : ∃ m, M = m + 1 := ⟨M - 1, by omega⟩
    have hcq := ctx_lt (hx q (by omega))
    rw [fX6_scanWord_4, fX10_cutAll_70, hu.1, hv.1]
    simp (disch := first | omega | decide) only [i10, i00, decide_true, decide_false, cnd_t, cnd_f, gd_nil, gd_t, b1_0, b1_1, sw_nil, sw_cons, obs, Nat.not_lt_zero, nI_addo, nI_oadd, nI_add, nI_mulo, nI_omul, nI_mul, nI_lto, nI_leo, nI_olt, nI_ole, nI_eqo, nI_oeq, nI_lt2, nI_le2, nI_eq2, nI_nm1, nI_m1n, nI_lt0, nI_lem1, nc_nI, nc_o, ix_nI, ix_o, show q < n by omega, c_sgn hu hn (i := q) (by omega) hcq, hv.2 q (by omega)]
    by_cases hl : 97 ≤ c q ∧ c q ≤ 122
    · rw [c_lt1 hl, m_lt1 hl]
      simp (disch := first | omega | decide) only [i10, i00, decide_true, decide_false, cnd_t, cnd_f, gd_nil, gd_t, b1_0, b1_1, sw_nil, sw_cons, obs, Nat.not_lt_zero, nI_addo, nI_oadd, nI_add, nI_mulo, nI_omul, nI_mul, nI_lto, nI_leo, nI_olt, nI_ole, nI_eqo, nI_oeq, nI_lt2, nI_le2, nI_eq2, nI_nm1, nI_m1n, nI_lt0, nI_lem1, nc_nI, nc_o, ix_nI, ix_o, nI_sub hp, c_sgn hu hn (i := q) (by omega) hcq, hv.2 q (by omega), nI_sub]
      unfold fX9_spell fX10_rank
      rw [m_lt1 hl]
      simp (disch := first | omega | decide) only [i10, i00, decide_true, decide_false, cnd_t, cnd_f, gd_nil, gd_t, b1_0, b1_1, sw_nil, sw_cons, obs, Nat.not_lt_zero, nI_addo, nI_oadd, nI_add, nI_mulo, nI_omul, nI_mul, nI_lto, nI_leo, nI_olt, nI_ole, nI_eqo, nI_oeq, nI_lt2, nI_le2, nI_eq2, nI_nm1, nI_m1n, nI_lt0, nI_lem1, nc_nI, nc_o, ix_nI, ix_o, nI_subo, show c q - 97 + 1 = c q - 96 by omega, nI_l (show c q - 96 < 2 ^ 31 by omega)]
      by_cases e8 : q - p < 8
      · simp only [e8, i10, i00, decide_true, decide_false, cnd_t, cnd_f, gd_nil, gd_t, b1_0, b1_1, sw_nil, sw_cons, obs]
        have hd' := hd (by omega)
        clear hd
        obtain ⟨ds, h1, h2, h3, h4⟩ := hd'
        subst h3 h4
        obtain ⟨e, kc, xc, km, xm, g1, g2, g3, g4, g5, g6⟩ := ih (q + 1) N M (lN (enc 27 (ds ++ [c q - 96]))) (lN (enc 37 (ds ++ [c q - 96]))) (by omega) (by omega) (by omega) (by omega) (fun _ => ⟨ds ++ [c q - 96], by rw [List.length_append, List.length_singleton]; omega, fun e he => by
          rcases List.mem_append.mp he with h | h
          · exact h2 e h
          · have h := List.mem_singleton.mp h
            omega, rfl, rfl⟩)
        have ex : lN (enc 27 ds) * 27 + lN (c q - 96) = lN (enc 27 (ds ++ [c q - 96])) := by
          rw [enc_snoc, show (27 : Int64) = lN 27 from rfl, lN_mul, lN_add]
        have ey : 37 * lN (enc 37 ds) + lN (c q - 96) = lN (enc 37 (ds ++ [c q - 96])) := by
          rw [enc_snoc, show (37 : Int64) = lN 37 from rfl, lN_mul, lN_add, Nat.mul_comm]
        rw [ex, ey]
        exact ⟨e, kc, xc, km, xm, by omega, g2, fun _ _ => by omega, g4, g5, g6⟩
      · simp only [e8, i10, i00, decide_true, decide_false, cnd_t, cnd_f, gd_nil, gd_t, b1_0, b1_1, sw_nil, sw_cons, obs]
        obtain ⟨e, kc, xc, km, xm, g1, g2, g3, g4, g5, g6⟩ := ih (q + 1) N M (x * 27 + lN (c q - 96)) y (by omega) (by omega) (by omega) (by omega) (fun h => by omega)
        exact ⟨e, kc, xc, km, xm, by omega, g2, fun _ _ => by omega, g4, g5, g6⟩
    · rw [c_lt0 hl hcq, m_lt0 hl hcq]
      simp (disch := first | omega | decide) only [i10, i00, decide_true, decide_false, cnd_t, cnd_f, gd_nil, gd_t, b1_0, b1_1, sw_nil, sw_cons, obs]
      obtain ⟨kc, xc, km, xm, f1, f2, f3⟩ := fin q x y hp (by omega) hd
      exact ⟨q, kc, xc, km, xm, Nat.le_refl q, by omega, fun _ h => absurd h hl, f1, f2, f3⟩
theorem n_loop (hu : txC c n u) (hv : txM c n v) (hn : n ≤ 1000) (hx : ∀ i, i < n → ctx (c i)) (k17 : Int32 → Int32 → ab_S → Option (Unit × ab_S)) (t p : Nat) (ht : t ≤ 1000) : ∀ d q N M x y, q + d = n → d < N → d < M → p ≤ q → (q - p ≤ 4 → ∃ m, m < 10 ^ (q - p) ∧ x = lN m ∧ y = lN m) → ∃ e kc xc km xm, q ≤ e ∧ e ≤ n ∧ (q < n → (48 ≤ c q ∧ c q ≤ 57) → q < e) ∧ fX6_scanNumber_4 N (nI p) (nI q) x u = (fX6_add kc (nI p) xc u).bind (fun q1 => some (nI e, q1.2)) ∧ fX10_cutAll_159 k17 M (nI t) (nI q) (nI p) y v = fX10_cutAll_265 k17 (nI t) (nI e) xm (sI v 2 t km) ∧ tkK kc xc km xm := by
  have fin : ∀ q x y, p ≤ q → q ≤ n → (q - p ≤ 4 → ∃ m, m < 10 ^ (q - p) ∧ x = lN m ∧ y = lN m) → ∃ kc xc km xm, fX6_scanNumber_45 (nI p) (nI q) x u = (fX6_add kc (nI p) xc u).bind (fun q1 => some (nI q, q1.2)) ∧ fX10_cutAll_218 k17 (nI t) (nI q) (nI p) y v = fX10_cutAll_265 k17 (nI t) (nI q) xm (sI v 2 t km) ∧ tkK kc xc km xm := by
    intro q x y hpq hqn hd
    unfold fX6_scanNumber_45 fX6_scanNumber_58 fX10_cutAll_218
    by_cases e : q - p ≤ 4
    · simp (disch := first | omega | decide) only [i10, i00, decide_true, decide_false, cnd_t, cnd_f, gd_nil, gd_t, b1_0, b1_1, sw_nil, sw_cons, obs, Nat.not_lt_zero, nI_addo, nI_oadd, nI_add, nI_mulo, nI_omul, nI_mul, nI_lto, nI_leo, nI_olt, nI_ole, nI_eqo, nI_oeq, nI_lt2, nI_le2, nI_eq2, nI_nm1, nI_m1n, nI_lt0, nI_lem1, nc_nI, nc_o, ix_nI, ix_o, nI_sub hpq, e]
      obtain ⟨m, h2, h3, h4⟩ := hd e
      have h5 : 10 ^ (q - p) ≤ 10 ^ 4 := Nat.pow_le_pow_right (by decide) e
      exact ⟨3, x, 2, y, rfl, rfl, Or.inr (Or.inr (Or.inl ⟨rfl, rfl, m, by omega, h3, h4⟩))⟩
    · simp (disch := first | omega | decide) only [i10, i00, decide_true, decide_false, cnd_t, cnd_f, gd_nil, gd_t, b1_0, b1_1, sw_nil, sw_cons, obs, Nat.not_lt_zero, nI_addo, nI_oadd, nI_add, nI_mulo, nI_omul, nI_mul, nI_lto, nI_leo, nI_olt, nI_ole, nI_eqo, nI_oeq, nI_lt2, nI_le2, nI_eq2, nI_nm1, nI_m1n, nI_lt0, nI_lem1, nc_nI, nc_o, ix_nI, ix_o, nI_sub hpq, e]
      exact ⟨1, x, 4, y, rfl, rfl, Or.inl ⟨rfl, rfl⟩⟩
  intro d
  induction d with
  | zero =>
    intro q N M x y hq hN hM hp hd
    obtain ⟨N, rfl⟩ : ∃ m, N = m + 1 := ⟨N - 1, by omega⟩
    obtain ⟨M, rfl⟩ : ∃ m, M = m + 1 := ⟨M - 1, by omega⟩
    obtain ⟨kc, xc, km, xm, f1, f2, f3⟩ := fin q x y hp (by omega) hd
    rw [fX6_scanNumber_4, fX10_cutAll_159, hu.1, hv.1]
    simp (disch := first | omega | decide) only [i10, i00, decide_true, decide_false, cnd_t, cnd_f, gd_nil, gd_t, b1_0, b1_1, sw_nil, sw_cons, obs, Nat.not_lt_zero, nI_addo, nI_oadd, nI_add, nI_mulo, nI_omul, nI_mul, nI_lto, nI_leo, nI_olt, nI_ole, nI_eqo, nI_oeq, nI_lt2, nI_le2, nI_eq2, nI_nm1, nI_m1n, nI_lt0, nI_lem1, nc_nI, nc_o, ix_nI, ix_o, show ¬ q < n by omega]
    exact ⟨q, kc, xc, km, xm, Nat.le_refl q, by omega, (by intro h; first | exact h.elim | omega), f1, f2, f3⟩
  | succ d ih =>
    intro q N M x y hq hN hM hp hd
    obtain ⟨N, rfl⟩ : ∃ m, N = m + 1 := ⟨N - 1, by omega⟩
    obtain ⟨M, rfl⟩ : ∃ m, M = m + 1 := ⟨M - 1, by omega⟩
    have hcq := ctx_lt (hx q (by omega))
    rw [fX6_scanNumber_4, fX10_cutAll_159, hu.1, hv.1]
    simp (disch := first | omega | decide) only [i10, i00, decide_true, decide_false, cnd_t, cnd_f, gd_nil, gd_t, b1_0, b1_1, sw_nil, sw_cons, obs, Nat.not_lt_zero, nI_addo, nI_oadd, nI_add, nI_mulo, nI_omul, nI_mul, nI_lto, nI_leo, nI_olt, nI_ole, nI_eqo, nI_oeq, nI_lt2, nI_le2, nI_eq2, nI_nm1, nI_m1n, nI_lt0, nI_lem1, nc_nI, nc_o, ix_nI, ix_o, show q < n by omega, c_sgn hu hn (i := q) (by omega) hcq, hv.2 q (by omega)]
    by_cases hl : 48 ≤ c q ∧ c q ≤ 57
    · rw [c_dg1 hl, m_dg1 hl]
      simp (disch := first | omega | decide) only [i10, i00, decide_true, decide_false, cnd_t, cnd_f, gd_nil, gd_t, b1_0, b1_1, sw_nil, sw_cons, obs, Nat.not_lt_zero, nI_addo, nI_oadd, nI_add, nI_mulo, nI_omul, nI_mul, nI_lto, nI_leo, nI_olt, nI_ole, nI_eqo, nI_oeq, nI_lt2, nI_le2, nI_eq2, nI_nm1, nI_m1n, nI_lt0, nI_lem1, nc_nI, nc_o, ix_nI, ix_o, nI_sub hp, c_sgn hu hn (i := q) (by omega) hcq, hv.2 q (by omega), nI_subo, nI_l (show c q - 48 < 2 ^ 31 by omega), nI_l (show c q < 2 ^ 31 by omega)]
      by_cases e4 : q - p < 4
      · simp only [e4, i10, i00, decide_true, decide_false, cnd_t, cnd_f, gd_nil, gd_t, b1_0, b1_1, sw_nil, sw_cons, obs]
        have hd' := hd (by omega)
        clear hd
        obtain ⟨m, h2, h3, h4⟩ := hd'
        subst h3 h4
        have hp10 : 10 ^ (q + 1 - p) = 10 ^ (q - p) * 10 := by rw [show q + 1 - p = (q - p) + 1 by omega, Nat.pow_succ]
        obtain ⟨e, kc, xc, km, xm, g1, g2, g3, g4, g5, g6⟩ := ih (q + 1) N M (lN (m * 10 + (c q - 48))) (lN (m * 10 + (c q - 48))) (by omega) (by omega) (by omega) (by omega) (fun _ => ⟨m * 10 + (c q - 48), by omega, rfl, rfl⟩)
        have ex : lN m * 10 + lN (c q - 48) = lN (m * 10 + (c q - 48)) := by
          rw [show (10 : Int64) = lN 10 from rfl, lN_mul, lN_add]
        have ey : 10 * lN m + lN (c q) - 48 = lN (m * 10 + (c q - 48)) := by
          rw [show (10 : Int64) = lN 10 from rfl, show (48 : Int64) = lN 48 from rfl, lN_mul, lN_add, lN_sub (by omega)]
          congr 1
          omega
        rw [ex, ey]
        exact ⟨e, kc, xc, km, xm, by omega, g2, fun _ _ => by omega, g4, g5, g6⟩
      · simp only [e4, i10, i00, decide_true, decide_false, cnd_t, cnd_f, gd_nil, gd_t, b1_0, b1_1, sw_nil, sw_cons, obs]
        obtain ⟨e, kc, xc, km, xm, g1, g2, g3, g4, g5, g6⟩ := ih (q + 1) N M (x * 10 + lN (c q - 48)) y (by omega) (by omega) (by omega) (by omega) (fun h => by omega)
        exact ⟨e, kc, xc, km, xm, by omega, g2, fun _ _ => by omega, g4, g5, g6⟩
    · rw [c_dg0 hl hcq, m_dg0 hl hcq]
      simp (disch := first | omega | decide) only [i10, i00, decide_true, decide_false, cnd_t, cnd_f, gd_nil, gd_t, b1_0, b1_1, sw_nil, sw_cons, obs]
      obtain ⟨kc, xc, km, xm, f1, f2, f3⟩ := fin q x y hp (by omega) hd
      exact ⟨q, kc, xc, km, xm, Nat.le_refl q, by omega, fun _ h => absurd h hl, f1, f2, f3⟩
end PU
/-! the whole text cut -/
def dTu (a k : Nat) : Prop := a = 3 ∨ a = 4 ∨ a = 5 ∨ (a = 1 ∧ 5 ≤ k ∧ k ≤ 10)
def dTv (a k : Nat) : Prop := a = 2 ∨ a = 3 ∨ a = 4 ∨ (a = 0 ∧ (k = 7 ∨ k = 8))
def dTw (a _k : Nat) : Prop := a = 2 ∨ a = 3 ∨ a = 4
def TK (n t : Nat) (u v : ab_S) : Prop := ∀ i, i < t → ∃ p, p ≤ n ∧ u.1 4 i = nI p ∧ v.1 3 i = nI p ∧ tkK (u.1 3 i) (u.2.1 5 i) (v.1 2 i) (v.2.1 4 i)
theorem add_eq {u : ab_S} {t : Nat} (h : u.1 1 5 = nI t) (ht : t < 1001) (a b : Int32) (x : Int64) : fX6_add a b x u = some ((), sI (sJ (sI (sI u 3 t a) 4 t b) 5 t x) 1 5 (nI (t + 1))) := by
  unfold fX6_add
  simp (disch := first | omega | decide) only [sI_at, sI_l, sJ_at, sJ_i, sJ_m, sM_at, sM_i, sM_l, Nat.reduceEqDiff, false_and, and_false, true_and, and_true, and_self, if_false, if_true, ite_false, ite_true, i10, i00, decide_true, decide_false, cnd_t, cnd_f, gd_nil, gd_t, b1_0, b1_1, sw_nil, sw_cons, obs, Nat.not_lt_zero, nI_addo, nI_oadd, nI_add, nI_mulo, nI_omul, nI_mul, nI_lto, nI_leo, nI_olt, nI_ole, nI_eqo, nI_oeq, nI_lt2, nI_le2, nI_eq2, nI_nm1, nI_m1n, nI_lt0, nI_lem1, nc_nI, nc_o, ix_nI, ix_o, ht, h]
section PU
variable {u v : ab_S} {c : Nat → Nat} {n t : Nat}
theorem txC.fr {u' : ab_S} {D : Nat → Nat → Prop} (h : txC c n u) (f : Fr D u u') (h1 : ¬ D 1 1) (h2 : ∀ k, ¬ D 2 k) : txC c n u' := ⟨(f.1 _ _ h1).trans h.1, fun i hi => (f.1 _ _ (h2 i)).trans (h.2 i hi)⟩
theorem txM.fr {v' : ab_S} {D : Nat → Nat → Prop} (h : txM c n v) (f : Fr D v v') (h1 : ¬ D 0 3) (h2 : ∀ k, ¬ D 1 k) : txM c n v' := ⟨(f.1 _ _ h1).trans h.1, fun i hi => (f.1 _ _ (h2 i)).trans (h.2 i hi)⟩
theorem TK.push (h : TK n t u v) {p : Nat} (hp : p ≤ n) {kc : Int32} {xc : Int64} {km : Int32} {xm : Int64} (hk : tkK kc xc km xm) : TK n (t + 1) (sI (sJ (sI (sI u 3 t kc) 4 t (nI p)) 5 t xc) 1 5 (nI (t + 1))) (sJ (sI (sI v 3 t (nI p)) 2 t km) 4 t xm) := by
  intro i hi
  by_cases e : i = t
  · subst e
    refine ⟨p, hp, ?_, ?_, ?_⟩
    · simp only [sI_at, sI_l, sJ_at, sJ_i, sJ_m, sM_at, sM_i, sM_l, Nat.reduceEqDiff, false_and, and_false, true_and, and_true, and_self, if_false, if_true, ite_false, ite_true]
    · simp only [sI_at, sI_l, sJ_at, sJ_i, sJ_m, sM_at, sM_i, sM_l, Nat.reduceEqDiff, false_and, and_false, true_and, and_true, and_self, if_false, if_true, ite_false, ite_true]
    · simp only [sI_at, sI_l, sJ_at, sJ_i, sJ_m, sM_at, sM_i, sM_l, Nat.reduceEqDiff, false_and, and_false, true_and, and_true, and_self, if_false, if_true, ite_false, ite_true]
      exact hk
  · obtain ⟨q, h1, h2, h3, h4⟩ := h i (by omega)
    refine ⟨q, h1, ?_, ?_, ?_⟩
    · simp only [sI_at, sI_l, sJ_at, sJ_i, sJ_m, sM_at, sM_i, sM_l, Nat.reduceEqDiff, false_and, and_false, true_and, and_true, and_self, if_false, if_true, ite_false, ite_true, e]
      exact h2
    · simp only [sI_at, sI_l, sJ_at, sJ_i, sJ_m, sM_at, sM_i, sM_l, Nat.reduceEqDiff, false_and, and_false, true_and, and_true, and_self, if_false, if_true, ite_false, ite_true, e]
      exact h3
    · simp only [sI_at, sI_l, sJ_at, sJ_i, sJ_m, sM_at, sM_i, sM_l, Nat.reduceEqDiff, false_and, and_false, true_and, and_true, and_self, if_false, if_true, ite_false, ite_true, e]
      exact h4
-- the end: what stands there
def tkT (n T : Nat) (u v : ab_S) : Prop := T ≤ n ∧ n ≤ 1000 ∧ TK n T u v ∧ u.1 3 T = 0 ∧ v.1 2 T = 0 ∧ u.1 4 T = nI n ∧ v.1 3 T = nI n ∧ u.1 1 5 = nI (T + 1)
def tkA (i : Nat) (u v : ab_S) : Prop := u.1 1 6 = nI i ∧ u.1 1 7 = u.1 3 i ∧ u.1 1 8 = u.1 4 i ∧ u.2.1 1 9 = u.2.1 5 i ∧ v.1 0 7 = nI i
theorem cut_end (hn : n ≤ 1000) (ht : t ≤ n) (hu : u.1 1 1 = nI n) (hv : v.1 0 3 = nI n) (h5 : u.1 1 5 = nI t) (hT : TK n t u v) : ∃ u' v', ((fX6_add 0 (u.1 1 1) 0 u).bind fun q2 => (fX6_step (sI (sI q2.2 1 1 0) 1 6 (-1))).bind fun q3 => some ((), q3.2)) = some ((), u') ∧ (ab_gd [ab_ix (nI t) 1002, ab_ix (nI t) 1002] (some ((), (sI (sI (sI (sI v 2 (nc (nI t)) 0) 3 (nc (nI t)) ((sI v 2 (nc (nI t)) 0).1 0 3)) 0 7 0) 0 8 0)))) = some ((), v') ∧ tkT n t u' v' ∧ tkA 0 u' v' ∧ u'.1 1 1 = 0 ∧ v'.1 0 8 = 0 ∧ Fr (fun a k => dTu a k ∨ (a = 1 ∧ k = 1)) u u' ∧ Fr dTv v v' := by
  rw [hu, add_eq h5 (by omega)]
  simp (disch := first | omega | decide) only [i10, i00, decide_true, decide_false, cnd_t, cnd_f, gd_nil, gd_t, b1_0, b1_1, sw_nil, sw_cons, obs, Nat.not_lt_zero, nI_addo, nI_oadd, nI_add, nI_mulo, nI_omul, nI_mul, nI_lto, nI_leo, nI_olt, nI_ole, nI_eqo, nI_oeq, nI_lt2, nI_le2, nI_eq2, nI_nm1, nI_m1n, nI_lt0, nI_lem1, nc_nI, nc_o, ix_nI, ix_o]
  have e6 : (-1 : Int32) + 1 = 0 := by decide +kernel
  have e0 : nc (0 : Int32) = 0 := by decide +kernel
  have el : ¬ ((0 : Int32) < 0) := by decide +kernel
  have hstep : ∀ w : ab_S, w.1 1 6 = -1 → w.1 1 5 = nI (t + 1) → fX6_step w = some ((), sJ (sI (sI (sI w 1 6 0) 1 7 (w.1 3 0)) 1 8 (w.1 4 0)) 1 9 (w.2.1 5 0)) := by
    intro w hw6 hw5
    have k1 : ((0 : Int32) < nI (t + 1)) = True := eq_true ((nI_ltI (a := 0) (by omega) (by omega)).mpr (by omega))
    have k2 : ((0 : Int32) < 1001) = True := eq_true (by decide +kernel)
    unfold fX6_step
    simp only [hw6, hw5, e6, e0, el, k1, k2, show ab_ix 0 1001 = true by decide +kernel, i10, i00, decide_true, decide_false, cnd_t, cnd_f, gd_nil, gd_t, b1_0, b1_1, sw_nil, sw_cons, obs, sI_at, sI_l, sJ_at, sJ_i, sJ_m, sM_at, sM_i, sM_l, Nat.reduceEqDiff, false_and, and_false, true_and, and_true, and_self, if_false, if_true, ite_false, ite_true]
  rw [hstep _ (by simp only [sI_at, sI_l, sJ_at, sJ_i, sJ_m, sM_at, sM_i, sM_l, Nat.reduceEqDiff, false_and, and_false, true_and, and_true, and_self, if_false, if_true, ite_false, ite_true]) (by simp only [sI_at, sI_l, sJ_at, sJ_i, sJ_m, sM_at, sM_i, sM_l, Nat.reduceEqDiff, false_and, and_false, true_and, and_true, and_self, if_false, if_true, ite_false, ite_true])]
  refine ⟨_, _, rfl, rfl, ⟨ht, hn, ?_, ?_, ?_, ?_, ?_, ?_⟩, ⟨?_, ?_, ?_, ?_, ?_⟩, ?_, ?_, ?_, ?_⟩
  · intro i hi
    obtain ⟨q, h1, h2, h3, h4⟩ := hT i hi
    have e : ¬ i = t := by omega
    refine ⟨q, h1, ?_, ?_, ?_⟩
    · simp only [sI_at, sI_l, sJ_at, sJ_i, sJ_m, sM_at, sM_i, sM_l, Nat.reduceEqDiff, false_and, and_false, true_and, and_true, and_self, if_false, if_true, ite_false, ite_true, e]
      exact h2
    · simp only [sI_at, sI_l, sJ_at, sJ_i, sJ_m, sM_at, sM_i, sM_l, Nat.reduceEqDiff, false_and, and_false, true_and, and_true, and_self, if_false, if_true, ite_false, ite_true, e]
      exact h3
    · simp only [sI_at, sI_l, sJ_at, sJ_i, sJ_m, sM_at, sM_i, sM_l, Nat.reduceEqDiff, false_and, and_false, true_and, and_true, and_self, if_false, if_true, ite_false, ite_true, e]
      exact h4
  · simp only [sI_at, sI_l, sJ_at, sJ_i, sJ_m, sM_at, sM_i, sM_l, Nat.reduceEqDiff, false_and, and_false, true_and, and_true, and_self, if_false, if_true, ite_false, ite_true]
  · simp only [sI_at, sI_l, sJ_at, sJ_i, sJ_m, sM_at, sM_i, sM_l, Nat.reduceEqDiff, false_and, and_false, true_and, and_true, and_self, if_false, if_true, ite_false, ite_true]
  · simp only [sI_at, sI_l, sJ_at, sJ_i, sJ_m, sM_at, sM_i, sM_l, Nat.reduceEqDiff, false_and, and_false, true_and, and_true, and_self, if_false, if_true, ite_false, ite_true]
  · simp only [sI_at, sI_l, sJ_at, sJ_i, sJ_m, sM_at, sM_i, sM_l, Nat.reduceEqDiff, false_and, and_false, true_and, and_true, and_self, if_false, if_true, ite_false, ite_true]
    exact hv
  · simp only [sI_at, sI_l, sJ_at, sJ_i, sJ_m, sM_at, sM_i, sM_l, Nat.reduceEqDiff, false_and, and_false, true_and, and_true, and_self, if_false, if_true, ite_false, ite_true]
  · simp only [sI_at, sI_l, sJ_at, sJ_i, sJ_m, sM_at, sM_i, sM_l, Nat.reduceEqDiff, false_and, and_false, true_and, and_true, and_self, if_false, if_true, ite_false, ite_true]
    rfl
  · simp only [sI_at, sI_l, sJ_at, sJ_i, sJ_m, sM_at, sM_i, sM_l, Nat.reduceEqDiff, false_and, and_false, true_and, and_true, and_self, if_false, if_true, ite_false, ite_true]
  · simp only [sI_at, sI_l, sJ_at, sJ_i, sJ_m, sM_at, sM_i, sM_l, Nat.reduceEqDiff, false_and, and_false, true_and, and_true, and_self, if_false, if_true, ite_false, ite_true]
  · simp only [sI_at, sI_l, sJ_at, sJ_i, sJ_m, sM_at, sM_i, sM_l, Nat.reduceEqDiff, false_and, and_false, true_and, and_true, and_self, if_false, if_true, ite_false, ite_true]
  · simp only [sI_at, sI_l, sJ_at, sJ_i, sJ_m, sM_at, sM_i, sM_l, Nat.reduceEqDiff, false_and, and_false, true_and, and_true, and_self, if_false, if_true, ite_false, ite_true]
    rfl
  · simp only [sI_at, sI_l, sJ_at, sJ_i, sJ_m, sM_at, sM_i, sM_l, Nat.reduceEqDiff, false_and, and_false, true_and, and_true, and_self, if_false, if_true, ite_false, ite_true]
  · simp only [sI_at, sI_l, sJ_at, sJ_i, sJ_m, sM_at, sM_i, sM_l, Nat.reduceEqDiff, false_and, and_false, true_and, and_true, and_self, if_false, if_true, ite_false, ite_true]
  · exact Fr.trans (Fr.sI (Or.inl (Or.inl rfl))) (Fr.trans (Fr.sI (Or.inl (Or.inr (Or.inl rfl)))) (Fr.trans (Fr.sJ (Or.inl (Or.inr (Or.inr (Or.inl rfl))))) (Fr.trans (Fr.sI (Or.inl (Or.inr (Or.inr (Or.inr ⟨rfl, by decide, by decide⟩))))) (Fr.trans (Fr.sI (Or.inr ⟨rfl, rfl⟩)) (Fr.trans (Fr.sI (Or.inl (Or.inr (Or.inr (Or.inr ⟨rfl, by decide, by decide⟩))))) (Fr.trans (Fr.sI (Or.inl (Or.inr (Or.inr (Or.inr ⟨rfl, by decide, by decide⟩))))) (Fr.trans (Fr.sI (Or.inl (Or.inr (Or.inr (Or.inr ⟨rfl, by decide, by decide⟩))))) (Fr.trans (Fr.sI (Or.inl (Or.inr (Or.inr (Or.inr ⟨rfl, by decide, by decide⟩))))) (Fr.sJ (Or.inl (Or.inr (Or.inr (Or.inr ⟨rfl, by decide, by decide⟩))))))))))))) 
  · exact Fr.trans (Fr.sI (Or.inl rfl)) (Fr.trans (Fr.sI (Or.inr (Or.inl rfl))) (Fr.trans (Fr.sI (Or.inr (Or.inr (Or.inr ⟨rfl, by decide⟩)))) (Fr.sI (Or.inr (Or.inr (Or.inr ⟨rfl, by decide⟩))))))
theorem cut_loop (hn : n ≤ 1000) (hx : ∀ i, i < n → ctx (c i)) : ∀ D p t N M u v, n - p ≤ D → p ≤ n → t ≤ p → D < N → D < M → txC c n u → txM c n v → u.1 1 5 = nI t → TK n t u v → ∃ u' v' T, fX6_split_12 N (nI p) u = some ((), u') ∧ fX10_cutAll_17 M (nI t) (nI p) v = some ((), v') ∧ tkT n T u' v' ∧ tkA 0 u' v' ∧ u'.1 1 1 = 0 ∧ v'.1 0 8 = 0 ∧ Fr (fun a k => dTu a k ∨ (a = 1 ∧ k = 1)) u u' ∧ Fr dTv v v' := by
  have done : ∀ p t N M (u v : ab_S), p = n → t ≤ p → 0 < N → 0 < M → txC c n u → txM c n v → u.1 1 5 = nI t → TK n t u v → ∃ u' v' T, fX6_split_12 N (nI p) u = some ((), u') ∧ fX10_cutAll_17 M (nI t) (nI p) v = some ((), v') ∧ tkT n T u' v' ∧ tkA 0 u' v' ∧ u'.1 1 1 = 0 ∧ v'.1 0 8 = 0 ∧ Fr (fun a k => dTu a k ∨ (a = 1 ∧ k = 1)) u u' ∧ Fr dTv v v' := by
    intro p t N M u v hp ht hN hM hu hv h5 hT
    subst hp
    obtain ⟨N, rfl⟩ : ∃ m, N = m + 1 := ⟨N - 1, by omega⟩
    obtain ⟨M, rfl⟩ : ∃ m, M = m + 1 := ⟨M - 1, by omega⟩
    obtain ⟨u', v', e1, e2, e3⟩ := cut_end hn ht hu.1 hv.1 h5 hT
    refine ⟨u', v', t, ?_, ?_, e3⟩
    · rw [fX6_split_12, ← e1, hu.1]
      simp (disch := first | omega | decide) only [nI_lt2, Nat.lt_irrefl, decide_false, cnd_f]
    · rw [fX10_cutAll_17, ← e2, hv.1]
      simp (disch := first | omega | decide) only [nI_lt2, Nat.lt_irrefl, decide_false, cnd_f]
  intro D
  induction D with
  | zero =>
    intro p t N M u v hD hp ht hN hM hu hv h5 hT
    exact done p t N M u v (by omega) ht hN hM hu hv h5 hT
  | succ D ih =>
    intro p t N M u v hD hp ht hN hM hu hv h5 hT
    by_cases ep : p = n
    · exact done p t N M u v ep ht (by omega) (by omega) hu hv h5 hT
    have hpn : p < n := by omega
    obtain ⟨N, rfl⟩ : ∃ m, N = m + 1 := ⟨N - 1, by omega⟩
    obtain ⟨M, rfl⟩ : ∃ m, M = m + 1 := ⟨M - 1, by omega⟩
    have hcx := hx p hpn
    have hcp := ctx_lt hcx
    rw [fX6_split_12, fX10_cutAll_17, hu.1, hv.1]
    simp (disch := first | omega | decide) only [i10, i00, decide_true, decide_false, cnd_t, cnd_f, gd_nil, gd_t, b1_0, b1_1, sw_nil, sw_cons, obs, Nat.not_lt_zero, nI_addo, nI_oadd, nI_add, nI_mulo, nI_omul, nI_mul, nI_lto, nI_leo, nI_olt, nI_ole, nI_eqo, nI_oeq, nI_lt2, nI_le2, nI_eq2, nI_nm1, nI_m1n, nI_lt0, nI_lem1, nc_nI, nc_o, ix_nI, ix_o, hpn, c_sgn hu hn hpn hcp, hv.2 p hpn]
    -- what a piece that ends at e leaves
    have next : ∀ (e : Nat) kc xc km xm, p < e → e ≤ n → tkK kc xc km xm → ∃ u' v' T, (((fX6_add kc (nI p) xc u).bind (fun q1 => some (nI e, q1.2))).bind fun q1 => fX6_split_12 N (if q1.1 < nI (p + 1) then nI (p + 1) else q1.1) q1.2) = some ((), u') ∧ fX10_cutAll_265 (fX10_cutAll_17 M) (nI t) (nI e) xm (sI (sI v 3 t (nI p)) 2 t km) = some ((), v') ∧ tkT n T u' v' ∧ tkA 0 u' v' ∧ u'.1 1 1 = 0 ∧ v'.1 0 8 = 0 ∧ Fr (fun a k => dTu a k ∨ (a = 1 ∧ k = 1)) u u' ∧ Fr dTv v v' := by
      intro e kc xc km xm he1 he2 hk
      have f1 : Fr dTu u (sI (sJ (sI (sI u 3 t kc) 4 t (nI p)) 5 t xc) 1 5 (nI (t + 1))) := Fr.trans (Fr.sI (Or.inl rfl)) (Fr.trans (Fr.sI (Or.inr (Or.inl rfl))) (Fr.trans (Fr.sJ (Or.inr (Or.inr (Or.inl rfl)))) (Fr.sI (Or.inr (Or.inr (Or.inr ⟨rfl, by decide, by decide⟩))))))
      have g1 : Fr dTw v (sJ (sI (sI v 3 t (nI p)) 2 t km) 4 t xm) := Fr.trans (Fr.sI (Or.inr (Or.inl rfl))) (Fr.trans (Fr.sI (Or.inl rfl)) (Fr.sJ (Or.inr (Or.inr rfl))))
      obtain ⟨u', v', T, a1, a2, a3, a4, a5, a6, a7, a8⟩ := ih e (t + 1) N M (sI (sJ (sI (sI u 3 t kc) 4 t (nI p)) 5 t xc) 1 5 (nI (t + 1))) (sJ (sI (sI v 3 t (nI p)) 2 t km) 4 t xm) (by omega) he2 (by omega) (by omega) (by omega) (hu.fr f1 (by unfold dTu; omega) (fun k => by unfold dTu; omega)) (hv.fr g1 (by unfold dTw; omega) (fun k => by unfold dTw; omega)) (by simp only [sI_at, sI_l, sJ_at, sJ_i, sJ_m, sM_at, sM_i, sM_l, Nat.reduceEqDiff, false_and, and_false, true_and, and_true, and_self, if_false, if_true, ite_false, ite_true]) (hT.push hp hk)
      refine ⟨u', v', T, ?_, ?_, a3, a4, a5, a6, (f1.mono fun a k z => Or.inl z).trans a7, (g1.mono fun a k z => by unfold dTw at z; unfold dTv; omega).trans a8⟩
      · rw [add_eq h5 (by omega)]
        have el : ¬ nI e < nI (p + 1) := by
          rw [nI_lt2 (by omega) (by omega)]
          omega
        simp only [obs, el, if_false]
        exact a1
      · unfold fX10_cutAll_265
        simp (disch := first | omega | decide) only [i10, i00, decide_true, decide_false, cnd_t, cnd_f, gd_nil, gd_t, b1_0, b1_1, sw_nil, sw_cons, obs, Nat.not_lt_zero, nI_addo, nI_oadd, nI_add, nI_mulo, nI_omul, nI_mul, nI_lto, nI_leo, nI_olt, nI_ole, nI_eqo, nI_oeq, nI_lt2, nI_le2, nI_eq2, nI_nm1, nI_m1n, nI_lt0, nI_lem1, nc_nI, nc_o, ix_nI, ix_o]
        exact a2
    by_cases e10 : c p = 10 ∨ c p = 32
    · have skip : ∃ u' v' T, fX6_split_12 N (nI (p + 1)) u = some ((), u') ∧ fX10_cutAll_17 M (nI t) (nI (p + 1)) v = some ((), v') ∧ tkT n T u' v' ∧ tkA 0 u' v' ∧ u'.1 1 1 = 0 ∧ v'.1 0 8 = 0 ∧ Fr (fun a k => dTu a k ∨ (a = 1 ∧ k = 1)) u u' ∧ Fr dTv v v' := ih (p + 1) t N M u v (by omega) (by omega) (by omega) (by omega) (by omega) hu hv h5 hT
      unfold fX6_split_43
      by_cases e : c p = 10
      · simp (disch := first | omega | decide) only [e, i10, i00, decide_true, decide_false, cnd_t, cnd_f, gd_nil, gd_t, b1_0, b1_1, sw_nil, sw_cons, obs, Nat.not_lt_zero, nI_addo, nI_oadd, nI_add, nI_mulo, nI_omul, nI_mul, nI_lto, nI_leo, nI_olt, nI_ole, nI_eqo, nI_oeq, nI_lt2, nI_le2, nI_eq2, nI_nm1, nI_m1n, nI_lt0, nI_lem1, nc_nI, nc_o, ix_nI, ix_o]
        exact skip
      · have e2 : c p = 32 := by omega
        simp (disch := first | omega | decide) only [e2, i10, i00, decide_true, decide_false, cnd_t, cnd_f, gd_nil, gd_t, b1_0, b1_1, sw_nil, sw_cons, obs, Nat.not_lt_zero, nI_addo, nI_oadd, nI_add, nI_mulo, nI_omul, nI_mul, nI_lto, nI_leo, nI_olt, nI_ole, nI_eqo, nI_oeq, nI_lt2, nI_le2, nI_eq2, nI_nm1, nI_m1n, nI_lt0, nI_lem1, nc_nI, nc_o, ix_nI, ix_o, show ((32 : Nat) = 10) = False from eq_false (by decide)]
        exact skip
    · have n1 : ¬ c p = 10 := by omega
      have n2 : ¬ c p = 32 := by omega
      simp only [n1, n2, i10, i00, decide_true, decide_false, cnd_t, cnd_f, gd_nil, gd_t, b1_0, b1_1, sw_nil, sw_cons, obs]
      unfold fX6_split_43 fX6_scan
      rw [c_sgn hu hn hpn hcp]
      simp only [i10, i00, decide_true, decide_false, cnd_t, cnd_f, gd_nil, gd_t, b1_0, b1_1, sw_nil, sw_cons, obs, nI_addo, show (nI p + 1) = nI (p + 1) from nI_1 p]
      by_cases hl : 97 ≤ c p ∧ c p ≤ 122
      · rw [c_lt1 hl, m_lt1 hl]
        simp only [i10, i00, decide_true, decide_false, cnd_t, cnd_f, gd_nil, gd_t, b1_0, b1_1, sw_nil, sw_cons, obs]
        unfold fX6_scanWord
        have g0 : Fr dTw v (sI v 3 t (nI p)) := Fr.sI (Or.inr (Or.inl rfl))
        obtain ⟨e, kc, xc, km, xm, w1, w2, w3, w4, w5, w6⟩ := w_loop hu (hv.fr g0 (by unfold dTw; omega) (fun k => by unfold dTw; omega)) hn hx (fX10_cutAll_17 M) t p (by omega) (n - p) p fu fu 0 0 (by omega) (show n - p < 5000 by omega) (show n - p < 5000 by omega) (Nat.le_refl p) (fun _ => ⟨[], by rw [Nat.sub_self]; rfl, fun e he => absurd he List.not_mem_nil, rfl, rfl⟩)
        have we := w3 hpn hl
        obtain ⟨u', v', T, z1, z2, z3⟩ := next e kc xc km xm we w2 (w6 we)
        refine ⟨u', v', T, ?_, ?_, z3⟩
        · rw [w4, ← z1, add_eq h5 (by omega)]
          simp only [obs]
        · rw [w5, z2]
      · rw [c_lt0 hl hcp, m_lt0 hl hcp]
        simp only [i10, i00, decide_true, decide_false, cnd_t, cnd_f, gd_nil, gd_t, b1_0, b1_1, sw_nil, sw_cons, obs]
        by_cases hd : 48 ≤ c p ∧ c p ≤ 57
        · rw [c_dg1 hd, m_dg1 hd]
          simp only [i10, i00, decide_true, decide_false, cnd_t, cnd_f, gd_nil, gd_t, b1_0, b1_1, sw_nil, sw_cons, obs]
          unfold fX6_scanNumber
          have g0 : Fr dTw v (sI v 3 t (nI p)) := Fr.sI (Or.inr (Or.inl rfl))
          obtain ⟨e, kc, xc, km, xm, w1, w2, w3, w4, w5, w6⟩ := n_loop hu (hv.fr g0 (by unfold dTw; omega) (fun k => by unfold dTw; omega)) hn hx (fX10_cutAll_17 M) t p (by omega) (n - p) p fu fu 0 0 (by omega) (show n - p < 5000 by omega) (show n - p < 5000 by omega) (Nat.le_refl p) (fun _ => ⟨0, by rw [Nat.sub_self]; decide, rfl, rfl⟩)
          have we := w3 hpn hd
          obtain ⟨u', v', T, z1, z2, z3⟩ := next e kc xc km xm we w2 w6
          refine ⟨u', v', T, ?_, ?_, z3⟩
          · rw [w4, ← z1, add_eq h5 (by omega)]
            simp only [obs]
          · rw [w5, z2]
        · rw [c_dg0 hd hcp, m_dg0 hd hcp]
          simp only [i10, i00, decide_true, decide_false, cnd_t, cnd_f, gd_nil, gd_t, b1_0, b1_1, sw_nil, sw_cons, obs]
          obtain ⟨r, s1, s2, s3⟩ := c_sg (c p) hcp u
          rw [s1]
          simp only [i10, i00, decide_true, decide_false, cnd_t, cnd_f, gd_nil, gd_t, b1_0, b1_1, sw_nil, sw_cons, obs]
          unfold fX6_scan_47
          rw [nI_l (show c p < 2 ^ 31 by omega)]
          by_cases hs : c p ∈ sgL
          · rw [m_sg1 hs]
            obtain ⟨u', v', T, z1, z2, z3⟩ := next (p + 1) 4 (lN (c p)) 3 (lN (c p)) (by omega) (by omega) (Or.inr (Or.inr (Or.inr ⟨rfl, rfl, c p, hs, rfl, rfl⟩)))
            refine ⟨u', v', T, ?_, ?_, z3⟩
            · rw [← z1]
              simp only [s2 hs, i10, i00, decide_true, decide_false, cnd_t, cnd_f, gd_nil, gd_t, b1_0, b1_1, sw_nil, sw_cons, obs]
              rw [add_eq h5 (by omega)]
              simp only [obs, show (nI p + 1) = nI (p + 1) from nI_1 p]
            · rw [← z2]
              simp (disch := first | omega | decide) only [i10, i00, decide_true, decide_false, cnd_t, cnd_f, gd_nil, gd_t, b1_0, b1_1, sw_nil, sw_cons, obs, Nat.not_lt_zero, nI_addo, nI_oadd, nI_add, nI_mulo, nI_omul, nI_mul, nI_lto, nI_leo, nI_olt, nI_ole, nI_eqo, nI_oeq, nI_lt2, nI_le2, nI_eq2, nI_nm1, nI_m1n, nI_lt0, nI_lem1, nc_nI, nc_o, ix_nI, ix_o]
          · rw [m_sg0 hs hcp]
            obtain ⟨u', v', T, z1, z2, z3⟩ := next (p + 1) 1 (lN (c p)) 4 (lN (c p)) (by omega) (by omega) (Or.inl ⟨rfl, rfl⟩)
            refine ⟨u', v', T, ?_, ?_, z3⟩
            · rw [← z1]
              simp only [s3 hs, i10, i00, decide_true, decide_false, cnd_t, cnd_f, gd_nil, gd_t, b1_0, b1_1, sw_nil, sw_cons, obs]
              rw [add_eq h5 (by omega)]
              simp only [obs, show (nI p + 1) = nI (p + 1) from nI_1 p]
            · rw [← z2]
              simp (disch := first | omega | decide) only [i10, i00, decide_true, decide_false, cnd_t, cnd_f, gd_nil, gd_t, b1_0, b1_1, sw_nil, sw_cons, obs, Nat.not_lt_zero, nI_addo, nI_oadd, nI_add, nI_mulo, nI_omul, nI_mul, nI_lto, nI_leo, nI_olt, nI_ole, nI_eqo, nI_oeq, nI_lt2, nI_le2, nI_eq2, nI_nm1, nI_m1n, nI_lt0, nI_lem1, nc_nI, nc_o, ix_nI, ix_o]
end PU
