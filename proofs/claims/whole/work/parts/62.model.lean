/-! rows of the reference: what is read, fits, sums -/
section PU
variable {Z : dZ} {o o1 b : Nat} {s : Nat → Int32} {u v : ab_S}
theorem m_persons (hE : pE Z) (h : pm_O Z v) : fX10_persons v = some (nI Z.1, v) := by
  unfold fX10_persons
  simp (disch := first | omega | decide) only [i10, i00, decide_true, decide_false, cnd_t, cnd_f, gd_nil, gd_t, b1_0, b1_1, sw_nil, sw_cons, obs, Nat.not_lt_zero, nI_addo, nI_oadd, nI_add, nI_mulo, nI_omul, nI_mul, nI_lto, nI_leo, nI_olt, nI_ole, nI_eqo, nI_oeq, nI_lt2, nI_le2, nI_eq2, nI_nm1, nI_m1n, nI_lt0, nI_lem1, nc_nI, nc_o, ix_nI, ix_o]
  rw [h.1 0 (by decide), hE.2.2.1]
theorem m_goods (hE : pE Z) (h : pm_O Z v) : fX10_goods v = some (nI Z.2.1, v) := by
  unfold fX10_goods
  simp (disch := first | omega | decide) only [i10, i00, decide_true, decide_false, cnd_t, cnd_f, gd_nil, gd_t, b1_0, b1_1, sw_nil, sw_cons, obs, Nat.not_lt_zero, nI_addo, nI_oadd, nI_add, nI_mulo, nI_omul, nI_mul, nI_lto, nI_leo, nI_olt, nI_ole, nI_eqo, nI_oeq, nI_lt2, nI_le2, nI_eq2, nI_nm1, nI_m1n, nI_lt0, nI_lem1, nc_nI, nc_o, ix_nI, ix_o]
  rw [h.1 1 (by decide), hE.2.2.2.1]
theorem m_kind (hE : pE Z) (h : pm_O Z v) {p : Nat} (hp : p < Z.1) : fX10_personOf (nI p) 0 v = some (Z.2.2.1 6 (4 + 2 * p), v) := by
  have := hE.1
  unfold fX10_personOf
  simp (disch := first | omega | decide) only [i10, i00, decide_true, decide_false, cnd_t, cnd_f, gd_nil, gd_t, b1_0, b1_1, sw_nil, sw_cons, obs, Nat.not_lt_zero, nI_addo, nI_oadd, nI_add, nI_mulo, nI_omul, nI_mul, nI_lto, nI_leo, nI_olt, nI_ole, nI_eqo, nI_oeq, nI_lt2, nI_le2, nI_eq2, nI_nm1, nI_m1n, nI_lt0, nI_lem1, nc_nI, nc_o, ix_nI, ix_o, Nat.add_zero]
  rw [h.1 _ (by omega)]
theorem m_coin0 (hE : pE Z) (h : pm_O Z v) {p : Nat} (hp : p < Z.1) : fX10_personOf (nI p) 1 v = some (Z.2.2.1 6 (5 + 2 * p), v) := by
  have := hE.1
  unfold fX10_personOf
  simp (disch := first | omega | decide) only [i10, i00, decide_true, decide_false, cnd_t, cnd_f, gd_nil, gd_t, b1_0, b1_1, sw_nil, sw_cons, obs, Nat.not_lt_zero, nI_addo, nI_oadd, nI_add, nI_mulo, nI_omul, nI_mul, nI_lto, nI_leo, nI_olt, nI_ole, nI_eqo, nI_oeq, nI_lt2, nI_le2, nI_eq2, nI_nm1, nI_m1n, nI_lt0, nI_lem1, nc_nI, nc_o, ix_nI, ix_o]
  rw [h.1 _ (by omega), show 4 + 2 * p + 1 = 5 + 2 * p by omega]
theorem m_worth (hE : pE Z) (h : pm_O Z v) {k : Nat} (hk : k < Z.2.1) : fX10_goodOf (nI k) 0 v = some (Z.2.2.1 6 (16 + 2 * k), v) := by
  have := hE.2.1
  unfold fX10_goodOf
  simp (disch := first | omega | decide) only [i10, i00, decide_true, decide_false, cnd_t, cnd_f, gd_nil, gd_t, b1_0, b1_1, sw_nil, sw_cons, obs, Nat.not_lt_zero, nI_addo, nI_oadd, nI_add, nI_mulo, nI_omul, nI_mul, nI_lto, nI_leo, nI_olt, nI_ole, nI_eqo, nI_oeq, nI_lt2, nI_le2, nI_eq2, nI_nm1, nI_m1n, nI_lt0, nI_lem1, nc_nI, nc_o, ix_nI, ix_o, Nat.add_zero]
  rw [h.1 _ (by omega)]
theorem m_own (hE : pE Z) (h : pm_O Z v) {k : Nat} (hk : k < Z.2.1) : fX10_goodOf (nI k) 1 v = some (Z.2.2.1 6 (17 + 2 * k), v) := by
  have := hE.2.1
  unfold fX10_goodOf
  simp (disch := first | omega | decide) only [i10, i00, decide_true, decide_false, cnd_t, cnd_f, gd_nil, gd_t, b1_0, b1_1, sw_nil, sw_cons, obs, Nat.not_lt_zero, nI_addo, nI_oadd, nI_add, nI_mulo, nI_omul, nI_mul, nI_lto, nI_leo, nI_olt, nI_ole, nI_eqo, nI_oeq, nI_lt2, nI_le2, nI_eq2, nI_nm1, nI_m1n, nI_lt0, nI_lem1, nc_nI, nc_o, ix_nI, ix_o]
  rw [h.1 _ (by omega), show 16 + 2 * k + 1 = 17 + 2 * k by omega]
theorem m_isP1 (hE : pE Z) (h : pm_O Z v) {p : Nat} (hp : p < Z.1) : fX10_isPerson (nI p) v = some (1, v) := by
  have := hE.1
  unfold fX10_isPerson
  rw [m_persons hE h]
  simp (disch := first | omega | decide) only [i10, i00, decide_true, decide_false, cnd_t, cnd_f, gd_nil, gd_t, b1_0, b1_1, sw_nil, sw_cons, obs, Nat.not_lt_zero, nI_addo, nI_oadd, nI_add, nI_mulo, nI_omul, nI_mul, nI_lto, nI_leo, nI_olt, nI_ole, nI_eqo, nI_oeq, nI_lt2, nI_le2, nI_eq2, nI_nm1, nI_m1n, nI_lt0, nI_lem1, nc_nI, nc_o, ix_nI, ix_o, hp]
theorem m_isP0 (hE : pE Z) (h : pm_O Z v) {x : Int32} (hx : x < 0 ∨ (¬ x < 0 ∧ ¬ x < nI Z.1)) : fX10_isPerson x v = some (0, v) := by
  unfold fX10_isPerson
  rw [m_persons hE h]
  rcases hx with hx | ⟨h1, h2⟩
  · simp only [i10, i00, decide_true, decide_false, cnd_t, cnd_f, gd_nil, gd_t, b1_0, b1_1, sw_nil, sw_cons, obs, hx]
  · simp only [i10, i00, decide_true, decide_false, cnd_t, cnd_f, gd_nil, gd_t, b1_0, b1_1, sw_nil, sw_cons, obs, h1, h2]
theorem m_isG1 (hE : pE Z) (h : pm_O Z v) {p : Nat} (hp : p < Z.2.1) : fX10_isGood (nI p) v = some (1, v) := by
  have := hE.2.1
  unfold fX10_isGood
  rw [m_goods hE h]
  simp (disch := first | omega | decide) only [i10, i00, decide_true, decide_false, cnd_t, cnd_f, gd_nil, gd_t, b1_0, b1_1, sw_nil, sw_cons, obs, Nat.not_lt_zero, nI_addo, nI_oadd, nI_add, nI_mulo, nI_omul, nI_mul, nI_lto, nI_leo, nI_olt, nI_ole, nI_eqo, nI_oeq, nI_lt2, nI_le2, nI_eq2, nI_nm1, nI_m1n, nI_lt0, nI_lem1, nc_nI, nc_o, ix_nI, ix_o, hp]
theorem m_isG0 (hE : pE Z) (h : pm_O Z v) {x : Int32} (hx : x < 0 ∨ (¬ x < 0 ∧ ¬ x < nI Z.2.1)) : fX10_isGood x v = some (0, v) := by
  unfold fX10_isGood
  rw [m_goods hE h]
  rcases hx with hx | ⟨h1, h2⟩
  · simp only [i10, i00, decide_true, decide_false, cnd_t, cnd_f, gd_nil, gd_t, b1_0, b1_1, sw_nil, sw_cons, obs, hx]
  · simp only [i10, i00, decide_true, decide_false, cnd_t, cnd_f, gd_nil, gd_t, b1_0, b1_1, sw_nil, sw_cons, obs, h1, h2]
theorem pm_S.at (h : pm_S b s v) {k : Nat} (hk : k < 22) {i : Nat} (hi : i = b + k) : v.1 16 i = s k := by rw [hi]; exact h k hk
theorem m_held5 (hE : pE Z) (h : pm_O Z v) (hS0 : pm_S b s v) (hb : b ≤ 1050) (x : Int32) : ∀ (d k n : Nat), k + d = Z.2.1 → d < n → fX10_heldBy_5 n (nI b) x (nI (bS (fun k => decide (s (2 + k) = x)) k)) (nI k) v = some (nI (hS Z s x), v) := by
  have hg := hE.2.1
  intro d
  induction d with
  | zero =>
    intro k n hk hn
    obtain ⟨n, rfl⟩ : ∃ m, n = m + 1 := ⟨n - 1, by omega⟩
    have e : k = Z.2.1 := by omega
    subst e
    rw [fX10_heldBy_5, m_goods hE h]
    simp (disch := first | omega | decide) only [i10, i00, decide_true, decide_false, cnd_t, cnd_f, gd_nil, gd_t, b1_0, b1_1, sw_nil, sw_cons, obs, Nat.not_lt_zero, nI_addo, nI_oadd, nI_add, nI_mulo, nI_omul, nI_mul, nI_lto, nI_leo, nI_olt, nI_ole, nI_eqo, nI_oeq, nI_lt2, nI_le2, nI_eq2, nI_nm1, nI_m1n, nI_lt0, nI_lem1, nc_nI, nc_o, ix_nI, ix_o, Nat.lt_irrefl]
    rfl
  | succ d ih =>
    intro k n hk hn
    obtain ⟨n, rfl⟩ : ∃ m, n = m + 1 := ⟨n - 1, by omega⟩
    have hk8 : k < Z.2.1 := by omega
    have ih := ih (k + 1) n (by omega) (by omega)
    rw [fX10_heldBy_5, m_goods hE h]
    simp (disch := first | omega | decide) only [i10, i00, decide_true, decide_false, cnd_t, cnd_f, gd_nil, gd_t, b1_0, b1_1, sw_nil, sw_cons, obs, Nat.not_lt_zero, nI_addo, nI_oadd, nI_add, nI_mulo, nI_omul, nI_mul, nI_lto, nI_leo, nI_olt, nI_ole, nI_eqo, nI_oeq, nI_lt2, nI_le2, nI_eq2, nI_nm1, nI_m1n, nI_lt0, nI_lem1, nc_nI, nc_o, ix_nI, ix_o, hk8, Int32.or_zero, zb_or (bS_256 (show k ≤ 8 by omega)) (show k < 8 by omega), hS0.at (k := 2 + k) (by omega) (show b + 2 + k = b + (2 + k) by omega)]
    rw [bS] at ih
    by_cases e : s (2 + k) = x
    · simp only [e, i10, i00, decide_true, decide_false, cnd_t, cnd_f, gd_nil, gd_t, b1_0, b1_1, sw_nil, sw_cons, obs, if_true] at ih ⊢
      exact ih
    · simp only [e, i10, i00, decide_true, decide_false, cnd_t, cnd_f, gd_nil, gd_t, b1_0, b1_1, sw_nil, sw_cons, obs, Bool.false_eq_true, if_false] at ih ⊢
      exact ih
theorem m_held (hE : pE Z) (h : pm_O Z v) (hS0 : pm_S b s v) (hb : b ≤ 1050) (x : Int32) : fX10_heldBy (nI b) x v = some (nI (hS Z s x), v) := m_held5 hE h hS0 hb x Z.2.1 0 fu (Nat.zero_add _) (by have := hE.2.1; simp only [fu]; omega)
-- ===== fits =====
def fitS (Z : dZ) (s : Nat → Int32) (p k : Nat) : Nat := Z.2.2.2 p k (pc (hS Z s (nI p) &&& (255 ^^^ 2 ^ k)))
theorem pc_clr0 : (List.range 9).all (fun n => (List.range (2 ^ n)).all fun m => (List.range n).all fun k => decide (pc (m &&& (255 ^^^ 2 ^ k)) < n)) = true := by decide +kernel
theorem pc_clr {n m k : Nat} (hn : n ≤ 8) (hm : m < 2 ^ n) (hk : k < n) : pc (m &&& (255 ^^^ 2 ^ k)) < n :=
  of_decide_eq_true (List.all_eq_true.mp (List.all_eq_true.mp (List.all_eq_true.mp pc_clr0 n (List.mem_range.mpr (by omega))) m (List.mem_range.mpr hm)) k (List.mem_range.mpr hk))
theorem pc_pos0 : (List.range 9).all (fun n => (List.range (2 ^ n)).all fun m => decide (pc m ≤ n) && (List.range n).all fun k => !m.testBit k || decide (0 < pc m)) = true := by decide +kernel
theorem pc_bound {n m : Nat} (hn : n ≤ 8) (hm : m < 2 ^ n) : pc m ≤ n := by
  have h := List.all_eq_true.mp (List.all_eq_true.mp pc_pos0 n (List.mem_range.mpr (by omega))) m (List.mem_range.mpr hm)
  rw [Bool.and_eq_true] at h
  exact of_decide_eq_true h.1
theorem pc_pos {n m k : Nat} (hn : n ≤ 8) (hm : m < 2 ^ n) (hk : k < n) (hb : m.testBit k = true) : 0 < pc m := by
  have h := List.all_eq_true.mp (List.all_eq_true.mp pc_pos0 n (List.mem_range.mpr (by omega))) m (List.mem_range.mpr hm)
  rw [Bool.and_eq_true] at h
  have h := List.all_eq_true.mp h.2 k (List.mem_range.mpr hk)
  rw [hb] at h
  simpa using h
theorem xor255 {k : Nat} (hk : k < 8) : 255 ^^^ 2 ^ k < 256 := Nat.xor_lt_two_pow (n := 8) (by decide) (Nat.pow_lt_pow_right (by decide) hk)
theorem and256 {a c : Nat} (h : a < 256) : a &&& c < 256 := Nat.lt_of_le_of_lt Nat.and_le_left h
theorem fitS_le (hE : pE Z) (p k : Nat) : fitS Z s p k ≤ 99 := hE.2.2.2.2.2.2.2.1 _ _ _
theorem c_fitOf (hE : pE Z) (hO : pc_O Z o1 u) (hv : pv_S Z s) (h : pc_S o s u) {p k : Nat} (hp : p < Z.1) (hk : k < Z.2.1) : fX5_fitOf o o1 (nI p) (nI k) u = some (nI (fitS Z s p k), u) := by
  have hg := hE.2.1
  unfold fX5_fitOf
  rw [c_bits hE hv h hp]
  simp only [obs]
  rw [zb_clr (hS_lt hE _) (by omega), pc_c (and256 (hS_lt hE _))]
  simp only [obs]
  rw [c_fitBy hE hO hp hk (pc_clr hg (hS_lt2 _) hk)]
  rfl
theorem m_fitBy (hE : pE Z) (h : pm_O Z v) {p k j : Nat} (hp : p < Z.1) (hk : k < Z.2.1) (hj : j < Z.2.1) {Q : Int32 → ab_S → Prop} (q : ∀ v', Sc v v' → Q (nI (Z.2.2.2 p k j)) v') : Wp (fX10_fitBy (nI p) (nI k) (nI j) v) Q :=
  (hE.2.2.2.2.2.2.2.2 v h p k j hp hk hj).mono fun r w hr => by rw [hr.1]; exact q w hr.2
theorem m_fitOf (hE : pE Z) (h : pm_O Z v) (hS0 : pm_S b s v) (hb : b ≤ 1050) {p k : Nat} (hp : p < Z.1) (hk : k < Z.2.1) {Q : Int32 → ab_S → Prop} (q : ∀ v', Sc v v' → Q (nI (fitS Z s p k)) v') : Wp (fX10_fitOf (nI b) (nI p) (nI k) v) Q := by
  have hg := hE.2.1
  unfold fX10_fitOf
  rw [m_held hE h hS0 hb]
  simp only [obs]
  rw [zb_clr (hS_lt hE _) (by omega), pc_m (and256 (hS_lt hE _))]
  simp only [obs, wp_bind, wp_ret]
  exact m_fitBy hE h hp hk (pc_clr hg (hS_lt2 _) hk) q
-- ===== how all that one holds fits another =====
def sumN (f : Nat → Nat) : Nat → Nat
  | 0 => 0
  | n + 1 => sumN f n + f n
theorem sumN_le {f : Nat → Nat} {c : Nat} (h : ∀ k, f k ≤ c) : ∀ n, sumN f n ≤ n * c
  | 0 => by simp [sumN]
  | n + 1 => by
    have := sumN_le h n
    have := h n
    rw [sumN, Nat.succ_mul]
    omega
theorem sumN_congr {f g : Nat → Nat} : ∀ {n : Nat}, (∀ k, k < n → f k = g k) → sumN f n = sumN g n
  | 0, _ => rfl
  | n + 1, h => by rw [sumN, sumN, h n (Nat.lt_succ_self n), sumN_congr (n := n) fun k hk => h k (Nat.lt_succ_of_lt hk)]
def allT (Z : dZ) (m p c : Nat) (k : Nat) : Nat := if m.testBit k then Z.2.2.2 p k c else 0
theorem allT_le (hE : pE Z) (m p c k : Nat) : allT Z m p c k ≤ 99 := by
  unfold allT
  split
  · exact hE.2.2.2.2.2.2.2.1 _ _ _
  · omega
def allS (Z : dZ) (s : Nat → Int32) (p h : Nat) : Nat := sumN (allT Z (hS Z s (nI h)) p (pc (hS Z s (nI h)) - 1)) Z.2.1
theorem allS_le (hE : pE Z) (p h : Nat) : allS Z s p h ≤ 800 := by
  have h1 := sumN_le (allT_le hE (hS Z s (nI h)) p (pc (hS Z s (nI h)) - 1)) Z.2.1
  have h2 := hE.2.1
  have h3 : Z.2.1 * 99 ≤ 8 * 99 := Nat.mul_le_mul_right 99 h2
  unfold allS
  omega
theorem nI_pc1 {m : Nat} (h : 0 < pc m) : nI (pc m) - 1 = nI (pc m - 1) := nI_sub (b := 1) h
theorem c_all22 (hE : pE Z) (hO : pc_O Z o1 u) {p m : Nat} (hp : p < Z.1) (hm : m < 2 ^ Z.2.1) : ∀ (d k n a : Nat), k + d = Z.2.1 → d < n → a = sumN (allT Z m p (pc m - 1)) k → fX5_fitOfAll_22 o o1 n (nI p) (nI m) (nI (pc m) - 1) (nI a) (nI k) u = some (nI (sumN (allT Z m p (pc m - 1)) Z.2.1), u) := by
  have hg := hE.2.1
  have hm2 : m < 256 := Nat.lt_of_lt_of_le hm (show 2 ^ Z.2.1 ≤ 2 ^ 8 from Nat.pow_le_pow_right (by decide) hg)
  intro d
  induction d with
  | zero =>
    intro k n a hk hn ha
    obtain ⟨n, rfl⟩ : ∃ m, n = m + 1 := ⟨n - 1, by omega⟩
    have e : k = Z.2.1 := by omega
    subst e
    rw [fX5_fitOfAll_22, hO.2.1]
    simp (disch := first | omega | decide) only [i10, i00, decide_true, decide_false, cnd_t, cnd_f, gd_nil, gd_t, b1_0, b1_1, sw_nil, sw_cons, obs, Nat.not_lt_zero, nI_addo, nI_oadd, nI_add, nI_mulo, nI_omul, nI_mul, nI_lto, nI_leo, nI_olt, nI_ole, nI_eqo, nI_oeq, nI_lt2, nI_le2, nI_eq2, nI_nm1, nI_m1n, nI_lt0, nI_lem1, nc_nI, nc_o, ix_nI, ix_o, Nat.lt_irrefl, ha]
  | succ d ih =>
    intro k n a hk hn ha
    obtain ⟨n, rfl⟩ : ∃ m, n = m + 1 := ⟨n - 1, by omega⟩
    have hk8 : k < Z.2.1 := by omega
    rw [fX5_fitOfAll_22, hO.2.1]
    simp (disch := first | omega | decide) only [i10, i00, decide_true, decide_false, cnd_t, cnd_f, gd_nil, gd_t, b1_0, b1_1, sw_nil, sw_cons, obs, Nat.not_lt_zero, nI_addo, nI_oadd, nI_add, nI_mulo, nI_omul, nI_mul, nI_lto, nI_leo, nI_olt, nI_ole, nI_eqo, nI_oeq, nI_lt2, nI_le2, nI_eq2, nI_nm1, nI_m1n, nI_lt0, nI_lem1, nc_nI, nc_o, ix_nI, ix_o, hk8, zb_b1 hm2 (show k < 8 by omega)]
    by_cases e : m.testBit k = true
    · have hp0 := pc_pos hg hm hk8 e
      have hp1 := pc_bound hg hm
      simp only [e, i10, i00, decide_true, decide_false, cnd_t, cnd_f, gd_nil, gd_t, b1_0, b1_1, sw_nil, sw_cons, obs]
      rw [nI_pc1 hp0, c_fitBy hE hO hp hk8 (by omega), ← nI_pc1 hp0]
      simp only [obs, nI_add]
      refine ih (k + 1) n _ (by omega) (by omega) ?_
      rw [sumN, ← ha, allT, if_pos e]
    · simp only [e, i10, i00, decide_true, decide_false, cnd_t, cnd_f, gd_nil, gd_t, b1_0, b1_1, sw_nil, sw_cons, obs]
      refine ih (k + 1) n _ (by omega) (by omega) ?_
      rw [sumN, ← ha, allT, if_neg e, Nat.add_zero]
theorem c_all (hE : pE Z) (hO : pc_O Z o1 u) (hv : pv_S Z s) (h : pc_S o s u) {p q : Nat} (hp : p < Z.1) (hq : q < Z.1) : fX5_fitOfAll o o1 (nI p) (nI q) u = some (nI (allS Z s p q), u) := by
  have hg := hE.2.1
  unfold fX5_fitOfAll
  rw [c_bits hE hv h hq]
  simp only [obs]
  rw [pc_c (hS_lt hE _)]
  simp only [obs]
  exact c_all22 hE hO hp (hS_lt2 _) Z.2.1 0 fu 0 (Nat.zero_add _) (by simp only [fu]; omega) rfl
theorem m_all6 (hE : pE Z) {p m : Nat} (hp : p < Z.1) (hm : m < 2 ^ Z.2.1) {Q : Int32 → ab_S → Prop} : ∀ (d k n a : Nat) (v : ab_S), pm_O Z v → k + d = Z.2.1 → d < n → a = sumN (allT Z m p (pc m - 1)) k → (∀ v', Sc v v' → Q (nI (sumN (allT Z m p (pc m - 1)) Z.2.1)) v') → Wp (fX10_fitOfAll_6 n (nI p) (nI m) (nI (pc m) - 1) (nI a) (nI k) v) Q := by
  have hg := hE.2.1
  have hm2 : m < 256 := Nat.lt_of_lt_of_le hm (show 2 ^ Z.2.1 ≤ 2 ^ 8 from Nat.pow_le_pow_right (by decide) hg)
  intro d
  induction d with
  | zero =>
    intro k n a v h hk hn ha q
    obtain ⟨n, rfl⟩ : ∃ m, n = m + 1 := ⟨n - 1, by omega⟩
    have e : k = Z.2.1 := by omega
    subst e
    rw [fX10_fitOfAll_6, m_goods hE h]
    simp (disch := first | omega | decide) only [i10, i00, decide_true, decide_false, cnd_t, cnd_f, gd_nil, gd_t, b1_0, b1_1, sw_nil, sw_cons, obs, Nat.not_lt_zero, nI_addo, nI_oadd, nI_add, nI_mulo, nI_omul, nI_mul, nI_lto, nI_leo, nI_olt, nI_ole, nI_eqo, nI_oeq, nI_lt2, nI_le2, nI_eq2, nI_nm1, nI_m1n, nI_lt0, nI_lem1, nc_nI, nc_o, ix_nI, ix_o, Nat.lt_irrefl, ha, wp_ret]
    exact q v Fr.rfl'
  | succ d ih =>
    intro k n a v h hk hn ha q
    obtain ⟨n, rfl⟩ : ∃ m, n = m + 1 := ⟨n - 1, by omega⟩
    have hk8 : k < Z.2.1 := by omega
    rw [fX10_fitOfAll_6, m_goods hE h]
    simp (disch := first | omega | decide) only [i10, i00, decide_true, decide_false, cnd_t, cnd_f, gd_nil, gd_t, b1_0, b1_1, sw_nil, sw_cons, obs, Nat.not_lt_zero, nI_addo, nI_oadd, nI_add, nI_mulo, nI_omul, nI_mul, nI_lto, nI_leo, nI_olt, nI_ole, nI_eqo, nI_oeq, nI_lt2, nI_le2, nI_eq2, nI_nm1, nI_m1n, nI_lt0, nI_lem1, nc_nI, nc_o, ix_nI, ix_o, hk8, zb_b1 hm2 (show k < 8 by omega)]
    by_cases e : m.testBit k = true
    · have hp0 := pc_pos hg hm hk8 e
      have hp1 := pc_bound hg hm
      simp only [e, i10, i00, decide_true, decide_false, cnd_t, cnd_f, gd_nil, gd_t, b1_0, b1_1, sw_nil, sw_cons, obs, wp_bind]
      rw [nI_pc1 hp0]
      refine m_fitBy hE h hp hk8 (by omega) fun v' hs => ?_
      rw [← nI_pc1 hp0, nI_add]
      refine ih (k + 1) n _ v' (h.sc hs) (by omega) (by omega) ?_ fun v'' hs2 => q v'' (hs.trans hs2)
      rw [sumN, ← ha, allT, if_pos e]
    · simp only [e, i10, i00, decide_true, decide_false, cnd_t, cnd_f, gd_nil, gd_t, b1_0, b1_1, sw_nil, sw_cons, obs, Int32.add_zero]
      refine ih (k + 1) n _ v h (by omega) (by omega) ?_ q
      rw [sumN, ← ha, allT, if_neg e, Nat.add_zero]
theorem m_all (hE : pE Z) (h : pm_O Z v) {p m : Nat} (hp : p < Z.1) (hm : m < 2 ^ Z.2.1) {Q : Int32 → ab_S → Prop} (q : ∀ v', Sc v v' → Q (nI (sumN (allT Z m p (pc m - 1)) Z.2.1)) v') : Wp (fX10_fitOfAll (nI p) (nI m) (nI (pc m) - 1) v) Q :=
  m_all6 hE hp hm Z.2.1 0 fu 0 v h (Nat.zero_add _) (by have := hE.2.1; simp only [fu]; omega) rfl q
theorem m_joy (hE : pE Z) (h : pm_O Z v) (hS0 : pm_S b s v) (hb : b ≤ 1050) {p : Nat} (hp : p < Z.1) {Q : Int32 → ab_S → Prop} (q : ∀ v', Sc v v' → Q (nI (allS Z s p p)) v') : Wp (fX10_joyOf (nI b) (nI p) v) Q := by
  unfold fX10_joyOf
  rw [m_held hE h hS0 hb]
  simp only [obs]
  rw [pc_m (hS_lt hE _)]
  simp only [obs, wp_bind, wp_ret]
  exact m_all hE h hp (hS_lt2 _) q
theorem c_joy (hE : pE Z) (hO : pc_O Z o1 u) (hv : pv_S Z s) (h : pc_S o s u) {p : Nat} (hp : p < Z.1) : fX5_joyOf o o1 (nI p) u = some (nI (allS Z s p p), u) := by
  unfold fX5_joyOf
  rw [c_all hE hO hv h hp hp]
  rfl
end PU
