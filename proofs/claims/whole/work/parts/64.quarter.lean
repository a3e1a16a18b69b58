/-! draws, the raffle, a quarter: class and reference in step -/
theorem lN_toI {a : Nat} (h : a < 9223372036854775808) : (lN a).toInt = (a : Int) := lg_ofNat_toInt h
theorem lN_div {a d : Nat} (ha : a < 9223372036854775808) (hd : d < 9223372036854775808) : lN a / lN d = lN (a / d) := by
  have h1 : a / d ≤ a := Nat.div_le_self a d
  apply Int64.toInt_inj.mp
  have e : (a : Int) / (d : Int) = ((a / d : Nat) : Int) := (Int.natCast_ediv a d).symm
  rw [Int64.toInt_div, lN_toI ha, lN_toI hd, Int.tdiv_eq_ediv_of_nonneg (by omega), e]
  generalize a / d = q at h1 ⊢
  rw [lN_toI (by omega), Int.bmod_eq_of_le (by omega) (by omega)]
theorem lN_mod {a d : Nat} (ha : a < 9223372036854775808) (hd : d < 9223372036854775808) : lN a - lN a / lN d * lN d = lN (a % d) := by
  have h1 : a / d * d ≤ a := Nat.div_mul_le_self a d
  have h2 := Nat.div_add_mod a d
  have h3 : d * (a / d) = a / d * d := Nat.mul_comm _ _
  rw [lN_div ha hd, lN_mul, lN_sub h1]
  congr 1
  omega
theorem lN_o (a : Nat) : (no_index (OfNat.ofNat a) : Int64) = lN a := rfl
theorem lN_eq0 {m : Nat} (h : m < 2147483648) : lN m = 0 ↔ m = 0 := lN_eq (b := 0) h (by decide)
theorem g_2p31 : decide (¬ (2147483648 : Nat) = 0) = true := by decide +kernel
theorem g_65536 : decide (¬ (65536 : Nat) = 0) = true := by decide +kernel
def dG (g : Nat) : Nat := (g * 1103515245 + 12345) % 2147483648
theorem dG_lt (g : Nat) : dG g < 2147483648 := Nat.mod_lt _ (by decide)
theorem dG_l {g : Nat} (hg : g < 2147483648) : ((lN g * 1103515245) + 12345) - ((lN g * 1103515245) + 12345) / 2147483648 * 2147483648 = lN (dG g) := by
  have e : (lN g * 1103515245) + 12345 = lN (g * 1103515245 + 12345) := by
    show lN g * lN 1103515245 + lN 12345 = _
    rw [lN_mul, lN_add]
  rw [e]
  exact lN_mod (d := 2147483648) (by omega) (by decide)
theorem dV_l {g m : Nat} (hg : g < 2147483648) (hm : m < 2147483648) : Int64.toInt32 ((lN g / 65536) - (lN g / 65536) / (lN m) * (lN m)) = nI (g / 65536 % m) := by
  have e : lN g / 65536 = lN (g / 65536) := lN_div (d := 65536) (by omega) (by decide)
  have h1 : g / 65536 ≤ g := Nat.div_le_self _ _
  rw [e, lN_mod (by omega) (by omega), lN_i]
section PU
variable {Z : dZ} {o o1 b : Nat} {s : Nat → Int32} {u v : ab_S}
theorem c_draw (h : pc_S o s u) {g m : Nat} (hg : g < 2147483648) (e1 : s 1 = nI g) (hm : 0 < m) (hm2 : m < 2147483648) : ∃ u', fX5_draw o (nI m) u = some (nI (dG g / 65536 % m), u') ∧ Fc o u u' ∧ pc_S o (su s 1 (nI (dG g))) u' := by
  have e2 : u.2.1 o 3 = lN g := by rw [h.2.1, e1, nI_l hg]
  have h0 : ¬ m ≤ 0 := by omega
  have h1 : ¬ m = 0 := by omega
  refine ⟨sJ u o 3 (lN (dG g)), ?_, Fr.sJ ⟨by omega, by omega⟩, h.drawn (nI_l (dG_lt g)).symm⟩
  unfold fX5_draw
  simp only [e2, dG_l hg, g_2p31, g_65536, sJ_at, and_self, if_true, nI_l hm2, lN_eq0 hm2, h1, not_false_eq_true, i10, i00, decide_true, decide_false, cnd_t, cnd_f, gd_nil, gd_t, b1_0, b1_1, sw_nil, sw_cons, obs]
  simp (disch := first | omega | decide) only [nI_leo, h0, i10, i00, decide_true, decide_false, cnd_t, cnd_f, gd_nil, gd_t, b1_0, b1_1, sw_nil, sw_cons, obs, dV_l (dG_lt g) hm2]
theorem m_draw (h : pm_S b s v) (hb : b ≤ 1050) {g m : Nat} (hg : g < 2147483648) (e1 : s 1 = nI g) (hm : 0 < m) (hm2 : m < 2147483648) : ∃ v', fX10_draw (nI b) (nI m) v = some (nI (dG g / 65536 % m), v') ∧ Fm b v v' ∧ pm_S b (su s 1 (nI (dG g))) v' := by
  have h1 : ¬ m = 0 := by omega
  have e2 : (v.1 16 (b + 1)).toInt64 = lN g := by rw [h 1 (by decide), e1, nI_l hg]
  refine ⟨sI v 16 (b + 1) (nI (dG g)), ?_, Fr.sI (Or.inr (Or.inr ⟨rfl, by omega, by omega⟩)), h.put rfl⟩
  unfold fX10_draw
  simp (disch := first | omega | decide) only [nI_addo, nc_nI, ix_nI, e2, dG_l hg, g_2p31, g_65536, nI_l hm2, lN_eq0 hm2, h1, not_false_eq_true, i10, i00, decide_true, decide_false, cnd_t, cnd_f, gd_nil, gd_t, b1_0, b1_1, sw_nil, sw_cons, obs, dV_l (dG_lt g) hm2, lN_i]
-- ===== sums =====
theorem c_sum10 {a : Nat} {T : Nat → Nat} (hT : ∀ p, p < 6 → u.1 a p = nI (T p)) : ∀ (d k n : Nat), k + d = 6 → d < n → fX9_sum_10 6 a n (nI (sumN T k)) (nI 6) (nI k) u = some (nI (sumN T 6), u) := by
  intro d
  induction d with
  | zero =>
    intro k n hk hn
    obtain ⟨n, rfl⟩ : ∃ m, n = m + 1 := ⟨n - 1, by omega⟩
    have e : k = 6 := by omega
    subst e
    rw [fX9_sum_10]
    simp (disch := first | omega | decide) only [i10, i00, decide_true, decide_false, cnd_t, cnd_f, gd_nil, gd_t, b1_0, b1_1, sw_nil, sw_cons, obs, Nat.not_lt_zero, nI_addo, nI_oadd, nI_add, nI_mulo, nI_omul, nI_mul, nI_lto, nI_leo, nI_olt, nI_ole, nI_eqo, nI_oeq, nI_lt2, nI_le2, nI_eq2, nI_nm1, nI_m1n, nI_lt0, nI_lem1, nc_nI, nc_o, ix_nI, ix_o, Nat.lt_irrefl]
  | succ d ih =>
    intro k n hk hn
    obtain ⟨n, rfl⟩ : ∃ m, n = m + 1 := ⟨n - 1, by omega⟩
    have hk8 : k < 6 := by omega
    rw [fX9_sum_10]
    simp (disch := first | omega | decide) only [i10, i00, decide_true, decide_false, cnd_t, cnd_f, gd_nil, gd_t, b1_0, b1_1, sw_nil, sw_cons, obs, Nat.not_lt_zero, nI_addo, nI_oadd, nI_add, nI_mulo, nI_omul, nI_mul, nI_lto, nI_leo, nI_olt, nI_ole, nI_eqo, nI_oeq, nI_lt2, nI_le2, nI_eq2, nI_nm1, nI_m1n, nI_lt0, nI_lem1, nc_nI, nc_o, ix_nI, ix_o, hk8, hT k hk8]
    exact ih (k + 1) n (by omega) (by omega)
theorem c_sum {a : Nat} {T : Nat → Nat} (hT : ∀ p, p < 6 → u.1 a p = nI (T p)) : fX9_sum 6 a u = some (nI (sumN T 6), u) := c_sum10 hT 6 0 fu rfl (by decide)
theorem m_sum4 (hE : pE Z) (h : pm_O Z v) {a : Nat} (ha : a ≤ 1070) {T : Nat → Nat} (hT : ∀ p, p < Z.1 → v.1 16 (a + p) = nI (T p)) : ∀ (d k n : Nat), k + d = Z.1 → d < n → fX10_sumOf_4 n (nI a) (nI (sumN T k)) (nI k) v = some (nI (sumN T Z.1), v) := by
  have hp6 := hE.1
  intro d
  induction d with
  | zero =>
    intro k n hk hn
    obtain ⟨n, rfl⟩ : ∃ m, n = m + 1 := ⟨n - 1, by omega⟩
    have e : k = Z.1 := by omega
    subst e
    rw [fX10_sumOf_4, m_persons hE h]
    simp (disch := first | omega | decide) only [i10, i00, decide_true, decide_false, cnd_t, cnd_f, gd_nil, gd_t, b1_0, b1_1, sw_nil, sw_cons, obs, Nat.not_lt_zero, nI_addo, nI_oadd, nI_add, nI_mulo, nI_omul, nI_mul, nI_lto, nI_leo, nI_olt, nI_ole, nI_eqo, nI_oeq, nI_lt2, nI_le2, nI_eq2, nI_nm1, nI_m1n, nI_lt0, nI_lem1, nc_nI, nc_o, ix_nI, ix_o, Nat.lt_irrefl]
  | succ d ih =>
    intro k n hk hn
    obtain ⟨n, rfl⟩ : ∃ m, n = m + 1 := ⟨n - 1, by omega⟩
    have hk8 : k < Z.1 := by omega
    rw [fX10_sumOf_4, m_persons hE h]
    simp (disch := first | omega | decide) only [i10, i00, decide_true, decide_false, cnd_t, cnd_f, gd_nil, gd_t, b1_0, b1_1, sw_nil, sw_cons, obs, Nat.not_lt_zero, nI_addo, nI_oadd, nI_add, nI_mulo, nI_omul, nI_mul, nI_lto, nI_leo, nI_olt, nI_ole, nI_eqo, nI_oeq, nI_lt2, nI_le2, nI_eq2, nI_nm1, nI_m1n, nI_lt0, nI_lem1, nc_nI, nc_o, ix_nI, ix_o, hk8, hT k hk8]
    exact ih (k + 1) n (by omega) (by omega)
theorem m_sum (hE : pE Z) (h : pm_O Z v) {a : Nat} (ha : a ≤ 1070) {T : Nat → Nat} (hT : ∀ p, p < Z.1 → v.1 16 (a + p) = nI (T p)) : fX10_sumOf (nI a) v = some (nI (sumN T Z.1), v) := m_sum4 hE h ha hT Z.1 0 fu (Nat.zero_add _) (by have := hE.1; simp only [fu]; omega)
theorem sumN_more {T : Nat → Nat} {n : Nat} : ∀ {m : Nat}, n ≤ m → (∀ k, n ≤ k → k < m → T k = 0) → sumN T m = sumN T n
  | 0, h, _ => by rw [Nat.le_zero.mp h]
  | m + 1, h, hz => by
    by_cases e : n = m + 1
    · rw [e]
    · rw [sumN, hz m (by omega) (Nat.lt_succ_self m), Nat.add_zero]
      exact sumN_more (by omega) fun k a c => hz k a (Nat.lt_succ_of_lt c)
theorem nc_of {x : Int32} {t : Nat} (h : x = nI t) (ht : t < 2147483648) : x = nI (nc x) := by rw [h, nc_nI ht]
theorem nc_0 : nc 0 = 0 := by decide +kernel
def tkS (s : Nat → Int32) (p : Nat) : Nat := nc (s (16 + p))
def cnS (s : Nat → Int32) (p : Nat) : Nat := nc (s (10 + p))
theorem tk_eq (hv : pv_S Z s) {p : Nat} (hp : p < 6) : s (16 + p) = nI (tkS s p) ∧ tkS s p ≤ 9 := by
  obtain ⟨t, h1, h2⟩ := hv.2.2.2.1 p hp
  unfold tkS
  rw [h2, nc_nI (by omega)]
  exact ⟨rfl, h1⟩
theorem cn_eq (hv : pv_S Z s) {p : Nat} (hp : p < 6) : s (10 + p) = nI (cnS s p) ∧ cnS s p ≤ 50 := by
  obtain ⟨t, h1, h2⟩ := hv.2.2.1 p hp
  unfold cnS
  rw [h2, nc_nI (by omega)]
  exact ⟨rfl, h1⟩
theorem tk_6 (hE : pE Z) (hv : pv_S Z s) : sumN (tkS s) 6 = sumN (tkS s) Z.1 := sumN_more hE.1 fun k a c => by
  unfold tkS
  rw [(hv.2.2.2.2.1 k c a).2, nc_0]
theorem cn_6 (hE : pE Z) (hv : pv_S Z s) : sumN (cnS s) 6 = sumN (cnS s) Z.1 := sumN_more hE.1 fun k a c => by
  unfold cnS
  rw [(hv.2.2.2.2.1 k c a).1, nc_0]
theorem tk_le (hE : pE Z) (hv : pv_S Z s) : sumN (tkS s) Z.1 ≤ 54 := by
  have hp6 := hE.1
  have h : ∀ n, n ≤ 6 → sumN (tkS s) n ≤ n * 9 := by
    intro n
    induction n with
    | zero => intro _; simp [sumN]
    | succ n ih =>
      intro hn
      have := ih (by omega)
      have := (tk_eq hv (p := n) (by omega)).2
      rw [sumN]
      omega
  have := h Z.1 hp6
  omega
theorem c_allT (hE : pE Z) (hv : pv_S Z s) (h : pc_S o s u) : fX5_allTickets o u = some (nI (sumN (tkS s) Z.1), u) := by
  unfold fX5_allTickets
  rw [c_sum (T := tkS s) (fun p hp => by rw [h.2.2.2.2 p hp]; exact (tk_eq hv hp).1), tk_6 hE hv]
  rfl
theorem c_allC (hE : pE Z) (hv : pv_S Z s) (h : pc_S o s u) : fX5_allShillings o u = some (nI (sumN (cnS s) Z.1), u) := by
  unfold fX5_allShillings
  rw [c_sum (T := cnS s) (fun p hp => by rw [h.2.2.2.1 p hp]; exact (cn_eq hv hp).1), cn_6 hE hv]
  rfl
theorem m_allT (hE : pE Z) (h : pm_O Z v) (hv : pv_S Z s) (hS0 : pm_S b s v) (hb : b ≤ 1050) : fX10_sumOf (nI (b + 16)) v = some (nI (sumN (tkS s) Z.1), v) :=
  m_sum hE h (by omega) fun p hp => by have := hE.1; rw [hS0.at (k := 16 + p) (by omega) (by omega)]; exact (tk_eq hv (by omega)).1
theorem m_allC (hE : pE Z) (h : pm_O Z v) (hv : pv_S Z s) (hS0 : pm_S b s v) (hb : b ≤ 1050) : fX10_sumOf (nI (b + 10)) v = some (nI (sumN (cnS s) Z.1), v) :=
  m_sum hE h (by omega) fun p hp => by have := hE.1; rw [hS0.at (k := 10 + p) (by omega) (by omega)]; exact (cn_eq hv (by omega)).1
-- ===== whose a ticket is =====
theorem whose (hE : pE Z) (hv : pv_S Z s) (h : pc_S o s u) (hS0 : pm_S b s v) (hb : b ≤ 1050) {t : Nat} (ht : t < sumN (tkS s) Z.1) : ∀ (d k n m : Nat), k + d = Z.1 → d < n → d < m → sumN (tkS s) k ≤ t → ∃ p, p < Z.1 ∧ fX5_holderOfTicket_4 o n (nI t) (nI (sumN (tkS s) k)) (nI k) u = some (nI p, u) ∧ fX10_ownerOf_5 m (nI b) (nI (t - sumN (tkS s) k)) (nI k) v = some (nI p, v) := by
  have hp6 := hE.1
  have h54 := tk_le hE hv
  intro d
  induction d with
  | zero =>
    intro k n m hk hn hm hs
    have e : k = Z.1 := by omega
    subst e
    omega
  | succ d ih =>
    intro k n m hk hn hm hs
    obtain ⟨n, rfl⟩ : ∃ i, n = i + 1 := ⟨n - 1, by omega⟩
    obtain ⟨m, rfl⟩ : ∃ i, m = i + 1 := ⟨m - 1, by omega⟩
    have hk6 : k < 6 := by omega
    obtain ⟨e1, e2⟩ := tk_eq hv hk6
    have e3 : u.1 (o + 3) k = nI (tkS s k) := by rw [h.2.2.2.2 k hk6, e1]
    have e4 : v.1 16 (b + 16 + k) = nI (tkS s k) := by rw [hS0.at (k := 16 + k) (by omega) (by omega), e1]
    have e5 : sumN (tkS s) (k + 1) = sumN (tkS s) k + tkS s k := rfl
    rw [fX5_holderOfTicket_4, fX10_ownerOf_5]
    simp (disch := first | omega | decide) only [i10, i00, decide_true, decide_false, cnd_t, cnd_f, gd_nil, gd_t, b1_0, b1_1, sw_nil, sw_cons, obs, Nat.not_lt_zero, nI_addo, nI_oadd, nI_add, nI_mulo, nI_omul, nI_mul, nI_lto, nI_leo, nI_olt, nI_ole, nI_eqo, nI_oeq, nI_lt2, nI_le2, nI_eq2, nI_nm1, nI_m1n, nI_lt0, nI_lem1, nc_nI, nc_o, ix_nI, ix_o, hk6, e3, e4]
    by_cases e : t < sumN (tkS s) k + tkS s k
    · have e' : t - sumN (tkS s) k < tkS s k := by omega
      refine ⟨k, by omega, ?_, ?_⟩
      · simp only [e, i10, i00, decide_true, decide_false, cnd_t, cnd_f, gd_nil, gd_t, b1_0, b1_1, sw_nil, sw_cons, obs]
      · simp only [e', i10, i00, decide_true, decide_false, cnd_t, cnd_f, gd_nil, gd_t, b1_0, b1_1, sw_nil, sw_cons, obs]
    · have e' : ¬ t - sumN (tkS s) k < tkS s k := by omega
      simp (disch := first | omega | decide) only [e, e', i10, i00, decide_true, decide_false, cnd_t, cnd_f, gd_nil, gd_t, b1_0, b1_1, sw_nil, sw_cons, obs, nI_sub]
      rw [show t - sumN (tkS s) k - tkS s k = t - sumN (tkS s) (k + 1) by omega, ← e5]
      exact ih (k + 1) n m (by omega) (by omega) (by omega) (by omega)
-- ===== what is held =====
def hB (Z : dZ) (s : Nat → Int32) : Nat := bS (fun k => !decide (s (2 + k) = -1)) Z.2.1
theorem hB_bit (k : Nat) : (hB Z s).testBit k = (decide (k < Z.2.1) && !decide (s (2 + k) = -1)) := bS_bit _ _ _
theorem hB_lt (hE : pE Z) : hB Z s < 256 := bS_256 hE.2.1
theorem bit255 {m k : Nat} : (255 ^^^ m).testBit k = (decide (k < 8) ^^ m.testBit k) := by
  rw [Nat.testBit_xor]
  congr 1
  exact Nat.testBit_two_pow_sub_one 8 k
theorem c_heldB (hE : pE Z) (hO : pc_O Z o1 u) (h : pc_S o s u) : fX5_heldBits o o1 u = some (nI (hB Z s), u) := by
  have hg := hE.2.1
  unfold fX5_heldBits fX2_allGoods
  rw [hO.2.1, zb_all hg]
  simp only [obs]
  rw [c_bits8 h]
  simp only [obs]
  rw [zb_diff (all_lt hg) (bS_256 (Nat.le_refl 8))]
  have e : (2 ^ Z.2.1 - 1) &&& (255 ^^^ bS (fun k => decide (s (2 + k) = -1)) 8) = hB Z s := by
    apply bit_ext
    intro k
    rw [Nat.testBit_and, all_bit, bit255, bS_bit, hB_bit]
    by_cases hk : k < Z.2.1
    · have h8 : k < 8 := by omega
      simp only [hk, h8, decide_true, Bool.true_and]
      cases decide (s (2 + k) = -1) <;> rfl
    · simp only [hk, decide_false, Bool.false_and]
  rw [e]
-- ===== the raffle =====
def rafNo (Z : dZ) (s : Nat → Int32) : Prop := sumN (tkS s) Z.1 = 0 ∨ ∀ k, k < Z.2.1 → ¬ s (2 + k) = -1
theorem c_raf7n (hE : pE Z) (hO : pc_O Z o1 u) (h : pc_S o s u) (hn0 : rafNo Z s) (hv : pv_S Z s) : ∀ (d k n : Nat), k + d = Z.2.1 → d < n → fX5_raffle_7 o o1 n (nI (sumN (tkS s) Z.1)) (nI k) u = some (-1, u) := by
  have hg := hE.2.1
  have h54 := tk_le hE hv
  intro d
  induction d with
  | zero =>
    intro k n hk hn
    obtain ⟨n, rfl⟩ : ∃ m, n = m + 1 := ⟨n - 1, by omega⟩
    have e : k = Z.2.1 := by omega
    subst e
    rw [fX5_raffle_7, hO.2.1]
    simp (disch := first | omega | decide) only [i10, i00, decide_true, decide_false, cnd_t, cnd_f, gd_nil, gd_t, b1_0, b1_1, sw_nil, sw_cons, obs, Nat.not_lt_zero, nI_addo, nI_oadd, nI_add, nI_mulo, nI_omul, nI_mul, nI_lto, nI_leo, nI_olt, nI_ole, nI_eqo, nI_oeq, nI_lt2, nI_le2, nI_eq2, nI_nm1, nI_m1n, nI_lt0, nI_lem1, nc_nI, nc_o, ix_nI, ix_o, Nat.lt_irrefl]
  | succ d ih =>
    intro k n hk hn
    obtain ⟨n, rfl⟩ : ∃ m, n = m + 1 := ⟨n - 1, by omega⟩
    have hk8 : k < Z.2.1 := by omega
    rw [fX5_raffle_7, hO.2.1]
    simp (disch := first | omega | decide) only [i10, i00, decide_true, decide_false, cnd_t, cnd_f, gd_nil, gd_t, b1_0, b1_1, sw_nil, sw_cons, obs, Nat.not_lt_zero, nI_addo, nI_oadd, nI_add, nI_mulo, nI_omul, nI_mul, nI_lto, nI_leo, nI_olt, nI_ole, nI_eqo, nI_oeq, nI_lt2, nI_le2, nI_eq2, nI_nm1, nI_m1n, nI_lt0, nI_lem1, nc_nI, nc_o, ix_nI, ix_o, hk8]
    by_cases e : sumN (tkS s) Z.1 ≤ 0
    · simp only [e, i10, i00, decide_true, decide_false, cnd_t, cnd_f, gd_nil, gd_t, b1_0, b1_1, sw_nil, sw_cons, obs]
    · simp only [e, i10, i00, decide_true, decide_false, cnd_t, cnd_f, gd_nil, gd_t, b1_0, b1_1, sw_nil, sw_cons, obs]
      have e2 := hn0.resolve_left (by omega) k hk8
      rw [c_hold h (by omega)]
      simp only [e2, i10, i00, decide_true, decide_false, cnd_t, cnd_f, gd_nil, gd_t, b1_0, b1_1, sw_nil, sw_cons, obs]
      exact ih (k + 1) n (by omega) (by omega)
theorem c_raf7s (hE : pE Z) (hO : pc_O Z o1 u) (h : pc_S o s u) (hv : pv_S Z s) {t k0 g p : Nat} (hts : t = sumN (tkS s) Z.1) (ht : 0 < t) (hk0 : k0 < Z.2.1) (hf : ∀ k, k < k0 → ¬ s (2 + k) = -1) (he : s (2 + k0) = -1) (hg1 : g < 2147483648) (e1 : s 1 = nI g) (hw : ∀ u', pc_S o (su s 1 (nI (dG g))) u' → fX5_holderOfTicket o (nI (dG g / 65536 % t)) u' = some (nI p, u')) : ∀ (d k n : Nat), k + d = k0 → d < n → ∃ u', fX5_raffle_7 o o1 n (nI t) (nI k) u = some (nI p, u') ∧ Fc o u u' ∧ pc_S o (su (su s 1 (nI (dG g))) (2 + k0) (nI p)) u' := by
  have hg := hE.2.1
  have h54 := tk_le hE hv
  intro d
  induction d with
  | zero =>
    intro k n hk hn
    obtain ⟨n, rfl⟩ : ∃ m, n = m + 1 := ⟨n - 1, by omega⟩
    have e : k = k0 := by omega
    subst e
    obtain ⟨u1, q1, f1, s1⟩ := c_draw h hg1 e1 ht (show t < 2147483648 by omega)
    obtain ⟨u2, q2, f2, s2⟩ := c_place s1 (show k < 8 by omega) (x := nI p)
    refine ⟨u2, ?_, f1.trans f2, s2⟩
    rw [fX5_raffle_7, hO.2.1]
    have e0 : ¬ t ≤ 0 := by omega
    simp (disch := first | omega | decide) only [i10, i00, decide_true, decide_false, cnd_t, cnd_f, gd_nil, gd_t, b1_0, b1_1, sw_nil, sw_cons, obs, Nat.not_lt_zero, nI_addo, nI_oadd, nI_add, nI_mulo, nI_omul, nI_mul, nI_lto, nI_leo, nI_olt, nI_ole, nI_eqo, nI_oeq, nI_lt2, nI_le2, nI_eq2, nI_nm1, nI_m1n, nI_lt0, nI_lem1, nc_nI, nc_o, ix_nI, ix_o, hk0, e0]
    rw [c_hold h (by omega)]
    simp only [he, i10, i00, decide_true, decide_false, cnd_t, cnd_f, gd_nil, gd_t, b1_0, b1_1, sw_nil, sw_cons, obs]
    rw [q1]
    simp only [obs]
    rw [hw u1 s1]
    simp only [obs]
    rw [q2]
    rfl
  | succ d ih =>
    intro k n hk hn
    obtain ⟨n, rfl⟩ : ∃ m, n = m + 1 := ⟨n - 1, by omega⟩
    have hk8 : k < Z.2.1 := by omega
    have e0 : ¬ t ≤ 0 := by omega
    have e2 := hf k (by omega)
    rw [fX5_raffle_7, hO.2.1]
    simp (disch := first | omega | decide) only [i10, i00, decide_true, decide_false, cnd_t, cnd_f, gd_nil, gd_t, b1_0, b1_1, sw_nil, sw_cons, obs, Nat.not_lt_zero, nI_addo, nI_oadd, nI_add, nI_mulo, nI_omul, nI_mul, nI_lto, nI_leo, nI_olt, nI_ole, nI_eqo, nI_oeq, nI_lt2, nI_le2, nI_eq2, nI_nm1, nI_m1n, nI_lt0, nI_lem1, nc_nI, nc_o, ix_nI, ix_o, hk8, e0]
    rw [c_hold h (by omega)]
    simp only [e2, i10, i00, decide_true, decide_false, cnd_t, cnd_f, gd_nil, gd_t, b1_0, b1_1, sw_nil, sw_cons, obs]
    exact ih (k + 1) n (by omega) (by omega)
theorem m_raf33 (hE : pE Z) {t k0 p : Nat} {v1 v2 : ab_S} {m0 : Nat} (hm0 : m0 < 256) (hk0 : k0 < 8) (hb : b ≤ 1050) (hf : ∀ k, k < k0 → m0.testBit k = false) (he : m0.testBit k0 = true) {x : Int32} (e1 : fX10_draw (nI b) (nI t) v = some (x, v1)) (e2 : fX10_ownerOf (nI b) x v1 = some (nI p, v2)) : ∀ (d k n : Nat), k + d = k0 → d < n → fX10_passes_33 n (nI b) (nI m0) (nI t) (nI k) v = fX10_passes_77 fu (nI b) (nI m0) (nI p) 0 (sI v2 16 (b + 2 + k0) (nI p)) := by
  intro d
  induction d with
  | zero =>
    intro k n hk hn
    obtain ⟨n, rfl⟩ : ∃ m, n = m + 1 := ⟨n - 1, by omega⟩
    have e : k = k0 := by omega
    subst e
    rw [fX10_passes_33]
    simp (disch := first | omega | decide) only [zb_b0 hm0 hk0, he, Bool.true_eq_false, i10, i00, decide_true, decide_false, cnd_t, cnd_f, gd_nil, gd_t, b1_0, b1_1, sw_nil, sw_cons, obs, e1, e2, Nat.not_lt_zero, nI_addo, nI_oadd, nI_add, nI_mulo, nI_omul, nI_mul, nI_lto, nI_leo, nI_olt, nI_ole, nI_eqo, nI_oeq, nI_lt2, nI_le2, nI_eq2, nI_nm1, nI_m1n, nI_lt0, nI_lem1, nc_nI, nc_o, ix_nI, ix_o]
  | succ d ih =>
    intro k n hk hn
    obtain ⟨n, rfl⟩ : ∃ m, n = m + 1 := ⟨n - 1, by omega⟩
    rw [fX10_passes_33]
    simp (disch := first | omega | decide) only [zb_b0 hm0 (show k < 8 by omega), hf k (by omega), i10, i00, decide_true, decide_false, cnd_t, cnd_f, gd_nil, gd_t, b1_0, b1_1, sw_nil, sw_cons, obs, nI_addo]
    exact ih (k + 1) n (by omega) (by omega)
end PU
