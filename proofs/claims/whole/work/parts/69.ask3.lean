/-! offers, chances -/
theorem one_lt {x : Int32} (h : x < 0) : x < 1 := by
  rw [Int32.lt_iff_toInt_lt] at h ⊢
  rw [Int32.toInt_zero] at h
  rw [show (1 : Int32).toInt = 1 by decide +kernel]
  omega
theorem rng1 (x : Int32) (n : Nat) (hn : n < 2147483648) : (∃ k, 1 ≤ k ∧ k ≤ n ∧ x = nI k) ∨ (x < 1 ∨ (¬ x < 1 ∧ ¬ x ≤ nI n)) := by
  by_cases h : x < 1
  · exact Or.inr (Or.inl h)
  · by_cases h2 : x ≤ nI n
    · left
      obtain ⟨k, hk, rfl⟩ := (nI_inRo hn).mp ⟨fun z => h (one_lt z), h2⟩
      refine ⟨k, ?_, hk, rfl⟩
      by_cases e : k = 0
      · subst e
        exact absurd (by decide +kernel) h
      · omega
    · exact Or.inr (Or.inr ⟨h, h2⟩)
theorem rng0 (x : Int32) (n : Nat) (hn : n < 2147483648) : (∃ k, k ≤ n ∧ x = nI k) ∨ (x < 0 ∨ (¬ x < 0 ∧ ¬ x ≤ nI n)) := by
  by_cases h : x < 0
  · exact Or.inr (Or.inl h)
  · by_cases h2 : x ≤ nI n
    · exact Or.inl ((nI_inRo hn).mp ⟨h, h2⟩)
    · exact Or.inr (Or.inr ⟨h, h2⟩)
theorem lN_pos {n : Nat} (h0 : 0 < n) (h : n < 9223372036854775808) : ¬ lN n ≤ 0 ∧ ¬ lN n = 0 := by
  constructor
  · rw [Int64.le_iff_toInt_le, lN_toI h, show (0 : Int64).toInt = 0 by decide +kernel]
    omega
  · intro q
    have a := lN_toI h
    rw [q, show (0 : Int64).toInt = 0 by decide +kernel] at a
    omega
theorem lN_le0 : lN 0 ≤ 0 := by decide +kernel
section PU
variable {Z : dZ} {s : Nat → Int32} {u v : ab_S}
-- ===== offers =====
def stepO (Z : dZ) (s : Nat → Int32) (k j : Nat) (q : Nat × Int32) : Nat × Int32 := if tradeS Z s k j then (q.1 + 1, if q.1 = 0 then nI (8 * k + j) else q.2) else q
def offI (Z : dZ) (s : Nat → Int32) (k : Nat) : Nat → Nat → Nat × Int32 → Nat × Int32
  | _, 0, q => q
  | j, d + 1, q => offI Z s k (j + 1) d (stepO Z s k j q)
def offO (Z : dZ) (s : Nat → Int32) : Nat → Nat → Nat × Int32 → Nat × Int32
  | _, 0, q => q
  | k, d + 1, q => offO Z s (k + 1) d (offI Z s k (k + 1) d q)
theorem stepO_le {k j : Nat} {q : Nat × Int32} : (stepO Z s k j q).1 ≤ q.1 + 1 := by
  unfold stepO
  split <;> simp
theorem offI_le {k : Nat} : ∀ (d j : Nat) (q : Nat × Int32), (offI Z s k j d q).1 ≤ q.1 + d
  | 0, _, q => Nat.le_refl _
  | d + 1, j, q => by
    have h1 := offI_le (k := k) d (j + 1) (stepO Z s k j q)
    have h2 := stepO_le (Z := Z) (s := s) (k := k) (j := j) (q := q)
    rw [offI]
    omega
theorem stepO_ok {k j : Nat} {q : Nat × Int32} (hk : k < 8) (hj : j < 8) (h : (q.2 < 0) = (q.1 = 0)) : ((stepO Z s k j q).2 < 0) = ((stepO Z s k j q).1 = 0) := by
  unfold stepO
  split
  · have e : (q.1 + 1 = 0) = False := eq_false (by omega)
    show ((if q.1 = 0 then nI (8 * k + j) else q.2) < 0) = (q.1 + 1 = 0)
    rw [e]
    by_cases e2 : q.1 = 0
    · rw [if_pos e2]
      simp (disch := first | omega | decide) only [nI_lt0]
    · rw [if_neg e2, h]
      exact eq_false e2
  · exact h
theorem offI_ok {k : Nat} (hk : k < 8) : ∀ (d j : Nat) (q : Nat × Int32), j + d ≤ 8 → ((q.2 < 0) = (q.1 = 0)) → ((offI Z s k j d q).2 < 0) = ((offI Z s k j d q).1 = 0)
  | 0, _, q, _, h => h
  | d + 1, j, q, hj, h => by
    rw [offI]
    exact offI_ok hk d (j + 1) _ (by omega) (stepO_ok hk (by omega) h)
theorem c_off36 (hE : pE Z) (hO : pc_O Z (u.2.2 0) u) (hv : pv_S Z s) (hc : pc_S 38 s u) {K : Int32 → Int32 → Int32 → Int32 → ab_S → Option (Int32 × ab_S)} {w : Int32} {k : Nat} (hk : k < Z.2.1) : ∀ (d j n : Nat) (q : Nat × Int32), j + d = Z.2.1 → d < n → q.1 + d ≤ 200 → fX9_offers_36 K n w (nI q.1) q.2 (nI k) (nI j) u = K w (nI (offI Z s k j d q).1) (offI Z s k j d q).2 (nI (k + 1)) u := by
  have hg := hE.2.1
  intro d
  induction d with
  | zero =>
    intro j n q hj hn hq
    obtain ⟨n, rfl⟩ : ∃ i, n = i + 1 := ⟨n - 1, by omega⟩
    have e : j = Z.2.1 := by omega
    subst e
    rw [fX9_offers_36, hO.2.1]
    simp (disch := first | omega | decide) only [i10, i00, decide_true, decide_false, cnd_t, cnd_f, gd_nil, gd_t, b1_0, b1_1, sw_nil, sw_cons, obs, Nat.not_lt_zero, nI_addo, nI_oadd, nI_add, nI_mulo, nI_omul, nI_mul, nI_lto, nI_leo, nI_olt, nI_ole, nI_eqo, nI_oeq, nI_lt2, nI_le2, nI_eq2, nI_nm1, nI_m1n, nI_lt0, nI_lem1, nc_nI, nc_o, ix_nI, ix_o, Nat.lt_irrefl, offI]
  | succ d ih =>
    intro j n q hj hn hq
    obtain ⟨n, rfl⟩ : ∃ i, n = i + 1 := ⟨n - 1, by omega⟩
    have hj8 : j < Z.2.1 := by omega
    have hle := stepO_le (Z := Z) (s := s) (k := k) (j := j) (q := q)
    have ih := ih (j + 1) n (stepO Z s k j q) (by omega) (by omega) (by omega)
    rw [fX9_offers_36, hO.2.1]
    simp (disch := first | omega | decide) only [i10, i00, decide_true, decide_false, cnd_t, cnd_f, gd_nil, gd_t, b1_0, b1_1, sw_nil, sw_cons, obs, nI_lt2, hj8]
    rw [c_canTrade hE hO hv hc hk hj8]
    simp (disch := first | omega | decide) only [i10, i00, decide_true, decide_false, cnd_t, cnd_f, gd_nil, gd_t, b1_0, b1_1, sw_nil, sw_cons, obs, b01_0, nI_eqo, nI_addo, nI_omul, nI_add]
    rw [offI, ← ih]
    unfold stepO
    cases tradeS Z s k j
    · simp only [i10, i00, decide_true, decide_false, cnd_t, cnd_f, gd_nil, gd_t, b1_0, b1_1, sw_nil, sw_cons, obs, Bool.false_eq_true, if_false]
    · simp only [i10, i00, decide_true, decide_false, cnd_t, cnd_f, gd_nil, gd_t, b1_0, b1_1, sw_nil, sw_cons, obs, Bool.true_eq_false, if_true]
      by_cases e : q.1 = 0
      · simp only [e, i10, i00, decide_true, decide_false, cnd_t, cnd_f, gd_nil, gd_t, b1_0, b1_1, sw_nil, sw_cons, obs, if_true]
      · simp only [e, i10, i00, decide_true, decide_false, cnd_t, cnd_f, gd_nil, gd_t, b1_0, b1_1, sw_nil, sw_cons, obs, if_false]
theorem c_off18 (hE : pE Z) (hO : pc_O Z (u.2.2 0) u) (hv : pv_S Z s) (hc : pc_S 38 s u) {w : Int32} : ∀ (d k n : Nat) (q : Nat × Int32), k + d = Z.2.1 → d < n → q.1 + 8 * d ≤ 100 → fX9_offers_18 n w (nI q.1) q.2 (nI k) u = bif decide (w = 0) then some (nI (offO Z s k d q).1, u) else some ((offO Z s k d q).2, u) := by
  have hg := hE.2.1
  intro d
  induction d with
  | zero =>
    intro k n q hk hn hq
    obtain ⟨n, rfl⟩ : ∃ i, n = i + 1 := ⟨n - 1, by omega⟩
    have e : k = Z.2.1 := by omega
    subst e
    rw [fX9_offers_18, hO.2.1]
    simp (disch := first | omega | decide) only [i10, i00, decide_true, decide_false, cnd_t, cnd_f, gd_nil, gd_t, b1_0, b1_1, sw_nil, sw_cons, obs, Nat.not_lt_zero, nI_addo, nI_oadd, nI_add, nI_mulo, nI_omul, nI_mul, nI_lto, nI_leo, nI_olt, nI_ole, nI_eqo, nI_oeq, nI_lt2, nI_le2, nI_eq2, nI_nm1, nI_m1n, nI_lt0, nI_lem1, nc_nI, nc_o, ix_nI, ix_o, Nat.lt_irrefl, offO]
  | succ d ih =>
    intro k n q hk hn hq
    obtain ⟨n, rfl⟩ : ∃ i, n = i + 1 := ⟨n - 1, by omega⟩
    have hk8 : k < Z.2.1 := by omega
    have hle := offI_le (Z := Z) (s := s) (k := k) d (k + 1) q
    rw [fX9_offers_18, hO.2.1]
    simp (disch := first | omega | decide) only [i10, i00, decide_true, decide_false, cnd_t, cnd_f, gd_nil, gd_t, b1_0, b1_1, sw_nil, sw_cons, obs, nI_lt2, hk8, nI_addo]
    rw [c_off36 hE hO hv hc hk8 d (k + 1) fu q (by omega) (by simp only [fu]; omega) (by omega)]
    exact ih (k + 1) n _ (by omega) (by omega) (by omega)
theorem m_off27 (hE : pE Z) (hv : pv_S Z s) {L : Int32 → Int32 → Int32 → Int32 → ab_S → Option (Int32 × ab_S)} {w : Int32} {k : Nat} (hk : k < Z.2.1) {Q : Int32 → ab_S → Prop} : ∀ (d j n : Nat) (q : Nat × Int32) (v : ab_S), pm_O Z v → pm_S 0 s v → j + d = Z.2.1 → d < n → q.1 + d ≤ 200 → ((q.2 < 0) = (q.1 = 0)) → (∀ v', Sc v v' → Wp (L w (nI (offI Z s k j d q).1) (offI Z s k j d q).2 (nI (k + 1)) v') Q) → Wp (fX10_offers_27 L n w (nI q.1) q.2 (nI k) (nI j) v) Q := by
  have hg := hE.2.1
  intro d
  induction d with
  | zero =>
    intro j n q v hm hs hj hn hq hz hL
    obtain ⟨n, rfl⟩ : ∃ i, n = i + 1 := ⟨n - 1, by omega⟩
    have e : j = Z.2.1 := by omega
    subst e
    rw [fX10_offers_27, m_goods hE hm]
    simp (disch := first | omega | decide) only [i10, i00, decide_true, decide_false, cnd_t, cnd_f, gd_nil, gd_t, b1_0, b1_1, sw_nil, sw_cons, obs, Nat.not_lt_zero, nI_addo, nI_oadd, nI_add, nI_mulo, nI_omul, nI_mul, nI_lto, nI_leo, nI_olt, nI_ole, nI_eqo, nI_oeq, nI_lt2, nI_le2, nI_eq2, nI_nm1, nI_m1n, nI_lt0, nI_lem1, nc_nI, nc_o, ix_nI, ix_o, Nat.lt_irrefl]
    exact hL v Fr.rfl'
  | succ d ih =>
    intro j n q v hm hs hj hn hq hz hL
    obtain ⟨n, rfl⟩ : ∃ i, n = i + 1 := ⟨n - 1, by omega⟩
    have hj8 : j < Z.2.1 := by omega
    have hle := stepO_le (Z := Z) (s := s) (k := k) (j := j) (q := q)
    rw [fX10_offers_27, m_goods hE hm]
    simp (disch := first | omega | decide) only [i10, i00, decide_true, decide_false, cnd_t, cnd_f, gd_nil, gd_t, b1_0, b1_1, sw_nil, sw_cons, obs, nI_lt2, hj8, wp_bind]
    refine m_maySwap (b := 0) hE hm hv hs (by decide) hk hj8 fun v1 s1 => ?_
    have ih := ih (j + 1) n (stepO Z s k j q) v1 (hm.sc s1) (hs.sc s1) (by omega) (by omega) (by omega) (stepO_ok (by omega) (by omega) hz) (fun v' s' => by
      have h := hL v' (s1.trans s')
      rw [offI] at h
      exact h)
    simp only [b01_0, fX10_offers_68, nI_addo]
    unfold stepO at ih
    cases hh : tradeS Z s k j
    · simp only [hh, i10, i00, decide_true, decide_false, cnd_t, cnd_f, gd_nil, gd_t, b1_0, b1_1, sw_nil, sw_cons, obs, Bool.false_eq_true, if_false, b01_f, Int32.add_zero] at ih ⊢
      exact ih
    · simp only [hh, i10, i00, decide_true, decide_false, cnd_t, cnd_f, gd_nil, gd_t, b1_0, b1_1, sw_nil, sw_cons, obs, Bool.true_eq_false, if_true, b01_t] at ih ⊢
      by_cases e : q.1 = 0
      · have e' : q.2 < 0 := cast hz.symm e
        simp only [e', i10, i00, decide_true, decide_false, cnd_t, cnd_f, gd_nil, gd_t, b1_0, b1_1, sw_nil, sw_cons, obs]
        simp only [e, i10, i00, decide_true, decide_false, cnd_t, cnd_f, gd_nil, gd_t, b1_0, b1_1, sw_nil, sw_cons, obs, if_true, nI_omul, nI_add] at ih ⊢
        exact ih
      · have e' : ¬ q.2 < 0 := fun z => e (cast hz z)
        simp only [e, e', i10, i00, decide_true, decide_false, cnd_t, cnd_f, gd_nil, gd_t, b1_0, b1_1, sw_nil, sw_cons, obs, if_false] at ih ⊢
        exact ih
theorem m_off12 (hE : pE Z) (hv : pv_S Z s) {w : Int32} {Q : Int32 → ab_S → Prop} : ∀ (d k n : Nat) (q : Nat × Int32) (v : ab_S), pm_O Z v → pm_S 0 s v → k + d = Z.2.1 → d < n → q.1 + 8 * d ≤ 100 → ((q.2 < 0) = (q.1 = 0)) → (∀ v', Sc v v' → Q (bif decide (w = 0) then nI (offO Z s k d q).1 else bif decide (w = 1) then (offO Z s k d q).2 else -1) v') → Wp (fX10_offers_12 n w (nI q.1) q.2 (nI k) v) Q := by
  have hg := hE.2.1
  intro d
  induction d with
  | zero =>
    intro k n q v hm hs hk hn hq hz hQ
    obtain ⟨n, rfl⟩ : ∃ i, n = i + 1 := ⟨n - 1, by omega⟩
    have e : k = Z.2.1 := by omega
    subst e
    have h := hQ v Fr.rfl'
    rw [fX10_offers_12, m_goods hE hm]
    simp (disch := first | omega | decide) only [i10, i00, decide_true, decide_false, cnd_t, cnd_f, gd_nil, gd_t, b1_0, b1_1, sw_nil, sw_cons, obs, Nat.not_lt_zero, nI_addo, nI_oadd, nI_add, nI_mulo, nI_omul, nI_mul, nI_lto, nI_leo, nI_olt, nI_ole, nI_eqo, nI_oeq, nI_lt2, nI_le2, nI_eq2, nI_nm1, nI_m1n, nI_lt0, nI_lem1, nc_nI, nc_o, ix_nI, ix_o, Nat.lt_irrefl, offO] at h ⊢
    by_cases e : w = 0
    · simp only [e, i10, i00, decide_true, decide_false, cnd_t, cnd_f, gd_nil, gd_t, b1_0, b1_1, sw_nil, sw_cons, obs, wp_ret] at h ⊢
      exact h
    · by_cases e2 : w = 1
      · simp only [e2, i10, i00, decide_true, decide_false, cnd_t, cnd_f, gd_nil, gd_t, b1_0, b1_1, sw_nil, sw_cons, obs, wp_ret] at h ⊢
        exact h
      · simp only [e, e2, i10, i00, decide_true, decide_false, cnd_t, cnd_f, gd_nil, gd_t, b1_0, b1_1, sw_nil, sw_cons, obs, wp_ret] at h ⊢
        exact h
  | succ d ih =>
    intro k n q v hm hs hk hn hq hz hQ
    obtain ⟨n, rfl⟩ : ∃ i, n = i + 1 := ⟨n - 1, by omega⟩
    have hk8 : k < Z.2.1 := by omega
    have hle := offI_le (Z := Z) (s := s) (k := k) d (k + 1) q
    rw [fX10_offers_12, m_goods hE hm]
    simp (disch := first | omega | decide) only [i10, i00, decide_true, decide_false, cnd_t, cnd_f, gd_nil, gd_t, b1_0, b1_1, sw_nil, sw_cons, obs, nI_lt2, hk8, nI_addo]
    refine m_off27 hE hv hk8 d (k + 1) fu q v hm hs (by omega) (by simp only [fu]; omega) (by omega) hz fun v1 s1 => ?_
    exact ih (k + 1) n _ v1 (hm.sc s1) (hs.sc s1) (by omega) (by omega) (by omega) (offI_ok (by omega) d (k + 1) q (by omega) hz) fun v' s' => hQ v' (s1.trans s')
theorem q_offers (hN : pN Z s u v) (w : Int32) : qP (fX9_offers w u) u (fX10_offers w v) (sI v 0 0 0) := by
  have hN0 := hN.th (x := 0)
  obtain ⟨hE, hO, ho, hm, hc, hs, hv⟩ := hN0
  have hg := hE.2.1
  have hq := m_off12 hE hv (w := w) (Q := fun r' v' => r' = (bif decide (w = 0) then nI (offO Z s 0 Z.2.1 (0, -1)).1 else bif decide (w = 1) then (offO Z s 0 Z.2.1 (0, -1)).2 else -1) ∧ Sc (sI v 0 0 0) v') Z.2.1 0 fu (0, -1) (sI v 0 0 0) hm hs (Nat.zero_add _) (by simp only [fu]; omega) (by simp only; omega) (by simp only [m1lt0]) (fun v' s' => ⟨rfl, s'⟩)
  refine ⟨_, ?_, hq⟩
  have h18 := c_off18 hE hO hv hc (w := w) Z.2.1 0 fu (0, -1) (Nat.zero_add _) (by simp only [fu]; omega) (by simp only; omega)
  have h11 : fX9_offers_11 w u = bif decide (w = 0) then some (nI (offO Z s 0 Z.2.1 (0, -1)).1, u) else some ((offO Z s 0 Z.2.1 (0, -1)).2, u) := by
    unfold fX9_offers_11
    exact h18
  unfold fX9_offers
  rw [h11]
  by_cases e : w = 0
  · simp only [e, i10, i00, decide_true, decide_false, cnd_t, cnd_f, gd_nil, gd_t, b1_0, b1_1, sw_nil, sw_cons, obs]
  · by_cases e2 : w = 1
    · simp only [e2, i10, i00, decide_true, decide_false, cnd_t, cnd_f, gd_nil, gd_t, b1_0, b1_1, sw_nil, sw_cons, obs]
    · simp only [e, e2, i10, i00, decide_true, decide_false, cnd_t, cnd_f, gd_nil, gd_t, b1_0, b1_1, sw_nil, sw_cons, obs]
-- ===== odds =====
theorem pow54 {a : Nat} (ha : a ≤ 54) : ∀ {i : Nat}, i ≤ 6 → a ^ i ≤ 24794911296 := by
  intro i hi
  have h1 : a ^ i ≤ 54 ^ i := Nat.pow_le_pow_left ha i
  have h2 : 54 ^ i ≤ 54 ^ 6 := Nat.pow_le_pow_right (by decide) hi
  have h3 : (54 : Nat) ^ 6 = 24794911296 := by decide
  omega
theorem q_odds61 {a t p : Nat} (ha : 0 < a) (ha2 : a ≤ 54) (hta : t ≤ a) (ht : s (16 + p) = nI t) (hp : p < 6) {q : Nat} (hq : q ≤ 6) : ∀ (d i n m : Nat) (v : ab_S), pm_S 0 s v → i + d = q → d < n → d < m → ∃ r, fX9_odds_61 n (nI q) (lN a) (lN (a - t)) (lN (a ^ i)) (lN ((a - t) ^ i)) (nI i) u = some (r, u) ∧ fX10_odds_45 m (nI p) (nI q) (nI a) (lN (a ^ i)) (lN ((a - t) ^ i)) (nI i) v = some (r, v) := by
  intro d
  induction d with
  | zero =>
    intro i n m v hs hi hn hm
    obtain ⟨n, rfl⟩ : ∃ j, n = j + 1 := ⟨n - 1, by omega⟩
    obtain ⟨m, rfl⟩ : ∃ j, m = j + 1 := ⟨m - 1, by omega⟩
    have e : i = q := by omega
    subst e
    have h1 := pow54 ha2 hq
    obtain ⟨h2, h3⟩ := lN_pos (n := a ^ i) (Nat.pow_pos ha) (by omega)
    rw [fX9_odds_61, fX10_odds_45]
    simp (disch := first | omega | decide) only [i10, i00, decide_true, decide_false, cnd_t, cnd_f, gd_nil, gd_t, b1_0, b1_1, sw_nil, sw_cons, obs, Nat.not_lt_zero, nI_addo, nI_oadd, nI_add, nI_mulo, nI_omul, nI_mul, nI_lto, nI_leo, nI_olt, nI_ole, nI_eqo, nI_oeq, nI_lt2, nI_le2, nI_eq2, nI_nm1, nI_m1n, nI_lt0, nI_lem1, nc_nI, nc_o, ix_nI, ix_o, Nat.lt_irrefl, h2, h3, not_false_eq_true]
    exact ⟨_, rfl, rfl⟩
  | succ d ih =>
    intro i n m v hs hi hn hm
    obtain ⟨n, rfl⟩ : ∃ j, n = j + 1 := ⟨n - 1, by omega⟩
    obtain ⟨m, rfl⟩ : ∃ j, m = j + 1 := ⟨m - 1, by omega⟩
    have hiq : i < q := by omega
    obtain ⟨r, h1, h2⟩ := ih (i + 1) n m v hs (by omega) (by omega) (by omega)
    have e16 := hs.at (k := 16 + p) (by omega) (show 16 + p = 0 + (16 + p) by omega)
    refine ⟨r, ?_, ?_⟩
    · rw [fX9_odds_61]
      simp (disch := first | omega | decide) only [i10, i00, decide_true, decide_false, cnd_t, cnd_f, gd_nil, gd_t, b1_0, b1_1, sw_nil, sw_cons, obs, Nat.not_lt_zero, nI_addo, nI_oadd, nI_add, nI_mulo, nI_omul, nI_mul, nI_lto, nI_leo, nI_olt, nI_ole, nI_eqo, nI_oeq, nI_lt2, nI_le2, nI_eq2, nI_nm1, nI_m1n, nI_lt0, nI_lem1, nc_nI, nc_o, ix_nI, ix_o, hiq, lN_mul]
      rw [Nat.pow_succ, Nat.pow_succ] at h1
      exact h1
    · rw [fX10_odds_45]
      simp (disch := first | omega | decide) only [i10, i00, decide_true, decide_false, cnd_t, cnd_f, gd_nil, gd_t, b1_0, b1_1, sw_nil, sw_cons, obs, nI_lt2, hiq, nI_oadd, ix_nI, nc_nI, e16, ht, nI_sub, nI_l, lN_mul, nI_addo]
      rw [Nat.pow_succ, Nat.pow_succ] at h2
      exact h2
theorem sumN_ge {f : Nat → Nat} {p : Nat} : ∀ {n : Nat}, p < n → f p ≤ sumN f n
  | 0, h => absurd h (Nat.not_lt_zero p)
  | n + 1, h => by
    rw [sumN]
    by_cases e : p = n
    · subst e; omega
    · have := sumN_ge (f := f) (p := p) (n := n) (by omega)
      omega
theorem q_odds (hN : pN Z s u v) (x y : Int32) : qP (fX9_odds x y u) u (fX10_odds x y v) (sI v 0 0 0) := by
  have hN0 := hN.th (x := 0)
  obtain ⟨hE, hO, ho, hm, hc, hs, hv⟩ := hN0
  have hp6 := hE.1
  have h54 := tk_le hE hv
  have mT : fX10_sumOf 16 (sI v 0 0 0) = some (nI (sumN (tkS s) Z.1), sI v 0 0 0) := m_allT (b := 0) hE hm hv hs (by decide)
  unfold fX9_odds fX10_odds
  rw [c_allT hE hv hc, mT]
  simp only [obs]
  rcases isP Z hE.1 x with ⟨p, hp, rfl⟩ | hx
  · rw [c_hasP1 hE hO hp, m_isP1 hE hm hp]
    simp only [i10, i00, decide_true, decide_false, cnd_t, cnd_f, gd_nil, gd_t, b1_0, b1_1, sw_nil, sw_cons, obs, fX10_in]
    obtain ⟨t1, t2⟩ := tk_eq hv (p := p) (by omega)
    have hta := sumN_ge (f := tkS s) hp
    rw [show (6 : Int32) = nI 6 from rfl]
    rcases rng1 y 6 (by decide) with ⟨k, k1, k2, rfl⟩ | hy
    · have e1 : ¬ k < 1 := by omega
      simp (disch := first | omega | decide) only [i10, i00, decide_true, decide_false, cnd_t, cnd_f, gd_nil, gd_t, b1_0, b1_1, sw_nil, sw_cons, obs, Nat.not_lt_zero, nI_addo, nI_oadd, nI_add, nI_mulo, nI_omul, nI_mul, nI_lto, nI_leo, nI_olt, nI_ole, nI_eqo, nI_oeq, nI_lt2, nI_le2, nI_eq2, nI_nm1, nI_m1n, nI_lt0, nI_lem1, nc_nI, nc_o, ix_nI, ix_o, e1, k2, Bool.not_false, Bool.and_self, b01_t, nI_l]
      by_cases e : sumN (tkS s) Z.1 = 0
      · have el := lN_le0
        simp only [e, el, i10, i00, decide_true, decide_false, cnd_t, cnd_f, gd_nil, gd_t, b1_0, b1_1, sw_nil, sw_cons, obs]
        exact qP.ret
      · obtain ⟨g1, g2⟩ := lN_pos (n := sumN (tkS s) Z.1) (by omega) (by omega)
        simp only [e, g1, i10, i00, decide_true, decide_false, cnd_t, cnd_f, gd_nil, gd_t, b1_0, b1_1, sw_nil, sw_cons, obs]
        rw [c_tick hc (by omega), t1]
        simp (disch := first | omega | decide) only [i10, i00, decide_true, decide_false, cnd_t, cnd_f, gd_nil, gd_t, b1_0, b1_1, sw_nil, sw_cons, obs, nI_l, lN_sub]
        obtain ⟨r, h1, h2⟩ := q_odds61 (u := u) (a := sumN (tkS s) Z.1) (t := tkS s p) (p := p) (by omega) h54 hta t1 (by omega) k2 k 0 fu fu (sI v 0 0 0) hs (Nat.zero_add _) (by simp only [fu]; omega) (by simp only [fu]; omega)
        rw [Nat.pow_zero, Nat.pow_zero] at h1 h2
        exact ⟨r, h1, (wp_eq h2).mpr ⟨rfl, Fr.rfl'⟩⟩
    · rcases hy with hy | ⟨hy1, hy2⟩
      · simp only [hy, i10, i00, decide_true, decide_false, cnd_t, cnd_f, gd_nil, gd_t, b1_0, b1_1, sw_nil, sw_cons, obs, Bool.not_true, Bool.false_and, b01_f]
        exact qP.ret
      · simp only [hy1, hy2, i10, i00, decide_true, decide_false, cnd_t, cnd_f, gd_nil, gd_t, b1_0, b1_1, sw_nil, sw_cons, obs, Bool.not_false, Bool.and_false, b01_f]
        exact qP.ret
  · rw [c_hasP0 hO hx, m_isP0 hE hm hx]
    simp only [i10, i00, decide_true, decide_false, cnd_t, cnd_f, gd_nil, gd_t, b1_0, b1_1, sw_nil, sw_cons, obs]
    exact qP.ret
theorem q_enough44 {x y : Int32} : ∀ (d i n m : Nat) (v : ab_S), i + d = 100 → d < n → d < m → ∃ r, fX9_enough_44 n x y (nI i) u = some (r, u) ∧ fX10_enough_45 m x y (nI i) v = some (r, v) := by
  intro d
  induction d with
  | zero =>
    intro i n m v hi hn hm
    obtain ⟨n, rfl⟩ : ∃ j, n = j + 1 := ⟨n - 1, by omega⟩
    obtain ⟨m, rfl⟩ : ∃ j, m = j + 1 := ⟨m - 1, by omega⟩
    have e : ¬ i ≤ 99 := by omega
    rw [fX9_enough_44, fX10_enough_45]
    simp (disch := first | omega | decide) only [i10, i00, decide_true, decide_false, cnd_t, cnd_f, gd_nil, gd_t, b1_0, b1_1, sw_nil, sw_cons, obs, nI_leo, e]
    exact ⟨_, rfl, rfl⟩
  | succ d ih =>
    intro i n m v hi hn hm
    obtain ⟨n, rfl⟩ : ∃ j, n = j + 1 := ⟨n - 1, by omega⟩
    obtain ⟨m, rfl⟩ : ∃ j, m = j + 1 := ⟨m - 1, by omega⟩
    have e : i ≤ 99 := by omega
    rw [fX9_enough_44, fX10_enough_45]
    simp (disch := first | omega | decide) only [i10, i00, decide_true, decide_false, cnd_t, cnd_f, gd_nil, gd_t, b1_0, b1_1, sw_nil, sw_cons, obs, nI_leo, e]
    by_cases e2 : 100 * nI i < x * (nI i + y)
    · simp only [e2, i10, i00, decide_true, decide_false, cnd_t, cnd_f, gd_nil, gd_t, b1_0, b1_1, sw_nil, sw_cons, obs, nI_addo]
      exact ih (i + 1) n m v (by omega) (by omega) (by omega)
    · simp only [e2, i10, i00, decide_true, decide_false, cnd_t, cnd_f, gd_nil, gd_t, b1_0, b1_1, sw_nil, sw_cons, obs]
      exact ⟨_, rfl, rfl⟩
theorem q_enough (hN : pN Z s u v) (x y : Int32) : qP (fX9_enough x y u) u (fX10_enough x y v) (sI v 0 0 0) := by
  have hN0 := hN.th (x := 0)
  obtain ⟨hE, hO, ho, hm, hc, hs, hv⟩ := hN0
  have hp6 := hE.1
  have h54 := tk_le hE hv
  have mT : fX10_sumOf 16 (sI v 0 0 0) = some (nI (sumN (tkS s) Z.1), sI v 0 0 0) := m_allT (b := 0) hE hm hv hs (by decide)
  unfold fX9_enough fX10_enough
  rcases isP Z hE.1 x with ⟨p, hp, rfl⟩ | hx
  · rw [c_hasP1 hE hO hp, m_isP1 hE hm hp]
    simp only [i10, i00, decide_true, decide_false, cnd_t, cnd_f, gd_nil, gd_t, b1_0, b1_1, sw_nil, sw_cons, obs, fX10_in]
    have e16 := hs.at (k := 16 + p) (by omega) (show 16 + p = 0 + (16 + p) by omega)
    rw [show (99 : Int32) = nI 99 from rfl]
    rcases rng1 y 99 (by decide) with ⟨k, k1, k2, rfl⟩ | hy
    · have e1 : ¬ k < 1 := by omega
      simp (disch := first | omega | decide) only [i10, i00, decide_true, decide_false, cnd_t, cnd_f, gd_nil, gd_t, b1_0, b1_1, sw_nil, sw_cons, obs, nI_lto, nI_le2, e1, k2, Bool.not_false, Bool.and_self, b01_t]
      rw [c_allT hE hv hc, mT]
      simp only [obs]
      rw [c_tick hc (by omega)]
      simp (disch := first | omega | decide) only [i10, i00, decide_true, decide_false, cnd_t, cnd_f, gd_nil, gd_t, b1_0, b1_1, sw_nil, sw_cons, obs, nI_oadd, ix_nI, nc_nI, e16]
      obtain ⟨r, h1, h2⟩ := q_enough44 (u := u) (x := nI k) (y := nI (sumN (tkS s) Z.1) - s (16 + p)) 99 1 fu fu (sI v 0 0 0) rfl (by decide) (by decide)
      exact ⟨r, h1, (wp_eq h2).mpr ⟨rfl, Fr.rfl'⟩⟩
    · rcases hy with hy | ⟨hy1, hy2⟩
      · simp only [hy, i10, i00, decide_true, decide_false, cnd_t, cnd_f, gd_nil, gd_t, b1_0, b1_1, sw_nil, sw_cons, obs, Bool.not_true, Bool.false_and, b01_f]
        exact qP.ret
      · simp only [hy1, hy2, i10, i00, decide_true, decide_false, cnd_t, cnd_f, gd_nil, gd_t, b1_0, b1_1, sw_nil, sw_cons, obs, Bool.not_false, Bool.and_false, b01_f]
        exact qP.ret
  · rw [c_hasP0 hO hx, m_isP0 hE hm hx]
    simp only [i10, i00, decide_true, decide_false, cnd_t, cnd_f, gd_nil, gd_t, b1_0, b1_1, sw_nil, sw_cons, obs]
    exact qP.ret
theorem q_run54 (hE : pE Z) {a t p : Nat} (ha : 0 < a) (ha2 : a ≤ 54) (hta : t ≤ a) (ht0 : 0 < t) (ht : s (16 + p) = nI t) (hp : p < Z.1) : ∀ (d i n m : Nat) (w : Int64) (v : ab_S), pm_O Z v → pm_S 0 s v → i + d = 100 → d < n → d < m → ∃ r, fX9_run_54 n (lN a) (lN (a - t)) w (nI i) u = some (r, u) ∧ fX10_run_19 m (nI p) (nI a) w (nI i) v = some (r, v) := by
  have hp6 := hE.1
  obtain ⟨g1, g2⟩ := lN_pos (n := a) ha (by omega)
  intro d
  induction d with
  | zero =>
    intro i n m w v hm1 hs hi hn hm
    obtain ⟨n, rfl⟩ : ∃ j, n = j + 1 := ⟨n - 1, by omega⟩
    obtain ⟨m, rfl⟩ : ∃ j, m = j + 1 := ⟨m - 1, by omega⟩
    have e : ¬ i ≤ 99 := by omega
    rw [fX9_run_54, fX10_run_19]
    simp (disch := first | omega | decide) only [i10, i00, decide_true, decide_false, cnd_t, cnd_f, gd_nil, gd_t, b1_0, b1_1, sw_nil, sw_cons, obs, nI_leo, e]
    exact ⟨_, rfl, rfl⟩
  | succ d ih =>
    intro i n m w v hm1 hs hi hn hm
    obtain ⟨n, rfl⟩ : ∃ j, n = j + 1 := ⟨n - 1, by omega⟩
    obtain ⟨m, rfl⟩ : ∃ j, m = j + 1 := ⟨m - 1, by omega⟩
    have e : i ≤ 99 := by omega
    have e16 := hs.at (k := 16 + p) (by omega) (show 16 + p = 0 + (16 + p) by omega)
    have et : ¬ t ≤ 0 := by omega
    rw [fX9_run_54, fX10_run_19, m_isP1 hE hm1 hp]
    simp (disch := first | omega | decide) only [i10, i00, decide_true, decide_false, cnd_t, cnd_f, gd_nil, gd_t, b1_0, b1_1, sw_nil, sw_cons, obs, nI_leo, e, g1, g2, not_false_eq_true, nI_oadd, ix_nI, nc_nI, e16, ht, et, nI_sub, nI_l]
    by_cases e2 : w * lN (a - t) / lN a ≤ 500000
    · simp only [e2, i10, i00, decide_true, decide_false, cnd_t, cnd_f, gd_nil, gd_t, b1_0, b1_1, sw_nil, sw_cons, obs]
      exact ⟨_, rfl, rfl⟩
    · simp only [e2, i10, i00, decide_true, decide_false, cnd_t, cnd_f, gd_nil, gd_t, b1_0, b1_1, sw_nil, sw_cons, obs, nI_addo]
      exact ih (i + 1) n m _ v hm1 hs (by omega) (by omega) (by omega)
theorem q_run (hN : pN Z s u v) (x : Int32) : qP (fX9_run x u) u (fX10_run x v) (sI v 0 0 0) := by
  have hN0 := hN.th (x := 0)
  obtain ⟨hE, hO, ho, hm, hc, hs, hv⟩ := hN0
  have hp6 := hE.1
  have h54 := tk_le hE hv
  have mT : fX10_sumOf 16 (sI v 0 0 0) = some (nI (sumN (tkS s) Z.1), sI v 0 0 0) := m_allT (b := 0) hE hm hv hs (by decide)
  unfold fX9_run fX10_run
  rw [mT]
  simp only [obs]
  have f5 : fu = 4999 + 1 := rfl
  rcases isP Z hE.1 x with ⟨p, hp, rfl⟩ | hx
  · rw [c_hasP1 hE hO hp]
    simp only [i10, i00, decide_true, decide_false, cnd_t, cnd_f, gd_nil, gd_t, b1_0, b1_1, sw_nil, sw_cons, obs]
    rw [c_tick hc (by omega)]
    simp only [i10, i00, decide_true, decide_false, cnd_t, cnd_f, gd_nil, gd_t, b1_0, b1_1, sw_nil, sw_cons, obs]
    obtain ⟨t1, t2⟩ := tk_eq hv (p := p) (by omega)
    have hta := sumN_ge (f := tkS s) hp
    have e16 := hs.at (k := 16 + p) (by omega) (show 16 + p = 0 + (16 + p) by omega)
    rw [t1]
    simp (disch := first | omega | decide) only [nI_leo]
    by_cases e : tkS s p ≤ 0
    · simp only [e, i10, i00, decide_true, decide_false, cnd_t, cnd_f, gd_nil, gd_t, b1_0, b1_1, sw_nil, sw_cons, obs]
      refine ⟨_, rfl, ?_⟩
      rw [f5, fX10_run_19, m_isP1 hE hm hp]
      have h1 : ((1 : Int32) ≤ 99) = True := eq_true (by decide +kernel)
      simp (disch := first | omega | decide) only [i10, i00, decide_true, decide_false, cnd_t, cnd_f, gd_nil, gd_t, b1_0, b1_1, sw_nil, sw_cons, obs, h1, nI_oadd, ix_nI, nc_nI, e16, t1, nI_leo, e, wp_ret]
      exact ⟨trivial, Fr.rfl'⟩
    · simp only [e, i10, i00, decide_true, decide_false, cnd_t, cnd_f, gd_nil, gd_t, b1_0, b1_1, sw_nil, sw_cons, obs]
      rw [c_allT hE hv hc]
      simp only [i10, i00, decide_true, decide_false, cnd_t, cnd_f, gd_nil, gd_t, b1_0, b1_1, sw_nil, sw_cons, obs]
      rw [c_tick hc (by omega), t1]
      simp (disch := first | omega | decide) only [i10, i00, decide_true, decide_false, cnd_t, cnd_f, gd_nil, gd_t, b1_0, b1_1, sw_nil, sw_cons, obs, nI_l, lN_sub]
      obtain ⟨r, h1, h2⟩ := q_run54 (u := u) (a := sumN (tkS s) Z.1) (t := tkS s p) (p := p) hE (by omega) h54 hta (by omega) t1 hp 99 1 fu fu 1000000 (sI v 0 0 0) hm hs rfl (by decide) (by decide)
      exact ⟨r, h1, (wp_eq h2).mpr ⟨rfl, Fr.rfl'⟩⟩
  · rw [c_hasP0 hO hx]
    simp only [i10, i00, decide_true, decide_false, cnd_t, cnd_f, gd_nil, gd_t, b1_0, b1_1, sw_nil, sw_cons, obs]
    refine ⟨_, rfl, ?_⟩
    rw [f5, fX10_run_19, m_isP0 hE hm hx]
    have h1 : ((1 : Int32) ≤ 99) = True := eq_true (by decide +kernel)
    simp only [i10, i00, decide_true, decide_false, cnd_t, cnd_f, gd_nil, gd_t, b1_0, b1_1, sw_nil, sw_cons, obs, h1, wp_ret]
    exact ⟨trivial, Fr.rfl'⟩
end PU
