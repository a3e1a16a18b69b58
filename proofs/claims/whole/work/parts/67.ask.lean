/-! questions: what is told, how it stands, what a thing is to whom -/
def pN (Z : dZ) (s : Nat → Int32) (u v : ab_S) : Prop := pE Z ∧ (pc_O Z (u.2.2 0) u ∧ (u.2.2 0 + 12 ≤ 38 ∧ (pm_O Z v ∧ (pc_S 38 s u ∧ (pm_S 0 s v ∧ pv_S Z s)))))
def qP (x : Option (Int32 × ab_S)) (u : ab_S) (y : Option (Int32 × ab_S)) (v : ab_S) : Prop := ∃ r, x = some (r, u) ∧ Wp y (fun r' v' => r' = r ∧ Sc v v')
theorem qP.ret {r : Int32} {u v : ab_S} : qP (some (r, u)) u (some (r, v)) v := ⟨r, rfl, wp_ret.mpr ⟨rfl, Fr.rfl'⟩⟩
theorem qP.sc {x y : Option (Int32 × ab_S)} {u v w : ab_S} (s : Sc v w) (h : qP x u y w) : qP x u y v := by
  obtain ⟨r, h1, h2⟩ := h
  exact ⟨r, h1, h2.mono fun r' v' z => ⟨z.1, s.trans z.2⟩⟩
theorem fX10_in {x lo hi : Int32} {v : ab_S} : fX10_within x lo hi v = some (b01 (!decide (x < lo) && decide (x ≤ hi)), v) := by
  unfold fX10_within
  by_cases h : x < lo
  · simp only [h, i10, i00, decide_true, decide_false, cnd_t, cnd_f, gd_nil, gd_t, b1_0, b1_1, sw_nil, sw_cons, obs, Bool.not_true, Bool.false_and, b01_f]
  · by_cases h2 : x ≤ hi
    · simp only [h, h2, i10, i00, decide_true, decide_false, cnd_t, cnd_f, gd_nil, gd_t, b1_0, b1_1, sw_nil, sw_cons, obs, Bool.not_false, Bool.and_self, b01_t]
    · simp only [h, h2, i10, i00, decide_true, decide_false, cnd_t, cnd_f, gd_nil, gd_t, b1_0, b1_1, sw_nil, sw_cons, obs, Bool.not_false, Bool.true_and, b01_f]
theorem in_c (x : Int32) (n : Nat) (hn : n < 2147483648) : (∃ k, k ≤ n ∧ x = nI k) ∨ ((!decide (x < 0) && decide (x ≤ nI n)) = false ∧ ∀ k, k ≤ n → x ≠ nI k) := by
  by_cases h : x < 0
  · right
    refine ⟨by simp only [h, decide_true, Bool.not_true, Bool.false_and], fun k hk e => ?_⟩
    rw [e] at h
    exact nI_pos (Nat.lt_of_le_of_lt hk hn) h
  · by_cases h2 : x ≤ nI n
    · left
      exact (nI_inRo hn).mp ⟨h, h2⟩
    · right
      refine ⟨by simp only [h2, decide_false, Bool.and_false], fun k hk e => ?_⟩
      rw [e] at h2
      exact h2 (nI_le hk hn)
theorem in_t {k n : Nat} (h : k ≤ n) (hn : n < 2147483648) : (!decide (nI k < 0) && decide (nI k ≤ nI n)) = true := by
  simp (disch := first | omega | decide) only [nI_lt0, nI_le2, h, decide_true, decide_false, Bool.not_false, Bool.and_self]
section PU
variable {Z : dZ} {s : Nat → Int32} {u v : ab_S}
theorem pN.sc (h : pN Z s u v) {w : ab_S} (k : Sc v w) : pN Z s u w := ⟨h.1, h.2.1, h.2.2.1, h.2.2.2.1.sc k, h.2.2.2.2.1, h.2.2.2.2.2.1.sc k, h.2.2.2.2.2.2⟩
theorem pN.th (h : pN Z s u v) {x : Int32} : pN Z s u (sI v 0 0 x) := by
  have f : Fr (fun a _ => a = 0) v (sI v 0 0 x) := Fr.sI rfl
  exact ⟨h.1, h.2.1, h.2.2.1, h.2.2.2.1.fr f (by intro a k h1 h2 q; omega), h.2.2.2.2.1, h.2.2.2.2.2.1.fr f (by intro k h1 q; omega), h.2.2.2.2.2.2⟩
theorem m_held0 (hE : pE Z) (h : pm_O Z v) (hS0 : pm_S 0 s v) (x : Int32) : fX10_heldBy 0 x v = some (nI (hS Z s x), v) := m_held (b := 0) hE h hS0 (by decide) x
theorem m_rights0 (hE : pE Z) (hm : pm_O Z v) (h : pm_S 0 s v) : fX10_rightsOf 0 v = some (nI (rS Z s), v) := m_rights (b := 0) hE hm h (by decide)
theorem q_person (hN : pN Z s u v) (x y : Int32) : qP (fX9_person x y u) u (fX10_person x y v) (sI v 0 0 0) := by
  have hN0 := hN.th (x := 0)
  obtain ⟨hE, hO, ho, hm, hc, hs, hv⟩ := hN0
  have hp6 := hE.1
  unfold fX9_person fX10_person
  rcases isP Z hE.1 x with ⟨p, hp, rfl⟩ | hx
  · rw [c_hasP1 hE hO hp, m_isP1 hE hm hp]
    simp (disch := first | omega | decide) only [i10, i00, decide_true, decide_false, cnd_t, cnd_f, gd_nil, gd_t, b1_0, b1_1, sw_nil, sw_cons, obs, Nat.not_lt_zero, nI_addo, nI_oadd, nI_add, nI_mulo, nI_omul, nI_mul, nI_lto, nI_leo, nI_olt, nI_ole, nI_eqo, nI_oeq, nI_lt2, nI_le2, nI_eq2, nI_nm1, nI_m1n, nI_lt0, nI_lem1, nc_nI, nc_o, ix_nI, ix_o, fX10_in, b01_0]
    have e1 : (0 : Int32) = nI 0 := rfl
    rw [show (3 : Int32) = nI 3 from rfl]
    rcases in_c y 3 (by decide) with ⟨k, hk, rfl⟩ | ⟨h1, h2⟩
    · rw [in_t hk (by decide)]
      have hk : k = 0 ∨ k = 1 ∨ k = 2 ∨ k = 3 := by omega
      rcases hk with rfl | rfl | rfl | rfl
      · simp (disch := first | omega | decide) only [i10, i00, decide_true, decide_false, cnd_t, cnd_f, gd_nil, gd_t, b1_0, b1_1, sw_nil, sw_cons, obs, Nat.not_lt_zero, nI_addo, nI_oadd, nI_add, nI_mulo, nI_omul, nI_mul, nI_lto, nI_leo, nI_olt, nI_ole, nI_eqo, nI_oeq, nI_lt2, nI_le2, nI_eq2, nI_nm1, nI_m1n, nI_lt0, nI_lem1, nc_nI, nc_o, ix_nI, ix_o]
        rw [c_kind hE hO hp, m_kind hE hm hp]
        exact qP.ret
      · simp (disch := first | omega | decide) only [i10, i00, decide_true, decide_false, cnd_t, cnd_f, gd_nil, gd_t, b1_0, b1_1, sw_nil, sw_cons, obs, Nat.not_lt_zero, nI_addo, nI_oadd, nI_add, nI_mulo, nI_omul, nI_mul, nI_lto, nI_leo, nI_olt, nI_ole, nI_eqo, nI_oeq, nI_lt2, nI_le2, nI_eq2, nI_nm1, nI_m1n, nI_lt0, nI_lem1, nc_nI, nc_o, ix_nI, ix_o, hs.at (k := 10 + p) (by omega) (show 10 + p = 0 + (10 + p) by omega)]
        rw [c_coin hc (by omega)]
        exact qP.ret
      · simp (disch := first | omega | decide) only [i10, i00, decide_true, decide_false, cnd_t, cnd_f, gd_nil, gd_t, b1_0, b1_1, sw_nil, sw_cons, obs, Nat.not_lt_zero, nI_addo, nI_oadd, nI_add, nI_mulo, nI_omul, nI_mul, nI_lto, nI_leo, nI_olt, nI_ole, nI_eqo, nI_oeq, nI_lt2, nI_le2, nI_eq2, nI_nm1, nI_m1n, nI_lt0, nI_lem1, nc_nI, nc_o, ix_nI, ix_o, hs.at (k := 16 + p) (by omega) (show 16 + p = 0 + (16 + p) by omega)]
        rw [c_tick hc (by omega)]
        exact qP.ret
      · simp (disch := first | omega | decide) only [i10, i00, decide_true, decide_false, cnd_t, cnd_f, gd_nil, gd_t, b1_0, b1_1, sw_nil, sw_cons, obs, Nat.not_lt_zero, nI_addo, nI_oadd, nI_add, nI_mulo, nI_omul, nI_mul, nI_lto, nI_leo, nI_olt, nI_ole, nI_eqo, nI_oeq, nI_lt2, nI_le2, nI_eq2, nI_nm1, nI_m1n, nI_lt0, nI_lem1, nc_nI, nc_o, ix_nI, ix_o]
        rw [c_bits hE hv hc hp, m_held0 hE hm hs]
        exact qP.ret
    · rw [h1]
      have n0 : (y = 0) = False := eq_false (h2 0 (by decide))
      have n1 : (y = 1) = False := eq_false (h2 1 (by decide))
      have n2 : (y = 2) = False := eq_false (h2 2 (by decide))
      have n3 : (y = nI 3) = False := eq_false (h2 3 (by decide))
      simp only [n0, n1, n2, n3, i10, i00, decide_true, decide_false, cnd_t, cnd_f, gd_nil, gd_t, b1_0, b1_1, sw_nil, sw_cons, obs]
      exact qP.ret
  · rw [c_hasP0 hO hx, m_isP0 hE hm hx]
    simp only [i10, i00, decide_true, decide_false, cnd_t, cnd_f, gd_nil, gd_t, b1_0, b1_1, sw_nil, sw_cons, obs]
    exact qP.ret
theorem q_good (hN : pN Z s u v) (x y : Int32) : qP (fX9_good x y u) u (fX10_good x y v) (sI v 0 0 0) := by
  have hN0 := hN.th (x := 0)
  obtain ⟨hE, hO, ho, hm, hc, hs, hv⟩ := hN0
  have hg := hE.2.1
  unfold fX9_good fX10_good
  rcases isG Z hE.2.1 x with ⟨p, hp, rfl⟩ | hx
  · rw [c_hasG1 hE hO hp, m_isG1 hE hm hp]
    simp (disch := first | omega | decide) only [i10, i00, decide_true, decide_false, cnd_t, cnd_f, gd_nil, gd_t, b1_0, b1_1, sw_nil, sw_cons, obs, Nat.not_lt_zero, nI_addo, nI_oadd, nI_add, nI_mulo, nI_omul, nI_mul, nI_lto, nI_leo, nI_olt, nI_ole, nI_eqo, nI_oeq, nI_lt2, nI_le2, nI_eq2, nI_nm1, nI_m1n, nI_lt0, nI_lem1, nc_nI, nc_o, ix_nI, ix_o, fX10_in, b01_0]
    rw [show (2 : Int32) = nI 2 from rfl]
    rcases in_c y 2 (by decide) with ⟨k, hk, rfl⟩ | ⟨h1, h2⟩
    · rw [in_t hk (by decide)]
      have hk : k = 0 ∨ k = 1 ∨ k = 2 := by omega
      rcases hk with rfl | rfl | rfl
      · simp (disch := first | omega | decide) only [i10, i00, decide_true, decide_false, cnd_t, cnd_f, gd_nil, gd_t, b1_0, b1_1, sw_nil, sw_cons, obs, Nat.not_lt_zero, nI_addo, nI_oadd, nI_add, nI_mulo, nI_omul, nI_mul, nI_lto, nI_leo, nI_olt, nI_ole, nI_eqo, nI_oeq, nI_lt2, nI_le2, nI_eq2, nI_nm1, nI_m1n, nI_lt0, nI_lem1, nc_nI, nc_o, ix_nI, ix_o]
        rw [c_worth hE hO hp, show nI 0 = 0 from rfl, m_worth hE hm hp]
        exact qP.ret
      · simp (disch := first | omega | decide) only [i10, i00, decide_true, decide_false, cnd_t, cnd_f, gd_nil, gd_t, b1_0, b1_1, sw_nil, sw_cons, obs, Nat.not_lt_zero, nI_addo, nI_oadd, nI_add, nI_mulo, nI_omul, nI_mul, nI_lto, nI_leo, nI_olt, nI_ole, nI_eqo, nI_oeq, nI_lt2, nI_le2, nI_eq2, nI_nm1, nI_m1n, nI_lt0, nI_lem1, nc_nI, nc_o, ix_nI, ix_o]
        rw [c_own hE hO hp, show nI 1 = 1 from rfl, m_own hE hm hp]
        exact qP.ret
      · simp (disch := first | omega | decide) only [i10, i00, decide_true, decide_false, cnd_t, cnd_f, gd_nil, gd_t, b1_0, b1_1, sw_nil, sw_cons, obs, Nat.not_lt_zero, nI_addo, nI_oadd, nI_add, nI_mulo, nI_omul, nI_mul, nI_lto, nI_leo, nI_olt, nI_ole, nI_eqo, nI_oeq, nI_lt2, nI_le2, nI_eq2, nI_nm1, nI_m1n, nI_lt0, nI_lem1, nc_nI, nc_o, ix_nI, ix_o, hs.at (k := 2 + p) (by omega) (show 2 + p = 0 + (2 + p) by omega)]
        rw [c_hold hc (by omega)]
        exact qP.ret
    · rw [h1]
      have n0 : (y = 0) = False := eq_false (h2 0 (by decide))
      have n1 : (y = 1) = False := eq_false (h2 1 (by decide))
      have n2 : (y = nI 2) = False := eq_false (h2 2 (by decide))
      simp only [n0, n1, n2, i10, i00, decide_true, decide_false, cnd_t, cnd_f, gd_nil, gd_t, b1_0, b1_1, sw_nil, sw_cons, obs]
      exact qP.ret
  · rw [c_hasG0 hO hx, m_isG0 hE hm hx]
    simp only [i10, i00, decide_true, decide_false, cnd_t, cnd_f, gd_nil, gd_t, b1_0, b1_1, sw_nil, sw_cons, obs]
    exact qP.ret
theorem q_fit (hN : pN Z s u v) (x y : Int32) : qP (fX9_fit x y u) u (fX10_fit x y v) (sI v 0 0 0) := by
  have hN0 := hN.th (x := 0)
  obtain ⟨hE, hO, ho, hm, hc, hs, hv⟩ := hN0
  unfold fX9_fit fX10_fit
  rcases isP Z hE.1 x with ⟨p, hp, rfl⟩ | hx
  · rw [c_hasP1 hE hO hp, m_isP1 hE hm hp]
    simp (disch := first | omega | decide) only [i10, i00, decide_true, decide_false, cnd_t, cnd_f, gd_nil, gd_t, b1_0, b1_1, sw_nil, sw_cons, obs, Nat.not_lt_zero, nI_addo, nI_oadd, nI_add, nI_mulo, nI_omul, nI_mul, nI_lto, nI_leo, nI_olt, nI_ole, nI_eqo, nI_oeq, nI_lt2, nI_le2, nI_eq2, nI_nm1, nI_m1n, nI_lt0, nI_lem1, nc_nI, nc_o, ix_nI, ix_o]
    rcases isG Z hE.2.1 y with ⟨k, hk, rfl⟩ | hy
    · rw [c_hasG1 hE hO hk, m_isG1 hE hm hk]
      simp (disch := first | omega | decide) only [i10, i00, decide_true, decide_false, cnd_t, cnd_f, gd_nil, gd_t, b1_0, b1_1, sw_nil, sw_cons, obs, Nat.not_lt_zero, nI_addo, nI_oadd, nI_add, nI_mulo, nI_omul, nI_mul, nI_lto, nI_leo, nI_olt, nI_ole, nI_eqo, nI_oeq, nI_lt2, nI_le2, nI_eq2, nI_nm1, nI_m1n, nI_lt0, nI_lem1, nc_nI, nc_o, ix_nI, ix_o]
      rw [c_fitOf hE hO hv hc hp hk]
      refine ⟨_, rfl, ?_⟩
      rw [wp_bind]
      exact m_fitOf (b := 0) hE hm hs (by decide) hp hk fun v' s' => wp_ret.mpr ⟨rfl, s'⟩
    · rw [c_hasG0 hO hy, m_isG0 hE hm hy]
      simp only [i10, i00, decide_true, decide_false, cnd_t, cnd_f, gd_nil, gd_t, b1_0, b1_1, sw_nil, sw_cons, obs]
      exact qP.ret
  · rw [c_hasP0 hO hx, m_isP0 hE hm hx]
    simp only [i10, i00, decide_true, decide_false, cnd_t, cnd_f, gd_nil, gd_t, b1_0, b1_1, sw_nil, sw_cons, obs]
    exact qP.ret
theorem q_rights (hN : pN Z s u v) : qP (fX9_rights u) u (fX10_rights v) (sI v 0 0 0) := by
  have hN0 := hN.th (x := 0)
  obtain ⟨hE, hO, ho, hm, hc, hs, hv⟩ := hN0
  unfold fX9_rights fX10_rights
  rw [c_rights hE hO hc, m_rights0 hE hm hs]
  exact qP.ret
theorem q_joy (hN : pN Z s u v) (x : Int32) : qP (fX9_joy x u) u (fX10_joy x v) (sI v 0 0 0) := by
  have hN0 := hN.th (x := 0)
  obtain ⟨hE, hO, ho, hm, hc, hs, hv⟩ := hN0
  unfold fX9_joy fX10_joy
  rcases isP Z hE.1 x with ⟨p, hp, rfl⟩ | hx
  · rw [c_hasP1 hE hO hp, m_isP1 hE hm hp]
    simp (disch := first | omega | decide) only [i10, i00, decide_true, decide_false, cnd_t, cnd_f, gd_nil, gd_t, b1_0, b1_1, sw_nil, sw_cons, obs, Nat.not_lt_zero, nI_addo, nI_oadd, nI_add, nI_mulo, nI_omul, nI_mul, nI_lto, nI_leo, nI_olt, nI_ole, nI_eqo, nI_oeq, nI_lt2, nI_le2, nI_eq2, nI_nm1, nI_m1n, nI_lt0, nI_lem1, nc_nI, nc_o, ix_nI, ix_o]
    rw [c_joy hE hO hv hc hp]
    refine ⟨_, rfl, ?_⟩
    rw [wp_bind]
    exact m_joy (b := 0) hE hm hs (by decide) hp fun v' s' => wp_ret.mpr ⟨rfl, s'⟩
  · rw [c_hasP0 hO hx, m_isP0 hE hm hx]
    simp only [i10, i00, decide_true, decide_false, cnd_t, cnd_f, gd_nil, gd_t, b1_0, b1_1, sw_nil, sw_cons, obs]
    exact qP.ret
theorem q_envy19 {p : Nat} : ∀ (d k n m : Nat) (a : Int32) (v : ab_S), pN Z s u v → p < Z.1 → k + d = Z.1 → d < n → d < m → qP (fX9_envy_32 n (nI p) (nI (allS Z s p p)) a (nI k) u) u (fX10_envy_19 m (nI p) a (nI k) v) v := by
  intro d
  induction d with
  | zero =>
    intro k n m a v hN hp hk hn hmf
    obtain ⟨hE, hO, ho, hm, hc, hs, hv⟩ := hN
    have hp6 := hE.1
    obtain ⟨n, rfl⟩ : ∃ i, n = i + 1 := ⟨n - 1, by omega⟩
    obtain ⟨m, rfl⟩ : ∃ i, m = i + 1 := ⟨m - 1, by omega⟩
    have e : k = Z.1 := by omega
    subst e
    rw [fX9_envy_32, fX10_envy_19, hO.1, m_persons hE hm]
    simp (disch := first | omega | decide) only [i10, i00, decide_true, decide_false, cnd_t, cnd_f, gd_nil, gd_t, b1_0, b1_1, sw_nil, sw_cons, obs, Nat.not_lt_zero, nI_addo, nI_oadd, nI_add, nI_mulo, nI_omul, nI_mul, nI_lto, nI_leo, nI_olt, nI_ole, nI_eqo, nI_oeq, nI_lt2, nI_le2, nI_eq2, nI_nm1, nI_m1n, nI_lt0, nI_lem1, nc_nI, nc_o, ix_nI, ix_o, Nat.lt_irrefl]
    exact qP.ret
  | succ d ih =>
    intro k n m a v hN hp hk hn hmf
    have hN' := hN
    obtain ⟨hE, hO, ho, hm, hc, hs, hv⟩ := hN
    have hp6 := hE.1
    obtain ⟨n, rfl⟩ : ∃ i, n = i + 1 := ⟨n - 1, by omega⟩
    obtain ⟨m, rfl⟩ : ∃ i, m = i + 1 := ⟨m - 1, by omega⟩
    have hk8 : k < Z.1 := by omega
    have l1 := allS_le hE (s := s) p k
    have l2 := allS_le hE (s := s) p p
    rw [fX9_envy_32, fX10_envy_19, hO.1, m_persons hE hm]
    simp (disch := first | omega | decide) only [i10, i00, decide_true, decide_false, cnd_t, cnd_f, gd_nil, gd_t, b1_0, b1_1, sw_nil, sw_cons, obs, nI_lt2, hk8]
    rw [c_all hE hO hv hc hp hk8, m_held0 hE hm hs]
    simp (disch := first | omega | decide) only [i10, i00, decide_true, decide_false, cnd_t, cnd_f, gd_nil, gd_t, b1_0, b1_1, sw_nil, sw_cons, obs, nI_eq2, nI_le2, nI_addo]
    by_cases e : k = p
    · subst e
      simp only [Nat.le_refl, i10, i00, decide_true, decide_false, cnd_t, cnd_f, gd_nil, gd_t, b1_0, b1_1, sw_nil, sw_cons, obs, Int32.or_zero]
      exact ih (k + 1) n m a v hN' hp (by omega) (by omega) (by omega)
    · simp only [e, i10, i00, decide_true, decide_false, cnd_t, cnd_f, gd_nil, gd_t, b1_0, b1_1, sw_nil, sw_cons, obs]
      rw [pc_m (hS_lt hE _)]
      simp only [i10, i00, decide_true, decide_false, cnd_t, cnd_f, gd_nil, gd_t, b1_0, b1_1, sw_nil, sw_cons, obs]
      have key : ∀ v', Sc v v' → qP (bif decide (allS Z s p k ≤ allS Z s p p) then fX9_envy_32 n (nI p) (nI (allS Z s p p)) a (nI (k + 1)) u else fX9_envy_32 n (nI p) (nI (allS Z s p p)) (a ||| ((1 : Int32) <<< (nI k &&& 31))) (nI (k + 1)) u) u (bif decide (allS Z s p k ≤ allS Z s p p) then fX10_envy_19 m (nI p) (a ||| 0) (nI (k + 1)) v' else fX10_envy_19 m (nI p) (a ||| ((1 : Int32) <<< (nI k &&& 31))) (nI (k + 1)) v') v := by
        intro v' s'
        refine qP.sc s' ?_
        by_cases e2 : allS Z s p k ≤ allS Z s p p
        · simp only [e2, i10, i00, decide_true, decide_false, cnd_t, cnd_f, gd_nil, gd_t, b1_0, b1_1, sw_nil, sw_cons, obs, Int32.or_zero]
          exact ih (k + 1) n m a v' (hN'.sc s') hp (by omega) (by omega) (by omega)
        · simp only [e2, i10, i00, decide_true, decide_false, cnd_t, cnd_f, gd_nil, gd_t, b1_0, b1_1, sw_nil, sw_cons, obs]
          exact ih (k + 1) n m _ v' (hN'.sc s') hp (by omega) (by omega) (by omega)
      obtain ⟨r, h1, -⟩ := key v Fr.rfl'
      refine ⟨r, h1, ?_⟩
      rw [wp_bind]
      refine m_all hE hm hp (hS_lt2 _) fun v1 s1 => ?_
      rw [wp_bind]
      refine m_joy (b := 0) hE (hm.sc s1) (hs.sc s1) (by decide) hp fun v2 s2 => ?_
      obtain ⟨r2, h3, h4⟩ := key v2 (s1.trans s2)
      have er : r2 = r := congrArg Prod.fst (Option.some.inj (h3.symm.trans h1))
      subst er
      have ea : sumN (allT Z (hS Z s (nI k)) p (pc (hS Z s (nI k)) - 1)) Z.2.1 = allS Z s p k := rfl
      rw [ea]
      simp (disch := first | omega | decide) only [nI_le2]
      exact h4
theorem q_envy (hN : pN Z s u v) (x : Int32) : qP (fX9_envy x u) u (fX10_envy x v) (sI v 0 0 0) := by
  have hN0 := hN.th (x := 0)
  have hN1 := hN0
  obtain ⟨hE, hO, ho, hm, hc, hs, hv⟩ := hN0
  have hp6 := hE.1
  unfold fX9_envy fX10_envy
  rcases isP Z hE.1 x with ⟨p, hp, rfl⟩ | hx
  · rw [c_hasP1 hE hO hp, m_isP1 hE hm hp]
    simp (disch := first | omega | decide) only [i10, i00, decide_true, decide_false, cnd_t, cnd_f, gd_nil, gd_t, b1_0, b1_1, sw_nil, sw_cons, obs, Nat.not_lt_zero, nI_addo, nI_oadd, nI_add, nI_mulo, nI_omul, nI_mul, nI_lto, nI_leo, nI_olt, nI_ole, nI_eqo, nI_oeq, nI_lt2, nI_le2, nI_eq2, nI_nm1, nI_m1n, nI_lt0, nI_lem1, nc_nI, nc_o, ix_nI, ix_o]
    rw [c_all hE hO hv hc hp hp]
    simp only [i10, i00, decide_true, decide_false, cnd_t, cnd_f, gd_nil, gd_t, b1_0, b1_1, sw_nil, sw_cons, obs]
    exact q_envy19 Z.1 0 fu fu 0 _ hN1 hp (Nat.zero_add _) (by simp only [fu]; omega) (by simp only [fu]; omega)
  · rw [c_hasP0 hO hx, m_isP0 hE hm hx]
    simp only [i10, i00, decide_true, decide_false, cnd_t, cnd_f, gd_nil, gd_t, b1_0, b1_1, sw_nil, sw_cons, obs]
    exact qP.ret
-- ===== the first that fits the most =====
def wst (val : Nat → Nat) (inn : Nat → Bool) : Nat → Option (Nat × Nat)
  | 0 => none
  | n + 1 => if inn n then (match wst val inn n with
    | none => some (n, val n)
    | some q => if q.2 < val n then some (n, val n) else some q) else wst val inn n
def wb : Option (Nat × Nat) → Int32
  | none => -1
  | some q => nI q.1
def wm : Option (Nat × Nat) → Int32
  | none => -1
  | some q => nI q.2
theorem wst_ok {val : Nat → Nat} {inn : Nat → Bool} : ∀ n, (wst val inn n = none ∧ ∀ j, j < n → inn j = false) ∨ ∃ q, wst val inn n = some q ∧ q.1 < n ∧ inn q.1 = true ∧ q.2 = val q.1 ∧ (∀ j, j < n → inn j = true → val j ≤ q.2) ∧ ∀ j, j < q.1 → inn j = true → val j < q.2
  | 0 => Or.inl ⟨rfl, fun j hj => absurd hj (Nat.not_lt_zero j)⟩
  | n + 1 => by
    have h := wst_ok (val := val) (inn := inn) n
    rw [wst]
    by_cases e : inn n = true
    · rw [if_pos e]
      right
      rcases h with ⟨h1, h2⟩ | ⟨q, h1, h2, h3, h4, h5, h6⟩
      · rw [h1]
        refine ⟨(n, val n), rfl, Nat.lt_succ_self n, e, rfl, fun j hj hi => ?_, fun j hj hi => ?_⟩
        · by_cases e2 : j = n
          · subst e2; exact Nat.le_refl _
          · rw [h2 j (by omega)] at hi; cases hi
        · have hj : j < n := hj
          rw [h2 j hj] at hi; cases hi
      · rw [h1]
        show ∃ q', (if q.2 < val n then some (n, val n) else some q) = some q' ∧ _
        by_cases e3 : q.2 < val n
        · rw [if_pos e3]
          refine ⟨(n, val n), rfl, Nat.lt_succ_self n, e, rfl, fun j hj hi => ?_, fun j hj hi => ?_⟩
          · by_cases e2 : j = n
            · subst e2; exact Nat.le_refl _
            · have := h5 j (by omega) hi
              show val j ≤ val n
              omega
          · have hj : j < n := hj
            have := h5 j hj hi
            show val j < val n
            omega
        · rw [if_neg e3]
          refine ⟨q, rfl, by omega, h3, h4, fun j hj hi => ?_, h6⟩
          by_cases e2 : j = n
          · subst e2; omega
          · exact h5 j (by omega) hi
    · rw [if_neg e]
      rcases h with ⟨h1, h2⟩ | ⟨q, h1, h2, h3, h4, h5, h6⟩
      · refine Or.inl ⟨h1, fun j hj => ?_⟩
        by_cases e2 : j = n
        · subst e2
          cases h : inn j
          · rfl
          · exact absurd h e
        · exact h2 j (by omega)
      · refine Or.inr ⟨q, h1, by omega, h3, h4, fun j hj hi => ?_, h6⟩
        by_cases e2 : j = n
        · subst e2; exact absurd hi e
        · exact h5 j (by omega) hi
theorem wst_val {val : Nat → Nat} {inn : Nat → Bool} {n c : Nat} (hc : ∀ k, val k ≤ c) : ∀ q, wst val inn n = some q → q.2 ≤ c := by
  intro q hq
  rcases wst_ok (val := val) (inn := inn) n with ⟨h1, -⟩ | ⟨q', h1, -, -, h4, -⟩
  · rw [h1] at hq; cases hq
  · rw [h1] at hq; cases hq; rw [h4]; exact hc _
theorem c_want20 (hE : pE Z) (hO : pc_O Z (u.2.2 0) u) (hv : pv_S Z s) (hc : pc_S 38 s u) {p : Nat} (hp : p < Z.1) : ∀ (d k n : Nat), k + d = Z.2.1 → d < n → fX9_want_20 n (nI p) (wb (wst (fitS Z s p) (fun _ => true) k)) (wm (wst (fitS Z s p) (fun _ => true) k)) (nI k) u = some (wb (wst (fitS Z s p) (fun _ => true) Z.2.1), u) := by
  have hg := hE.2.1
  intro d
  induction d with
  | zero =>
    intro k n hk hn
    obtain ⟨n, rfl⟩ : ∃ i, n = i + 1 := ⟨n - 1, by omega⟩
    have e : k = Z.2.1 := by omega
    subst e
    rw [fX9_want_20, hO.2.1]
    simp (disch := first | omega | decide) only [i10, i00, decide_true, decide_false, cnd_t, cnd_f, gd_nil, gd_t, b1_0, b1_1, sw_nil, sw_cons, obs, Nat.not_lt_zero, nI_addo, nI_oadd, nI_add, nI_mulo, nI_omul, nI_mul, nI_lto, nI_leo, nI_olt, nI_ole, nI_eqo, nI_oeq, nI_lt2, nI_le2, nI_eq2, nI_nm1, nI_m1n, nI_lt0, nI_lem1, nc_nI, nc_o, ix_nI, ix_o, Nat.lt_irrefl]
  | succ d ih =>
    intro k n hk hn
    obtain ⟨n, rfl⟩ : ∃ i, n = i + 1 := ⟨n - 1, by omega⟩
    have hk8 : k < Z.2.1 := by omega
    have ih := ih (k + 1) n (by omega) (by omega)
    have f1 := fitS_le hE (s := s) p k
    rw [fX9_want_20, hO.2.1]
    simp (disch := first | omega | decide) only [i10, i00, decide_true, decide_false, cnd_t, cnd_f, gd_nil, gd_t, b1_0, b1_1, sw_nil, sw_cons, obs, nI_lt2, hk8]
    rw [c_fitOf hE hO hv hc hp hk8]
    simp (disch := first | omega | decide) only [i10, i00, decide_true, decide_false, cnd_t, cnd_f, gd_nil, gd_t, b1_0, b1_1, sw_nil, sw_cons, obs, nI_addo]
    rw [wst, if_pos rfl] at ih
    cases hw : wst (fitS Z s p) (fun _ => true) k with
    | none =>
      rw [hw] at ih
      simp (disch := first | omega | decide) only [wm, nI_lem1, i10, i00, decide_true, decide_false, cnd_t, cnd_f, gd_nil, gd_t, b1_0, b1_1, sw_nil, sw_cons, obs]
      exact ih
    | some q =>
      have f2 := wst_val (fitS_le hE (s := s) p) q hw
      rw [hw] at ih
      simp (disch := first | omega | decide) only [wm, nI_le2]
      by_cases e : q.2 < fitS Z s p k
      · have e2 : ¬ fitS Z s p k ≤ q.2 := by omega
        simp only [e, e2, i10, i00, decide_true, decide_false, cnd_t, cnd_f, gd_nil, gd_t, b1_0, b1_1, sw_nil, sw_cons, obs, if_true] at ih ⊢
        exact ih
      · have e2 : fitS Z s p k ≤ q.2 := by omega
        simp only [e, e2, i10, i00, decide_true, decide_false, cnd_t, cnd_f, gd_nil, gd_t, b1_0, b1_1, sw_nil, sw_cons, obs, if_false] at ih ⊢
        exact ih
theorem m_want9 (hE : pE Z) {p m0 : Nat} (hp : p < Z.1) (hm0 : m0 < 256) {val : Nat → Nat} (hval : ∀ k, val k ≤ 99) {w3 : Int32} (hval2 : ∀ (k : Nat) (v : ab_S) (Q : Int32 → ab_S → Prop), pm_O Z v → pm_S 0 s v → k < Z.2.1 → m0.testBit k = true → (∀ v', Sc v v' → Q (nI (val k)) v') → Wp (bif decide (w3 < 0) then fX10_fitOf 0 (nI p) (nI k) v else fX10_fitBy (nI p) (nI k) w3 v) Q) {Q : Int32 → ab_S → Prop} : ∀ (d k n : Nat) (v : ab_S), pm_O Z v → pm_S 0 s v → k + d = Z.2.1 → d < n → (∀ v', Sc v v' → Q (wb (wst val (fun k => m0.testBit k) Z.2.1)) v') → Wp (fX10_wantOf_9 n (nI p) (nI m0) w3 (wb (wst val (fun k => m0.testBit k) k)) (wm (wst val (fun k => m0.testBit k) k)) (nI k) v) Q := by
  have hg := hE.2.1
  intro d
  induction d with
  | zero =>
    intro k n v hm hs hk hn q
    obtain ⟨n, rfl⟩ : ∃ i, n = i + 1 := ⟨n - 1, by omega⟩
    have e : k = Z.2.1 := by omega
    subst e
    rw [fX10_wantOf_9, m_goods hE hm]
    simp (disch := first | omega | decide) only [i10, i00, decide_true, decide_false, cnd_t, cnd_f, gd_nil, gd_t, b1_0, b1_1, sw_nil, sw_cons, obs, Nat.not_lt_zero, nI_addo, nI_oadd, nI_add, nI_mulo, nI_omul, nI_mul, nI_lto, nI_leo, nI_olt, nI_ole, nI_eqo, nI_oeq, nI_lt2, nI_le2, nI_eq2, nI_nm1, nI_m1n, nI_lt0, nI_lem1, nc_nI, nc_o, ix_nI, ix_o, Nat.lt_irrefl, wp_ret]
    exact q v Fr.rfl'
  | succ d ih =>
    intro k n v hm hs hk hn q
    obtain ⟨n, rfl⟩ : ∃ i, n = i + 1 := ⟨n - 1, by omega⟩
    have hk8 : k < Z.2.1 := by omega
    have ih := ih (k + 1) n
    rw [fX10_wantOf_9, m_goods hE hm]
    simp (disch := first | omega | decide) only [i10, i00, decide_true, decide_false, cnd_t, cnd_f, gd_nil, gd_t, b1_0, b1_1, sw_nil, sw_cons, obs, nI_lt2, hk8, zb_b0 hm0 (show k < 8 by omega)]
    rw [wst] at ih
    cases hb : m0.testBit k
    · simp only [i10, i00, decide_true, decide_false, cnd_t, cnd_f, gd_nil, gd_t, b1_0, b1_1, sw_nil, sw_cons, obs, fX10_wantOf_54, fX10_wantOf_70]
      simp only [hb, Bool.false_eq_true, if_false] at ih
      cases hw : wst val (fun k => m0.testBit k) k with
      | none =>
        rw [hw] at ih
        have e : ((-1 : Int32) ≤ -1) = True := eq_true (by decide +kernel)
        simp only [wm, e, i10, i00, decide_true, decide_false, cnd_t, cnd_f, gd_nil, gd_t, b1_0, b1_1, sw_nil, sw_cons, obs, nI_addo]
        exact ih v hm hs (by omega) (by omega) q
      | some q0 =>
        have f2 := wst_val hval q0 hw
        have e : ((-1 : Int32) ≤ nI q0.2) = True := by
          rw [Int32.le_iff_toInt_le, nI_toInt (by omega), show (-1 : Int32).toInt = -1 by decide +kernel]
          exact eq_true (by omega)
        rw [hw] at ih
        simp only [wm, e, i10, i00, decide_true, decide_false, cnd_t, cnd_f, gd_nil, gd_t, b1_0, b1_1, sw_nil, sw_cons, obs, nI_addo]
        exact ih v hm hs (by omega) (by omega) q
    · have e01 : (true = false) = False := by simp only [Bool.true_eq_false]
      simp only [hb, if_true] at ih
      simp only [e01, i10, i00, decide_true, decide_false, cnd_t, cnd_f, gd_nil, gd_t, b1_0, b1_1, sw_nil, sw_cons, obs]
      have key : ∀ (v' : ab_S), Sc v v' → Wp (fX10_wantOf_54 (fX10_wantOf_9 n) (nI p) (nI m0) w3 (wb (wst val (fun k => m0.testBit k) k)) (wm (wst val (fun k => m0.testBit k) k)) (nI k) (nI (val k)) v') Q := by
        intro v' s'
        have hvk := hval k
        unfold fX10_wantOf_54 fX10_wantOf_70
        cases hw : wst val (fun k => m0.testBit k) k with
        | none =>
          rw [hw] at ih
          simp (disch := first | omega | decide) only [wm, nI_lem1, i10, i00, decide_true, decide_false, cnd_t, cnd_f, gd_nil, gd_t, b1_0, b1_1, sw_nil, sw_cons, obs, nI_addo]
          exact ih v' (hm.sc s') (hs.sc s') (by omega) (by omega) fun v'' s'' => q v'' (s'.trans s'')
        | some q0 =>
          have f2 := wst_val hval q0 hw
          rw [hw] at ih
          simp (disch := first | omega | decide) only [wm, nI_le2, nI_addo]
          by_cases e : q0.2 < val k
          · have e2 : ¬ val k ≤ q0.2 := by omega
            simp only [e, e2, i10, i00, decide_true, decide_false, cnd_t, cnd_f, gd_nil, gd_t, b1_0, b1_1, sw_nil, sw_cons, obs, if_true] at ih ⊢
            exact ih v' (hm.sc s') (hs.sc s') (by omega) (by omega) fun v'' s'' => q v'' (s'.trans s'')
          · have e2 : val k ≤ q0.2 := by omega
            simp only [e, e2, i10, i00, decide_true, decide_false, cnd_t, cnd_f, gd_nil, gd_t, b1_0, b1_1, sw_nil, sw_cons, obs, if_false] at ih ⊢
            exact ih v' (hm.sc s') (hs.sc s') (by omega) (by omega) fun v'' s'' => q v'' (s'.trans s'')
      have hh := hval2 k v (fun r v' => Wp (fX10_wantOf_54 (fX10_wantOf_9 n) (nI p) (nI m0) w3 (wb (wst val (fun k => m0.testBit k) k)) (wm (wst val (fun k => m0.testBit k) k)) (nI k) r v') Q) hm hs hk8 hb key
      by_cases e3 : w3 < 0
      · simp only [e3, i10, i00, decide_true, decide_false, cnd_t, cnd_f, gd_nil, gd_t, b1_0, b1_1, sw_nil, sw_cons, obs, wp_bind] at hh ⊢
        exact hh
      · simp only [e3, i10, i00, decide_true, decide_false, cnd_t, cnd_f, gd_nil, gd_t, b1_0, b1_1, sw_nil, sw_cons, obs, wp_bind] at hh ⊢
        exact hh
theorem m_wantA (hE : pE Z) (hm : pm_O Z v) (hs : pm_S 0 s v) {p : Nat} (hp : p < Z.1) {Q : Int32 → ab_S → Prop} (q : ∀ v', Sc v v' → Q (wb (wst (fitS Z s p) (fun _ => true) Z.2.1)) v') : Wp (fX10_wantOf (nI p) (nI (2 ^ Z.2.1 - 1)) (-1) v) Q := by
  have hg := hE.2.1
  have m1 : ((-1 : Int32) < 0) = True := eq_true (by decide +kernel)
  have e : ∀ n, n ≤ Z.2.1 → wst (fitS Z s p) (fun k => (2 ^ Z.2.1 - 1).testBit k) n = wst (fitS Z s p) (fun _ => true) n := by
    intro n
    induction n with
    | zero => intro _; rfl
    | succ n ih =>
      intro hn
      rw [wst, wst, ih (by omega), all_bit]
      simp only [show n < Z.2.1 by omega, decide_true]
  rw [← e Z.2.1 (Nat.le_refl _)] at q
  exact m_want9 hE hp (all_lt hg) (val := fitS Z s p) (fun k => fitS_le hE p k) (fun k v Q hm hs hk hb q => by
    simp only [m1, i10, i00, decide_true, decide_false, cnd_t, cnd_f, gd_nil, gd_t, b1_0, b1_1, sw_nil, sw_cons, obs]
    exact m_fitOf (b := 0) hE hm hs (by decide) hp hk q) Z.2.1 0 fu v hm hs (Nat.zero_add _) (by simp only [fu]; omega) q
theorem m_allG (hE : pE Z) (hm : pm_O Z v) : fX10_allGoods v = some (nI (2 ^ Z.2.1 - 1), v) := by
  unfold fX10_allGoods
  rw [m_goods hE hm]
  simp only [i10, i00, decide_true, decide_false, cnd_t, cnd_f, gd_nil, gd_t, b1_0, b1_1, sw_nil, sw_cons, obs, zb_all hE.2.1]
theorem q_want (hN : pN Z s u v) (x : Int32) : qP (fX9_want x u) u (fX10_want x v) (sI v 0 0 0) := by
  have hN0 := hN.th (x := 0)
  obtain ⟨hE, hO, ho, hm, hc, hs, hv⟩ := hN0
  have hg := hE.2.1
  unfold fX9_want fX10_want
  rcases isP Z hE.1 x with ⟨p, hp, rfl⟩ | hx
  · rw [c_hasP1 hE hO hp, m_isP1 hE hm hp]
    simp (disch := first | omega | decide) only [i10, i00, decide_true, decide_false, cnd_t, cnd_f, gd_nil, gd_t, b1_0, b1_1, sw_nil, sw_cons, obs, Nat.not_lt_zero, nI_addo, nI_oadd, nI_add, nI_mulo, nI_omul, nI_mul, nI_lto, nI_leo, nI_olt, nI_ole, nI_eqo, nI_oeq, nI_lt2, nI_le2, nI_eq2, nI_nm1, nI_m1n, nI_lt0, nI_lem1, nc_nI, nc_o, ix_nI, ix_o]
    rw [m_allG hE hm]
    simp only [i10, i00, decide_true, decide_false, cnd_t, cnd_f, gd_nil, gd_t, b1_0, b1_1, sw_nil, sw_cons, obs]
    refine ⟨_, c_want20 hE hO hv hc hp Z.2.1 0 fu (Nat.zero_add _) (by simp only [fu]; omega), ?_⟩
    rw [wp_bind]
    exact m_wantA hE hm hs hp fun v' s' => wp_ret.mpr ⟨rfl, s'⟩
  · rw [c_hasP0 hO hx, m_isP0 hE hm hx]
    simp only [i10, i00, decide_true, decide_false, cnd_t, cnd_f, gd_nil, gd_t, b1_0, b1_1, sw_nil, sw_cons, obs]
    exact qP.ret
end PU
