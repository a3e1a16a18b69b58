/-! a quarter passes -/
section PU
variable {Z : dZ} {o o1 b : Nat} {s : Nat → Int32} {u v : ab_S}
theorem pc_O.fc (h : pc_O Z o1 u) {u' : ab_S} (ho : o1 + 12 ≤ o) (f : Fc o u u') : pc_O Z o1 u' := h.fr f (by intro a k h1 h2 q; have := q.1; omega)
def setT (Z : dZ) (s : Nat → Int32) (k : Nat) : Nat → Int32 :=
  if Z.2.2.1 6 (4 + 2 * nc (s (2 + k))) = 1 then (if fitS Z s (nc (s (2 + k))) k < 5 then su s (2 + k) (-1) else s)
  else if Z.2.2.1 6 (4 + 2 * nc (s (2 + k))) = 2 then su s (2 + k) (Z.2.2.1 6 (17 + 2 * k))
  else if Z.2.2.1 6 (4 + 2 * nc (s (2 + k))) = 3 then (if s (2 + k) = Z.2.2.1 6 (17 + 2 * k) then s else su s (2 + k) (-1))
  else s
theorem setT_ne {k j : Nat} (h : j ≠ 2 + k) : setT Z s k j = s j := by
  unfold setT
  split
  · split
    · exact su_ne h
    · rfl
  · split
    · exact su_ne h
    · split
      · split
        · rfl
        · exact su_ne h
      · rfl
theorem pv_S.set (hE : pE Z) (hv : pv_S Z s) {k : Nat} (hk : k < Z.2.1) : pv_S Z (setT Z s k) := by
  unfold setT
  split
  · split
    · exact hv.hold hE hk (Or.inl rfl)
    · exact hv
  · split
    · exact hv.hold hE hk (Or.inr (hE.2.2.2.2.1 k hk))
    · split
      · split
        · exact hv
        · exact hv.hold hE hk (Or.inl rfl)
      · exact hv
theorem c_settle (hE : pE Z) (hO : pc_O Z o1 u) (hv : pv_S Z s) (h : pc_S o s u) {p k : Nat} (hp : p < Z.1) (hk : k < Z.2.1) (hh : s (2 + k) = nI p) : ∃ u', fX5_settle o o1 (nI k) u = some ((), u') ∧ Fc o u u' ∧ pc_S o (setT Z s k) u' := by
  have hg := hE.2.1
  have hp6 := hE.1
  obtain ⟨um, qm, fm, sm⟩ := c_place h (show k < 8 by omega) (x := -1)
  obtain ⟨uo, qo, fo, so⟩ := c_place h (show k < 8 by omega) (x := Z.2.2.1 6 (17 + 2 * k))
  have f1 := fitS_le hE (s := s) p k
  unfold fX5_settle setT
  rw [c_hold h (by omega)]
  simp only [obs]
  rw [c_own hE hO hk]
  simp only [obs]
  rw [hh, c_kind hE hO hp]
  simp (disch := first | omega | decide) only [i10, i00, decide_true, decide_false, cnd_t, cnd_f, gd_nil, gd_t, b1_0, b1_1, sw_nil, sw_cons, obs, nc_nI]
  by_cases e1 : Z.2.2.1 6 (4 + 2 * p) = 1
  · simp only [e1, i10, i00, decide_true, decide_false, cnd_t, cnd_f, gd_nil, gd_t, b1_0, b1_1, sw_nil, sw_cons, obs, if_true]
    rw [c_fitOf hE hO hv h hp hk]
    simp (disch := first | omega | decide) only [i10, i00, decide_true, decide_false, cnd_t, cnd_f, gd_nil, gd_t, b1_0, b1_1, sw_nil, sw_cons, obs, nI_lto]
    by_cases e5 : fitS Z s p k < 5
    · simp only [e5, i10, i00, decide_true, decide_false, cnd_t, cnd_f, gd_nil, gd_t, b1_0, b1_1, sw_nil, sw_cons, obs, if_true, qm]
      exact ⟨um, rfl, fm, sm⟩
    · simp only [e5, i10, i00, decide_true, decide_false, cnd_t, cnd_f, gd_nil, gd_t, b1_0, b1_1, sw_nil, sw_cons, obs, if_false]
      exact ⟨u, rfl, Fr.rfl', h⟩
  · simp only [e1, i10, i00, decide_true, decide_false, cnd_t, cnd_f, gd_nil, gd_t, b1_0, b1_1, sw_nil, sw_cons, obs, if_false]
    by_cases e2 : Z.2.2.1 6 (4 + 2 * p) = 2
    · simp only [e2, i10, i00, decide_true, decide_false, cnd_t, cnd_f, gd_nil, gd_t, b1_0, b1_1, sw_nil, sw_cons, obs, if_true, qo]
      exact ⟨uo, rfl, fo, so⟩
    · simp only [e2, i10, i00, decide_true, decide_false, cnd_t, cnd_f, gd_nil, gd_t, b1_0, b1_1, sw_nil, sw_cons, obs, if_false]
      by_cases e3 : Z.2.2.1 6 (4 + 2 * p) = 3
      · simp only [e3, i10, i00, decide_true, decide_false, cnd_t, cnd_f, gd_nil, gd_t, b1_0, b1_1, sw_nil, sw_cons, obs, if_true]
        by_cases e4 : nI p = Z.2.2.1 6 (17 + 2 * k)
        · simp only [e4, i10, i00, decide_true, decide_false, cnd_t, cnd_f, gd_nil, gd_t, b1_0, b1_1, sw_nil, sw_cons, obs, if_true]
          exact ⟨u, rfl, Fr.rfl', h⟩
        · simp only [e4, i10, i00, decide_true, decide_false, cnd_t, cnd_f, gd_nil, gd_t, b1_0, b1_1, sw_nil, sw_cons, obs, if_false, qm]
          exact ⟨um, rfl, fm, sm⟩
      · simp only [e3, i10, i00, decide_true, decide_false, cnd_t, cnd_f, gd_nil, gd_t, b1_0, b1_1, sw_nil, sw_cons, obs, if_false]
        exact ⟨u, rfl, Fr.rfl', h⟩
theorem Fm.put {k i : Nat} {x : Int32} (hi : i = b + k) (hk : k < 22) : Fm b v (sI v 16 i x) := Fr.sI (Or.inr (Or.inr ⟨rfl, by omega, by omega⟩))
theorem m_settle (hE : pE Z) (h : pm_O Z v) (hv : pv_S Z s) (hS0 : pm_S b s v) (hb : b ≤ 1050) {p k : Nat} (hp : p < Z.1) (hk : k < Z.2.1) (hh : s (2 + k) = nI p) {Q : Unit → ab_S → Prop} (q : ∀ v', Fm b v v' → pm_S b (setT Z s k) v' → Q () v') : Wp (fX10_settles (nI b) (nI k) v) Q := by
  have hg := hE.2.1
  have hp6 := hE.1
  have f1 := fitS_le hE (s := s) p k
  have eh := hS0.at (k := 2 + k) (by omega) (show b + 2 + k = b + (2 + k) by omega)
  have i1 := ix_nI (k := b + 2 + k) (N := 1081) (by omega) (by decide)
  have n1 := nc_nI (k := b + 2 + k) (by omega)
  unfold fX10_settles setT at *
  simp only [nI_addo, nI_add, i1, n1, gd_t, gd_nil, eh, hh]
  rw [m_kind hE h hp]
  simp only [obs]
  rw [m_own hE h hk]
  simp (disch := first | omega | decide) only [i10, i00, decide_true, decide_false, cnd_t, cnd_f, gd_nil, gd_t, b1_0, b1_1, sw_nil, sw_cons, obs, nc_nI, hh] at q ⊢
  by_cases e1 : Z.2.2.1 6 (4 + 2 * p) = 1
  · simp only [e1, i10, i00, decide_true, decide_false, cnd_t, cnd_f, gd_nil, gd_t, b1_0, b1_1, sw_nil, sw_cons, obs, if_true, wp_bind] at q ⊢
    refine m_fitOf hE h hS0 hb hp hk fun v1 s1 => ?_
    simp (disch := first | omega | decide) only [i10, i00, decide_true, decide_false, cnd_t, cnd_f, gd_nil, gd_t, b1_0, b1_1, sw_nil, sw_cons, obs, nI_lto]
    by_cases e5 : fitS Z s p k < 5
    · simp only [e5, i10, i00, decide_true, decide_false, cnd_t, cnd_f, gd_nil, gd_t, b1_0, b1_1, sw_nil, sw_cons, obs, if_true] at q ⊢
      unfold fX10_settles_56
      simp only [nI_addo, nI_add, i1, n1, gd_t, gd_nil, wp_ret]
      exact q _ (s1.fm.trans (Fm.put (k := 2 + k) (by omega) (by omega))) ((hS0.sc s1).put (by omega))
    · have n13 : ((1 : Int32) = 3) = False := by simp only [eq_iff_iff, iff_false]; decide +kernel
      have n12 : ((1 : Int32) = 2) = False := by simp only [eq_iff_iff, iff_false]; decide +kernel
      simp only [e5, i10, i00, decide_true, decide_false, cnd_t, cnd_f, gd_nil, gd_t, b1_0, b1_1, sw_nil, sw_cons, obs, if_false] at q ⊢
      unfold fX10_settles_44 fX10_settles_70
      simp only [n13, n12, i10, i00, decide_true, decide_false, cnd_t, cnd_f, gd_nil, gd_t, b1_0, b1_1, sw_nil, sw_cons, obs, wp_ret]
      exact q _ s1.fm (hS0.sc s1)
  · simp only [e1, i10, i00, decide_true, decide_false, cnd_t, cnd_f, gd_nil, gd_t, b1_0, b1_1, sw_nil, sw_cons, obs, if_false] at q ⊢
    unfold fX10_settles_44
    by_cases e2 : Z.2.2.1 6 (4 + 2 * p) = 2
    · have n13 : ((2 : Int32) = 3) = False := by simp only [eq_iff_iff, iff_false]; decide +kernel
      simp only [e2, n13, i10, i00, decide_true, decide_false, cnd_t, cnd_f, gd_nil, gd_t, b1_0, b1_1, sw_nil, sw_cons, obs, if_true] at q ⊢
      unfold fX10_settles_70
      simp only [nI_addo, nI_add, i1, n1, i10, i00, decide_true, decide_false, cnd_t, cnd_f, gd_nil, gd_t, b1_0, b1_1, sw_nil, sw_cons, obs, wp_ret]
      exact q _ (Fm.put (k := 2 + k) (by omega) (by omega)) (hS0.put (by omega))
    · simp only [e2, i10, i00, decide_true, decide_false, cnd_t, cnd_f, gd_nil, gd_t, b1_0, b1_1, sw_nil, sw_cons, obs, if_false] at q ⊢
      by_cases e3 : Z.2.2.1 6 (4 + 2 * p) = 3
      · have n13 : ((3 : Int32) = 2) = False := by simp only [eq_iff_iff, iff_false]; decide +kernel
        simp only [e3, i10, i00, decide_true, decide_false, cnd_t, cnd_f, gd_nil, gd_t, b1_0, b1_1, sw_nil, sw_cons, obs, if_true] at q ⊢
        by_cases e4 : nI p = Z.2.2.1 6 (17 + 2 * k)
        · have e4' : Z.2.2.1 6 (17 + 2 * k) = nI p := e4.symm
          unfold fX10_settles_70
          simp only [e4', n13, i10, i00, decide_true, decide_false, cnd_t, cnd_f, gd_nil, gd_t, b1_0, b1_1, sw_nil, sw_cons, obs, if_true, wp_ret] at q ⊢
          exact q _ Fr.rfl' hS0
        · have e4' : ¬ Z.2.2.1 6 (17 + 2 * k) = nI p := fun z => e4 z.symm
          unfold fX10_settles_56
          simp only [e4, e4', nI_addo, nI_add, i1, n1, i10, i00, decide_true, decide_false, cnd_t, cnd_f, gd_nil, gd_t, b1_0, b1_1, sw_nil, sw_cons, obs, if_false, wp_ret] at q ⊢
          exact q _ (Fm.put (k := 2 + k) (by omega) (by omega)) (hS0.put (by omega))
      · unfold fX10_settles_70
        simp only [e2, e3, i10, i00, decide_true, decide_false, cnd_t, cnd_f, gd_nil, gd_t, b1_0, b1_1, sw_nil, sw_cons, obs, if_false, wp_ret] at q ⊢
        exact q _ Fr.rfl' hS0
-- ===== a shilling for each, and the end =====
theorem pq_50 (hE : pE Z) (ho : o1 + 12 ≤ o) (hb : b ≤ 1050) (r : Int32) : ∀ (d k n m : Nat) (s : Nat → Int32) (u v : ab_S), pc_O Z o1 u → pm_O Z v → pc_S o s u → pm_S b s v → pv_S Z s → k + d = Z.1 → d < n → d < m → ∃ s', pv_S Z s' ∧ (∃ u', fX5_passQuarter_50 o o1 n r (nI k) u = some (r, u') ∧ Fc o u u' ∧ pc_S o s' u') ∧ (∃ v', fX10_passes_111 m (nI b) r (nI k) v = some (r, v') ∧ Fm b v v' ∧ pm_S b s' v') := by
  have hp6 := hE.1
  intro d
  induction d with
  | zero =>
    intro k n m s u v hO hm hc hs hv hk hn hm1
    obtain ⟨n, rfl⟩ : ∃ i, n = i + 1 := ⟨n - 1, by omega⟩
    obtain ⟨m, rfl⟩ : ∃ i, m = i + 1 := ⟨m - 1, by omega⟩
    have e : k = Z.1 := by omega
    subst e
    refine ⟨su s 0 (s 0 + 1), hv.now hE, ⟨sI u o 4 (s 0 + 1), ?_, Fr.sI ⟨by omega, by omega⟩, hc.now⟩, ⟨sI v 16 b (s 0 + 1), ?_, Fm.put (k := 0) rfl (by omega), hs.put rfl⟩⟩
    · rw [fX5_passQuarter_50, hO.1]
      simp (disch := first | omega | decide) only [i10, i00, decide_true, decide_false, cnd_t, cnd_f, gd_nil, gd_t, b1_0, b1_1, sw_nil, sw_cons, obs, Nat.not_lt_zero, nI_addo, nI_oadd, nI_add, nI_mulo, nI_omul, nI_mul, nI_lto, nI_leo, nI_olt, nI_ole, nI_eqo, nI_oeq, nI_lt2, nI_le2, nI_eq2, nI_nm1, nI_m1n, nI_lt0, nI_lem1, nc_nI, nc_o, ix_nI, ix_o, Nat.lt_irrefl, hc.1]
    · rw [fX10_passes_111, m_persons hE hm]
      simp (disch := first | omega | decide) only [i10, i00, decide_true, decide_false, cnd_t, cnd_f, gd_nil, gd_t, b1_0, b1_1, sw_nil, sw_cons, obs, Nat.not_lt_zero, nI_addo, nI_oadd, nI_add, nI_mulo, nI_omul, nI_mul, nI_lto, nI_leo, nI_olt, nI_ole, nI_eqo, nI_oeq, nI_lt2, nI_le2, nI_eq2, nI_nm1, nI_m1n, nI_lt0, nI_lem1, nc_nI, nc_o, ix_nI, ix_o, Nat.lt_irrefl, Nat.add_zero, hs.at (k := 0) (by omega) (show b = b + 0 by omega)]
  | succ d ih =>
    intro k n m s u v hO hm hc hs hv hk hn hm1
    obtain ⟨n, rfl⟩ : ∃ i, n = i + 1 := ⟨n - 1, by omega⟩
    obtain ⟨m, rfl⟩ : ∃ i, m = i + 1 := ⟨m - 1, by omega⟩
    have hk8 : k < Z.1 := by omega
    obtain ⟨e1, e2⟩ := cn_eq hv (p := k) (by omega)
    have ex : ∃ x, (∃ c, c ≤ 50 ∧ x = nI c) ∧ (if (nI (cnS s k) + 1) < 50 then (nI (cnS s k) + 1) else 50) = x ∧ (bif decide (nI (cnS s k) + 1 ≤ 50) then nI (cnS s k) + 1 else 50) = x := by
      simp (disch := first | omega | decide) only [Nat.not_lt_zero, nI_addo, nI_oadd, nI_add, nI_mulo, nI_omul, nI_mul, nI_lto, nI_leo, nI_olt, nI_ole, nI_eqo, nI_oeq, nI_lt2, nI_le2, nI_eq2, nI_nm1, nI_m1n, nI_lt0, nI_lem1, nc_nI, nc_o, ix_nI, ix_o]
      by_cases h1 : cnS s k + 1 < 50
      · have h2 : cnS s k + 1 ≤ 50 := by omega
        exact ⟨nI (cnS s k + 1), ⟨_, h2, rfl⟩, by simp only [h1, if_true], by simp only [h2, i10, i00, decide_true, decide_false, cnd_t, cnd_f, gd_nil, gd_t, b1_0, b1_1, sw_nil, sw_cons, obs]⟩
      · by_cases h2 : cnS s k + 1 ≤ 50
        · have h3 : cnS s k + 1 = 50 := by omega
          exact ⟨50, ⟨50, by omega, rfl⟩, by simp only [h1, if_false], by simp only [h3, i10, i00, decide_true, decide_false, cnd_t, cnd_f, gd_nil, gd_t, b1_0, b1_1, sw_nil, sw_cons, obs, Nat.le_refl]; rfl⟩
        · exact ⟨50, ⟨50, by omega, rfl⟩, by simp only [h1, if_false], by simp only [h2, i10, i00, decide_true, decide_false, cnd_t, cnd_f, gd_nil, gd_t, b1_0, b1_1, sw_nil, sw_cons, obs]⟩
    obtain ⟨x, hx, x1, x2⟩ := ex
    have eh := hs.at (k := 10 + k) (by omega) (show b + 10 + k = b + (10 + k) by omega)
    obtain ⟨s', hv', ⟨u', qu, fu', su'⟩, ⟨v', qv, fv, sv⟩⟩ := ih (k + 1) n m (su s (10 + k) x) (sI u (o + 2) k x) (sI v 16 (b + 10 + k) x) (hO.fc ho (Fr.sI ⟨by omega, by omega⟩)) (hm.fm (Fm.put (b := b) (k := 10 + k) (by omega) (by omega))) (hc.coin (by omega)) (hs.put (by omega)) (hv.coin hE hk8 hx) (by omega) (by omega) (by omega)
    refine ⟨s', hv', ⟨u', ?_, Fr.trans (Fr.sI ⟨by omega, by omega⟩) fu', su'⟩, ⟨v', ?_, Fr.trans (Fm.put (k := 10 + k) (by omega) (by omega)) fv, sv⟩⟩
    · rw [fX5_passQuarter_50, hO.1, c_coin hc (by omega), e1]
      simp (disch := first | omega | decide) only [obs, nI_lt2, hk8, decide_true, cnd_t]
      rw [x1, c_put (by omega) (by decide)]
      simp only [obs, nI_addo]
      exact qu
    · rw [fX10_passes_111, m_persons hE hm]
      simp (disch := first | omega | decide) only [obs, nI_lt2, hk8, decide_true, cnd_t, nI_addo, nI_add, ix_nI, nc_nI, gd_t, gd_nil, eh, e1]
      rw [nI_addo] at x2
      cases hc2 : decide (nI (cnS s k + 1) ≤ 50)
      · rw [hc2, cnd_f] at x2
        rw [cnd_f, x2]
        exact qv
      · rw [hc2, cnd_t] at x2
        rw [cnd_t, x2]
        exact qv
-- ===== what each does with what they held =====
theorem pq_15 (hE : pE Z) (ho : o1 + 12 ≤ o) (hb : b ≤ 1050) (r : Int32) {m0 m1 : Nat} (hm0 : m0 < 256) (hm1 : m1 < 256) (hmm : ∀ k, k < Z.2.1 → m1.testBit k = !m0.testBit k) : ∀ (d k n m : Nat) (s : Nat → Int32) (u v : ab_S), pc_O Z o1 u → pm_O Z v → pc_S o s u → pm_S b s v → pv_S Z s → (∀ j, k ≤ j → j < Z.2.1 → m0.testBit j = true → ∃ p, p < Z.1 ∧ s (2 + j) = nI p) → k + d = Z.2.1 → d < n → d < m → ∃ s', pv_S Z s' ∧ (∃ u', fX5_passQuarter_15 o o1 n (nI m0) r (nI k) u = some (r, u') ∧ Fc o u u' ∧ pc_S o s' u') ∧ Wp (fX10_passes_77 m (nI b) (nI m1) r (nI k) v) (fun r' v' => r' = r ∧ Fm b v v' ∧ pm_S b s' v') := by
  have hg := hE.2.1
  have hp6 := hE.1
  intro d
  induction d with
  | zero =>
    intro k n m s u v hO hm hc hs hv hh hk hn hmf
    obtain ⟨n, rfl⟩ : ∃ i, n = i + 1 := ⟨n - 1, by omega⟩
    obtain ⟨m, rfl⟩ : ∃ i, m = i + 1 := ⟨m - 1, by omega⟩
    have e : k = Z.2.1 := by omega
    subst e
    obtain ⟨s', hv', ⟨u', qu, fu', su'⟩, ⟨v', qv, fv, sv⟩⟩ := pq_50 hE ho hb r Z.1 0 fu fu s u v hO hm hc hs hv (Nat.zero_add _) (by simp only [fu]; omega) (by simp only [fu]; omega)
    refine ⟨s', hv', ⟨u', ?_, fu', su'⟩, ?_⟩
    · rw [fX5_passQuarter_15, hO.2.1]
      simp (disch := first | omega | decide) only [i10, i00, decide_true, decide_false, cnd_t, cnd_f, gd_nil, gd_t, b1_0, b1_1, sw_nil, sw_cons, obs, Nat.not_lt_zero, nI_addo, nI_oadd, nI_add, nI_mulo, nI_omul, nI_mul, nI_lto, nI_leo, nI_olt, nI_ole, nI_eqo, nI_oeq, nI_lt2, nI_le2, nI_eq2, nI_nm1, nI_m1n, nI_lt0, nI_lem1, nc_nI, nc_o, ix_nI, ix_o, Nat.lt_irrefl]
      exact qu
    · rw [fX10_passes_77, m_goods hE hm]
      simp (disch := first | omega | decide) only [i10, i00, decide_true, decide_false, cnd_t, cnd_f, gd_nil, gd_t, b1_0, b1_1, sw_nil, sw_cons, obs, Nat.not_lt_zero, nI_addo, nI_oadd, nI_add, nI_mulo, nI_omul, nI_mul, nI_lto, nI_leo, nI_olt, nI_ole, nI_eqo, nI_oeq, nI_lt2, nI_le2, nI_eq2, nI_nm1, nI_m1n, nI_lt0, nI_lem1, nc_nI, nc_o, ix_nI, ix_o, Nat.lt_irrefl]
      refine (wp_eq qv).mpr ⟨rfl, fv, sv⟩
  | succ d ih =>
    intro k n m s u v hO hm hc hs hv hh hk hn hmf
    obtain ⟨n, rfl⟩ : ∃ i, n = i + 1 := ⟨n - 1, by omega⟩
    obtain ⟨m, rfl⟩ : ∃ i, m = i + 1 := ⟨m - 1, by omega⟩
    have hk8 : k < Z.2.1 := by omega
    have hmk := hmm k hk8
    rw [fX5_passQuarter_15, fX10_passes_77, hO.2.1, m_goods hE hm]
    simp (disch := first | omega | decide) only [i10, i00, decide_true, decide_false, cnd_t, cnd_f, gd_nil, gd_t, b1_0, b1_1, sw_nil, sw_cons, obs, Nat.not_lt_zero, nI_addo, nI_oadd, nI_add, nI_mulo, nI_omul, nI_mul, nI_lto, nI_leo, nI_olt, nI_ole, nI_eqo, nI_oeq, nI_lt2, nI_le2, nI_eq2, nI_nm1, nI_m1n, nI_lt0, nI_lem1, nc_nI, nc_o, ix_nI, ix_o, hk8, zb_b1 hm0 (show k < 8 by omega), zb_b0 hm1 (show k < 8 by omega), hmk, Bool.not_eq_false']
    cases e : m0.testBit k
    · simp only [i10, i00, decide_true, decide_false, cnd_t, cnd_f, gd_nil, gd_t, b1_0, b1_1, sw_nil, sw_cons, obs, Bool.false_eq_true]
      exact ih (k + 1) n m s u v hO hm hc hs hv (fun j a c => hh j (by omega) c) (by omega) (by omega) (by omega)
    · obtain ⟨p, hp, hq⟩ := hh k (Nat.le_refl k) hk8 e
      obtain ⟨u1, q1, f1, s1⟩ := c_settle hE hO hv hc hp hk8 hq
      have hm2 : Wp (fX10_settles (nI b) (nI k) v) (fun _ v1 => Fm b v v1 ∧ pm_S b (setT Z s k) v1) := m_settle hE hm hv hs hb hp hk8 hq fun v1 a c => ⟨a, c⟩
      obtain ⟨x, v1, qv1, fv1, sv1⟩ := hm2
      cases x
      obtain ⟨s', hv', ⟨u', qu, fu', su'⟩, w⟩ := ih (k + 1) n m (setT Z s k) u1 v1 (hO.fc ho f1) (hm.fm fv1) s1 sv1 (hv.set hE hk8) (fun j a c z => by rw [setT_ne (by omega)]; exact hh j (by omega) c z) (by omega) (by omega) (by omega)
      refine ⟨s', hv', ⟨u', ?_, f1.trans fu', su'⟩, ?_⟩
      · simp only [i10, i00, decide_true, decide_false, cnd_t, cnd_f, gd_nil, gd_t, b1_0, b1_1, sw_nil, sw_cons, obs, q1]
        exact qu
      · simp only [i10, i00, decide_true, decide_false, cnd_t, cnd_f, gd_nil, gd_t, b1_0, b1_1, sw_nil, sw_cons, obs, qv1]
        exact w.mono fun r' v' z => ⟨z.1, fv1.trans z.2.1, z.2.2⟩
theorem first_of {P : Nat → Prop} : ∀ n : Nat, (∃ k, k < n ∧ P k) → ∃ k, k < n ∧ P k ∧ ∀ j, j < k → ¬ P j
  | 0, ⟨k, hk, _⟩ => absurd hk (Nat.not_lt_zero k)
  | n + 1, h => by
    by_cases e : ∃ k, k < n ∧ P k
    · obtain ⟨k, a, c, d⟩ := first_of n e
      exact ⟨k, by omega, c, d⟩
    · obtain ⟨k, a, c⟩ := h
      have : k = n := by
        by_cases e2 : k < n
        · exact absurd ⟨k, e2, c⟩ e
        · omega
      subst this
      exact ⟨k, a, c, fun j hj z => e ⟨j, hj, z⟩⟩
theorem whose0 (hE : pE Z) (hv : pv_S Z s) (h : pc_S o s u) (hS0 : pm_S b s v) (hb : b ≤ 1050) {t : Nat} (ht : t < sumN (tkS s) Z.1) : ∃ p, p < Z.1 ∧ fX5_holderOfTicket o (nI t) u = some (nI p, u) ∧ fX10_ownerOf (nI b) (nI t) v = some (nI p, v) := by
  have hp6 := hE.1
  obtain ⟨p, hp, a, c⟩ := whose hE hv h hS0 hb ht Z.1 0 fu fu (Nat.zero_add _) (by simp only [fu]; omega) (by simp only [fu]; omega) (Nat.zero_le _)
  rw [show sumN (tkS s) 0 = 0 from rfl] at a c
  rw [Nat.sub_zero] at c
  refine ⟨p, hp, ?_, ?_⟩
  · rw [fX5_holderOfTicket]
    exact a
  · rw [fX10_ownerOf]
    exact c
theorem pass_rel (hE : pE Z) (ho : o1 + 12 ≤ o) (hb : b ≤ 1050) (hO : pc_O Z o1 u) (hm : pm_O Z v) (hc : pc_S o s u) (hs : pm_S b s v) (hv : pv_S Z s) : ∃ r s', pv_S Z s' ∧ (r = -1 ∨ ∃ p, p < Z.1 ∧ r = nI p) ∧ (∃ u', fX5_passQuarter o o1 u = some (r, u') ∧ Fc o u u' ∧ pc_S o s' u') ∧ Wp (fX10_passes (nI b) v) (fun r' v' => r' = r ∧ Fm b v v' ∧ pm_S b s' v') := by
  have hg := hE.2.1
  have hp6 := hE.1
  have h54 := tk_le hE hv
  have hbit : ∀ k, k < Z.2.1 → (hS Z s (-1)).testBit k = !(hB Z s).testBit k := by
    intro k hk
    rw [hS_bit, hB_bit]
    simp only [hk, decide_true, Bool.true_and, Bool.not_not]
  have hheld : ∀ j, j < Z.2.1 → (hB Z s).testBit j = true → ∃ p, p < Z.1 ∧ s (2 + j) = nI p := by
    intro j hj z
    rw [hB_bit] at z
    simp only [hj, decide_true, Bool.true_and, Bool.not_eq_true', decide_eq_false_iff_not] at z
    exact (hv.1 j hj).resolve_left z
  unfold fX5_passQuarter fX10_passes
  rw [c_heldB hE hO hc, m_held hE hm hs hb]
  simp only [obs, nI_addo]
  rw [m_allT hE hm hv hs hb]
  unfold fX5_raffle
  rw [c_allT hE hv hc]
  simp only [obs]
  by_cases hn0 : rafNo Z s
  · have e1 := c_raf7n hE hO hc hn0 hv Z.2.1 0 fu (Nat.zero_add _) (by simp only [fu]; omega)
    obtain ⟨s', hv', ⟨u', qu, fu', su'⟩, w⟩ := pq_15 hE ho hb (-1) (hB_lt hE (s := s)) (hS_lt hE (s := s) (-1)) hbit Z.2.1 0 fu fu s u v hO hm hc hs hv (fun j _ hj z => hheld j hj z) (Nat.zero_add _) (by simp only [fu]; omega) (by simp only [fu]; omega)
    refine ⟨-1, s', hv', Or.inl rfl, ⟨u', obnd e1 qu, fu', su'⟩, ?_⟩
    have z0 : hS Z s (-1) = 0 ∨ sumN (tkS s) Z.1 = 0 := by
      rcases hn0 with z | z
      · exact Or.inr z
      · left
        apply bit_ext
        intro k
        rw [hS_bit, Nat.zero_testBit]
        by_cases hk : k < Z.2.1
        · simp only [hk, z k hk, decide_true, decide_false, Bool.true_and]
        · simp only [hk, decide_false, Bool.false_and]
    have hlt := hS_lt hE (s := s) (-1)
    simp (disch := first | omega | decide) only [nI_eqo, nI_leo]
    by_cases e2 : hS Z s (-1) = 0
    · simp only [e2, i10, i00, decide_true, decide_false, cnd_t, cnd_f, gd_nil, gd_t, b1_0, b1_1, sw_nil, sw_cons, obs] at w ⊢
      exact w
    · have e3 : sumN (tkS s) Z.1 ≤ 0 := by
        rcases z0 with z | z
        · exact absurd z e2
        · omega
      simp only [e2, e3, i10, i00, decide_true, decide_false, cnd_t, cnd_f, gd_nil, gd_t, b1_0, b1_1, sw_nil, sw_cons, obs]
      exact w
  · have ht : 0 < sumN (tkS s) Z.1 := by
      apply Nat.pos_of_ne_zero
      intro z
      exact hn0 (Or.inl z)
    have hk : ∃ k, k < Z.2.1 ∧ s (2 + k) = -1 := by
      apply Classical.byContradiction
      intro z
      exact hn0 (Or.inr fun k a c => z ⟨k, a, c⟩)
    obtain ⟨k0, hk0, he, hf⟩ := first_of (P := fun k => s (2 + k) = -1) Z.2.1 hk
    obtain ⟨g, hg1, e1⟩ := hv.2.2.2.2.2
    obtain ⟨v1, qv1, fv1, sv1⟩ := m_draw hs hb hg1 e1 ht (Nat.lt_of_le_of_lt h54 (by decide))
    have hv1 := hv.drawn hE (x := nI (dG g)) ⟨_, dG_lt g, rfl⟩
    have hl : dG g / 65536 % sumN (tkS s) Z.1 < sumN (tkS s) Z.1 := Nat.mod_lt _ ht
    have h31 : sumN (tkS s) Z.1 < 2147483648 := by omega
    have etk : tkS (su s 1 (nI (dG g))) = tkS s := by
      funext p
      unfold tkS
      rw [su_ne (by omega)]
    have hl2 : dG g / 65536 % sumN (tkS s) Z.1 < sumN (tkS (su s 1 (nI (dG g)))) Z.1 := by rw [etk]; exact hl
    obtain ⟨u0, qu0, fu0, su0⟩ := c_draw hc hg1 e1 ht (Nat.lt_of_le_of_lt h54 (by decide))
    obtain ⟨p, hp, w1, w2⟩ := whose0 hE hv1 su0 sv1 hb hl2
    have w1' : ∀ u', pc_S o (su s 1 (nI (dG g))) u' → fX5_holderOfTicket o (nI (dG g / 65536 % sumN (tkS s) Z.1)) u' = some (nI p, u') := by
      intro u' hu'
      obtain ⟨p', hp', w1', w2'⟩ := whose0 hE hv1 hu' sv1 hb hl2
      have : nI p' = nI p := by
        exact congrArg Prod.fst (Option.some.inj (w2'.symm.trans w2))
      rw [← this]
      exact w1'
    obtain ⟨u2, qu2, fu2, su2⟩ := c_raf7s hE hO hc hv rfl ht hk0 hf he hg1 e1 w1' k0 0 fu (Nat.zero_add _) (by simp only [fu]; omega)
    have sv2 : pm_S b (su (su s 1 (nI (dG g))) (2 + k0) (nI p)) (sI v1 16 (b + 2 + k0) (nI p)) := sv1.put (by omega)
    have fv2 : Fm b v (sI v1 16 (b + 2 + k0) (nI p)) := fv1.trans (Fm.put (k := 2 + k0) (by omega) (by omega))
    have hv2 := hv1.hold hE hk0 (x := nI p) (Or.inr ⟨p, hp, rfl⟩)
    obtain ⟨s', hv', ⟨u', qu, fu', su'⟩, w⟩ := pq_15 hE ho hb (nI p) (hB_lt hE (s := s)) (hS_lt hE (s := s) (-1)) hbit Z.2.1 0 fu fu _ u2 _ (hO.fc ho fu2) (hm.fm fv2) su2 sv2 hv2 (fun j _ hj z => by
      have hne : j ≠ k0 := by
        intro q
        subst q
        rw [hB_bit, he] at z
        simp only [decide_true, Bool.not_true, Bool.and_false, Bool.false_eq_true] at z
      rw [su_ne (by omega), su_ne (by omega)]
      exact hheld j hj z) (Nat.zero_add _) (by simp only [fu]; omega) (by simp only [fu]; omega)
    refine ⟨nI p, s', hv', Or.inr ⟨p, hp, rfl⟩, ⟨u', obnd qu2 qu, fu2.trans fu', su'⟩, ?_⟩
    have hlt := hS_lt hE (s := s) (-1)
    have hb0 : (hS Z s (-1)).testBit k0 = true := by
      rw [hS_bit, he]
      simp only [hk0, decide_true, Bool.and_self]
    have e2 : ¬ hS Z s (-1) = 0 := by
      intro z
      rw [z, Nat.zero_testBit] at hb0
      cases hb0
    have e3 : ¬ sumN (tkS s) Z.1 ≤ 0 := by omega
    simp (disch := first | omega | decide) only [nI_eqo, nI_leo, e2, e3, i10, i00, decide_true, decide_false, cnd_t, cnd_f, gd_nil, gd_t, b1_0, b1_1, sw_nil, sw_cons, obs]
    have hw := m_raf33 hE (b := b) (v := v) (t := sumN (tkS s) Z.1) hlt (show k0 < 8 by omega) hb (fun k hk => by
      rw [hS_bit]
      simp only [hf k hk, decide_false, Bool.and_false]) hb0 qv1 w2 k0 0 fu (Nat.zero_add _) (by simp only [fu]; omega)
    rw [show (0 : Int32) = nI 0 from rfl, hw]
    exact w.mono fun r' v' z => ⟨z.1, fv2.trans z.2.1, z.2.2⟩
end PU
