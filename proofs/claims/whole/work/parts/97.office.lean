/-! an office told -/
section PU
variable {u v u' v' : ab_S} {n T i o np ng : Nat} {g : Nat → Nat → Int32} {cs : List Int32}
-- ===== both sides cleared =====
theorem c_clear12 : ∀ d k N (u : ab_S), k + d = 48 → d < N → (∀ j, j < k → u.1 (o + 7) j = 0) → ∃ w, fX2_clear_12 o N (nI k) u = (ab_gd [ab_b1 0, ab_b1 0] ((fX1_setUsual (o + 8) (sI (sI (sI w o 9 0) o 10 0) o 11 0)).bind fun q1 => some ((), q1.2))) ∧ (∀ j, j < 48 → w.1 (o + 7) j = 0) ∧ Fr (fun a _ => a = o + 7) u w := by
  intro d
  induction d with
  | zero =>
    intro k N u hd hN h
    obtain ⟨N, rfl⟩ : ∃ m, N = m + 1 := ⟨N - 1, by omega⟩
    have ek : k = 48 := by omega
    subst ek
    refine ⟨u, ?_, h, Fr.rfl'⟩
    rw [fX2_clear_12]
    simp only [show (nI 48 < 48) = False from eq_false (by decide +kernel), decide_false, cnd_f]
  | succ d ih =>
    intro k N u hd hN h
    obtain ⟨N, rfl⟩ : ∃ m, N = m + 1 := ⟨N - 1, by omega⟩
    obtain ⟨w, w1, w2, w3⟩ := ih (k + 1) N (sI u (o + 7) k 0) (by omega) (by omega) (fun j hj => by
      by_cases e : j = k
      · subst e; rw [sI_at, if_pos ⟨rfl, rfl⟩]
      · rw [sI_at, if_neg (by omega)]; exact h j (by omega))
    refine ⟨w, ?_, w2, Fr.trans (D := fun a _ => a = o + 7) (Fr.sI rfl) w3⟩
    rw [fX2_clear_12, ← w1]
    simp (disch := first | omega | decide) only [i10, i00, decide_true, decide_false, cnd_t, cnd_f, gd_nil, gd_t, b1_0, b1_1, sw_nil, sw_cons, obs, Nat.not_lt_zero, nI_addo, nI_oadd, nI_add, nI_mulo, nI_omul, nI_mul, nI_lto, nI_leo, nI_olt, nI_ole, nI_eqo, nI_oeq, nI_lt2, nI_le2, nI_eq2, nI_nm1, nI_m1n, nI_lt0, nI_lem1, nc_nI, nc_o, ix_nI, ix_o, show k < 48 by omega]
theorem c_clear (ho : o = 6 ∨ o = 18) (u : ab_S) : ∃ w, fX2_clear o u = some ((), w) ∧ w.1 o 0 = 0 ∧ w.1 o 1 = 0 ∧ (∀ j, j < 48 → w.1 (o + 7) j = 0) ∧ w.1 o 9 = 0 ∧ w.1 o 10 = 0 ∧ w.1 o 11 = 0 ∧ w.1 (o + 8) 1 = nI 3 ∧ w.1 (o + 9) 0 = -1 ∧ w.1 (o + 9) 1 = -3 ∧ w.1 (o + 9) 2 = -10 ∧ Fr (fun a _ => o ≤ a ∧ a < o + 12) u w := by
  obtain ⟨w, w1, w2, w3⟩ := c_clear12 (o := o) 48 0 fu (sI (sI u o 0 0) o 1 0) rfl (by decide) (fun j hj => absurd hj (Nat.not_lt_zero j))
  have w1' : fX2_clear o u = (ab_gd [ab_b1 0, ab_b1 0] ((fX1_setUsual (o + 8) (sI (sI (sI w o 9 0) o 10 0) o 11 0)).bind fun q1 => some ((), q1.2))) := w1
  have a1 := c_add (u := sI (sI (sI (sI w o 9 0) o 10 0) o 11 0) (o + 8) 1 0) (q := o + 8) (m := 0) (by rw [sI_at, if_pos ⟨rfl, rfl⟩]; rfl) (by decide) (-1)
  have a2 := c_add (u := sI (sI (sI (sI (sI (sI w o 9 0) o 10 0) o 11 0) (o + 8) 1 0) (o + 8 + 1) 0 (-1)) (o + 8) 1 (nI (0 + 1))) (q := o + 8) (m := 1) (by rw [sI_at, if_pos ⟨rfl, rfl⟩]) (by decide) (-3)
  have a3 := c_add (u := sI (sI (sI (sI (sI (sI (sI (sI w o 9 0) o 10 0) o 11 0) (o + 8) 1 0) (o + 8 + 1) 0 (-1)) (o + 8) 1 (nI (0 + 1))) (o + 8 + 1) 1 (-3)) (o + 8) 1 (nI (1 + 1))) (q := o + 8) (m := 2) (by rw [sI_at, if_pos ⟨rfl, rfl⟩]) (by decide) (-10)
  have eW : ∀ a k, a < o + 8 → ¬ (a = o ∧ 9 ≤ k) → (sI (sI (sI (sI (sI (sI (sI (sI (sI (sI w o 9 0) o 10 0) o 11 0) (o + 8) 1 0) (o + 8 + 1) 0 (-1)) (o + 8) 1 (nI (0 + 1))) (o + 8 + 1) 1 (-3)) (o + 8) 1 (nI (1 + 1))) (o + 8 + 1) 2 (-10)) (o + 8) 1 (nI (2 + 1))).1 a k = w.1 a k := fun a k z1 z2 => by
    rw [sI_at, if_neg (by omega), sI_at, if_neg (by omega), sI_at, if_neg (by omega), sI_at, if_neg (by omega), sI_at, if_neg (by omega), sI_at, if_neg (by omega), sI_at, if_neg (by omega), sI_at, if_neg (by omega), sI_at, if_neg (by omega), sI_at, if_neg (by omega)]
  refine ⟨sI (sI (sI (sI (sI (sI (sI (sI (sI (sI w o 9 0) o 10 0) o 11 0) (o + 8) 1 0) (o + 8 + 1) 0 (-1)) (o + 8) 1 (nI (0 + 1))) (o + 8 + 1) 1 (-3)) (o + 8) 1 (nI (1 + 1))) (o + 8 + 1) 2 (-10)) (o + 8) 1 (nI (2 + 1)), ?_, ?_, ?_, fun j hj => ?_, ?_, ?_, ?_, ?_, ?_, ?_, ?_, ?_⟩
  rotate_left
  · rw [eW _ _ (by omega) (by omega), w3.1 _ _ (by omega), sI_at, if_neg (by omega), sI_at, if_pos ⟨rfl, rfl⟩]
  · rw [eW _ _ (by omega) (by omega), w3.1 _ _ (by omega), sI_at, if_pos ⟨rfl, rfl⟩]
  · rw [eW _ _ (by omega) (by omega)]
    exact w2 j hj
  · rw [sI_at, if_neg (by omega), sI_at, if_neg (by omega), sI_at, if_neg (by omega), sI_at, if_neg (by omega), sI_at, if_neg (by omega), sI_at, if_neg (by omega), sI_at, if_neg (by omega), sI_at, if_neg (by omega), sI_at, if_neg (by omega), sI_at, if_pos ⟨rfl, rfl⟩]
  · rw [sI_at, if_neg (by omega), sI_at, if_neg (by omega), sI_at, if_neg (by omega), sI_at, if_neg (by omega), sI_at, if_neg (by omega), sI_at, if_neg (by omega), sI_at, if_neg (by omega), sI_at, if_neg (by omega), sI_at, if_pos ⟨rfl, rfl⟩]
  · rw [sI_at, if_neg (by omega), sI_at, if_neg (by omega), sI_at, if_neg (by omega), sI_at, if_neg (by omega), sI_at, if_neg (by omega), sI_at, if_neg (by omega), sI_at, if_neg (by omega), sI_at, if_pos ⟨rfl, rfl⟩]
  · rw [sI_at, if_pos ⟨rfl, rfl⟩]
  · rw [sI_at, if_neg (by omega), sI_at, if_neg (by omega), sI_at, if_neg (by omega), sI_at, if_neg (by omega), sI_at, if_neg (by omega), sI_at, if_pos ⟨rfl, rfl⟩]
  · rw [sI_at, if_neg (by omega), sI_at, if_neg (by omega), sI_at, if_neg (by omega), sI_at, if_pos ⟨rfl, rfl⟩]
  · rw [sI_at, if_neg (by omega), sI_at, if_pos ⟨rfl, rfl⟩]
  · have fa : ∀ {w : ab_S} {a k : Nat} {x : Int32}, (o ≤ a ∧ a < o + 12) → Fr (fun a _ => o ≤ a ∧ a < o + 12) w (sI w a k x) := fun h => Fr.sI h
    exact (fa (by omega)).trans ((fa (by omega)).trans ((w3.mono fun a k z => by omega).trans ((fa (by omega)).trans ((fa (by omega)).trans ((fa (by omega)).trans ((fa (by omega)).trans ((fa (by omega)).trans ((fa (by omega)).trans ((fa (by omega)).trans ((fa (by omega)).trans ((fa (by omega)).trans (fa (by omega)))))))))))))
  · rw [w1']
    unfold fX1_setUsual
    simp only [i10, i00, decide_true, decide_false, cnd_t, cnd_f, gd_nil, gd_t, b1_0, b1_1, sw_nil, sw_cons, obs, a1, a2, a3]
theorem m_always2 : ∀ d k N (v : ab_S), k + d = 90 → d < N → (∀ j, j < k → v.1 6 (90 + j) = 0) → ∃ w, fX10_standsAsAlways_2 N 90 (nI k) v = some ((), sI w 6 93 (-1)) ∧ (∀ j, j < 90 → w.1 6 (90 + j) = 0) ∧ Fr (fun a k => a = 6 ∧ 90 ≤ k) v w := by
  intro d
  induction d with
  | zero =>
    intro k N v hd hN h
    obtain ⟨N, rfl⟩ : ∃ m, N = m + 1 := ⟨N - 1, by omega⟩
    have ek : k = 90 := by omega
    subst ek
    refine ⟨v, ?_, h, Fr.rfl'⟩
    rw [fX10_standsAsAlways_2]
    simp only [show (nI 90 < 90) = False from eq_false (by decide +kernel), i10, i00, decide_true, decide_false, cnd_t, cnd_f, gd_nil, gd_t, b1_0, b1_1, sw_nil, sw_cons, obs, show (90 : Int32) + 3 = 93 by decide +kernel, show ab_ix 93 180 = true by decide +kernel, show nc (93 : Int32) = 93 by decide +kernel]
  | succ d ih =>
    intro k N v hd hN h
    obtain ⟨N, rfl⟩ : ∃ m, N = m + 1 := ⟨N - 1, by omega⟩
    obtain ⟨w, w1, w2, w3⟩ := ih (k + 1) N (sI v 6 (90 + k) 0) (by omega) (by omega) (fun j hj => by
      by_cases e : j = k
      · subst e; rw [sI_at, if_pos ⟨rfl, rfl⟩]
      · rw [sI_at, if_neg (by omega)]; exact h j (by omega))
    refine ⟨w, ?_, w2, (Fr.sI ⟨rfl, by omega⟩).trans w3⟩
    rw [fX10_standsAsAlways_2, ← w1]
    simp (disch := first | omega | decide) only [i10, i00, decide_true, decide_false, cnd_t, cnd_f, gd_nil, gd_t, b1_0, b1_1, sw_nil, sw_cons, obs, Nat.not_lt_zero, nI_addo, nI_oadd, nI_add, nI_mulo, nI_omul, nI_mul, nI_lto, nI_leo, nI_olt, nI_ole, nI_eqo, nI_oeq, nI_lt2, nI_le2, nI_eq2, nI_nm1, nI_m1n, nI_lt0, nI_lem1, nc_nI, nc_o, ix_nI, ix_o, show k < 90 by omega, show (90 : Int32) + nI k = nI (90 + k) from nI_add 90 k]
theorem m_always (v : ab_S) : ∃ w, fX10_standsAsAlways 90 v = some ((), w) ∧ (∀ j, j < 90 → j ≠ 3 → w.1 6 (90 + j) = 0) ∧ w.1 6 93 = -1 ∧ Fr (fun a k => a = 6 ∧ 90 ≤ k) v w := by
  obtain ⟨w, w1, w2, w3⟩ := m_always2 90 0 fu v rfl (by decide) (fun j hj => absurd hj (Nat.not_lt_zero j))
  refine ⟨_, w1, fun j hj hn => ?_, by rw [sI_at, if_pos ⟨rfl, rfl⟩], w3.trans (Fr.sI ⟨rfl, by decide⟩)⟩
  rw [sI_at, if_neg (by omega)]
  exact w2 j hj
-- ===== the reference takes it =====
def dKp (a k : Nat) : Prop := (a = 6 ∧ k < 90) ∨ ((a = 7 ∨ a = 8) ∧ k < 1100) ∨ a = 9 ∨ a = 11
theorem m_off153 {m : Nat} (hm : m ≤ 14) : ∀ d k N (v : ab_S), v.1 0 19 = nI m → k + d = m → d < N → (∀ j, j < k → v.2.1 9 j = v.2.1 10 j ∧ v.1 11 j = v.1 12 j) → ∃ w, fX10_office_153 N (nI k) v = ((fX10_begins (sI w 0 18 (nI m))).bind fun q1 => some (0, q1.2)) ∧ (∀ j, j < m → w.2.1 9 j = v.2.1 10 j ∧ w.1 11 j = v.1 12 j) ∧ Fr (fun a _ => a = 9 ∨ a = 11) v w := by
  intro d
  induction d with
  | zero =>
    intro k N v hv hd hN h
    obtain ⟨N, rfl⟩ : ∃ m, N = m + 1 := ⟨N - 1, by omega⟩
    have ek : k = m := by omega
    subst ek
    refine ⟨v, ?_, h, Fr.rfl'⟩
    rw [fX10_office_153, hv]
    simp (disch := first | omega | decide) only [nI_lt2, Nat.lt_irrefl, decide_false, cnd_f]
  | succ d ih =>
    intro k N v hv hd hN h
    obtain ⟨N, rfl⟩ : ∃ m, N = m + 1 := ⟨N - 1, by omega⟩
    have fr : Fr (fun a _ => a = 9 ∨ a = 11) v (sI (sJ v 9 k (v.2.1 10 k)) 11 k (v.1 12 k)) := (Fr.sJ (Or.inl rfl)).trans (Fr.sI (Or.inr rfl))
    obtain ⟨w, w1, w2, w3⟩ := ih (k + 1) N (sI (sJ v 9 k (v.2.1 10 k)) 11 k (v.1 12 k)) (by rw [fr.1 _ _ (by omega)]; exact hv) (by omega) (by omega) (fun j hj => by
      rw [fr.2.1 10 j (by omega), fr.1 12 j (by omega)]
      by_cases e : j = k
      · subst e
        refine ⟨?_, ?_⟩
        · show (sJ v 9 j (v.2.1 10 j)).2.1 9 j = _
          rw [sJ_at, if_pos ⟨rfl, rfl⟩]
        · rw [sI_at, if_pos ⟨rfl, rfl⟩]
      · refine ⟨?_, ?_⟩
        · show (sJ v 9 k (v.2.1 10 k)).2.1 9 j = _
          rw [sJ_at, if_neg (by omega)]
          exact (h j (by omega)).1
        · rw [sI_at, if_neg (by omega)]
          exact (h j (by omega)).2)
    refine ⟨w, ?_, fun j hj => ?_, fr.trans w3⟩
    · rw [fX10_office_153, ← w1, hv]
      simp (disch := first | omega | decide) only [i10, i00, decide_true, decide_false, cnd_t, cnd_f, gd_nil, gd_t, b1_0, b1_1, sw_nil, sw_cons, obs, Nat.not_lt_zero, nI_addo, nI_oadd, nI_add, nI_mulo, nI_omul, nI_mul, nI_lto, nI_leo, nI_olt, nI_ole, nI_eqo, nI_oeq, nI_lt2, nI_le2, nI_eq2, nI_nm1, nI_m1n, nI_lt0, nI_lem1, nc_nI, nc_o, ix_nI, ix_o, show k < m by omega, sJ_i]
    · have := w2 j hj
      rw [fr.2.1 10 j (by omega), fr.1 12 j (by omega)] at this
      exact this
theorem m_off105 {m : Nat} (hm : m ≤ 1050) : ∀ d k N (v : ab_S), v.1 0 13 = nI m → k + d = m → d < N → (∀ j, j < k → v.1 7 j = v.1 7 (1100 + j) ∧ v.1 8 j = v.1 8 (1100 + j)) → ∃ w, fX10_office_105 N (nI k) v = fX10_office_153 fu 0 w ∧ (∀ j, j < m → w.1 7 j = v.1 7 (1100 + j) ∧ w.1 8 j = v.1 8 (1100 + j)) ∧ Fr (fun a k => (a = 7 ∨ a = 8) ∧ k < 1100) v w := by
  intro d
  induction d with
  | zero =>
    intro k N v hv hd hN h
    obtain ⟨N, rfl⟩ : ∃ m, N = m + 1 := ⟨N - 1, by omega⟩
    have ek : k = m := by omega
    subst ek
    refine ⟨v, ?_, h, Fr.rfl'⟩
    rw [fX10_office_105, hv]
    simp (disch := first | omega | decide) only [nI_lt2, Nat.lt_irrefl, decide_false, cnd_f]
  | succ d ih =>
    intro k N v hv hd hN h
    obtain ⟨N, rfl⟩ : ∃ m, N = m + 1 := ⟨N - 1, by omega⟩
    have fr : Fr (fun a k => (a = 7 ∨ a = 8) ∧ k < 1100) v (sI (sI v 7 k (v.1 7 (1100 + k))) 8 k (v.1 8 (1100 + k))) := (Fr.sI ⟨Or.inl rfl, by omega⟩).trans (Fr.sI ⟨Or.inr rfl, by omega⟩)
    obtain ⟨w, w1, w2, w3⟩ := ih (k + 1) N (sI (sI v 7 k (v.1 7 (1100 + k))) 8 k (v.1 8 (1100 + k))) (by rw [fr.1 _ _ (by omega)]; exact hv) (by omega) (by omega) (fun j hj => by
      rw [fr.1 7 (1100 + j) (by omega), fr.1 8 (1100 + j) (by omega)]
      by_cases e : j = k
      · subst e
        refine ⟨?_, ?_⟩
        · rw [sI_at, if_neg (by omega), sI_at, if_pos ⟨rfl, rfl⟩]
        · rw [sI_at, if_pos ⟨rfl, rfl⟩]
      · refine ⟨?_, ?_⟩
        · rw [sI_at, if_neg (by omega), sI_at, if_neg (by omega)]
          exact (h j (by omega)).1
        · rw [sI_at, if_neg (by omega), sI_at, if_neg (by omega)]
          exact (h j (by omega)).2)
    refine ⟨w, ?_, fun j hj => ?_, fr.trans w3⟩
    · have e8 : (sI v 7 k (v.1 7 (1100 + k))).1 8 (1100 + k) = v.1 8 (1100 + k) := by rw [sI_at, if_neg (by omega)]
      rw [fX10_office_105, ← w1, hv]
      simp (disch := first | omega | decide) only [i10, i00, decide_true, decide_false, cnd_t, cnd_f, gd_nil, gd_t, b1_0, b1_1, sw_nil, sw_cons, obs, Nat.not_lt_zero, nI_addo, nI_oadd, nI_add, nI_mulo, nI_omul, nI_mul, nI_lto, nI_leo, nI_olt, nI_ole, nI_eqo, nI_oeq, nI_lt2, nI_le2, nI_eq2, nI_nm1, nI_m1n, nI_lt0, nI_lem1, nc_nI, nc_o, ix_nI, ix_o, show k < m by omega, show (1100 : Int32) + nI k = nI (1100 + k) from nI_add 1100 k, e8]
    · have := w2 j hj
      rw [fr.1 7 (1100 + j) (by omega), fr.1 8 (1100 + j) (by omega)] at this
      exact this
theorem m_off76 : ∀ d k N (v : ab_S), k + d = 90 → d < N → (∀ j, j < k → v.1 6 j = v.1 6 (90 + j)) → ∃ w, fX10_office_76 N (nI k) v = fX10_office_105 fu 0 w ∧ (∀ j, j < 90 → w.1 6 j = v.1 6 (90 + j)) ∧ Fr (fun a k => a = 6 ∧ k < 90) v w := by
  intro d
  induction d with
  | zero =>
    intro k N v hd hN h
    obtain ⟨N, rfl⟩ : ∃ m, N = m + 1 := ⟨N - 1, by omega⟩
    have ek : k = 90 := by omega
    subst ek
    refine ⟨v, ?_, h, Fr.rfl'⟩
    rw [fX10_office_76]
    simp only [show (nI 90 < 90) = False from eq_false (by decide +kernel), decide_false, cnd_f]
  | succ d ih =>
    intro k N v hd hN h
    obtain ⟨N, rfl⟩ : ∃ m, N = m + 1 := ⟨N - 1, by omega⟩
    have fr : Fr (fun a k => a = 6 ∧ k < 90) v (sI v 6 k (v.1 6 (90 + k))) := Fr.sI ⟨rfl, by omega⟩
    obtain ⟨w, w1, w2, w3⟩ := ih (k + 1) N (sI v 6 k (v.1 6 (90 + k))) (by omega) (by omega) (fun j hj => by
      rw [fr.1 6 (90 + j) (by omega)]
      by_cases e : j = k
      · subst e
        rw [sI_at, if_pos ⟨rfl, rfl⟩]
      · rw [sI_at, if_neg (by omega)]
        exact h j (by omega))
    refine ⟨w, ?_, fun j hj => ?_, fr.trans w3⟩
    · rw [fX10_office_76, ← w1]
      simp (disch := first | omega | decide) only [i10, i00, decide_true, decide_false, cnd_t, cnd_f, gd_nil, gd_t, b1_0, b1_1, sw_nil, sw_cons, obs, Nat.not_lt_zero, nI_addo, nI_oadd, nI_add, nI_mulo, nI_omul, nI_mul, nI_lto, nI_leo, nI_olt, nI_ole, nI_eqo, nI_oeq, nI_lt2, nI_le2, nI_eq2, nI_nm1, nI_m1n, nI_lt0, nI_lem1, nc_nI, nc_o, ix_nI, ix_o, show k < 90 by omega, show (90 : Int32) + nI k = nI (90 + k) from nI_add 90 k]
    · have := w2 j hj
      rw [fr.1 6 (90 + j) (by omega)] at this
      exact this
theorem m_begins27 : ∀ d k N (v : ab_S), k + d = 4 → d < N → (∀ j, j < k → v.1 17 j = 0) → ∃ w, fX10_begins_27 N (nI k) v = some ((), w) ∧ (∀ j, j < 4 → w.1 17 j = 0) ∧ Fr (fun a _ => a = 17) v w := by
  intro d
  induction d with
  | zero =>
    intro k N v hd hN h
    obtain ⟨N, rfl⟩ : ∃ m, N = m + 1 := ⟨N - 1, by omega⟩
    have ek : k = 4 := by omega
    subst ek
    refine ⟨v, ?_, h, Fr.rfl'⟩
    rw [fX10_begins_27]
    simp only [show (nI 4 < 4) = False from eq_false (by decide +kernel), decide_false, cnd_f]
  | succ d ih =>
    intro k N v hd hN h
    obtain ⟨N, rfl⟩ : ∃ m, N = m + 1 := ⟨N - 1, by omega⟩
    obtain ⟨w, w1, w2, w3⟩ := ih (k + 1) N (sI v 17 k 0) (by omega) (by omega) (fun j hj => by
      by_cases e : j = k
      · subst e; rw [sI_at, if_pos ⟨rfl, rfl⟩]
      · rw [sI_at, if_neg (by omega)]; exact h j (by omega))
    refine ⟨w, ?_, w2, Fr.trans (D := fun a _ => a = 17) (Fr.sI rfl) w3⟩
    rw [fX10_begins_27, ← w1]
    simp (disch := first | omega | decide) only [i10, i00, decide_true, decide_false, cnd_t, cnd_f, gd_nil, gd_t, b1_0, b1_1, sw_nil, sw_cons, obs, Nat.not_lt_zero, nI_addo, nI_oadd, nI_add, nI_mulo, nI_omul, nI_mul, nI_lto, nI_leo, nI_olt, nI_ole, nI_eqo, nI_oeq, nI_lt2, nI_le2, nI_eq2, nI_nm1, nI_m1n, nI_lt0, nI_lem1, nc_nI, nc_o, ix_nI, ix_o, show k < 4 by omega]
theorem c_open34 : ∀ d k N (u : ab_S), k + d = 4 → d < N → (∀ j, j < k → u.1 149 j = 0) → ∃ w, fX9_openOffice_34 N (nI k) u = some ((), sI w 154 0 0) ∧ (∀ j, j < 4 → w.1 149 j = 0) ∧ Fr (fun a _ => a = 149) u w := by
  intro d
  induction d with
  | zero =>
    intro k N u hd hN h
    obtain ⟨N, rfl⟩ : ∃ m, N = m + 1 := ⟨N - 1, by omega⟩
    have ek : k = 4 := by omega
    subst ek
    refine ⟨u, ?_, h, Fr.rfl'⟩
    rw [fX9_openOffice_34]
    simp only [show (nI 4 < 4) = False from eq_false (by decide +kernel), i10, i00, decide_true, decide_false, cnd_t, cnd_f, gd_nil, gd_t, b1_0, b1_1, sw_nil, sw_cons, obs]
  | succ d ih =>
    intro k N u hd hN h
    obtain ⟨N, rfl⟩ : ∃ m, N = m + 1 := ⟨N - 1, by omega⟩
    obtain ⟨w, w1, w2, w3⟩ := ih (k + 1) N (sI u 149 k 0) (by omega) (by omega) (fun j hj => by
      by_cases e : j = k
      · subst e; rw [sI_at, if_pos ⟨rfl, rfl⟩]
      · rw [sI_at, if_neg (by omega)]; exact h j (by omega))
    refine ⟨w, ?_, w2, Fr.trans (D := fun a _ => a = 149) (Fr.sI rfl) w3⟩
    rw [fX9_openOffice_34, ← w1]
    simp (disch := first | omega | decide) only [i10, i00, decide_true, decide_false, cnd_t, cnd_f, gd_nil, gd_t, b1_0, b1_1, sw_nil, sw_cons, obs, Nat.not_lt_zero, nI_addo, nI_oadd, nI_add, nI_mulo, nI_omul, nI_mul, nI_lto, nI_leo, nI_olt, nI_ole, nI_eqo, nI_oeq, nI_lt2, nI_le2, nI_eq2, nI_nm1, nI_m1n, nI_lt0, nI_lem1, nc_nI, nc_o, ix_nI, ix_o, show k < 4 by omega]
end PU
