/-! numbers, words and kinds taken on both sides -/
section PU
variable {u v u' v' : ab_S} {n T i o : Nat}
theorem pR.same (h : pR n T i u v) : pR n T i u (sI v 0 7 (nI i)) := by
  have g : Fr (fun a k => a = 0 ∧ k = 7) v (sI v 0 7 (nI i)) := Fr.sI ⟨rfl, rfl⟩
  obtain ⟨h1, ⟨a1, a2, a3, a4, a5⟩, h3, h4, h5⟩ := h
  refine ⟨h1.fr (D := fun _ _ => False) Fr.rfl' g (fun a k z q => q) (fun a k z q => by omega), ⟨a1, a2, a3, a4, ?_⟩, h3, ?_, h5.fr g fun k q => by omega⟩
  · rw [sI_at, if_pos ⟨rfl, rfl⟩]
  · rw [sI_at, if_neg (by omega)]; exact h4
theorem p_num (h : pR n T i u v) (lo hi : Nat) (hl : lo ≤ hi) (hh : hi < 10000) : (∃ x u', lo ≤ x ∧ x ≤ hi ∧ fX6_takeNumber (nI lo) (nI hi) u = some (nI x, u') ∧ fX10_takeNumber (nI lo) (nI hi) v = some (nI x, sI v 0 7 (nI (i + 1))) ∧ pR n T (i + 1) u' (sI v 0 7 (nI (i + 1))) ∧ Fr dSu u u') ∨ (∃ f, fX6_takeNumber (nI lo) (nI hi) u = some (-1, sI u 1 10 (nI f)) ∧ fX10_takeNumber (nI lo) (nI hi) v = some (0, sI v 0 8 (nI f)) ∧ 1 ≤ f ∧ f < 20000) := by
  have hi1 := h.i1000
  have h7 := h.at
  have h8 := h.ok
  have key : (u.1 1 7 = 3 ↔ v.1 2 i = 2) ∧ (u.1 1 7 = 3 → ∃ x, x < 10000 ∧ u.2.1 1 9 = lN x ∧ v.2.1 4 i = lN x) := by
    obtain h | ⟨a, b⟩ | ⟨a, b, w⟩ | ⟨a, b, c⟩ | ⟨a, b, -⟩ := h.cur
    · rw [h.1, h.2]; exact ⟨by decide +kernel, fun z => absurd z (by decide +kernel)⟩
    · rw [a, b]; exact ⟨by decide +kernel, fun z => absurd z (by decide +kernel)⟩
    · rw [a, b]; exact ⟨by decide +kernel, fun z => absurd z (by decide +kernel)⟩
    · rw [a, b]; exact ⟨by decide +kernel, fun _ => c⟩
    · rw [a, b]; exact ⟨by decide +kernel, fun z => absurd z (by decide +kernel)⟩
  have bad8 : ∀ f, 1 ≤ f → f < 20000 → fX10_takeNumber_70 (sI v 0 8 (nI f)) = some (0, sI v 0 8 (nI f)) := by
    intro f f1 f2
    have := (mF.mk8 (v := v) f1 f2).nz
    unfold fX10_takeNumber_70
    simp only [this.2, i10, i00, decide_true, decide_false, cnd_t, cnd_f, gd_nil, gd_t, b1_0, b1_1, sw_nil, sw_cons, obs]
  unfold fX6_takeNumber fX10_takeNumber fX10_takeNumber_28
  rw [h7, h8]
  simp (disch := first | omega | decide) only [i10, i00, decide_true, decide_false, cnd_t, cnd_f, gd_nil, gd_t, b1_0, b1_1, sw_nil, sw_cons, obs, Nat.not_lt_zero, nI_addo, nI_oadd, nI_add, nI_mulo, nI_omul, nI_mul, nI_lto, nI_leo, nI_olt, nI_ole, nI_eqo, nI_oeq, nI_lt2, nI_le2, nI_eq2, nI_nm1, nI_m1n, nI_lt0, nI_lem1, nc_nI, nc_o, ix_nI, ix_o]
  by_cases e : u.1 1 7 = 3
  · have e1 := key.1.mp e
    obtain ⟨x, x1, x2, x3⟩ := key.2 e
    simp only [e, e1, x2, x3, lN_i, nI_l (show lo < 2 ^ 31 by omega), nI_l (show hi < 2 ^ 31 by omega), i10, i00, decide_true, decide_false, cnd_t, cnd_f, gd_nil, gd_t, b1_0, b1_1, sw_nil, sw_cons, obs]
    have c1 : lN x < lN lo ↔ x < lo := lN_lt (by omega) (by omega)
    have c2 : lN x ≤ lN hi ↔ x ≤ hi := lN_le (by omega) (by omega)
    simp (disch := first | omega | decide) only [Nat.not_lt_zero, nI_addo, nI_oadd, nI_add, nI_mulo, nI_omul, nI_mul, nI_lto, nI_leo, nI_olt, nI_ole, nI_eqo, nI_oeq, nI_lt2, nI_le2, nI_eq2, nI_nm1, nI_m1n, nI_lt0, nI_lem1, nc_nI, nc_o, ix_nI, ix_o, c1, c2]
    have bad : (∃ f, fX6_takeNumber_32 u = some (-1, sI u 1 10 (nI f)) ∧ fX10_takeNumber_65 v = some (0, sI v 0 8 (nI f)) ∧ 1 ≤ f ∧ f < 20000) := by
      obtain ⟨f, f1, f2, f3, f4⟩ := p_fail h 4 (by decide) (by decide)
      have f3' : fX6_fail 4 u = some (0, sI u 1 10 (nI f)) := f3
      have f4' : fX10_wrong 4 v = some ((), sI v 0 8 (nI f)) := f4
      unfold fX6_takeNumber_32 fX10_takeNumber_65
      rw [f3', f4']
      simp only [obs, bad8 f f1 f2]
      exact ⟨f, rfl, rfl, f1, f2⟩
    by_cases b1 : x < lo
    · simp only [b1, i10, i00, decide_true, decide_false, cnd_t, cnd_f, gd_nil, gd_t, b1_0, b1_1, sw_nil, sw_cons, obs]
      exact Or.inr bad
    by_cases b2 : x ≤ hi
    · have hk : u.1 1 7 ≠ 0 := by rw [e]; decide +kernel
      obtain ⟨u', s1, s2, s3⟩ := p_step h hk
      refine Or.inl ⟨x, u', by omega, b2, ?_, ?_, s2, s3⟩
      · simp only [b1, b2, i10, i00, decide_true, decide_false, cnd_t, cnd_f, gd_nil, gd_t, b1_0, b1_1, sw_nil, sw_cons, obs, s1]
      · have em : nI (i + 1) - 1 = nI i := nI_sub (b := 1) (by omega)
        unfold fX10_takeNumber_70
        simp (disch := first | omega | decide) only [b1, b2, sI_at, sI_l, sJ_at, sJ_i, sJ_m, sM_at, sM_i, sM_l, Nat.reduceEqDiff, false_and, and_false, true_and, and_true, and_self, if_false, if_true, ite_false, ite_true, i10, i00, decide_true, decide_false, cnd_t, cnd_f, gd_nil, gd_t, b1_0, b1_1, sw_nil, sw_cons, obs, h7, h8, show ((0 : Int32) ≤ 0) = True from eq_true (by decide +kernel), em, ix_nI, nc_nI, x3, lN_i, show nI i + 1 = nI (i + 1) from nI_1 i]
    · simp only [b1, b2, i10, i00, decide_true, decide_false, cnd_t, cnd_f, gd_nil, gd_t, b1_0, b1_1, sw_nil, sw_cons, obs]
      exact Or.inr bad
  · have e1 : ¬ v.1 2 i = 2 := fun z => e (key.1.mpr z)
    obtain ⟨f, f1, f2, f3, f4⟩ := p_fail h 1 (by decide) (by decide)
    have f3' : fX6_fail 1 u = some (0, sI u 1 10 (nI f)) := f3
    have f4' : fX10_wrong 1 v = some ((), sI v 0 8 (nI f)) := f4
    refine Or.inr ⟨f, ?_, ?_, f1, f2⟩
    · simp only [e, i10, i00, decide_true, decide_false, cnd_t, cnd_f, gd_nil, gd_t, b1_0, b1_1, sw_nil, sw_cons, obs, f3']
    · simp only [e1, i10, i00, decide_true, decide_false, cnd_t, cnd_f, gd_nil, gd_t, b1_0, b1_1, sw_nil, sw_cons, obs, f4', bad8 f f1 f2]
theorem p_word (h : pR n T i u v) {k : Nat} (hk : k < 23) : (∃ u', fX6_takeWord k u = some (1, u') ∧ fX10_takeWord (nI k) v = some ((), sI v 0 7 (nI (i + 1))) ∧ pR n T (i + 1) u' (sI v 0 7 (nI (i + 1))) ∧ Fr dSu u u') ∨ (∃ f v', fX6_takeWord k u = some (0, sI u 1 10 (nI f)) ∧ fX10_takeWord (nI k) v = some ((), v') ∧ mF f v' ∧ Fr dSv v v') := by
  unfold fX6_takeWord fX10_takeWord fX10_hasWord
  rw [c_isWord, m_isWord h hk]
  by_cases e : isW k u
  · have hk0 : u.1 1 7 ≠ 0 := by rw [e.1]; decide +kernel
    obtain ⟨u', s1, s2, s3⟩ := p_step h hk0
    refine Or.inl ⟨u', ?_, ?_, s2, s3⟩
    · simp only [if_pos e, i10, i00, decide_true, decide_false, cnd_t, cnd_f, gd_nil, gd_t, b1_0, b1_1, sw_nil, sw_cons, obs, s1]
    · simp only [if_pos e, i10, i00, decide_true, decide_false, cnd_t, cnd_f, gd_nil, gd_t, b1_0, b1_1, sw_nil, sw_cons, obs, h.at, show nI i + 1 = nI (i + 1) from nI_1 i]
  · obtain ⟨f, f1, f2, f3, f4⟩ := p_fail h.same 1 (by decide) (by decide)
    have f3' : fX6_fail 1 u = some (0, sI u 1 10 (nI f)) := f3
    have f4' : fX10_wrong 1 (sI v 0 7 (nI i)) = some ((), sI (sI v 0 7 (nI i)) 0 8 (nI f)) := f4
    refine Or.inr ⟨f, sI (sI v 0 7 (nI i)) 0 8 (nI f), ?_, ?_, mF.mk8 f1 f2, (Fr.sI ⟨rfl, Or.inl rfl⟩).trans (Fr.sI ⟨rfl, Or.inr rfl⟩)⟩
    · simp only [if_neg e, i10, i00, decide_true, decide_false, cnd_t, cnd_f, gd_nil, gd_t, b1_0, b1_1, sw_nil, sw_cons, obs, f3']
    · simp only [if_neg e, i10, i00, decide_true, decide_false, cnd_t, cnd_f, gd_nil, gd_t, b1_0, b1_1, sw_nil, sw_cons, obs, h.at, show nI i + 0 = nI i from Int32.add_zero _, f4']
theorem mF_takeWord {f : Nat} (h : mF f v) (k : Int32) : ∃ v', fX10_takeWord k v = some ((), v') ∧ mF f v' ∧ Fr dSv v v' := by
  have hx : mF f (sI v 0 7 (v.1 0 7 + 0)) := by
    unfold mF
    simp only [sI_at, sI_l, sJ_at, sJ_i, sJ_m, sM_at, sM_i, sM_l, Nat.reduceEqDiff, false_and, and_false, true_and, and_true, and_self, if_false, if_true, ite_false, ite_true]
    exact h
  refine ⟨sI v 0 7 (v.1 0 7 + 0), ?_, hx, Fr.sI ⟨rfl, Or.inl rfl⟩⟩
  unfold fX10_takeWord fX10_hasWord
  rw [mF_isWord h]
  simp only [i10, i00, decide_true, decide_false, cnd_t, cnd_f, gd_nil, gd_t, b1_0, b1_1, sw_nil, sw_cons, obs]
  rw [mF_wrong hx]
  simp only [i10, i00, decide_true, decide_false, cnd_t, cnd_f, gd_nil, gd_t, b1_0, b1_1, sw_nil, sw_cons, obs]
theorem mF_takeAfter {f : Nat} (h : mF f v) (k a b : Int32) : ∃ v', fX10_takeAfter k a b v = some (0, v') ∧ mF f v' ∧ Fr dSv v v' := by
  obtain ⟨v', q1, q2, q3⟩ := mF_takeWord h k
  refine ⟨v', ?_, q2, q3⟩
  unfold fX10_takeAfter
  rw [q1]
  simp only [obs]
  rw [mF_takeNumber q2]
  simp only [obs]
theorem mF_takeOne {f : Nat} (h : mF f v) (a b : Int32) : ∃ v', fX10_takeOne a b v = some (0, v') ∧ mF f v' ∧ Fr dSv v v' := by
  obtain ⟨h1, h2⟩ := h.nz
  refine ⟨sI v 0 7 (v.1 0 7 + 0), ?_, ?_, Fr.sI ⟨rfl, Or.inl rfl⟩⟩
  · unfold fX10_takeOne fX10_takeOne_17 fX10_takeOne_34 fX10_takeOne_51
    simp only [sI_at, sI_l, sJ_at, sJ_i, sJ_m, sM_at, sM_i, sM_l, Nat.reduceEqDiff, false_and, and_false, true_and, and_true, and_self, if_false, if_true, ite_false, ite_true, h1, h2, i10, i00, decide_true, decide_false, cnd_t, cnd_f, gd_nil, gd_t, b1_0, b1_1, sw_nil, sw_cons, obs]
  · unfold mF
    simp only [sI_at, sI_l, sJ_at, sJ_i, sJ_m, sM_at, sM_i, sM_l, Nat.reduceEqDiff, false_and, and_false, true_and, and_true, and_self, if_false, if_true, ite_false, ite_true]
    exact h
-- a kind
theorem c_kindAt (u : ab_S) : (∃ d, d < 4 ∧ isW (12 + d) u ∧ fX2_kindAt u = some (nI d, u)) ∨ ((∀ d, d < 4 → ¬ isW (12 + d) u) ∧ fX2_kindAt u = some (-1, u)) := by
  unfold fX2_kindAt
  by_cases e0 : isW 12 u
  · refine Or.inl ⟨0, by decide, e0, ?_⟩
    rw [c_isWord, if_pos e0]
    simp only [i10, i00, decide_true, decide_false, cnd_t, cnd_f, gd_nil, gd_t, b1_0, b1_1, sw_nil, sw_cons, obs]
    rfl
  by_cases e1 : isW 13 u
  · refine Or.inl ⟨1, by decide, e1, ?_⟩
    rw [c_isWord, if_neg e0]
    simp only [i10, i00, decide_true, decide_false, cnd_t, cnd_f, gd_nil, gd_t, b1_0, b1_1, sw_nil, sw_cons, obs]
    rw [c_isWord, if_pos e1]
    simp only [i10, i00, decide_true, decide_false, cnd_t, cnd_f, gd_nil, gd_t, b1_0, b1_1, sw_nil, sw_cons, obs]
    rfl
  by_cases e2 : isW 14 u
  · refine Or.inl ⟨2, by decide, e2, ?_⟩
    rw [c_isWord, if_neg e0]
    simp only [i10, i00, decide_true, decide_false, cnd_t, cnd_f, gd_nil, gd_t, b1_0, b1_1, sw_nil, sw_cons, obs]
    rw [c_isWord, if_neg e1]
    simp only [i10, i00, decide_true, decide_false, cnd_t, cnd_f, gd_nil, gd_t, b1_0, b1_1, sw_nil, sw_cons, obs]
    rw [c_isWord, if_pos e2]
    simp only [i10, i00, decide_true, decide_false, cnd_t, cnd_f, gd_nil, gd_t, b1_0, b1_1, sw_nil, sw_cons, obs]
    rfl
  by_cases e3 : isW 15 u
  · refine Or.inl ⟨3, by decide, e3, ?_⟩
    rw [c_isWord, if_neg e0]
    simp only [i10, i00, decide_true, decide_false, cnd_t, cnd_f, gd_nil, gd_t, b1_0, b1_1, sw_nil, sw_cons, obs]
    rw [c_isWord, if_neg e1]
    simp only [i10, i00, decide_true, decide_false, cnd_t, cnd_f, gd_nil, gd_t, b1_0, b1_1, sw_nil, sw_cons, obs]
    rw [c_isWord, if_neg e2]
    simp only [i10, i00, decide_true, decide_false, cnd_t, cnd_f, gd_nil, gd_t, b1_0, b1_1, sw_nil, sw_cons, obs]
    rw [c_isWord, if_pos e3]
    simp only [i10, i00, decide_true, decide_false, cnd_t, cnd_f, gd_nil, gd_t, b1_0, b1_1, sw_nil, sw_cons, obs]
    rfl
  · refine Or.inr ⟨fun d hd => ?_, ?_⟩
    · obtain h | h | h | h : d = 0 ∨ d = 1 ∨ d = 2 ∨ d = 3 := by omega
      · subst h; exact e0
      · subst h; exact e1
      · subst h; exact e2
      · subst h; exact e3
    · rw [c_isWord, if_neg e0]
      simp only [i10, i00, decide_true, decide_false, cnd_t, cnd_f, gd_nil, gd_t, b1_0, b1_1, sw_nil, sw_cons, obs]
      rw [c_isWord, if_neg e1]
      simp only [i10, i00, decide_true, decide_false, cnd_t, cnd_f, gd_nil, gd_t, b1_0, b1_1, sw_nil, sw_cons, obs]
      rw [c_isWord, if_neg e2]
      simp only [i10, i00, decide_true, decide_false, cnd_t, cnd_f, gd_nil, gd_t, b1_0, b1_1, sw_nil, sw_cons, obs]
      rw [c_isWord, if_neg e3]
      simp only [i10, i00, decide_true, decide_false, cnd_t, cnd_f, gd_nil, gd_t, b1_0, b1_1, sw_nil, sw_cons, obs]
theorem p_kind (h : pR n T i u v) : (∃ d, d < 4 ∧ fX2_kindAt u = some (nI d, u) ∧ u.1 1 7 ≠ 0 ∧ fX10_takeOne 12 4 v = some (nI d, sI v 0 7 (nI (i + 1)))) ∨ (∃ f v', fX2_kindAt u = some (-1, u) ∧ fX6_fail 1 u = some (0, sI u 1 10 (nI f)) ∧ fX10_takeOne 12 4 v = some (0, v') ∧ mF f v' ∧ Fr dSv v v') := by
  have h7 := h.at
  have h8 := h.ok
  have le0 : ((0 : Int32) ≤ 0) = True := eq_true (by decide +kernel)
  obtain ⟨r, r1, r2, r3⟩ := m_wordHere h 12 4 (by decide)
  have r1' : fX10_wordHere 12 4 v = some (r, v) := r1
  obtain ⟨d, d1, d2, d3⟩ | ⟨d1, d2⟩ := c_kindAt u
  · have er := r2 d d1 d2
    subst er
    refine Or.inl ⟨d, d1, d3, by rw [d2.1]; decide +kernel, ?_⟩
    unfold fX10_takeOne fX10_takeOne_17 fX10_takeOne_34 fX10_takeOne_51
    rw [r1']
    simp (disch := first | omega | decide) only [sI_at, sI_l, sJ_at, sJ_i, sJ_m, sM_at, sM_i, sM_l, Nat.reduceEqDiff, false_and, and_false, true_and, and_true, and_self, if_false, if_true, ite_false, ite_true, h7, h8, le0, nI_lt0, i10, i00, decide_true, decide_false, cnd_t, cnd_f, gd_nil, gd_t, b1_0, b1_1, sw_nil, sw_cons, obs, show nI i + 1 = nI (i + 1) from nI_1 i]
  · have er := r3 d1
    subst er
    obtain ⟨f, f1, f2, f3, f4⟩ := p_fail h 1 (by decide) (by decide)
    have f4' : fX10_wrong 1 v = some ((), sI v 0 8 (nI f)) := f4
    have hx := mF.mk8 (v := v) f1 f2
    have hz := hx.nz
    refine Or.inr ⟨f, sI (sI v 0 8 (nI f)) 0 7 (nI i + 0), d2, f3, ?_, ?_, (Fr.sI ⟨rfl, Or.inr rfl⟩).trans (Fr.sI ⟨rfl, Or.inl rfl⟩)⟩
    · have nf : (nI f ≤ 0) = False := eq_false fun z => hz.2 (by simp only [sI_at, sI_l, sJ_at, sJ_i, sJ_m, sM_at, sM_i, sM_l, Nat.reduceEqDiff, false_and, and_false, true_and, and_true, and_self, if_false, if_true, ite_false, ite_true]; exact z)
      unfold fX10_takeOne fX10_takeOne_17 fX10_takeOne_34 fX10_takeOne_51
      rw [r1']
      simp only [sI_at, sI_l, sJ_at, sJ_i, sJ_m, sM_at, sM_i, sM_l, Nat.reduceEqDiff, false_and, and_false, true_and, and_true, and_self, if_false, if_true, ite_false, ite_true, h7, h8, le0, show ((-1 : Int32) < 0) = True from eq_true (by decide +kernel), i10, i00, decide_true, decide_false, cnd_t, cnd_f, gd_nil, gd_t, b1_0, b1_1, sw_nil, sw_cons, obs, f4', nf]
    · unfold mF
      simp only [sI_at, sI_l, sJ_at, sJ_i, sJ_m, sM_at, sM_i, sM_l, Nat.reduceEqDiff, false_and, and_false, true_and, and_true, and_self, if_false, if_true, ite_false, ite_true]
      exact ⟨f1, f2⟩
end PU
