/-! a good's line -/
section PU
variable {u v u' v' : ab_S} {n T i o : Nat}
theorem p_toldQ {np : Nat} (hp6 : np ≤ 6) (h : pR n T i u v) (hd : ∀ p q, p < np → q < np → u.2.1 (o + 1) p = u.2.1 (o + 1) q → p = q) (hl : u.1 1 7 = 2 → ∃ r, fX10_nameAt 1 v = some (r, v) ∧ ((∃ p, p < np ∧ u.2.1 (o + 1) p = u.2.1 1 9 ∧ r = nI p) ∨ ((∀ p, p < np → u.2.1 (o + 1) p ≠ u.2.1 1 9) ∧ fX10_within (r - 0) 0 7 v = some (0, v)))) : (∃ p u', p < np ∧ fX6_takeToldName 6 (o + 1) (nI np) u = some (nI p, u') ∧ fX10_takeTold 1 0 0 v = some (nI p, sI v 0 7 (nI (i + 1))) ∧ pR n T (i + 1) u' (sI v 0 7 (nI (i + 1))) ∧ Fr dSu u u') ∨ (∃ f v', fX6_takeToldName 6 (o + 1) (nI np) u = some (-1, sI u 1 10 (nI f)) ∧ fX10_takeTold 1 0 0 v = some (0, v') ∧ mF f v' ∧ Fr dSv v v') := by
  have hi := h.i1000
  have h8 := h.ok
  have le0 : ((0 : Int32) ≤ 0) = True := eq_true (by decide +kernel)
  obtain ⟨b, b1, b2, b3⟩ := p_isName h
  unfold fX6_takeToldName fX10_takeTold
  rw [b1, b2]
  cases b
  · obtain ⟨f, f1, f2, f3, f4⟩ := p_fail h 1 (by decide) (by decide)
    have f3' : fX6_fail 1 u = some (0, sI u 1 10 (nI f)) := f3
    have f4' : fX10_wrong 1 v = some ((), sI v 0 8 (nI f)) := f4
    obtain ⟨v', q1, q2, q3⟩ := mF19 (v := sI v 0 8 (nI f)) (mF.mk8 f1 f2) 1 0 0
    refine Or.inr ⟨f, v', ?_, ?_, q2, (Fr.sI ⟨rfl, Or.inr rfl⟩).trans q3⟩
    · simp only [b01, Bool.false_eq_true, if_false, i10, i00, decide_true, decide_false, cnd_t, cnd_f, gd_nil, gd_t, b1_0, b1_1, sw_nil, sw_cons, obs, f3']
    · simp only [b01, Bool.false_eq_true, if_false, i10, i00, decide_true, decide_false, cnd_t, cnd_f, gd_nil, gd_t, b1_0, b1_1, sw_nil, sw_cons, obs, h8, f4']
      exact q1
  · have hk := b3 rfl
    have hk0 : u.1 1 7 ≠ 0 := by rw [hk]; decide +kernel
    obtain ⟨rc, c1, c2⟩ := c_index (u := u) (o0 := o + 1) (n0 := 6) hp6 (by decide) (u.2.1 1 9)
    obtain ⟨r, r1, hl⟩ := hl hk
    obtain ⟨f, f1, f2, f3, f4⟩ := p_fail h 2 (by decide) (by decide)
    have f3' : fX6_fail 2 u = some (0, sI u 1 10 (nI f)) := f3
    have f4' : fX10_wrong 2 v = some ((), sI v 0 8 (nI f)) := f4
    obtain ⟨p, p1, p2, p3⟩ | ⟨e2, hin⟩ := hl
    · obtain ⟨j, j1, j2, j3⟩ | ⟨j1, j2⟩ := c2
      · have ej := hd j p j1 p1 (j2.trans p2.symm)
        subst ej
        obtain ⟨u', s1, s2, s3⟩ := p_step h hk0
        have n1 : (nI j = -1) ↔ False := nI_nm1 (by omega)
        have ok := told_ok h (k := j) (by omega) (mask0 j (by omega))
        have e0 : nI j - 0 = nI j := Int32.sub_zero (nI j)
        refine Or.inl ⟨j, u', j1, ?_, ?_, s2, s3⟩
        · simp only [b01, if_true, i10, i00, decide_true, decide_false, cnd_t, cnd_f, gd_nil, gd_t, b1_0, b1_1, sw_nil, sw_cons, obs, c1, n1, s1, j3]
        · unfold fX10_takeTold_19
          simp only [b01, if_true, i10, i00, decide_true, decide_false, cnd_t, cnd_f, gd_nil, gd_t, b1_0, b1_1, sw_nil, sw_cons, obs, h8, le0, r1, p3, e0]
          exact ok
      · exact absurd p2 (j2 p p1)
    · have er : rc = -1 := by
        obtain ⟨j, j1, j2, j3⟩ | ⟨j1, j2⟩ := c2
        · exact absurd j2 (e2 j j1)
        · exact j1
      subst er
      obtain ⟨v', q1, q2, q3⟩ := told_bad h 0 hin f4' f1 f2
      refine Or.inr ⟨f, v', ?_, ?_, q2, q3⟩
      · simp only [b01, if_true, i10, i00, decide_true, decide_false, cnd_t, cnd_f, gd_nil, gd_t, b1_0, b1_1, sw_nil, sw_cons, obs, c1, f3']
      · unfold fX10_takeTold_19
        simp only [b01, if_true, i10, i00, decide_true, decide_false, cnd_t, cnd_f, gd_nil, gd_t, b1_0, b1_1, sw_nil, sw_cons, obs, h8, le0, r1]
        exact q1
-- the reference's table already holds the good that the line tells
theorem p_toldZ {np ng : Nat} {x : Int64} (hp6 : np ≤ 6) (hg8 : ng + 1 ≤ 8) (h : pR n T i u v) (hN : nmR np (ng + 1) o 10 12 (sJ u (o + 2) ng x) v) (ho : 6 ≤ o) (hc : v.1 0 19 = nI (np + ng + 1)) : (∃ p u', p < np ∧ fX6_takeToldName 6 (o + 1) (nI np) u = some (nI p, u') ∧ fX10_takeTold 1 0 0 v = some (nI p, sI v 0 7 (nI (i + 1))) ∧ pR n T (i + 1) u' (sI v 0 7 (nI (i + 1))) ∧ Fr dSu u u') ∨ (∃ f v', fX6_takeToldName 6 (o + 1) (nI np) u = some (-1, sI u 1 10 (nI f)) ∧ fX10_takeTold 1 0 0 v = some (0, v') ∧ mF f v' ∧ Fr dSv v v') := by
  have en : ∀ p, (sJ u (o + 2) ng x).2.1 (o + 1) p = u.2.1 (o + 1) p := fun p => by rw [sJ_at, if_neg (by omega)]
  refine p_toldQ hp6 h (fun p q hp hq e => hN.2.2.2.1 p q hp hq ((en p).trans (e.trans (en q).symm))) fun hk => ?_
  have hw := h.word.2 hk
  have hc' : v.1 0 19 = nI (np + (ng + 1)) := hc
  obtain ⟨r, r1, r2⟩ := m_nameAt1 h.at h.i1000 hc' (by omega)
  refine ⟨r, r1, ?_⟩
  obtain ⟨p, p1, p2, p3⟩ | ⟨k, k1, k2, k3⟩ | ⟨e1, e2, e3⟩ := nm_look hp6 hg8 hN hw r2
  · exact Or.inl ⟨p, p1, (en p).symm.trans p2, p3⟩
  · refine Or.inr ⟨fun p hp e => hN.2.2.2.2.2 p k hp k1 (((en p).trans e).trans k2.symm), ?_⟩
    rw [k3, show nI (20 + k) - 0 = nI (20 + k) from Int32.sub_zero _]
    exact wi_out (by omega) (by omega) v
  · refine Or.inr ⟨fun p hp e => e2 p hp ((en p).trans e), ?_⟩
    rw [e1]
    exact wi_neg (by decide +kernel) v
theorem addGood_eq {ng : Nat} (h : u.1 o 1 = nI ng) (hn : ng < 8) (x : Int64) (a b : Int32) : fX2_addGood o x a b u = some ((), sI (sI (sI (sJ u (o + 2) ng x) (o + 5) ng a) (o + 6) ng b) o 1 (nI (ng + 1))) := by
  have e1 : (sJ u (o + 2) ng x).1 o 1 = nI ng := h
  have e2 : (sI (sJ u (o + 2) ng x) (o + 5) ng a).1 o 1 = nI ng := by rw [sI_at, if_neg (by omega)]; exact h
  have e3 : (sI (sI (sJ u (o + 2) ng x) (o + 5) ng a) (o + 6) ng b).1 o 1 = nI ng := by rw [sI_at, if_neg (by omega)]; exact e2
  unfold fX2_addGood
  rw [h]
  simp (disch := first | omega | decide) only [i10, i00, decide_true, decide_false, cnd_t, cnd_f, gd_nil, gd_t, b1_0, b1_1, sw_nil, sw_cons, obs, Nat.not_lt_zero, nI_addo, nI_oadd, nI_add, nI_mulo, nI_omul, nI_mul, nI_lto, nI_leo, nI_olt, nI_ole, nI_eqo, nI_oeq, nI_lt2, nI_le2, nI_eq2, nI_nm1, nI_m1n, nI_lt0, nI_lem1, nc_nI, nc_o, ix_nI, ix_o, hn, e1, e2, e3, put_eq (n0 := 8) hn (show 8 ≤ 1000 by decide)]
end PU
