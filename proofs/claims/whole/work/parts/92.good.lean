/-! a good's line -/
section PU
variable {u v u' v' : ab_S} {n T i o : Nat}
theorem p_toldQ {np : Nat} (hp6 : np ≤ 6) (h : pR n T i u v) (hd : ∀ p q, p < np → q < np → u.2.1 (o + 1) p = u.2.1 (o + 1) q → p = q) (hl : u.1 1 7 = 2 → ∃ r, fX10_nameAt 1 v = some (r, v) ∧ ((∃ p, p < np ∧ u.2.1 (o + 1) p = u.2.1 1 9 ∧ r = nI p) ∨ ((∀ p, p < np → u.2.1 (o + 1) p ≠ u.2.1 1 9) ∧ fX10_within (r - 0) 0 7 v = some (0, v)))) : (∃ p u', p < np ∧ fX6_takeToldName 6 (o + 1) (nI np) u = some (nI p, u') ∧ fX10_takeTold 1 0 0 v = some (nI p, sI v 0 7 (nI (i + 1))) ∧ pR n T (i + 1) u' (sI v 0 7 (nI (i + 1))) ∧ Fr dSu u u') ∨ (∃ f v', fX6_takeToldName 6 (o + 1) (nI np) u = some (-1, sI u 1 10 (nI f)) ∧ fX10_takeTold 1 0 0 v = some (0, v') ∧ mF f v' ∧ Fr dSv v v') := by
  have hi := h.i1000
  have h8 := h.ok
  have le0 : ((0 : Int32) ≤ 0) = True := eq_true (by decide +kernel)
  obtain ⟨b, b1, b2, b3⟩ := p_isName h
  unfold fX6_takeToldName fX10_takeTold
  rw [b1, b2]
  cases b
  · obtain ⟨f, f1, f2, f3, f4⟩ := p_fail h 1 (by decide) (by decide)
    have f3' : fX6_fail 1 u = some (0, sI u 1 10 (nI f)) := f3
    have f4' : fX10_wrong 1 v = some ((), sI v 0 8 (nI f)) := f4
    obtain ⟨v', q1, q2, q3⟩ := mF19 (v := sI v 0 8 (nI f)) (mF.mk8 f1 f2) 1 0 0
    refine Or.inr ⟨f, v', ?_, ?_, q2, (Fr.sI ⟨rfl, Or.inr rfl⟩).trans q3⟩
    · simp only [b01, Bool.false_eq_true, if_false, i10, i00, decide_true, decide_false, cnd_t, cnd_f, gd_nil, gd_t, b1_0, b1_1, sw_nil, sw_cons, obs, f3']
    · simp only [b01, Bool.false_eq_true, if_false, i10, i00, decide_true, decide_false, cnd_t, cnd_f, gd_nil, gd_t, b1_0, b1_1, sw_nil, sw_cons, obs, h8, f4']
      exact q1
  · have hk := b3 rfl
    have hk0 : u.1 1 7 ≠ 0 := by rw [hk]; decide +kernel
    obtain ⟨rc, c1, c2⟩ := c_index (u := u) (o0 := o + 1) (n0 := 6) hp6 (by decide) (u.2.1 1 9)
    obtain ⟨r, r1, hl⟩ := hl hk
    obtain ⟨f, f1, f2, f3, f4⟩ := p_fail h 2 (by decide) (by decide)
    have f3' : fX6_fail 2 u = some (0, sI u 1 10 (nI f)) := f3
    have f4' : fX10_wrong 2 v = some ((), sI v 0 8 (nI f)) := f4
    obtain ⟨p, p1, p2, p3⟩ | ⟨e2, hin⟩ := hl
    · obtain ⟨j, j1, j2, j3⟩ | ⟨j1, j2⟩ := c2
      · have ej := hd j p j1 p1 (j2.trans p2.symm)
        subst ej
        obtain ⟨u', s1, s2, s3⟩ := p_step h hk0
        have n1 : (nI j = -1) ↔ False := nI_nm1 (by omega)
        have ok := told_ok h (k := j) (by omega) (mask0 j (by omega))
        have e0 : nI j - 0 = nI j := Int32.sub_zero (nI j)
        refine Or.inl ⟨j, u', j1, ?_, ?_, s2, s3⟩
        · simp only [b01, if_true, i10, i00, decide_true, decide_false, cnd_t, cnd_f, gd_nil, gd_t, b1_0, b1_1, sw_nil, sw_cons, obs, c1, n1, s1, j3]
        · unfold fX10_takeTold_19
          simp only [b01, if_true, i10, i00, decide_true, decide_false, cnd_t, cnd_f, gd_nil, gd_t, b1_0, b1_1, sw_nil, sw_cons, obs, h8, le0, r1, p3, e0]
          exact ok
      · exact absurd p2 (j2 p p1)
    · have er : rc = -1 := by
        obtain ⟨j, j1, j2, j3⟩ | ⟨j1, j2⟩ := c2
        · exact absurd j2 (e2 j j1)
        · exact j1
      subst er
      obtain ⟨v', q1, q2, q3⟩ := told_bad h 0 hin f4' f1 f2
      refine Or.inr ⟨f, v', ?_, ?_, q2, q3⟩
      · simp only [b01, if_true, i10, i00, decide_true, decide_false, cnd_t, cnd_f, gd_nil, gd_t, b1_0, b1_1, sw_nil, sw_cons, obs, c1, f3']
      · unfold fX10_takeTold_19
        simp only [b01, if_true, i10, i00, decide_true, decide_false, cnd_t, cnd_f, gd_nil, gd_t, b1_0, b1_1, sw_nil, sw_cons, obs, h8, le0, r1]
        exact q1
-- the reference's table already holds the good that the line tells
theorem p_toldZ {np ng : Nat} {x : Int64} (hp6 : np ≤ 6) (hg8 : ng + 1 ≤ 8) (h : pR n T i u v) (hN : nmR np (ng + 1) o 10 12 (sJ u (o + 2) ng x) v) (ho : 6 ≤ o) (hc : v.1 0 19 = nI (np + ng + 1)) : (∃ p u', p < np ∧ fX6_takeToldName 6 (o + 1) (nI np) u = some (nI p, u') ∧ fX10_takeTold 1 0 0 v = some (nI p, sI v 0 7 (nI (i + 1))) ∧ pR n T (i + 1) u' (sI v 0 7 (nI (i + 1))) ∧ Fr dSu u u') ∨ (∃ f v', fX6_takeToldName 6 (o + 1) (nI np) u = some (-1, sI u 1 10 (nI f)) ∧ fX10_takeTold 1 0 0 v = some (0, v') ∧ mF f v' ∧ Fr dSv v v') := by
  have en : ∀ p, (sJ u (o + 2) ng x).2.1 (o + 1) p = u.2.1 (o + 1) p := fun p => by rw [sJ_at, if_neg (by omega)]
  refine p_toldQ hp6 h (fun p q hp hq e => hN.2.2.2.1 p q hp hq ((en p).trans (e.trans (en q).symm))) fun hk => ?_
  have hw := h.word.2 hk
  have hc' : v.1 0 19 = nI (np + (ng + 1)) := hc
  obtain ⟨r, r1, r2⟩ := m_nameAt1 h.at h.i1000 hc' (by omega)
  refine ⟨r, r1, ?_⟩
  obtain ⟨p, p1, p2, p3⟩ | ⟨k, k1, k2, k3⟩ | ⟨e1, e2, e3⟩ := nm_look hp6 hg8 hN hw r2
  · exact Or.inl ⟨p, p1, (en p).symm.trans p2, p3⟩
  · refine Or.inr ⟨fun p hp e => hN.2.2.2.2.2 p k hp k1 (((en p).trans e).trans k2.symm), ?_⟩
    rw [k3, show nI (20 + k) - 0 = nI (20 + k) from Int32.sub_zero _]
    exact wi_out (by omega) (by omega) v
  · refine Or.inr ⟨fun p hp e => e2 p hp ((en p).trans e), ?_⟩
    rw [e1]
    exact wi_neg (by decide +kernel) v
theorem addGood_eq {ng : Nat} (h : u.1 o 1 = nI ng) (hn : ng < 8) (x : Int64) (a b : Int32) : fX2_addGood o x a b u = some ((), sI (sI (sI (sJ u (o + 2) ng x) (o + 5) ng a) (o + 6) ng b) o 1 (nI (ng + 1))) := by
  have e1 : (sJ u (o + 2) ng x).1 o 1 = nI ng := h
  have e2 : (sI (sJ u (o + 2) ng x) (o + 5) ng a).1 o 1 = nI ng := by rw [sI_at, if_neg (by omega)]; exact h
  have e3 : (sI (sI (sJ u (o + 2) ng x) (o + 5) ng a) (o + 6) ng b).1 o 1 = nI ng := by rw [sI_at, if_neg (by omega)]; exact e2
  unfold fX2_addGood
  rw [h]
  simp (disch := first | omega | decide) only [i10, i00, decide_true, decide_false, cnd_t, cnd_f, gd_nil, gd_t, b1_0, b1_1, sw_nil, sw_cons, obs, Nat.not_lt_zero, nI_addo, nI_oadd, nI_add, nI_mulo, nI_omul, nI_mul, nI_lto, nI_leo, nI_olt, nI_ole, nI_eqo, nI_oeq, nI_lt2, nI_le2, nI_eq2, nI_nm1, nI_m1n, nI_lt0, nI_lem1, nc_nI, nc_o, ix_nI, ix_o, hn, e1, e2, e3, put_eq (n0 := 8) hn (show 8 ≤ 1000 by decide)]
theorem gF3 {f : Nat} (h : mF f v) (X : Int32 → ab_S → Option (Unit × ab_S)) : ∃ v', ((fX10_takeTold 1 0 0 v).bind fun q9 => bif decide ((q9.2.1 0 8) = 0) then (X q9.1 q9.2) else (some ((), q9.2))) = some ((), v') ∧ mF f v' ∧ Fr dSv v v' := by
  obtain ⟨v2, b1, b2, b3⟩ := mF_takeTold h 1 0 0
  refine ⟨v2, ?_, b2, b3⟩
  simp only [obs, b1, b2.nz.1, i10, i00, decide_true, decide_false, cnd_t, cnd_f, gd_nil, gd_t, b1_0, b1_1, sw_nil, sw_cons, obs]
theorem gF2 {f : Nat} (h : mF f v) (X : Int32 → ab_S → Option (Unit × ab_S)) : ∃ v', ((fX10_takeWord 4 v).bind fun q8 => (fX10_takeTold 1 0 0 q8.2).bind fun q9 => bif decide ((q9.2.1 0 8) = 0) then (X q9.1 q9.2) else (some ((), q9.2))) = some ((), v') ∧ mF f v' ∧ Fr dSv v v' := by
  obtain ⟨v1, a1, a2, a3⟩ := mF_takeWord h 4
  obtain ⟨v2, b1, b2, b3⟩ := gF3 a2 X
  refine ⟨v2, ?_, b2, a3.trans b3⟩
  rw [a1]
  simp only [obs]
  exact b1
theorem gF1 {f : Nat} (h : mF f v) (X : Int32 → Int32 → ab_S → Option (Unit × ab_S)) : ∃ v', ((fX10_takeAfter 3 0 30 v).bind fun q7 => (fX10_takeWord 4 q7.2).bind fun q8 => (fX10_takeTold 1 0 0 q8.2).bind fun q9 => bif decide ((q9.2.1 0 8) = 0) then (X q7.1 q9.1 q9.2) else (some ((), q9.2))) = some ((), v') ∧ mF f v' ∧ Fr dSv v v' := by
  obtain ⟨v1, a1, a2, a3⟩ := mF_takeAfter h 3 0 30
  obtain ⟨v2, b1, b2, b3⟩ := gF2 a2 (X 0)
  refine ⟨v2, ?_, b2, a3.trans b3⟩
  rw [a1]
  simp only [obs]
  exact b1
theorem l_good {np ng : Nat} (h : pR n T i u v) (ho : o = 6 ∨ o = 18) (hR : ofR np ng o u v) (hw : isW 2 u) : lnO n T i o (fX2_readGood o u) ((fX10_readLine v).bind fun q2 => fX10_takeSign 59 q2.2) u v := by
  obtain ⟨hp6, hg8, o1, o2, w90, w91, hc, hN, r1, r2, r3, r4, r5, r6, r7⟩ := hR
  have hk : u.1 1 7 ≠ 0 := by rw [hw.1]; decide +kernel
  have hi := h.i1000
  have hW0 : fX10_isWord 0 v = some (0, v) := by
    have := m_isWord h (k := 0) (by decide)
    rw [if_neg fun z => absurd (isW.uniq (by decide) (by decide) z hw) (by decide)] at this
    exact this
  have hW2 : fX10_isWord 2 v = some (1, v) := by
    have := m_isWord h (k := 2) (by decide)
    rw [if_pos hw] at this
    exact this
  have emo : fX10_readLine v = (fX10_readName 1 8 20 v).bind fun q6 => (fX10_takeAfter 3 0 30 q6.2).bind fun q7 => (fX10_takeWord 4 q7.2).bind fun q8 => (fX10_takeTold 1 0 0 q8.2).bind fun q9 => bif decide ((q9.2.1 0 8) = 0) then (some ((), (sI (sI q9.2 6 (106 + 2 * ng) q7.1) 6 (107 + 2 * ng) q9.1))) else (some ((), q9.2)) := by
    unfold fX10_readLine
    rw [hW0]
    simp (disch := first | omega | decide) only [i10, i00, decide_true, decide_false, cnd_t, cnd_f, gd_nil, gd_t, b1_0, b1_1, sw_nil, sw_cons, obs, hW2, nc_o, ix_o, w91, nI_mulo, nI_omul, nI_addo, nI_oadd, nc_nI, ix_nI, show 106 + 2 * ng + 1 = 107 + 2 * ng by omega]
  rw [emo]
  unfold fX2_readGood
  rw [o2]
  have dq : ∀ a k, dSu a k → dQu o a k := fun a k z => Or.inl z
  have dn : ∀ a k, dNv a k → dQv a k := fun a k z => by unfold dNv dSv at z; unfold dQv dSv; omega
  have ds : ∀ a k, dSv a k → dQv a k := fun a k z => Or.inl z
  by_cases e8 : ng = 8
  · subst e8
    obtain ⟨f, f1, f2, f3, f4⟩ := p_fail h 5 (by decide) (by decide)
    have f3' : fX6_fail 5 u = some (0, sI u 1 10 (nI f)) := f3
    have f4' : fX10_wrong 5 v = some ((), sI v 0 8 (nI f)) := f4
    have em : fX10_readName 1 8 20 v = some ((), sI v 0 8 (nI f)) := by
      unfold fX10_readName
      simp (disch := first | omega | decide) only [i10, i00, decide_true, decide_false, cnd_t, cnd_f, gd_nil, gd_t, b1_0, b1_1, sw_nil, sw_cons, obs, nc_o, ix_o, show (90 : Int32) + 1 = 91 from by decide +kernel, w91, show (nI 8 = 8) = True from eq_true rfl, f4']
    obtain ⟨v2, b1, b2, b3⟩ := gF1 (mF.mk8 (v := v) f1 f2) (fun a b w => some ((), (sI (sI w 6 (106 + 2 * 8) a) 6 (107 + 2 * 8) b)))
    refine Or.inr ⟨f, sI u 1 10 (nI f), v2, ?_, ?_, by rw [sI_at, if_pos ⟨rfl, rfl⟩], b2, Fr.sI (Or.inl ⟨rfl, by decide, by decide⟩), (Fr.sI (Or.inl ⟨rfl, Or.inr rfl⟩)).trans (b3.mono ds)⟩
    · simp only [show (nI 8 < 8) = False from eq_false (by decide +kernel), i10, i00, decide_true, decide_false, cnd_t, cnd_f, gd_nil, gd_t, b1_0, b1_1, sw_nil, sw_cons, obs, f3']
    · rw [em]
      simp only [obs]
      rw [b1]
      simp only [obs]
      exact mF_takeSign b2 59
  have hn8 : ng < 8 := by omega
  have c8 : (nI ng < 8) = True := eq_true ((nI_lto (a := 8) (by omega) (by decide)).mpr hn8)
  simp only [c8, i10, i00, decide_true, decide_false, cnd_t, cnd_f, gd_nil, gd_t, b1_0, b1_1, sw_nil, sw_cons, obs]
  obtain ⟨u1, s1, s2, s3⟩ := p_readName (w := 1) (lim := 8) (off := 20) hp6 hg8 (Or.inr ⟨rfl, rfl, rfl, rfl⟩) h hk hN hc o1 o2 ho w91 hn8
  obtain ⟨u2, v1, n1, n2, n3, n4, n5, n6, n7, n8, n9, n10, n11, n12, n13, n14⟩ | ⟨f, v1, n1, n3, n4, n5⟩ := s3
  · have n3' : fX10_readName 1 8 20 v = some ((), v1) := n3
    rw [n3']
    simp only [obs, s1, n1, i10, i00, decide_true, decide_false, cnd_t, cnd_f, gd_nil, gd_t, b1_0, b1_1, sw_nil, sw_cons, obs, n2]
    have fK : Fr dSu u u2 := s2.trans n13
    have gK : Fr dQv v v1 := n14.mono dn
    obtain ⟨u3, c, u4, v2, b1, b2, b3, b4, b5, b6, b7, b8⟩ | ⟨f, u4, v2, b1, b2, b5, b6, b7, b8⟩ := p_after n4 (k := 3) (by decide) 0 30 (by decide) (by decide)
    · have b2' : fX6_takeNumber 0 30 u3 = some (nI c, u4) := b2
      have b5' : fX10_takeAfter 3 0 30 v1 = some (nI c, v2) := b5
      have nc1 : (nI c = -1) ↔ False := nI_nm1 (by omega)
      rw [b5']
      simp only [obs, b1, b2', nc1, i10, i00, decide_true, decide_false, cnd_t, cnd_f, gd_nil, gd_t, b1_0, b1_1, sw_nil, sw_cons, obs]
      obtain ⟨u5, d1, d2, d3, d4⟩ | ⟨f, v3, d1, d2, d3, d4⟩ := p_word b6 (k := 4) (by decide)
      · have d2' : fX10_takeWord 4 v2 = some ((), sI v2 0 7 (nI (i + 2 + 2 + 1))) := d2
        rw [d2']
        simp only [obs, d1, i10, i00, decide_true, decide_false, cnd_t, cnd_f, gd_nil, gd_t, b1_0, b1_1, sw_nil, sw_cons, obs]
        have F5 : Fr dSu u u5 := fK.trans (b7.trans d4)
        have G3 : Fr dSv v1 (sI v2 0 7 (nI (i + 2 + 2 + 1))) := b8.trans (Fr.sI ⟨rfl, Or.inl rfl⟩)
        have hu5L : ∀ a k, 6 ≤ a → u5.2.1 a k = u.2.1 a k := fun a k z => F5.2.1 a k (fun q => by unfold dSu at q; omega)
        have hu5 : ∀ a k, 6 ≤ a → u5.1 a k = u.1 a k := fun a k z => F5.1 a k (fun q => by unfold dSu at q; omega)
        have hu1 : ∀ a k, 6 ≤ a → u1.2.1 a k = u.2.1 a k := fun a k z => s2.2.1 a k (fun q => by unfold dSu at q; omega)
        have v3k : ∀ a k, 6 ≤ a → (sI v2 0 7 (nI (i + 2 + 2 + 1))).1 a k = v1.1 a k := fun a k z => G3.1 a k (fun q => by unfold dSv at q; omega)
        have v3L : ∀ a k, 6 ≤ a → (sI v2 0 7 (nI (i + 2 + 2 + 1))).2.1 a k = v1.2.1 a k := fun a k z => G3.2.1 a k (fun q => by unfold dSv at q; omega)
        have hZ : nmR np (ng + 1) o 10 12 (sJ u5 (o + 2) ng (u1.2.1 1 9)) (sI v2 0 7 (nI (i + 2 + 2 + 1))) := by
          refine nmR.addG hN n5 (fun p hp => ?_) ?_ (fun k hk => ?_) (fun j hj => ?_) ?_ ?_ (fun p hp e => n11 p hp ((hu1 _ _ (by omega)).trans e)) (fun k hk e => n12 k hk ((hu1 _ _ (by omega)).trans e))
          · rw [sJ_at, if_neg (by omega)]
            exact hu5L _ _ (by omega)
          · rw [sJ_at, if_pos ⟨rfl, rfl⟩]
          · rw [sJ_at, if_neg (by omega)]
            exact hu5L _ _ (by omega)
          · exact ⟨(v3L 10 j (by decide)).trans (n9 j hj).1, (v3k 12 j (by decide)).trans (n9 j hj).2⟩
          · exact v3L 10 _ (by decide)
          · exact (v3k 12 _ (by decide)).trans n6
        have hc3 : (sI v2 0 7 (nI (i + 2 + 2 + 1))).1 0 19 = nI (np + ng + 1) := (G3.1 0 19 (fun q => by unfold dSv at q; omega)).trans n7
        have e50 : u5.1 o 0 = nI np := by rw [hu5 o 0 (by omega)]; exact o1
        rw [e50]
        obtain ⟨p, u6, z1, z2, z3, z4, z5⟩ | ⟨f, v4, z2, z3, z4, z5⟩ := p_toldZ hp6 (by omega) d3 hZ (by omega) hc3
        · have np1 : (nI p = -1) ↔ False := nI_nm1 (by omega)
          rw [z3]
          simp only [obs, z2, np1, i10, i00, decide_true, decide_false, cnd_t, cnd_f, gd_nil, gd_t, b1_0, b1_1, sw_nil, sw_cons, obs, z4.ok]
          have gz : Fr (fun a k => a = 6 ∧ (k = 106 + 2 * ng ∨ k = 107 + 2 * ng)) (sI (sI v2 0 7 (nI (i + 2 + 2 + 1))) 0 7 (nI (i + 2 + 2 + 1 + 1))) (sI (sI (sI (sI v2 0 7 (nI (i + 2 + 2 + 1))) 0 7 (nI (i + 2 + 2 + 1 + 1))) 6 (106 + 2 * ng) (nI c)) 6 (107 + 2 * ng) (nI p)) := (Fr.sI ⟨rfl, Or.inl rfl⟩).trans (Fr.sI ⟨rfl, Or.inr rfl⟩)
          have h5 := z4.fr (D := fun _ _ => False) Fr.rfl' gz (fun a k z q => q) (fun a k z q => by unfold oPv at z; omega)
          have G4 : Fr dSv v1 (sI (sI v2 0 7 (nI (i + 2 + 2 + 1))) 0 7 (nI (i + 2 + 2 + 1 + 1))) := G3.trans (Fr.sI ⟨rfl, Or.inl rfl⟩)
          have gQ : Fr dQv v (sI (sI (sI (sI v2 0 7 (nI (i + 2 + 2 + 1))) 0 7 (nI (i + 2 + 2 + 1 + 1))) 6 (106 + 2 * ng) (nI c)) 6 (107 + 2 * ng) (nI p)) := gK.trans ((G4.mono ds).trans (gz.mono fun a k z => by unfold dQv; omega))
          have F6 : Fr dSu u u6 := F5.trans z5
          obtain ⟨u7, e1, e2, e3, e4, e5⟩ | ⟨f, e1, e2, e3, e4⟩ := p_end h5
          · have F7 : Fr dSu u u7 := F6.trans e4
            have hu : ∀ a k, 6 ≤ a → u7.1 a k = u.1 a k := fun a k z => F7.1 a k (fun q => by unfold dSu at q; omega)
            have huL : ∀ a k, 6 ≤ a → u7.2.1 a k = u.2.1 a k := fun a k z => F7.2.1 a k (fun q => by unfold dSu at q; omega)
            have eA := addGood_eq (u := u7) (o := o) (by rw [hu o 1 (by omega)]; exact o2) hn8 (u1.2.1 1 9) (nI c) (nI p)
            have G6 : Fr (fun a k => dSv a k ∨ (a = 6 ∧ (k = 106 + 2 * ng ∨ k = 107 + 2 * ng))) v1 (sI (sI (sI (sI (sI v2 0 7 (nI (i + 2 + 2 + 1))) 0 7 (nI (i + 2 + 2 + 1 + 1))) 6 (106 + 2 * ng) (nI c)) 6 (107 + 2 * ng) (nI p)) 0 7 (nI (i + 2 + 2 + 1 + 1 + 1))) := (G4.mono fun a k z => Or.inl z).trans ((gz.mono fun a k z => Or.inr z).trans (Fr.sI (Or.inl ⟨rfl, Or.inl rfl⟩)))
            have v6w : ∀ a k, ¬ (a = 0 ∧ (k = 7 ∨ k = 8)) → ¬ (a = 6 ∧ (k = 106 + 2 * ng ∨ k = 107 + 2 * ng)) → (sI (sI (sI (sI (sI v2 0 7 (nI (i + 2 + 2 + 1))) 0 7 (nI (i + 2 + 2 + 1 + 1))) 6 (106 + 2 * ng) (nI c)) 6 (107 + 2 * ng) (nI p)) 0 7 (nI (i + 2 + 2 + 1 + 1 + 1))).1 a k = v1.1 a k := fun a k z1 z2 => G6.1 a k (fun q => by unfold dSv at q; omega)
            have v6v : ∀ k, 92 ≤ k → k ≠ 106 + 2 * ng → k ≠ 107 + 2 * ng → (sI (sI (sI (sI (sI v2 0 7 (nI (i + 2 + 2 + 1))) 0 7 (nI (i + 2 + 2 + 1 + 1))) 6 (106 + 2 * ng) (nI c)) 6 (107 + 2 * ng) (nI p)) 0 7 (nI (i + 2 + 2 + 1 + 1 + 1))).1 6 k = v.1 6 k := fun k z1 z2 z3 => by
              rw [v6w 6 k (by omega) (by omega), n14.1 6 k (fun q => by unfold dNv dSv at q; omega)]
            have fW : Fr (fun a k => a = o + 2 ∨ a = o + 5 ∨ a = o + 6 ∨ (a = o ∧ k = 1)) u7 (sI (sI (sI (sJ u7 (o + 2) ng (u1.2.1 1 9)) (o + 5) ng (nI c)) (o + 6) ng (nI p)) o 1 (nI (ng + 1))) := (Fr.sJ (Or.inl rfl)).trans ((Fr.sI (Or.inr (Or.inl rfl))).trans ((Fr.sI (Or.inr (Or.inr (Or.inl rfl)))).trans (Fr.sI (Or.inr (Or.inr (Or.inr ⟨rfl, rfl⟩))))))
            have u7k : ∀ a k, 6 ≤ a → ¬ (a = o + 2 ∨ a = o + 5 ∨ a = o + 6 ∨ (a = o ∧ k = 1)) → (sI (sI (sI (sJ u7 (o + 2) ng (u1.2.1 1 9)) (o + 5) ng (nI c)) (o + 6) ng (nI p)) o 1 (nI (ng + 1))).1 a k = u.1 a k := fun a k z1 z2 => (fW.1 a k z2).trans (hu a k z1)
            refine Or.inl ⟨_, _, i + 2 + 2 + 1 + 1 + 1, np, ng + 1, by omega, ?_, e2, e3.fr (E := fun _ _ => False) fW Fr.rfl' (fun a k z q => by unfold oPu at z; omega) (fun a k z q => q), ⟨hp6, by omega, ?_, ?_, ?_, ?_, ?_, ?_, fun p hp => ?_, fun p hp => ?_, fun k hk => ?_, fun k hk => ?_, fun p hp k hk => ?_, ?_, ?_⟩, (F7.mono dq).trans (fW.mono fun a k z => Or.inr (by omega)), gQ.trans (Fr.sI (Or.inl ⟨rfl, Or.inl rfl⟩))⟩
            · simp only [e1, i10, i00, decide_true, decide_false, cnd_t, cnd_f, gd_nil, gd_t, b1_0, b1_1, sw_nil, sw_cons, obs, eA]
            · rw [u7k o 0 (by omega) (by omega)]; exact o1
            · rw [sI_at, if_pos ⟨rfl, rfl⟩]
            · rw [v6w 6 90 (by omega) (by omega)]; exact n10.trans w90
            · rw [v6w 6 91 (by omega) (by omega)]; exact n8
            · rw [v6w 0 19 (by omega) (by omega)]; exact n7
            · refine nmR.addG hN n5 (fun p hp => ?_) ?_ (fun k hk => ?_) (fun j hj => ?_) ?_ ?_ (fun p hp e => n11 p hp ((hu1 _ _ (by omega)).trans e)) (fun k hk e => n12 k hk ((hu1 _ _ (by omega)).trans e))
              · show (sJ u7 (o + 2) ng (u1.2.1 1 9)).2.1 (o + 1) p = _
                rw [sJ_at, if_neg (by omega)]
                exact huL _ _ (by omega)
              · show (sJ u7 (o + 2) ng (u1.2.1 1 9)).2.1 (o + 2) ng = _
                rw [sJ_at, if_pos ⟨rfl, rfl⟩]
              · show (sJ u7 (o + 2) ng (u1.2.1 1 9)).2.1 (o + 2) k = _
                rw [sJ_at, if_neg (by omega)]
                exact huL _ _ (by omega)
              · exact ⟨(v3L 10 j (by decide)).trans (n9 j hj).1, (v6w 12 j (by omega) (by omega)).trans (n9 j hj).2⟩
              · exact v3L 10 _ (by decide)
              · exact (v6w 12 _ (by omega) (by omega)).trans n6
            · rw [u7k _ _ (by omega) (by omega), v6v _ (by omega) (by omega) (by omega)]
              exact r1 p hp
            · obtain ⟨c', c1, c2, c3⟩ := r2 p hp
              exact ⟨c', c1, by rw [u7k _ _ (by omega) (by omega)]; exact c2, by rw [v6v _ (by omega) (by omega) (by omega)]; exact c3⟩
            · by_cases ek : k = ng
              · subst ek
                refine ⟨c, b4, ?_, ?_⟩
                · rw [sI_at, if_neg (by omega), sI_at, if_neg (by omega), sI_at, if_pos ⟨rfl, rfl⟩]
                · rw [sI_at, if_neg (by omega), sI_at, if_neg (by omega), sI_at, if_pos ⟨rfl, rfl⟩]
              · obtain ⟨c', c1, c2, c3⟩ := r3 k (by omega)
                refine ⟨c', c1, ?_, by rw [v6v _ (by omega) (by omega) (by omega)]; exact c3⟩
                rw [sI_at, if_neg (by omega), sI_at, if_neg (by omega), sI_at, if_neg (by omega)]
                exact (hu _ _ (by omega)).trans c2
            · by_cases ek : k = ng
              · subst ek
                refine ⟨p, z1, ?_, ?_⟩
                · rw [sI_at, if_neg (by omega), sI_at, if_pos ⟨rfl, rfl⟩]
                · rw [sI_at, if_neg (by omega), sI_at, if_pos ⟨rfl, rfl⟩]
              · obtain ⟨c', c1, c2, c3⟩ := r4 k (by omega)
                refine ⟨c', c1, ?_, by rw [v6v _ (by omega) (by omega) (by omega)]; exact c3⟩
                rw [sI_at, if_neg (by omega), sI_at, if_neg (by omega), sI_at, if_neg (by omega)]
                exact (hu _ _ (by omega)).trans c2
            · obtain ⟨c', c1, c2, c3⟩ := r5 p hp k hk
              exact ⟨c', c1, by rw [u7k _ _ (by omega) (by omega)]; exact c2, by rw [v6v _ (by omega) (by omega) (by omega)]; exact c3⟩
            · obtain ⟨x, y, c1, c2, c3⟩ := r6
              refine ⟨x, y, by rw [u7k _ _ (by omega) (by omega)]; exact c1, by rw [u7k _ _ (by omega) (by omega)]; exact c2, ?_⟩
              rw [v6w 0 20 (by omega) (by omega), n14.1 0 20 (fun q => by unfold dNv dSv at q; omega)]
              exact c3
            · obtain ⟨g, c1, c2, c3⟩ := r7
              exact ⟨g, c1, by rw [u7k _ _ (by omega) (by omega)]; exact c2, by rw [v6v _ (by omega) (by omega) (by omega)]; exact c3⟩
          · refine Or.inr ⟨f, sI u6 1 10 (nI f), _, ?_, e2, by rw [sI_at, if_pos ⟨rfl, rfl⟩], mF.mk8 e3 e4, (F6.mono dq).trans (Fr.sI (Or.inl ⟨rfl, by decide, by decide⟩)), gQ.trans (Fr.sI (Or.inl ⟨rfl, Or.inr rfl⟩))⟩
            simp only [e1, i10, i00, decide_true, decide_false, cnd_t, cnd_f, gd_nil, gd_t, b1_0, b1_1, sw_nil, sw_cons, obs]
        · rw [z3]
          simp only [obs, z2, i10, i00, decide_true, decide_false, cnd_t, cnd_f, gd_nil, gd_t, b1_0, b1_1, sw_nil, sw_cons, obs, z4.nz.1]
          exact Or.inr ⟨f, _, v4, rfl, mF_takeSign z4 59, by rw [sI_at, if_pos ⟨rfl, rfl⟩], z4, (F5.mono dq).trans (Fr.sI (Or.inl ⟨rfl, by decide, by decide⟩)), gK.trans ((G3.mono ds).trans (z5.mono ds))⟩
      · have d2' : fX10_takeWord 4 v2 = some ((), v3) := d2
        rw [d2']
        obtain ⟨v4, k1, k2, k3⟩ := gF3 d3 (fun b w => some ((), (sI (sI w 6 (106 + 2 * ng) (nI c)) 6 (107 + 2 * ng) b)))
        refine Or.inr ⟨f, sI u4 1 10 (nI f), v4, ?_, ?_, by rw [sI_at, if_pos ⟨rfl, rfl⟩], k2, ((fK.trans b7).mono dq).trans (Fr.sI (Or.inl ⟨rfl, by decide, by decide⟩)), gK.trans ((b8.mono ds).trans ((d4.mono ds).trans (k3.mono ds)))⟩
        · simp only [d1, i10, i00, decide_true, decide_false, cnd_t, cnd_f, gd_nil, gd_t, b1_0, b1_1, sw_nil, sw_cons, obs]
        · simp only [obs]
          rw [k1]
          simp only [obs]
          exact mF_takeSign k2 59
    · have b5' : fX10_takeAfter 3 0 30 v1 = some (0, v2) := b5
      rw [b5']
      obtain ⟨v4, k1, k2, k3⟩ := gF2 b6 (fun b w => some ((), (sI (sI w 6 (106 + 2 * ng) 0) 6 (107 + 2 * ng) b)))
      refine Or.inr ⟨f, u4, v4, ?_, ?_, b2, k2, (fK.trans b7).mono dq, gK.trans ((b8.mono ds).trans (k3.mono ds))⟩
      · obtain b1 | ⟨u0, b0, b1⟩ := b1
        · simp only [b1, i10, i00, decide_true, decide_false, cnd_t, cnd_f, gd_nil, gd_t, b1_0, b1_1, sw_nil, sw_cons, obs]
        · have b1' : fX6_takeNumber 0 30 u0 = some (-1, u4) := b1
          simp only [b0, b1', i10, i00, decide_true, decide_false, cnd_t, cnd_f, gd_nil, gd_t, b1_0, b1_1, sw_nil, sw_cons, obs]
      · simp only [obs]
        rw [k1]
        simp only [obs]
        exact mF_takeSign k2 59
  · have n3' : fX10_readName 1 8 20 v = some ((), v1) := n3
    obtain ⟨v2, b1, b2, b3⟩ := gF1 n4 (fun a b w => some ((), (sI (sI w 6 (106 + 2 * ng) a) 6 (107 + 2 * ng) b)))
    refine Or.inr ⟨f, sI u1 1 10 (nI f), v2, ?_, ?_, by rw [sI_at, if_pos ⟨rfl, rfl⟩], b2, (s2.mono dq).trans (Fr.sI (Or.inl ⟨rfl, by decide, by decide⟩)), (n5.mono dn).trans (b3.mono ds)⟩
    · simp only [obs, s1, n1, i10, i00, decide_true, decide_false, cnd_t, cnd_f, gd_nil, gd_t, b1_0, b1_1, sw_nil, sw_cons, obs]
    · rw [n3']
      simp only [obs]
      rw [b1]
      simp only [obs]
      exact mF_takeSign b2 59
end PU
