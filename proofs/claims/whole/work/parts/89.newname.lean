/-! a new name on both sides -/
def dNv (a k : Nat) : Prop := dSv a k ∨ a = 10 ∨ a = 12 ∨ (a = 0 ∧ k = 19) ∨ (a = 6 ∧ (k = 90 ∨ k = 91))
section PU
variable {u v u' v' : ab_S} {n T i o : Nat}
theorem p_newC {np ng : Nat} (hp6 : np ≤ 6) (hg8 : ng ≤ 8) (h : pR n T i u v) (hN : nmR np ng o 10 12 u v) (hc : v.1 0 19 = nI (np + ng)) (o1 : u.1 o 0 = nI np) (o2 : u.1 o 1 = nI ng) : (fX2_isNewName o u = some (1, u) ∧ u.1 1 7 = 2 ∧ WR (u.2.1 1 9) (v.2.1 4 i) ∧ fX10_isName v = some (1, v) ∧ fX10_nameAt 1 v = some (-1, v) ∧ (∀ p, p < np → u.2.1 (o + 1) p ≠ u.2.1 1 9) ∧ (∀ k, k < ng → u.2.1 (o + 2) k ≠ u.2.1 1 9)) ∨ (∃ f, 1 ≤ f ∧ f < 20000 ∧ fX2_isNewName o u = some (0, sI u 1 10 (nI f)) ∧ ((fX10_isName v = some (0, v) ∧ fX10_wrong 1 v = some ((), sI v 0 8 (nI f))) ∨ (fX10_isName v = some (1, v) ∧ ∃ r, fX10_nameAt 1 v = some (r, v) ∧ ¬ r < 0 ∧ fX10_wrong 3 v = some ((), sI v 0 8 (nI f))))) := by
  have hi := h.i1000
  obtain ⟨b, b1, b2, b3⟩ := p_isName h
  unfold fX2_isNewName
  rw [b1]
  cases b
  · obtain ⟨f, f1, f2, f3, f4⟩ := p_fail h 1 (by decide) (by decide)
    have f3' : fX6_fail 1 u = some (0, sI u 1 10 (nI f)) := f3
    refine Or.inr ⟨f, f1, f2, ?_, Or.inl ⟨b2, f4⟩⟩
    simp only [b01, Bool.false_eq_true, if_false, i10, i00, decide_true, decide_false, cnd_t, cnd_f, gd_nil, gd_t, b1_0, b1_1, sw_nil, sw_cons, obs, f3']
  · have hk := b3 rfl
    have hw := h.word.2 hk
    obtain ⟨ra, a1, a2⟩ := c_index (u := u) (o0 := o + 1) (n0 := 6) hp6 (by decide) (u.2.1 1 9)
    obtain ⟨rb, c1, c2⟩ := c_index (u := u) (o0 := o + 2) (n0 := 8) hg8 (by decide) (u.2.1 1 9)
    obtain ⟨r, r1, r2⟩ := m_nameAt1 h.at hi hc (by omega)
    have hl := nm_look hp6 hg8 hN hw r2
    obtain ⟨f, f1, f2, f3, f4⟩ := p_fail h 3 (by decide) (by decide)
    have f3' : fX6_fail 3 u = some (0, sI u 1 10 (nI f)) := f3
    obtain ⟨p, p1, p2, p3⟩ | ⟨k, k1, k2, k3⟩ | ⟨e1, e2, e3⟩ := hl
    · refine Or.inr ⟨f, f1, f2, ?_, Or.inr ⟨b2, r, r1, by rw [p3, nI_lt0 (by omega)]; exact id, f4⟩⟩
      obtain ⟨j, j1, j2, j3⟩ | ⟨j1, j2⟩ := a2
      · have nj : (nI j = -1) ↔ False := nI_nm1 (by omega)
        unfold fX2_isNewName_50
        simp only [b01, if_true, i10, i00, decide_true, decide_false, cnd_t, cnd_f, gd_nil, gd_t, b1_0, b1_1, sw_nil, sw_cons, obs, o1, a1, j3, nj, f3']
      · exact absurd p2 (j2 p p1)
    · refine Or.inr ⟨f, f1, f2, ?_, Or.inr ⟨b2, r, r1, by rw [k3, nI_lt0 (by omega)]; exact id, f4⟩⟩
      have ea : ra = -1 := by
        obtain ⟨j, j1, j2, j3⟩ | ⟨j1, j2⟩ := a2
        · exact absurd (j2.trans k2.symm) (hN.2.2.2.2.2 j k j1 k1)
        · exact j1
      obtain ⟨j, j1, j2, j3⟩ | ⟨j1, j2⟩ := c2
      · have nj : (nI j = -1) ↔ False := nI_nm1 (by omega)
        unfold fX2_isNewName_50
        simp only [b01, if_true, i10, i00, decide_true, decide_false, cnd_t, cnd_f, gd_nil, gd_t, b1_0, b1_1, sw_nil, sw_cons, obs, o1, a1, ea, o2, c1, j3, nj, f3']
      · exact absurd k2 (j2 k k1)
    · have ea : ra = -1 := by
        obtain ⟨j, j1, j2, j3⟩ | ⟨j1, j2⟩ := a2
        · exact absurd j2 (e2 j j1)
        · exact j1
      have eb : rb = -1 := by
        obtain ⟨j, j1, j2, j3⟩ | ⟨j1, j2⟩ := c2
        · exact absurd j2 (e3 j j1)
        · exact j1
      refine Or.inl ⟨?_, hk, hw, b2, by rw [r1, e1], e2, e3⟩
      simp only [b01, if_true, i10, i00, decide_true, decide_false, cnd_t, cnd_f, gd_nil, gd_t, b1_0, b1_1, sw_nil, sw_cons, obs, o1, a1, ea, o2, c1, eb]
theorem mF61 {f : Nat} (h : mF f v) (a b c : Int32) : fX10_readName_61 a b c v = some ((), v) := by
  unfold fX10_readName_61
  simp only [h.nz.1, i10, i00, decide_true, decide_false, cnd_t, cnd_f, gd_nil, gd_t, b1_0, b1_1, sw_nil, sw_cons, obs]
-- the reference's name: w = 0 persons, w = 1 goods
theorem p_readName {np ng w lim off cnt : Nat} (hp6 : np ≤ 6) (hg8 : ng ≤ 8) (hw : (w = 0 ∧ lim = 6 ∧ off = 0 ∧ cnt = np) ∨ (w = 1 ∧ lim = 8 ∧ off = 20 ∧ cnt = ng)) (h : pR n T i u v) (hk : u.1 1 7 ≠ 0) (hN : nmR np ng o 10 12 u v) (hc : v.1 0 19 = nI (np + ng)) (o1 : u.1 o 0 = nI np) (o2 : u.1 o 1 = nI ng) (ho : o = 6 ∨ o = 18) (hW : v.1 6 (90 + w) = nI cnt) (hl : cnt < lim) : ∃ u1, fX6_step u = some ((), u1) ∧ Fr dSu u u1 ∧ ((∃ u2 v', fX2_isNewName o u1 = some (1, u1) ∧ fX6_step u1 = some ((), u2) ∧ fX10_readName (nI w) (nI lim) (nI off) v = some ((), v') ∧ pR n T (i + 2) u2 v' ∧ WR (u1.2.1 1 9) (v'.2.1 10 (np + ng)) ∧ v'.1 12 (np + ng) = nI (off + cnt) ∧ v'.1 0 19 = nI (np + ng + 1) ∧ v'.1 6 (90 + w) = nI (cnt + 1) ∧ (∀ j, j < np + ng → v'.2.1 10 j = v.2.1 10 j ∧ v'.1 12 j = v.1 12 j) ∧ v'.1 6 (91 - w) = v.1 6 (91 - w) ∧ (∀ p, p < np → u1.2.1 (o + 1) p ≠ u1.2.1 1 9) ∧ (∀ k, k < ng → u1.2.1 (o + 2) k ≠ u1.2.1 1 9) ∧ Fr dSu u1 u2 ∧ Fr dNv v v') ∨ (∃ f v', fX2_isNewName o u1 = some (0, sI u1 1 10 (nI f)) ∧ fX10_readName (nI w) (nI lim) (nI off) v = some ((), v') ∧ mF f v' ∧ Fr dNv v v')) := by
  obtain ⟨u1, s1, s2, s3⟩ := p_step h hk
  refine ⟨u1, s1, s3, ?_⟩
  have g1 : Fr dSv v (sI v 0 7 (nI (i + 1))) := Fr.sI ⟨rfl, Or.inl rfl⟩
  have hN1 : nmR np ng o 10 12 u1 (sI v 0 7 (nI (i + 1))) := hN.fr s3 g1 (fun k => ⟨fun q => by unfold dSu at q; omega, fun q => by unfold dSu at q; omega⟩) (fun k => ⟨fun q => by unfold dSv at q; omega, fun q => by unfold dSv at q; omega⟩)
  have hc1 : (sI v 0 7 (nI (i + 1))).1 0 19 = nI (np + ng) := by simp only [sI_at, sI_l, sJ_at, sJ_i, sJ_m, sM_at, sM_i, sM_l, Nat.reduceEqDiff, false_and, and_false, true_and, and_true, and_self, if_false, if_true, ite_false, ite_true]; exact hc
  have o11 : u1.1 o 0 = nI np := by rw [s3.1 _ _ (by unfold dSu; omega)]; exact o1
  have o21 : u1.1 o 1 = nI ng := by rw [s3.1 _ _ (by unfold dSu; omega)]; exact o2
  have hWc : (nI cnt = nI lim) = False := eq_false fun z => by
    have := (nI_eq2 (by omega) (by omega)).mp z
    omega
  have e90 : (90 : Int32) + nI w = nI (90 + w) := nI_add 90 w
  have emo : fX10_readName (nI w) (nI lim) (nI off) v = (fX10_isName (sI v 0 7 (nI (i + 1)))).bind fun q1 => bif decide (q1.1 = 0) then ((fX10_wrong 1 q1.2).bind fun q4 => fX10_readName_61 (nI w) (nI off) (nI cnt) q4.2) else ((fX10_nameAt 1 q1.2).bind fun q2 => bif decide (q2.1 < 0) then (fX10_readName_61 (nI w) (nI off) (nI cnt) q2.2) else ((fX10_wrong 3 q2.2).bind fun q3 => fX10_readName_61 (nI w) (nI off) (nI cnt) q3.2)) := by
    unfold fX10_readName
    rw [e90]
    simp (disch := first | omega | decide) only [ix_nI, nc_nI, hW, hWc, i10, i00, decide_true, decide_false, cnd_t, cnd_f, gd_nil, gd_t, b1_0, b1_1, sw_nil, sw_cons, obs, h.at, show nI i + 1 = nI (i + 1) from nI_1 i]
  rw [emo]
  obtain ⟨n1, n2, n3, n4, n5, n6, n7⟩ | ⟨f, f1, f2, n1, n2⟩ := p_newC hp6 hg8 s2 hN1 hc1 o11 o21
  · left
    have hk1 : u1.1 1 7 ≠ 0 := by rw [n2]; decide +kernel
    have hi2 := s2.i1000
    have gx : Fr (fun a k => a = 10 ∨ a = 12 ∨ (a = 0 ∧ k = 19)) (sI v 0 7 (nI (i + 1))) (sI (sI (sJ (sI v 0 7 (nI (i + 1))) 10 (np + ng) (v.2.1 4 (i + 1))) 12 (np + ng) (nI (off + cnt))) 0 19 (nI (np + ng + 1))) := (Fr.sJ (Or.inl rfl)).trans ((Fr.sI (Or.inr (Or.inl rfl))).trans (Fr.sI (Or.inr (Or.inr ⟨rfl, rfl⟩))))
    have h3 := s2.fr (D := fun _ _ => False) Fr.rfl' gx (fun a k z q => q) (fun a k z q => by unfold oPv at z; omega)
    obtain ⟨u2, t1, t2, t3⟩ := p_step h3 hk1
    have gy : Fr (fun a _ => a = 6) (sI (sI (sI (sJ (sI v 0 7 (nI (i + 1))) 10 (np + ng) (v.2.1 4 (i + 1))) 12 (np + ng) (nI (off + cnt))) 0 19 (nI (np + ng + 1))) 0 7 (nI (i + 1 + 1))) (sI (sI (sI (sI (sJ (sI v 0 7 (nI (i + 1))) 10 (np + ng) (v.2.1 4 (i + 1))) 12 (np + ng) (nI (off + cnt))) 0 19 (nI (np + ng + 1))) 0 7 (nI (i + 1 + 1))) 6 (90 + w) (nI (cnt + 1))) := Fr.sI rfl
    have h4 := t2.fr (D := fun _ _ => False) Fr.rfl' gy (fun a k z q => q) (fun a k z q => by unfold oPv at z; omega)
    have n3' : WR (u1.2.1 1 9) (v.2.1 4 (i + 1)) := n3
    refine ⟨u2, _, n1, t1, ?_, h4, ?_, ?_, ?_, ?_, ?_, ?_, n6, n7, t3, (g1.mono fun a k z => Or.inl z).trans ((gx.mono fun a k z => by omega).trans ((Fr.sI (Or.inl ⟨rfl, Or.inl rfl⟩)).trans (Fr.sI (Or.inr (Or.inr (Or.inr (Or.inr ⟨rfl, by omega⟩)))))))⟩
    · rw [n4]
      simp only [i10, i00, decide_true, decide_false, cnd_t, cnd_f, gd_nil, gd_t, b1_0, b1_1, sw_nil, sw_cons, obs, n5, show ((-1 : Int32) < 0) = True from eq_true (by decide +kernel)]
      unfold fX10_readName_61
      rw [e90]
      simp (disch := first | omega | decide) only [sI_at, sI_l, sJ_at, sJ_i, sJ_m, sM_at, sM_i, sM_l, Nat.reduceEqDiff, false_and, and_false, true_and, and_true, and_self, if_false, if_true, ite_false, ite_true, hc, h.ok, hW, i10, i00, decide_true, decide_false, cnd_t, cnd_f, gd_nil, gd_t, b1_0, b1_1, sw_nil, sw_cons, obs, ix_nI, nc_nI, nI_add, show nI (np + ng) + 1 = nI (np + ng + 1) from nI_1 _, show nI cnt + 1 = nI (cnt + 1) from nI_1 _, show nI (i + 1) + 1 = nI (i + 1 + 1) from nI_1 _]
    · simp only [sI_at, sI_l, sJ_at, sJ_i, sJ_m, sM_at, sM_i, sM_l, Nat.reduceEqDiff, false_and, and_false, true_and, and_true, and_self, if_false, if_true, ite_false, ite_true]
      exact n3'
    · simp only [sI_at, sI_l, sJ_at, sJ_i, sJ_m, sM_at, sM_i, sM_l, Nat.reduceEqDiff, false_and, and_false, true_and, and_true, and_self, if_false, if_true, ite_false, ite_true]
    · simp only [sI_at, sI_l, sJ_at, sJ_i, sJ_m, sM_at, sM_i, sM_l, Nat.reduceEqDiff, false_and, and_false, true_and, and_true, and_self, if_false, if_true, ite_false, ite_true]
    · simp only [sI_at, sI_l, sJ_at, sJ_i, sJ_m, sM_at, sM_i, sM_l, Nat.reduceEqDiff, false_and, and_false, true_and, and_true, and_self, if_false, if_true, ite_false, ite_true]
    · intro j hj
      simp only [sI_at, sI_l, sJ_at, sJ_i, sJ_m, sM_at, sM_i, sM_l, Nat.reduceEqDiff, false_and, and_false, true_and, and_true, and_self, if_false, if_true, ite_false, ite_true, show ¬ j = np + ng by omega]
    · simp only [sI_at, sI_l, sJ_at, sJ_i, sJ_m, sM_at, sM_i, sM_l, Nat.reduceEqDiff, false_and, and_false, true_and, and_true, and_self, if_false, if_true, ite_false, ite_true, show ¬ 91 - w = 90 + w by omega]
  · right
    have hx := mF.mk8 (v := sI v 0 7 (nI (i + 1))) f1 f2
    refine ⟨f, sI (sI v 0 7 (nI (i + 1))) 0 8 (nI f), n1, ?_, hx, (g1.mono fun a k z => Or.inl z).trans (Fr.sI (Or.inl ⟨rfl, Or.inr rfl⟩))⟩
    obtain ⟨m1, m2⟩ | ⟨m1, r, m2, m3, m4⟩ := n2
    · rw [m1]
      simp only [i10, i00, decide_true, decide_false, cnd_t, cnd_f, gd_nil, gd_t, b1_0, b1_1, sw_nil, sw_cons, obs, m2]
      exact mF61 hx _ _ _
    · rw [m1]
      simp only [i10, i00, decide_true, decide_false, cnd_t, cnd_f, gd_nil, gd_t, b1_0, b1_1, sw_nil, sw_cons, obs, m2, m3, m4]
      exact mF61 hx _ _ _
end PU
