/-! the line of the seed -/
section PU
variable {u v u' v' : ab_S} {n T i o : Nat}
theorem once_bit : ∀ a b : Bool, ((((nI (a.toNat + 2 * b.toNat) >>> ((0 : Int32) &&& 31)) &&& 1 = 1) ↔ a = true) ∧ (((nI (a.toNat + 2 * b.toNat) >>> ((1 : Int32) &&& 31)) &&& 1 = 1) ↔ b = true)) ∧ (nI (false.toNat + 2 * b.toNat) ||| ((1 : Int32) <<< ((0 : Int32) &&& 31))) = nI (true.toNat + 2 * b.toNat) ∧ (nI (a.toNat + 2 * false.toNat) ||| ((1 : Int32) <<< ((1 : Int32) &&& 31))) = nI (a.toNat + 2 * true.toNat) := by decide +kernel
-- a line that is none of a person, a good, a liking
theorem m_once (h : pR n T i u v) (h0 : ¬ isW 0 u) (h2 : ¬ isW 2 u) (h5 : ¬ isW 5 u) : fX10_readLine v = fX10_readOnce v := by
  have w0 : fX10_isWord 0 v = some (0, v) := by
    have := m_isWord h (k := 0) (by decide)
    rw [if_neg h0] at this
    exact this
  have w2 : fX10_isWord 2 v = some (0, v) := by
    have := m_isWord h (k := 2) (by decide)
    rw [if_neg h2] at this
    exact this
  have w5 : fX10_isWord 5 v = some (0, v) := by
    have := m_isWord h (k := 5) (by decide)
    rw [if_neg h5] at this
    exact this
  unfold fX10_readLine
  rw [w0]
  simp only [i10, i00, decide_true, decide_false, cnd_t, cnd_f, gd_nil, gd_t, b1_0, b1_1, sw_nil, sw_cons, obs]
  rw [w2]
  simp only [i10, i00, decide_true, decide_false, cnd_t, cnd_f, gd_nil, gd_t, b1_0, b1_1, sw_nil, sw_cons, obs]
  rw [w5]
  simp only [i10, i00, decide_true, decide_false, cnd_t, cnd_f, gd_nil, gd_t, b1_0, b1_1, sw_nil, sw_cons, obs]
  cases fX10_readOnce v with
  | none => rfl
  | some r => rfl
theorem mF37 {f : Nat} (h : mF f v) (x : Int32) : fX10_readOnce_37 x v = some ((), v) := by
  unfold fX10_readOnce_37
  simp only [h.nz.2, i10, i00, decide_true, decide_false, cnd_t, cnd_f, gd_nil, gd_t, b1_0, b1_1, sw_nil, sw_cons, obs]
theorem l_seed {np ng : Nat} (h : pR n T i u v) (ho : o = 6 ∨ o = 18) (hR : ofR np ng o u v) (hw : isW 6 u) : lnO n T i o (fX2_readSeed o u) ((fX10_readLine v).bind fun q2 => fX10_takeSign 59 q2.2) u v := by
  obtain ⟨hp6, hg8, o1, o2, w90, w91, hc, hN, r1, r2, r3, r4, r5, ⟨a, b, r6, r61, r62⟩, r7⟩ := hR
  have hk : u.1 1 7 ≠ 0 := by rw [hw.1]; decide +kernel
  have hi := h.i1000
  have no : ∀ k, k < 23 → k ≠ 6 → ¬ isW k u := fun k hk hn z => hn (isW.uniq hk (by decide) z hw)
  rw [m_once h (no 0 (by decide) (by decide)) (no 2 (by decide) (by decide)) (no 5 (by decide) (by decide))]
  obtain ⟨r, q1, q2, -⟩ := m_wordHere h 6 2 (by decide)
  have er := q2 0 (by decide) hw
  subst er
  have q1' : fX10_wordHere 6 2 v = some (0, v) := q1
  have dq : ∀ a k, dSu a k → dQu o a k := fun a k z => Or.inl z
  have ds : ∀ a k, dSv a k → dQv a k := fun a k z => Or.inl z
  obtain ⟨⟨ob, -⟩, oc, -⟩ := once_bit a b
  unfold fX2_readSeed fX10_readOnce
  rw [q1', r6]
  have l0 : ((0 : Int32) < 0) = False := eq_false (by decide +kernel)
  cases a
  · have nb : ¬ ((nI (false.toNat + 2 * b.toNat) >>> ((0 : Int32) &&& 31)) &&& 1 = 1) := fun z => absurd (ob.mp z) Bool.false_ne_true
    obtain ⟨u1, s1, s2, s3⟩ := p_step h hk
    have gA : Fr (fun a k => a = 0 ∧ k = 20) (sI v 0 7 (nI (i + 1))) (sI (sI v 0 7 (nI (i + 1))) 0 20 (nI (true.toNat + 2 * b.toNat))) := Fr.sI ⟨rfl, rfl⟩
    have em : fX10_readOnce_37 0 v = (fX10_takeNumber 0 9999 (sI (sI v 0 20 (nI (true.toNat + 2 * b.toNat))) 0 7 (nI (i + 1)))).bind fun q3 => some ((), (sI q3.2 6 92 q3.1)) := by
      unfold fX10_readOnce_37
      simp (disch := first | omega | decide) only [sI_at, sI_l, sJ_at, sJ_i, sJ_m, sM_at, sM_i, sM_l, Nat.reduceEqDiff, false_and, and_false, true_and, and_true, and_self, if_false, if_true, ite_false, ite_true, h.ok, h.at, r62, show ((0 : Int32) ≤ 0) = True from eq_true (by decide +kernel), i10, i00, decide_true, decide_false, cnd_t, cnd_f, gd_nil, gd_t, b1_0, b1_1, sw_nil, sw_cons, obs, oc, ix_o, nc_o, show nI i + 1 = nI (i + 1) from nI_1 i]
    have hr0 : pR n T i u (sI v 0 20 (nI (true.toNat + 2 * b.toNat))) := h.fr (D := fun _ _ => False) (E := fun a k => a = 0 ∧ k = 20) Fr.rfl' (Fr.sI ⟨rfl, rfl⟩) (fun a k z q => q) (fun a k z q => by unfold oPv at z; omega)
    obtain ⟨u1', s1', s2', s3'⟩ := p_step hr0 hk
    have g0 : Fr dQv v (sI (sI v 0 20 (nI (true.toNat + 2 * b.toNat))) 0 7 (nI (i + 1))) := (Fr.sI (Or.inr (Or.inr (Or.inr (Or.inl ⟨rfl, Or.inr rfl⟩))))).trans (Fr.sI (Or.inl ⟨rfl, Or.inl rfl⟩))
    obtain ⟨x, u2, x1, x2, x3, x4, x5, x6⟩ | ⟨f, x3, x4, x5, x6⟩ := p_num s2' 0 9999 (by decide) (by decide)
    · have x3' : fX6_takeNumber 0 9999 u1' = some (nI x, u2) := x3
      have x4' : fX10_takeNumber 0 9999 (sI (sI v 0 20 (nI (true.toNat + 2 * b.toNat))) 0 7 (nI (i + 1))) = some (nI x, sI (sI (sI v 0 20 (nI (true.toNat + 2 * b.toNat))) 0 7 (nI (i + 1))) 0 7 (nI (i + 1 + 1))) := x4
      have nx : (nI x = -1) ↔ False := nI_nm1 (by omega)
      have gz : Fr (fun a k => a = 6 ∧ k = 92) (sI (sI (sI v 0 20 (nI (true.toNat + 2 * b.toNat))) 0 7 (nI (i + 1))) 0 7 (nI (i + 1 + 1))) (sI (sI (sI (sI v 0 20 (nI (true.toNat + 2 * b.toNat))) 0 7 (nI (i + 1))) 0 7 (nI (i + 1 + 1))) 6 92 (nI x)) := Fr.sI ⟨rfl, rfl⟩
      have h5 := x5.fr (D := fun _ _ => False) Fr.rfl' gz (fun a k z q => q) (fun a k z q => by unfold oPv at z; omega)
      have gQ := g0.trans ((Fr.sI (v := sI (sI v 0 20 (nI (true.toNat + 2 * b.toNat))) 0 7 (nI (i + 1))) (a := 0) (k := 7) (x := nI (i + 1 + 1)) (D := dQv) (Or.inl ⟨rfl, Or.inl rfl⟩)).trans (gz.mono fun a k z => by unfold dQv; omega))
      have F2 : Fr dSu u u2 := s3'.trans x6
      obtain ⟨u3, e1, e2, e3, e4, e5⟩ | ⟨f, e1, e2, e3, e4⟩ := p_end h5
      · have F3 : Fr dSu u u3 := F2.trans e4
        have hu : ∀ a k, 6 ≤ a → u3.1 a k = u.1 a k := fun a k z => F3.1 a k (fun q => by unfold dSu at q; omega)
        have fW : Fr (fun a k => a = o ∧ (k = 9 ∨ k = 10)) u3 (sI (sI u3 o 9 (nI x)) o 10 1) := (Fr.sI ⟨rfl, Or.inl rfl⟩).trans (Fr.sI ⟨rfl, Or.inr rfl⟩)
        have u7k : ∀ a k, 6 ≤ a → ¬ (a = o ∧ (k = 9 ∨ k = 10)) → (sI (sI u3 o 9 (nI x)) o 10 1).1 a k = u.1 a k := fun a k z1 z2 => (fW.1 a k z2).trans (hu a k z1)
        have G6 : Fr (fun a k => dSv a k ∨ (a = 0 ∧ k = 20) ∨ (a = 6 ∧ k = 92)) v (sI (sI (sI (sI (sI v 0 20 (nI (true.toNat + 2 * b.toNat))) 0 7 (nI (i + 1))) 0 7 (nI (i + 1 + 1))) 6 92 (nI x)) 0 7 (nI (i + 1 + 1 + 1))) := (Fr.sI (Or.inr (Or.inl ⟨rfl, rfl⟩))).trans ((Fr.sI (Or.inl ⟨rfl, Or.inl rfl⟩)).trans ((Fr.sI (Or.inl ⟨rfl, Or.inl rfl⟩)).trans ((Fr.sI (Or.inr (Or.inr ⟨rfl, rfl⟩))).trans (Fr.sI (Or.inl ⟨rfl, Or.inl rfl⟩)))))
        have v6 : ∀ a k, ¬ (a = 0 ∧ (k = 7 ∨ k = 8)) → ¬ (a = 0 ∧ k = 20) → ¬ (a = 6 ∧ k = 92) → (sI (sI (sI (sI (sI v 0 20 (nI (true.toNat + 2 * b.toNat))) 0 7 (nI (i + 1))) 0 7 (nI (i + 1 + 1))) 6 92 (nI x)) 0 7 (nI (i + 1 + 1 + 1))).1 a k = v.1 a k := fun a k z1 z2 z3 => G6.1 a k (fun q => by unfold dSv at q; omega)
        have hN' := (hN.fr F3 G6 (fun k => ⟨fun q => by unfold dSu at q; omega, fun q => by unfold dSu at q; omega⟩) (fun k => ⟨fun q => by unfold dSv at q; omega, fun q => by unfold dSv at q; omega⟩)).fr fW (Fr.rfl' (D := fun _ _ => False)) (fun k => ⟨fun q => by omega, fun q => by omega⟩) (fun k => ⟨id, id⟩)
        refine Or.inl ⟨_, _, i + 1 + 1 + 1, np, ng, by omega, ?_, ?_, e3.fr (E := fun _ _ => False) fW Fr.rfl' (fun a k z q => by unfold oPu at z; omega) (fun a k z q => q), ⟨hp6, hg8, ?_, ?_, ?_, ?_, ?_, hN', fun p hp => ?_, fun p hp => ?_, fun k hk => ?_, fun k hk => ?_, fun p hp k hk => ?_, ⟨true, b, ?_, ?_, ?_⟩, ⟨x, x2, ?_, ?_⟩⟩, (F3.mono dq).trans (fW.mono fun a k z => Or.inr (by omega)), gQ.trans (Fr.sI (Or.inl ⟨rfl, Or.inl rfl⟩))⟩
        · simp only [b01, Bool.false_eq_true, if_false, i10, i00, decide_true, decide_false, cnd_t, cnd_f, gd_nil, gd_t, b1_0, b1_1, sw_nil, sw_cons, obs, s1', x3', nx, e1]
        · simp only [obs, l0, i10, i00, decide_true, decide_false, cnd_t, cnd_f, gd_nil, gd_t, b1_0, b1_1, sw_nil, sw_cons, obs, r62, nb, em, x4', e2]
        · rw [u7k o 0 (by omega) (by omega)]; exact o1
        · rw [u7k o 1 (by omega) (by omega)]; exact o2
        · rw [v6 6 90 (by omega) (by omega) (by omega)]; exact w90
        · rw [v6 6 91 (by omega) (by omega) (by omega)]; exact w91
        · rw [v6 0 19 (by omega) (by omega) (by omega)]; exact hc
        · rw [u7k _ _ (by omega) (by omega), v6 _ _ (by omega) (by omega) (by omega)]
          exact r1 p hp
        · obtain ⟨c', c1, c2, c3⟩ := r2 p hp
          exact ⟨c', c1, by rw [u7k _ _ (by omega) (by omega)]; exact c2, by rw [v6 _ _ (by omega) (by omega) (by omega)]; exact c3⟩
        · obtain ⟨c', c1, c2, c3⟩ := r3 k hk
          exact ⟨c', c1, by rw [u7k _ _ (by omega) (by omega)]; exact c2, by rw [v6 _ _ (by omega) (by omega) (by omega)]; exact c3⟩
        · obtain ⟨c', c1, c2, c3⟩ := r4 k hk
          exact ⟨c', c1, by rw [u7k _ _ (by omega) (by omega)]; exact c2, by rw [v6 _ _ (by omega) (by omega) (by omega)]; exact c3⟩
        · obtain ⟨c', c1, c2, c3⟩ := r5 p hp k hk
          exact ⟨c', c1, by rw [u7k _ _ (by omega) (by omega)]; exact c2, by rw [v6 _ _ (by omega) (by omega) (by omega)]; exact c3⟩
        · rw [sI_at, if_pos ⟨rfl, rfl⟩]; rfl
        · rw [u7k o 11 (by omega) (by omega)]; exact r61
        · simp only [sI_at, sI_l, sJ_at, sJ_i, sJ_m, sM_at, sM_i, sM_l, Nat.reduceEqDiff, false_and, and_false, true_and, and_true, and_self, if_false, if_true, ite_false, ite_true]
        · rw [sI_at, if_neg (by omega), sI_at, if_pos ⟨rfl, rfl⟩]
        · simp only [sI_at, sI_l, sJ_at, sJ_i, sJ_m, sM_at, sM_i, sM_l, Nat.reduceEqDiff, false_and, and_false, true_and, and_true, and_self, if_false, if_true, ite_false, ite_true]
      · refine Or.inr ⟨f, sI u2 1 10 (nI f), _, ?_, ?_, by rw [sI_at, if_pos ⟨rfl, rfl⟩], mF.mk8 e3 e4, (F2.mono dq).trans (Fr.sI (Or.inl ⟨rfl, by decide, by decide⟩)), gQ.trans (Fr.sI (Or.inl ⟨rfl, Or.inr rfl⟩))⟩
        · simp only [b01, Bool.false_eq_true, if_false, i10, i00, decide_true, decide_false, cnd_t, cnd_f, gd_nil, gd_t, b1_0, b1_1, sw_nil, sw_cons, obs, s1', x3', nx, e1]
        · simp only [obs, l0, i10, i00, decide_true, decide_false, cnd_t, cnd_f, gd_nil, gd_t, b1_0, b1_1, sw_nil, sw_cons, obs, r62, nb, em, x4', e2]
    · have x3' : fX6_takeNumber 0 9999 u1' = some (-1, sI u1' 1 10 (nI f)) := x3
      have x4' : fX10_takeNumber 0 9999 (sI (sI v 0 20 (nI (true.toNat + 2 * b.toNat))) 0 7 (nI (i + 1))) = some (0, sI (sI (sI v 0 20 (nI (true.toNat + 2 * b.toNat))) 0 7 (nI (i + 1))) 0 8 (nI f)) := x4
      have hF : mF f (sI (sI (sI (sI v 0 20 (nI (true.toNat + 2 * b.toNat))) 0 7 (nI (i + 1))) 0 8 (nI f)) 6 92 0) := by
        unfold mF
        simp only [sI_at, sI_l, sJ_at, sJ_i, sJ_m, sM_at, sM_i, sM_l, Nat.reduceEqDiff, false_and, and_false, true_and, and_true, and_self, if_false, if_true, ite_false, ite_true]
        exact ⟨x5, x6⟩
      refine Or.inr ⟨f, sI u1' 1 10 (nI f), _, ?_, ?_, by rw [sI_at, if_pos ⟨rfl, rfl⟩], hF, (s3'.mono dq).trans (Fr.sI (Or.inl ⟨rfl, by decide, by decide⟩)), g0.trans ((Fr.sI (Or.inl ⟨rfl, Or.inr rfl⟩)).trans (Fr.sI (Or.inr (Or.inr (Or.inr (Or.inr ⟨rfl, by decide, by decide⟩))))))⟩
      · simp only [b01, Bool.false_eq_true, if_false, i10, i00, decide_true, decide_false, cnd_t, cnd_f, gd_nil, gd_t, b1_0, b1_1, sw_nil, sw_cons, obs, s1', x3']
      · simp only [obs, l0, i10, i00, decide_true, decide_false, cnd_t, cnd_f, gd_nil, gd_t, b1_0, b1_1, sw_nil, sw_cons, obs, r62, nb, em, x4']
        exact mF_takeSign hF 59
  · have nb : ((nI (true.toNat + 2 * b.toNat) >>> ((0 : Int32) &&& 31)) &&& 1 = 1) := ob.mpr rfl
    obtain ⟨f, f1, f2, f3, f4⟩ := p_fail h 3 (by decide) (by decide)
    have f3' : fX6_fail 3 u = some (0, sI u 1 10 (nI f)) := f3
    have f4' : fX10_wrong 3 v = some ((), sI v 0 8 (nI f)) := f4
    have hF := mF.mk8 (v := v) f1 f2
    refine Or.inr ⟨f, sI u 1 10 (nI f), sI v 0 8 (nI f), ?_, ?_, by rw [sI_at, if_pos ⟨rfl, rfl⟩], hF, Fr.sI (Or.inl ⟨rfl, by decide, by decide⟩), Fr.sI (Or.inl ⟨rfl, Or.inr rfl⟩)⟩
    · simp only [b01, if_true, i10, i00, decide_true, decide_false, cnd_t, cnd_f, gd_nil, gd_t, b1_0, b1_1, sw_nil, sw_cons, obs, f3']
    · simp only [obs, l0, i10, i00, decide_true, decide_false, cnd_t, cnd_f, gd_nil, gd_t, b1_0, b1_1, sw_nil, sw_cons, obs, r62, nb, f4', mF37 hF]
      exact mF_takeSign hF 59
end PU
