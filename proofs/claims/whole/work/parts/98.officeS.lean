/-! an office told: the step -/
section PU
variable {u v u' v' : ab_S} {n T i o np ng : Nat} {g : Nat → Nat → Int32} {cs : List Int32} {Z : dZ} {s : Nat → Int32}
theorem nmR.move (h : nmR np ng o 10 12 u v) (h1 : ∀ p, p < np → u'.2.1 (o + 1) p = u.2.1 (o + 1) p) (h2 : ∀ k, k < ng → u'.2.1 (o + 2) k = u.2.1 (o + 2) k) (hv : ∀ j, j < np + ng → v'.2.1 9 j = v.2.1 10 j ∧ v'.1 11 j = v.1 12 j) : nmR np ng o 9 11 u' v' := by
  obtain ⟨a1, a2, a3, a4, a5, a6⟩ := h
  refine ⟨fun j hj => ?_, fun p hp => ?_, fun k hk => ?_, fun p q hp hq e => ?_, fun p q hp hq e => ?_, fun p q hp hq e => ?_⟩
  · obtain ⟨e1, e2⟩ := hv j hj
    obtain ⟨p, p1, p2, p3⟩ | ⟨k, k1, k2, k3⟩ := a1 j hj
    · exact Or.inl ⟨p, p1, e2.trans p2, by rw [h1 p p1, e1]; exact p3⟩
    · exact Or.inr ⟨k, k1, e2.trans k2, by rw [h2 k k1, e1]; exact k3⟩
  · obtain ⟨j, j1, j2⟩ := a2 p hp
    exact ⟨j, j1, (hv j j1).2.trans j2⟩
  · obtain ⟨j, j1, j2⟩ := a3 k hk
    exact ⟨j, j1, (hv j j1).2.trans j2⟩
  · rw [h1 p hp, h1 q hq] at e
    exact a4 p q hp hq e
  · rw [h2 p hp, h2 q hq] at e
    exact a5 p q hp hq e
  · rw [h1 p hp, h2 q hq] at e
    exact a6 p q hp hq e
-- the reference begins anew
theorem m_begins (hE : pE Z) (hm : pm_O Z v) : ∃ w, fX10_begins v = some ((), w) ∧ pm_S 0 (s0 Z) w ∧ w.1 16 22 = 0 ∧ w.1 13 0 = 0 ∧ w.1 0 25 = 0 ∧ (∀ j, j < 4 → w.1 17 j = 0) ∧ Fr (fun a k => a = 13 ∨ a = 14 ∨ a = 15 ∨ a = 16 ∨ a = 17 ∨ (a = 0 ∧ k = 25)) v w := by
  obtain ⟨v1, q1, q2, q3⟩ := m_start (b := 0) hE (by decide) hm
  have q1' : fX10_starts 0 v = some ((), v1) := q1
  obtain ⟨w, w1, w2, w3⟩ := m_begins27 4 0 fu (sI (sI (sI v1 16 22 0) 13 0 0) 0 25 0) rfl (by decide) (fun j hj => absurd hj (Nat.not_lt_zero j))
  have w1' : fX10_begins_27 fu 0 (sI (sI (sI v1 16 22 0) 13 0 0) 0 25 0) = some ((), w) := w1
  refine ⟨w, ?_, fun k hk => ?_, ?_, ?_, ?_, w2, ?_⟩
  · unfold fX10_begins
    rw [q1']
    simp only [obs, show ab_ix 22 1081 = true by decide +kernel, show ab_ix 0 250 = true by decide +kernel, show nc (22 : Int32) = 22 by decide +kernel, show nc (0 : Int32) = 0 by decide +kernel, i10, i00, decide_true, decide_false, cnd_t, cnd_f, gd_nil, gd_t, b1_0, b1_1, sw_nil, sw_cons, obs, w1']
  · rw [w3.1 _ _ (by omega), sI_at, if_neg (by omega), sI_at, if_neg (by omega), sI_at, if_neg (by omega)]
    exact q3 k hk
  · rw [w3.1 _ _ (by omega)]
    simp only [sI_at, sI_l, sJ_at, sJ_i, sJ_m, sM_at, sM_i, sM_l, Nat.reduceEqDiff, false_and, and_false, true_and, and_true, and_self, if_false, if_true, ite_false, ite_true]
  · rw [w3.1 _ _ (by omega)]
    simp only [sI_at, sI_l, sJ_at, sJ_i, sJ_m, sM_at, sM_i, sM_l, Nat.reduceEqDiff, false_and, and_false, true_and, and_true, and_self, if_false, if_true, ite_false, ite_true]
  · rw [w3.1 _ _ (by omega)]
    simp only [sI_at, sI_l, sJ_at, sJ_i, sJ_m, sM_at, sM_i, sM_l, Nat.reduceEqDiff, false_and, and_false, true_and, and_true, and_self, if_false, if_true, ite_false, ite_true]
  · have fa : ∀ {w : ab_S} {a k : Nat} {x : Int32}, (a = 13 ∨ a = 14 ∨ a = 15 ∨ a = 16 ∨ a = 17 ∨ (a = 0 ∧ k = 25)) → Fr (fun a k => a = 13 ∨ a = 14 ∨ a = 15 ∨ a = 16 ∨ a = 17 ∨ (a = 0 ∧ k = 25)) w (sI w a k x) := fun h => Fr.sI h
    exact (q2.mono fun a k z => by omega).trans ((fa (by omega)).trans ((fa (by omega)).trans ((fa (by omega)).trans (w3.mono fun a k z => by omega))))
-- the class opens it
theorem c_open (hE : pE Z) (ho : u.2.2 0 + 12 ≤ 38) (hO : pc_O Z (u.2.2 0) u) (hy : u.2.2 2 = 30 ∨ u.2.2 2 = 34) : ∃ w, fX9_openOffice u = some ((), w) ∧ pc_S 38 (s0 Z) w ∧ w.1 (u.2.2 2) 0 = 0 ∧ w.1 46 3 = 0 ∧ w.1 0 10 = 0 ∧ (∀ j, j < 4 → w.1 149 j = 0) ∧ w.1 154 0 = 0 ∧ Fr (fun a k => (30 ≤ a ∧ a < 42) ∨ a = 46 ∨ (a = 0 ∧ k = 10) ∨ a = 149 ∨ a = 154) u w := by
  obtain ⟨u1, q1, q2, q3⟩ := c_start (o := 38) hE ho hO
  have e2 : u1.2.2 = u.2.2 := q2.2.2
  obtain ⟨w, w1, w2, w3⟩ := c_open34 4 0 fu (sI (sI (sI u1 (u.2.2 2) 0 0) 46 3 0) 0 10 0) rfl (by decide) (fun j hj => absurd hj (Nat.not_lt_zero j))
  have w1' : fX9_openOffice_34 fu 0 (sI (sI (sI u1 (u.2.2 2) 0 0) 46 3 0) 0 10 0) = some ((), sI w 154 0 0) := w1
  have fa : ∀ {w : ab_S} {a k : Nat} {x : Int32}, ((30 ≤ a ∧ a < 42) ∨ a = 46 ∨ (a = 0 ∧ k = 10) ∨ a = 149 ∨ a = 154) → Fr (fun a k => (30 ≤ a ∧ a < 42) ∨ a = 46 ∨ (a = 0 ∧ k = 10) ∨ a = 149 ∨ a = 154) w (sI w a k x) := fun h => Fr.sI h
  have F1 : Fr (fun a k => a = 30 ∨ a = 34 ∨ a = 46 ∨ (a = 0 ∧ k = 10) ∨ a = 149 ∨ a = 154) u1 (sI w 154 0 0) := by
    have fb : ∀ {w : ab_S} {a k : Nat} {x : Int32}, (a = 30 ∨ a = 34 ∨ a = 46 ∨ (a = 0 ∧ k = 10) ∨ a = 149 ∨ a = 154) → Fr (fun a k => a = 30 ∨ a = 34 ∨ a = 46 ∨ (a = 0 ∧ k = 10) ∨ a = 149 ∨ a = 154) w (sI w a k x) := fun h => Fr.sI h
    exact (fb (by omega)).trans ((fb (by omega)).trans ((fb (by omega)).trans ((w3.mono fun a k z => by omega).trans (fb (by omega)))))
  refine ⟨sI w 154 0 0, ?_, q3.fr F1 (fun a k a1 a2 z => by omega), ?_, ?_, ?_, fun j hj => ?_, by rw [sI_at, if_pos ⟨rfl, rfl⟩], (q2.mono fun a k z => by omega).trans (F1.mono fun a k z => by omega)⟩
  · unfold fX9_openOffice
    rw [q1]
    simp only [obs, e2, w1']
  · rw [sI_at, if_neg (by omega), w3.1 _ _ (by omega), sI_at, if_neg (by omega), sI_at, if_neg (by omega), sI_at, if_pos ⟨rfl, rfl⟩]
  · rw [sI_at, if_neg (by omega), w3.1 _ _ (by omega), sI_at, if_neg (by omega), sI_at, if_pos ⟨rfl, rfl⟩]
  · rw [sI_at, if_neg (by omega), w3.1 _ _ (by omega), sI_at, if_pos ⟨rfl, rfl⟩]
  · rw [sI_at, if_neg (by omega)]
    exact w2 j hj
theorem i_S1 (u v : ab_S) (h : Inv u v) : ∃ (r : Int32) (u1 v1 : ab_S), fX9_office u = some (r, u1) ∧ fX10_office v = some (r, v1) ∧ Inv u1 v1 := by
  obtain ⟨Z, s, h⟩ := h
  have h := h.th
  have h' := h
  obtain ⟨⟨hE, hO, ho, hM, hc, hs, hv1⟩, -, hse, hun, -, -, hNm, hW, hT, hR1, hR2⟩ := h'
  obtain ⟨n, T, u1, v1, q1, q2, q3, q4, q5, q6⟩ := p_cut hT hW
  have er : u1.2.2 = u.2.2 := q5.2.2
  have ho6 : u.2.2 1 = 6 ∨ u.2.2 1 = 18 := by omega
  have hT1 : T ≤ 1000 := Nat.le_trans q3.1.1 q3.1.2.1
  obtain ⟨u2, c1, c2, c3, c4, c5, c6, c7, c8, c9, c10, c11, c12⟩ := c_clear ho6 u1
  obtain ⟨v3, d1, d2, d3, d4⟩ := m_always (sI (sI (sI v1 0 13 0) 0 19 0) 0 20 0)
  have gA : Fr (fun a k => (a = 0 ∧ (k = 13 ∨ k = 19 ∨ k = 20)) ∨ (a = 6 ∧ 90 ≤ k)) v1 v3 := by
    have fb : ∀ {w : ab_S} {a k : Nat} {x : Int32}, ((a = 0 ∧ (k = 13 ∨ k = 19 ∨ k = 20)) ∨ (a = 6 ∧ 90 ≤ k)) → Fr (fun a k => (a = 0 ∧ (k = 13 ∨ k = 19 ∨ k = 20)) ∨ (a = 6 ∧ 90 ≤ k)) w (sI w a k x) := fun h => Fr.sI h
    exact (fb (by omega)).trans ((fb (by omega)).trans ((fb (by omega)).trans (d4.mono fun a k z => Or.inr z)))
  have hr2 : pR n T 0 u2 v3 := q3.fr c12 gA (fun a k z q => by unfold oPu at z; omega) (fun a k z q => by unfold oPv at z; omega)
  have k13 : v3.1 0 13 = 0 := by rw [d4.1 _ _ (by omega)]; simp only [sI_at, sI_l, sJ_at, sJ_i, sJ_m, sM_at, sM_i, sM_l, Nat.reduceEqDiff, false_and, and_false, true_and, and_true, and_self, if_false, if_true, ite_false, ite_true]
  have k19 : v3.1 0 19 = 0 := by rw [d4.1 _ _ (by omega)]; simp only [sI_at, sI_l, sJ_at, sJ_i, sJ_m, sM_at, sM_i, sM_l, Nat.reduceEqDiff, false_and, and_false, true_and, and_true, and_self, if_false, if_true, ite_false, ite_true]
  have k20 : v3.1 0 20 = 0 := by rw [d4.1 _ _ (by omega)]; simp only [sI_at, sI_l, sJ_at, sJ_i, sJ_m, sM_at, sM_i, sM_l, Nat.reduceEqDiff, false_and, and_false, true_and, and_true, and_self, if_false, if_true, ite_false, ite_true]
  have hq : ofR 0 0 (u.2.2 1) u2 v3 := by
    refine ⟨by decide, by decide, c2, c3, d2 0 (by decide) (by decide), d2 1 (by decide) (by decide), k19, ?_, fun p hp => absurd hp (Nat.not_lt_zero p), fun p hp => absurd hp (Nat.not_lt_zero p), fun p hp => absurd hp (Nat.not_lt_zero p), fun p hp => absurd hp (Nat.not_lt_zero p), fun p hp k hk => ⟨0, by decide, c4 _ (by omega), ?_⟩, ⟨false, false, c6, c7, k20⟩, ⟨0, by decide, c5, d2 2 (by decide) (by decide)⟩⟩
    · exact ⟨fun j hj => absurd hj (Nat.not_lt_zero j), fun p hp => absurd hp (Nat.not_lt_zero p), fun p hp => absurd hp (Nat.not_lt_zero p), fun p q hp => absurd hp (Nat.not_lt_zero p), fun p q hp => absurd hp (Nat.not_lt_zero p), fun p q hp => absurd hp (Nat.not_lt_zero p)⟩
    · have := d2 (32 + 8 * p + k) (by omega) (by omega)
      rw [show 122 + 8 * p + k = 90 + (32 + 8 * p + k) by omega]
      exact this
  have hl : LW (u.2.2 1) u2 v3 := Or.inl ⟨c7, d3, k13, c8, c9, c10, c11⟩
  have ecl : ∀ r, fX2_readLines_6 (u.2.2 1) fu 0 u2 = some r → fX9_office u = (bif decide (r.1 = 0) then ((fX9_openOffice (sM (sM r.2 0 (r.2.2.2 1)) 1 (r.2.2.2 0))).bind fun q3 => some (0, q3.2)) else some (r.1, r.2)) := by
    intro r hr
    unfold fX9_office fX2_readLines
    rw [q1]
    simp only [obs, er, c1, hr]
  have emo : fX10_office v = fX10_office_30 fu v3 := by
    unfold fX10_office
    rw [q2]
    simp only [obs, d1]
  have F2 : Fr (fun a k => dKu a k ∨ (u.2.2 1 ≤ a ∧ a < u.2.2 1 + 12)) u u2 := (q5.mono fun a k z => Or.inl z).trans (c12.mono fun a k z => Or.inr z)
  have G2 : Fr rdV (sI v 0 0 0) v3 := (q6.mono fun a k z => by unfold dKv at z; unfold rdV; omega).trans (gA.mono fun a k z => by unfold rdV; omega)
  rw [emo]
  obtain ⟨u4, v4, np, ng, z1, z2, z3, z4, z5, z6, z7⟩ | ⟨f, u4, v4, z1, z2, z3, z4, z5, z6⟩ := o_loop ho6 T 0 0 fu fu 0 0 u2 v3 (by omega) (show T < 5000 by omega) (show T + 1 < 5000 by omega) hr2 hq hl (Nat.le_refl 0)
  · obtain ⟨hp6, hg8, o1, o2, w90, w91, hcn, hN, r1, r2, r3, r4, r5, r6, ⟨gg, r7, r71, r72⟩⟩ := z4
    -- what the reference takes
    have em62 : fX10_office_62 v4 = fX10_office_76 fu 0 v4 := by
      unfold fX10_office_62
      simp only [z3, show ((0 : Int32) ≤ 0) = True from eq_true (by decide +kernel), i10, i00, decide_true, decide_false, cnd_t, cnd_f, gd_nil, gd_t, b1_0, b1_1, sw_nil, sw_cons, obs]
    obtain ⟨v5, a1, a2, a3⟩ := m_off76 90 0 fu v4 rfl (by decide) (fun j hj => absurd hj (Nat.not_lt_zero j))
    have hcd : ∃ m, m ≤ 1001 ∧ v4.1 0 13 = nI m ∧ ∃ cs : List Int32, u4.1 (u.2.2 1 + 8) 1 = nI cs.length ∧ (∀ i, i < cs.length → u4.1 (u.2.2 1 + 9) i = cs.getD i 0) ∧ ((v4.1 6 93 = -1 ∧ cs = [-1, -3, -10]) ∨ (v4.1 6 93 = 0 ∧ m = cs.length + 1 ∧ cs.length ≤ 1000 ∧ sgm 30 cs ∧ (∀ i, i < cs.length → cE (cs.getD i 0) (v4.1 7 (1100 + i)) (v4.1 8 (1100 + i))) ∧ v4.1 7 (1100 + cs.length) = 0)) := by
      obtain ⟨l1, l2, l3, l4, l5, l6, l7⟩ | ⟨l1, l2, cs, l3, l4, l5, l6, l7, l8⟩ := z5
      · refine ⟨0, by decide, l3, [-1, -3, -10], l4, fun i hi => ?_, Or.inl ⟨l2, rfl⟩⟩
        have hi3 : i < 3 := hi
        obtain e | e | e : i = 0 ∨ i = 1 ∨ i = 2 := by omega
        · subst e; exact l5
        · subst e; exact l6
        · subst e; exact l7
      · exact ⟨cs.length + 1, by omega, l6, cs, l5, fun i hi => (l7 i hi).1, Or.inr ⟨l2, rfl, l3, l4, fun i hi => (l7 i hi).2, l8⟩⟩
    obtain ⟨m, m1, m2, cs, m3, m4, m5⟩ := hcd
    obtain ⟨v6, b1, b2, b3⟩ := m_off105 (show m ≤ 1050 by omega) m 0 fu v5 (by rw [a3.1 _ _ (by omega)]; exact m2) (Nat.zero_add m) (show m < 5000 by omega) (fun j hj => absurd hj (Nat.not_lt_zero j))
    obtain ⟨v7, e1, e2, e3⟩ := m_off153 (show np + ng ≤ 14 by omega) (np + ng) 0 fu v6 (by rw [b3.1 _ _ (by omega), a3.1 _ _ (by omega)]; exact hcn) (Nat.zero_add _) (show np + ng < 5000 by omega) (fun j hj => absurd hj (Nat.not_lt_zero j))
    have g8 : Fr (fun a k => a = 0 ∧ k = 18) v7 (sI v7 0 18 (nI (np + ng))) := Fr.sI ⟨rfl, rfl⟩
    have t6 : ∀ k, k < 90 → (sI v7 0 18 (nI (np + ng))).1 6 k = v4.1 6 (90 + k) := fun k hk => by
      rw [g8.1 _ _ (by omega), e3.1 _ _ (by omega), b3.1 _ _ (by omega)]
      exact a2 k hk
    have t7 : ∀ j, j < m → (sI v7 0 18 (nI (np + ng))).1 7 j = v4.1 7 (1100 + j) ∧ (sI v7 0 18 (nI (np + ng))).1 8 j = v4.1 8 (1100 + j) := fun j hj => by
      have := b2 j hj
      rw [a3.1 7 (1100 + j) (by omega), a3.1 8 (1100 + j) (by omega)] at this
      rw [g8.1 _ _ (by omega), e3.1 _ _ (by omega), g8.1 8 _ (by omega), e3.1 8 _ (by omega)]
      exact this
    have hLC : LCS cs (sI v7 0 18 (nI (np + ng))).1 := by
      obtain ⟨l1, l2⟩ | ⟨l1, l2, l3, l4, l5, l6⟩ := m5
      · exact Or.inl ⟨(t6 3 (by decide)).trans l1, l2⟩
      · refine Or.inr ⟨(t6 3 (by decide)).trans l1, l3, l4, fun i hi => ?_, ?_⟩
        · rw [(t7 i (by omega)).1, (t7 i (by omega)).2]
          exact l5 i hi
        · rw [(t7 cs.length (by omega)).1]
          exact l6
    have hB : BHS (u.2.2 1) np ng (sI v7 0 18 (nI (np + ng))).1 cs u4 := by
      refine ⟨o1, o2, fun k hk => ?_, fun k hk => ?_, fun p hp k hk => ?_, m3, m4⟩
      · obtain ⟨c, -, x1, x2⟩ := r3 k hk
        rw [t6 _ (by omega), x1, show 90 + (16 + 2 * k) = 106 + 2 * k by omega, x2]
      · obtain ⟨c, -, x1, x2⟩ := r4 k hk
        rw [t6 _ (by omega), x1, show 90 + (17 + 2 * k) = 107 + 2 * k by omega, x2]
      · obtain ⟨c, -, x1, x2⟩ := r5 p hp k hk
        rw [t6 _ (by omega), x1, show 90 + (32 + 8 * p + k) = 122 + 8 * p + k by omega, x2]
    obtain ⟨u5, f1, f2, f3⟩ := c_fits hp6 hg8 hLC.ok.2 hLC.ok.1 hB
    have hE' : pE (np, ng, (sI v7 0 18 (nI (np + ng))).1, FTS (sI v7 0 18 (nI (np + ng))).1 cs) := by
      refine ⟨hp6, hg8, (t6 0 (by decide)).trans w90, (t6 1 (by decide)).trans w91, fun k hk => ?_, fun p hp => ?_, ⟨gg, r7, (t6 2 (by decide)).trans r72⟩, fun p k j => clN_le _, m_fitL hp6 hg8 hLC⟩
      · have hk' : k < ng := hk
        obtain ⟨c, x0, x1, x2⟩ := r4 k hk'
        refine ⟨c, x0, ?_⟩
        have := t6 (17 + 2 * k) (by omega)
        rw [show 90 + (17 + 2 * k) = 107 + 2 * k by omega, x2] at this
        exact this
      · have hp' : p < np := hp
        obtain ⟨c, x0, x1, x2⟩ := r2 p hp'
        refine ⟨c, x0, ?_⟩
        have := t6 (5 + 2 * p) (by omega)
        rw [show 90 + (5 + 2 * p) = 95 + 2 * p by omega, x2] at this
        exact this
    have hO5 : pc_O (np, ng, (sI v7 0 18 (nI (np + ng))).1, FTS (sI v7 0 18 (nI (np + ng))).1 cs) (u.2.2 1) u5 := by
      refine ⟨(f3.1 _ _ (by unfold dWF; omega)).trans o1, (f3.1 _ _ (by unfold dWF; omega)).trans o2, ?_, fun p hp => ?_, fun p hp => ?_, fun k hk => ?_, fun k hk => ?_, fun p k j hp hk hj => f2 p k j hp hk hj⟩
      · exact (f3.1 _ _ (by unfold dWF; omega)).trans (r71.trans (((t6 2 (by decide)).trans r72).symm))
      · have hp' : p < np := hp
        refine (f3.1 _ _ (by unfold dWF; omega)).trans ((r1 p hp').trans ?_)
        have := t6 (4 + 2 * p) (by omega)
        rw [show 90 + (4 + 2 * p) = 94 + 2 * p by omega] at this
        exact this.symm
      · have hp' : p < np := hp
        obtain ⟨c, x0, x1, x2⟩ := r2 p hp'
        refine (f3.1 _ _ (by unfold dWF; omega)).trans (x1.trans ?_)
        have := t6 (5 + 2 * p) (by omega)
        rw [show 90 + (5 + 2 * p) = 95 + 2 * p by omega, x2] at this
        exact this.symm
      · exact (f3.1 _ _ (by unfold dWF; omega)).trans (hB.2.2.1 k hk)
      · exact (f3.1 _ _ (by unfold dWF; omega)).trans (hB.2.2.2.1 k hk)
    have F5 : Fr (fun a k => dKu a k ∨ (u.2.2 1 ≤ a ∧ a < u.2.2 1 + 12)) u u5 := F2.trans ((z6.mono fun a k z => by unfold dZu at z; unfold dKu; omega).trans (f3.mono fun a k z => by unfold dWF at z; omega))
    have e5 : u5.2.2 = u.2.2 := F5.2.2
    have es0 : (sM (sM u5 0 (u5.2.2 1)) 1 (u5.2.2 0)).2.2 0 = u.2.2 1 := by
      rw [sM_at, if_neg (by omega), sM_at, if_pos rfl, e5]
    have es1 : (sM (sM u5 0 (u5.2.2 1)) 1 (u5.2.2 0)).2.2 1 = u.2.2 0 := by
      rw [sM_at, if_pos rfl, e5]
    have es2 : (sM (sM u5 0 (u5.2.2 1)) 1 (u5.2.2 0)).2.2 2 = u.2.2 2 := by
      rw [sM_at, if_neg (by omega), sM_at, if_neg (by omega), e5]
    have es3 : (sM (sM u5 0 (u5.2.2 1)) 1 (u5.2.2 0)).2.2 3 = u.2.2 3 := by
      rw [sM_at, if_neg (by omega), sM_at, if_neg (by omega), e5]
    obtain ⟨u9, p1, p2, p3, p4, p5, p6, p7, p8⟩ := c_open (u := sM (sM u5 0 (u5.2.2 1)) 1 (u5.2.2 0)) hE' (by rw [es0]; omega) (by rw [es0]; exact hO5) (by rw [es2]; omega)
    obtain ⟨v9, j1, j2, j3, j4, j5, j6, j7⟩ := m_begins (v := sI v7 0 18 (nI (np + ng))) hE' ⟨fun _ _ => rfl, fun _ _ => rfl, fun _ _ => rfl⟩
    have e9 : u9.2.2 = (sM (sM u5 0 (u5.2.2 1)) 1 (u5.2.2 0)).2.2 := p8.2.2
    have uu : ∀ a k, ¬ dKu a k → ¬ (u.2.2 1 ≤ a ∧ a < u.2.2 1 + 12) → ¬ ((30 ≤ a ∧ a < 42) ∨ a = 46 ∨ (a = 0 ∧ k = 10) ∨ a = 149 ∨ a = 154) → u9.1 a k = u.1 a k := fun a k x1 x2 x3 => (p8.1 a k x3).trans (F5.1 a k (fun z => z.elim x1 x2))
    -- the names
    have hnm : nmR np ng (u.2.2 1) 9 11 u9 v9 := by
      refine hN.move (fun p hp => ?_) (fun k hk => ?_) (fun j hj => ?_)
      · rw [p8.2.1 _ _ (by omega)]
        exact f3.2.1 _ _ (by unfold dWF; omega)
      · rw [p8.2.1 _ _ (by omega)]
        exact f3.2.1 _ _ (by unfold dWF; omega)
      · have x := e2 j hj
        rw [b3.2.1 _ _ (by omega), a3.2.1 _ _ (by omega), b3.1 _ _ (by omega), a3.1 _ _ (by omega)] at x
        rw [j7.2.1 _ _ (by omega), j7.1 _ _ (by omega), g8.2.1 _ _ (by omega), g8.1 _ _ (by omega)]
        exact x
    have G4 : Fr (fun a k => rdV a k ∨ (a = 6 ∧ k < 90) ∨ a = 7 ∨ a = 8 ∨ a = 9 ∨ a = 11 ∨ (a = 0 ∧ k = 18) ∨ a = 13 ∨ a = 14 ∨ a = 15 ∨ a = 16 ∨ a = 17 ∨ (a = 0 ∧ k = 25)) (sI v 0 0 0) v9 := (G2.mono fun a k z => Or.inl z).trans ((z7.mono fun a k z => Or.inl (by unfold dZv dSv at z; unfold rdV; omega)).trans ((a3.mono fun a k z => Or.inr (by omega)).trans ((b3.mono fun a k z => Or.inr (by omega)).trans ((e3.mono fun a k z => Or.inr (by omega)).trans ((g8.mono fun a k z => Or.inr (by omega)).trans (j7.mono fun a k z => Or.inr (by omega)))))))
    have hun' := hun
    obtain ⟨-, ww, -, hw16, -, -, hw9, -⟩ := hun'
    have hTp : pTp u9 v9 := by
      have hA : pTp u2 v3 := q4.fr c12 gA (fun z => by omega) (fun k z => by omega) (fun z => by omega) (fun k z => by omega)
      have hB : pTp u5 v4 := hA.fr (z6.trans (f3.mono fun a k z => by unfold dWF at z; unfold dZu; omega)) z7 (fun z => by unfold dZu at z; omega) (fun k z => by unfold dZu at z; omega) (fun z => by unfold dZv dSv at z; omega) (fun k z => by unfold dZv dSv at z; omega)
      have gB : Fr (fun a k => (a = 6 ∨ a = 7 ∨ a = 8 ∨ a = 9 ∨ a = 11 ∨ (a = 0 ∧ k = 18) ∨ a = 13 ∨ a = 14 ∨ a = 15 ∨ a = 16 ∨ a = 17 ∨ (a = 0 ∧ k = 25))) v4 v9 := (a3.mono fun a k z => by omega).trans ((b3.mono fun a k z => by omega).trans ((e3.mono fun a k z => by omega).trans ((g8.mono fun a k z => by omega).trans (j7.mono fun a k z => by omega))))
      have hC : pTp (sM (sM u5 0 (u5.2.2 1)) 1 (u5.2.2 0)) v4 := hB
      exact hC.fr p8 gB (fun z => by omega) (fun k z => by omega) (fun z => by omega) (fun k z => by omega)
    have hWd : pWd v9 := hW.fr G4 (fun k z => by unfold rdV at z; omega)
    have z1' : fX2_readLines_6 (u.2.2 1) fu 0 u2 = some (0, u5) := by
      have z1'' : fX2_readLines_6 (u.2.2 1) fu 0 u2 = fX2_readLines_39 (u.2.2 1) u4 := z1
      rw [z1'']
      unfold fX2_readLines_39
      rw [f1]
      simp only [obs]
    refine ⟨0, u9, v9, ?_, ?_, (np, ng, (sI v7 0 18 (nI (np + ng))).1, FTS (sI v7 0 18 (nI (np + ng))).1 cs), s0 (np, ng, (sI v7 0 18 (nI (np + ng))).1, FTS (sI v7 0 18 (nI (np + ng))).1 cs), ⟨hE', ?_, ?_, ?_, p2, j2, pv_s0 hE'⟩, ⟨?_, 0, by decide, ?_, j4, fun i hi => absurd hi (Nat.not_lt_zero i)⟩, ⟨⟨0, by decide, p4, j3, fun i hi => absurd hi (Nat.not_lt_zero i)⟩, fun i hi => ?_⟩, ⟨0, ww, by decide, hw16, p5, j5, ?_, fun j hj => absurd hj (Nat.not_lt_zero j)⟩, fun j hj => ⟨false, p6 j hj, j6 j hj, fun z => absurd z Bool.false_ne_true⟩, Or.inl p7, ⟨?_, ?_⟩, hWd, hTp, ?_⟩
    · rw [ecl _ z1']
      simp only [i10, i00, decide_true, decide_false, cnd_t, cnd_f, gd_nil, gd_t, b1_0, b1_1, sw_nil, sw_cons, obs, p1]
    · have a1' : fX10_office_76 fu 0 v4 = fX10_office_105 fu 0 v5 := a1
      have b1' : fX10_office_105 fu 0 v5 = fX10_office_153 fu 0 v6 := b1
      have e1' : fX10_office_153 fu 0 v6 = ((fX10_begins (sI v7 0 18 (nI (np + ng)))).bind fun q1 => some (0, q1.2)) := e1
      rw [z2, em62, a1', b1', e1', j1]
      simp only [obs]
    · rw [e9, es0]
      have hO5' : pc_O (np, ng, (sI v7 0 18 (nI (np + ng))).1, FTS (sI v7 0 18 (nI (np + ng))).1 cs) (u.2.2 1) (sM (sM u5 0 (u5.2.2 1)) 1 (u5.2.2 0)) := hO5
      exact hO5'.fr p8 (fun a k x1 x2 z => by omega)
    · rw [e9, es0]; omega
    · exact ⟨fun k hk => j7.1 _ _ (by omega), fun k hk => j7.1 _ _ (by omega), fun k hk => j7.1 _ _ (by omega)⟩
    · rw [e9, es2]; omega
    · rw [e9]; exact p3
    · obtain ⟨x, hx⟩ := hse.2 i hi
      exact ⟨x, (uu _ _ (by unfold dKu; omega) (by omega) (by omega)).trans hx⟩
    · exact (uu _ _ (by unfold dKu; omega) (by omega) (by omega)).trans hw9
    · rw [j7.1 _ _ (by omega), sI_at, if_pos ⟨rfl, rfl⟩]
    · rw [e9, es0]
      exact hnm
    · unfold pRf
      rw [e9, es0, es1, es2, es3]
      exact ⟨hR1.symm.imp (fun z => ⟨z.2, z.1⟩) (fun z => ⟨z.2, z.1⟩), hR2⟩
  · have z1' : fX2_readLines_6 (u.2.2 1) fu 0 u2 = some (nI f, u4) := z1
    have nf : (nI f = 0) = False := eq_false fun z => by
      have := (nI_eq (b := 0) (show f < 2 ^ 31 by omega) (by decide)).mp z
      omega
    have F4 : Fr (rdU (u.2.2 1) (u.2.2 3)) u u4 := (F2.mono fun a k z => by unfold dKu at z; unfold rdU; omega).trans (z5.mono fun a k z => by unfold dZu at z; unfold rdU; omega)
    have G4 : Fr rdV (sI v 0 0 0) v4 := G2.trans (z6.mono fun a k z => by unfold dZv dSv at z; unfold rdV; omega)
    have hA : pTp u2 v3 := q4.fr c12 gA (fun z => by omega) (fun k z => by omega) (fun z => by omega) (fun k z => by omega)
    have hB : pTp u4 v4 := hA.fr z5 z6 (fun z => by unfold dZu at z; omega) (fun k z => by unfold dZu at z; omega) (fun z => by unfold dZv dSv at z; omega) (fun k z => by unfold dZv dSv at z; omega)
    refine ⟨nI f, u4, v4, ?_, z2, Z, s, h.rd F4 G4 hB⟩
    rw [ecl _ z1']
    simp only [nf, i10, i00, decide_true, decide_false, cnd_t, cnd_f, gd_nil, gd_t, b1_0, b1_1, sw_nil, sw_cons, obs]
end PU
