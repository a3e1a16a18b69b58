/-! the law: comparisons, parts, brackets, on both sides -/
section PU
variable {u v u' v' : ab_S} {n T i q : Nat} {cs ds : List Int32}
theorem m_hasSign (h : pR n T i u v) {s : Nat} (hs : s < 128) : ∃ b : Bool, fX6_isSign (nI s) u = some (b01 b, u) ∧ fX10_isSign (nI s) v = some (b01 b, v) ∧ (b = true → u.1 1 7 = 4 ∧ u.2.1 1 9 = lN s) ∧ (b = true → fX10_hasSign (nI s) v = some (1, sI v 0 7 (nI (i + 1)))) ∧ (b = false → fX10_hasSign (nI s) v = some (0, sI v 0 7 (nI i))) := by
  obtain ⟨b, s1, s2, s3⟩ := p_isSign h hs
  refine ⟨b, s1, s2, s3, fun e => ?_, fun e => ?_⟩
  · subst e
    unfold fX10_hasSign
    rw [s2]
    simp only [b01, if_true, i10, i00, decide_true, decide_false, cnd_t, cnd_f, gd_nil, gd_t, b1_0, b1_1, sw_nil, sw_cons, obs, h.at, show nI i + 1 = nI (i + 1) from nI_1 i]
  · subst e
    unfold fX10_hasSign
    rw [s2]
    simp only [b01, Bool.false_eq_true, if_false, i10, i00, decide_true, decide_false, cnd_t, cnd_f, gd_nil, gd_t, b1_0, b1_1, sw_nil, sw_cons, obs, h.at, show nI i + 0 = nI i from Int32.add_zero _]
theorem m_hasWord1 (h : pR n T i u v) {k : Nat} (hk : k < 23) (e : isW k u) : fX10_hasWord (nI k) v = some (1, sI v 0 7 (nI (i + 1))) := by
  unfold fX10_hasWord
  rw [m_isWord h hk]
  simp only [if_pos e, i10, i00, decide_true, decide_false, cnd_t, cnd_f, gd_nil, gd_t, b1_0, b1_1, sw_nil, sw_cons, obs, h.at, show nI i + 1 = nI (i + 1) from nI_1 i]
theorem m_hasWord0 (h : pR n T i u v) {k : Nat} (hk : k < 23) (e : ¬ isW k u) : fX10_hasWord (nI k) v = some (0, sI v 0 7 (nI i)) := by
  unfold fX10_hasWord
  rw [m_isWord h hk]
  simp only [if_neg e, i10, i00, decide_true, decide_false, cnd_t, cnd_f, gd_nil, gd_t, b1_0, b1_1, sw_nil, sw_cons, obs, h.at, show nI i + 0 = nI i from Int32.add_zero _]
theorem mF_hasSign {f : Nat} (h : mF f v) (K : Int32) : ∃ v', fX10_hasSign K v = some (0, v') ∧ mF f v' ∧ Fr dSv v v' := by
  refine ⟨sI v 0 7 (v.1 0 7 + 0), ?_, ?_, Fr.sI ⟨rfl, Or.inl rfl⟩⟩
  · unfold fX10_hasSign
    rw [mF_isSign h]
    simp only [i10, i00, decide_true, decide_false, cnd_t, cnd_f, gd_nil, gd_t, b1_0, b1_1, sw_nil, sw_cons, obs]
  · unfold mF
    simp only [sI_at, sI_l, sJ_at, sJ_i, sJ_m, sM_at, sM_i, sM_l, Nat.reduceEqDiff, false_and, and_false, true_and, and_true, and_self, if_false, if_true, ite_false, ite_true]
    exact h
theorem lv_comp {D X : Nat} {w : Int32} {R1 : Nat → Int32 → Int32 → ab_S → Option (Int32 × ab_S)} {R2 R3 R4 : Nat → Int32 → ab_S → Option (Int32 × ab_S)} {S1 S2 S3 S4 S5 : Int32 → ab_S → Option (Unit × ab_S)} (hq : 14 ≤ q) (hX : X < 80) (hT : T ≤ 1000) (hY : lwJ n T q D X (fun u => R1 q 2 w u) (fun v => S3 w v)) : lwJ n T q (D + 1) (X + 1) (fun u => fX1_readLevel R1 R2 R3 R4 q 1 w u) (fun v => fX10_test S1 S2 S3 S4 S5 w v) := by
  intro u v i cs h hL hc
  show lwO n T i q (D + 1) (X + 1) cs (fX1_readLevel R1 R2 R3 R4 q 1 w u) (fX10_test S1 S2 S3 S4 S5 w v) u v
  have e1 : (1 : Int32) + 1 = 2 := by decide +kernel
  have e3 : ((1 : Int32) ≤ 3) = True := eq_true (by decide +kernel)
  have e4 : ((0 : Int32) < 1000) = True := eq_true (by decide +kernel)
  have efu : fu = 4999 + 1 := rfl
  unfold fX1_readLevel fX10_test
  obtain ⟨u2, v2, i2, es, a1, a2, a3, a4, a5, a6, a7, a8, a9⟩ | ⟨f, u2, v2, k, a1, a2, a3, a4, a5, a6, a7, a8⟩ := hY u v i cs h hL hc
  · have a3' : R1 q 2 w u = some (1, u2) := a3
    have a4' : S3 w v = some ((), v2) := a4
    rw [a4']
    simp only [e3, i10, i00, decide_true, decide_false, cnd_t, cnd_f, gd_nil, gd_t, b1_0, b1_1, sw_nil, sw_cons, obs, e1, a3']
    rw [efu, fX1_readLevel_29]
    -- an operator stands here
    have go : ∀ (c x : Int32) (vv : ab_S) (zz : Option (Unit × ab_S)), cB c → ¬ c = 0 → cE c x 0 → pR n T i2 u2 vv → lwR (cs ++ es) q u2 vv → Fr dSv v2 vv → u2.1 1 7 ≠ 0 → fX1_operatorAt 1 u2 = some (c, u2) → zz = ((S3 w (sI vv 0 7 (nI (i2 + 1)))).bind fun r => (fX10_emit x 0 r.2).bind fun s => some ((), s.2)) → lwO n T i q (D + 1) (X + 1) cs (bif decide ((0 : Int32) < 1000) then ((fX1_operatorAt 1 u2).bind fun q1 => bif decide (q1.1 = 0) then (ab_gd [ab_b1 1] (some (1, q1.2))) else ((fX6_step q1.2).bind fun q2 => (R1 q (1 + 1) w q2.2).bind fun q3 => bif decide (q3.1 = 0) then (ab_gd [ab_b1 0] (some (0, q3.2))) else ((fX1_add q q1.1 q3.2).bind fun q4 => bif decide ((1 : Int32) = 1) then (ab_gd [ab_b1 1] (some (1, q4.2))) else ((fX1_readLevel_29 R1 R2 R3 R4 q 4999) 1 w (0 + 1) q4.2)))) else (ab_gd [ab_b1 1] (some (1, u2)))) zz u v := by
      intro c x vv zz hb hn hE hp hl hf hk ho hz
      obtain ⟨u3, s1, s2, s3⟩ := p_step hp hk
      have g1 : Fr dSv vv (sI vv 0 7 (nI (i2 + 1))) := Fr.sI ⟨rfl, Or.inl rfl⟩
      have hl1 := hl.sv hq s3 g1
      have hi2 := a5.2.2.1
      have hlen : (cs ++ es).length ≤ i2 := by rw [List.length_append]; omega
      rw [hz]
      obtain ⟨u4, v4, i4, fs, b1, b2, b3, b4, b5, b6, b7, b8, b9⟩ | ⟨f, u4, v4, k, b1, b2, b3, b4, b5, b6, b7, b8⟩ := hY u3 _ (i2 + 1) (cs ++ es) s2 hl1 (by omega)
      · have b3' : R1 q 2 w u3 = some (1, u4) := b3
        have b4' : S3 w (sI vv 0 7 (nI (i2 + 1))) = some ((), v4) := b4
        have hi4 := b5.2.2.1
        have hlen2 : (cs ++ es ++ fs).length + 1 ≤ i4 := by rw [List.length_append]; omega
        have eA := c_add b6.1 (by omega) c
        have eM := m_emit b6.2.1 (by omega) x 0
        have hp4 := b6.push hE
        have ec : cs ++ es ++ fs ++ [c] = cs ++ (es ++ (fs ++ [c])) := by simp only [List.append_assoc]
        rw [ec] at hp4
        have elen : (es ++ (fs ++ [c])).length = es.length + fs.length + 1 := by simp only [List.length_append, List.length_singleton]; omega
        refine Or.inl ⟨_, _, i4, es ++ (fs ++ [c]), by rw [elen]; omega, by omega, ?_, ?_, b5.push hq, hp4, sgm_bin (a7.mono (by omega)) b7 hb, a8.trans ((s3.mono su_L).trans (b8.trans add_fr)), a9.trans ((hf.mono sv_L).trans ((g1.mono sv_L).trans (b9.trans emit_fr)))⟩
        · simp only [e4, i10, i00, decide_true, decide_false, cnd_t, cnd_f, gd_nil, gd_t, b1_0, b1_1, sw_nil, sw_cons, obs, ho, hn, s1, e1, b3', eA]
        · simp only [b4', obs, eM]
      · have b1' : R1 q 2 w u3 = some (0, u4) := b1
        have b2' : S3 w (sI vv 0 7 (nI (i2 + 1))) = some ((), v4) := b2
        have eM := m_emit b5 (by omega) x 0
        refine Or.inr ⟨f, u4, _, k + 1, ?_, ?_, b3, b4.emit (m := 1100 + k) (x := x) (y := 0) (z := nI (k + 1)), ?_, by omega, a8.trans ((s3.mono su_L).trans b7), a9.trans ((hf.mono sv_L).trans ((g1.mono sv_L).trans (b8.trans emit_fr)))⟩
        · simp only [e4, i10, i00, decide_true, decide_false, cnd_t, cnd_f, gd_nil, gd_t, b1_0, b1_1, sw_nil, sw_cons, obs, ho, hn, s1, e1, b1']
        · simp only [b2', obs, eM]
        · rw [sI_at, if_pos ⟨rfl, rfl⟩]
    obtain ⟨b, s1, s2, s3, s4, s5⟩ := m_hasSign a5 (s := 60) (by decide)
    have s1' : fX6_isSign 60 u2 = some (b01 b, u2) := s1
    have s2' : fX10_isSign 60 v2 = some (b01 b, v2) := s2
    cases b
    · have s5' : fX10_hasSign 60 v2 = some (0, sI v2 0 7 (nI i2)) := s5 rfl
      have g0 : Fr dSv v2 (sI v2 0 7 (nI i2)) := Fr.sI ⟨rfl, Or.inl rfl⟩
      obtain ⟨b, t1, t2, t3, t4, t5⟩ := m_hasSign a5.same (s := 61) (by decide)
      have t1' : fX6_isSign 61 u2 = some (b01 b, u2) := t1
      cases b
      · have t5' : fX10_hasSign 61 (sI v2 0 7 (nI i2)) = some (0, sI (sI v2 0 7 (nI i2)) 0 7 (nI i2)) := t5 rfl
        have g2 : Fr dSv (sI v2 0 7 (nI i2)) (sI (sI v2 0 7 (nI i2)) 0 7 (nI i2)) := Fr.sI ⟨rfl, Or.inl rfl⟩
        have eo : fX1_operatorAt 1 u2 = some (0, u2) := by
          unfold fX1_operatorAt
          simp only [i10, i00, decide_true, decide_false, cnd_t, cnd_f, gd_nil, gd_t, b1_0, b1_1, sw_nil, sw_cons, obs, show ((1 : Int32) = 1) = True from eq_true rfl, s1', t1', b01, Bool.false_eq_true, if_false]
        refine Or.inl ⟨u2, _, i2, es, a1, a2, ?_, ?_, a5.same.same, (a6.sv hq Fr.rfl' g0).sv hq Fr.rfl' g2, a7.mono (by omega), a8, a9.trans ((g0.mono sv_L).trans (g2.mono sv_L))⟩
        · simp only [e4, i10, i00, decide_true, decide_false, cnd_t, cnd_f, gd_nil, gd_t, b1_0, b1_1, sw_nil, sw_cons, obs, eo]
        · simp only [obs, s2', b01, Bool.false_eq_true, if_false, s5', i10, i00, decide_true, decide_false, cnd_t, cnd_f, gd_nil, gd_t, b1_0, b1_1, sw_nil, sw_cons, obs, t5']
      · have t4' : fX10_hasSign 61 (sI v2 0 7 (nI i2)) = some (1, sI (sI v2 0 7 (nI i2)) 0 7 (nI (i2 + 1))) := t4 rfl
        have eo : fX1_operatorAt 1 u2 = some (-9, u2) := by
          unfold fX1_operatorAt
          simp only [i10, i00, decide_true, decide_false, cnd_t, cnd_f, gd_nil, gd_t, b1_0, b1_1, sw_nil, sw_cons, obs, show ((1 : Int32) = 1) = True from eq_true rfl, s1', t1', b01, Bool.false_eq_true, if_false, if_true]
        refine go (-9) 8 _ _ (Or.inr (Or.inr (Or.inr (Or.inl rfl)))) (by decide +kernel) (Or.inr (Or.inr (Or.inr (Or.inr (Or.inr (Or.inr (Or.inr (Or.inr (Or.inl ⟨rfl, rfl, rfl⟩))))))))) a5.same (a6.sv hq Fr.rfl' g0) g0 (by rw [(t3 rfl).1]; decide +kernel) eo ?_
        unfold fX10_test_30 fX10_test_47
        simp only [obs, s2', b01, Bool.false_eq_true, if_false, s5', i10, i00, decide_true, decide_false, cnd_t, cnd_f, gd_nil, gd_t, b1_0, b1_1, sw_nil, sw_cons, obs, t4']
    · have s4' : fX10_hasSign 60 v2 = some (1, sI v2 0 7 (nI (i2 + 1))) := s4 rfl
      have eo : fX1_operatorAt 1 u2 = some (-8, u2) := by
        unfold fX1_operatorAt
        simp only [i10, i00, decide_true, decide_false, cnd_t, cnd_f, gd_nil, gd_t, b1_0, b1_1, sw_nil, sw_cons, obs, show ((1 : Int32) = 1) = True from eq_true rfl, s1', b01, if_true]
      refine go (-8) 7 v2 _ (Or.inr (Or.inr (Or.inl rfl))) (by decide +kernel) (Or.inr (Or.inr (Or.inr (Or.inr (Or.inr (Or.inr (Or.inr (Or.inl ⟨rfl, rfl, rfl⟩)))))))) a5 a6 Fr.rfl' (by rw [(s3 rfl).1]; decide +kernel) eo ?_
      unfold fX10_test_30 fX10_test_47
      simp only [obs, s2', b01, if_true, s4', i10, i00, decide_true, decide_false, cnd_t, cnd_f, gd_nil, gd_t, b1_0, b1_1, sw_nil, sw_cons, obs]
  · have a1' : R1 q 2 w u = some (0, u2) := a1
    have a2' : S3 w v = some ((), v2) := a2
    obtain ⟨v3, y1, y2, y3⟩ := mF_hasSign a4 60
    obtain ⟨v4, y4, y5, y6⟩ := mF_hasSign y2 61
    refine Or.inr ⟨f, u2, v4, k, ?_, ?_, a3, y5, ?_, by omega, a7, a8.trans ((y3.mono sv_L).trans (y6.mono sv_L))⟩
    · simp only [e3, i10, i00, decide_true, decide_false, cnd_t, cnd_f, gd_nil, gd_t, b1_0, b1_1, sw_nil, sw_cons, obs, e1, a1']
    · rw [a2']
      simp only [obs, mF_isSign a4, y1, i10, i00, decide_true, decide_false, cnd_t, cnd_f, gd_nil, gd_t, b1_0, b1_1, sw_nil, sw_cons, obs, y4]
    · rw [y6.1 _ _ (by unfold dSv; omega), y3.1 _ _ (by unfold dSv; omega)]
      exact a5
-- the operators of the other levels
theorem op_join {w : Int32} {S1 S2 S3 S4 S5 : Int32 → ab_S → Option (Unit × ab_S)} : opU n T 0 (fun v => S2 w v) (fun m v => fX10_whole_5 S1 S2 S3 S4 S5 m w v) := by
  intro m i u v h
  show (∃ c x, cB c ∧ ¬ c = 0 ∧ fX1_operatorAt 0 u = some (c, u) ∧ cE c x 0 ∧ u.1 1 7 ≠ 0 ∧ fX10_whole_5 S1 S2 S3 S4 S5 (m + 1) w v = (S2 w (sI v 0 7 (nI (i + 1)))).bind fun r => (fX10_emit x 0 r.2).bind fun s => fX10_whole_5 S1 S2 S3 S4 S5 m w s.2) ∨ (fX1_operatorAt 0 u = some (0, u) ∧ (fX10_whole_5 S1 S2 S3 S4 S5 (m + 1) w v = some ((), v) ∨ fX10_whole_5 S1 S2 S3 S4 S5 (m + 1) w v = some ((), sI v 0 7 (nI i))))
  have w17 := m_isWord h (k := 17) (by decide)
  have w18 := m_isWord h (k := 18) (by decide)
  have w17' : fX10_isWord 17 v = some (if isW 17 u then 1 else 0, v) := w17
  have w18' : fX10_isWord 18 v = some (if isW 18 u then 1 else 0, v) := w18
  rw [fX10_whole_5]
  by_cases e : isW 17 u
  · rw [if_pos e] at w17'
    refine Or.inl ⟨-6, 9, Or.inl rfl, by decide +kernel, ?_, Or.inr (Or.inr (Or.inr (Or.inr (Or.inr (Or.inl ⟨rfl, rfl, rfl⟩))))), by rw [e.1]; decide +kernel, ?_⟩
    · unfold fX1_operatorAt
      rw [c_isWord, if_pos e]
      simp only [i10, i00, decide_true, decide_false, cnd_t, cnd_f, gd_nil, gd_t, b1_0, b1_1, sw_nil, sw_cons, obs]
    · unfold fX10_whole_23 fX10_whole_57
      simp only [w17', i10, i00, decide_true, decide_false, cnd_t, cnd_f, gd_nil, gd_t, b1_0, b1_1, sw_nil, sw_cons, obs, h.at, show nI i + 1 = nI (i + 1) from nI_1 i]
  · rw [if_neg e] at w17'
    by_cases e2 : isW 18 u
    · rw [if_pos e2] at w18'
      refine Or.inl ⟨-7, 10, Or.inr (Or.inl rfl), by decide +kernel, ?_, Or.inr (Or.inr (Or.inr (Or.inr (Or.inr (Or.inr (Or.inl ⟨rfl, rfl, rfl⟩)))))), by rw [e2.1]; decide +kernel, ?_⟩
      · unfold fX1_operatorAt
        rw [c_isWord, if_neg e]
        simp only [i10, i00, decide_true, decide_false, cnd_t, cnd_f, gd_nil, gd_t, b1_0, b1_1, sw_nil, sw_cons, obs]
        rw [c_isWord, if_pos e2]
        simp only [i10, i00, decide_true, decide_false, cnd_t, cnd_f, gd_nil, gd_t, b1_0, b1_1, sw_nil, sw_cons, obs]
      · unfold fX10_whole_23 fX10_whole_57
        simp only [w17', w18', i10, i00, decide_true, decide_false, cnd_t, cnd_f, gd_nil, gd_t, b1_0, b1_1, sw_nil, sw_cons, obs, h.at, show nI i + 1 = nI (i + 1) from nI_1 i]
    · rw [if_neg e2] at w18'
      refine Or.inr ⟨?_, Or.inl ?_⟩
      · unfold fX1_operatorAt
        rw [c_isWord, if_neg e]
        simp only [i10, i00, decide_true, decide_false, cnd_t, cnd_f, gd_nil, gd_t, b1_0, b1_1, sw_nil, sw_cons, obs]
        rw [c_isWord, if_neg e2]
        simp only [i10, i00, decide_true, decide_false, cnd_t, cnd_f, gd_nil, gd_t, b1_0, b1_1, sw_nil, sw_cons, obs]
      · simp only [w17', w18', i10, i00, decide_true, decide_false, cnd_t, cnd_f, gd_nil, gd_t, b1_0, b1_1, sw_nil, sw_cons, obs]
theorem of_join {w : Int32} {S1 S2 S3 S4 S5 : Int32 → ab_S → Option (Unit × ab_S)} : opF (fun m v => fX10_whole_5 S1 S2 S3 S4 S5 m w v) := by
  intro m f v h
  refine ⟨v, ?_, h, Fr.rfl'⟩
  show fX10_whole_5 S1 S2 S3 S4 S5 (m + 1) w v = some ((), v)
  rw [fX10_whole_5, mF_isWord h]
  simp only [i10, i00, decide_true, decide_false, cnd_t, cnd_f, gd_nil, gd_t, b1_0, b1_1, sw_nil, sw_cons, obs]
  rw [mF_isWord h]
  simp only [i10, i00, decide_true, decide_false, cnd_t, cnd_f, gd_nil, gd_t, b1_0, b1_1, sw_nil, sw_cons, obs]
theorem op_sum {w : Int32} {S1 S2 S3 S4 S5 : Int32 → ab_S → Option (Unit × ab_S)} : opU n T 2 (fun v => S4 w v) (fun m v => fX10_sums_5 S1 S2 S3 S4 S5 m w v) := by
  intro m i u v h
  show (∃ c x, cB c ∧ ¬ c = 0 ∧ fX1_operatorAt 2 u = some (c, u) ∧ cE c x 0 ∧ u.1 1 7 ≠ 0 ∧ fX10_sums_5 S1 S2 S3 S4 S5 (m + 1) w v = (S4 w (sI v 0 7 (nI (i + 1)))).bind fun r => (fX10_emit x 0 r.2).bind fun s => fX10_sums_5 S1 S2 S3 S4 S5 m w s.2) ∨ (fX1_operatorAt 2 u = some (0, u) ∧ (fX10_sums_5 S1 S2 S3 S4 S5 (m + 1) w v = some ((), v) ∨ fX10_sums_5 S1 S2 S3 S4 S5 (m + 1) w v = some ((), sI v 0 7 (nI i))))
  obtain ⟨b, s1, s2, s3⟩ := p_isSign h (s := 43) (by decide)
  have s1' : fX6_isSign 43 u = some (b01 b, u) := s1
  have s2' : fX10_isSign 43 v = some (b01 b, v) := s2
  have k0 : ((2 : Int32) = 0) = False := eq_false (by decide +kernel)
  have k1 : ((2 : Int32) = 1) = False := eq_false (by decide +kernel)
  rw [fX10_sums_5]
  cases b
  · obtain ⟨b, t1, t2, t3⟩ := p_isSign h (s := 45) (by decide)
    have t1' : fX6_isSign 45 u = some (b01 b, u) := t1
    have t2' : fX10_isSign 45 v = some (b01 b, v) := t2
    cases b
    · refine Or.inr ⟨?_, Or.inl ?_⟩
      · unfold fX1_operatorAt
        simp only [k0, k1, i10, i00, decide_true, decide_false, cnd_t, cnd_f, gd_nil, gd_t, b1_0, b1_1, sw_nil, sw_cons, obs, s1', t1', b01, Bool.false_eq_true, if_false]
      · simp only [s2', t2', i10, i00, decide_true, decide_false, cnd_t, cnd_f, gd_nil, gd_t, b1_0, b1_1, sw_nil, sw_cons, obs, b01, Bool.false_eq_true, if_false]
    · refine Or.inl ⟨-11, 5, Or.inr (Or.inr (Or.inr (Or.inr (Or.inr (Or.inl rfl))))), by decide +kernel, ?_, Or.inr (Or.inr (Or.inr (Or.inr (Or.inr (Or.inr (Or.inr (Or.inr (Or.inr (Or.inr (Or.inl ⟨rfl, rfl, rfl⟩)))))))))), by rw [(t3 rfl).1]; decide +kernel, ?_⟩
      · unfold fX1_operatorAt
        simp only [k0, k1, i10, i00, decide_true, decide_false, cnd_t, cnd_f, gd_nil, gd_t, b1_0, b1_1, sw_nil, sw_cons, obs, s1', t1', b01, Bool.false_eq_true, if_false, if_true]
      · unfold fX10_sums_23 fX10_sums_55
        simp only [s2', t2', i10, i00, decide_true, decide_false, cnd_t, cnd_f, gd_nil, gd_t, b1_0, b1_1, sw_nil, sw_cons, obs, b01, Bool.false_eq_true, if_false, if_true, h.at, show nI i + 1 = nI (i + 1) from nI_1 i]
  · refine Or.inl ⟨-10, 4, Or.inr (Or.inr (Or.inr (Or.inr (Or.inl rfl)))), by decide +kernel, ?_, Or.inr (Or.inr (Or.inr (Or.inr (Or.inr (Or.inr (Or.inr (Or.inr (Or.inr (Or.inl ⟨rfl, rfl, rfl⟩))))))))), by rw [(s3 rfl).1]; decide +kernel, ?_⟩
    · unfold fX1_operatorAt
      simp only [k0, k1, i10, i00, decide_true, decide_false, cnd_t, cnd_f, gd_nil, gd_t, b1_0, b1_1, sw_nil, sw_cons, obs, s1', b01, if_true]
    · unfold fX10_sums_23 fX10_sums_55
      simp only [s2', i10, i00, decide_true, decide_false, cnd_t, cnd_f, gd_nil, gd_t, b1_0, b1_1, sw_nil, sw_cons, obs, b01, if_true, h.at, show nI i + 1 = nI (i + 1) from nI_1 i]
theorem of_sum {w : Int32} {S1 S2 S3 S4 S5 : Int32 → ab_S → Option (Unit × ab_S)} : opF (fun m v => fX10_sums_5 S1 S2 S3 S4 S5 m w v) := by
  intro m f v h
  refine ⟨v, ?_, h, Fr.rfl'⟩
  show fX10_sums_5 S1 S2 S3 S4 S5 (m + 1) w v = some ((), v)
  rw [fX10_sums_5, mF_isSign h]
  simp only [i10, i00, decide_true, decide_false, cnd_t, cnd_f, gd_nil, gd_t, b1_0, b1_1, sw_nil, sw_cons, obs]
  rw [mF_isSign h]
  simp only [i10, i00, decide_true, decide_false, cnd_t, cnd_f, gd_nil, gd_t, b1_0, b1_1, sw_nil, sw_cons, obs]
theorem op_prod {w : Int32} {S1 S2 S3 S4 S5 : Int32 → ab_S → Option (Unit × ab_S)} : opU n T 3 (fun v => S5 w v) (fun m v => fX10_products_5 S1 S2 S3 S4 S5 m w v) := by
  intro m i u v h
  show (∃ c x, cB c ∧ ¬ c = 0 ∧ fX1_operatorAt 3 u = some (c, u) ∧ cE c x 0 ∧ u.1 1 7 ≠ 0 ∧ fX10_products_5 S1 S2 S3 S4 S5 (m + 1) w v = (S5 w (sI v 0 7 (nI (i + 1)))).bind fun r => (fX10_emit x 0 r.2).bind fun s => fX10_products_5 S1 S2 S3 S4 S5 m w s.2) ∨ (fX1_operatorAt 3 u = some (0, u) ∧ (fX10_products_5 S1 S2 S3 S4 S5 (m + 1) w v = some ((), v) ∨ fX10_products_5 S1 S2 S3 S4 S5 (m + 1) w v = some ((), sI v 0 7 (nI i))))
  obtain ⟨b, s1, s2, s3, s4, s5⟩ := m_hasSign h (s := 42) (by decide)
  have s1' : fX6_isSign 42 u = some (b01 b, u) := s1
  have k0 : ((3 : Int32) = 0) = False := eq_false (by decide +kernel)
  have k1 : ((3 : Int32) = 1) = False := eq_false (by decide +kernel)
  have k2 : ((3 : Int32) = 2) = False := eq_false (by decide +kernel)
  rw [fX10_products_5]
  cases b
  · have s5' : fX10_hasSign 42 v = some (0, sI v 0 7 (nI i)) := s5 rfl
    refine Or.inr ⟨?_, Or.inr ?_⟩
    · unfold fX1_operatorAt
      simp only [k0, k1, k2, i10, i00, decide_true, decide_false, cnd_t, cnd_f, gd_nil, gd_t, b1_0, b1_1, sw_nil, sw_cons, obs, s1', b01, Bool.false_eq_true, if_false]
    · simp only [s5', i10, i00, decide_true, decide_false, cnd_t, cnd_f, gd_nil, gd_t, b1_0, b1_1, sw_nil, sw_cons, obs]
  · have s4' : fX10_hasSign 42 v = some (1, sI v 0 7 (nI (i + 1))) := s4 rfl
    refine Or.inl ⟨-12, 6, Or.inr (Or.inr (Or.inr (Or.inr (Or.inr (Or.inr rfl))))), by decide +kernel, ?_, Or.inr (Or.inr (Or.inr (Or.inr (Or.inr (Or.inr (Or.inr (Or.inr (Or.inr (Or.inr (Or.inr (Or.inl ⟨rfl, rfl, rfl⟩))))))))))), by rw [(s3 rfl).1]; decide +kernel, ?_⟩
    · unfold fX1_operatorAt
      simp only [k0, k1, k2, i10, i00, decide_true, decide_false, cnd_t, cnd_f, gd_nil, gd_t, b1_0, b1_1, sw_nil, sw_cons, obs, s1', b01, if_true]
    · simp only [s4', i10, i00, decide_true, decide_false, cnd_t, cnd_f, gd_nil, gd_t, b1_0, b1_1, sw_nil, sw_cons, obs]
theorem of_prod {w : Int32} {S1 S2 S3 S4 S5 : Int32 → ab_S → Option (Unit × ab_S)} : opF (fun m v => fX10_products_5 S1 S2 S3 S4 S5 m w v) := by
  intro m f v h
  obtain ⟨v', y1, y2, y3⟩ := mF_hasSign h 42
  refine ⟨v', ?_, y2, y3⟩
  show fX10_products_5 S1 S2 S3 S4 S5 (m + 1) w v = some ((), v')
  rw [fX10_products_5, y1]
  simp only [i10, i00, decide_true, decide_false, cnd_t, cnd_f, gd_nil, gd_t, b1_0, b1_1, sw_nil, sw_cons, obs]
end PU
