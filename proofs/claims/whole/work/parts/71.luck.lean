/-! luck, a told year judged -/
section PU
variable {Z : dZ} {s t : Nat → Int32} {u v : ab_S} {b o o1 : Nat}
theorem c_joyAll4 (hE : pE Z) (hO : pc_O Z o1 u) (hv : pv_S Z s) (hc : pc_S o s u) : ∀ (d p n : Nat), p + d = Z.1 → d < n → fX5_joyOfAll_4 o o1 n (nI (sumN (fun p => allS Z s p p) p)) (nI p) u = some (nI (sumN (fun p => allS Z s p p) Z.1), u) := by
  have hp6 := hE.1
  intro d
  induction d with
  | zero =>
    intro p n hp hn
    obtain ⟨n, rfl⟩ : ∃ j, n = j + 1 := ⟨n - 1, by omega⟩
    have e : p = Z.1 := by omega
    subst e
    rw [fX5_joyOfAll_4, hO.1]
    simp (disch := first | omega | decide) only [i10, i00, decide_true, decide_false, cnd_t, cnd_f, gd_nil, gd_t, b1_0, b1_1, sw_nil, sw_cons, obs, Nat.not_lt_zero, nI_addo, nI_oadd, nI_add, nI_mulo, nI_omul, nI_mul, nI_lto, nI_leo, nI_olt, nI_ole, nI_eqo, nI_oeq, nI_lt2, nI_le2, nI_eq2, nI_nm1, nI_m1n, nI_lt0, nI_lem1, nc_nI, nc_o, ix_nI, ix_o, Nat.lt_irrefl]
  | succ d ih =>
    intro p n hp hn
    obtain ⟨n, rfl⟩ : ∃ j, n = j + 1 := ⟨n - 1, by omega⟩
    have e : p < Z.1 := by omega
    rw [fX5_joyOfAll_4, hO.1]
    simp (disch := first | omega | decide) only [i10, i00, decide_true, decide_false, cnd_t, cnd_f, gd_nil, gd_t, b1_0, b1_1, sw_nil, sw_cons, obs, nI_lt2, e]
    rw [c_joy hE hO hv hc e]
    simp only [obs, nI_add, nI_addo]
    exact ih (p + 1) n (by omega) (by omega)
theorem c_joyAll (hE : pE Z) (hO : pc_O Z o1 u) (hv : pv_S Z s) (hc : pc_S o s u) : fX5_joyOfAll o o1 u = some (nI (sumN (fun p => allS Z s p p) Z.1), u) := c_joyAll4 hE hO hv hc Z.1 0 fu (Nat.zero_add _) (by have := hE.1; simp only [fu]; omega)
theorem m_joyAll4 (hE : pE Z) (hb : b ≤ 1050) {Q : Int32 → ab_S → Prop} : ∀ (d p n : Nat) (v : ab_S), pm_O Z v → pm_S b s v → p + d = Z.1 → d < n → (∀ v', Sc v v' → Q (nI (sumN (fun p => allS Z s p p) Z.1)) v') → Wp (fX10_joyOfAll_4 n (nI b) (nI (sumN (fun p => allS Z s p p) p)) (nI p) v) Q := by
  have hp6 := hE.1
  intro d
  induction d with
  | zero =>
    intro p n v hm hs hp hn q
    obtain ⟨n, rfl⟩ : ∃ j, n = j + 1 := ⟨n - 1, by omega⟩
    have e : p = Z.1 := by omega
    subst e
    rw [fX10_joyOfAll_4, m_persons hE hm]
    simp (disch := first | omega | decide) only [i10, i00, decide_true, decide_false, cnd_t, cnd_f, gd_nil, gd_t, b1_0, b1_1, sw_nil, sw_cons, obs, Nat.not_lt_zero, nI_addo, nI_oadd, nI_add, nI_mulo, nI_omul, nI_mul, nI_lto, nI_leo, nI_olt, nI_ole, nI_eqo, nI_oeq, nI_lt2, nI_le2, nI_eq2, nI_nm1, nI_m1n, nI_lt0, nI_lem1, nc_nI, nc_o, ix_nI, ix_o, Nat.lt_irrefl, wp_ret]
    exact q v Fr.rfl'
  | succ d ih =>
    intro p n v hm hs hp hn q
    obtain ⟨n, rfl⟩ : ∃ j, n = j + 1 := ⟨n - 1, by omega⟩
    have e : p < Z.1 := by omega
    rw [fX10_joyOfAll_4, m_persons hE hm]
    simp (disch := first | omega | decide) only [i10, i00, decide_true, decide_false, cnd_t, cnd_f, gd_nil, gd_t, b1_0, b1_1, sw_nil, sw_cons, obs, nI_lt2, e, wp_bind]
    refine m_joy hE hm hs hb e fun v1 s1 => ?_
    rw [nI_add, nI_addo]
    exact ih (p + 1) n v1 (hm.sc s1) (hs.sc s1) (by omega) (by omega) fun v' s' => q v' (s1.trans s')
theorem m_joyAll (hE : pE Z) (hm : pm_O Z v) (hs : pm_S b s v) (hb : b ≤ 1050) {Q : Int32 → ab_S → Prop} (q : ∀ v', Sc v v' → Q (nI (sumN (fun p => allS Z s p p) Z.1)) v') : Wp (fX10_joyOfAll (nI b) v) Q := m_joyAll4 hE hb Z.1 0 fu v hm hs (Nat.zero_add _) (by have := hE.1; simp only [fu]; omega) q
-- ===== luck's deeds =====
theorem pT.mk (h : pT Z b s t u v) {t' : Nat → Int32} {u' v' : ab_S} (hb : 987 ≤ b) (f1 : Fc 42 u u') (f2 : Fm b v v') (s1 : pc_S 42 t' u') (s2 : pm_S b t' v') (hv : pv_S Z t') : pT Z b s t' u' v' := ⟨h.1.fr (Fc.cu f1) (Fm.mu f2 hb), s1, s2, hv⟩
theorem draw_t (h : pT Z b s t u v) (hb : 987 ≤ b) (hb2 : b ≤ 1050) {m : Nat} (hm : 0 < m) (hm2 : m < 2147483648) : ∃ x t' u' v', x < m ∧ fX5_draw 42 (nI m) u = some (nI x, u') ∧ fX10_draw (nI b) (nI m) v = some (nI x, v') ∧ pT Z b s t' u' v' ∧ Fr dCu u u' ∧ Fr dMu v v' ∧ u'.2.2 = u.2.2 := by
  obtain ⟨g, hg, e1⟩ := h.2.2.2.2.2.2.2.2
  obtain ⟨u', q1, f1, s1⟩ := c_draw h.2.1 hg e1 hm hm2
  obtain ⟨v', q2, f2, s2⟩ := m_draw h.2.2.1 hb2 hg e1 hm hm2
  exact ⟨_, _, u', v', Nat.mod_lt _ hm, q1, q2, h.mk hb f1 f2 s1 s2 (h.2.2.2.drawn h.1.1 ⟨_, dG_lt g, rfl⟩), Fc.cu f1, Fm.mu f2 hb, f1.2.2⟩
theorem luck29 (h : pT Z 1034 s t u v) : ∃ t' u' v', fX5_tryLuck_29 42 (u.2.2 0) u = some ((), u') ∧ fX10_drawsDeed_31 v = some ((), v') ∧ pT Z 1034 s t' u' v' ∧ Fr dCu u u' ∧ Fr dMu v v' := by
  have hg := h.1.1.2.1
  unfold fX5_tryLuck_29 fX10_drawsDeed_31
  rw [h.1.2.1.2.1, m_goods h.1.1 h.1.2.2.2.1]
  simp (disch := first | omega | decide) only [i10, i00, decide_true, decide_false, cnd_t, cnd_f, gd_nil, gd_t, b1_0, b1_1, sw_nil, sw_cons, obs, nI_leo]
  by_cases e : Z.2.1 ≤ 0
  · simp only [e, i10, i00, decide_true, decide_false, cnd_t, cnd_f, gd_nil, gd_t, b1_0, b1_1, sw_nil, sw_cons, obs]
    exact ⟨t, u, v, rfl, rfl, h, Fr.rfl', Fr.rfl'⟩
  · simp only [e, i10, i00, decide_true, decide_false, cnd_t, cnd_f, gd_nil, gd_t, b1_0, b1_1, sw_nil, sw_cons, obs]
    rw [m_goods h.1.1 h.1.2.2.2.1]
    simp only [i10, i00, decide_true, decide_false, cnd_t, cnd_f, gd_nil, gd_t, b1_0, b1_1, sw_nil, sw_cons, obs]
    obtain ⟨x, t1, u1, v1, hx, q1, q2, h1, f1, g1, e1⟩ := draw_t (b := 1034) h (by decide) (by decide) (m := Z.2.1) (by omega) (by omega)
    have q2' : fX10_draw 1034 (nI Z.2.1) v = some (nI x, v1) := q2
    rw [q1, q2']
    simp only [i10, i00, decide_true, decide_false, cnd_t, cnd_f, gd_nil, gd_t, b1_0, b1_1, sw_nil, sw_cons, obs]
    have eo : u1.1 (u.2.2 0) 1 = nI Z.2.1 := by rw [← e1]; exact h1.1.2.1.2.1
    rw [eo, m_goods h1.1.1 h1.1.2.2.2.1]
    simp only [i10, i00, decide_true, decide_false, cnd_t, cnd_f, gd_nil, gd_t, b1_0, b1_1, sw_nil, sw_cons, obs]
    obtain ⟨y, t2, u2, v2, hy, q3, q4, h2, f2, g2, e2⟩ := draw_t (b := 1034) h1 (by decide) (by decide) (m := Z.2.1) (by omega) (by omega)
    have q4' : fX10_draw 1034 (nI Z.2.1) v1 = some (nI y, v2) := q4
    rw [q3, q4']
    simp only [i10, i00, decide_true, decide_false, cnd_t, cnd_f, gd_nil, gd_t, b1_0, b1_1, sw_nil, sw_cons, obs]
    rw [show u.2.2 0 = u2.2.2 0 by rw [e2, e1]]
    rw [c_canTrade h2.1.1 h2.1.2.1 h2.2.2.2 h2.2.1 hx hy]
    simp (disch := first | omega | decide) only [i10, i00, decide_true, decide_false, cnd_t, cnd_f, gd_nil, gd_t, b1_0, b1_1, sw_nil, sw_cons, obs, b01_0, nI_eq2]
    obtain ⟨u3, q5, f3, s3⟩ := c_trade h2.2.1 (show x < 8 by omega) (show y < 8 by omega)
    by_cases exy : x = y
    · subst exy
      have hf : tradeS Z t2 x x = false := by
        unfold tradeS
        simp only [decide_true, Bool.not_true, Bool.and_false, Bool.false_and]
      simp only [hf, i10, i00, decide_true, decide_false, cnd_t, cnd_f, gd_nil, gd_t, b1_0, b1_1, sw_nil, sw_cons, obs]
      exact ⟨t2, u2, v2, rfl, rfl, h2, f1.trans f2, g1.trans g2⟩
    · simp only [exy, i10, i00, decide_true, decide_false, cnd_t, cnd_f, gd_nil, gd_t, b1_0, b1_1, sw_nil, sw_cons, obs]
      have hw : Wp (fX10_maySwap 1034 (nI x) (nI y) v2) (fun r w => r = b01 (tradeS Z t2 x y) ∧ Sc v2 w) := m_maySwap (b := 1034) h2.1.1 h2.1.2.2.2.1 h2.2.2.2 h2.2.2.1 (by decide) hx hy fun w s' => ⟨rfl, s'⟩
      obtain ⟨r, v3, q6, q7, s4⟩ := hw
      rw [q6]
      subst q7
      simp only [i10, i00, decide_true, decide_false, cnd_t, cnd_f, gd_nil, gd_t, b1_0, b1_1, sw_nil, sw_cons, obs, b01_0]
      have h3 : pT Z 1034 s t2 u2 v3 := h2.mk (by decide) Fr.rfl' s4.fm h2.2.1 (h2.2.2.1.sc s4) h2.2.2.2
      have g3 : Fr dMu v2 v3 := Sc.mu s4
      cases hh : tradeS Z t2 x y
      · simp only [i10, i00, decide_true, decide_false, cnd_t, cnd_f, gd_nil, gd_t, b1_0, b1_1, sw_nil, sw_cons, obs]
        exact ⟨t2, u2, v3, rfl, rfl, h3, f1.trans f2, g1.trans (g2.trans g3)⟩
      · obtain ⟨v4, q8, f4, s5⟩ := m_swaps h3.2.2.1 (show 1034 ≤ 1050 by decide) (show x < 8 by omega) (show y < 8 by omega)
        have q8' : fX10_swaps 1034 (nI x) (nI y) v3 = some ((), v4) := q8
        simp only [i10, i00, decide_true, decide_false, cnd_t, cnd_f, gd_nil, gd_t, b1_0, b1_1, sw_nil, sw_cons, obs, Bool.true_eq_false, q5, q8']
        exact ⟨_, u3, v4, rfl, rfl, h3.mk (by decide) f3 f4 s3 s5 (h3.2.2.2.trade h3.1.1 hx hy), f1.trans (f2.trans (Fc.cu f3)), g1.trans (g2.trans (g3.trans (Fm.mu f4 (by decide))))⟩
theorem luck_t (h : pT Z 1034 s t u v) (hp : ¬ Z.1 ≤ 0) : ∃ t' u' v', fX5_tryLuck 42 (u.2.2 0) u = some ((), u') ∧ fX10_drawsDeed v = some ((), v') ∧ pT Z 1034 s t' u' v' ∧ Fr dCu u u' ∧ Fr dMu v v' := by
  have hp6 := h.1.1.1
  unfold fX5_tryLuck fX10_drawsDeed
  rw [h.1.2.1.1, m_persons h.1.1 h.1.2.2.2.1]
  simp (disch := first | omega | decide) only [i10, i00, decide_true, decide_false, cnd_t, cnd_f, gd_nil, gd_t, b1_0, b1_1, sw_nil, sw_cons, obs, nI_leo, hp]
  obtain ⟨x, t1, u1, v1, hx, q1, q2, h1, f1, g1, e1⟩ := draw_t (b := 1034) h (by decide) (by decide) (m := Z.1) (by omega) (by omega)
  have q2' : fX10_draw 1034 (nI Z.1) v = some (nI x, v1) := q2
  rw [q1, q2']
  simp only [i10, i00, decide_true, decide_false, cnd_t, cnd_f, gd_nil, gd_t, b1_0, b1_1, sw_nil, sw_cons, obs]
  have m1 : fX10_mayBuy 1034 (nI x) v1 = some (b01 (buyS t1 x), v1) := m_mayBuy (b := 1034) h1.2.2.1 (by decide) (by omega)
  rw [c_canBuy h1.2.1 (by omega), m1]
  simp only [i10, i00, decide_true, decide_false, cnd_t, cnd_f, gd_nil, gd_t, b1_0, b1_1, sw_nil, sw_cons, obs, b01_0]
  rw [← e1]
  cases hh : buyS t1 x
  · simp only [i10, i00, decide_true, decide_false, cnd_t, cnd_f, gd_nil, gd_t, b1_0, b1_1, sw_nil, sw_cons, obs]
    obtain ⟨t2, u2, v2, q3, q4, h2, f2, g2⟩ := luck29 h1
    exact ⟨t2, u2, v2, q3, q4, h2, f1.trans f2, g1.trans g2⟩
  · obtain ⟨u2, q3, f2, s2⟩ := c_buy h1.2.1 (show x < 6 by omega)
    obtain ⟨v2, q4, f3, s3⟩ := m_buy h1.2.2.1 (show 1034 ≤ 1050 by decide) (show x < 6 by omega)
    have q4' : fX10_buys 1034 (nI x) v1 = some ((), v2) := q4
    have h2 : pT Z 1034 s (buyT t1 x) u2 v2 := h1.mk (by decide) f2 f3 s2 s3 (h1.2.2.2.buy h1.1.1 hx hh)
    obtain ⟨t3, u3, v3, q5, q6, h3, f4, g4⟩ := luck29 h2
    have e2 : u2.2.2 = u1.2.2 := f2.2.2
    rw [e2] at q5
    simp only [i10, i00, decide_true, decide_false, cnd_t, cnd_f, gd_nil, gd_t, b1_0, b1_1, sw_nil, sw_cons, obs, Bool.true_eq_false, q3, q4']
    exact ⟨t3, u3, v3, q5, q6, h3, f1.trans ((Fc.cu f2).trans f4), g1.trans ((Fm.mu f3 (by decide)).trans g4)⟩
theorem luckNo (h : pT Z 1034 s t u v) (hp : Z.1 ≤ 0) : fX5_tryLuck 42 (u.2.2 0) u = some ((), u) := by
  have hg : Z.2.1 ≤ 0 := by
    by_cases e : 0 < Z.2.1
    · obtain ⟨p, h1, -⟩ := h.1.1.2.2.2.2.1 0 e
      omega
    · omega
  unfold fX5_tryLuck fX5_tryLuck_29
  rw [h.1.2.1.1, h.1.2.1.2.1]
  simp (disch := first | omega | decide) only [i10, i00, decide_true, decide_false, cnd_t, cnd_f, gd_nil, gd_t, b1_0, b1_1, sw_nil, sw_cons, obs, nI_leo, hp, hg]
theorem q_luck62 {q c : Nat} (hq : q ≤ 99) (hc : c ≤ 2) : ∀ (d i n m : Nat) (w : Int32) (t : Nat → Int32) (u v : ab_S), pT Z 1034 s t u v → i + d = q → d < n → d < m → qT (fX9_luck_59 n (nI q) (nI c) w (nI i) u) (fX10_luck_62 m (nI q) (nI c) w (nI i) v) u v := by
  intro d
  induction d with
  | zero =>
    intro i n m w t u v h hi hn hm
    obtain ⟨n, rfl⟩ : ∃ j, n = j + 1 := ⟨n - 1, by omega⟩
    obtain ⟨m, rfl⟩ : ∃ j, m = j + 1 := ⟨m - 1, by omega⟩
    have e : i = q := by omega
    subst e
    have m1 : fX10_rightsOf 1034 v = some (nI (rS Z t), v) := m_rights (b := 1034) h.1.1 h.1.2.2.2.1 h.2.2.1 (by decide)
    have hw : Wp (fX10_joyOfAll 1034 v) (fun r w => r = nI (sumN (fun p => allS Z t p p) Z.1) ∧ Sc v w) := m_joyAll (b := 1034) h.1.1 h.1.2.2.2.1 h.2.2.1 (by decide) fun w s' => ⟨rfl, s'⟩
    obtain ⟨r, v1, q1, q2, s1⟩ := hw
    subst q2
    rw [fX9_luck_59, fX10_luck_62, c_rights h.1.1 h.1.2.1 h.2.1, c_joyAll h.1.1 h.1.2.1 h.2.2.2 h.2.1, m1, q1]
    simp (disch := first | omega | decide) only [i10, i00, decide_true, decide_false, cnd_t, cnd_f, gd_nil, gd_t, b1_0, b1_1, sw_nil, sw_cons, obs, Nat.not_lt_zero, nI_addo, nI_oadd, nI_add, nI_mulo, nI_omul, nI_mul, nI_lto, nI_leo, nI_olt, nI_ole, nI_eqo, nI_oeq, nI_lt2, nI_le2, nI_eq2, nI_nm1, nI_m1n, nI_lt0, nI_lem1, nc_nI, nc_o, ix_nI, ix_o, Nat.lt_irrefl]
    have hc3 : c = 0 ∨ c = 1 ∨ c = 2 := by omega
    rcases hc3 with rfl | rfl | rfl
    · simp only [i10, i00, decide_true, decide_false, cnd_t, cnd_f, gd_nil, gd_t, b1_0, b1_1, sw_nil, sw_cons, obs]
      exact qT.ret
    · simp only [Nat.one_ne_zero, i10, i00, decide_true, decide_false, cnd_t, cnd_f, gd_nil, gd_t, b1_0, b1_1, sw_nil, sw_cons, obs]
      exact qT.ret
    · have n20 : (2 = 0) = False := eq_false (by decide)
      have n21 : (2 = 1) = False := eq_false (by decide)
      simp only [n20, n21, i10, i00, decide_true, decide_false, cnd_t, cnd_f, gd_nil, gd_t, b1_0, b1_1, sw_nil, sw_cons, obs]
      exact ⟨_, u, v1, rfl, rfl, Fr.rfl', Sc.mu s1⟩
  | succ d ih =>
    intro i n m w t u v h hi hn hm
    obtain ⟨n, rfl⟩ : ∃ j, n = j + 1 := ⟨n - 1, by omega⟩
    obtain ⟨m, rfl⟩ : ∃ j, m = j + 1 := ⟨m - 1, by omega⟩
    have e : i < q := by omega
    have hp6 := h.1.1.1
    have key : ∀ (t1 : Nat → Int32) (u1 v1 : ab_S), pT Z 1034 s t1 u1 v1 → qT ((fX5_passQuarter 42 (u1.2.2 0) u1).bind fun q4 => bif decide (q4.1 = -1) then fX9_luck_59 n (nI q) (nI c) w (nI i + 1) q4.2 else fX9_luck_59 n (nI q) (nI c) (w + 1) (nI i + 1) q4.2) (fX10_luck_79 (fX10_luck_62 m) (nI q) (nI c) w (nI i) v1) u1 v1 := by
      intro t1 u1 v1 h1
      obtain ⟨r, t', u', v', q1, q2, h', hr, f1, f2⟩ := pass1034 h1
      unfold fX10_luck_79
      rw [q1, q2]
      simp only [i10, i00, decide_true, decide_false, cnd_t, cnd_f, gd_nil, gd_t, b1_0, b1_1, sw_nil, sw_cons, obs, nI_addo]
      rcases hr with rfl | ⟨p, hp, rfl⟩
      · simp only [m1lt0, i10, i00, decide_true, decide_false, cnd_t, cnd_f, gd_nil, gd_t, b1_0, b1_1, sw_nil, sw_cons, obs, Int32.add_zero]
        exact (ih (i + 1) n m _ t' u' v' h' (by omega) (by omega) (by omega)).tr f1 f2
      · simp (disch := first | omega | decide) only [nI_lt0, nI_nm1, i10, i00, decide_true, decide_false, cnd_t, cnd_f, gd_nil, gd_t, b1_0, b1_1, sw_nil, sw_cons, obs]
        exact (ih (i + 1) n m _ t' u' v' h' (by omega) (by omega) (by omega)).tr f1 f2
    rw [fX9_luck_59, fX10_luck_62, m_persons h.1.1 h.1.2.2.2.1]
    simp (disch := first | omega | decide) only [i10, i00, decide_true, decide_false, cnd_t, cnd_f, gd_nil, gd_t, b1_0, b1_1, sw_nil, sw_cons, obs, nI_lt2, e, nI_leo]
    by_cases e0 : Z.1 ≤ 0
    · rw [luckNo h e0]
      simp only [e0, i10, i00, decide_true, decide_false, cnd_t, cnd_f, gd_nil, gd_t, b1_0, b1_1, sw_nil, sw_cons, obs]
      exact key t u v h
    · obtain ⟨t1, u1, v1, q1, q2, h1, f1, f2⟩ := luck_t h e0
      rw [q1, q2]
      simp only [e0, i10, i00, decide_true, decide_false, cnd_t, cnd_f, gd_nil, gd_t, b1_0, b1_1, sw_nil, sw_cons, obs]
      exact (key t1 u1 v1 h1).tr f1 f2
theorem q_luck (hN : pN Z s u v) (x y z : Int32) : qT (fX9_luck x y z u) (fX10_luck x y z v) u v := by
  have hN0 := hN.th (x := 0)
  unfold fX9_luck fX10_luck
  simp only [fX10_in, obs, show (9999 : Int32) = nI 9999 from rfl, show (99 : Int32) = nI 99 from rfl]
  rcases rng0 x 9999 (by decide) with ⟨g, hg, rfl⟩ | hx
  · rw [in_t hg (by decide)]
    simp (disch := first | omega | decide) only [i10, i00, decide_true, decide_false, cnd_t, cnd_f, gd_nil, gd_t, b1_0, b1_1, sw_nil, sw_cons, obs, nI_lt0, nI_le2, hg, b01_t]
    rcases rng1 y 99 (by decide) with ⟨q, k1, k2, rfl⟩ | hy
    · have e1 : ¬ q < 1 := by omega
      rw [in_p k1 k2 (by decide)]
      simp (disch := first | omega | decide) only [i10, i00, decide_true, decide_false, cnd_t, cnd_f, gd_nil, gd_t, b1_0, b1_1, sw_nil, sw_cons, obs, nI_lto, nI_le2, e1, k2, b01_t, show (2 : Int32) = nI 2 from rfl]
      rcases rng0 z 2 (by decide) with ⟨c, hc, rfl⟩ | hz
      · rw [in_t hc (by decide)]
        simp (disch := first | omega | decide) only [i10, i00, decide_true, decide_false, cnd_t, cnd_f, gd_nil, gd_t, b1_0, b1_1, sw_nil, sw_cons, obs, nI_lt0, nI_le2, hc, b01_t]
        obtain ⟨u', v', q1, q2, h, f1, f2⟩ := tries_t (b := 1034) (Or.inr rfl) hN0
        have q2' : fX10_copies 0 1034 22 (sI v 0 0 0) = some ((), v') := q2
        rw [q1, q2']
        simp (disch := first | omega | decide) only [i10, i00, decide_true, decide_false, cnd_t, cnd_f, gd_nil, gd_t, b1_0, b1_1, sw_nil, sw_cons, obs, ix_o, nc_o]
        have f3 : Fc 42 u' (sJ u' 42 3 (nI g).toInt64) := Fr.sJ ⟨by omega, by omega⟩
        have f4 : Fm 1034 v' (sI v' 16 1035 (nI g)) := Fm.put (k := 1) rfl (by decide)
        have h2 : pT Z 1034 s (su s 1 (nI g)) (sJ u' 42 3 (nI g).toInt64) (sI v' 16 1035 (nI g)) := h.mk (by decide) f3 f4 (h.2.1.drawn rfl) (h.2.2.1.put rfl) (h.2.2.2.drawn h.1.1 ⟨g, by omega, rfl⟩)
        exact (q_luck62 k2 hc q 0 fu fu _ _ _ _ h2 (Nat.zero_add _) (by simp only [fu]; omega) (by simp only [fu]; omega)).tr (f1.trans (Fc.cu f3)) (th_mu.trans (f2.trans (Fm.mu f4 (by decide))))
      · rcases hz with hz | ⟨hz1, hz2⟩
        · simp only [hz, i10, i00, decide_true, decide_false, cnd_t, cnd_f, gd_nil, gd_t, b1_0, b1_1, sw_nil, sw_cons, obs, Bool.not_true, Bool.false_and, b01_f]
          exact qT.ret.tr Fr.rfl' th_mu
        · simp only [hz1, hz2, i10, i00, decide_true, decide_false, cnd_t, cnd_f, gd_nil, gd_t, b1_0, b1_1, sw_nil, sw_cons, obs, Bool.not_false, Bool.and_false, b01_f]
          exact qT.ret.tr Fr.rfl' th_mu
    · rcases hy with hy | ⟨hy1, hy2⟩
      · simp only [hy, i10, i00, decide_true, decide_false, cnd_t, cnd_f, gd_nil, gd_t, b1_0, b1_1, sw_nil, sw_cons, obs, Bool.not_true, Bool.false_and, b01_f]
        exact qT.ret.tr Fr.rfl' th_mu
      · simp only [hy1, hy2, i10, i00, decide_true, decide_false, cnd_t, cnd_f, gd_nil, gd_t, b1_0, b1_1, sw_nil, sw_cons, obs, Bool.not_false, Bool.and_false, b01_f]
        exact qT.ret.tr Fr.rfl' th_mu
  · rcases hx with hx | ⟨hx1, hx2⟩
    · simp only [hx, i10, i00, decide_true, decide_false, cnd_t, cnd_f, gd_nil, gd_t, b1_0, b1_1, sw_nil, sw_cons, obs, Bool.not_true, Bool.false_and, b01_f]
      exact qT.ret.tr Fr.rfl' th_mu
    · simp only [hx1, hx2, i10, i00, decide_true, decide_false, cnd_t, cnd_f, gd_nil, gd_t, b1_0, b1_1, sw_nil, sw_cons, obs, Bool.not_false, Bool.and_false, b01_f]
      exact qT.ret.tr Fr.rfl' th_mu
end PU
