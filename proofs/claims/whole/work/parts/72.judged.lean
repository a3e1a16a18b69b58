/-! a told year judged -/
def pYl (Z : dZ) (y : Nat) (u v : ab_S) (i : Nat) : Prop :=
  (u.1 (y + 1) i = 0 ∧ v.1 13 (1 + 3 * i) = 0) ∨
  ((u.1 (y + 1) i = 1 ∧ v.1 13 (1 + 3 * i) = 1) ∧ ∃ p, p < Z.1 ∧ u.1 (y + 2) i = nI p ∧ v.1 13 (2 + 3 * i) = nI p) ∨
  ((u.1 (y + 1) i = 2 ∧ v.1 13 (1 + 3 * i) = 2) ∧ ∃ k j, k < Z.2.1 ∧ j < Z.2.1 ∧ u.1 (y + 2) i = nI k ∧ v.1 13 (2 + 3 * i) = nI k ∧ u.1 (y + 3) i = nI j ∧ v.1 13 (3 + 3 * i) = nI j) ∨
  ((u.1 (y + 1) i = 3 ∧ v.1 13 (1 + 3 * i) = 3) ∧ ∃ k, k < Z.2.1 ∧ u.1 (y + 2) i = nI k ∧ v.1 13 (2 + 3 * i) = nI k)
def pY (Z : dZ) (u v : ab_S) : Prop := (u.2.2 2 = 30 ∨ u.2.2 2 = 34) ∧ ∃ n, n ≤ 40 ∧ u.1 (u.2.2 2) 0 = nI n ∧ v.1 13 0 = nI n ∧ ∀ i, i < n → pYl Z (u.2.2 2) u v i
theorem pY.fr {Z : dZ} {u v u' v' : ab_S} {D E : Nat → Nat → Prop} (h : pY Z u v) (f : Fr D u u') (g : Fr E v v') (hd : ∀ a k, 30 ≤ a → a < 38 → ¬ D a k) (he : ∀ k, k < 121 → ¬ E 13 k) : pY Z u' v' := by
  obtain ⟨h1, n, h2, h3, h4, h5⟩ := h
  have e : u'.2.2 2 = u.2.2 2 := congrFun f.2.2 2
  rw [pY, e]
  refine ⟨h1, n, h2, by rw [f.1 _ _ (hd _ _ (by omega) (by omega))]; exact h3, by rw [g.1 _ _ (he _ (by decide))]; exact h4, fun i hi => ?_⟩
  have h6 := h5 i hi
  unfold pYl at h6 ⊢
  rw [f.1 _ _ (hd (u.2.2 2 + 1) i (by omega) (by omega)), f.1 _ _ (hd (u.2.2 2 + 2) i (by omega) (by omega)), f.1 _ _ (hd (u.2.2 2 + 3) i (by omega) (by omega)), g.1 _ _ (he (1 + 3 * i) (by omega)), g.1 _ _ (he (2 + 3 * i) (by omega)), g.1 _ _ (he (3 + 3 * i) (by omega))]
  exact h6
theorem pY.cu {Z : dZ} {u v u' v' : ab_S} (h : pY Z u v) (f : Fr dCu u u') (g : Fr dMu v v') : pY Z u' v' := h.fr f g (by intro a k h1 h2 q; rcases q with q | q <;> omega) (by intro k h1 q; rcases q with q | q | q | q | q <;> omega)
theorem i1_2 : ((1 : Int32) = 2) = False := eq_false (by decide +kernel)
theorem i1_3 : ((1 : Int32) = 3) = False := eq_false (by decide +kernel)
theorem i2_0 : ((2 : Int32) = 0) = False := eq_false (by decide +kernel)
theorem i2_1 : ((2 : Int32) = 1) = False := eq_false (by decide +kernel)
theorem i2_3 : ((2 : Int32) = 3) = False := eq_false (by decide +kernel)
theorem i3_0 : ((3 : Int32) = 0) = False := eq_false (by decide +kernel)
theorem i3_1 : ((3 : Int32) = 1) = False := eq_false (by decide +kernel)
theorem i3_2 : ((3 : Int32) = 2) = False := eq_false (by decide +kernel)
theorem i0_1 : ((0 : Int32) = 1) = False := eq_false (by decide +kernel)
theorem i0_2 : ((0 : Int32) = 2) = False := eq_false (by decide +kernel)
theorem i0_3 : ((0 : Int32) = 3) = False := eq_false (by decide +kernel)
section PU
variable {Z : dZ} {s t : Nat → Int32} {u v : ab_S}
def nOk (x : Int32) : Prop := (x < 0) = (x = -1)
theorem nOk_n {k : Nat} (h : k < 2147483648) : nOk (nI k) := by
  unfold nOk
  simp (disch := first | omega | decide) only [nI_lt0, nI_nm1]
theorem nOk_m : nOk (-1) := by
  unfold nOk
  simp only [m1lt0]
theorem place_t (h : pT Z 987 s t u v) {k : Nat} (hk : k < Z.2.1) : ∃ u', fX5_place 42 (nI k) (-1) u = some ((), u') ∧ pT Z 987 s (su t (2 + k) (-1)) u' (sI v 16 (989 + k) (-1)) ∧ Fr dCu u u' ∧ Fr dMu v (sI v 16 (989 + k) (-1)) := by
  have hg := h.1.1.2.1
  obtain ⟨u', q, f, s1⟩ := c_place h.2.1 (show k < 8 by omega) (x := -1)
  have g : Fm 987 v (sI v 16 (989 + k) (-1)) := Fm.put (k := 2 + k) (by omega) (by omega)
  exact ⟨u', q, h.mk (by decide) f g s1 (h.2.2.1.put (by omega)) (h.2.2.2.hold h.1.1 hk (Or.inl rfl)), Fc.cu f, Fm.mu g (by decide)⟩
-- after a line: where anything is where it belongs
theorem j_end {w c hm : Int32} {i : Nat} {K L : Int32 → Int32 → Int32 → Int32 → ab_S → Option (Int32 × ab_S)} (hi : i < 100) (hh : nOk hm) (h : pT Z 987 s t u v) (hK : ∀ h', nOk h' → qT (K w c h' (nI (i + 1)) u) (L w c h' (nI (i + 1)) v) u v) : qT (fX9_judged_70 K w c hm (nI i) u) (fX10_judged_248 L w c hm (nI i) v) u v := by
  have hlt := rS_lt h.1.1 (s := t)
  unfold fX9_judged_70 fX10_judged_248
  rw [c_rights h.1.1 h.1.2.1 h.2.1, m_rights987 h]
  simp (disch := first | omega | decide) only [i10, i00, decide_true, decide_false, cnd_t, cnd_f, gd_nil, gd_t, b1_0, b1_1, sw_nil, sw_cons, obs, nI_eqo, nI_addo]
  by_cases e : hm = -1
  · have e' : hm < 0 := cast hh.symm e
    simp only [e', i10, i00, decide_true, decide_false, cnd_t, cnd_f, gd_nil, gd_t, b1_0, b1_1, sw_nil, sw_cons, obs]
    simp only [e, i10, i00, decide_true, decide_false, cnd_t, cnd_f, gd_nil, gd_t, b1_0, b1_1, sw_nil, sw_cons, obs]
    by_cases e2 : rS Z t = 0
    · simp only [e2, i10, i00, decide_true, decide_false, cnd_t, cnd_f, gd_nil, gd_t, b1_0, b1_1, sw_nil, sw_cons, obs]
      rw [← e]
      exact hK _ hh
    · simp only [e2, i10, i00, decide_true, decide_false, cnd_t, cnd_f, gd_nil, gd_t, b1_0, b1_1, sw_nil, sw_cons, obs]
      exact hK _ (nOk_n (by omega))
  · have e' : ¬ hm < 0 := fun z => e (cast hh z)
    simp only [e, e', i10, i00, decide_true, decide_false, cnd_t, cnd_f, gd_nil, gd_t, b1_0, b1_1, sw_nil, sw_cons, obs]
    by_cases e2 : rS Z t = 0
    · simp only [e2, i10, i00, decide_true, decide_false, cnd_t, cnd_f, gd_nil, gd_t, b1_0, b1_1, sw_nil, sw_cons, obs]
      exact hK _ hh
    · simp only [e2, i10, i00, decide_true, decide_false, cnd_t, cnd_f, gd_nil, gd_t, b1_0, b1_1, sw_nil, sw_cons, obs]
      exact hK _ hh
theorem q_judged31 {c0 : Nat} (hc0 : c0 ≤ 2) {y nn : Nat} (hy : y = 30 ∨ y = 34) (hnn : nn ≤ 40) : ∀ (d i n m : Nat) (c hm : Int32) (t : Nat → Int32) (u v : ab_S), u.2.2 2 = y → u.1 y 0 = nI nn → v.1 13 0 = nI nn → (∀ i, i < nn → pYl Z y u v i) → nOk c → nOk hm → pT Z 987 s t u v → i + d = nn → d < n → d < m → qT (fX9_judged_30 n (nI c0) c hm (nI i) u) (fX10_judged_31 m (nI c0) c hm (nI i) v) u v := by
  intro d
  induction d with
  | zero =>
    intro i n m c hm t u v ey e1 e2 hl oc oh h hi hn hmf
    obtain ⟨n, rfl⟩ : ∃ j, n = j + 1 := ⟨n - 1, by omega⟩
    obtain ⟨m, rfl⟩ : ∃ j, m = j + 1 := ⟨m - 1, by omega⟩
    have e : i = nn := by omega
    subst e
    have hlt := rS_lt h.1.1 (s := t)
    rw [fX9_judged_30, fX10_judged_31, ey, e1, c_rights h.1.1 h.1.2.1 h.2.1, m_rights987 h]
    simp (disch := first | omega | decide) only [i10, i00, decide_true, decide_false, cnd_t, cnd_f, gd_nil, gd_t, b1_0, b1_1, sw_nil, sw_cons, obs, Nat.not_lt_zero, nI_addo, nI_oadd, nI_add, nI_mulo, nI_omul, nI_mul, nI_lto, nI_leo, nI_olt, nI_ole, nI_eqo, nI_oeq, nI_lt2, nI_le2, nI_eq2, nI_nm1, nI_m1n, nI_lt0, nI_lem1, nc_nI, nc_o, ix_nI, ix_o, Nat.lt_irrefl, e2, pc_c hlt, pc_m hlt]
    have hc3 : c0 = 0 ∨ c0 = 1 ∨ c0 = 2 := by omega
    rcases hc3 with rfl | rfl | rfl
    · simp only [i10, i00, decide_true, decide_false, cnd_t, cnd_f, gd_nil, gd_t, b1_0, b1_1, sw_nil, sw_cons, obs]
      exact qT.ret
    · simp only [Nat.one_ne_zero, i10, i00, decide_true, decide_false, cnd_t, cnd_f, gd_nil, gd_t, b1_0, b1_1, sw_nil, sw_cons, obs]
      exact qT.ret
    · have n20 : (2 = 0) = False := eq_false (by decide)
      have n21 : (2 = 1) = False := eq_false (by decide)
      simp only [n20, n21, i10, i00, decide_true, decide_false, cnd_t, cnd_f, gd_nil, gd_t, b1_0, b1_1, sw_nil, sw_cons, obs]
      exact qT.ret
  | succ d ih =>
    intro i n m c hm t u v ey e1 e2 hl oc oh h hi hn hmf
    obtain ⟨n, rfl⟩ : ∃ j, n = j + 1 := ⟨n - 1, by omega⟩
    obtain ⟨m, rfl⟩ : ∃ j, m = j + 1 := ⟨m - 1, by omega⟩
    have e : i < nn := by omega
    have hp6 := h.1.1.1
    have hg := h.1.1.2.1
    have hm1 := h.1.2.2.2.1
    -- what goes on after the line
    have fin : ∀ (c' hm' : Int32) (t' : Nat → Int32) (u' v' : ab_S), nOk c' → nOk hm' → pT Z 987 s t' u' v' → Fr dCu u u' → Fr dMu v v' → qT (fX9_judged_70 (fX9_judged_30 n) (nI c0) c' hm' (nI i) u') (fX10_judged_248 (fX10_judged_31 m) (nI c0) c' hm' (nI i) v') u' v' := by
      intro c' hm' t' u' v' oc' oh' h' f g
      refine j_end (by omega) oh' h' fun h2 o2 => ?_
      refine ih (i + 1) n m c' h2 t' u' v' ?_ ?_ ?_ ?_ oc' o2 h' (by omega) (by omega) (by omega)
      · rw [congrFun f.2.2 2]; exact ey
      · rw [f.1 y 0 (by intro q; rcases q with q | q <;> omega)]; exact e1
      · rw [g.1 13 0 (by intro q; rcases q with q | q | q | q | q <;> omega)]; exact e2
      · intro j hj
        have h6 := hl j hj
        unfold pYl at h6 ⊢
        rw [f.1 _ _ (show ¬ dCu (y + 1) j by intro q; rcases q with q | q <;> omega), f.1 _ _ (show ¬ dCu (y + 2) j by intro q; rcases q with q | q <;> omega), f.1 _ _ (show ¬ dCu (y + 3) j by intro q; rcases q with q | q <;> omega), g.1 _ _ (show ¬ dMu 13 (1 + 3 * j) by intro q; rcases q with q | q | q | q | q <;> omega), g.1 _ _ (show ¬ dMu 13 (2 + 3 * j) by intro q; rcases q with q | q | q | q | q <;> omega), g.1 _ _ (show ¬ dMu 13 (3 + 3 * j) by intro q; rcases q with q | q | q | q | q <;> omega)]
        exact h6
    have oi : nOk (nI i) := nOk_n (by omega)
    have hcl0 : ∀ (u' : ab_S), (bif decide (c = -1) then fX9_judged_70 (fX9_judged_30 n) (nI c0) (nI i) hm (nI i) u' else fX9_judged_70 (fX9_judged_30 n) (nI c0) c hm (nI i) u') = fX9_judged_70 (fX9_judged_30 n) (nI c0) (if c = -1 then nI i else c) hm (nI i) u' := by
      intro u'
      by_cases z : c = -1 <;> simp only [z, i10, i00, decide_true, decide_false, cnd_t, cnd_f, gd_nil, gd_t, b1_0, b1_1, sw_nil, sw_cons, obs, if_true, if_false]
    have oc0 : nOk (if c = -1 then nI i else c) := by
      split
      · exact oi
      · exact oc
    rw [fX9_judged_30, fX10_judged_31, ey, e1]
    simp (disch := first | omega | decide) only [nI_lt2, e, decide_true, cnd_t, gd_nil, gd_t, ix_o, nc_o, e2, nI_omul, nI_oadd, ix_nI, nc_nI]
    unfold fX8_doLine
    rw [c_at (by omega) (by decide)]
    simp only [obs]
    rw [c_at (by omega) (by decide)]
    simp only [obs]
    rw [c_at (by omega) (by decide)]
    simp only [obs]
    have hcs : (if c < 0 then nI i else c) = (if c = -1 then nI i else c) := by
      by_cases z : c = -1
      · have z' : c < 0 := cast oc.symm z
        rw [if_pos z, if_pos z']
      · have z' : ¬ c < 0 := fun q => z (cast oc q)
        rw [if_neg z, if_neg z']
    have h149t : ∀ (a1 a2 a3 : Int32) (w : ab_S), fX10_judged_149 (fX10_judged_31 m) (nI c0) c hm (nI i) a1 a2 a3 1 w = fX10_judged_166 (fX10_judged_31 m) (nI c0) hm (nI i) a1 a2 a3 1 c w := by
      intro a1 a2 a3 w
      unfold fX10_judged_149
      simp only [i10, i00, decide_true, decide_false, cnd_t, cnd_f, gd_nil, gd_t, b1_0, b1_1, sw_nil, sw_cons, obs]
    have h149f : ∀ (a1 a2 a3 : Int32) (w : ab_S), fX10_judged_149 (fX10_judged_31 m) (nI c0) c hm (nI i) a1 a2 a3 0 w = fX10_judged_166 (fX10_judged_31 m) (nI c0) hm (nI i) a1 a2 a3 0 (if c = -1 then nI i else c) w := by
      intro a1 a2 a3 w
      unfold fX10_judged_149
      rw [← hcs]
      by_cases z : c < 0 <;> simp only [z, i10, i00, decide_true, decide_false, cnd_t, cnd_f, gd_nil, gd_t, b1_0, b1_1, sw_nil, sw_cons, obs, if_true, if_false]
    rcases hl i e with ⟨a1, a2⟩ | ⟨⟨a1, a2⟩, p, hp, a3, a4⟩ | ⟨⟨a1, a2⟩, k, j, hk, hj, a3, a4, a5, a6⟩ | ⟨⟨a1, a2⟩, k, hk, a3, a4⟩
    · -- a quarter
      obtain ⟨r, t', u', v', q1, q2, h', hr, f1, f2⟩ := pass987 h
      rw [a1, a2]
      simp only [i10, i00, decide_true, decide_false, cnd_t, cnd_f, gd_nil, gd_t, b1_0, b1_1, sw_nil, sw_cons, obs, i1_2, i1_3, i2_0, i2_1, i2_3, i3_0, i3_1, i3_2, i0_1, i0_2, i0_3, q1]
      rw [h149t]
      unfold fX10_judged_166
      simp only [i10, i00, decide_true, decide_false, cnd_t, cnd_f, gd_nil, gd_t, b1_0, b1_1, sw_nil, sw_cons, obs, q2]
      exact (fin _ hm t' u' v' oc oh h' f1 f2).tr f1 f2
    · -- a ticket
      have mb : fX10_mayBuy 987 (nI p) v = some (b01 (buyS t p), v) := m_mayBuy (b := 987) h.2.2.1 (by decide) (by omega)
      rw [a1, a2, a3, a4]
      simp only [i10, i00, decide_true, decide_false, cnd_t, cnd_f, gd_nil, gd_t, b1_0, b1_1, sw_nil, sw_cons, obs, i1_2, i1_3, i2_0, i2_1, i2_3, i3_0, i3_1, i3_2, i0_1, i0_2, i0_3, mb]
      rw [c_canBuy h.2.1 (by omega)]
      simp only [obs]
      cases hb : buyS t p
      · simp only [b01_f, i10, i00, decide_true, decide_false, cnd_t, cnd_f, gd_nil, gd_t, b1_0, b1_1, sw_nil, sw_cons, obs]
        rw [hcl0, h149f]
        unfold fX10_judged_166 fX10_judged_206 fX10_judged_231
        simp only [b01_f, i10, i00, decide_true, decide_false, cnd_t, cnd_f, gd_nil, gd_t, b1_0, b1_1, sw_nil, sw_cons, obs, i1_2, i1_3, i2_0, i2_1, i2_3, i3_0, i3_1, i3_2, i0_1, i0_2, i0_3]
        exact fin _ hm t u v oc0 oh h Fr.rfl' Fr.rfl'
      · obtain ⟨u', q1, f1, s1⟩ := c_buy h.2.1 (show p < 6 by omega)
        obtain ⟨v', q2, f2, s2⟩ := m_buy h.2.2.1 (show 987 ≤ 1050 by decide) (show p < 6 by omega)
        have q2' : fX10_buys 987 (nI p) v = some ((), v') := q2
        have h' := h.mk (by decide) f1 f2 s1 s2 (h.2.2.2.buy h.1.1 hp hb)
        simp only [b01_t, i10, i00, decide_true, decide_false, cnd_t, cnd_f, gd_nil, gd_t, b1_0, b1_1, sw_nil, sw_cons, obs, q1]
        rw [h149t]
        unfold fX10_judged_166
        simp only [b01_t, i10, i00, decide_true, decide_false, cnd_t, cnd_f, gd_nil, gd_t, b1_0, b1_1, sw_nil, sw_cons, obs, i1_2, i1_3, i2_0, i2_1, i2_3, i3_0, i3_1, i3_2, i0_1, i0_2, i0_3, q2']
        exact (fin _ hm _ u' v' oc oh h' (Fc.cu f1) (Fm.mu f2 (by decide))).tr (Fc.cu f1) (Fm.mu f2 (by decide))
    · -- a swap
      have hw : Wp (fX10_maySwap 987 (nI k) (nI j) v) (fun r w => r = b01 (tradeS Z t k j) ∧ Sc v w) := m_maySwap (b := 987) h.1.1 hm1 h.2.2.2 h.2.2.1 (by decide) hk hj fun w s' => ⟨rfl, s'⟩
      obtain ⟨r, v1, q3, q4, s4⟩ := hw
      subst q4
      have h1 : pT Z 987 s t u v1 := h.mk (by decide) Fr.rfl' s4.fm h.2.1 (h.2.2.1.sc s4) h.2.2.2
      have g1 : Fr dMu v v1 := Sc.mu s4
      rw [a1, a2, a3, a4, a5, a6]
      simp only [i10, i00, decide_true, decide_false, cnd_t, cnd_f, gd_nil, gd_t, b1_0, b1_1, sw_nil, sw_cons, obs, i1_2, i1_3, i2_0, i2_1, i2_3, i3_0, i3_1, i3_2, i0_1, i0_2, i0_3, q3]
      rw [c_canTrade h.1.1 h.1.2.1 h.2.2.2 h.2.1 hk hj]
      simp only [obs]
      cases hb : tradeS Z t k j
      · simp only [b01_f, i10, i00, decide_true, decide_false, cnd_t, cnd_f, gd_nil, gd_t, b1_0, b1_1, sw_nil, sw_cons, obs]
        rw [hcl0, h149f]
        unfold fX10_judged_166 fX10_judged_206 fX10_judged_231
        simp only [b01_f, i10, i00, decide_true, decide_false, cnd_t, cnd_f, gd_nil, gd_t, b1_0, b1_1, sw_nil, sw_cons, obs, i1_2, i1_3, i2_0, i2_1, i2_3, i3_0, i3_1, i3_2, i0_1, i0_2, i0_3]
        exact (fin _ hm t u v1 oc0 oh h1 Fr.rfl' g1).tr Fr.rfl' g1
      · obtain ⟨u', q1, f1, s1⟩ := c_trade h1.2.1 (show k < 8 by omega) (show j < 8 by omega)
        obtain ⟨v', q2, f2, s2⟩ := m_swaps h1.2.2.1 (show 987 ≤ 1050 by decide) (show k < 8 by omega) (show j < 8 by omega)
        have q2' : fX10_swaps 987 (nI k) (nI j) v1 = some ((), v') := q2
        have h' := h1.mk (by decide) f1 f2 s1 s2 (h1.2.2.2.trade h1.1.1 hk hj)
        simp only [b01_t, i10, i00, decide_true, decide_false, cnd_t, cnd_f, gd_nil, gd_t, b1_0, b1_1, sw_nil, sw_cons, obs, q1]
        rw [h149t]
        unfold fX10_judged_166 fX10_judged_206
        simp only [b01_t, i10, i00, decide_true, decide_false, cnd_t, cnd_f, gd_nil, gd_t, b1_0, b1_1, sw_nil, sw_cons, obs, i1_2, i1_3, i2_0, i2_1, i2_3, i3_0, i3_1, i3_2, i0_1, i0_2, i0_3, q2']
        exact (fin _ hm _ u' v' oc oh h' (Fc.cu f1) (g1.trans (Fm.mu f2 (by decide)))).tr (Fc.cu f1) (g1.trans (Fm.mu f2 (by decide)))
    · -- a good brought in
      obtain ⟨u', q1, h', f1, g1⟩ := place_t h hk
      have e989 := h.2.2.1.at (k := 2 + k) (by omega) (show 989 + k = 987 + (2 + k) by omega)
      rw [a1, a2, a3, a4]
      simp (disch := first | omega | decide) only [i10, i00, decide_true, decide_false, cnd_t, cnd_f, gd_nil, gd_t, b1_0, b1_1, sw_nil, sw_cons, obs, i1_2, i1_3, i2_0, i2_1, i2_3, i3_0, i3_1, i3_2, i0_1, i0_2, i0_3, nI_oadd, ix_nI, nc_nI, e989]
      rw [c_hold h.2.1 (by omega)]
      simp only [obs]
      unfold fX8_doLine_120
      rw [q1]
      simp only [i10, i00, decide_true, decide_false, cnd_t, cnd_f, gd_nil, gd_t, b1_0, b1_1, sw_nil, sw_cons, obs]
      rcases h.2.2.2.1 k hk with z | ⟨p, hp, z⟩
      · have hnop : su t (2 + k) (-1) = t := by
          funext j
          unfold su
          split
          · rename_i hj
            rw [hj, z]
          · rfl
        have h2 : pT Z 987 s t u' v := by
          rw [hnop] at h'
          exact ⟨h.1.fr f1 Fr.rfl', h'.2.1, h.2.2.1, h.2.2.2⟩
        rw [z]
        simp only [m1lt0, i10, i00, decide_true, decide_false, cnd_t, cnd_f, gd_nil, gd_t, b1_0, b1_1, sw_nil, sw_cons, obs]
        rw [hcl0, h149f]
        unfold fX10_judged_166 fX10_judged_206 fX10_judged_231
        simp only [b01_f, i10, i00, decide_true, decide_false, cnd_t, cnd_f, gd_nil, gd_t, b1_0, b1_1, sw_nil, sw_cons, obs, i1_2, i1_3, i2_0, i2_1, i2_3, i3_0, i3_1, i3_2, i0_1, i0_2, i0_3]
        exact (fin _ hm t u' v oc0 oh h2 f1 Fr.rfl').tr f1 Fr.rfl'
      · rw [z]
        simp (disch := first | omega | decide) only [nI_lt0, nI_nm1, i10, i00, decide_true, decide_false, cnd_t, cnd_f, gd_nil, gd_t, b1_0, b1_1, sw_nil, sw_cons, obs]
        rw [h149t]
        unfold fX10_judged_166 fX10_judged_206 fX10_judged_231
        simp (disch := first | omega | decide) only [b01_t, i10, i00, decide_true, decide_false, cnd_t, cnd_f, gd_nil, gd_t, b1_0, b1_1, sw_nil, sw_cons, obs, i1_2, i1_3, i2_0, i2_1, i2_3, i3_0, i3_1, i3_2, i0_1, i0_2, i0_3, nI_oadd, ix_nI, nc_nI]
        exact (fin _ hm _ u' _ oc oh h' f1 g1).tr f1 g1
theorem q_judged (hN : pN Z s u v) (hY : pY Z u v) (x : Int32) : qT (fX9_judged x u) (fX10_judged x v) u v := by
  have hN0 := hN.th (x := 0)
  have hY0 : pY Z u (sI v 0 0 0) := hY.cu Fr.rfl' th_mu
  have ho := hN.2.2.1
  unfold fX9_judged fX10_judged
  simp only [fX10_in, obs, show (2 : Int32) = nI 2 from rfl]
  rcases rng0 x 2 (by decide) with ⟨c0, hc0, rfl⟩ | hx
  · rw [in_t hc0 (by decide)]
    simp (disch := first | omega | decide) only [i10, i00, decide_true, decide_false, cnd_t, cnd_f, gd_nil, gd_t, b1_0, b1_1, sw_nil, sw_cons, obs, nI_lt0, nI_le2, hc0, b01_t]
    obtain ⟨u', q1, f1, s1⟩ := c_start hN.1 (show u.2.2 0 + 12 ≤ 42 by omega) hN.2.1
    obtain ⟨v', q2, f2, s2⟩ := m_start hN.1 (b := 987) (by decide) hN0.2.2.2.1
    have q2' : fX10_starts 987 (sI v 0 0 0) = some ((), v') := q2
    have h : pT Z 987 s (s0 Z) u' v' := ⟨hN0.fr (Fc.cu f1) (Fm.mu f2 (by decide)), s1, s2, pv_s0 hN.1⟩
    obtain ⟨hy, nn, hnn, e1, e2, hl⟩ := hY0.cu (Fc.cu f1) (Fm.mu f2 (by decide))
    rw [q1, q2']
    simp only [obs]
    exact (q_judged31 hc0 hy hnn nn 0 fu fu (-1) (-1) _ u' v' rfl e1 e2 hl nOk_m nOk_m h (Nat.zero_add _) (by simp only [fu]; omega) (by simp only [fu]; omega)).tr (Fc.cu f1) (th_mu.trans (Fm.mu f2 (by decide)))
  · rcases hx with hx | ⟨hx1, hx2⟩
    · simp only [hx, i10, i00, decide_true, decide_false, cnd_t, cnd_f, gd_nil, gd_t, b1_0, b1_1, sw_nil, sw_cons, obs, Bool.not_true, Bool.false_and, b01_f]
      exact qT.ret.tr Fr.rfl' th_mu
    · simp only [hx1, hx2, i10, i00, decide_true, decide_false, cnd_t, cnd_f, gd_nil, gd_t, b1_0, b1_1, sw_nil, sw_cons, obs, Bool.not_false, Bool.and_false, b01_f]
      exact qT.ret.tr Fr.rfl' th_mu
end PU
