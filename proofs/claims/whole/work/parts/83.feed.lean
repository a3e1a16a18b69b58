/-! counts, and feeding -/
theorem sh_u : ∀ n, n < 64 → (((Int32.toInt64 (nI n)).toUInt64 &&& Int64.toUInt64 63).toBitVec % 64).toNat = n := by decide +kernel
theorem sh_l : ∀ n, n < 64 → ((Int32.toInt64 (nI n) &&& 63).toBitVec.smod 64).toNat = n := by decide +kernel
theorem b255_64 : ∀ i, i < 32 → (255 : Int64).toBitVec.getLsbD i = decide (i < 8) := by decide +kernel
theorem b255_32 : ∀ i, i < 32 → (255 : Int32).toBitVec.getLsbD i = decide (i < 8) := by decide +kernel
theorem byte_eq (x : Int64) {k : Nat} (hk : k ≤ 56) : Int64.toInt32 (((Int64.toUInt64 x >>> ((Int32.toInt64 (nI k)).toUInt64 &&& Int64.toUInt64 63)).toInt64) &&& 255) = (Int64.toInt32 (x >>> (Int32.toInt64 (nI k) &&& 63))) &&& 255 := by
  apply Int32.toBitVec_inj.1
  apply BitVec.eq_of_getLsbD_eq
  intro i hi
  rw [Int32.toBitVec_and, BitVec.getLsbD_and, b255_32 i hi]
  show ((((Int64.toUInt64 x >>> ((Int32.toInt64 (nI k)).toUInt64 &&& Int64.toUInt64 63)).toInt64) &&& 255).toBitVec.signExtend 32).getLsbD i = (((x >>> (Int32.toInt64 (nI k) &&& 63)).toBitVec.signExtend 32).getLsbD i && decide (i < 8))
  rw [BitVec.getLsbD_signExtend, BitVec.getLsbD_signExtend, Int64.toBitVec_and, BitVec.getLsbD_and, b255_64 i hi]
  have h1 : ((Int64.toUInt64 x >>> ((Int32.toInt64 (nI k)).toUInt64 &&& Int64.toUInt64 63)).toInt64).toBitVec = x.toBitVec >>> k := by
    rw [UInt64.toBitVec_toInt64, UInt64.toBitVec_shiftRight]
    show x.toBitVec >>> (((Int32.toInt64 (nI k)).toUInt64 &&& Int64.toUInt64 63).toBitVec % 64).toNat = _
    rw [sh_u k (by omega)]
  have h2 : (x >>> (Int32.toInt64 (nI k) &&& 63)).toBitVec = x.toBitVec.sshiftRight k := by
    rw [Int64.toBitVec_shiftRight]
    show x.toBitVec.sshiftRight ((Int32.toInt64 (nI k) &&& 63).toBitVec.smod 64).toNat = _
    rw [sh_l k (by omega)]
  rw [h1, h2, BitVec.getLsbD_ushiftRight, BitVec.getLsbD_sshiftRight]
  have e1 : i < 64 := by omega
  by_cases h8 : i < 8
  · have e2 : k + i < 64 := by omega
    have e3 : ¬ 64 ≤ i := by omega
    simp only [hi, e1, h8, e2, e3, decide_true, decide_false, if_true, Bool.true_and, Bool.and_true, Bool.not_false]
  · simp only [h8, decide_false, Bool.and_false, e1, if_true]
theorem i2c_256 : ∀ c, c < 256 → (Int32.toUInt32 (nI c) % 65536).toInt32 = nI c ∧ ab_c1 (nI c) = true := by decide +kernel
section PU
variable {Z : dZ} {s : Nat → Int32} {u v u' v' : ab_S}
-- ===== counts =====
theorem i_S47 (u v : ab_S) (a0 : Int32) (h : Inv u v) : ∃ (r : Int32) (u1 v1 : ab_S), fX9_count a0 u = some (r, u1) ∧ fX10_count a0 v = some (r, v1) ∧ Inv u1 v1 := by
  obtain ⟨Z, s, h⟩ := h
  have h0 := h.th
  obtain ⟨hN, hY, hS0, hU, hM, hG, hNm, hW, hT, hR⟩ := h0
  obtain ⟨hE, hO, ho, hm, hc, hs, hv⟩ := hN
  have hg8 := hE.2.1
  obtain ⟨-, n7, -, y1, y2, -⟩ := hY
  obtain ⟨⟨n8, -, z1, z2, -⟩, -⟩ := hS0
  rw [Nat.zero_add] at z2
  obtain ⟨n9, w9, -, -, x1, x2, -, -⟩ := hU
  obtain ⟨n10, -, t1, t2, -⟩ := hT
  have mT : fX10_sumOf 16 (sI v 0 0 0) = some (nI (sumN (tkS s) Z.1), sI v 0 0 0) := m_allT (b := 0) hE hm hv hs (by decide)
  have mC : fX10_sumOf 10 (sI v 0 0 0) = some (nI (sumN (cnS s) Z.1), sI v 0 0 0) := m_allC (b := 0) hE hm hv hs (by decide)
  have hw : Wp (fX10_joyOfAll 0 (sI v 0 0 0)) (fun r w => r = nI (sumN (fun p => allS Z s p p) Z.1) ∧ Sc (sI v 0 0 0) w) := m_joyAll (b := 0) hE hm hs (by decide) fun w s' => ⟨rfl, s'⟩
  obtain ⟨r6, v6, j1, j2, j3⟩ := hw
  subst j2
  have h6 : InvZ Z s u v6 := h.th.qu Fr.rfl' (Sc.mu j3)
  have ret : ∀ r : Int32, ∃ (r' : Int32) (u1 v1 : ab_S), (some (r, u) : Option (Int32 × ab_S)) = some (r', u1) ∧ (some (r, sI v 0 0 0) : Option (Int32 × ab_S)) = some (r', v1) ∧ Inv u1 v1 := fun r => ⟨r, u, _, rfl, rfl, Z, s, h.th⟩
  have heB : nI (2 ^ Z.2.1 - 1) &&& (nI (hB Z s) ^^^ (-1)) = nI (hS Z s (-1)) := by
    rw [zb_diff (all_lt hg8) (hB_lt hE)]
    congr 1
    apply bit_ext
    intro k
    rw [Nat.testBit_and, all_bit, bit255, hB_bit, hS_bit]
    by_cases hk : k < Z.2.1
    · have h8 : k < 8 := by omega
      simp only [hk, h8, decide_true, Bool.true_and]
      cases decide (s (2 + k) = -1) <;> rfl
    · simp only [hk, decide_false, Bool.false_and]
  unfold fX9_count fX10_count
  rw [m_persons hE hm, m_goods hE hm, m_held0 hE hm hs, mT, mC, j1, c_allT hE hv hc, c_allC hE hv hc, c_joyAll hE hO hv hc]
  unfold fX2_allGoods
  rw [hO.1, hO.2.1, hc.1, y1, z1, x1, t1]
  simp (disch := first | omega | decide) only [sw_cons, sw_nil, obs, ix_o, nc_o, gd_t, gd_nil, y2, z2, x2, t2, hs.at (k := 0) (by omega) (show 0 = 0 + 0 by omega), zb_all hg8]
  by_cases e0 : a0 = 0
  · simp only [e0, i10, i00, decide_true, decide_false, cnd_t, cnd_f, gd_nil, gd_t, b1_0, b1_1, sw_nil, sw_cons, obs]
    exact ret _
  · by_cases e1 : a0 = 1
    · simp only [e0, e1, i10, i00, decide_true, decide_false, cnd_t, cnd_f, gd_nil, gd_t, b1_0, b1_1, sw_nil, sw_cons, obs]
      exact ret _
    · by_cases e2 : a0 = 2
      · simp only [e0, e1, e2, i10, i00, decide_true, decide_false, cnd_t, cnd_f, gd_nil, gd_t, b1_0, b1_1, sw_nil, sw_cons, obs]
        exact ret _
      · by_cases e3 : a0 = 3
        · simp only [e0, e1, e2, e3, i10, i00, decide_true, decide_false, cnd_t, cnd_f, gd_nil, gd_t, b1_0, b1_1, sw_nil, sw_cons, obs]
          rw [c_heldB hE hO hc]
          simp only [obs, heB]
          exact ret _
        · by_cases e4 : a0 = 4
          · simp only [e0, e1, e2, e3, e4, i10, i00, decide_true, decide_false, cnd_t, cnd_f, gd_nil, gd_t, b1_0, b1_1, sw_nil, sw_cons, obs]
            exact ret _
          · by_cases e5 : a0 = 5
            · simp only [e0, e1, e2, e3, e4, e5, i10, i00, decide_true, decide_false, cnd_t, cnd_f, gd_nil, gd_t, b1_0, b1_1, sw_nil, sw_cons, obs]
              exact ret _
            · by_cases e6 : a0 = 6
              · simp only [e0, e1, e2, e3, e4, e5, e6, i10, i00, decide_true, decide_false, cnd_t, cnd_f, gd_nil, gd_t, b1_0, b1_1, sw_nil, sw_cons, obs]
                exact ⟨_, u, v6, rfl, rfl, Z, s, h6⟩
              · by_cases e7 : a0 = 7
                · simp only [e0, e1, e2, e3, e4, e5, e6, e7, i10, i00, decide_true, decide_false, cnd_t, cnd_f, gd_nil, gd_t, b1_0, b1_1, sw_nil, sw_cons, obs]
                  exact ret _
                · by_cases e8 : a0 = 8
                  · simp only [e0, e1, e2, e3, e4, e5, e6, e7, e8, i10, i00, decide_true, decide_false, cnd_t, cnd_f, gd_nil, gd_t, b1_0, b1_1, sw_nil, sw_cons, obs]
                    exact ret _
                  · by_cases e9 : a0 = 9
                    · simp only [e0, e1, e2, e3, e4, e5, e6, e7, e8, e9, i10, i00, decide_true, decide_false, cnd_t, cnd_f, gd_nil, gd_t, b1_0, b1_1, sw_nil, sw_cons, obs]
                      exact ret _
                    · by_cases e10 : a0 = 10
                      · simp only [e0, e1, e2, e3, e4, e5, e6, e7, e8, e9, e10, i10, i00, decide_true, decide_false, cnd_t, cnd_f, gd_nil, gd_t, b1_0, b1_1, sw_nil, sw_cons, obs]
                        exact ret _
                      · simp only [e0, e1, e2, e3, e4, e5, e6, e7, e8, e9, e10, i10, i00, decide_true, decide_false, cnd_t, cnd_f, gd_nil, gd_t, b1_0, b1_1, sw_nil, sw_cons, obs]
                        exact ret _
-- ===== feeding =====
def dFu (a k : Nat) : Prop := a = 2 ∨ (a = 1 ∧ k = 1)
def dFv (a k : Nat) : Prop := a = 1 ∨ (a = 0 ∧ (k = 0 ∨ k = 2))
def fdP (x : Int64) (y : Int32) (n m : Nat) : Prop := ∀ (u v : ab_S), pTp u v → ∃ u' v', fX6_takeBytes_3 n x y u = some ((), u') ∧ fX10_lay_3 m x y v = some ((), v') ∧ pTp u' v' ∧ Fr dFu u u' ∧ Fr dFv v v'
theorem feed_step {x : Int64} {k n m : Nat} (hk : k ≤ 56) (h : fdP x (nI k + (-8)) n m) : fdP x (nI k) (n + 1) (m + 1) := by
  intro u v hT
  obtain ⟨c, hc, eb⟩ := pk_andE (Int64.toInt32 (x >>> (Int32.toInt64 (nI k) &&& 63))) (m := 255) 8 (by decide)
  have hc : c < 256 := hc
  have ea := byte_eq x hk
  rw [eb] at ea
  obtain ⟨i1, i2⟩ := i2c_256 c hc
  have skip := h u v hT
  -- a sign that is text
  have txt : (c = 10 ∨ (32 ≤ c ∧ c ≤ 126)) → ∃ u' v', fX6_takeBytes_43 (fX6_takeBytes_3 n) x (nI k) (nI c) 1 u = some ((), u') ∧ fX10_lay_38 (fX10_lay_3 m) x (nI k) (nI c) v = some ((), v') ∧ pTp u' v' ∧ Fr dFu u u' ∧ Fr dFv v v' := by
    intro hct
    obtain ⟨l, h1, h2, h3, h4⟩ := hT
    unfold fX6_takeBytes_43 fX10_lay_38
    rw [h2, h3, i1]
    simp (disch := first | omega | decide) only [i10, i00, decide_true, decide_false, cnd_t, cnd_f, gd_nil, gd_t, b1_0, b1_1, sw_nil, sw_cons, obs, nI_lt0, nI_lto]
    by_cases e : l < 1000
    · have fu1 : Fr dFu u (sI (sI u 2 l (nI c)) 1 1 (nI (l + 1))) := Fr.trans (Fr.sI (Or.inl rfl)) (Fr.sI (Or.inr ⟨rfl, rfl⟩))
      have fv1 : Fr dFv v (sI (sI v 1 l (nI c)) 0 2 (nI (l + 1))) := Fr.trans (Fr.sI (Or.inl rfl)) (Fr.sI (Or.inr ⟨rfl, Or.inr rfl⟩))
      obtain ⟨u', v', q1, q2, q3, q4, q5⟩ := h (sI (sI u 2 l (nI c)) 1 1 (nI (l + 1))) (sI (sI v 1 l (nI c)) 0 2 (nI (l + 1))) ⟨l + 1, by omega, by rw [sI_at, if_pos ⟨rfl, rfl⟩], by rw [sI_at, if_pos ⟨rfl, rfl⟩], fun i hi => by
        by_cases ei : i = l
        · subst ei
          exact ⟨c, hct, by rw [sI_at, if_neg (by omega), sI_at, if_pos ⟨rfl, rfl⟩], by rw [sI_at, if_neg (by omega), sI_at, if_pos ⟨rfl, rfl⟩]⟩
        · obtain ⟨c', b1, b2, b3⟩ := h4 i (by omega)
          exact ⟨c', b1, by rw [sI_at, if_neg (by omega), sI_at, if_neg (by omega)]; exact b2, by rw [sI_at, if_neg (by omega), sI_at, if_neg (by omega)]; exact b3⟩⟩
      refine ⟨u', v', ?_, ?_, q3, fu1.trans q4, fv1.trans q5⟩
      · have e1 : (sI u 2 l (nI c)).1 1 1 = nI l := by rw [sI_at, if_neg (by omega)]; exact h2
        simp (disch := first | omega | decide) only [i10, i00, decide_true, decide_false, cnd_t, cnd_f, gd_nil, gd_t, b1_0, b1_1, sw_nil, sw_cons, obs, e, ix_nI, nc_nI, i2, e1, nI_addo]
        exact q1
      · have e1 : (sI v 1 l (nI c)).1 0 2 = nI l := by rw [sI_at, if_neg (by omega)]; exact h3
        simp (disch := first | omega | decide) only [i10, i00, decide_true, decide_false, cnd_t, cnd_f, gd_nil, gd_t, b1_0, b1_1, sw_nil, sw_cons, obs, e, ix_nI, nc_nI, e1, nI_addo]
        exact q2
    · obtain ⟨u', v', q⟩ := h u v ⟨l, h1, h2, h3, h4⟩
      simp only [e, i10, i00, decide_true, decide_false, cnd_t, cnd_f, gd_nil, gd_t, b1_0, b1_1, sw_nil, sw_cons, obs]
      exact ⟨u', v', q⟩
  have no : ∃ u' v', fX6_takeBytes_43 (fX6_takeBytes_3 n) x (nI k) (nI c) 0 u = some ((), u') ∧ fX10_lay_3 m x (nI k + (-8)) v = some ((), v') ∧ pTp u' v' ∧ Fr dFu u u' ∧ Fr dFv v v' := by
    unfold fX6_takeBytes_43
    simp only [i10, i00, decide_true, decide_false, cnd_t, cnd_f, gd_nil, gd_t, b1_0, b1_1, sw_nil, sw_cons, obs]
    exact skip
  rw [fX6_takeBytes_3, fX10_lay_3, eb, ea]
  simp (disch := first | omega | decide) only [i10, i00, decide_true, decide_false, cnd_t, cnd_f, gd_nil, gd_t, b1_0, b1_1, sw_nil, sw_cons, obs, nI_lt0, nI_eqo, nI_lto, nI_leo]
  by_cases e1 : c = 10
  · simp only [e1, i10, i00, decide_true, decide_false, cnd_t, cnd_f, gd_nil, gd_t, b1_0, b1_1, sw_nil, sw_cons, obs] at txt ⊢
    exact txt (Or.inl trivial)
  · by_cases e2 : c < 32
    · simp only [e1, e2, i10, i00, decide_true, decide_false, cnd_t, cnd_f, gd_nil, gd_t, b1_0, b1_1, sw_nil, sw_cons, obs]
      exact no
    · by_cases e3 : c ≤ 126
      · simp only [e1, e2, e3, i10, i00, decide_true, decide_false, cnd_t, cnd_f, gd_nil, gd_t, b1_0, b1_1, sw_nil, sw_cons, obs]
        exact txt (Or.inr ⟨by omega, e3⟩)
      · simp only [e1, e2, e3, i10, i00, decide_true, decide_false, cnd_t, cnd_f, gd_nil, gd_t, b1_0, b1_1, sw_nil, sw_cons, obs]
        exact no
theorem feed_all (x : Int64) : ∀ (t n : Nat), t ≤ 7 → t + 1 < n → fdP x (nI (8 * t)) n n := by
  intro t
  induction t with
  | zero =>
    intro n ht hn
    obtain ⟨n, rfl⟩ : ∃ j, n = j + 2 := ⟨n - 2, by omega⟩
    have e8 : nI 0 + (-8) < 0 := by decide +kernel
    refine feed_step (k := 0) (by decide) fun u v hT => ⟨u, v, ?_, ?_, hT, Fr.rfl', Fr.rfl'⟩
    · rw [fX6_takeBytes_3]; simp only [e8, i10, i00, decide_true, decide_false, cnd_t, cnd_f, gd_nil, gd_t, b1_0, b1_1, sw_nil, sw_cons, obs]
    · rw [fX10_lay_3]; simp only [e8, i10, i00, decide_true, decide_false, cnd_t, cnd_f, gd_nil, gd_t, b1_0, b1_1, sw_nil, sw_cons, obs]
  | succ t ih =>
    intro n ht hn
    obtain ⟨n, rfl⟩ : ∃ j, n = j + 1 := ⟨n - 1, by omega⟩
    have e : nI (8 * (t + 1)) + (-8) = nI (8 * t) := by
      rw [← Int32.sub_eq_add_neg]
      exact nI_sub (b := 8) (by omega)
    refine feed_step (k := 8 * (t + 1)) (by omega) ?_
    rw [e]
    exact ih n (by omega) (by omega)
theorem feed_one (x : Int64) (hT : pTp u v) : ∃ u' v', fX6_takeBytes x u = some ((), u') ∧ fX10_lay x v = some ((), v') ∧ pTp u' v' ∧ Fr dFu u u' ∧ Fr dFv v v' := feed_all x 7 fu (by decide) (by decide) u v hT
theorem InvZ.fd (h : InvZ Z s u v) (f : Fr dFu u u') (g : Fr dFv v v') (hT : pTp u' v') : InvZ Z s u' v' := by
  obtain ⟨h1, h2, h3, h4, h5, h6, h7, h8, h9, h10⟩ := h
  have dn : ∀ a k, (3 ≤ a ∨ (a = 0)) → ¬ dFu a k := by
    intro a k z q
    rcases q with q | q <;> omega
  have en : ∀ a k, (2 ≤ a ∨ (a = 0 ∧ k ≠ 0 ∧ k ≠ 2)) → ¬ dFv a k := by
    intro a k z q
    rcases q with q | q <;> omega
  have ho6 : 6 ≤ u.2.2 0 := by
    rcases h10.1 with z | z <;> omega
  have e2 : u'.2.2 = u.2.2 := f.2.2
  exact ⟨⟨h1.1, by rw [e2]; exact h1.2.1.fr f (fun a k a1 a2 => dn _ _ (by omega)), by rw [e2]; exact h1.2.2.1, h1.2.2.2.1.fr g (fun a k a1 a2 => en _ _ (by omega)), h1.2.2.2.2.1.fr f (fun a k a1 a2 => dn _ _ (by omega)), h1.2.2.2.2.2.1.fr g (fun k a1 => en _ _ (by omega)), h1.2.2.2.2.2.2⟩, h2.fr f g (fun a k a1 a2 => dn _ _ (by omega)) (fun k a1 => en _ _ (by omega)), h3.fr f g (fun a k a1 a2 => dn _ _ (by omega)) (fun k a1 a2 => en _ _ (by omega)), h4.fr f g (fun a k a1 a2 => dn _ _ (by omega)) ⟨dn _ _ (by omega), dn _ _ (by omega)⟩ (en _ _ (by omega)) (fun k a1 a2 => en _ _ (by omega)), h5.fr f g (fun a k a1 a2 => dn _ _ (by omega)) (fun k => en _ _ (by omega)) (fun k a1 a2 => en _ _ (by omega)), h6.fr f (fun a k a1 => dn _ _ (by omega)), h7.fr f g (fun a k a1 a2 => dn _ _ (by omega)) h10 (fun k => ⟨en _ _ (by omega), en _ _ (by omega)⟩) (en _ _ (by omega)), h8.fr g (fun k => en _ _ (by omega)), hT, h10.fr f⟩
theorem i_S0 (u v : ab_S) (a0 a1 a2 : Int64) (h : Inv u v) : ∃ (r : Int32) (u1 v1 : ab_S), fX9_feed a0 a1 a2 u = some (r, u1) ∧ fX10_feed a0 a1 a2 v = some (r, v1) ∧ Inv u1 v1 := by
  obtain ⟨Z, s, h⟩ := h
  have h0 := h.th
  obtain ⟨u1, v1, q1, w1, t1, f1, g1⟩ := feed_one a0 h0.2.2.2.2.2.2.2.2.1
  obtain ⟨u2, v2, q2, w2, t2, f2, g2⟩ := feed_one a1 t1
  obtain ⟨u3, v3, q3, w3, t3, f3, g3⟩ := feed_one a2 t2
  have hR := h0.fd (f1.trans (f2.trans f3)) (g1.trans (g2.trans g3)) t3
  obtain ⟨n, -, z1, z2, -⟩ := t3
  unfold fX9_feed fX10_feed
  rw [q1, w1]
  simp only [obs]
  rw [q2, w2]
  simp only [obs]
  rw [q3, w3]
  simp only [obs]
  rw [z1, z2]
  exact ⟨_, u3, v3, rfl, rfl, Z, s, hR⟩
end PU
