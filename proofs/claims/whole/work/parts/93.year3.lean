/-! a year told -/
def dKu (a k : Nat) : Prop := a = 3 ∨ a = 4 ∨ a = 5 ∨ (a = 1 ∧ (k = 1 ∨ (5 ≤ k ∧ k ≤ 10)))
def dKv (a k : Nat) : Prop := a = 2 ∨ a = 3 ∨ a = 4 ∨ (a = 0 ∧ (k = 2 ∨ k = 3 ∨ k = 7 ∨ k = 8))
def rdU (o y a k : Nat) : Prop := a = 3 ∨ a = 4 ∨ a = 5 ∨ (a = 1 ∧ (k = 1 ∨ (5 ≤ k ∧ k ≤ 10))) ∨ (o ≤ a ∧ a < o + 12) ∨ (y ≤ a ∧ a < y + 4)
def rdV (a k : Nat) : Prop := a = 2 ∨ a = 3 ∨ a = 4 ∨ a = 10 ∨ a = 12 ∨ (a = 0 ∧ (k = 0 ∨ k = 2 ∨ k = 3 ∨ k = 7 ∨ k = 8 ∨ k = 13 ∨ k = 19 ∨ k = 20)) ∨ (a = 6 ∧ 90 ≤ k) ∨ ((a = 7 ∨ a = 8) ∧ 1100 ≤ k) ∨ (a = 13 ∧ 125 ≤ k)
section PU
variable {Z : dZ} {s : Nat → Int32} {u v u' v' : ab_S} {n T i o : Nat}
theorem p_cut (hT : pTp u v) (hW : pWd v) : ∃ n T u' v', fX6_split u = some ((), u') ∧ fX10_cutAll v = some ((), v') ∧ pR n T 0 u' v' ∧ pTp u' v' ∧ Fr dKu u u' ∧ Fr dKv v v' := by
  obtain ⟨n, hn, t1, t2, t3⟩ := hT
  have hc : ∃ c : Nat → Nat, ∀ i, i < n → ctx (c i) ∧ u.1 2 i = nI (c i) ∧ v.1 1 i = nI (c i) := by
    refine ⟨fun i => if h : i < n then Classical.choose (t3 i h) else 0, fun i hi => ?_⟩
    have := Classical.choose_spec (t3 i hi)
    simp only [hi, dite_true]
    exact this
  obtain ⟨c, hc⟩ := hc
  have f1 : Fr dKu u (sI (sI u 1 5 0) 1 10 0) := (Fr.sI (Or.inr (Or.inr (Or.inr ⟨rfl, by decide⟩)))).trans (Fr.sI (Or.inr (Or.inr (Or.inr ⟨rfl, by decide⟩))))
  have g1 : Fr dKv v (sI (sI v 0 3 (v.1 0 2)) 0 2 0) := (Fr.sI (Or.inr (Or.inr (Or.inr ⟨rfl, by decide⟩)))).trans (Fr.sI (Or.inr (Or.inr (Or.inr ⟨rfl, by decide⟩))))
  obtain ⟨u', v', T, q1, q2, q3, q4, q5, q6, q7, q8⟩ := cut_loop (c := c) hn (fun i hi => (hc i hi).1) n 0 0 fu fu (sI (sI u 1 5 0) 1 10 0) (sI (sI v 0 3 (v.1 0 2)) 0 2 0) (by omega) (Nat.zero_le n) (Nat.le_refl 0) (show n < 5000 by omega) (show n < 5000 by omega) ⟨by simp only [sI_at, sI_l, sJ_at, sJ_i, sJ_m, sM_at, sM_i, sM_l, Nat.reduceEqDiff, false_and, and_false, true_and, and_true, and_self, if_false, if_true, ite_false, ite_true]; exact t1, fun i hi => by simp only [sI_at, sI_l, sJ_at, sJ_i, sJ_m, sM_at, sM_i, sM_l, Nat.reduceEqDiff, false_and, and_false, true_and, and_true, and_self, if_false, if_true, ite_false, ite_true]; exact (hc i hi).2.1⟩ ⟨by simp only [sI_at, sI_l, sJ_at, sJ_i, sJ_m, sM_at, sM_i, sM_l, Nat.reduceEqDiff, false_and, and_false, true_and, and_true, and_self, if_false, if_true, ite_false, ite_true]; exact t2, fun i hi => by simp only [sI_at, sI_l, sJ_at, sJ_i, sJ_m, sM_at, sM_i, sM_l, Nat.reduceEqDiff, false_and, and_false, true_and, and_true, and_self, if_false, if_true, ite_false, ite_true]; exact (hc i hi).2.2⟩ (by simp only [sI_at, sI_l, sJ_at, sJ_i, sJ_m, sM_at, sM_i, sM_l, Nat.reduceEqDiff, false_and, and_false, true_and, and_true, and_self, if_false, if_true, ite_false, ite_true]; rfl) (fun i hi => by omega)
  have e0 : v'.1 0 2 = 0 := by
    rw [q8.1 _ _ (by unfold dTv; omega)]
    simp only [sI_at, sI_l, sJ_at, sJ_i, sJ_m, sM_at, sM_i, sM_l, Nat.reduceEqDiff, false_and, and_false, true_and, and_true, and_self, if_false, if_true, ite_false, ite_true]
  refine ⟨n, T, u', v', q1, q2, ⟨q3, q4, Nat.zero_le T, q6, ?_⟩, ⟨0, by omega, q5, e0, fun i hi => by omega⟩, f1.trans (q7.mono fun a k z => by unfold dTu at z; unfold dKu; omega), g1.trans (q8.mono fun a k z => by unfold dTv at z; unfold dKv; omega)⟩
  exact hW.fr (g1.trans (q8.mono fun a k z => by unfold dTv at z; unfold dKv; omega)) fun k => by unfold dKv; omega
theorem InvZ.rd (h : InvZ Z s u v) (f : Fr (rdU (u.2.2 1) (u.2.2 3)) u u') (g : Fr rdV v v') (hT : pTp u' v') : InvZ Z s u' v' := by
  obtain ⟨⟨hE, hO, ho, hm, hc, hs, hv⟩, ⟨hy, hn⟩, h3, h4, h5, h6, h7, h8, h9, hR⟩ := h
  have hR' := hR
  obtain ⟨hR1, hR2⟩ := hR
  have e2 : u'.2.2 = u.2.2 := f.2.2
  refine ⟨⟨hE, ?_, by rw [e2]; exact ho, ⟨fun k hk => (g.1 _ _ (by unfold rdV; omega)).trans (hm.1 k hk), fun k hk => (g.1 _ _ (by unfold rdV; omega)).trans (hm.2.1 k hk), fun k hk => (g.1 _ _ (by unfold rdV; omega)).trans (hm.2.2 k hk)⟩, hc.fr f (fun a k a1 a2 q => by unfold rdU at q; omega), hs.fr g (fun k a1 q => by unfold rdV at q; omega), hv⟩, ?_, h3.fr f g (fun a k a1 a2 q => by unfold rdU at q; omega) (fun k a1 a2 q => by unfold rdV at q; omega), h4.fr f g (fun a k a1 a2 q => by unfold rdU at q; omega) ⟨fun q => by unfold rdU at q; omega, fun q => by unfold rdU at q; omega⟩ (fun q => by unfold rdV at q; omega) (fun k a1 a2 q => by unfold rdV at q; omega), h5.fr f g (fun a k a1 a2 q => by unfold rdU at q; omega) (fun k q => by unfold rdV at q; omega) (fun k a1 a2 q => by unfold rdV at q; omega), h6.fr f (fun a k a1 q => by unfold rdU at q; omega), ?_, h8.fr g (fun k q => by unfold rdV at q; omega), hT, hR'.fr f⟩
  · rw [e2]
    exact hO.fr f (fun a k a1 a2 q => by unfold rdU at q; omega)
  · obtain ⟨n, h2, h3, h4, h5⟩ := hn
    have e : u'.2.2 2 = u.2.2 2 := congrFun e2 2
    rw [pY, e]
    refine ⟨hy, n, h2, by rw [f.1 _ _ (by unfold rdU; omega)]; exact h3, by rw [g.1 _ _ (by unfold rdV; omega)]; exact h4, fun i hi => ?_⟩
    have h6 := h5 i hi
    rw [← yLn_eq] at h6 ⊢
    exact h6.fr f g ⟨fun q => by unfold rdU at q; omega, fun q => by unfold rdU at q; omega, fun q => by unfold rdU at q; omega⟩ ⟨fun q => by unfold rdV at q; omega, fun q => by unfold rdV at q; omega, fun q => by unfold rdV at q; omega⟩
  · unfold pNm
    rw [e2, g.1 _ _ (by unfold rdV; omega)]
    exact ⟨h7.1, h7.2.fr f g (fun k => ⟨fun q => by unfold rdU at q; omega, fun q => by unfold rdU at q; omega⟩) (fun k => ⟨fun q => by unfold rdV at q; omega, fun q => by unfold rdV at q; omega⟩)⟩
-- all lines
theorem y_loop {y : Nat} (hy : y = 30 ∨ y = 34) (ho : o = 6 ∨ o = 18) : ∀ D i m c N M (u v : ab_S), T - i ≤ D → D < N → D < M → pR n T i u v → toR Z o u v → u.1 y 0 = nI m → m ≤ 40 → c ≤ i → (∀ j, j < m → yLn Z y 125 u v j) → (∃ u' v' m', fX8_readLines_7 y o N (nI c) u = some (0, u') ∧ fX10_year_11 M (nI m) v = fX10_year_97 (nI m') v' ∧ v'.1 0 8 = 0 ∧ m' ≤ 40 ∧ u'.1 y 0 = nI m' ∧ (∀ j, j < m' → yLn Z y 125 u' v' j) ∧ Fr (dYU y) u u' ∧ Fr dYV v v') ∨ (∃ f u' v', fX8_readLines_7 y o N (nI c) u = some (nI f, u') ∧ fX10_year_11 M (nI m) v = some (nI f, v') ∧ 1 ≤ f ∧ f < 20000 ∧ Fr (dYU y) u u' ∧ Fr dYV v v') := by
  have fin : ∀ i m c N M (u v : ab_S), 0 < N → 0 < M → pR n T i u v → u.1 1 7 = 0 → c ≤ i → u.1 y 0 = nI m → m ≤ 40 → (∀ j, j < m → yLn Z y 125 u v j) → (∃ u' v' m', fX8_readLines_7 y o N (nI c) u = some (0, u') ∧ fX10_year_11 M (nI m) v = fX10_year_97 (nI m') v' ∧ v'.1 0 8 = 0 ∧ m' ≤ 40 ∧ u'.1 y 0 = nI m' ∧ (∀ j, j < m' → yLn Z y 125 u' v' j) ∧ Fr (dYU y) u u' ∧ Fr dYV v v') := by
    intro i m c N M u v hN hM h hk hc h0 hm hl
    have hi := h.i1000
    obtain ⟨N, rfl⟩ : ∃ m, N = m + 1 := ⟨N - 1, by omega⟩
    obtain ⟨M, rfl⟩ : ∃ m, M = m + 1 := ⟨M - 1, by omega⟩
    refine ⟨u, v, m, ?_, ?_, h.ok, hm, h0, hl, Fr.rfl', Fr.rfl'⟩
    · rw [fX8_readLines_7, hk]
      by_cases e : c < 1000
      · simp (disch := first | omega | decide) only [i10, i00, decide_true, decide_false, cnd_t, cnd_f, gd_nil, gd_t, b1_0, b1_1, sw_nil, sw_cons, obs, Nat.not_lt_zero, nI_addo, nI_oadd, nI_add, nI_mulo, nI_omul, nI_mul, nI_lto, nI_leo, nI_olt, nI_ole, nI_eqo, nI_oeq, nI_lt2, nI_le2, nI_eq2, nI_nm1, nI_m1n, nI_lt0, nI_lem1, nc_nI, nc_o, ix_nI, ix_o, e]
      · simp (disch := first | omega | decide) only [i10, i00, decide_true, decide_false, cnd_t, cnd_f, gd_nil, gd_t, b1_0, b1_1, sw_nil, sw_cons, obs, Nat.not_lt_zero, nI_addo, nI_oadd, nI_add, nI_mulo, nI_omul, nI_mul, nI_lto, nI_leo, nI_olt, nI_ole, nI_eqo, nI_oeq, nI_lt2, nI_le2, nI_eq2, nI_nm1, nI_m1n, nI_lt0, nI_lem1, nc_nI, nc_o, ix_nI, ix_o, e]
    · rw [fX10_year_11, h.ok, h.at]
      simp (disch := first | omega | decide) only [i10, i00, decide_true, decide_false, cnd_t, cnd_f, gd_nil, gd_t, b1_0, b1_1, sw_nil, sw_cons, obs, Nat.not_lt_zero, nI_addo, nI_oadd, nI_add, nI_mulo, nI_omul, nI_mul, nI_lto, nI_leo, nI_olt, nI_ole, nI_eqo, nI_oeq, nI_lt2, nI_le2, nI_eq2, nI_nm1, nI_m1n, nI_lt0, nI_lem1, nc_nI, nc_o, ix_nI, ix_o, h.end.mp hk]
  intro D
  induction D with
  | zero =>
    intro i m c N M u v hD hN hM h hO h0 hm hc hl
    have hk : u.1 1 7 = 0 := Classical.byContradiction fun z => by
      have := h.lt z
      omega
    exact Or.inl (fin i m c N M u v (by omega) (by omega) h hk hc h0 hm hl)
  | succ D ih =>
    intro i m c N M u v hD hN hM h hO h0 hm hc hl
    by_cases hk : u.1 1 7 = 0
    · exact Or.inl (fin i m c N M u v (by omega) (by omega) h hk hc h0 hm hl)
    have hT := h.lt hk
    have hi := h.i1000
    have hTn : T ≤ 1000 := Nat.le_trans h.1.1 h.1.2.1
    obtain ⟨N, rfl⟩ : ∃ m, N = m + 1 := ⟨N - 1, by omega⟩
    obtain ⟨M, rfl⟩ : ∃ m, M = m + 1 := ⟨M - 1, by omega⟩
    have hk2 : ¬ v.1 2 i = 0 := fun z => hk (h.end.mpr z)
    rw [fX8_readLines_7, fX10_year_11, h.ok, h.at]
    simp (disch := first | omega | decide) only [i10, i00, decide_true, decide_false, cnd_t, cnd_f, gd_nil, gd_t, b1_0, b1_1, sw_nil, sw_cons, obs, ix_nI, nc_nI, nI_lto, show c < 1000 by omega, hk, hk2]
    have dU : ∀ a k, dYl y m a k → dYU y a k := fun a k z => by unfold dYl dYu dSu at z; unfold dYU; omega
    have dV : ∀ a k, dYv m a k → dYV a k := fun a k z => z.elim Or.inl fun z => Or.inr ⟨z.1, by omega⟩
    obtain ⟨u1, v1, i1, b1, b2, b3, b4, b5, b6, b7, b8, b9⟩ | ⟨f, x, u1, v1, b3, b4, b5, b6, b8, b9⟩ := y_line h hy hm hO h0 hk (fX10_year_11 M)
    · rw [b3, b4]
      simp (disch := first | omega | decide) only [i10, i00, decide_true, decide_false, cnd_t, cnd_f, gd_nil, gd_t, b1_0, b1_1, sw_nil, sw_cons, obs, nI_addo]
      have hO1 : toR Z o u1 v1 := hO.fr b8 b9 (fun a k z1 z2 q => by unfold dYl dYu dSu at q; omega) (fun k => ⟨fun q => by unfold dYv dSv at q; omega, fun q => by unfold dYv dSv at q; omega⟩) (fun q => by unfold dYv dSv at q; omega)
      have hl1 : ∀ j, j < m + 1 → yLn Z y 125 u1 v1 j := fun j hj => by
        by_cases ej : j = m
        · subst ej; exact b7
        · exact (hl j (by omega)).fr b8 b9 ⟨fun q => by unfold dYl dYu dSu at q; omega, fun q => by unfold dYl dYu dSu at q; omega, fun q => by unfold dYl dYu dSu at q; omega⟩ ⟨fun q => by unfold dYv dSv at q; omega, fun q => by unfold dYv dSv at q; omega, fun q => by unfold dYv dSv at q; omega⟩
      obtain ⟨u', v', m', z1, z2, z3, z4, z5, z6, z7, z8⟩ | ⟨f, u', v', z1, z2, z3, z4, z7, z8⟩ := ih i1 (m + 1) (c + 1) N M u1 v1 (by omega) (by omega) (by omega) b5 hO1 b6 (by omega) (by omega) hl1
      · exact Or.inl ⟨u', v', m', z1, z2, z3, z4, z5, z6, (b8.mono dU).trans z7, (b9.mono dV).trans z8⟩
      · exact Or.inr ⟨f, u', v', z1, z2, z3, z4, (b8.mono dU).trans z7, (b9.mono dV).trans z8⟩
    · rw [b3, b4]
      obtain ⟨M, rfl⟩ : ∃ m, M = m + 1 := ⟨M - 1, by omega⟩
      refine Or.inr ⟨f, u1, v1, ?_, ?_, b6.2.1, b6.2.2, b8.mono dU, b9.mono dV⟩
      · simp only [i10, i00, decide_true, decide_false, cnd_t, cnd_f, gd_nil, gd_t, b1_0, b1_1, sw_nil, sw_cons, obs, b5]
      · rw [fX10_year_11]
        unfold fX10_year_97
        simp only [b6.nz.1, b6.nz.2, i10, i00, decide_true, decide_false, cnd_t, cnd_f, gd_nil, gd_t, b1_0, b1_1, sw_nil, sw_cons, obs]
        rw [b6.1]
-- the reference takes the lines over
theorem m_take118 (m : Nat) (hm : m ≤ 40) : ∀ d k N (v : ab_S), k + d = 3 * m → d < N → ∃ v', fX10_year_118 N (nI m) (nI k) v = some (0, v') ∧ (∀ j, k ≤ j → j < 3 * m → v'.1 13 (1 + j) = v.1 13 (125 + j)) ∧ (∀ j, j < k → v'.1 13 (1 + j) = v.1 13 (1 + j)) ∧ v'.1 13 0 = v.1 13 0 ∧ Fr (fun a _ => a = 13) v v' := by
  intro d
  induction d with
  | zero =>
    intro k N v hk hN
    obtain ⟨N, rfl⟩ : ∃ m, N = m + 1 := ⟨N - 1, by omega⟩
    rw [fX10_year_118]
    simp (disch := first | omega | decide) only [i10, i00, decide_true, decide_false, cnd_t, cnd_f, gd_nil, gd_t, b1_0, b1_1, sw_nil, sw_cons, obs, Nat.not_lt_zero, nI_addo, nI_oadd, nI_add, nI_mulo, nI_omul, nI_mul, nI_lto, nI_leo, nI_olt, nI_ole, nI_eqo, nI_oeq, nI_lt2, nI_le2, nI_eq2, nI_nm1, nI_m1n, nI_lt0, nI_lem1, nc_nI, nc_o, ix_nI, ix_o, show ¬ k < 3 * m by omega]
    exact ⟨v, rfl, fun j h1 h2 => by omega, fun j _ => rfl, rfl, Fr.rfl'⟩
  | succ d ih =>
    intro k N v hk hN
    obtain ⟨N, rfl⟩ : ∃ m, N = m + 1 := ⟨N - 1, by omega⟩
    rw [fX10_year_118]
    simp (disch := first | omega | decide) only [i10, i00, decide_true, decide_false, cnd_t, cnd_f, gd_nil, gd_t, b1_0, b1_1, sw_nil, sw_cons, obs, Nat.not_lt_zero, nI_addo, nI_oadd, nI_add, nI_mulo, nI_omul, nI_mul, nI_lto, nI_leo, nI_olt, nI_ole, nI_eqo, nI_oeq, nI_lt2, nI_le2, nI_eq2, nI_nm1, nI_m1n, nI_lt0, nI_lem1, nc_nI, nc_o, ix_nI, ix_o, show k < 3 * m by omega]
    obtain ⟨v', q1, q2, q3, q4, q5⟩ := ih (k + 1) N (sI v 13 (1 + k) (v.1 13 (125 + k))) (by omega) (by omega)
    refine ⟨v', q1, fun j h1 h2 => ?_, fun j hj => ?_, ?_, (Fr.sI (D := fun a _ => a = 13) rfl).trans q5⟩
    · by_cases ej : j = k
      · subst ej
        rw [q3 j (by omega), sI_at, if_pos ⟨rfl, rfl⟩]
      · rw [q2 j (by omega) h2, sI_at, if_neg (by omega)]
    · rw [q3 j (by omega), sI_at, if_neg (by omega)]
    · rw [q4, sI_at, if_neg (by omega)]
theorem InvZ.newY {m : Nat} (h : InvZ Z s u v) (hm : m ≤ 40) (g : Fr (fun a _ => a = 13) v v') (h0 : u.1 (u.2.2 3) 0 = nI m) (hv : v'.1 13 0 = nI m) (hl : ∀ j, j < m → yLn Z (u.2.2 3) 1 u v' j) : InvZ Z s (sM (sM u 2 (u.2.2 3)) 3 (u.2.2 2)) v' := by
  obtain ⟨⟨hE, hO, ho, hM, hc, hs, hv1⟩, -, h3, h4, h5, h6, h7, h8, h9, hR1, hR2⟩ := h
  have f : Fr (fun _ _ => False) u u := Fr.rfl'
  have h3' : seR Z 46 0 u v' := h3.fr f g (fun a k a1 a2 q => q) (fun k a1 a2 q => by omega)
  have h4' : pUn Z u v' := h4.fr f g (fun a k a1 a2 q => q) ⟨id, id⟩ (fun q => by omega) (fun k a1 a2 q => by omega)
  have h5' : pMk Z u v' := h5.fr f g (fun a k a1 a2 q => q) (fun k q => by omega) (fun k a1 a2 q => by omega)
  have h9' : pTp u v' := h9.fr f g id (fun k => id) (fun q => by omega) (fun k q => by omega)
  have h7' : nmR Z.1 Z.2.1 (u.2.2 0) 9 11 u v' := h7.2.fr f g (fun k => ⟨id, id⟩) (fun k => ⟨fun q => by omega, fun q => by omega⟩)
  refine ⟨⟨hE, hO, ho, hM.fr g (fun a k a1 a2 q => by omega), hc, hs.fr g (fun k a1 q => by omega), hv1⟩, ⟨?_, m, hm, h0, hv, fun i hi => ?_⟩, h3', h4', h5', h6, ⟨(g.1 _ _ (fun q => by omega)).trans h7.1, h7'⟩, h8.fr g (fun k q => by omega), h9', hR1, ?_⟩
  · show u.2.2 3 = 30 ∨ u.2.2 3 = 34
    omega
  · rw [← yLn_eq]
    exact hl i hi
  · show ((u.2.2 3 = 30 ∧ u.2.2 2 = 34) ∨ (u.2.2 3 = 34 ∧ u.2.2 2 = 30))
    omega
theorem i_S2 (u v : ab_S) (h : Inv u v) : ∃ (r : Int32) (u1 v1 : ab_S), fX9_year u = some (r, u1) ∧ fX10_year v = some (r, v1) ∧ Inv u1 v1 := by
  obtain ⟨Z, s, h⟩ := h
  have h := h.th
  have h' := h
  obtain ⟨⟨hE, hO, ho, hM, hc, hs, hv1⟩, -, -, -, -, -, hNm, hW, hT, hR1, hR2⟩ := h'
  obtain ⟨n, T, u1, v1, q1, q2, q3, q4, q5, q6⟩ := p_cut hT hW
  have er : u1.2.2 = u.2.2 := q5.2.2
  have hy : u.2.2 3 = 30 ∨ u.2.2 3 = 34 := by omega
  have ho6 : u.2.2 0 = 6 ∨ u.2.2 0 = 18 := by omega
  have f2 : Fr (fun a _ => a = u.2.2 3) u1 (sI u1 (u.2.2 3) 0 0) := Fr.sI rfl
  have g2 : Fr (fun _ _ => False) v1 v1 := Fr.rfl'
  have hO1 : toR Z (u.2.2 0) u (sI v 0 0 0) := ⟨hE.1, hE.2.1, ho6, hO.1, hO.2.1, hNm.1, hNm.2⟩
  have f3 : Fr (fun a k => dKu a k ∨ a = u.2.2 3) u (sI u1 (u.2.2 3) 0 0) := (q5.mono fun a k z => Or.inl z).trans (Fr.sI (Or.inr rfl))
  have hO2 : toR Z (u.2.2 0) (sI u1 (u.2.2 3) 0 0) v1 := hO1.fr f3 q6 (fun a k z1 z2 q => by unfold dKu at q; omega) (fun k => ⟨fun q => by unfold dKv at q; omega, fun q => by unfold dKv at q; omega⟩) (fun q => by unfold dKv at q; omega)
  have hr2 : pR n T 0 (sI u1 (u.2.2 3) 0 0) v1 := q3.fr f2 g2 (fun a k z q => by unfold oPu at z; omega) (fun a k z q => q)
  have hTn : T ≤ 1000 := Nat.le_trans q3.1.1 q3.1.2.1
  have ecl : ∀ r, fX8_readLines_7 (u.2.2 3) (u.2.2 0) fu 0 (sI u1 (u.2.2 3) 0 0) = some r → fX9_year u = bif decide (r.1 = 0) then (some (0, (sM (sM r.2 2 (r.2.2.2 3)) 3 (r.2.2.2 2)))) else (some (r.1, r.2)) := by
    intro r hr
    unfold fX9_year fX8_readLines
    rw [q1]
    simp only [obs, er, hr]
  have emo : fX10_year v = fX10_year_11 fu 0 v1 := by
    unfold fX10_year
    rw [q2]
    simp only [obs]
  rw [emo]
  obtain ⟨u', v', m', z1, z2, z3, z4, z5, z6, z7, z8⟩ | ⟨f, u', v', z1, z2, z3, z4, z7, z8⟩ := y_loop hy ho6 T 0 0 0 fu fu (sI u1 (u.2.2 3) 0 0) v1 (by omega) (show T < 5000 by omega) (show T < 5000 by omega) hr2 hO2 (by rw [sI_at, if_pos ⟨rfl, rfl⟩]; rfl) (by omega) (Nat.le_refl 0) (fun j hj => by omega)
  · have hT2 : pTp u' v' := q4.fr (Fr.trans (f2.mono fun a k z => Or.inr ⟨Nat.le_of_eq z.symm, by omega⟩) z7) z8 (fun q => by omega) (fun k q => by omega) (fun q => by unfold dYV dSv at q; omega) (fun k q => by unfold dYV dSv at q; omega)
    have hI : InvZ Z s u' v' := h.rd ((f3.mono fun a k q => by unfold dKu at q; unfold rdU; omega).trans (z7.mono fun a k q => by unfold dYU at q; unfold rdU; omega)) ((q6.mono fun a k q => by unfold dKv at q; unfold rdV; omega).trans (z8.mono fun a k q => by unfold dYV dSv at q; unfold rdV; omega)) hT2
    have e4 : u'.2.2 = u.2.2 := z7.2.2.trans (f3.2.2)
    obtain ⟨v2, b1, b2, b3, b4, b5⟩ := m_take118 m' z4 (3 * m') 0 fu (sI v' 13 0 (nI m')) (by omega) (show 3 * m' < 5000 by omega)
    have gT : Fr (fun a _ => a = 13) v' v2 := (Fr.sI (D := fun a _ => a = 13) rfl).trans b5
    have z1' : fX8_readLines_7 (u.2.2 3) (u.2.2 0) fu 0 (sI u1 (u.2.2 3) 0 0) = some (0, u') := z1
    have z2' : fX10_year_11 fu 0 v1 = fX10_year_97 (nI m') v' := z2
    have b1' : fX10_year_118 fu (nI m') 0 (sI v' 13 0 (nI m')) = some (0, v2) := b1
    refine ⟨0, sM (sM u' 2 (u'.2.2 3)) 3 (u'.2.2 2), v2, ?_, ?_, Z, s, hI.newY z4 gT (by rw [e4]; exact z5) (by rw [b4, sI_at, if_pos ⟨rfl, rfl⟩]) fun j hj => ?_⟩
    · rw [ecl _ z1']
      simp only [i10, i00, decide_true, decide_false, cnd_t, cnd_f, gd_nil, gd_t, b1_0, b1_1, sw_nil, sw_cons, obs]
    · rw [z2']
      unfold fX10_year_97
      simp only [z3, show ((0 : Int32) ≤ 0) = True from eq_true (by decide +kernel), show ab_ix 0 250 = true by decide +kernel, show nc 0 = 0 by decide +kernel, i10, i00, decide_true, decide_false, cnd_t, cnd_f, gd_nil, gd_t, b1_0, b1_1, sw_nil, sw_cons, obs, b1']
    · rw [e4]
      have h6 := z6 j hj
      have k0 := b2 (3 * j) (Nat.zero_le _) (by omega)
      have k1 := b2 (1 + 3 * j) (Nat.zero_le _) (by omega)
      have k2 := b2 (2 + 3 * j) (Nat.zero_le _) (by omega)
      rw [sI_at, if_neg (by omega)] at k0 k1 k2
      unfold yLn at h6 ⊢
      rw [k0, show 1 + 1 + 3 * j = 1 + (1 + 3 * j) by omega, k1, show 1 + 2 + 3 * j = 1 + (2 + 3 * j) by omega, k2, show 125 + (1 + 3 * j) = 125 + 1 + 3 * j by omega, show 125 + (2 + 3 * j) = 125 + 2 + 3 * j by omega]
      exact h6
  · have hT2 : pTp u' v' := q4.fr (Fr.trans (f2.mono fun a k z => Or.inr ⟨Nat.le_of_eq z.symm, by omega⟩) z7) z8 (fun q => by omega) (fun k q => by omega) (fun q => by unfold dYV dSv at q; omega) (fun k q => by unfold dYV dSv at q; omega)
    have hI : InvZ Z s u' v' := h.rd ((f3.mono fun a k q => by unfold dKu at q; unfold rdU; omega).trans (z7.mono fun a k q => by unfold dYU at q; unfold rdU; omega)) ((q6.mono fun a k q => by unfold dKv at q; unfold rdV; omega).trans (z8.mono fun a k q => by unfold dYV dSv at q; unfold rdV; omega)) hT2
    have z1' : fX8_readLines_7 (u.2.2 3) (u.2.2 0) fu 0 (sI u1 (u.2.2 3) 0 0) = some (nI f, u') := z1
    have z2' : fX10_year_11 fu 0 v1 = some (nI f, v') := z2
    refine ⟨nI f, u', v', ?_, z2', Z, s, hI⟩
    rw [ecl _ z1']
    have nf : (nI f = 0) = False := eq_false fun z => by
      have := (nI_eq (b := 0) (show f < 2 ^ 31 by omega) (by decide)).mp z
      omega
    simp only [nf, i10, i00, decide_true, decide_false, cnd_t, cnd_f, gd_nil, gd_t, b1_0, b1_1, sw_nil, sw_cons, obs]
end PU
