/-! quarters going by, on the trial's standing -/
def dCu (a _k : Nat) : Prop := (42 ≤ a ∧ a < 46) ∨ (150 ≤ a ∧ a < 154)
def dMu (a k : Nat) : Prop := a = 14 ∨ (a = 15 ∨ ((a = 16 ∧ 987 ≤ k) ∨ ((18 ≤ a ∧ a ≤ 22) ∨ (a = 0 ∧ (k = 0 ∨ k = 32)))))
def qT (x y : Option (Int32 × ab_S)) (u v : ab_S) : Prop := ∃ r u' v', x = some (r, u') ∧ y = some (r, v') ∧ Fr dCu u u' ∧ Fr dMu v v'
theorem th_mu {v : ab_S} {x : Int32} : Fr dMu v (sI v 0 0 x) := Fr.sI (Or.inr (Or.inr (Or.inr (Or.inr ⟨rfl, Or.inl rfl⟩))))
theorem Sc.mu {v v' : ab_S} (h : Sc v v') : Fr dMu v v' := h.mono fun a k q => by
  rcases q with q | q
  · exact Or.inl q
  · exact Or.inr (Or.inl q)
theorem Fm.mu {b : Nat} {v v' : ab_S} (h : Fm b v v') (hb : 987 ≤ b) : Fr dMu v v' := h.mono fun a k q => by
  rcases q with q | q | q
  · exact Or.inl q
  · exact Or.inr (Or.inl q)
  · exact Or.inr (Or.inr (Or.inl ⟨q.1, by omega⟩))
theorem Fc.cu {u u' : ab_S} (h : Fc 42 u u') : Fr dCu u u' := h.mono fun a k q => Or.inl q
theorem qP.T {x y : Option (Int32 × ab_S)} {u v : ab_S} (h : qP x u y (sI v 0 0 0)) : qT x y u v := by
  obtain ⟨r, h1, r', v', h2, h3, h4⟩ := h
  subst h3
  exact ⟨r', u, v', h1, h2, Fr.rfl', th_mu.trans (Sc.mu h4)⟩
theorem qT.tr {x y : Option (Int32 × ab_S)} {u v u1 v1 : ab_S} (h : qT x y u1 v1) (f : Fr dCu u u1) (g : Fr dMu v v1) : qT x y u v := by
  obtain ⟨r, u', v', h1, h2, h3, h4⟩ := h
  exact ⟨r, u', v', h1, h2, f.trans h3, g.trans h4⟩
theorem qT.ret {r : Int32} {u v : ab_S} : qT (some (r, u)) (some (r, v)) u v := ⟨r, u, v, rfl, rfl, Fr.rfl', Fr.rfl'⟩
theorem qT.post {x y : Option (Int32 × ab_S)} {u v : ab_S} (h : qT x y u v) : qT (x.bind fun q => some (q.1, q.2)) (y.bind fun q => some (q.1, q.2)) u v := by
  obtain ⟨r, u', v', h1, h2, h3, h4⟩ := h
  exact ⟨r, u', v', obnd h1 rfl, obnd h2 rfl, h3, h4⟩
theorem in_p {k n : Nat} (h1 : 1 ≤ k) (h : k ≤ n) (hn : n < 2147483648) : (!decide (nI k < 1) && decide (nI k ≤ nI n)) = true := by
  have e : ¬ k < 1 := by omega
  simp (disch := first | omega | decide) only [nI_lto, nI_le2, h, e, decide_true, decide_false, Bool.not_false, Bool.and_self]
def pT (Z : dZ) (b : Nat) (s t : Nat → Int32) (u v : ab_S) : Prop := pN Z s u v ∧ (pc_S 42 t u ∧ (pm_S b t v ∧ pv_S Z t))
section PU
variable {Z : dZ} {s t : Nat → Int32} {u v : ab_S} {b : Nat}
theorem pN.fr (h : pN Z s u v) {u' v' : ab_S} (f : Fr dCu u u') (g : Fr dMu v v') : pN Z s u' v' := by
  obtain ⟨hE, hO, ho, hm, hc, hs, hv⟩ := h
  have e : u'.2.2 = u.2.2 := f.2.2
  refine ⟨hE, ?_, ?_, hm.fr g ?_, hc.fr f ?_, hs.fr g ?_, hv⟩
  · rw [e]
    exact hO.fr f (by intro a k h1 h2 q; rcases q with q | q <;> omega)
  · rw [e]; exact ho
  · intro a k h1 h2 q
    rcases q with q | q | q | q | q <;> omega
  · intro a k h1 h2 q
    rcases q with q | q <;> omega
  · intro k h1 q
    rcases q with q | q | q | q | q <;> omega
theorem pass_t (hb : b = 987 ∨ b = 1034) (h : pT Z b s t u v) : ∃ r t' u' v', fX5_passQuarter 42 (u.2.2 0) u = some (r, u') ∧ fX10_passes (nI b) v = some (r, v') ∧ pT Z b s t' u' v' ∧ (r = -1 ∨ ∃ p, p < Z.1 ∧ r = nI p) ∧ Fr dCu u u' ∧ Fr dMu v v' := by
  obtain ⟨hN, hc, hs, hv⟩ := h
  have hb2 : b ≤ 1050 := by omega
  have ho : u.2.2 0 + 12 ≤ 42 := by have := hN.2.2.1; omega
  obtain ⟨r, t', hv', hr, ⟨u', q1, f1, s1⟩, r', v', q2, e2, f2, s2⟩ := pass_rel hN.1 ho hb2 hN.2.1 hN.2.2.2.1 hc hs hv
  subst e2
  exact ⟨r', t', u', v', q1, q2, ⟨hN.fr (Fc.cu f1) (Fm.mu f2 (by omega)), s1, s2, hv'⟩, hr, Fc.cu f1, Fm.mu f2 (by omega)⟩
theorem pass987 (h : pT Z 987 s t u v) : ∃ r t' u' v', fX5_passQuarter 42 (u.2.2 0) u = some (r, u') ∧ fX10_passes 987 v = some (r, v') ∧ pT Z 987 s t' u' v' ∧ (r = -1 ∨ ∃ p, p < Z.1 ∧ r = nI p) ∧ Fr dCu u u' ∧ Fr dMu v v' := pass_t (b := 987) (Or.inl rfl) h
theorem pass1034 (h : pT Z 1034 s t u v) : ∃ r t' u' v', fX5_passQuarter 42 (u.2.2 0) u = some (r, u') ∧ fX10_passes 1034 v = some (r, v') ∧ pT Z 1034 s t' u' v' ∧ (r = -1 ∨ ∃ p, p < Z.1 ∧ r = nI p) ∧ Fr dCu u u' ∧ Fr dMu v v' := pass_t (b := 1034) (Or.inr rfl) h
theorem tries_t (hb : b = 987 ∨ b = 1034) (hN : pN Z s u v) : ∃ u' v', fX5_copyOf 42 38 u = some ((), u') ∧ fX10_copies 0 (nI b) 22 v = some ((), v') ∧ pT Z b s s u' v' ∧ Fr dCu u u' ∧ Fr dMu v v' := by
  obtain ⟨u', q1, f1, s1⟩ := c_copyOf (o0 := 42) (Or.inr (by omega)) hN.2.2.2.2.1
  obtain ⟨v', q2, f2, s2⟩ := m_copyS (f := 0) (t := b) (by omega) (by omega) (by omega) hN.2.2.2.2.2.1
  have g2 : Fr dMu v v' := f2.mono fun a k z => Or.inr (Or.inr (Or.inl ⟨z.1, by omega⟩))
  exact ⟨u', v', q1, q2, ⟨hN.fr (Fc.cu f1) g2, s1, s2, hN.2.2.2.2.2.2⟩, Fc.cu f1, g2⟩
theorem tries987 (hN : pN Z s u v) : ∃ u' v', fX5_copyOf 42 38 u = some ((), u') ∧ fX10_triesNow v = some ((), v') ∧ pT Z 987 s s u' v' ∧ Fr dCu u u' ∧ Fr dMu v v' := by
  obtain ⟨u', v', q1, q2, h⟩ := tries_t (b := 987) (Or.inl rfl) hN
  refine ⟨u', v', q1, ?_, h⟩
  unfold fX10_triesNow
  exact obnd q2 rfl
-- ===== winner =====
theorem q_winner25 {q : Nat} (hq : q ≤ 60) : ∀ (d i n m : Nat) (w : Int32) (t : Nat → Int32) (u v : ab_S), pT Z 987 s t u v → i + d = q → d < n → d < m → qT (fX9_winner_28 n (nI q) w (nI i) u) (fX10_winner_25 m (nI q) w (nI i) v) u v := by
  intro d
  induction d with
  | zero =>
    intro i n m w t u v h hi hn hm
    obtain ⟨n, rfl⟩ : ∃ j, n = j + 1 := ⟨n - 1, by omega⟩
    obtain ⟨m, rfl⟩ : ∃ j, m = j + 1 := ⟨m - 1, by omega⟩
    have e : i = q := by omega
    subst e
    rw [fX9_winner_28, fX10_winner_25]
    simp (disch := first | omega | decide) only [i10, i00, decide_true, decide_false, cnd_t, cnd_f, gd_nil, gd_t, b1_0, b1_1, sw_nil, sw_cons, obs, Nat.not_lt_zero, nI_addo, nI_oadd, nI_add, nI_mulo, nI_omul, nI_mul, nI_lto, nI_leo, nI_olt, nI_ole, nI_eqo, nI_oeq, nI_lt2, nI_le2, nI_eq2, nI_nm1, nI_m1n, nI_lt0, nI_lem1, nc_nI, nc_o, ix_nI, ix_o, Nat.lt_irrefl]
    exact qT.ret
  | succ d ih =>
    intro i n m w t u v h hi hn hm
    obtain ⟨n, rfl⟩ : ∃ j, n = j + 1 := ⟨n - 1, by omega⟩
    obtain ⟨m, rfl⟩ : ∃ j, m = j + 1 := ⟨m - 1, by omega⟩
    have e : i < q := by omega
    obtain ⟨r, t', u', v', q1, q2, h', hr, f1, f2⟩ := pass987 h
    rw [fX9_winner_28, fX10_winner_25]
    simp (disch := first | omega | decide) only [i10, i00, decide_true, decide_false, cnd_t, cnd_f, gd_nil, gd_t, b1_0, b1_1, sw_nil, sw_cons, obs, nI_lt2, e, q1, q2, nI_addo]
    exact (ih (i + 1) n m _ t' u' v' h' (by omega) (by omega) (by omega)).tr f1 f2
theorem q_winner (hN : pN Z s u v) (x : Int32) : qT (fX9_winner x u) (fX10_winner x v) u v := by
  have hN0 := hN.th (x := 0)
  unfold fX9_winner fX10_winner
  simp only [fX10_in, obs, show (60 : Int32) = nI 60 from rfl]
  rcases rng1 x 60 (by decide) with ⟨k, k1, k2, rfl⟩ | hy
  · have e1 : ¬ k < 1 := by omega
    rw [in_p k1 k2 (by decide)]
    simp (disch := first | omega | decide) only [i10, i00, decide_true, decide_false, cnd_t, cnd_f, gd_nil, gd_t, b1_0, b1_1, sw_nil, sw_cons, obs, nI_lto, nI_le2, e1, k2, b01_t]
    obtain ⟨u', v', q1, q2, h, f1, f2⟩ := tries987 hN0
    rw [q1, q2]
    simp only [obs]
    exact (q_winner25 k2 k 0 fu fu _ _ u' v' h (Nat.zero_add _) (by simp only [fu]; omega) (by simp only [fu]; omega)).tr f1 (th_mu.trans f2)
  · rcases hy with hy | ⟨hy1, hy2⟩
    · simp only [hy, i10, i00, decide_true, decide_false, cnd_t, cnd_f, gd_nil, gd_t, b1_0, b1_1, sw_nil, sw_cons, obs, Bool.not_true, Bool.false_and, b01_f]
      exact qT.ret.tr Fr.rfl' th_mu
    · simp only [hy1, hy2, i10, i00, decide_true, decide_false, cnd_t, cnd_f, gd_nil, gd_t, b1_0, b1_1, sw_nil, sw_cons, obs, Bool.not_false, Bool.and_false, b01_f]
      exact qT.ret.tr Fr.rfl' th_mu
-- ===== where =====
theorem q_where32 {q k : Nat} (hq : q ≤ 60) (hk : k < 8) : ∀ (d i n m : Nat) (t : Nat → Int32) (u v : ab_S), pT Z 987 s t u v → i + d = q → d < n → d < m → qT (fX9_where_37 n (nI k) (nI q) (nI i) u) (fX10_where_32 m (nI k) (nI q) (nI i) v) u v := by
  intro d
  induction d with
  | zero =>
    intro i n m t u v h hi hn hm
    obtain ⟨n, rfl⟩ : ∃ j, n = j + 1 := ⟨n - 1, by omega⟩
    obtain ⟨m, rfl⟩ : ∃ j, m = j + 1 := ⟨m - 1, by omega⟩
    have e : i = q := by omega
    subst e
    rw [fX9_where_37, fX10_where_32]
    simp (disch := first | omega | decide) only [i10, i00, decide_true, decide_false, cnd_t, cnd_f, gd_nil, gd_t, b1_0, b1_1, sw_nil, sw_cons, obs, Nat.not_lt_zero, nI_addo, nI_oadd, nI_add, nI_mulo, nI_omul, nI_mul, nI_lto, nI_leo, nI_olt, nI_ole, nI_eqo, nI_oeq, nI_lt2, nI_le2, nI_eq2, nI_nm1, nI_m1n, nI_lt0, nI_lem1, nc_nI, nc_o, ix_nI, ix_o, Nat.lt_irrefl, h.2.2.1.at (k := 2 + k) (by omega) (show 989 + k = 987 + (2 + k) by omega)]
    rw [c_hold h.2.1 hk]
    exact qT.ret
  | succ d ih =>
    intro i n m t u v h hi hn hm
    obtain ⟨n, rfl⟩ : ∃ j, n = j + 1 := ⟨n - 1, by omega⟩
    obtain ⟨m, rfl⟩ : ∃ j, m = j + 1 := ⟨m - 1, by omega⟩
    have e : i < q := by omega
    obtain ⟨r, t', u', v', q1, q2, h', hr, f1, f2⟩ := pass987 h
    rw [fX9_where_37, fX10_where_32]
    simp (disch := first | omega | decide) only [i10, i00, decide_true, decide_false, cnd_t, cnd_f, gd_nil, gd_t, b1_0, b1_1, sw_nil, sw_cons, obs, nI_lt2, e, q1, q2, nI_addo]
    exact (ih (i + 1) n m t' u' v' h' (by omega) (by omega) (by omega)).tr f1 f2
theorem q_where (hN : pN Z s u v) (x y : Int32) : qT (fX9_where x y u) (fX10_where x y v) u v := by
  have hN0 := hN.th (x := 0)
  have hg := hN.1.2.1
  unfold fX9_where fX10_where
  rcases isG Z hg x with ⟨p, hp, rfl⟩ | hx
  · rw [c_hasG1 hN0.1 hN0.2.1 hp, m_isG1 hN0.1 hN0.2.2.2.1 hp]
    simp only [i10, i00, decide_true, decide_false, cnd_t, cnd_f, gd_nil, gd_t, b1_0, b1_1, sw_nil, sw_cons, obs, fX10_in, show (60 : Int32) = nI 60 from rfl]
    rcases rng0 y 60 (by decide) with ⟨k, k2, rfl⟩ | hy
    · rw [in_t k2 (by decide)]
      simp (disch := first | omega | decide) only [i10, i00, decide_true, decide_false, cnd_t, cnd_f, gd_nil, gd_t, b1_0, b1_1, sw_nil, sw_cons, obs, nI_lt0, nI_le2, k2, b01_t]
      obtain ⟨u', v', q1, q2, h, f1, f2⟩ := tries987 hN0
      rw [q1, q2]
      simp only [obs]
      exact (q_where32 k2 (by omega) k 0 fu fu _ u' v' h (Nat.zero_add _) (by simp only [fu]; omega) (by simp only [fu]; omega)).tr f1 (th_mu.trans f2)
    · rcases hy with hy | ⟨hy1, hy2⟩
      · simp only [hy, i10, i00, decide_true, decide_false, cnd_t, cnd_f, gd_nil, gd_t, b1_0, b1_1, sw_nil, sw_cons, obs, Bool.not_true, Bool.false_and, b01_f]
        exact qT.ret.tr Fr.rfl' th_mu
      · simp only [hy1, hy2, i10, i00, decide_true, decide_false, cnd_t, cnd_f, gd_nil, gd_t, b1_0, b1_1, sw_nil, sw_cons, obs, Bool.not_false, Bool.and_false, b01_f]
        exact qT.ret.tr Fr.rfl' th_mu
  · rw [c_hasG0 hN0.2.1 hx, m_isG0 hN0.1 hN0.2.2.2.1 hx]
    simp only [i10, i00, decide_true, decide_false, cnd_t, cnd_f, gd_nil, gd_t, b1_0, b1_1, sw_nil, sw_cons, obs]
    exact qT.ret.tr Fr.rfl' th_mu
-- ===== has =====
theorem q_has11 {p k : Nat} (hp : p < Z.1) (hk : k < Z.2.1) : ∀ (d i n m : Nat) (t : Nat → Int32) (u v : ab_S), pT Z 987 s t u v → i + d = 61 → d < n → d < m → qT (fX9_has_37 n (nI p) (nI k) (nI i) u) (fX10_has_11 m (nI p) (nI k) (nI i) v) u v := by
  intro d
  induction d with
  | zero =>
    intro i n m t u v h hi hn hm
    obtain ⟨n, rfl⟩ : ∃ j, n = j + 1 := ⟨n - 1, by omega⟩
    obtain ⟨m, rfl⟩ : ∃ j, m = j + 1 := ⟨m - 1, by omega⟩
    have e : ¬ i ≤ 60 := by omega
    rw [fX9_has_37, fX10_has_11]
    simp (disch := first | omega | decide) only [i10, i00, decide_true, decide_false, cnd_t, cnd_f, gd_nil, gd_t, b1_0, b1_1, sw_nil, sw_cons, obs, nI_leo, e]
    exact qT.ret
  | succ d ih =>
    intro i n m t u v h hi hn hm
    obtain ⟨n, rfl⟩ : ∃ j, n = j + 1 := ⟨n - 1, by omega⟩
    obtain ⟨m, rfl⟩ : ∃ j, m = j + 1 := ⟨m - 1, by omega⟩
    have e : i ≤ 60 := by omega
    have hg := h.1.1.2.1
    obtain ⟨r, t', u', v', q1, q2, h', hr, f1, f2⟩ := pass987 h
    rw [fX9_has_37, fX10_has_11, c_hold h.2.1 (by omega), m_isP1 h.1.1 h.1.2.2.2.1 hp]
    simp (disch := first | omega | decide) only [i10, i00, decide_true, decide_false, cnd_t, cnd_f, gd_nil, gd_t, b1_0, b1_1, sw_nil, sw_cons, obs, nI_leo, e]
    rw [m_isG1 h.1.1 h.1.2.2.2.1 hk]
    simp (disch := first | omega | decide) only [i10, i00, decide_true, decide_false, cnd_t, cnd_f, gd_nil, gd_t, b1_0, b1_1, sw_nil, sw_cons, obs, nI_oadd, ix_nI, nc_nI, h.2.2.1.at (k := 2 + k) (by omega) (show 989 + k = 987 + (2 + k) by omega)]
    by_cases e2 : t (2 + k) = nI p
    · simp only [e2, i10, i00, decide_true, decide_false, cnd_t, cnd_f, gd_nil, gd_t, b1_0, b1_1, sw_nil, sw_cons, obs]
      exact qT.ret
    · simp only [e2, i10, i00, decide_true, decide_false, cnd_t, cnd_f, gd_nil, gd_t, b1_0, b1_1, sw_nil, sw_cons, obs, q1, q2, nI_addo]
      exact (ih (i + 1) n m t' u' v' h' (by omega) (by omega) (by omega)).tr f1 f2
theorem q_has (hN : pN Z s u v) (x y : Int32) : qT (fX9_has x y u) (fX10_has x y v) u v := by
  have hN0 := hN.th (x := 0)
  obtain ⟨u', v', q1, q2, h, f1, f2⟩ := tries987 hN0
  have e0 : ((0 : Int32) ≤ 60) = True := eq_true (by decide +kernel)
  have f5 : fu = 4999 + 1 := rfl
  unfold fX9_has fX10_has
  rw [q2]
  simp only [obs]
  rcases isP Z hN.1.1 x with ⟨p, hp, rfl⟩ | hx
  · rw [c_hasP1 hN0.1 hN0.2.1 hp]
    simp only [i10, i00, decide_true, decide_false, cnd_t, cnd_f, gd_nil, gd_t, b1_0, b1_1, sw_nil, sw_cons, obs]
    rcases isG Z hN.1.2.1 y with ⟨k, hk, rfl⟩ | hy
    · rw [c_hasG1 hN0.1 hN0.2.1 hk]
      simp only [i10, i00, decide_true, decide_false, cnd_t, cnd_f, gd_nil, gd_t, b1_0, b1_1, sw_nil, sw_cons, obs]
      rw [q1]
      simp only [obs]
      exact (q_has11 hp hk 61 0 fu fu _ u' v' h rfl (by decide) (by decide)).tr f1 (th_mu.trans f2)
    · rw [c_hasG0 hN0.2.1 hy, f5, fX10_has_11, m_isP1 h.1.1 h.1.2.2.2.1 hp]
      simp only [i10, i00, decide_true, decide_false, cnd_t, cnd_f, gd_nil, gd_t, b1_0, b1_1, sw_nil, sw_cons, obs, e0]
      rw [m_isG0 h.1.1 h.1.2.2.2.1 hy]
      simp only [i10, i00, decide_true, decide_false, cnd_t, cnd_f, gd_nil, gd_t, b1_0, b1_1, sw_nil, sw_cons, obs]
      exact qT.ret.tr Fr.rfl' (th_mu.trans f2)
  · rw [c_hasP0 hN0.2.1 hx, f5, fX10_has_11, m_isP0 h.1.1 h.1.2.2.2.1 hx]
    simp only [i10, i00, decide_true, decide_false, cnd_t, cnd_f, gd_nil, gd_t, b1_0, b1_1, sw_nil, sw_cons, obs, e0]
    exact qT.ret.tr Fr.rfl' (th_mu.trans f2)
-- ===== home, empty =====
theorem nI_set {a c : Nat} (ha : a < 256) (hc : c < 256) : (nI a = nI c) = (a = c) := propext (nI_eq2 (by omega) (by omega))
theorem m_rights987 (h : pT Z 987 s t u v) : fX10_rightsOf 987 v = some (nI (rS Z t), v) := m_rights (b := 987) h.1.1 h.1.2.2.2.1 h.2.2.1 (by decide)
theorem m_held987 (h : pT Z 987 s t u v) (x : Int32) : fX10_heldBy 987 x v = some (nI (hS Z t x), v) := m_held (b := 987) h.1.1 h.1.2.2.2.1 h.2.2.1 (by decide) x
theorem q_home11 : ∀ (d i n m : Nat) (t : Nat → Int32) (u v : ab_S), pT Z 987 s t u v → i + d = 61 → d < n → d < m → qT (fX9_home_13 n (nI i) u) (fX10_home_11 m (nI i) v) u v := by
  intro d
  induction d with
  | zero =>
    intro i n m t u v h hi hn hm
    obtain ⟨n, rfl⟩ : ∃ j, n = j + 1 := ⟨n - 1, by omega⟩
    obtain ⟨m, rfl⟩ : ∃ j, m = j + 1 := ⟨m - 1, by omega⟩
    have e : ¬ i ≤ 60 := by omega
    rw [fX9_home_13, fX10_home_11]
    simp (disch := first | omega | decide) only [i10, i00, decide_true, decide_false, cnd_t, cnd_f, gd_nil, gd_t, b1_0, b1_1, sw_nil, sw_cons, obs, nI_leo, e]
    exact qT.ret
  | succ d ih =>
    intro i n m t u v h hi hn hm
    obtain ⟨n, rfl⟩ : ∃ j, n = j + 1 := ⟨n - 1, by omega⟩
    obtain ⟨m, rfl⟩ : ∃ j, m = j + 1 := ⟨m - 1, by omega⟩
    have e : i ≤ 60 := by omega
    have hg := h.1.1.2.1
    obtain ⟨r, t', u', v', q1, q2, h', hr, f1, f2⟩ := pass987 h
    rw [fX9_home_13, fX10_home_11, c_rights h.1.1 h.1.2.1 h.2.1, m_rights987 h]
    simp (disch := first | omega | decide) only [i10, i00, decide_true, decide_false, cnd_t, cnd_f, gd_nil, gd_t, b1_0, b1_1, sw_nil, sw_cons, obs, nI_leo, e]
    rw [m_goods h.1.1 h.1.2.2.2.1]
    unfold fX2_allGoods
    rw [h.1.2.1.2.1]
    simp only [i10, i00, decide_true, decide_false, cnd_t, cnd_f, gd_nil, gd_t, b1_0, b1_1, sw_nil, sw_cons, obs, zb_all hg]
    by_cases e2 : nI (rS Z t) = nI (2 ^ Z.2.1 - 1)
    · simp only [e2, i10, i00, decide_true, decide_false, cnd_t, cnd_f, gd_nil, gd_t, b1_0, b1_1, sw_nil, sw_cons, obs]
      exact qT.ret
    · simp only [e2, i10, i00, decide_true, decide_false, cnd_t, cnd_f, gd_nil, gd_t, b1_0, b1_1, sw_nil, sw_cons, obs, q1, q2, nI_addo]
      exact (ih (i + 1) n m t' u' v' h' (by omega) (by omega) (by omega)).tr f1 f2
theorem q_home (hN : pN Z s u v) : qT (fX9_home u) (fX10_home v) u v := by
  have hN0 := hN.th (x := 0)
  obtain ⟨u', v', q1, q2, h, f1, f2⟩ := tries987 hN0
  unfold fX9_home fX10_home
  rw [q1, q2]
  simp only [obs]
  exact (q_home11 61 0 fu fu _ u' v' h rfl (by decide) (by decide)).tr f1 (th_mu.trans f2)
theorem hB_all (hE : pE Z) : (hB Z t = 2 ^ Z.2.1 - 1) ↔ hS Z t (-1) = 0 := by
  constructor
  · intro h
    apply bit_ext
    intro k
    have h2 := congrArg (fun m => m.testBit k) h
    simp only [all_bit, hB_bit] at h2
    rw [hS_bit, Nat.zero_testBit]
    cases e1 : decide (k < Z.2.1)
    · rfl
    · rw [e1] at h2
      cases e2 : decide (t (2 + k) = -1)
      · rfl
      · rw [e2] at h2
        cases h2
  · intro h
    apply bit_ext
    intro k
    have h2 := congrArg (fun m => m.testBit k) h
    simp only [hS_bit, Nat.zero_testBit] at h2
    rw [all_bit, hB_bit]
    cases e1 : decide (k < Z.2.1)
    · rfl
    · rw [e1] at h2
      cases e2 : decide (t (2 + k) = -1)
      · rfl
      · rw [e2] at h2
        cases h2
theorem q_empty11 : ∀ (d i n m : Nat) (t : Nat → Int32) (u v : ab_S), pT Z 987 s t u v → i + d = 61 → d < n → d < m → qT (fX9_empty_13 n (nI i) u) (fX10_empty_11 m (nI i) v) u v := by
  intro d
  induction d with
  | zero =>
    intro i n m t u v h hi hn hm
    obtain ⟨n, rfl⟩ : ∃ j, n = j + 1 := ⟨n - 1, by omega⟩
    obtain ⟨m, rfl⟩ : ∃ j, m = j + 1 := ⟨m - 1, by omega⟩
    have e : ¬ i ≤ 60 := by omega
    rw [fX9_empty_13, fX10_empty_11]
    simp (disch := first | omega | decide) only [i10, i00, decide_true, decide_false, cnd_t, cnd_f, gd_nil, gd_t, b1_0, b1_1, sw_nil, sw_cons, obs, nI_leo, e]
    exact qT.ret
  | succ d ih =>
    intro i n m t u v h hi hn hm
    obtain ⟨n, rfl⟩ : ∃ j, n = j + 1 := ⟨n - 1, by omega⟩
    obtain ⟨m, rfl⟩ : ∃ j, m = j + 1 := ⟨m - 1, by omega⟩
    have e : i ≤ 60 := by omega
    have hg := h.1.1.2.1
    have h1 := hB_lt h.1.1 (s := t)
    have h2 := hS_lt h.1.1 (s := t) (-1)
    have hb := hB_all h.1.1 (t := t)
    obtain ⟨r, t', u', v', q1, q2, h', hr, f1, f2⟩ := pass987 h
    rw [fX9_empty_13, fX10_empty_11, c_heldB h.1.1 h.1.2.1 h.2.1, m_held987 h]
    simp (disch := first | omega | decide) only [i10, i00, decide_true, decide_false, cnd_t, cnd_f, gd_nil, gd_t, b1_0, b1_1, sw_nil, sw_cons, obs, nI_leo, e]
    unfold fX2_allGoods
    rw [h.1.2.1.2.1]
    simp (disch := first | omega | decide) only [i10, i00, decide_true, decide_false, cnd_t, cnd_f, gd_nil, gd_t, b1_0, b1_1, sw_nil, sw_cons, obs, zb_all hg, nI_set h1 (all_lt hg), nI_eqo, hb]
    by_cases e2 : hS Z t (-1) = 0
    · simp only [e2, i10, i00, decide_true, decide_false, cnd_t, cnd_f, gd_nil, gd_t, b1_0, b1_1, sw_nil, sw_cons, obs]
      exact qT.ret
    · simp only [e2, i10, i00, decide_true, decide_false, cnd_t, cnd_f, gd_nil, gd_t, b1_0, b1_1, sw_nil, sw_cons, obs, q1, q2, nI_addo]
      exact (ih (i + 1) n m t' u' v' h' (by omega) (by omega) (by omega)).tr f1 f2
theorem q_empty (hN : pN Z s u v) : qT (fX9_empty u) (fX10_empty v) u v := by
  have hN0 := hN.th (x := 0)
  obtain ⟨u', v', q1, q2, h, f1, f2⟩ := tries987 hN0
  unfold fX9_empty fX10_empty
  rw [q1, q2]
  simp only [obs]
  exact (q_empty11 61 0 fu fu _ u' v' h rfl (by decide) (by decide)).tr f1 (th_mu.trans f2)
-- ===== won =====
theorem q_won34 {q : Nat} {x : Int32} (hq : q ≤ 60) : ∀ (d i n m : Nat) (w : Int32) (t : Nat → Int32) (u v : ab_S), pT Z 987 s t u v → i + d = q → d < n → d < m → qT (fX9_won_40 n x (nI q) w (nI i) u) (fX10_won_34 m x (nI q) w (nI i) v) u v := by
  intro d
  induction d with
  | zero =>
    intro i n m w t u v h hi hn hm
    obtain ⟨n, rfl⟩ : ∃ j, n = j + 1 := ⟨n - 1, by omega⟩
    obtain ⟨m, rfl⟩ : ∃ j, m = j + 1 := ⟨m - 1, by omega⟩
    have e : i = q := by omega
    subst e
    rw [fX9_won_40, fX10_won_34]
    simp (disch := first | omega | decide) only [i10, i00, decide_true, decide_false, cnd_t, cnd_f, gd_nil, gd_t, b1_0, b1_1, sw_nil, sw_cons, obs, Nat.not_lt_zero, nI_addo, nI_oadd, nI_add, nI_mulo, nI_omul, nI_mul, nI_lto, nI_leo, nI_olt, nI_ole, nI_eqo, nI_oeq, nI_lt2, nI_le2, nI_eq2, nI_nm1, nI_m1n, nI_lt0, nI_lem1, nc_nI, nc_o, ix_nI, ix_o, Nat.lt_irrefl]
    exact qT.ret
  | succ d ih =>
    intro i n m w t u v h hi hn hm
    obtain ⟨n, rfl⟩ : ∃ j, n = j + 1 := ⟨n - 1, by omega⟩
    obtain ⟨m, rfl⟩ : ∃ j, m = j + 1 := ⟨m - 1, by omega⟩
    have e : i < q := by omega
    obtain ⟨r, t', u', v', q1, q2, h', hr, f1, f2⟩ := pass987 h
    rw [fX9_won_40, fX10_won_34]
    simp (disch := first | omega | decide) only [i10, i00, decide_true, decide_false, cnd_t, cnd_f, gd_nil, gd_t, b1_0, b1_1, sw_nil, sw_cons, obs, nI_lt2, e, q1, q2, nI_addo]
    by_cases e2 : r = x
    · simp only [e2, i10, i00, decide_true, decide_false, cnd_t, cnd_f, gd_nil, gd_t, b1_0, b1_1, sw_nil, sw_cons, obs]
      exact (ih (i + 1) n m _ t' u' v' h' (by omega) (by omega) (by omega)).tr f1 f2
    · simp only [e2, i10, i00, decide_true, decide_false, cnd_t, cnd_f, gd_nil, gd_t, b1_0, b1_1, sw_nil, sw_cons, obs, Int32.add_zero]
      exact (ih (i + 1) n m _ t' u' v' h' (by omega) (by omega) (by omega)).tr f1 f2
theorem q_won (hN : pN Z s u v) (x y : Int32) : qT (fX9_won x y u) (fX10_won x y v) u v := by
  have hN0 := hN.th (x := 0)
  unfold fX9_won fX10_won
  rcases isP Z hN.1.1 x with ⟨p, hp, rfl⟩ | hx
  · rw [c_hasP1 hN0.1 hN0.2.1 hp, m_isP1 hN0.1 hN0.2.2.2.1 hp]
    simp only [i10, i00, decide_true, decide_false, cnd_t, cnd_f, gd_nil, gd_t, b1_0, b1_1, sw_nil, sw_cons, obs, fX10_in, show (60 : Int32) = nI 60 from rfl]
    rcases rng1 y 60 (by decide) with ⟨k, k1, k2, rfl⟩ | hy
    · have e1 : ¬ k < 1 := by omega
      rw [in_p k1 k2 (by decide)]
      simp (disch := first | omega | decide) only [i10, i00, decide_true, decide_false, cnd_t, cnd_f, gd_nil, gd_t, b1_0, b1_1, sw_nil, sw_cons, obs, nI_lto, nI_le2, e1, k2, b01_t]
      obtain ⟨u', v', q1, q2, h, f1, f2⟩ := tries987 hN0
      rw [q1, q2]
      simp only [obs]
      exact (q_won34 k2 k 0 fu fu _ _ u' v' h (Nat.zero_add _) (by simp only [fu]; omega) (by simp only [fu]; omega)).tr f1 (th_mu.trans f2)
    · rcases hy with hy | ⟨hy1, hy2⟩
      · simp only [hy, i10, i00, decide_true, decide_false, cnd_t, cnd_f, gd_nil, gd_t, b1_0, b1_1, sw_nil, sw_cons, obs, Bool.not_true, Bool.false_and, b01_f]
        exact qT.ret.tr Fr.rfl' th_mu
      · simp only [hy1, hy2, i10, i00, decide_true, decide_false, cnd_t, cnd_f, gd_nil, gd_t, b1_0, b1_1, sw_nil, sw_cons, obs, Bool.not_false, Bool.and_false, b01_f]
        exact qT.ret.tr Fr.rfl' th_mu
  · rw [c_hasP0 hN0.2.1 hx, m_isP0 hN0.1 hN0.2.2.2.1 hx]
    simp only [i10, i00, decide_true, decide_false, cnd_t, cnd_f, gd_nil, gd_t, b1_0, b1_1, sw_nil, sw_cons, obs]
    exact qT.ret.tr Fr.rfl' th_mu
-- ===== streak =====
theorem q_streak37 {q p : Nat} (hp : p < Z.1) (hq : q ≤ 60) : ∀ (d i n m a c : Nat) (t : Nat → Int32) (u v : ab_S), pT Z 987 s t u v → i + d = q → d < n → d < m → c ≤ a → a + d ≤ 60 → qT (fX9_streak_43 n (nI p) (nI q) (nI a) (nI c) (nI i) u) (fX10_streak_37 m (nI p) (nI q) (nI a) (nI c) (nI i) v) u v := by
  intro d
  induction d with
  | zero =>
    intro i n m a c t u v h hi hn hm ha hb
    obtain ⟨n, rfl⟩ : ∃ j, n = j + 1 := ⟨n - 1, by omega⟩
    obtain ⟨m, rfl⟩ : ∃ j, m = j + 1 := ⟨m - 1, by omega⟩
    have e : i = q := by omega
    subst e
    rw [fX9_streak_43, fX10_streak_37]
    simp (disch := first | omega | decide) only [i10, i00, decide_true, decide_false, cnd_t, cnd_f, gd_nil, gd_t, b1_0, b1_1, sw_nil, sw_cons, obs, Nat.not_lt_zero, nI_addo, nI_oadd, nI_add, nI_mulo, nI_omul, nI_mul, nI_lto, nI_leo, nI_olt, nI_ole, nI_eqo, nI_oeq, nI_lt2, nI_le2, nI_eq2, nI_nm1, nI_m1n, nI_lt0, nI_lem1, nc_nI, nc_o, ix_nI, ix_o, Nat.lt_irrefl]
    exact qT.ret
  | succ d ih =>
    intro i n m a c t u v h hi hn hm ha hb
    obtain ⟨n, rfl⟩ : ∃ j, n = j + 1 := ⟨n - 1, by omega⟩
    obtain ⟨m, rfl⟩ : ∃ j, m = j + 1 := ⟨m - 1, by omega⟩
    have e : i < q := by omega
    have hp6 := h.1.1.1
    obtain ⟨r, t', u', v', q1, q2, h', hr, f1, f2⟩ := pass987 h
    rw [fX9_streak_43, fX10_streak_37]
    simp (disch := first | omega | decide) only [i10, i00, decide_true, decide_false, cnd_t, cnd_f, gd_nil, gd_t, b1_0, b1_1, sw_nil, sw_cons, obs, nI_lt2, e, q1, q2, nI_addo]
    rcases hr with rfl | ⟨w, hw, rfl⟩
    · have e2 : ((-1 : Int32) = nI p) = False := eq_false (by
        intro z
        exact (nI_m1n (k := p) (by omega)).mp z)
      simp (disch := first | omega | decide) only [e2, m1lt0, i10, i00, decide_true, decide_false, cnd_t, cnd_f, gd_nil, gd_t, b1_0, b1_1, sw_nil, sw_cons, obs, fX10_streak_76, nI_le2, ha, nI_addo]
      exact (ih (i + 1) n m a c t' u' v' h' (by omega) (by omega) (by omega) ha (by omega)).tr f1 f2
    · simp (disch := first | omega | decide) only [nI_nm1, nI_lt0, nI_eq2, i10, i00, decide_true, decide_false, cnd_t, cnd_f, gd_nil, gd_t, b1_0, b1_1, sw_nil, sw_cons, obs, fX10_streak_76, fX9_streak_82]
      by_cases e3 : w = p
      · simp (disch := first | omega | decide) only [e3, i10, i00, decide_true, decide_false, cnd_t, cnd_f, gd_nil, gd_t, b1_0, b1_1, sw_nil, sw_cons, obs, nI_lt2, nI_le2, nI_addo]
        by_cases e4 : a < c + 1
        · have e5 : ¬ c + 1 ≤ a := by omega
          simp only [e4, e5, i10, i00, decide_true, decide_false, cnd_t, cnd_f, gd_nil, gd_t, b1_0, b1_1, sw_nil, sw_cons, obs, if_true]
          exact (ih (i + 1) n m (c + 1) (c + 1) t' u' v' h' (by omega) (by omega) (by omega) (by omega) (by omega)).tr f1 f2
        · have e5 : c + 1 ≤ a := by omega
          simp only [e4, e5, i10, i00, decide_true, decide_false, cnd_t, cnd_f, gd_nil, gd_t, b1_0, b1_1, sw_nil, sw_cons, obs, if_false]
          exact (ih (i + 1) n m a (c + 1) t' u' v' h' (by omega) (by omega) (by omega) (by omega) (by omega)).tr f1 f2
      · have e6 : ¬ a < 0 := by omega
        have e7 : 0 ≤ a := by omega
        simp (disch := first | omega | decide) only [e3, e6, e7, i10, i00, decide_true, decide_false, cnd_t, cnd_f, gd_nil, gd_t, b1_0, b1_1, sw_nil, sw_cons, obs, nI_lto, nI_ole, if_false, nI_addo]
        exact (ih (i + 1) n m a 0 t' u' v' h' (by omega) (by omega) (by omega) (by omega) (by omega)).tr f1 f2
theorem q_streak (hN : pN Z s u v) (x y : Int32) : qT (fX9_streak x y u) (fX10_streak x y v) u v := by
  have hN0 := hN.th (x := 0)
  unfold fX9_streak fX10_streak
  rcases isP Z hN.1.1 x with ⟨p, hp, rfl⟩ | hx
  · rw [c_hasP1 hN0.1 hN0.2.1 hp, m_isP1 hN0.1 hN0.2.2.2.1 hp]
    simp only [i10, i00, decide_true, decide_false, cnd_t, cnd_f, gd_nil, gd_t, b1_0, b1_1, sw_nil, sw_cons, obs, fX10_in, show (60 : Int32) = nI 60 from rfl]
    rcases rng1 y 60 (by decide) with ⟨k, k1, k2, rfl⟩ | hy
    · have e1 : ¬ k < 1 := by omega
      rw [in_p k1 k2 (by decide)]
      simp (disch := first | omega | decide) only [i10, i00, decide_true, decide_false, cnd_t, cnd_f, gd_nil, gd_t, b1_0, b1_1, sw_nil, sw_cons, obs, nI_lto, nI_le2, e1, k2, b01_t]
      obtain ⟨u', v', q1, q2, h, f1, f2⟩ := tries987 hN0
      rw [q1, q2]
      simp only [obs]
      exact (q_streak37 hp k2 k 0 fu fu 0 0 _ u' v' h (Nat.zero_add _) (by simp only [fu]; omega) (by simp only [fu]; omega) (Nat.le_refl _) (by omega)).tr f1 (th_mu.trans f2)
    · rcases hy with hy | ⟨hy1, hy2⟩
      · simp only [hy, i10, i00, decide_true, decide_false, cnd_t, cnd_f, gd_nil, gd_t, b1_0, b1_1, sw_nil, sw_cons, obs, Bool.not_true, Bool.false_and, b01_f]
        exact qT.ret.tr Fr.rfl' th_mu
      · simp only [hy1, hy2, i10, i00, decide_true, decide_false, cnd_t, cnd_f, gd_nil, gd_t, b1_0, b1_1, sw_nil, sw_cons, obs, Bool.not_false, Bool.and_false, b01_f]
        exact qT.ret.tr Fr.rfl' th_mu
  · rw [c_hasP0 hN0.2.1 hx, m_isP0 hN0.1 hN0.2.2.2.1 hx]
    simp only [i10, i00, decide_true, decide_false, cnd_t, cnd_f, gd_nil, gd_t, b1_0, b1_1, sw_nil, sw_cons, obs]
    exact qT.ret.tr Fr.rfl' th_mu
-- ===== moves =====
theorem q_moves11 {k : Nat} (hk : k < Z.2.1) : ∀ (d i n m : Nat) (t : Nat → Int32) (u v : ab_S), pT Z 987 s t u v → i + d = 61 → d < n → d < m → qT (fX9_moves_26 n (nI k) (nI i) u) (fX10_moves_11 m (nI k) (nI i) v) u v := by
  intro d
  induction d with
  | zero =>
    intro i n m t u v h hi hn hm
    obtain ⟨n, rfl⟩ : ∃ j, n = j + 1 := ⟨n - 1, by omega⟩
    obtain ⟨m, rfl⟩ : ∃ j, m = j + 1 := ⟨m - 1, by omega⟩
    have e : ¬ i ≤ 60 := by omega
    rw [fX9_moves_26, fX10_moves_11]
    simp (disch := first | omega | decide) only [i10, i00, decide_true, decide_false, cnd_t, cnd_f, gd_nil, gd_t, b1_0, b1_1, sw_nil, sw_cons, obs, nI_leo, e]
    exact qT.ret
  | succ d ih =>
    intro i n m t u v h hi hn hm
    obtain ⟨n, rfl⟩ : ∃ j, n = j + 1 := ⟨n - 1, by omega⟩
    obtain ⟨m, rfl⟩ : ∃ j, m = j + 1 := ⟨m - 1, by omega⟩
    have e : i ≤ 60 := by omega
    have hg := h.1.1.2.1
    obtain ⟨r, t', u', v', q1, q2, h', hr, f1, f2⟩ := pass987 h
    rw [fX9_moves_26, fX10_moves_11, m_isG1 h.1.1 h.1.2.2.2.1 hk]
    simp (disch := first | omega | decide) only [i10, i00, decide_true, decide_false, cnd_t, cnd_f, gd_nil, gd_t, b1_0, b1_1, sw_nil, sw_cons, obs, nI_leo, e, q1, q2, nI_oadd, ix_nI, nc_nI, h'.2.2.1.at (k := 2 + k) (by omega) (show 989 + k = 987 + (2 + k) by omega), h'.1.2.2.2.2.2.1.at (k := 2 + k) (by omega) (show 2 + k = 0 + (2 + k) by omega)]
    rw [c_hold h'.2.1 (by omega)]
    simp only [obs]
    rw [c_hold h'.1.2.2.2.2.1 (by omega)]
    simp only [obs]
    by_cases e2 : t' (2 + k) = s (2 + k)
    · simp only [e2, i10, i00, decide_true, decide_false, cnd_t, cnd_f, gd_nil, gd_t, b1_0, b1_1, sw_nil, sw_cons, obs, nI_addo]
      exact (ih (i + 1) n m t' u' v' h' (by omega) (by omega) (by omega)).tr f1 f2
    · simp only [e2, i10, i00, decide_true, decide_false, cnd_t, cnd_f, gd_nil, gd_t, b1_0, b1_1, sw_nil, sw_cons, obs]
      exact qT.ret.tr f1 f2
theorem q_moves (hN : pN Z s u v) (x : Int32) : qT (fX9_moves x u) (fX10_moves x v) u v := by
  have hN0 := hN.th (x := 0)
  obtain ⟨u', v', q1, q2, h, f1, f2⟩ := tries987 hN0
  have e0 : ((1 : Int32) ≤ 60) = True := eq_true (by decide +kernel)
  have f5 : fu = 4999 + 1 := rfl
  unfold fX9_moves fX10_moves
  rw [q2]
  simp only [obs]
  rcases isG Z hN.1.2.1 x with ⟨p, hp, rfl⟩ | hx
  · rw [c_hasG1 hN0.1 hN0.2.1 hp]
    simp only [i10, i00, decide_true, decide_false, cnd_t, cnd_f, gd_nil, gd_t, b1_0, b1_1, sw_nil, sw_cons, obs]
    rw [q1]
    simp only [obs]
    exact (q_moves11 hp 60 1 fu fu _ u' v' h rfl (by decide) (by decide)).tr f1 (th_mu.trans f2)
  · rw [c_hasG0 hN0.2.1 hx, f5, fX10_moves_11, m_isG0 h.1.1 h.1.2.2.2.1 hx]
    simp only [i10, i00, decide_true, decide_false, cnd_t, cnd_f, gd_nil, gd_t, b1_0, b1_1, sw_nil, sw_cons, obs, e0]
    exact qT.ret.tr Fr.rfl' (th_mu.trans f2)
end PU
