/-! questions, further -/
theorem qP.uniq {x : Option (Int32 × ab_S)} {u : ab_S} {r r' : Int32} (h : x = some (r, u)) (h' : x = some (r', u)) : r = r' := congrArg Prod.fst (Option.some.inj (h.symm.trans h'))
theorem qP.bind {x y : Option (Int32 × ab_S)} {f g : Int32 × ab_S → Option (Int32 × ab_S)} {u v : ab_S} (h : qP x u y v) (k : ∀ r v', Sc v v' → qP (f (r, u)) u (g (r, v')) v') : qP (x.bind f) u (y.bind g) v := by
  obtain ⟨r, h1, h2⟩ := h
  obtain ⟨r2, h3, -⟩ := k r v Fr.rfl'
  refine ⟨r2, obnd h1 h3, ?_⟩
  rw [wp_bind]
  refine h2.mono fun r' v' z => ?_
  obtain ⟨e, s'⟩ := z
  subst e
  obtain ⟨r3, h5, h6⟩ := k r' v' s'
  have e := qP.uniq h5 h3
  subst e
  exact h6.mono fun r'' v'' z => ⟨z.1, s'.trans z.2⟩
theorem qP.mrun {α : Type} {x : Option (Int32 × ab_S)} {y : Option (α × ab_S)} {g : α × ab_S → Option (Int32 × ab_S)} {a : α} {u v : ab_S} (h : Wp y (fun a' v' => a' = a ∧ Sc v v')) (k : ∀ v', Sc v v' → qP x u (g (a, v')) v') : qP x u (y.bind g) v := by
  obtain ⟨r2, h3, -⟩ := k v Fr.rfl'
  refine ⟨r2, h3, ?_⟩
  rw [wp_bind]
  refine h.mono fun r' v' z => ?_
  obtain ⟨e, s'⟩ := z
  subst e
  obtain ⟨r3, h5, h6⟩ := k v' s'
  have e := qP.uniq h5 h3
  subst e
  exact h6.mono fun r'' v'' z => ⟨z.1, s'.trans z.2⟩
theorem qP.post {x y : Option (Int32 × ab_S)} {u v : ab_S} (h : qP x u y v) : qP (x.bind fun q => some (q.1, q.2)) u (y.bind fun q => some (q.1, q.2)) v := h.bind fun r v' s' => qP.ret
theorem m1lt0 : ((-1 : Int32) < 0) = True := eq_true (by decide +kernel)
section PU
variable {Z : dZ} {s : Nat → Int32} {u v : ab_S}
-- ===== who is a fan =====
theorem c_fan17 (hE : pE Z) (hO : pc_O Z (u.2.2 0) u) (hv : pv_S Z s) (hc : pc_S 38 s u) {p f : Nat} (hp : p < Z.1) (hf : f ≤ 99) : ∀ (d k n : Nat), k + d = Z.2.1 → d < n → ∃ r, fX9_isFan_17 n (nI p) (nI f) (nI k) u = some (r, u) ∧ ((r = 1 ∧ ∀ j, k ≤ j → j < Z.2.1 → fitS Z s p j ≤ f) ∨ (r = 0 ∧ ∃ j, k ≤ j ∧ j < Z.2.1 ∧ f < fitS Z s p j)) := by
  have hg := hE.2.1
  intro d
  induction d with
  | zero =>
    intro k n hk hn
    obtain ⟨n, rfl⟩ : ∃ i, n = i + 1 := ⟨n - 1, by omega⟩
    have e : k = Z.2.1 := by omega
    subst e
    rw [fX9_isFan_17, hO.2.1]
    simp (disch := first | omega | decide) only [i10, i00, decide_true, decide_false, cnd_t, cnd_f, gd_nil, gd_t, b1_0, b1_1, sw_nil, sw_cons, obs, Nat.not_lt_zero, nI_addo, nI_oadd, nI_add, nI_mulo, nI_omul, nI_mul, nI_lto, nI_leo, nI_olt, nI_ole, nI_eqo, nI_oeq, nI_lt2, nI_le2, nI_eq2, nI_nm1, nI_m1n, nI_lt0, nI_lem1, nc_nI, nc_o, ix_nI, ix_o, Nat.lt_irrefl]
    exact ⟨1, rfl, Or.inl ⟨rfl, fun j a c => by omega⟩⟩
  | succ d ih =>
    intro k n hk hn
    obtain ⟨n, rfl⟩ : ∃ i, n = i + 1 := ⟨n - 1, by omega⟩
    have hk8 : k < Z.2.1 := by omega
    have f1 := fitS_le hE (s := s) p k
    rw [fX9_isFan_17, hO.2.1]
    simp (disch := first | omega | decide) only [i10, i00, decide_true, decide_false, cnd_t, cnd_f, gd_nil, gd_t, b1_0, b1_1, sw_nil, sw_cons, obs, nI_lt2, hk8]
    rw [c_fitOf hE hO hv hc hp hk8]
    simp (disch := first | omega | decide) only [i10, i00, decide_true, decide_false, cnd_t, cnd_f, gd_nil, gd_t, b1_0, b1_1, sw_nil, sw_cons, obs, nI_le2, nI_addo]
    by_cases e : fitS Z s p k ≤ f
    · simp only [e, i10, i00, decide_true, decide_false, cnd_t, cnd_f, gd_nil, gd_t, b1_0, b1_1, sw_nil, sw_cons, obs]
      obtain ⟨r, h1, h2⟩ := ih (k + 1) n (by omega) (by omega)
      refine ⟨r, h1, ?_⟩
      rcases h2 with ⟨a, c⟩ | ⟨a, j, c, d', e'⟩
      · refine Or.inl ⟨a, fun j h3 h4 => ?_⟩
        by_cases ej : j = k
        · subst ej; exact e
        · exact c j (by omega) h4
      · exact Or.inr ⟨a, j, by omega, d', e'⟩
    · simp only [e, i10, i00, decide_true, decide_false, cnd_t, cnd_f, gd_nil, gd_t, b1_0, b1_1, sw_nil, sw_cons, obs]
      exact ⟨0, rfl, Or.inr ⟨rfl, k, Nat.le_refl k, hk8, by omega⟩⟩
theorem q_fan4 {k : Nat} : ∀ (d p n m : Nat) (a : Int32) (v : ab_S), pN Z s u v → k < Z.2.1 → p + d = Z.1 → d < n → d < m → qP (fX9_fanBits_4 n (nI k) a (nI p) u) u (fX10_fansOf_4 m (nI k) a (nI p) v) v := by
  intro d
  induction d with
  | zero =>
    intro p n m a v hN hk hd hn hmf
    obtain ⟨hE, hO, ho, hm, hc, hs, hv⟩ := hN
    have hp6 := hE.1
    obtain ⟨n, rfl⟩ : ∃ i, n = i + 1 := ⟨n - 1, by omega⟩
    obtain ⟨m, rfl⟩ : ∃ i, m = i + 1 := ⟨m - 1, by omega⟩
    have e : p = Z.1 := by omega
    subst e
    rw [fX9_fanBits_4, fX10_fansOf_4, hO.1, m_persons hE hm]
    simp (disch := first | omega | decide) only [i10, i00, decide_true, decide_false, cnd_t, cnd_f, gd_nil, gd_t, b1_0, b1_1, sw_nil, sw_cons, obs, Nat.not_lt_zero, nI_addo, nI_oadd, nI_add, nI_mulo, nI_omul, nI_mul, nI_lto, nI_leo, nI_olt, nI_ole, nI_eqo, nI_oeq, nI_lt2, nI_le2, nI_eq2, nI_nm1, nI_m1n, nI_lt0, nI_lem1, nc_nI, nc_o, ix_nI, ix_o, Nat.lt_irrefl]
    exact qP.ret
  | succ d ih =>
    intro p n m a v hN hk hd hn hmf
    have hN' := hN
    obtain ⟨hE, hO, ho, hm, hc, hs, hv⟩ := hN
    have hp6 := hE.1
    have hg := hE.2.1
    obtain ⟨n, rfl⟩ : ∃ i, n = i + 1 := ⟨n - 1, by omega⟩
    obtain ⟨m, rfl⟩ : ∃ i, m = i + 1 := ⟨m - 1, by omega⟩
    have hp : p < Z.1 := by omega
    have f1 := fitS_le hE (s := s) p k
    rw [fX9_fanBits_4, fX10_fansOf_4, hO.1, m_persons hE hm]
    simp (disch := first | omega | decide) only [i10, i00, decide_true, decide_false, cnd_t, cnd_f, gd_nil, gd_t, b1_0, b1_1, sw_nil, sw_cons, obs, nI_lt2, hp]
    unfold fX9_isFan
    rw [c_fitOf hE hO hv hc hp hk]
    simp only [i10, i00, decide_true, decide_false, cnd_t, cnd_f, gd_nil, gd_t, b1_0, b1_1, sw_nil, sw_cons, obs]
    obtain ⟨r, h1, h2⟩ := c_fan17 hE hO hv hc hp f1 Z.2.1 0 fu (Nat.zero_add _) (by simp only [fu]; omega)
    rw [show (0 : Int32) = nI 0 from rfl] at *
    rw [h1]
    simp only [obs, nI_addo]
    refine qP.mrun (m_fitOf (b := 0) hE hm hs (by decide) hp hk fun v' s' => ⟨rfl, s'⟩) fun v1 s1 => ?_
    have hN1 := hN'.sc s1
    rw [m_allG hE hN1.2.2.2.1]
    simp only [obs]
    refine qP.mrun (m_wantA hE hN1.2.2.2.1 hN1.2.2.2.2.2.1 hp fun v' s' => ⟨rfl, s'⟩) fun v2 s2 => ?_
    have hN2 := hN1.sc s2
    rcases wst_ok (val := fitS Z s p) (inn := fun _ => true) Z.2.1 with ⟨-, c⟩ | ⟨q, c1, c2, -, c4, c5, -⟩
    · have := c k hk
      simp only [Bool.true_eq_false] at this
    · rw [c1]
      have f2 := fitS_le hE (s := s) p q.1
      simp only [wb]
      refine qP.mrun (m_fitOf (b := 0) hE hN2.2.2.2.1 hN2.2.2.2.2.2.1 (by decide) hp c2 fun v' s' => ⟨rfl, s'⟩) fun v3 s3 => ?_
      have hN3 := hN2.sc s3
      simp (disch := first | omega | decide) only [nI_eq2]
      rcases h2 with ⟨a1, a2⟩ | ⟨a1, j, j1, j2, j3⟩
      · have e : fitS Z s p k = fitS Z s p q.1 := by
          have h3 := a2 q.1 (Nat.zero_le _) c2
          have h4 := c5 k hk rfl
          omega
        subst a1
        simp only [show ((1 : Int32) = nI 0) = False from i10, e, i10, i00, decide_true, decide_false, cnd_t, cnd_f, gd_nil, gd_t, b1_0, b1_1, sw_nil, sw_cons, obs]
        exact ih (p + 1) n m _ v3 hN3 hk (by omega) (by omega) (by omega)
      · have e : ¬ fitS Z s p k = fitS Z s p q.1 := by
          have h4 := c5 j j2 rfl
          omega
        subst a1
        simp only [e, i10, i00, decide_true, decide_false, cnd_t, cnd_f, gd_nil, gd_t, b1_0, b1_1, sw_nil, sw_cons, obs, show nI 0 = (0 : Int32) from rfl, Int32.or_zero]
        exact ih (p + 1) n m _ v3 hN3 hk (by omega) (by omega) (by omega)
theorem q_fan (hN : pN Z s u v) {k : Nat} (hk : k < Z.2.1) : qP (fX9_fanBits (nI k) u) u (fX10_fansOf (nI k) v) v := by
  have hp6 := hN.1.1
  exact q_fan4 Z.1 0 fu fu 0 v hN hk (Nat.zero_add _) (by simp only [fu]; omega) (by simp only [fu]; omega)
theorem q_fans (hN : pN Z s u v) (x : Int32) : qP (fX9_fans x u) u (fX10_fans x v) (sI v 0 0 0) := by
  have hN0 := hN.th (x := 0)
  have hN1 := hN0
  obtain ⟨hE, hO, ho, hm, hc, hs, hv⟩ := hN0
  unfold fX9_fans fX10_fans
  rcases isG Z hE.2.1 x with ⟨p, hp, rfl⟩ | hx
  · rw [c_hasG1 hE hO hp, m_isG1 hE hm hp]
    simp only [i10, i00, decide_true, decide_false, cnd_t, cnd_f, gd_nil, gd_t, b1_0, b1_1, sw_nil, sw_cons, obs]
    exact (q_fan hN1 hp).post
  · rw [c_hasG0 hO hx, m_isG0 hE hm hx]
    simp only [i10, i00, decide_true, decide_false, cnd_t, cnd_f, gd_nil, gd_t, b1_0, b1_1, sw_nil, sw_cons, obs]
    exact qP.ret
theorem q_dull9 : ∀ (d k n m : Nat) (a : Int32) (v : ab_S), pN Z s u v → k + d = Z.2.1 → d < n → d < m → qP (fX9_dull_4 n a (nI k) u) u (fX10_dull_9 m a (nI k) v) v := by
  intro d
  induction d with
  | zero =>
    intro k n m a v hN hd hn hmf
    obtain ⟨hE, hO, ho, hm, hc, hs, hv⟩ := hN
    have hg := hE.2.1
    obtain ⟨n, rfl⟩ : ∃ i, n = i + 1 := ⟨n - 1, by omega⟩
    obtain ⟨m, rfl⟩ : ∃ i, m = i + 1 := ⟨m - 1, by omega⟩
    have e : k = Z.2.1 := by omega
    subst e
    rw [fX9_dull_4, fX10_dull_9, hO.2.1, m_goods hE hm]
    simp (disch := first | omega | decide) only [i10, i00, decide_true, decide_false, cnd_t, cnd_f, gd_nil, gd_t, b1_0, b1_1, sw_nil, sw_cons, obs, Nat.not_lt_zero, nI_addo, nI_oadd, nI_add, nI_mulo, nI_omul, nI_mul, nI_lto, nI_leo, nI_olt, nI_ole, nI_eqo, nI_oeq, nI_lt2, nI_le2, nI_eq2, nI_nm1, nI_m1n, nI_lt0, nI_lem1, nc_nI, nc_o, ix_nI, ix_o, Nat.lt_irrefl]
    exact qP.ret
  | succ d ih =>
    intro k n m a v hN hd hn hmf
    have hN' := hN
    obtain ⟨hE, hO, ho, hm, hc, hs, hv⟩ := hN
    have hg := hE.2.1
    obtain ⟨n, rfl⟩ : ∃ i, n = i + 1 := ⟨n - 1, by omega⟩
    obtain ⟨m, rfl⟩ : ∃ i, m = i + 1 := ⟨m - 1, by omega⟩
    have hk : k < Z.2.1 := by omega
    rw [fX9_dull_4, fX10_dull_9, hO.2.1, m_goods hE hm]
    simp (disch := first | omega | decide) only [i10, i00, decide_true, decide_false, cnd_t, cnd_f, gd_nil, gd_t, b1_0, b1_1, sw_nil, sw_cons, obs, nI_lt2, hk]
    refine (q_fan hN' hk).bind fun r v1 s1 => ?_
    by_cases e : r = 0
    · simp only [e, i10, i00, decide_true, decide_false, cnd_t, cnd_f, gd_nil, gd_t, b1_0, b1_1, sw_nil, sw_cons, obs, nI_addo]
      exact ih (k + 1) n m _ v1 (hN'.sc s1) (by omega) (by omega) (by omega)
    · simp only [e, i10, i00, decide_true, decide_false, cnd_t, cnd_f, gd_nil, gd_t, b1_0, b1_1, sw_nil, sw_cons, obs, nI_addo, Int32.or_zero]
      exact ih (k + 1) n m _ v1 (hN'.sc s1) (by omega) (by omega) (by omega)
theorem q_dull (hN : pN Z s u v) : qP (fX9_dull u) u (fX10_dull v) (sI v 0 0 0) := by
  have hg := hN.1.2.1
  exact q_dull9 Z.2.1 0 fu fu 0 _ hN.th (Nat.zero_add _) (by simp only [fu]; omega) (by simp only [fu]; omega)
-- ===== least =====
theorem q_least32 {k : Nat} {x y : Int32} {K L : Int32 → Int32 → Int32 → ab_S → Option (Int32 × ab_S)} (hxy : (x < 0) = (x = -1)) (hK : ∀ (x' y' : Int32) (v : ab_S), pN Z s u v → ((x' < 0) = (x' = -1)) → qP (K x' y' (nI (k + 1)) u) u (L x' y' (nI (k + 1)) v) v) : ∀ (d p n m : Nat) (t : Int32) (v : ab_S), pN Z s u v → k < Z.2.1 → p + d = Z.1 → d < n → d < m → qP (fX9_least_23 K n x y (nI k) t (nI p) u) u (fX10_least_32 L m x y (nI k) t (nI p) v) v := by
  intro d
  induction d with
  | zero =>
    intro p n m t v hN hk hd hn hmf
    have hN' := hN
    obtain ⟨hE, hO, ho, hm, hc, hs, hv⟩ := hN
    have hp6 := hE.1
    have hg := hE.2.1
    obtain ⟨n, rfl⟩ : ∃ i, n = i + 1 := ⟨n - 1, by omega⟩
    obtain ⟨m, rfl⟩ : ∃ i, m = i + 1 := ⟨m - 1, by omega⟩
    have e : p = Z.1 := by omega
    subst e
    have hkk : (nI k < 0) = (nI k = -1) := by
      simp (disch := first | omega | decide) only [nI_lt0, nI_nm1]
    rw [fX9_least_23, fX10_least_32, hO.1, m_persons hE hm]
    simp (disch := first | omega | decide) only [i10, i00, decide_true, decide_false, cnd_t, cnd_f, gd_nil, gd_t, b1_0, b1_1, sw_nil, sw_cons, obs, Nat.not_lt_zero, nI_addo, nI_oadd, nI_add, nI_mulo, nI_omul, nI_mul, nI_lto, nI_leo, nI_olt, nI_ole, nI_eqo, nI_oeq, nI_lt2, nI_le2, nI_eq2, nI_nm1, nI_m1n, nI_lt0, nI_lem1, nc_nI, nc_o, ix_nI, ix_o, Nat.lt_irrefl, fX10_least_75, fX10_least_87]
    by_cases e : x = -1
    · have e' : x < 0 := cast hxy.symm e
      simp only [e', i10, i00, decide_true, decide_false, cnd_t, cnd_f, gd_nil, gd_t, b1_0, b1_1, sw_nil, sw_cons, obs]
      simp only [e, i10, i00, decide_true, decide_false, cnd_t, cnd_f, gd_nil, gd_t, b1_0, b1_1, sw_nil, sw_cons, obs]
      exact hK _ _ v hN' hkk
    · have e' : ¬ x < 0 := fun z => e (cast hxy z)
      simp only [e, e', i10, i00, decide_true, decide_false, cnd_t, cnd_f, gd_nil, gd_t, b1_0, b1_1, sw_nil, sw_cons, obs]
      by_cases e2 : t < y
      · simp only [e2, i10, i00, decide_true, decide_false, cnd_t, cnd_f, gd_nil, gd_t, b1_0, b1_1, sw_nil, sw_cons, obs]
        exact hK _ _ v hN' hkk
      · simp only [e2, i10, i00, decide_true, decide_false, cnd_t, cnd_f, gd_nil, gd_t, b1_0, b1_1, sw_nil, sw_cons, obs]
        exact hK _ _ v hN' hxy
  | succ d ih =>
    intro p n m t v hN hk hd hn hmf
    have hN' := hN
    obtain ⟨hE, hO, ho, hm, hc, hs, hv⟩ := hN
    have hp6 := hE.1
    obtain ⟨n, rfl⟩ : ∃ i, n = i + 1 := ⟨n - 1, by omega⟩
    obtain ⟨m, rfl⟩ : ∃ i, m = i + 1 := ⟨m - 1, by omega⟩
    have hp : p < Z.1 := by omega
    rw [fX9_least_23, fX10_least_32, hO.1, m_persons hE hm]
    simp (disch := first | omega | decide) only [i10, i00, decide_true, decide_false, cnd_t, cnd_f, gd_nil, gd_t, b1_0, b1_1, sw_nil, sw_cons, obs, nI_lt2, hp]
    rw [c_fitOf hE hO hv hc hp hk]
    simp only [obs, nI_addo]
    refine qP.mrun (m_fitOf (b := 0) hE hm hs (by decide) hp hk fun v' s' => ⟨rfl, s'⟩) fun v1 s1 => ?_
    exact ih (p + 1) n m _ v1 (hN'.sc s1) hk (by omega) (by omega) (by omega)
theorem q_least11 : ∀ (d k n m : Nat) (x y : Int32) (v : ab_S), ((x < 0) = (x = -1)) → pN Z s u v → k + d = Z.2.1 → d < n → d < m → qP (fX9_least_6 n x y (nI k) u) u (fX10_least_11 m x y (nI k) v) v := by
  intro d
  induction d with
  | zero =>
    intro k n m x y v hxy hN hd hn hmf
    obtain ⟨hE, hO, ho, hm, hc, hs, hv⟩ := hN
    have hg := hE.2.1
    obtain ⟨n, rfl⟩ : ∃ i, n = i + 1 := ⟨n - 1, by omega⟩
    obtain ⟨m, rfl⟩ : ∃ i, m = i + 1 := ⟨m - 1, by omega⟩
    have e : k = Z.2.1 := by omega
    subst e
    rw [fX9_least_6, fX10_least_11, hO.2.1, m_goods hE hm]
    simp (disch := first | omega | decide) only [i10, i00, decide_true, decide_false, cnd_t, cnd_f, gd_nil, gd_t, b1_0, b1_1, sw_nil, sw_cons, obs, Nat.not_lt_zero, nI_addo, nI_oadd, nI_add, nI_mulo, nI_omul, nI_mul, nI_lto, nI_leo, nI_olt, nI_ole, nI_eqo, nI_oeq, nI_lt2, nI_le2, nI_eq2, nI_nm1, nI_m1n, nI_lt0, nI_lem1, nc_nI, nc_o, ix_nI, ix_o, Nat.lt_irrefl]
    exact qP.ret
  | succ d ih =>
    intro k n m x y v hxy hN hd hn hmf
    have hN' := hN
    obtain ⟨hE, hO, ho, hm, hc, hs, hv⟩ := hN
    have hg := hE.2.1
    have hp6 := hE.1
    obtain ⟨n, rfl⟩ : ∃ i, n = i + 1 := ⟨n - 1, by omega⟩
    obtain ⟨m, rfl⟩ : ∃ i, m = i + 1 := ⟨m - 1, by omega⟩
    have hk : k < Z.2.1 := by omega
    have hpos : ¬ Z.1 ≤ 0 := by
      obtain ⟨p, hp, -⟩ := hE.2.2.2.2.1 k hk
      omega
    rw [fX9_least_6, fX10_least_11, hO.2.1, m_goods hE hm]
    simp (disch := first | omega | decide) only [i10, i00, decide_true, decide_false, cnd_t, cnd_f, gd_nil, gd_t, b1_0, b1_1, sw_nil, sw_cons, obs, nI_lt2, hk]
    rw [m_persons hE hm]
    simp (disch := first | omega | decide) only [i10, i00, decide_true, decide_false, cnd_t, cnd_f, gd_nil, gd_t, b1_0, b1_1, sw_nil, sw_cons, obs, nI_leo, hpos]
    exact q_least32 hxy (fun x' y' v' hN2 hxy2 => ih (k + 1) n m x' y' v' hxy2 hN2 (by omega) (by omega) (by omega)) Z.1 0 fu fu 0 v hN' hk (Nat.zero_add _) (by simp only [fu]; omega) (by simp only [fu]; omega)
theorem q_least (hN : pN Z s u v) : qP (fX9_least u) u (fX10_least v) (sI v 0 0 0) := by
  have hg := hN.1.2.1
  exact q_least11 Z.2.1 0 fu fu (-1) 0 _ (by simp only [m1lt0]) hN.th (Nat.zero_add _) (by simp only [fu]; omega) (by simp only [fu]; omega)
-- ===== lack, debt, poor, rich, sad =====
theorem q_lack19 {x : Int32} : ∀ (d k n m : Nat) (a : Int32) (v : ab_S), pN Z s u v → k + d = Z.2.1 → d < n → d < m → qP (fX9_lack_17 n x a (nI k) u) u (fX10_lack_19 m x a (nI k) v) v := by
  intro d
  induction d with
  | zero =>
    intro k n m a v hN hd hn hmf
    obtain ⟨hE, hO, ho, hm, hc, hs, hv⟩ := hN
    have hg := hE.2.1
    obtain ⟨n, rfl⟩ : ∃ i, n = i + 1 := ⟨n - 1, by omega⟩
    obtain ⟨m, rfl⟩ : ∃ i, m = i + 1 := ⟨m - 1, by omega⟩
    have e : k = Z.2.1 := by omega
    subst e
    rw [fX9_lack_17, fX10_lack_19, hO.2.1, m_goods hE hm]
    simp (disch := first | omega | decide) only [i10, i00, decide_true, decide_false, cnd_t, cnd_f, gd_nil, gd_t, b1_0, b1_1, sw_nil, sw_cons, obs, Nat.not_lt_zero, nI_addo, nI_oadd, nI_add, nI_mulo, nI_omul, nI_mul, nI_lto, nI_leo, nI_olt, nI_ole, nI_eqo, nI_oeq, nI_lt2, nI_le2, nI_eq2, nI_nm1, nI_m1n, nI_lt0, nI_lem1, nc_nI, nc_o, ix_nI, ix_o, Nat.lt_irrefl]
    exact qP.ret
  | succ d ih =>
    intro k n m a v hN hd hn hmf
    have hN' := hN
    obtain ⟨hE, hO, ho, hm, hc, hs, hv⟩ := hN
    have hg := hE.2.1
    obtain ⟨n, rfl⟩ : ∃ i, n = i + 1 := ⟨n - 1, by omega⟩
    obtain ⟨m, rfl⟩ : ∃ i, m = i + 1 := ⟨m - 1, by omega⟩
    have hk : k < Z.2.1 := by omega
    rw [fX9_lack_17, fX10_lack_19, hO.2.1, m_goods hE hm]
    simp (disch := first | omega | decide) only [i10, i00, decide_true, decide_false, cnd_t, cnd_f, gd_nil, gd_t, b1_0, b1_1, sw_nil, sw_cons, obs, nI_lt2, hk]
    rw [c_own hE hO hk, m_own hE hm hk]
    simp (disch := first | omega | decide) only [i10, i00, decide_true, decide_false, cnd_t, cnd_f, gd_nil, gd_t, b1_0, b1_1, sw_nil, sw_cons, obs, Nat.not_lt_zero, nI_addo, nI_oadd, nI_add, nI_mulo, nI_omul, nI_mul, nI_lto, nI_leo, nI_olt, nI_ole, nI_eqo, nI_oeq, nI_lt2, nI_le2, nI_eq2, nI_nm1, nI_m1n, nI_lt0, nI_lem1, nc_nI, nc_o, ix_nI, ix_o, hs.at (k := 2 + k) (by omega) (show 2 + k = 0 + (2 + k) by omega)]
    rw [c_hold hc (by omega)]
    simp only [i10, i00, decide_true, decide_false, cnd_t, cnd_f, gd_nil, gd_t, b1_0, b1_1, sw_nil, sw_cons, obs]
    by_cases e : Z.2.2.1 6 (17 + 2 * k) = x
    · simp only [e, i10, i00, decide_true, decide_false, cnd_t, cnd_f, gd_nil, gd_t, b1_0, b1_1, sw_nil, sw_cons, obs]
      by_cases e2 : s (2 + k) = x
      · simp only [e2, i10, i00, decide_true, decide_false, cnd_t, cnd_f, gd_nil, gd_t, b1_0, b1_1, sw_nil, sw_cons, obs, Int32.or_zero]
        exact ih (k + 1) n m _ v hN' (by omega) (by omega) (by omega)
      · simp only [e2, i10, i00, decide_true, decide_false, cnd_t, cnd_f, gd_nil, gd_t, b1_0, b1_1, sw_nil, sw_cons, obs]
        exact ih (k + 1) n m _ v hN' (by omega) (by omega) (by omega)
    · simp only [e, i10, i00, decide_true, decide_false, cnd_t, cnd_f, gd_nil, gd_t, b1_0, b1_1, sw_nil, sw_cons, obs, Int32.or_zero]
      exact ih (k + 1) n m _ v hN' (by omega) (by omega) (by omega)
theorem q_lack (hN : pN Z s u v) (x : Int32) : qP (fX9_lack x u) u (fX10_lack x v) (sI v 0 0 0) := by
  have hN0 := hN.th (x := 0)
  have hN1 := hN0
  obtain ⟨hE, hO, ho, hm, hc, hs, hv⟩ := hN0
  have hg := hE.2.1
  unfold fX9_lack fX10_lack
  rcases isP Z hE.1 x with ⟨p, hp, rfl⟩ | hx
  · rw [c_hasP1 hE hO hp, m_isP1 hE hm hp]
    simp only [i10, i00, decide_true, decide_false, cnd_t, cnd_f, gd_nil, gd_t, b1_0, b1_1, sw_nil, sw_cons, obs]
    exact q_lack19 Z.2.1 0 fu fu 0 _ hN1 (Nat.zero_add _) (by simp only [fu]; omega) (by simp only [fu]; omega)
  · rw [c_hasP0 hO hx, m_isP0 hE hm hx]
    simp only [i10, i00, decide_true, decide_false, cnd_t, cnd_f, gd_nil, gd_t, b1_0, b1_1, sw_nil, sw_cons, obs]
    exact qP.ret
theorem pc_debt0 : (List.range 9).all (fun n => (List.range (2 ^ n)).all fun a => (List.range (2 ^ n)).all fun c => !(a &&& c == 0) || decide (pc (((2 ^ n - 1) &&& (255 ^^^ a)) &&& (255 ^^^ c)) = n - pc a - pc c ∧ pc a + pc c ≤ n)) = true := by decide +kernel
theorem q_debt (hN : pN Z s u v) : qP (fX9_debt u) u (fX10_debt v) (sI v 0 0 0) := by
  have hN0 := hN.th (x := 0)
  obtain ⟨hE, hO, ho, hm, hc, hs, hv⟩ := hN0
  have hg := hE.2.1
  have hz : hS Z s (-1) &&& rS Z s = 0 := by
    apply bit_ext
    intro k
    rw [Nat.testBit_and, hS_bit, rS_bit, Nat.zero_testBit]
    by_cases hk : k < Z.2.1
    · obtain ⟨p, hp, e⟩ := hE.2.2.2.2.1 k hk
      have hp6 := hE.1
      by_cases e2 : s (2 + k) = -1
      · rw [e2, e]
        simp (disch := first | omega | decide) only [nI_m1n, decide_false, Bool.and_false]
      · simp only [e2, decide_false, Bool.and_false, Bool.false_and]
    · simp only [hk, decide_false, Bool.false_and]
  have hq := List.all_eq_true.mp (List.all_eq_true.mp (List.all_eq_true.mp pc_debt0 Z.2.1 (List.mem_range.mpr (by omega))) (hS Z s (-1)) (List.mem_range.mpr (hS_lt2 _))) (rS Z s) (List.mem_range.mpr rS_lt2)
  rw [hz] at hq
  simp only [beq_self_eq_true, Bool.not_true, Bool.false_or, decide_eq_true_eq] at hq
  have eB : hB Z s = (2 ^ Z.2.1 - 1) &&& (255 ^^^ hS Z s (-1)) := by
    apply bit_ext
    intro k
    rw [Nat.testBit_and, all_bit, bit255, hS_bit, hB_bit]
    by_cases hk : k < Z.2.1
    · have h8 : k < 8 := by omega
      simp only [hk, h8, decide_true, Bool.true_and]
      cases decide (s (2 + k) = -1) <;> rfl
    · simp only [hk, decide_false, Bool.false_and]
  unfold fX9_debt fX10_debt
  rw [c_heldB hE hO hc, m_goods hE hm]
  simp only [obs]
  rw [c_rights hE hO hc, m_held0 hE hm hs]
  simp only [obs]
  rw [zb_diff (hB_lt hE) (rS_lt hE), pc_c (and256 (hB_lt hE)), pc_m (hS_lt hE _)]
  simp only [obs]
  rw [m_rights0 hE hm hs]
  simp only [obs]
  rw [pc_m (rS_lt hE)]
  simp only [obs]
  rw [eB, hq.1, nI_sub (by omega), nI_sub (by omega)]
  exact qP.ret
theorem q_poor9 : ∀ (d p n m : Nat) (a : Int32) (v : ab_S), pN Z s u v → p + d = Z.1 → d < n → d < m → qP (fX9_poor_4 n a (nI p) u) u (fX10_poor_9 m a (nI p) v) v := by
  intro d
  induction d with
  | zero =>
    intro p n m a v hN hd hn hmf
    obtain ⟨hE, hO, ho, hm, hc, hs, hv⟩ := hN
    have hp6 := hE.1
    obtain ⟨n, rfl⟩ : ∃ i, n = i + 1 := ⟨n - 1, by omega⟩
    obtain ⟨m, rfl⟩ : ∃ i, m = i + 1 := ⟨m - 1, by omega⟩
    have e : p = Z.1 := by omega
    subst e
    rw [fX9_poor_4, fX10_poor_9, hO.1, m_persons hE hm]
    simp (disch := first | omega | decide) only [i10, i00, decide_true, decide_false, cnd_t, cnd_f, gd_nil, gd_t, b1_0, b1_1, sw_nil, sw_cons, obs, Nat.not_lt_zero, nI_addo, nI_oadd, nI_add, nI_mulo, nI_omul, nI_mul, nI_lto, nI_leo, nI_olt, nI_ole, nI_eqo, nI_oeq, nI_lt2, nI_le2, nI_eq2, nI_nm1, nI_m1n, nI_lt0, nI_lem1, nc_nI, nc_o, ix_nI, ix_o, Nat.lt_irrefl]
    exact qP.ret
  | succ d ih =>
    intro p n m a v hN hd hn hmf
    have hN' := hN
    obtain ⟨hE, hO, ho, hm, hc, hs, hv⟩ := hN
    have hp6 := hE.1
    obtain ⟨n, rfl⟩ : ∃ i, n = i + 1 := ⟨n - 1, by omega⟩
    obtain ⟨m, rfl⟩ : ∃ i, m = i + 1 := ⟨m - 1, by omega⟩
    have hp : p < Z.1 := by omega
    rw [fX9_poor_4, fX10_poor_9, hO.1, m_persons hE hm]
    simp (disch := first | omega | decide) only [i10, i00, decide_true, decide_false, cnd_t, cnd_f, gd_nil, gd_t, b1_0, b1_1, sw_nil, sw_cons, obs, nI_lt2, hp]
    rw [c_bits hE hv hc hp, m_held0 hE hm hs]
    simp (disch := first | omega | decide) only [i10, i00, decide_true, decide_false, cnd_t, cnd_f, gd_nil, gd_t, b1_0, b1_1, sw_nil, sw_cons, obs, nI_addo, nI_oadd, ix_nI, nc_nI, hs.at (k := 16 + p) (by omega) (show 16 + p = 0 + (16 + p) by omega), hs.at (k := 10 + p) (by omega) (show 10 + p = 0 + (10 + p) by omega)]
    rw [c_tick hc (by omega)]
    simp only [obs]
    rw [c_coin hc (by omega)]
    simp only [obs]
    by_cases e1 : nI (hS Z s (nI p)) = 0
    · by_cases e2 : s (16 + p) = 0
      · by_cases e3 : s (10 + p) = 0
        · simp only [e1, e2, e3, i10, i00, decide_true, decide_false, cnd_t, cnd_f, gd_nil, gd_t, b1_0, b1_1, sw_nil, sw_cons, obs]
          exact ih (p + 1) n m _ v hN' (by omega) (by omega) (by omega)
        · simp only [e1, e2, e3, i10, i00, decide_true, decide_false, cnd_t, cnd_f, gd_nil, gd_t, b1_0, b1_1, sw_nil, sw_cons, obs, Int32.or_zero]
          exact ih (p + 1) n m _ v hN' (by omega) (by omega) (by omega)
      · simp only [e1, e2, i10, i00, decide_true, decide_false, cnd_t, cnd_f, gd_nil, gd_t, b1_0, b1_1, sw_nil, sw_cons, obs, Int32.or_zero]
        exact ih (p + 1) n m _ v hN' (by omega) (by omega) (by omega)
    · simp only [e1, i10, i00, decide_true, decide_false, cnd_t, cnd_f, gd_nil, gd_t, b1_0, b1_1, sw_nil, sw_cons, obs, Int32.or_zero]
      exact ih (p + 1) n m _ v hN' (by omega) (by omega) (by omega)
theorem q_poor (hN : pN Z s u v) : qP (fX9_poor u) u (fX10_poor v) (sI v 0 0 0) := by
  have hp6 := hN.1.1
  exact q_poor9 Z.1 0 fu fu 0 _ hN.th (Nat.zero_add _) (by simp only [fu]; omega) (by simp only [fu]; omega)
theorem q_rich9 : ∀ (d p n m : Nat) (x y : Int32) (v : ab_S), ((x = -1 ∧ y = -1) ∨ ∃ i, i < Z.1 ∧ x = nI i ∧ y = s (10 + i)) → pN Z s u v → p + d = Z.1 → d < n → d < m → qP (fX9_rich_6 n x y (nI p) u) u (fX10_rich_9 m x (nI p) v) v := by
  intro d
  induction d with
  | zero =>
    intro p n m x y v hxy hN hd hn hmf
    obtain ⟨hE, hO, ho, hm, hc, hs, hv⟩ := hN
    have hp6 := hE.1
    obtain ⟨n, rfl⟩ : ∃ i, n = i + 1 := ⟨n - 1, by omega⟩
    obtain ⟨m, rfl⟩ : ∃ i, m = i + 1 := ⟨m - 1, by omega⟩
    have e : p = Z.1 := by omega
    subst e
    rw [fX9_rich_6, fX10_rich_9, hO.1, m_persons hE hm]
    simp (disch := first | omega | decide) only [i10, i00, decide_true, decide_false, cnd_t, cnd_f, gd_nil, gd_t, b1_0, b1_1, sw_nil, sw_cons, obs, Nat.not_lt_zero, nI_addo, nI_oadd, nI_add, nI_mulo, nI_omul, nI_mul, nI_lto, nI_leo, nI_olt, nI_ole, nI_eqo, nI_oeq, nI_lt2, nI_le2, nI_eq2, nI_nm1, nI_m1n, nI_lt0, nI_lem1, nc_nI, nc_o, ix_nI, ix_o, Nat.lt_irrefl]
    exact qP.ret
  | succ d ih =>
    intro p n m x y v hxy hN hd hn hmf
    have hN' := hN
    obtain ⟨hE, hO, ho, hm, hc, hs, hv⟩ := hN
    have hp6 := hE.1
    obtain ⟨n, rfl⟩ : ∃ i, n = i + 1 := ⟨n - 1, by omega⟩
    obtain ⟨m, rfl⟩ : ∃ i, m = i + 1 := ⟨m - 1, by omega⟩
    have hp : p < Z.1 := by omega
    obtain ⟨k1, k2⟩ := cn_eq hv (p := p) (by omega)
    rw [fX9_rich_6, fX10_rich_9, hO.1, m_persons hE hm]
    simp (disch := first | omega | decide) only [i10, i00, decide_true, decide_false, cnd_t, cnd_f, gd_nil, gd_t, b1_0, b1_1, sw_nil, sw_cons, obs, nI_lt2, hp]
    rw [c_coin hc (by omega)]
    simp (disch := first | omega | decide) only [i10, i00, decide_true, decide_false, cnd_t, cnd_f, gd_nil, gd_t, b1_0, b1_1, sw_nil, sw_cons, obs, nI_addo]
    have e10 := hs.at (k := 10 + p) (by omega) (show 10 + p = 0 + (10 + p) by omega)
    rcases hxy with ⟨rfl, rfl⟩ | ⟨i, hi, rfl, rfl⟩
    · have z : (s (10 + p) ≤ -1) = False := by
        rw [k1]
        simp (disch := first | omega | decide) only [nI_lem1]
      simp only [z, m1lt0, i10, i00, decide_true, decide_false, cnd_t, cnd_f, gd_nil, gd_t, b1_0, b1_1, sw_nil, sw_cons, obs]
      rw [c_coin hc (by omega)]
      simp only [obs]
      exact ih (p + 1) n m _ _ v (Or.inr ⟨p, hp, rfl, rfl⟩) hN' (by omega) (by omega) (by omega)
    · have e10i := hs.at (k := 10 + i) (by omega) (show 10 + i = 0 + (10 + i) by omega)
      simp (disch := first | omega | decide) only [nI_lt0, i10, i00, decide_true, decide_false, cnd_t, cnd_f, gd_nil, gd_t, b1_0, b1_1, sw_nil, sw_cons, obs, nI_oadd, ix_nI, nc_nI, e10, e10i]
      by_cases e : s (10 + p) ≤ s (10 + i)
      · simp only [e, i10, i00, decide_true, decide_false, cnd_t, cnd_f, gd_nil, gd_t, b1_0, b1_1, sw_nil, sw_cons, obs]
        exact ih (p + 1) n m _ _ v (Or.inr ⟨i, hi, rfl, rfl⟩) hN' (by omega) (by omega) (by omega)
      · simp only [e, i10, i00, decide_true, decide_false, cnd_t, cnd_f, gd_nil, gd_t, b1_0, b1_1, sw_nil, sw_cons, obs]
        rw [c_coin hc (by omega)]
        simp only [obs]
        exact ih (p + 1) n m _ _ v (Or.inr ⟨p, hp, rfl, rfl⟩) hN' (by omega) (by omega) (by omega)
theorem q_rich (hN : pN Z s u v) : qP (fX9_rich u) u (fX10_rich v) (sI v 0 0 0) := by
  have hp6 := hN.1.1
  exact q_rich9 Z.1 0 fu fu _ _ _ (Or.inl ⟨rfl, rfl⟩) hN.th (Nat.zero_add _) (by simp only [fu]; omega) (by simp only [fu]; omega)
theorem q_sad9 : ∀ (d p n m : Nat) (x y : Int32) (v : ab_S), ((x = -1) ∨ ∃ i, i < Z.1 ∧ x = nI i ∧ y = nI (allS Z s i i)) → pN Z s u v → p + d = Z.1 → d < n → d < m → qP (fX9_sad_6 n x y (nI p) u) u (fX10_sad_9 m x (nI p) v) v := by
  intro d
  induction d with
  | zero =>
    intro p n m x y v hxy hN hd hn hmf
    obtain ⟨hE, hO, ho, hm, hc, hs, hv⟩ := hN
    have hp6 := hE.1
    obtain ⟨n, rfl⟩ : ∃ i, n = i + 1 := ⟨n - 1, by omega⟩
    obtain ⟨m, rfl⟩ : ∃ i, m = i + 1 := ⟨m - 1, by omega⟩
    have e : p = Z.1 := by omega
    subst e
    rw [fX9_sad_6, fX10_sad_9, hO.1, m_persons hE hm]
    simp (disch := first | omega | decide) only [i10, i00, decide_true, decide_false, cnd_t, cnd_f, gd_nil, gd_t, b1_0, b1_1, sw_nil, sw_cons, obs, Nat.not_lt_zero, nI_addo, nI_oadd, nI_add, nI_mulo, nI_omul, nI_mul, nI_lto, nI_leo, nI_olt, nI_ole, nI_eqo, nI_oeq, nI_lt2, nI_le2, nI_eq2, nI_nm1, nI_m1n, nI_lt0, nI_lem1, nc_nI, nc_o, ix_nI, ix_o, Nat.lt_irrefl]
    exact qP.ret
  | succ d ih =>
    intro p n m x y v hxy hN hd hn hmf
    have hN' := hN
    obtain ⟨hE, hO, ho, hm, hc, hs, hv⟩ := hN
    have hp6 := hE.1
    obtain ⟨n, rfl⟩ : ∃ i, n = i + 1 := ⟨n - 1, by omega⟩
    obtain ⟨m, rfl⟩ : ∃ i, m = i + 1 := ⟨m - 1, by omega⟩
    have hp : p < Z.1 := by omega
    rw [fX9_sad_6, fX10_sad_9, hO.1, m_persons hE hm]
    simp (disch := first | omega | decide) only [i10, i00, decide_true, decide_false, cnd_t, cnd_f, gd_nil, gd_t, b1_0, b1_1, sw_nil, sw_cons, obs, nI_lt2, hp]
    rw [c_joy hE hO hv hc hp]
    simp (disch := first | omega | decide) only [i10, i00, decide_true, decide_false, cnd_t, cnd_f, gd_nil, gd_t, b1_0, b1_1, sw_nil, sw_cons, obs, nI_addo]
    rcases hxy with rfl | ⟨i, hi, rfl, rfl⟩
    · simp only [m1lt0, i10, i00, decide_true, decide_false, cnd_t, cnd_f, gd_nil, gd_t, b1_0, b1_1, sw_nil, sw_cons, obs]
      exact ih (p + 1) n m _ _ v (Or.inr ⟨p, hp, rfl, rfl⟩) hN' (by omega) (by omega) (by omega)
    · simp (disch := first | omega | decide) only [nI_lt0, nI_nm1, i10, i00, decide_true, decide_false, cnd_t, cnd_f, gd_nil, gd_t, b1_0, b1_1, sw_nil, sw_cons, obs]
      refine qP.mrun (m_joy (b := 0) hE hm hs (by decide) hp fun v' s' => ⟨rfl, s'⟩) fun v1 s1 => ?_
      have hN1 := hN'.sc s1
      refine qP.mrun (m_joy (b := 0) hE hN1.2.2.2.1 hN1.2.2.2.2.2.1 (by decide) hi fun v' s' => ⟨rfl, s'⟩) fun v2 s2 => ?_
      have hN2 := hN1.sc s2
      by_cases e : nI (allS Z s p p) < nI (allS Z s i i)
      · simp only [e, i10, i00, decide_true, decide_false, cnd_t, cnd_f, gd_nil, gd_t, b1_0, b1_1, sw_nil, sw_cons, obs]
        exact ih (p + 1) n m _ _ v2 (Or.inr ⟨p, hp, rfl, rfl⟩) hN2 (by omega) (by omega) (by omega)
      · simp only [e, i10, i00, decide_true, decide_false, cnd_t, cnd_f, gd_nil, gd_t, b1_0, b1_1, sw_nil, sw_cons, obs]
        exact ih (p + 1) n m _ _ v2 (Or.inr ⟨i, hi, rfl, rfl⟩) hN2 (by omega) (by omega) (by omega)
theorem q_sad (hN : pN Z s u v) : qP (fX9_sad u) u (fX10_sad v) (sI v 0 0 0) := by
  have hp6 := hN.1.1
  exact q_sad9 Z.1 0 fu fu _ _ _ (Or.inl rfl) hN.th (Nat.zero_add _) (by simp only [fu]; omega) (by simp only [fu]; omega)
end PU
