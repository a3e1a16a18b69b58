/-! the line of a liking -/
section PU
variable {u v u' v' : ab_S} {n T i o : Nat}
theorem c_like {p k : Nat} (hp : p < 6) (hk : k < 8) : fX2_likeOf o (nI p) (nI k) u = some (u.1 (o + 7) (p * 8 + k), u) := by
  unfold fX2_likeOf
  have e : nI p * 8 + nI k = nI (p * 8 + k) := by
    rw [show nI p * 8 = nI (p * 8) from nI_mul p 8]
    exact nI_add _ _
  rw [e, c_at (by omega) (by decide)]
  simp only [obs]
-- the reference gathers what the person likes already
theorem m_likes {p : Nat} (hp : p < 6) (h8 : v.1 0 8 = 0) (P : Nat → Bool) (hP : ∀ k, k < 8 → ∃ l, l ≤ 20 ∧ v.1 6 (122 + 8 * p + k) = nI l ∧ (P k = true ↔ 0 < l)) : ∀ d k N, k + d = 8 → d < N → fX10_readLike_28 N (nI (122 + 8 * p)) (nI (bS P k)) (nI k) v = fX10_readLike_68 (nI (122 + 8 * p)) (nI (bS P 8)) v := by
  intro d
  induction d with
  | zero =>
    intro k N hk hN
    obtain ⟨N, rfl⟩ : ∃ m, N = m + 1 := ⟨N - 1, by omega⟩
    have ek : k = 8 := by omega
    subst ek
    rw [fX10_readLike_28]
    simp only [show (nI 8 < 8) = False from eq_false (by decide +kernel), i10, i00, decide_true, decide_false, cnd_t, cnd_f, gd_nil, gd_t, b1_0, b1_1, sw_nil, sw_cons, obs]
  | succ d ih =>
    intro k N hk hN
    obtain ⟨N, rfl⟩ : ∃ m, N = m + 1 := ⟨N - 1, by omega⟩
    obtain ⟨l, l1, l2, l3⟩ := hP k (by omega)
    have hb : bS P k < 256 := bS_256 (by omega)
    rw [fX10_readLike_28, h8]
    simp (disch := first | omega | decide) only [i10, i00, decide_true, decide_false, cnd_t, cnd_f, gd_nil, gd_t, b1_0, b1_1, sw_nil, sw_cons, obs, Nat.not_lt_zero, nI_addo, nI_oadd, nI_add, nI_mulo, nI_omul, nI_mul, nI_lto, nI_leo, nI_olt, nI_ole, nI_eqo, nI_oeq, nI_lt2, nI_le2, nI_eq2, nI_nm1, nI_m1n, nI_lt0, nI_lem1, nc_nI, nc_o, ix_nI, ix_o, show k < 8 by omega, l2]
    rw [← ih (k + 1) N (by omega) (by omega)]
    by_cases e : P k = true
    · have e1 : ¬ l ≤ 0 := by have := l3.mp e; omega
      simp only [e1, i10, i00, decide_true, decide_false, cnd_t, cnd_f, gd_nil, gd_t, b1_0, b1_1, sw_nil, sw_cons, obs]
      rw [zb_or hb (by omega)]
      simp only [bS, e, if_true]
    · have e1 : l ≤ 0 := by
        have := mt l3.mpr e
        omega
      simp only [e1, i10, i00, decide_true, decide_false, cnd_t, cnd_f, gd_nil, gd_t, b1_0, b1_1, sw_nil, sw_cons, obs]
      rw [show nI (bS P k) ||| 0 = nI (bS P k) from Int32.or_zero]
      simp only [bS, e, if_false, Bool.false_eq_true]
theorem l_likes {np ng : Nat} (h : pR n T i u v) (ho : o = 6 ∨ o = 18) (hR : ofR np ng o u v) (hw : isW 5 u) : lnO n T i o (fX2_readLikes o u) ((fX10_readLine v).bind fun q2 => fX10_takeSign 59 q2.2) u v := by
  obtain ⟨hp6, hg8, o1, o2, w90, w91, hc, hN, r1, r2, r3, r4, r5, r6, r7⟩ := hR
  have hk : u.1 1 7 ≠ 0 := by rw [hw.1]; decide +kernel
  have hi := h.i1000
  have dq : ∀ a k, dSu a k → dQu o a k := fun a k z => Or.inl z
  have ds : ∀ a k, dSv a k → dQv a k := fun a k z => Or.inl z
  have no : ∀ k, k < 23 → k ≠ 5 → fX10_isWord (nI k) v = some (0, v) := fun k hk hn => by
    rw [m_isWord h hk, if_neg fun z => hn (isW.uniq hk (by decide) z hw)]
  have w0 : fX10_isWord 0 v = some (0, v) := no 0 (by decide) (by decide)
  have w2 : fX10_isWord 2 v = some (0, v) := no 2 (by decide) (by decide)
  have w5 : fX10_isWord 5 v = some (1, v) := by
    have := m_isWord h (k := 5) (by decide)
    rw [if_pos hw] at this
    exact this
  obtain ⟨u1, s1, s2, s3⟩ := p_step h hk
  have emo : ((fX10_readLine v).bind fun q2 => fX10_takeSign 59 q2.2) = ((fX10_takeTold 1 0 0 (sI v 0 7 (nI (i + 1)))).bind fun q3 => fX10_readLike_28 fu (122 + (8 * q3.1)) 0 0 q3.2).bind fun q2 => fX10_takeSign 59 q2.2 := by
    unfold fX10_readLine fX10_readLike
    rw [w0]
    simp only [i10, i00, decide_true, decide_false, cnd_t, cnd_f, gd_nil, gd_t, b1_0, b1_1, sw_nil, sw_cons, obs]
    rw [w2]
    simp only [i10, i00, decide_true, decide_false, cnd_t, cnd_f, gd_nil, gd_t, b1_0, b1_1, sw_nil, sw_cons, obs]
    rw [w5]
    simp only [i10, i00, decide_true, decide_false, cnd_t, cnd_f, gd_nil, gd_t, b1_0, b1_1, sw_nil, sw_cons, obs, h.at, show nI i + 1 = nI (i + 1) from nI_1 i]
    cases ((fX10_takeTold 1 0 0 (sI v 0 7 (nI (i + 1)))).bind fun q3 => fX10_readLike_28 fu (122 + (8 * q3.1)) 0 0 q3.2) with
    | none => rfl
    | some r => rfl
  rw [emo]
  unfold fX2_readLikes
  rw [s1]
  simp only [obs]
  have g1 : Fr dSv v (sI v 0 7 (nI (i + 1))) := Fr.sI ⟨rfl, Or.inl rfl⟩
  have hN1 : nmR np ng o 10 12 u1 (sI v 0 7 (nI (i + 1))) := hN.fr s3 g1 (fun k => ⟨fun q => by unfold dSu at q; omega, fun q => by unfold dSu at q; omega⟩) (fun k => ⟨fun q => by unfold dSv at q; omega, fun q => by unfold dSv at q; omega⟩)
  have hc1 : (sI v 0 7 (nI (i + 1))).1 0 19 = nI (np + ng) := by rw [sI_at, if_neg (by omega)]; exact hc
  have o11 : u1.1 o 0 = nI np := by rw [s3.1 _ _ (by unfold dSu; omega)]; exact o1
  rw [o11]
  -- a fault that stands when the likings are gathered
  have flt : ∀ (f : Nat) (w : ab_S) (x m : Int32), mF f w → ∃ w', fX10_readLike_68 x m w = some ((), w') ∧ mF f w' ∧ Fr dSv w w' := by
    intro f w x m hF
    obtain ⟨w1, a1, a2, a3⟩ := mF_takeTold hF 1 20 m
    refine ⟨w1, ?_, a2, a3⟩
    unfold fX10_readLike_68
    rw [a1]
    simp only [obs]
    rw [mF_takeNumber a2]
    simp only [obs, a2.nz.1, i10, i00, decide_true, decide_false, cnd_t, cnd_f, gd_nil, gd_t, b1_0, b1_1, sw_nil, sw_cons, obs]
  obtain ⟨p, u2, p1, p2, p3, p4, p5⟩ | ⟨f, v2, p2, p3, p4, p5⟩ := p_toldP1 hp6 hg8 s2 hN1 hc1
  · have np1 : (nI p = -1) ↔ False := nI_nm1 (by omega)
    rw [p2, p3]
    simp only [obs, np1, i10, i00, decide_true, decide_false, cnd_t, cnd_f, gd_nil, gd_t, b1_0, b1_1, sw_nil, sw_cons, obs]
    have F2 : Fr dSu u u2 := s3.trans p5
    have G2 : Fr dSv v (sI (sI v 0 7 (nI (i + 1))) 0 7 (nI (i + 1 + 1))) := g1.trans (Fr.sI ⟨rfl, Or.inl rfl⟩)
    have hu2 : ∀ a k, 6 ≤ a → u2.1 a k = u.1 a k := fun a k z => F2.1 a k (fun q => by unfold dSu at q; omega)
    have hv2 : ∀ a k, 6 ≤ a → (sI (sI v 0 7 (nI (i + 1))) 0 7 (nI (i + 1 + 1))).1 a k = v.1 a k := fun a k z => G2.1 a k (fun q => by unfold dSv at q; omega)
    have hN2 : nmR np ng o 10 12 u2 (sI (sI v 0 7 (nI (i + 1))) 0 7 (nI (i + 1 + 1))) := hN.fr F2 G2 (fun k => ⟨fun q => by unfold dSu at q; omega, fun q => by unfold dSu at q; omega⟩) (fun k => ⟨fun q => by unfold dSv at q; omega, fun q => by unfold dSv at q; omega⟩)
    have hc2 : (sI (sI v 0 7 (nI (i + 1))) 0 7 (nI (i + 1 + 1))).1 0 19 = nI (np + ng) := (G2.1 0 19 (fun q => by unfold dSv at q; omega)).trans hc
    have o22 : u2.1 o 1 = nI ng := by rw [hu2 o 1 (by omega)]; exact o2
    have hP : ∀ k, k < 8 → ∃ l, l ≤ 20 ∧ (sI (sI v 0 7 (nI (i + 1))) 0 7 (nI (i + 1 + 1))).1 6 (122 + 8 * p + k) = nI l ∧ (decide (¬ u.1 (o + 7) (p * 8 + k) = 0) = true ↔ 0 < l) := by
      intro k hk
      obtain ⟨l, l1, l2, l3⟩ := r5 p (by omega) k hk
      refine ⟨l, l1, by rw [hv2 6 _ (by decide)]; exact l3, ?_⟩
      rw [decide_eq_true_iff, l2]
      have : nI l = 0 ↔ l = 0 := nI_eq (b := 0) (by omega) (by decide)
      rw [this]
      omega
    have eL := m_likes (show p < 6 by omega) (by rw [sI_at, if_neg (by omega), sI_at, if_neg (by omega)]; exact h.ok) (fun k => decide (¬ u.1 (o + 7) (p * 8 + k) = 0)) hP 8 0 fu rfl (by decide)
    have e122 : (122 : Int32) + 8 * nI p = nI (122 + 8 * p) := by
      rw [show (8 : Int32) * nI p = nI (8 * p) from nI_mul 8 p]
      exact nI_add _ _
    have eL' : fX10_readLike_28 fu (122 + 8 * nI p) 0 0 (sI (sI v 0 7 (nI (i + 1))) 0 7 (nI (i + 1 + 1))) = fX10_readLike_68 (nI (122 + 8 * p)) (nI (bS (fun k => decide (¬ u.1 (o + 7) (p * 8 + k) = 0)) 8)) (sI (sI v 0 7 (nI (i + 1))) 0 7 (nI (i + 1 + 1))) := by
      rw [e122]
      exact eL
    rw [eL']
    have hM : bS (fun k => decide (¬ u.1 (o + 7) (p * 8 + k) = 0)) 8 < 256 := bS_256 (by decide)
    have bit : ∀ k, k < 8 → (((nI (bS (fun k => decide (¬ u.1 (o + 7) (p * 8 + k) = 0)) 8) >>> (nI k &&& 31)) &&& 1 = 1) ↔ ¬ u.1 (o + 7) (p * 8 + k) = 0) := fun k hk => by
      rw [zb_b1 hM hk, bS_bit]
      simp only [hk, decide_true, Bool.true_and, decide_eq_true_iff]
    have rest : (fX6_isName u2 = some (1, u2) → ∀ k, k < ng → u2.2.1 (o + 2) k = u2.2.1 1 9 → u.1 (o + 7) (p * 8 + k) = 0) → lnO n T i o (fX2_readLikes_71 o (nI p) u2) ((fX10_readLike_68 (nI (122 + 8 * p)) (nI (bS (fun k => decide (¬ u.1 (o + 7) (p * 8 + k) = 0)) 8)) (sI (sI v 0 7 (nI (i + 1))) 0 7 (nI (i + 1 + 1)))).bind fun q2 => fX10_takeSign 59 q2.2) u v := by
      intro hz
      unfold fX2_readLikes_71 fX10_readLike_68
      rw [o22]
      obtain ⟨k, u3, k1, k2, k3, k4, k5, -⟩ | ⟨f, v3, k2, k3, k4, k5⟩ := p_toldG1 hp6 hg8 p4 hN2 hc2 (nI (bS (fun k => decide (¬ u.1 (o + 7) (p * 8 + k) = 0)) 8)) (fun hn k hk hx z => (bit k (by omega)).mp z (hz hn k hk hx))
      · have nk : (nI k = -1) ↔ False := nI_nm1 (by omega)
        rw [k2, k3]
        simp only [obs, nk, i10, i00, decide_true, decide_false, cnd_t, cnd_f, gd_nil, gd_t, b1_0, b1_1, sw_nil, sw_cons, obs]
        have F3 : Fr dSu u u3 := F2.trans k5
        have G3 : Fr dSv v (sI (sI (sI v 0 7 (nI (i + 1))) 0 7 (nI (i + 1 + 1))) 0 7 (nI (i + 1 + 1 + 1))) := G2.trans (Fr.sI ⟨rfl, Or.inl rfl⟩)
        have e12 : nI (122 + 8 * p) + nI k = nI (122 + 8 * p + k) := nI_add _ _
        obtain ⟨x, u4, x1, x2, x3, x4, x5, x6⟩ | ⟨f, x3, x4, x5, x6⟩ := p_num k4 1 20 (by decide) (by decide)
        · have x3' : fX6_takeNumber 1 20 u3 = some (nI x, u4) := x3
          have x4' : fX10_takeNumber 1 20 (sI (sI (sI v 0 7 (nI (i + 1))) 0 7 (nI (i + 1 + 1))) 0 7 (nI (i + 1 + 1 + 1))) = some (nI x, sI (sI (sI (sI v 0 7 (nI (i + 1))) 0 7 (nI (i + 1 + 1))) 0 7 (nI (i + 1 + 1 + 1))) 0 7 (nI (i + 1 + 1 + 1 + 1))) := x4
          have nx : (nI x = -1) ↔ False := nI_nm1 (by omega)
          have gz : Fr (fun a j => a = 6 ∧ j = 122 + 8 * p + k) (sI (sI (sI (sI v 0 7 (nI (i + 1))) 0 7 (nI (i + 1 + 1))) 0 7 (nI (i + 1 + 1 + 1))) 0 7 (nI (i + 1 + 1 + 1 + 1))) (sI (sI (sI (sI (sI v 0 7 (nI (i + 1))) 0 7 (nI (i + 1 + 1))) 0 7 (nI (i + 1 + 1 + 1))) 0 7 (nI (i + 1 + 1 + 1 + 1))) 6 (122 + 8 * p + k) (nI x)) := Fr.sI ⟨rfl, rfl⟩
          have h5 := x5.fr (D := fun _ _ => False) Fr.rfl' gz (fun a k z q => q) (fun a k z q => by unfold oPv at z; omega)
          have F4 : Fr dSu u u4 := F3.trans x6
          have G4 : Fr dSv v (sI (sI (sI (sI v 0 7 (nI (i + 1))) 0 7 (nI (i + 1 + 1))) 0 7 (nI (i + 1 + 1 + 1))) 0 7 (nI (i + 1 + 1 + 1 + 1))) := G3.trans (Fr.sI ⟨rfl, Or.inl rfl⟩)
          have gQ : Fr dQv v (sI (sI (sI (sI (sI v 0 7 (nI (i + 1))) 0 7 (nI (i + 1 + 1))) 0 7 (nI (i + 1 + 1 + 1))) 0 7 (nI (i + 1 + 1 + 1 + 1))) 6 (122 + 8 * p + k) (nI x)) := (G4.mono ds).trans (gz.mono fun a k z => by unfold dQv; omega)
          rw [x3', x4', e12]
          simp (disch := first | omega | decide) only [obs, nx, x5.ok, i10, i00, decide_true, decide_false, cnd_t, cnd_f, gd_nil, gd_t, b1_0, b1_1, sw_nil, sw_cons, obs, ix_nI, nc_nI]
          obtain ⟨u5, e1, e2, e3, e4, e5⟩ | ⟨f, e1, e2, e3, e4⟩ := p_end h5
          · have F5 : Fr dSu u u5 := F4.trans e4
            have hu : ∀ a k, 6 ≤ a → u5.1 a k = u.1 a k := fun a k z => F5.1 a k (fun q => by unfold dSu at q; omega)
            have e8 : nI p * 8 + nI k = nI (p * 8 + k) := by
              rw [show nI p * 8 = nI (p * 8) from nI_mul p 8]
              exact nI_add _ _
            have G6 : Fr (fun a j => dSv a j ∨ (a = 6 ∧ j = 122 + 8 * p + k)) v (sI (sI (sI (sI (sI (sI v 0 7 (nI (i + 1))) 0 7 (nI (i + 1 + 1))) 0 7 (nI (i + 1 + 1 + 1))) 0 7 (nI (i + 1 + 1 + 1 + 1))) 6 (122 + 8 * p + k) (nI x)) 0 7 (nI (i + 1 + 1 + 1 + 1 + 1))) := (G4.mono fun a k z => Or.inl z).trans ((gz.mono fun a k z => Or.inr z).trans (Fr.sI (Or.inl ⟨rfl, Or.inl rfl⟩)))
            have v6 : ∀ a j, ¬ (a = 0 ∧ (j = 7 ∨ j = 8)) → ¬ (a = 6 ∧ j = 122 + 8 * p + k) → (sI (sI (sI (sI (sI (sI v 0 7 (nI (i + 1))) 0 7 (nI (i + 1 + 1))) 0 7 (nI (i + 1 + 1 + 1))) 0 7 (nI (i + 1 + 1 + 1 + 1))) 6 (122 + 8 * p + k) (nI x)) 0 7 (nI (i + 1 + 1 + 1 + 1 + 1))).1 a j = v.1 a j := fun a j z1 z2 => G6.1 a j (fun q => by unfold dSv at q; omega)
            have fW : Fr (fun a j => a = o + 7 ∧ j = p * 8 + k) u5 (sI u5 (o + 7) (p * 8 + k) (nI x)) := Fr.sI ⟨rfl, rfl⟩
            have u7k : ∀ a j, 6 ≤ a → ¬ (a = o + 7 ∧ j = p * 8 + k) → (sI u5 (o + 7) (p * 8 + k) (nI x)).1 a j = u.1 a j := fun a j z1 z2 => (fW.1 a j z2).trans (hu a j z1)
            have hN' := (hN.fr F5 G6 (fun k => ⟨fun q => by unfold dSu at q; omega, fun q => by unfold dSu at q; omega⟩) (fun k => ⟨fun q => by unfold dSv at q; omega, fun q => by unfold dSv at q; omega⟩)).fr fW (Fr.rfl' (D := fun _ _ => False)) (fun k => ⟨fun q => by omega, fun q => by omega⟩) (fun k => ⟨id, id⟩)
            refine Or.inl ⟨_, _, i + 1 + 1 + 1 + 1 + 1, np, ng, by omega, ?_, e2, e3.fr (E := fun _ _ => False) fW Fr.rfl' (fun a k z q => by unfold oPu at z; omega) (fun a k z q => q), ⟨hp6, hg8, ?_, ?_, ?_, ?_, ?_, hN', fun q hq => ?_, fun q hq => ?_, fun j hj => ?_, fun j hj => ?_, fun q hq j hj => ?_, ?_, ?_⟩, (F5.mono dq).trans (fW.mono fun a k z => Or.inr (by omega)), gQ.trans (Fr.sI (Or.inl ⟨rfl, Or.inl rfl⟩))⟩
            · rw [e1]
              simp only [i10, i00, decide_true, decide_false, cnd_t, cnd_f, gd_nil, gd_t, b1_0, b1_1, sw_nil, sw_cons, obs]
              rw [e8, put_eq (by omega) (by decide)]
              simp only [i10, i00, decide_true, decide_false, cnd_t, cnd_f, gd_nil, gd_t, b1_0, b1_1, sw_nil, sw_cons, obs]
            · rw [u7k o 0 (by omega) (by omega)]; exact o1
            · rw [u7k o 1 (by omega) (by omega)]; exact o2
            · rw [v6 6 90 (by omega) (by omega)]; exact w90
            · rw [v6 6 91 (by omega) (by omega)]; exact w91
            · rw [v6 0 19 (by omega) (by omega)]; exact hc
            · rw [u7k _ _ (by omega) (by omega), v6 _ _ (by omega) (by omega)]
              exact r1 q hq
            · obtain ⟨c', c1, c2, c3⟩ := r2 q hq
              exact ⟨c', c1, by rw [u7k _ _ (by omega) (by omega)]; exact c2, by rw [v6 _ _ (by omega) (by omega)]; exact c3⟩
            · obtain ⟨c', c1, c2, c3⟩ := r3 j hj
              exact ⟨c', c1, by rw [u7k _ _ (by omega) (by omega)]; exact c2, by rw [v6 _ _ (by omega) (by omega)]; exact c3⟩
            · obtain ⟨c', c1, c2, c3⟩ := r4 j hj
              exact ⟨c', c1, by rw [u7k _ _ (by omega) (by omega)]; exact c2, by rw [v6 _ _ (by omega) (by omega)]; exact c3⟩
            · by_cases ee : q = p ∧ j = k
              · obtain ⟨eq, ej⟩ := ee
                subst eq ej
                refine ⟨x, x2, by rw [sI_at, if_pos ⟨rfl, rfl⟩], ?_⟩
                rw [sI_at, if_neg (by omega), sI_at, if_pos ⟨rfl, rfl⟩]
              · obtain ⟨c', c1, c2, c3⟩ := r5 q hq j hj
                exact ⟨c', c1, by rw [u7k _ _ (by omega) (by omega)]; exact c2, by rw [v6 _ _ (by omega) (by omega)]; exact c3⟩
            · obtain ⟨a, b, c1, c2, c3⟩ := r6
              exact ⟨a, b, by rw [u7k _ _ (by omega) (by omega)]; exact c1, by rw [u7k _ _ (by omega) (by omega)]; exact c2, by rw [v6 0 20 (by omega) (by omega)]; exact c3⟩
            · obtain ⟨g, c1, c2, c3⟩ := r7
              exact ⟨g, c1, by rw [u7k _ _ (by omega) (by omega)]; exact c2, by rw [v6 6 92 (by omega) (by omega)]; exact c3⟩
          · refine Or.inr ⟨f, sI u4 1 10 (nI f), _, ?_, e2, by rw [sI_at, if_pos ⟨rfl, rfl⟩], mF.mk8 e3 e4, (F4.mono dq).trans (Fr.sI (Or.inl ⟨rfl, by decide, by decide⟩)), gQ.trans (Fr.sI (Or.inl ⟨rfl, Or.inr rfl⟩))⟩
            rw [e1]
            simp only [i10, i00, decide_true, decide_false, cnd_t, cnd_f, gd_nil, gd_t, b1_0, b1_1, sw_nil, sw_cons, obs]
        · have x3' : fX6_takeNumber 1 20 u3 = some (-1, sI u3 1 10 (nI f)) := x3
          have x4' : fX10_takeNumber 1 20 (sI (sI (sI v 0 7 (nI (i + 1))) 0 7 (nI (i + 1 + 1))) 0 7 (nI (i + 1 + 1 + 1))) = some (0, sI (sI (sI (sI v 0 7 (nI (i + 1))) 0 7 (nI (i + 1 + 1))) 0 7 (nI (i + 1 + 1 + 1))) 0 8 (nI f)) := x4
          have hF := mF.mk8 (v := (sI (sI (sI v 0 7 (nI (i + 1))) 0 7 (nI (i + 1 + 1))) 0 7 (nI (i + 1 + 1 + 1)))) x5 x6
          rw [x3', x4']
          simp only [obs, hF.nz.1, i10, i00, decide_true, decide_false, cnd_t, cnd_f, gd_nil, gd_t, b1_0, b1_1, sw_nil, sw_cons, obs]
          exact Or.inr ⟨f, _, _, rfl, mF_takeSign hF 59, by rw [sI_at, if_pos ⟨rfl, rfl⟩], hF, (F3.mono dq).trans (Fr.sI (Or.inl ⟨rfl, by decide, by decide⟩)), (G3.mono ds).trans (Fr.sI (Or.inl ⟨rfl, Or.inr rfl⟩))⟩
      · rw [k2, k3]
        simp only [obs, i10, i00, decide_true, decide_false, cnd_t, cnd_f, gd_nil, gd_t, b1_0, b1_1, sw_nil, sw_cons, obs]
        rw [mF_takeNumber k4]
        simp only [obs, k4.nz.1, i10, i00, decide_true, decide_false, cnd_t, cnd_f, gd_nil, gd_t, b1_0, b1_1, sw_nil, sw_cons, obs]
        exact Or.inr ⟨f, _, v3, rfl, mF_takeSign k4 59, by rw [sI_at, if_pos ⟨rfl, rfl⟩], k4, (F2.mono dq).trans (Fr.sI (Or.inl ⟨rfl, by decide, by decide⟩)), (G2.mono ds).trans (k5.mono ds)⟩
    obtain ⟨b, b1, b2, b3⟩ := p_isName p4
    rw [b1]
    cases b
    · simp only [b01, Bool.false_eq_true, if_false, i10, i00, decide_true, decide_false, cnd_t, cnd_f, gd_nil, gd_t, b1_0, b1_1, sw_nil, sw_cons, obs]
      unfold fX2_readLikes_50
      simp only [i10, i00, decide_true, decide_false, cnd_t, cnd_f, gd_nil, gd_t, b1_0, b1_1, sw_nil, sw_cons, obs]
      exact rest fun z => by
        rw [b1] at z
        exact absurd (Prod.mk.inj (Option.some.inj z)).1 (by decide +kernel)
    · simp only [b01, if_true, i10, i00, decide_true, decide_false, cnd_t, cnd_f, gd_nil, gd_t, b1_0, b1_1, sw_nil, sw_cons, obs]
      obtain ⟨r, c1, c2⟩ := c_index (u := u2) (o0 := o + 2) (n0 := 8) hg8 (by decide) (u2.2.1 1 9)
      rw [o22, c1]
      simp only [obs]
      unfold fX2_readLikes_50
      obtain ⟨j, j1, j2, j3⟩ | ⟨j1, j2⟩ := c2
      · have nj : (nI j = -1) ↔ False := nI_nm1 (by omega)
        rw [j3, c_like (by omega) (by omega), hu2 _ _ (by omega)]
        simp only [nj, i10, i00, decide_true, decide_false, cnd_t, cnd_f, gd_nil, gd_t, b1_0, b1_1, sw_nil, sw_cons, obs]
        by_cases ez : u.1 (o + 7) (p * 8 + j) = 0
        · simp only [ez, i10, i00, decide_true, decide_false, cnd_t, cnd_f, gd_nil, gd_t, b1_0, b1_1, sw_nil, sw_cons, obs]
          refine rest fun _ k hk hx => ?_
          have ekj := hN2.2.2.2.2.1 k j hk j1 (hx.trans j2.symm)
          subst ekj
          exact ez
        · obtain ⟨f, v3, q1, q2, q3, q4⟩ := p_toldX1 hp6 hg8 p4 hN2 hc2 b1 j1 j2 (nI (bS (fun k => decide (¬ u.1 (o + 7) (p * 8 + k) = 0)) 8)) ((bit j (by omega)).mpr ez)
          refine Or.inr ⟨f, sI u2 1 10 (nI f), v3, ?_, ?_, by rw [sI_at, if_pos ⟨rfl, rfl⟩], q3, (F2.mono dq).trans (Fr.sI (Or.inl ⟨rfl, by decide, by decide⟩)), (G2.mono ds).trans (q4.mono ds)⟩
          · simp only [ez, i10, i00, decide_true, decide_false, cnd_t, cnd_f, gd_nil, gd_t, b1_0, b1_1, sw_nil, sw_cons, obs, q1]
          · unfold fX10_readLike_68
            rw [q2]
            simp only [obs]
            rw [mF_takeNumber q3]
            simp only [obs, q3.nz.1, i10, i00, decide_true, decide_false, cnd_t, cnd_f, gd_nil, gd_t, b1_0, b1_1, sw_nil, sw_cons, obs]
            exact mF_takeSign q3 59
      · rw [j1]
        simp only [i10, i00, decide_true, decide_false, cnd_t, cnd_f, gd_nil, gd_t, b1_0, b1_1, sw_nil, sw_cons, obs]
        exact rest fun _ k hk hx => absurd hx (j2 k hk)
  · rw [p2, p3]
    simp only [obs, i10, i00, decide_true, decide_false, cnd_t, cnd_f, gd_nil, gd_t, b1_0, b1_1, sw_nil, sw_cons, obs]
    have e28 : fX10_readLike_28 fu (122 + 8 * 0) 0 0 v2 = fX10_readLike_68 (122 + 8 * 0) 0 v2 := by
      show fX10_readLike_28 (4999 + 1) (122 + 8 * 0) 0 0 v2 = _
      rw [fX10_readLike_28]
      simp only [show ((0 : Int32) < 8) = True from eq_true (by decide +kernel), p4.nz.1, i10, i00, decide_true, decide_false, cnd_t, cnd_f, gd_nil, gd_t, b1_0, b1_1, sw_nil, sw_cons, obs]
    obtain ⟨v3, b1, b2, b3⟩ := flt f v2 (122 + 8 * 0) 0 p4
    rw [e28, b1]
    simp only [obs]
    exact Or.inr ⟨f, _, v3, rfl, mF_takeSign b2 59, by rw [sI_at, if_pos ⟨rfl, rfl⟩], b2, (s3.mono dq).trans (Fr.sI (Or.inl ⟨rfl, by decide, by decide⟩)), (g1.mono ds).trans ((p5.mono ds).trans (b3.mono ds))⟩
end PU
