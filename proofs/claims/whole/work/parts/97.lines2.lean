/-! the law's line; all lines of an office -/
-- the law, between two lines
def LW (o : Nat) (u v : ab_S) : Prop := (u.1 o 11 = 0 ∧ v.1 6 93 = -1 ∧ v.1 0 13 = 0 ∧ u.1 (o + 8) 1 = nI 3 ∧ u.1 (o + 9) 0 = -1 ∧ u.1 (o + 9) 1 = -3 ∧ u.1 (o + 9) 2 = -10) ∨ (u.1 o 11 = 1 ∧ v.1 6 93 = 0 ∧ ∃ cs : List Int32, cs.length ≤ 1000 ∧ sgm 30 cs ∧ u.1 (o + 8) 1 = nI cs.length ∧ v.1 0 13 = nI (cs.length + 1) ∧ (∀ i, i < cs.length → u.1 (o + 9) i = cs.getD i 0 ∧ cE (cs.getD i 0) (v.1 7 (1100 + i)) (v.1 8 (1100 + i))) ∧ v.1 7 (1100 + cs.length) = 0)
def dZu (o a k : Nat) : Prop := (a = 1 ∧ 6 ≤ k ∧ k ≤ 10) ∨ (o ≤ a ∧ a < o + 12)
def dZv (a k : Nat) : Prop := dSv a k ∨ a = 10 ∨ a = 12 ∨ (a = 0 ∧ (k = 13 ∨ k = 19 ∨ k = 20)) ∨ (a = 6 ∧ 90 ≤ k) ∨ ((a = 7 ∨ a = 8) ∧ 1100 ≤ k)
def lnP (n T i o : Nat) (y : Option (Int32 × ab_S)) (z : Option (Unit × ab_S)) (u v : ab_S) : Prop := (∃ u' v' i' np ng, i < i' ∧ y = some (1, u') ∧ z = some ((), v') ∧ pR n T i' u' v' ∧ ofR np ng o u' v' ∧ LW o u' v' ∧ Fr (dZu o) u u' ∧ Fr dZv v v') ∨ (∃ f u' v', y = some (0, u') ∧ z = some ((), v') ∧ u'.1 1 10 = nI f ∧ mF f v' ∧ Fr (dZu o) u u' ∧ Fr dZv v v')
section PU
variable {u v u' v' : ab_S} {n T i o : Nat}
theorem LW.fr {D E : Nat → Nat → Prop} (h : LW o u v) (f : Fr D u u') (g : Fr E v v') (hd : ∀ a k, (a = o + 8 ∨ a = o + 9 ∨ (a = o ∧ k = 11)) → ¬ D a k) (he : ∀ a k, ((a = 6 ∧ k = 93) ∨ (a = 0 ∧ k = 13) ∨ ((a = 7 ∨ a = 8) ∧ 1100 ≤ k)) → ¬ E a k) : LW o u' v' := by
  obtain ⟨h1, h2, h3, h4, h5, h6, h7⟩ | ⟨h1, h2, cs, h3, h4, h5, h6, h7, h8⟩ := h
  · refine Or.inl ⟨(f.1 _ _ (hd _ _ (by omega))).trans h1, (g.1 _ _ (he _ _ (by omega))).trans h2, (g.1 _ _ (he _ _ (by omega))).trans h3, (f.1 _ _ (hd _ _ (by omega))).trans h4, (f.1 _ _ (hd _ _ (by omega))).trans h5, (f.1 _ _ (hd _ _ (by omega))).trans h6, (f.1 _ _ (hd _ _ (by omega))).trans h7⟩
  · refine Or.inr ⟨(f.1 _ _ (hd _ _ (by omega))).trans h1, (g.1 _ _ (he _ _ (by omega))).trans h2, cs, h3, h4, (f.1 _ _ (hd _ _ (by omega))).trans h5, (g.1 _ _ (he _ _ (by omega))).trans h6, fun i hi => ?_, (g.1 _ _ (he _ _ (by omega))).trans h8⟩
    rw [f.1 _ _ (hd (o + 9) i (by omega)), g.1 _ _ (he 7 (1100 + i) (by omega)), g.1 _ _ (he 8 (1100 + i) (by omega))]
    exact h7 i hi
theorem dQ_Z : ∀ a k, dQu o a k → dZu o a k := fun a k z => by unfold dQu at z; unfold dZu; omega
theorem dQ_Zv : ∀ a k, dQv a k → dZv a k := fun a k z => by unfold dQv dSv at z; unfold dZv dSv; omega
theorem lnO.P {y : Option (Int32 × ab_S)} {z : Option (Unit × ab_S)} (ho : o = 6 ∨ o = 18) (h : lnO n T i o y z u v) (hL : LW o u v) : lnP n T i o y z u v := by
  obtain ⟨u', v', i', np, ng, h1, h2, h3, h4, h5, h6, h7⟩ | ⟨f, u', v', h1, h2, h3, h4, h5, h6⟩ := h
  · exact Or.inl ⟨u', v', i', np, ng, h1, h2, h3, h4, h5, hL.fr h6 h7 (fun a k z q => by unfold dQu at q; omega) (fun a k z q => by unfold dQv dSv at q; omega), h6.mono dQ_Z, h7.mono dQ_Zv⟩
  · exact Or.inr ⟨f, u', v', h1, h2, h3, h4, h5.mono dQ_Z, h6.mono dQ_Zv⟩
theorem ofR.law {np ng : Nat} {b' : Bool} {D E : Nat → Nat → Prop} (h : ofR np ng o u v) (ho : o = 6 ∨ o = 18) (f : Fr D u u') (g : Fr E v v') (hd : ∀ a k, D a k → (a < 6 ∨ (a = o ∧ k = 11) ∨ (o + 8 ≤ a ∧ a < o + 12))) (he : ∀ a k, E a k → ((a = 0 ∧ k ≠ 19) ∨ (a = 6 ∧ k = 93) ∨ a = 7 ∨ a = 8)) (hb : u'.1 o 11 = b01 b') (hv : ∀ a : Bool, u.1 o 10 = b01 a → v'.1 0 20 = nI (a.toNat + 2 * b'.toNat)) : ofR np ng o u' v' := by
  obtain ⟨hp6, hg8, o1, o2, w90, w91, hc, hN, r1, r2, r3, r4, r5, ⟨a, b, r6, r61, r62⟩, r7⟩ := h
  have eu : ∀ a k, 6 ≤ a → ¬ (a = o ∧ k = 11) → ¬ (o + 8 ≤ a ∧ a < o + 12) → u'.1 a k = u.1 a k := fun a k z1 z2 z3 => f.1 a k fun q => by
    have := hd a k q
    omega
  have ev : ∀ k, k ≠ 93 → v'.1 6 k = v.1 6 k := fun k z => g.1 6 k fun q => by
    have := he 6 k q
    omega
  have hN' : nmR np ng o 10 12 u' v' := hN.fr f g (fun k => ⟨fun q => by have := hd _ _ q; omega, fun q => by have := hd _ _ q; omega⟩) (fun k => ⟨fun q => by have := he _ _ q; omega, fun q => by have := he _ _ q; omega⟩)
  refine ⟨hp6, hg8, ?_, ?_, ?_, ?_, ?_, hN', fun p hp => ?_, fun p hp => ?_, fun k hk => ?_, fun k hk => ?_, fun p hp k hk => ?_, ⟨a, b', ?_, hb, hv a r6⟩, ?_⟩
  · rw [eu o 0 (by omega) (by omega) (by omega)]; exact o1
  · rw [eu o 1 (by omega) (by omega) (by omega)]; exact o2
  · rw [ev 90 (by decide)]; exact w90
  · rw [ev 91 (by decide)]; exact w91
  · rw [g.1 0 19 (fun q => by have := he _ _ q; omega)]; exact hc
  · rw [eu _ _ (by omega) (by omega) (by omega), ev _ (by omega)]
    exact r1 p hp
  · obtain ⟨c', c1, c2, c3⟩ := r2 p hp
    exact ⟨c', c1, by rw [eu _ _ (by omega) (by omega) (by omega)]; exact c2, by rw [ev _ (by omega)]; exact c3⟩
  · obtain ⟨c', c1, c2, c3⟩ := r3 k hk
    exact ⟨c', c1, by rw [eu _ _ (by omega) (by omega) (by omega)]; exact c2, by rw [ev _ (by omega)]; exact c3⟩
  · obtain ⟨c', c1, c2, c3⟩ := r4 k hk
    exact ⟨c', c1, by rw [eu _ _ (by omega) (by omega) (by omega)]; exact c2, by rw [ev _ (by omega)]; exact c3⟩
  · obtain ⟨c', c1, c2, c3⟩ := r5 p hp k hk
    exact ⟨c', c1, by rw [eu _ _ (by omega) (by omega) (by omega)]; exact c2, by rw [ev _ (by omega)]; exact c3⟩
  · rw [eu o 10 (by omega) (by omega) (by omega)]; exact r6
  · obtain ⟨c', c1, c2, c3⟩ := r7
    exact ⟨c', c1, by rw [eu _ _ (by omega) (by omega) (by omega)]; exact c2, by rw [ev _ (by omega)]; exact c3⟩
theorem l_law {np ng : Nat} (h : pR n T i u v) (ho : o = 6 ∨ o = 18) (hR : ofR np ng o u v) (hL : LW o u v) (hw : isW 7 u) : lnP n T i o (fX2_readFits o u) ((fX10_readLine v).bind fun q2 => fX10_takeSign 59 q2.2) u v := by
  have hR0 := hR
  obtain ⟨hp6, hg8, o1, o2, w90, w91, hc, hN, r1, r2, r3, r4, r5, ⟨a, b, r6, r61, r62⟩, r7⟩ := hR
  have hk : u.1 1 7 ≠ 0 := by rw [hw.1]; decide +kernel
  have hi := h.i1000
  have no : ∀ k, k < 23 → k ≠ 7 → ¬ isW k u := fun k hk hn z => hn (isW.uniq hk (by decide) z hw)
  rw [m_once h (no 0 (by decide) (by decide)) (no 2 (by decide) (by decide)) (no 5 (by decide) (by decide))]
  obtain ⟨r, q1, q2, -⟩ := m_wordHere h 6 2 (by decide)
  have er := q2 1 (by decide) hw
  subst er
  have q1' : fX10_wordHere 6 2 v = some (1, v) := q1
  obtain ⟨⟨-, ob⟩, -, oc⟩ := once_bit a b
  unfold fX2_readFits fX10_readOnce
  rw [q1', r61]
  have l0 : ((1 : Int32) < 0) = False := eq_false (by decide +kernel)
  cases b
  · have nb : ¬ ((nI (a.toNat + 2 * false.toNat) >>> ((1 : Int32) &&& 31)) &&& 1 = 1) := fun z => absurd (ob.mp z) Bool.false_ne_true
    have hL' : v.1 0 13 = 0 := by
      obtain ⟨h1, h2, h3, -⟩ | ⟨h1, -⟩ := hL
      · exact h3
      · exact absurd (h1.symm.trans r61) (by decide +kernel)
    have hr0 : pR n T i u (sI v 0 20 (nI (a.toNat + 2 * true.toNat))) := h.fr (D := fun _ _ => False) (E := fun a k => a = 0 ∧ k = 20) Fr.rfl' (Fr.sI ⟨rfl, rfl⟩) (fun a k z q => q) (fun a k z q => by unfold oPv at z; omega)
    obtain ⟨u1, s1, s2, s3⟩ := p_step hr0 hk
    have fA : Fr (fun a k => a = o ∨ a = o + 8) u1 (sI (sI u1 o 11 1) (o + 8) 1 0) := (Fr.sI (Or.inl rfl)).trans (Fr.sI (Or.inr rfl))
    have gA : Fr (fun a k => a = 6 ∧ k = 93) (sI (sI v 0 20 (nI (a.toNat + 2 * true.toNat))) 0 7 (nI (i + 1))) (sI (sI (sI v 0 20 (nI (a.toNat + 2 * true.toNat))) 0 7 (nI (i + 1))) 6 93 0) := Fr.sI ⟨rfl, rfl⟩
    have hA : pR n T (i + 1) (sI (sI u1 o 11 1) (o + 8) 1 0) (sI (sI (sI v 0 20 (nI (a.toNat + 2 * true.toNat))) 0 7 (nI (i + 1))) 6 93 0) := s2.fr fA gA (fun a k z q => by unfold oPu at z; omega) (fun a k z q => by unfold oPv at z; omega)
    have hB : lwR [] (o + 8) (sI (sI u1 o 11 1) (o + 8) 1 0) (sI (sI (sI v 0 20 (nI (a.toNat + 2 * true.toNat))) 0 7 (nI (i + 1))) 6 93 0) := by
      refine ⟨?_, ?_, fun i hi => absurd hi (Nat.not_lt_zero i)⟩
      · rw [sI_at, if_pos ⟨rfl, rfl⟩]; rfl
      · rw [sI_at, if_neg (by omega), sI_at, if_neg (by omega), sI_at, if_neg (by omega)]; exact hL'
    have hT1 : T ≤ 1000 := Nat.le_trans h.1.1 h.1.2.1
    have em : fX10_readOnce_37 1 v = (wX10_whole 0 (sI (sI (sI v 0 20 (nI (a.toNat + 2 * true.toNat))) 0 7 (nI (i + 1))) 6 93 0)).bind fun q1 => (fX10_emit 0 0 q1.2).bind fun q2 => some ((), q2.2) := by
      unfold fX10_readOnce_37
      simp (disch := first | omega | decide) only [sI_at, sI_l, sJ_at, sJ_i, sJ_m, sM_at, sM_i, sM_l, Nat.reduceEqDiff, false_and, and_false, true_and, and_true, and_self, if_false, if_true, ite_false, ite_true, h.ok, h.at, r62, hL', show ((0 : Int32) ≤ 0) = True from eq_true (by decide +kernel), show ((1 : Int32) = 0) = False from eq_false (by decide +kernel), i10, i00, decide_true, decide_false, cnd_t, cnd_f, gd_nil, gd_t, b1_0, b1_1, sw_nil, sw_cons, obs, oc, ix_o, nc_o, show nI i + 1 = nI (i + 1) from nI_1 i]
    have FU1 : Fr (dZu o) u (sI (sI u1 o 11 1) (o + 8) 1 0) := (s3.mono fun a k z => Or.inl z).trans (fA.mono fun a k z => Or.inr (by omega))
    have FV1 : Fr dZv v (sI (sI (sI v 0 20 (nI (a.toNat + 2 * true.toNat))) 0 7 (nI (i + 1))) 6 93 0) := (Fr.sI (D := dZv) (Or.inr (Or.inr (Or.inr (Or.inl ⟨rfl, Or.inr (Or.inr rfl)⟩))))).trans ((Fr.sI (D := dZv) (Or.inl ⟨rfl, Or.inl rfl⟩)).trans (gA.mono fun a k z => by unfold dZv; omega))
    have lU : ∀ a k, dLu (o + 8) a k → dZu o a k := fun a k z => by unfold dLu dSu at z; unfold dZu; omega
    have lV : ∀ a k, dLv a k → dZv a k := fun a k z => by unfold dLv dSv at z; unfold dZv dSv; omega
    obtain ⟨u3, v3, i3, ds, a1, a2, a3, a4, a5, a6, a7, a8, a9⟩ | ⟨f, u3, v3, c, a1, a2, a3, a4, a5, a6, a7, a8⟩ := lz_top (n := n) (T := T) (q := o + 8) (by omega) hT1 _ _ (i + 1) [] hA hB (Nat.zero_le _)
    · have a3' : wX1_readLevel (o + 8) 0 0 (sI (sI u1 o 11 1) (o + 8) 1 0) = some (1, u3) := a3
      have a4' : wX10_whole 0 (sI (sI (sI v 0 20 (nI (a.toNat + 2 * true.toNat))) 0 7 (nI (i + 1))) 6 93 0) = some ((), v3) := a4
      have a6' : lwR ds (o + 8) u3 v3 := a6
      have hi3 := a5.2.2.1
      have eM := m_emit a6'.2.1 (by omega) 0 0
      have gE : Fr dLv v3 (sI (sI (sI v3 7 (1100 + ds.length) 0) 8 (1100 + ds.length) 0) 0 13 (nI (ds.length + 1))) := emit_fr
      have h5 : pR n T i3 u3 (sI (sI (sI v3 7 (1100 + ds.length) 0) 8 (1100 + ds.length) 0) 0 13 (nI (ds.length + 1))) := a5.law (q := o + 8) (by omega) Fr.rfl' ((Fr.sI (D := fun a k => (a = 0 ∧ k = 13) ∨ a = 7 ∨ a = 8) (Or.inr (Or.inl rfl))).trans ((Fr.sI (D := fun a k => (a = 0 ∧ k = 13) ∨ a = 7 ∨ a = 8) (Or.inr (Or.inr rfl))).trans (Fr.sI (Or.inl ⟨rfl, rfl⟩))))
      have FU3 : Fr (dZu o) u u3 := FU1.trans (a8.mono lU)
      have FV3 := FV1.trans ((a9.mono lV).trans (gE.mono lV))
      obtain ⟨u5, e1, e2, e3, e4, e5⟩ | ⟨f, e1, e2, e3, e4⟩ := p_end h5
      · have gX : Fr dSv (sI (sI (sI v3 7 (1100 + ds.length) 0) 8 (1100 + ds.length) 0) 0 13 (nI (ds.length + 1))) (sI (sI (sI (sI v3 7 (1100 + ds.length) 0) 8 (1100 + ds.length) 0) 0 13 (nI (ds.length + 1))) 0 7 (nI (i3 + 1))) := Fr.sI ⟨rfl, Or.inl rfl⟩
        have f11 : u5.1 o 11 = 1 := by
          rw [e4.1 _ _ (by unfold dSu; omega), a8.1 _ _ (by unfold dLu dSu; omega), sI_at, if_neg (by omega), sI_at, if_pos ⟨rfl, rfl⟩]
        have FR : Fr (fun a k => a < 6 ∨ (a = o ∧ k = 11) ∨ (o + 8 ≤ a ∧ a < o + 12)) u u5 := (s3.mono fun a k z => Or.inl (by unfold dSu at z; omega)).trans ((Fr.sI (D := fun a k => a < 6 ∨ (a = o ∧ k = 11) ∨ (o + 8 ≤ a ∧ a < o + 12)) (Or.inr (Or.inl ⟨rfl, rfl⟩))).trans ((Fr.sI (D := fun a k => a < 6 ∨ (a = o ∧ k = 11) ∨ (o + 8 ≤ a ∧ a < o + 12)) (Or.inr (Or.inr (by omega)))).trans ((a8.mono fun a k z => by unfold dLu dSu at z; omega).trans (e4.mono fun a k z => Or.inl (by unfold dSu at z; omega)))))
        have GR : Fr (fun a k => (a = 0 ∧ k ≠ 19) ∨ (a = 6 ∧ k = 93) ∨ a = 7 ∨ a = 8) v (sI (sI (sI (sI v3 7 (1100 + ds.length) 0) 8 (1100 + ds.length) 0) 0 13 (nI (ds.length + 1))) 0 7 (nI (i3 + 1))) := (Fr.sI (D := fun a k => (a = 0 ∧ k ≠ 19) ∨ (a = 6 ∧ k = 93) ∨ a = 7 ∨ a = 8) (Or.inl ⟨rfl, by decide⟩)).trans ((Fr.sI (D := fun a k => (a = 0 ∧ k ≠ 19) ∨ (a = 6 ∧ k = 93) ∨ a = 7 ∨ a = 8) (Or.inl ⟨rfl, by decide⟩)).trans ((gA.mono fun a k z => Or.inr (Or.inl z)).trans ((a9.mono fun a k z => by unfold dLv dSv at z; omega).trans ((gE.mono fun a k z => by unfold dLv dSv at z; omega).trans (gX.mono fun a k z => by unfold dSv at z; omega)))))
        have v20 : (sI (sI (sI (sI v3 7 (1100 + ds.length) 0) 8 (1100 + ds.length) 0) 0 13 (nI (ds.length + 1))) 0 7 (nI (i3 + 1))).1 0 20 = nI (a.toNat + 2 * true.toNat) := by
          rw [sI_at, if_neg (by omega), sI_at, if_neg (by omega), sI_at, if_neg (by omega), sI_at, if_neg (by omega), a9.1 _ _ (by unfold dLv dSv; omega), sI_at, if_neg (by omega), sI_at, if_neg (by omega), sI_at, if_pos ⟨rfl, rfl⟩]
        have v93 : (sI (sI (sI (sI v3 7 (1100 + ds.length) 0) 8 (1100 + ds.length) 0) 0 13 (nI (ds.length + 1))) 0 7 (nI (i3 + 1))).1 6 93 = 0 := by
          rw [sI_at, if_neg (by omega), sI_at, if_neg (by omega), sI_at, if_neg (by omega), sI_at, if_neg (by omega), a9.1 _ _ (by unfold dLv dSv; omega), sI_at, if_pos ⟨rfl, rfl⟩]
        refine Or.inl ⟨u5, _, i3 + 1, np, ng, by omega, ?_, ?_, e3, ofR.law (b' := true) hR0 ho FR GR (fun a k z => z) (fun a k z => z) f11 (fun a' z => ?_), Or.inr ⟨f11, v93, ds, by omega, a7, ?_, ?_, fun j hj => ?_, ?_⟩, FU3.trans (e4.mono fun a k z => Or.inl z), FV3.trans (gX.mono fun a k z => Or.inl z)⟩
        · simp only [b01, Bool.false_eq_true, if_false, i10, i00, decide_true, decide_false, cnd_t, cnd_f, gd_nil, gd_t, b1_0, b1_1, sw_nil, sw_cons, obs, s1, a3', e1]
        · simp only [obs, l0, i10, i00, decide_true, decide_false, cnd_t, cnd_f, gd_nil, gd_t, b1_0, b1_1, sw_nil, sw_cons, obs, r62, nb, em, a4', eM, e2]
        · rw [v20]
          have : b01 a' = b01 a := z.symm.trans r6
          have ea : a' = a := by
            cases a' <;> cases a
            · rfl
            · exact absurd this (by decide +kernel)
            · exact absurd this (by decide +kernel)
            · rfl
          rw [ea]
        · rw [e4.1 _ _ (by unfold dSu; omega)]
          exact a6'.1
        · rw [sI_at, if_neg (by omega), sI_at, if_pos ⟨rfl, rfl⟩]
        · have h6 := a6'.2.2 j hj
          rw [e4.1 _ _ (by unfold dSu; omega), sI_at, if_neg (by omega), sI_at, if_neg (by omega), sI_at, if_neg (by omega), sI_at, if_neg (by omega), sI_at, if_neg (by omega), sI_at, if_neg (by omega), sI_at, if_neg (by omega), sI_at, if_neg (by omega)]
          exact h6
        · rw [sI_at, if_neg (by omega), sI_at, if_neg (by omega), sI_at, if_neg (by omega), sI_at, if_pos ⟨rfl, rfl⟩]
      · refine Or.inr ⟨f, sI u3 1 10 (nI f), _, ?_, ?_, by rw [sI_at, if_pos ⟨rfl, rfl⟩], mF.mk8 e3 e4, FU3.trans (Fr.sI (Or.inl ⟨rfl, by decide, by decide⟩)), FV3.trans (Fr.sI (Or.inl ⟨rfl, Or.inr rfl⟩))⟩
        · simp only [b01, Bool.false_eq_true, if_false, i10, i00, decide_true, decide_false, cnd_t, cnd_f, gd_nil, gd_t, b1_0, b1_1, sw_nil, sw_cons, obs, s1, a3', e1]
        · simp only [obs, l0, i10, i00, decide_true, decide_false, cnd_t, cnd_f, gd_nil, gd_t, b1_0, b1_1, sw_nil, sw_cons, obs, r62, nb, em, a4', eM, e2]
    · have a1' : wX1_readLevel (o + 8) 0 0 (sI (sI u1 o 11 1) (o + 8) 1 0) = some (0, u3) := a1
      have a2' : wX10_whole 0 (sI (sI (sI v 0 20 (nI (a.toNat + 2 * true.toNat))) 0 7 (nI (i + 1))) 6 93 0) = some ((), v3) := a2
      have eM := m_emit a5 (by omega) 0 0
      have hF := a4.emit (m := 1100 + c) (x := 0) (y := 0) (z := nI (c + 1))
      refine Or.inr ⟨f, u3, _, ?_, ?_, a3, hF, FU1.trans (a7.mono lU), FV1.trans ((a8.mono lV).trans (emit_fr.mono lV))⟩
      · simp only [b01, Bool.false_eq_true, if_false, i10, i00, decide_true, decide_false, cnd_t, cnd_f, gd_nil, gd_t, b1_0, b1_1, sw_nil, sw_cons, obs, s1, a1']
      · simp only [obs, l0, i10, i00, decide_true, decide_false, cnd_t, cnd_f, gd_nil, gd_t, b1_0, b1_1, sw_nil, sw_cons, obs, r62, nb, em, a2', eM]
        exact mF_takeSign hF 59
  · have nb : ((nI (a.toNat + 2 * true.toNat) >>> ((1 : Int32) &&& 31)) &&& 1 = 1) := ob.mpr rfl
    obtain ⟨f, f1, f2, f3, f4⟩ := p_fail h 3 (by decide) (by decide)
    have f3' : fX6_fail 3 u = some (0, sI u 1 10 (nI f)) := f3
    have f4' : fX10_wrong 3 v = some ((), sI v 0 8 (nI f)) := f4
    have hF := mF.mk8 (v := v) f1 f2
    refine Or.inr ⟨f, sI u 1 10 (nI f), sI v 0 8 (nI f), ?_, ?_, by rw [sI_at, if_pos ⟨rfl, rfl⟩], hF, Fr.sI (Or.inl ⟨rfl, by decide, by decide⟩), Fr.sI (Or.inl ⟨rfl, Or.inr rfl⟩)⟩
    · simp only [b01, if_true, i10, i00, decide_true, decide_false, cnd_t, cnd_f, gd_nil, gd_t, b1_0, b1_1, sw_nil, sw_cons, obs, i10, f3']
    · simp only [obs, l0, i10, i00, decide_true, decide_false, cnd_t, cnd_f, gd_nil, gd_t, b1_0, b1_1, sw_nil, sw_cons, obs, r62, nb, f4', mF37 hF]
      exact mF_takeSign hF 59
-- a line, whatever it begins with
theorem l_line {np ng : Nat} (h : pR n T i u v) (ho : o = 6 ∨ o = 18) (hR : ofR np ng o u v) (hL : LW o u v) : lnP n T i o (fX2_readLine o u) ((fX10_readLine v).bind fun q2 => fX10_takeSign 59 q2.2) u v := by
  have wrap : ∀ (y : Option (Int32 × ab_S)) (z : Option (Unit × ab_S)), lnP n T i o y z u v → lnP n T i o (y.bind fun q => ab_gd [ab_b1 q.1] (some (q.1, q.2))) z u v := by
    intro y z hh
    obtain ⟨u', v', i', np, ng, h1, h2, h3⟩ | ⟨f, u', v', h1, h2, h3⟩ := hh
    · exact Or.inl ⟨u', v', i', np, ng, h1, by rw [h2]; simp only [i10, i00, decide_true, decide_false, cnd_t, cnd_f, gd_nil, gd_t, b1_0, b1_1, sw_nil, sw_cons, obs], h3⟩
    · exact Or.inr ⟨f, u', v', by rw [h1]; simp only [i10, i00, decide_true, decide_false, cnd_t, cnd_f, gd_nil, gd_t, b1_0, b1_1, sw_nil, sw_cons, obs], h2, h3⟩
  unfold fX2_readLine
  rw [c_isWord]
  by_cases e0 : isW 0 u
  · simp only [if_pos e0, i10, i00, decide_true, decide_false, cnd_t, cnd_f, gd_nil, gd_t, b1_0, b1_1, sw_nil, sw_cons, obs]
    exact wrap _ _ ((l_person h ho hR e0).P ho hL)
  simp only [if_neg e0, i10, i00, decide_true, decide_false, cnd_t, cnd_f, gd_nil, gd_t, b1_0, b1_1, sw_nil, sw_cons, obs]
  rw [c_isWord]
  by_cases e2 : isW 2 u
  · simp only [if_pos e2, i10, i00, decide_true, decide_false, cnd_t, cnd_f, gd_nil, gd_t, b1_0, b1_1, sw_nil, sw_cons, obs]
    exact wrap _ _ ((l_good h ho hR e2).P ho hL)
  simp only [if_neg e2, i10, i00, decide_true, decide_false, cnd_t, cnd_f, gd_nil, gd_t, b1_0, b1_1, sw_nil, sw_cons, obs]
  rw [c_isWord]
  by_cases e5 : isW 5 u
  · simp only [if_pos e5, i10, i00, decide_true, decide_false, cnd_t, cnd_f, gd_nil, gd_t, b1_0, b1_1, sw_nil, sw_cons, obs]
    exact wrap _ _ ((l_likes h ho hR e5).P ho hL)
  simp only [if_neg e5, i10, i00, decide_true, decide_false, cnd_t, cnd_f, gd_nil, gd_t, b1_0, b1_1, sw_nil, sw_cons, obs]
  rw [c_isWord]
  by_cases e6 : isW 6 u
  · simp only [if_pos e6, i10, i00, decide_true, decide_false, cnd_t, cnd_f, gd_nil, gd_t, b1_0, b1_1, sw_nil, sw_cons, obs]
    exact wrap _ _ ((l_seed h ho hR e6).P ho hL)
  simp only [if_neg e6, i10, i00, decide_true, decide_false, cnd_t, cnd_f, gd_nil, gd_t, b1_0, b1_1, sw_nil, sw_cons, obs]
  rw [c_isWord]
  by_cases e7 : isW 7 u
  · simp only [if_pos e7, i10, i00, decide_true, decide_false, cnd_t, cnd_f, gd_nil, gd_t, b1_0, b1_1, sw_nil, sw_cons, obs]
    exact wrap _ _ (l_law h ho hR hL e7)
  simp only [if_neg e7, i10, i00, decide_true, decide_false, cnd_t, cnd_f, gd_nil, gd_t, b1_0, b1_1, sw_nil, sw_cons, obs]
  rw [m_once h e0 e2 e5]
  obtain ⟨r, q1, -, q3⟩ := m_wordHere h 6 2 (by decide)
  have er := q3 fun j hj => by
    obtain e | e : j = 0 ∨ j = 1 := by omega
    · subst e; exact e6
    · subst e; exact e7
  subst er
  have q1' : fX10_wordHere 6 2 v = some (-1, v) := q1
  obtain ⟨f, f1, f2, f3, f4⟩ := p_fail h 1 (by decide) (by decide)
  have f3' : fX6_fail 1 u = some (0, sI u 1 10 (nI f)) := f3
  have f4' : fX10_wrong 1 v = some ((), sI v 0 8 (nI f)) := f4
  have hF := mF.mk8 (v := v) f1 f2
  refine Or.inr ⟨f, sI u 1 10 (nI f), sI v 0 8 (nI f), ?_, ?_, by rw [sI_at, if_pos ⟨rfl, rfl⟩], hF, Fr.sI (Or.inl ⟨rfl, by decide, by decide⟩), Fr.sI (Or.inl ⟨rfl, Or.inr rfl⟩)⟩
  · simp only [i10, i00, decide_true, decide_false, cnd_t, cnd_f, gd_nil, gd_t, b1_0, b1_1, sw_nil, sw_cons, obs, f3']
  · unfold fX10_readOnce
    rw [q1']
    simp only [obs, show ((-1 : Int32) < 0) = True from eq_true (by decide +kernel), i10, i00, decide_true, decide_false, cnd_t, cnd_f, gd_nil, gd_t, b1_0, b1_1, sw_nil, sw_cons, obs, f4', mF37 hF]
    exact mF_takeSign hF 59
-- all lines
theorem o_loop (ho : o = 6 ∨ o = 18) : ∀ D i c N M np ng (u v : ab_S), T - i ≤ D → D < N → D + 1 < M → pR n T i u v → ofR np ng o u v → LW o u v → c ≤ i → (∃ u' v' np' ng', fX2_readLines_6 o N (nI c) u = fX2_readLines_39 o u' ∧ fX10_office_30 M v = fX10_office_62 v' ∧ v'.1 0 8 = 0 ∧ ofR np' ng' o u' v' ∧ LW o u' v' ∧ Fr (dZu o) u u' ∧ Fr dZv v v') ∨ (∃ f u' v', fX2_readLines_6 o N (nI c) u = some (nI f, u') ∧ fX10_office_30 M v = some (nI f, v') ∧ 1 ≤ f ∧ f < 20000 ∧ Fr (dZu o) u u' ∧ Fr dZv v v') := by
  -- the end of the text
  have done : ∀ i c N M np ng (u v : ab_S), 0 < N → 0 < M → pR n T i u v → ofR np ng o u v → LW o u v → u.1 1 7 = 0 → (∃ u' v' np' ng', fX2_readLines_6 o N (nI c) u = fX2_readLines_39 o u' ∧ fX10_office_30 M v = fX10_office_62 v' ∧ v'.1 0 8 = 0 ∧ ofR np' ng' o u' v' ∧ LW o u' v' ∧ Fr (dZu o) u u' ∧ Fr dZv v v') := by
    intro i c N M np ng u v hN hM h hR hL hk
    obtain ⟨N, rfl⟩ : ∃ m, N = m + 1 := ⟨N - 1, by omega⟩
    obtain ⟨M, rfl⟩ : ∃ m, M = m + 1 := ⟨M - 1, by omega⟩
    have hi := h.i1000
    refine ⟨u, v, np, ng, ?_, ?_, h.ok, hR, hL, Fr.rfl', Fr.rfl'⟩
    · rw [fX2_readLines_6]
      by_cases e : nI c < 1000
      · simp only [e, i10, i00, decide_true, decide_false, cnd_t, cnd_f, gd_nil, gd_t, b1_0, b1_1, sw_nil, sw_cons, obs, hk]
      · simp only [e, i10, i00, decide_true, decide_false, cnd_t, cnd_f, gd_nil, gd_t, b1_0, b1_1, sw_nil, sw_cons, obs]
    · rw [fX10_office_30, h.ok, h.at]
      have e2 := h.end.mp hk
      simp (disch := first | omega | decide) only [i10, i00, decide_true, decide_false, cnd_t, cnd_f, gd_nil, gd_t, b1_0, b1_1, sw_nil, sw_cons, obs, ix_nI, nc_nI, e2]
  intro D
  induction D with
  | zero =>
    intro i c N M np ng u v hD hN hM h hR hL hc
    have hiT : i = T := by have := h.2.2.1; omega
    have hk : u.1 1 7 = 0 := by
      obtain ⟨⟨-, -, -, h4, -⟩, ⟨-, a2, -⟩, -⟩ := h
      rw [a2, hiT]
      exact h4
    exact Or.inl (done i c N M np ng u v (by omega) (by omega) h hR hL hk)
  | succ D ih =>
    intro i c N M np ng u v hD hN hM h hR hL hc
    by_cases hk : u.1 1 7 = 0
    · exact Or.inl (done i c N M np ng u v (by omega) (by omega) h hR hL hk)
    obtain ⟨N, rfl⟩ : ∃ m, N = m + 1 := ⟨N - 1, by omega⟩
    obtain ⟨M, rfl⟩ : ∃ m, M = m + 1 := ⟨M - 1, by omega⟩
    have hi := h.i1000
    have hiT := h.lt hk
    have hT1 : T ≤ 1000 := Nat.le_trans h.1.1 h.1.2.1
    have c1 : (nI c < 1000) = True := eq_true (show nI c < nI 1000 from (nI_ltI (by omega) (by decide)).mpr (by omega))
    have e2 : ¬ v.1 2 i = 0 := fun z => hk (h.end.mpr z)
    have em : fX10_office_30 (M + 1) v = ((fX10_readLine v).bind fun q2 => fX10_takeSign 59 q2.2).bind fun q3 => fX10_office_30 M q3.2 := by
      rw [fX10_office_30, h.ok, h.at]
      simp (disch := first | omega | decide) only [i10, i00, decide_true, decide_false, cnd_t, cnd_f, gd_nil, gd_t, b1_0, b1_1, sw_nil, sw_cons, obs, ix_nI, nc_nI, e2]
      cases fX10_readLine v with
      | none => rfl
      | some r => rfl
    rw [fX2_readLines_6, em]
    simp only [c1, i10, i00, decide_true, decide_false, cnd_t, cnd_f, gd_nil, gd_t, b1_0, b1_1, sw_nil, sw_cons, obs, hk]
    obtain ⟨u', v', i', np', ng', a1, a2, a3, a4, a5, a6, a7, a8⟩ | ⟨f, u', v', a1, a2, a3, a4, a5, a6⟩ := l_line h ho hR hL
    · rw [a2, a3]
      simp only [i10, i00, decide_true, decide_false, cnd_t, cnd_f, gd_nil, gd_t, b1_0, b1_1, sw_nil, sw_cons, obs, show nI c + 1 = nI (c + 1) from nI_1 c]
      obtain ⟨u3, v3, np3, ng3, b1, b2, b3, b4, b5, b6, b7⟩ | ⟨f, u3, v3, b1, b2, b3, b4, b5, b6⟩ := ih i' (c + 1) N M np' ng' u' v' (by omega) (by omega) (by omega) a4 a5 a6 (by omega)
      · exact Or.inl ⟨u3, v3, np3, ng3, b1, b2, b3, b4, b5, a7.trans b6, a8.trans b7⟩
      · exact Or.inr ⟨f, u3, v3, b1, b2, b3, b4, a7.trans b5, a8.trans b6⟩
    · rw [a1, a2]
      obtain ⟨M, rfl⟩ : ∃ m, M = m + 1 := ⟨M - 1, by omega⟩
      have ef := a4.1
      refine Or.inr ⟨f, u', v', ?_, ?_, a4.2.1, a4.2.2, a5, a6⟩
      · simp only [i10, i00, decide_true, decide_false, cnd_t, cnd_f, gd_nil, gd_t, b1_0, b1_1, sw_nil, sw_cons, obs, a3]
      · simp only [obs]
        rw [fX10_office_30]
        unfold fX10_office_62
        have nz := a4.nz
        rw [ef] at nz
        simp only [ef, nz.1, nz.2, i10, i00, decide_true, decide_false, cnd_t, cnd_f, gd_nil, gd_t, b1_0, b1_1, sw_nil, sw_cons, obs]
end PU
