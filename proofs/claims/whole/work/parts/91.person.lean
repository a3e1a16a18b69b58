/-! a person's line -/
section PU
variable {u v u' v' : ab_S} {n T i o : Nat}
theorem pmF {f : Nat} (h : mF f v) (X : Int32 → Int32 → ab_S → Option (Unit × ab_S)) : ∃ v', ((fX10_takeOne 12 4 v).bind fun q11 => (fX10_takeAfter 1 0 50 q11.2).bind fun q12 => bif decide ((q12.2.1 0 8) = 0) then (X q11.1 q12.1 q12.2) else (some ((), q12.2))) = some ((), v') ∧ mF f v' ∧ Fr dSv v v' := by
  obtain ⟨v1, a1, a2, a3⟩ := mF_takeOne h 12 4
  obtain ⟨v2, b1, b2, b3⟩ := mF_takeAfter a2 1 0 50
  refine ⟨v2, ?_, b2, a3.trans b3⟩
  rw [a1]
  simp only [obs, b1, b2.nz.1, i10, i00, decide_true, decide_false, cnd_t, cnd_f, gd_nil, gd_t, b1_0, b1_1, sw_nil, sw_cons, obs]
theorem pmF2 {f : Nat} (h : mF f v) (X : Int32 → ab_S → Option (Unit × ab_S)) : ∃ v', ((fX10_takeAfter 1 0 50 v).bind fun q12 => bif decide ((q12.2.1 0 8) = 0) then (X q12.1 q12.2) else (some ((), q12.2))) = some ((), v') ∧ mF f v' ∧ Fr dSv v v' := by
  obtain ⟨v2, b1, b2, b3⟩ := mF_takeAfter h 1 0 50
  refine ⟨v2, ?_, b2, b3⟩
  simp only [obs, b1, b2.nz.1, i10, i00, decide_true, decide_false, cnd_t, cnd_f, gd_nil, gd_t, b1_0, b1_1, sw_nil, sw_cons, obs]
-- coins, or what follows a word: both sides
theorem p_after (h : pR n T i u v) {k : Nat} (hk : k < 23) (lo hi : Nat) (hl : lo ≤ hi) (hh : hi < 10000) : (∃ u1 x u2 v2, fX6_takeWord k u = some (1, u1) ∧ fX6_takeNumber (nI lo) (nI hi) u1 = some (nI x, u2) ∧ lo ≤ x ∧ x ≤ hi ∧ fX10_takeAfter (nI k) (nI lo) (nI hi) v = some (nI x, v2) ∧ pR n T (i + 2) u2 v2 ∧ Fr dSu u u2 ∧ Fr dSv v v2) ∨ (∃ f u1 v2, ((fX6_takeWord k u = some (0, u1)) ∨ (∃ u0, fX6_takeWord k u = some (1, u0) ∧ fX6_takeNumber (nI lo) (nI hi) u0 = some (-1, u1))) ∧ u1.1 1 10 = nI f ∧ fX10_takeAfter (nI k) (nI lo) (nI hi) v = some (0, v2) ∧ mF f v2 ∧ Fr dSu u u1 ∧ Fr dSv v v2) := by
  unfold fX10_takeAfter
  obtain ⟨u1, a1, a2, a3, a4⟩ | ⟨f, v1, a1, a2, a3, a4⟩ := p_word h hk
  · rw [a2]
    simp only [obs]
    obtain ⟨x, u2, b1, b2, b3, b4, b5, b6⟩ | ⟨f, b1, b2, b3, b4⟩ := p_num a3 lo hi hl hh
    · rw [b4]
      simp only [obs]
      exact Or.inl ⟨u1, x, u2, _, a1, b3, b1, b2, rfl, b5, a4.trans b6, (Fr.sI ⟨rfl, Or.inl rfl⟩).trans (Fr.sI ⟨rfl, Or.inl rfl⟩)⟩
    · rw [b2]
      simp only [obs]
      exact Or.inr ⟨f, _, _, Or.inr ⟨u1, a1, b1⟩, by rw [sI_at, if_pos ⟨rfl, rfl⟩], rfl, mF.mk8 b3 b4, a4.trans (Fr.sI ⟨rfl, by decide, by decide⟩), (Fr.sI ⟨rfl, Or.inl rfl⟩).trans (Fr.sI ⟨rfl, Or.inr rfl⟩)⟩
  · rw [a2]
    simp only [obs]
    rw [mF_takeNumber a3]
    simp only [obs]
    exact Or.inr ⟨f, _, v1, Or.inl a1, by rw [sI_at, if_pos ⟨rfl, rfl⟩], rfl, a3, Fr.sI ⟨rfl, by decide, by decide⟩, a4⟩
theorem addPerson_eq {np : Nat} (h : u.1 o 0 = nI np) (hn : np < 6) (x : Int64) (a b : Int32) : fX2_addPerson o x a b u = some ((), sI (sI (sI (sJ u (o + 1) np x) (o + 3) np a) (o + 4) np b) o 0 (nI (np + 1))) := by
  have e1 : (sJ u (o + 1) np x).1 o 0 = nI np := h
  have e2 : (sI (sJ u (o + 1) np x) (o + 3) np a).1 o 0 = nI np := by rw [sI_at, if_neg (by omega)]; exact h
  have e3 : (sI (sI (sJ u (o + 1) np x) (o + 3) np a) (o + 4) np b).1 o 0 = nI np := by rw [sI_at, if_neg (by omega)]; exact e2
  unfold fX2_addPerson
  rw [h]
  simp (disch := first | omega | decide) only [i10, i00, decide_true, decide_false, cnd_t, cnd_f, gd_nil, gd_t, b1_0, b1_1, sw_nil, sw_cons, obs, Nat.not_lt_zero, nI_addo, nI_oadd, nI_add, nI_mulo, nI_omul, nI_mul, nI_lto, nI_leo, nI_olt, nI_ole, nI_eqo, nI_oeq, nI_lt2, nI_le2, nI_eq2, nI_nm1, nI_m1n, nI_lt0, nI_lem1, nc_nI, nc_o, ix_nI, ix_o, hn, e1, e2, e3, put_eq (n0 := 6) hn (show 6 ≤ 1000 by decide)]
theorem l_person {np ng : Nat} (h : pR n T i u v) (ho : o = 6 ∨ o = 18) (hR : ofR np ng o u v) (hw : isW 0 u) : lnO n T i o (fX2_readPerson o u) ((fX10_readLine v).bind fun q2 => fX10_takeSign 59 q2.2) u v := by
  have hR0 := hR
  obtain ⟨hp6, hg8, o1, o2, w90, w91, hc, hN, r1, r2, r3, r4, r5, r6, r7⟩ := hR
  have hk : u.1 1 7 ≠ 0 := by rw [hw.1]; decide +kernel
  have hi := h.i1000
  have hW0 : fX10_isWord 0 v = some (1, v) := by
    have := m_isWord h (k := 0) (by decide)
    rw [if_pos hw] at this
    exact this
  have emo : fX10_readLine v = (fX10_readName 0 6 0 v).bind fun q10 => (fX10_takeOne 12 4 q10.2).bind fun q11 => (fX10_takeAfter 1 0 50 q11.2).bind fun q12 => bif decide ((q12.2.1 0 8) = 0) then (some ((), (sI (sI q12.2 6 (94 + 2 * np) q11.1) 6 (95 + 2 * np) q12.1))) else (some ((), q12.2)) := by
    unfold fX10_readLine
    rw [hW0]
    simp (disch := first | omega | decide) only [i10, i00, decide_true, decide_false, cnd_t, cnd_f, gd_nil, gd_t, b1_0, b1_1, sw_nil, sw_cons, obs, Nat.not_lt_zero, nI_addo, nI_oadd, nI_add, nI_mulo, nI_omul, nI_mul, nI_lto, nI_leo, nI_olt, nI_ole, nI_eqo, nI_oeq, nI_lt2, nI_le2, nI_eq2, nI_nm1, nI_m1n, nI_lt0, nI_lem1, nc_nI, nc_o, ix_nI, ix_o, w90, show 94 + 2 * np + 1 = 95 + 2 * np by omega]
  rw [emo]
  unfold fX2_readPerson
  rw [o1]
  by_cases e6 : np = 6
  · subst e6
    obtain ⟨f, f1, f2, f3, f4⟩ := p_fail h 5 (by decide) (by decide)
    have f3' : fX6_fail 5 u = some (0, sI u 1 10 (nI f)) := f3
    have f4' : fX10_wrong 5 v = some ((), sI v 0 8 (nI f)) := f4
    have em : fX10_readName 0 6 0 v = some ((), sI v 0 8 (nI f)) := by
      unfold fX10_readName
      simp (disch := first | omega | decide) only [i10, i00, decide_true, decide_false, cnd_t, cnd_f, gd_nil, gd_t, b1_0, b1_1, sw_nil, sw_cons, obs, nc_o, ix_o, show (90 : Int32) + 0 = 90 from rfl, w90, show (nI 6 = 6) = True from eq_true rfl, f4']
    obtain ⟨v2, b1, b2, b3⟩ := pmF (mF.mk8 (v := v) f1 f2) (fun a b w => some ((), (sI (sI w 6 (94 + 2 * 6) a) 6 (95 + 2 * 6) b)))
    refine Or.inr ⟨f, sI u 1 10 (nI f), v2, ?_, ?_, by rw [sI_at, if_pos ⟨rfl, rfl⟩], b2, Fr.sI (Or.inl ⟨rfl, by decide, by decide⟩), (Fr.sI (Or.inl ⟨rfl, Or.inr rfl⟩)).trans (b3.mono fun a k z => Or.inl z)⟩
    · simp only [show (nI 6 < 6) = False from eq_false (by decide +kernel), i10, i00, decide_true, decide_false, cnd_t, cnd_f, gd_nil, gd_t, b1_0, b1_1, sw_nil, sw_cons, obs, f3']
    · rw [em]
      simp only [obs]
      rw [b1]
      simp only [obs]
      exact mF_takeSign b2 59
  have hn6 : np < 6 := by omega
  have c6 : (nI np < 6) = True := eq_true ((nI_lto (a := 6) (by omega) (by decide)).mpr hn6)
  simp only [c6, i10, i00, decide_true, decide_false, cnd_t, cnd_f, gd_nil, gd_t, b1_0, b1_1, sw_nil, sw_cons, obs]
  obtain ⟨u1, s1, s2, s3⟩ := p_readName (w := 0) (lim := 6) (off := 0) hp6 hg8 (Or.inl ⟨rfl, rfl, rfl, rfl⟩) h hk hN hc o1 o2 ho w90 hn6
  have dq : ∀ a k, dSu a k → dQu o a k := fun a k z => Or.inl z
  have dn : ∀ a k, dNv a k → dQv a k := fun a k z => by unfold dNv dSv at z; unfold dQv dSv; omega
  have ds : ∀ a k, dSv a k → dQv a k := fun a k z => Or.inl z
  obtain ⟨u2, v1, n1, n2, n3, n4, n5, n6, n7, n8, n9, n10, n11, n12, n13, n14⟩ | ⟨f, v1, n1, n3, n4, n5⟩ := s3
  · have n3' : fX10_readName 0 6 0 v = some ((), v1) := n3
    rw [n3']
    simp only [obs, s1, n1, i10, i00, decide_true, decide_false, cnd_t, cnd_f, gd_nil, gd_t, b1_0, b1_1, sw_nil, sw_cons, obs, n2]
    obtain ⟨d, d1, d2, d3, d4⟩ | ⟨f, v2, d1, d2, d3, d4, d5⟩ := p_kind n4
    · obtain ⟨u3, t1, t2, t3⟩ := p_step n4 d3
      have fK : Fr dSu u u3 := s2.trans (n13.trans t3)
      have gK : Fr dQv v (sI v1 0 7 (nI (i + 2 + 1))) := (n14.mono dn).trans (Fr.sI (Or.inl ⟨rfl, Or.inl rfl⟩))
      obtain ⟨u4, c, u5, v3, b1, b2, b3, b4, b5, b6, b7, b8⟩ | ⟨f, u5, v3, b1, b2, b5, b6, b7, b8⟩ := p_after t2 (k := 1) (by decide) 0 50 (by decide) (by decide)
      · have b2' : fX6_takeNumber 0 50 u4 = some (nI c, u5) := b2
        have b5' : fX10_takeAfter 1 0 50 (sI v1 0 7 (nI (i + 2 + 1))) = some (nI c, v3) := b5
        have nc1 : (nI c = -1) ↔ False := nI_nm1 (by omega)
        have nd1 : (nI d = -1) ↔ False := nI_nm1 (by omega)
        have gz : Fr (fun a k => a = 6 ∧ (k = 94 + 2 * np ∨ k = 95 + 2 * np)) v3 (sI (sI v3 6 (94 + 2 * np) (nI d)) 6 (95 + 2 * np) (nI c)) := (Fr.sI ⟨rfl, Or.inl rfl⟩).trans (Fr.sI ⟨rfl, Or.inr rfl⟩)
        have h5 := b6.fr (D := fun _ _ => False) Fr.rfl' gz (fun a k z q => q) (fun a k z q => by unfold oPv at z; omega)
        have gQ : Fr dQv v (sI (sI v3 6 (94 + 2 * np) (nI d)) 6 (95 + 2 * np) (nI c)) := gK.trans ((b8.mono ds).trans (gz.mono fun a k z => by unfold dQv; omega))
        have fQ : Fr dSu u u5 := fK.trans b7
        obtain ⟨u6, e1, e2, e3, e4, e5⟩ | ⟨f, e1, e2, e3, e4⟩ := p_end h5
        · have FU : Fr dSu u u6 := fQ.trans e4
          have hu : ∀ a k, 6 ≤ a → u6.1 a k = u.1 a k := fun a k z => FU.1 a k (fun q => by unfold dSu at q; omega)
          have huL : ∀ a k, 6 ≤ a → u6.2.1 a k = u.2.1 a k := fun a k z => FU.2.1 a k (fun q => by unfold dSu at q; omega)
          have hu1 : ∀ a k, 6 ≤ a → u1.2.1 a k = u.2.1 a k := fun a k z => s2.2.1 a k (fun q => by unfold dSu at q; omega)
          have eA := addPerson_eq (u := u6) (o := o) (by rw [hu o 0 (by omega)]; exact o1) hn6 (u1.2.1 1 9) (nI d) (nI c)
          have hg : ∀ a k, ¬ dSv a k → (sI v1 0 7 (nI (i + 2 + 1))).1 a k = v3.1 a k ∧ (sI v1 0 7 (nI (i + 2 + 1))).2.1 a k = v3.2.1 a k := fun a k z => ⟨(b8.1 a k z).symm, (b8.2.1 a k z).symm⟩
          have v36 : ∀ a k, 6 ≤ a → v3.1 a k = v1.1 a k := fun a k z => by
            rw [b8.1 a k (fun q => by unfold dSv at q; omega), sI_at, if_neg (by omega)]
          have v3L : ∀ a k, 6 ≤ a → v3.2.1 a k = v1.2.1 a k := fun a k z => by
            rw [b8.2.1 a k (fun q => by unfold dSv at q; omega)]
            rfl
          have v6v : ∀ k, 92 ≤ k → k ≠ 94 + 2 * np → k ≠ 95 + 2 * np → (sI (sI (sI v3 6 (94 + 2 * np) (nI d)) 6 (95 + 2 * np) (nI c)) 0 7 (nI (i + 2 + 1 + 2 + 1))).1 6 k = v.1 6 k := fun k z1 z2 z3 => by
            rw [sI_at, if_neg (by omega), sI_at, if_neg (by omega), sI_at, if_neg (by omega), v36 6 k (by omega), n14.1 6 k (fun q => by unfold dNv dSv at q; omega)]
          have v6w : ∀ k, k < 92 → (sI (sI (sI v3 6 (94 + 2 * np) (nI d)) 6 (95 + 2 * np) (nI c)) 0 7 (nI (i + 2 + 1 + 2 + 1))).1 6 k = v1.1 6 k := fun k z1 => by
            rw [sI_at, if_neg (by omega), sI_at, if_neg (by omega), sI_at, if_neg (by omega), v36 6 k (by omega)]
          have fW : Fr (fun a k => a = o + 1 ∨ a = o + 3 ∨ a = o + 4 ∨ (a = o ∧ k = 0)) u6 (sI (sI (sI (sJ u6 (o + 1) np (u1.2.1 1 9)) (o + 3) np (nI d)) (o + 4) np (nI c)) o 0 (nI (np + 1))) := (Fr.sJ (Or.inl rfl)).trans ((Fr.sI (Or.inr (Or.inl rfl))).trans ((Fr.sI (Or.inr (Or.inr (Or.inl rfl)))).trans (Fr.sI (Or.inr (Or.inr (Or.inr ⟨rfl, rfl⟩))))))
          have u7k : ∀ a k, 6 ≤ a → ¬ (a = o + 1 ∨ a = o + 3 ∨ a = o + 4 ∨ (a = o ∧ k = 0)) → (sI (sI (sI (sJ u6 (o + 1) np (u1.2.1 1 9)) (o + 3) np (nI d)) (o + 4) np (nI c)) o 0 (nI (np + 1))).1 a k = u.1 a k := fun a k z1 z2 => (fW.1 a k z2).trans (hu a k z1)
          refine Or.inl ⟨_, _, i + 2 + 1 + 2 + 1, np + 1, ng, by omega, ?_, ?_, e3.fr (E := fun _ _ => False) fW Fr.rfl' (fun a k z q => by unfold oPu at z; omega) (fun a k z q => q), ⟨by omega, hg8, ?_, ?_, ?_, ?_, ?_, ?_, fun p hp => ?_, fun p hp => ?_, fun k hk => ?_, fun k hk => ?_, fun p hp k hk => ?_, ?_, ?_⟩, (FU.mono dq).trans (fW.mono fun a k z => Or.inr (by omega)), gQ.trans (Fr.sI (Or.inl ⟨rfl, Or.inl rfl⟩))⟩
          · simp only [d2, nd1, i10, i00, decide_true, decide_false, cnd_t, cnd_f, gd_nil, gd_t, b1_0, b1_1, sw_nil, sw_cons, obs, t1, b1, b2', nc1, e1, eA]
          · rw [d4]
            simp only [obs]
            rw [b5']
            simp only [obs, b6.ok, i10, i00, decide_true, decide_false, cnd_t, cnd_f, gd_nil, gd_t, b1_0, b1_1, sw_nil, sw_cons, obs, e2]
          · rw [sI_at, if_pos ⟨rfl, rfl⟩]
          · rw [u7k o 1 (by omega) (by omega)]; exact o2
          · rw [v6w 90 (by decide)]; exact n8
          · rw [v6w 91 (by decide)]; exact n10.trans w91
          · rw [sI_at, if_neg (by omega), sI_at, if_neg (by omega), sI_at, if_neg (by omega), b8.1 0 19 (fun q => by unfold dSv at q; omega), sI_at, if_neg (by omega), n7]
            congr 1
            omega
          · refine nmR.addP hN n5 (fun p hp => ?_) ?_ (fun k hk => ?_) (fun j hj => ?_) ?_ ?_ (fun p hp e => n11 p hp ((hu1 _ _ (by omega)).trans e)) (fun k hk e => n12 k hk ((hu1 _ _ (by omega)).trans e))
            · show (sJ u6 (o + 1) np (u1.2.1 1 9)).2.1 (o + 1) p = _
              rw [sJ_at, if_neg (by omega)]
              exact huL _ _ (by omega)
            · show (sJ u6 (o + 1) np (u1.2.1 1 9)).2.1 (o + 1) np = _
              rw [sJ_at, if_pos ⟨rfl, rfl⟩]
            · show (sJ u6 (o + 1) np (u1.2.1 1 9)).2.1 (o + 2) k = _
              rw [sJ_at, if_neg (by omega)]
              exact huL _ _ (by omega)
            · refine ⟨(v3L 10 j (by decide)).trans (n9 j hj).1, ?_⟩
              rw [sI_at, if_neg (by omega), sI_at, if_neg (by omega), sI_at, if_neg (by omega), v36 12 j (by decide)]
              exact (n9 j hj).2
            · exact v3L 10 _ (by decide)
            · rw [sI_at, if_neg (by omega), sI_at, if_neg (by omega), sI_at, if_neg (by omega), v36 12 _ (by decide), n6, Nat.zero_add]
          · by_cases ep : p = np
            · subst ep
              rw [sI_at, if_neg (by omega), sI_at, if_neg (by omega), sI_at, if_pos ⟨rfl, rfl⟩, sI_at, if_neg (by omega), sI_at, if_neg (by omega), sI_at, if_pos ⟨rfl, rfl⟩]
            · rw [v6v _ (by omega) (by omega) (by omega), sI_at, if_neg (by omega), sI_at, if_neg (by omega), sI_at, if_neg (by omega)]
              exact (hu _ _ (by omega)).trans (r1 p (by omega))
          · by_cases ep : p = np
            · subst ep
              refine ⟨c, b4, ?_, ?_⟩
              · rw [sI_at, if_neg (by omega), sI_at, if_pos ⟨rfl, rfl⟩]
              · rw [sI_at, if_neg (by omega), sI_at, if_pos ⟨rfl, rfl⟩]
            · obtain ⟨c', c1, c2, c3⟩ := r2 p (by omega)
              refine ⟨c', c1, ?_, by rw [v6v _ (by omega) (by omega) (by omega)]; exact c3⟩
              rw [sI_at, if_neg (by omega), sI_at, if_neg (by omega), sI_at, if_neg (by omega)]
              exact (hu _ _ (by omega)).trans c2
          · obtain ⟨c', c1, c2, c3⟩ := r3 k hk
            exact ⟨c', c1, by rw [u7k _ _ (by omega) (by omega)]; exact c2, by rw [v6v _ (by omega) (by omega) (by omega)]; exact c3⟩
          · obtain ⟨c', c1, c2, c3⟩ := r4 k hk
            exact ⟨c', by omega, by rw [u7k _ _ (by omega) (by omega)]; exact c2, by rw [v6v _ (by omega) (by omega) (by omega)]; exact c3⟩
          · obtain ⟨c', c1, c2, c3⟩ := r5 p hp k hk
            exact ⟨c', c1, by rw [u7k _ _ (by omega) (by omega)]; exact c2, by rw [v6v _ (by omega) (by omega) (by omega)]; exact c3⟩
          · obtain ⟨x, y, c1, c2, c3⟩ := r6
            refine ⟨x, y, by rw [u7k _ _ (by omega) (by omega)]; exact c1, by rw [u7k _ _ (by omega) (by omega)]; exact c2, ?_⟩
            rw [sI_at, if_neg (by omega), sI_at, if_neg (by omega), sI_at, if_neg (by omega), b8.1 0 20 (fun q => by unfold dSv at q; omega), sI_at, if_neg (by omega), n14.1 0 20 (fun q => by unfold dNv dSv at q; omega)]
            exact c3
          · obtain ⟨g, c1, c2, c3⟩ := r7
            exact ⟨g, c1, by rw [u7k _ _ (by omega) (by omega)]; exact c2, by rw [v6v _ (by omega) (by omega) (by omega)]; exact c3⟩
        · refine Or.inr ⟨f, sI u5 1 10 (nI f), _, ?_, ?_, by rw [sI_at, if_pos ⟨rfl, rfl⟩], mF.mk8 e3 e4, (fQ.mono dq).trans (Fr.sI (Or.inl ⟨rfl, by decide, by decide⟩)), gQ.trans (Fr.sI (Or.inl ⟨rfl, Or.inr rfl⟩))⟩
          · simp only [d2, nd1, i10, i00, decide_true, decide_false, cnd_t, cnd_f, gd_nil, gd_t, b1_0, b1_1, sw_nil, sw_cons, obs, t1, b1, b2', nc1, e1]
          · rw [d4]
            simp only [obs]
            rw [b5']
            simp only [obs, b6.ok, i10, i00, decide_true, decide_false, cnd_t, cnd_f, gd_nil, gd_t, b1_0, b1_1, sw_nil, sw_cons, obs, e2]
      · have b5' : fX10_takeAfter 1 0 50 (sI v1 0 7 (nI (i + 2 + 1))) = some (0, v3) := b5
        have nd1 : (nI d = -1) ↔ False := nI_nm1 (by omega)
        refine Or.inr ⟨f, u5, v3, ?_, ?_, b2, b6, (fK.trans b7).mono dq, gK.trans (b8.mono ds)⟩
        · obtain b1 | ⟨u0, b0, b1⟩ := b1
          · simp only [d2, nd1, i10, i00, decide_true, decide_false, cnd_t, cnd_f, gd_nil, gd_t, b1_0, b1_1, sw_nil, sw_cons, obs, t1, b1]
          · have b1' : fX6_takeNumber 0 50 u0 = some (-1, u5) := b1
            simp only [d2, nd1, i10, i00, decide_true, decide_false, cnd_t, cnd_f, gd_nil, gd_t, b1_0, b1_1, sw_nil, sw_cons, obs, t1, b0, b1']
        · rw [d4]
          simp only [obs]
          rw [b5']
          simp only [obs, b6.nz.1, i10, i00, decide_true, decide_false, cnd_t, cnd_f, gd_nil, gd_t, b1_0, b1_1, sw_nil, sw_cons, obs]
          exact mF_takeSign b6 59
    · obtain ⟨v3, b1, b2, b3⟩ := pmF2 d4 (fun b w => some ((), (sI (sI w 6 (94 + 2 * np) 0) 6 (95 + 2 * np) b)))
      refine Or.inr ⟨f, sI u2 1 10 (nI f), v3, ?_, ?_, by rw [sI_at, if_pos ⟨rfl, rfl⟩], b2, (s2.mono dq).trans ((n13.mono dq).trans (Fr.sI (Or.inl ⟨rfl, by decide, by decide⟩))), (n14.mono dn).trans ((d5.mono ds).trans (b3.mono ds))⟩
      · simp only [d1, i10, i00, decide_true, decide_false, cnd_t, cnd_f, gd_nil, gd_t, b1_0, b1_1, sw_nil, sw_cons, obs, d2]
      · rw [d3]
        simp only [obs]
        rw [b1]
        simp only [obs]
        exact mF_takeSign b2 59
  · have n3' : fX10_readName 0 6 0 v = some ((), v1) := n3
    obtain ⟨v2, b1, b2, b3⟩ := pmF n4 (fun a b w => some ((), (sI (sI w 6 (94 + 2 * np) a) 6 (95 + 2 * np) b)))
    refine Or.inr ⟨f, sI u1 1 10 (nI f), v2, ?_, ?_, by rw [sI_at, if_pos ⟨rfl, rfl⟩], b2, (s2.mono dq).trans (Fr.sI (Or.inl ⟨rfl, by decide, by decide⟩)), (n5.mono dn).trans (b3.mono ds)⟩
    · simp only [obs, s1, n1, i10, i00, decide_true, decide_false, cnd_t, cnd_f, gd_nil, gd_t, b1_0, b1_1, sw_nil, sw_cons, obs]
    · rw [n3']
      simp only [obs]
      rw [b1]
      simp only [obs]
      exact mF_takeSign b2 59
end PU
