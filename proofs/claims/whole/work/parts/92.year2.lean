/-! a year told: all lines -/
def dYl (y m a k : Nat) : Prop := dYu y m a k ∨ (a = y ∧ k = 0) ∨ (a = y + 1 ∧ k = m)
def dYU (y a _k : Nat) : Prop := (a = 1 ∧ 6 ≤ _k ∧ _k ≤ 10) ∨ (y ≤ a ∧ a < y + 4)
def dYV (a k : Nat) : Prop := dSv a k ∨ (a = 13 ∧ 125 ≤ k)
section PU
variable {Z : dZ} {u v u' v' : ab_S} {n T i o : Nat}
theorem yLn.fr {D E : Nat → Nat → Prop} {y b j : Nat} (h : yLn Z y b u v j) (f : Fr D u u') (g : Fr E v v') (hd : ¬ D (y + 1) j ∧ ¬ D (y + 2) j ∧ ¬ D (y + 3) j) (he : ¬ E 13 (b + 3 * j) ∧ ¬ E 13 (b + 1 + 3 * j) ∧ ¬ E 13 (b + 2 + 3 * j)) : yLn Z y b u' v' j := by
  unfold yLn
  rw [f.1 _ _ hd.1, f.1 _ _ hd.2.1, f.1 _ _ hd.2.2, g.1 _ _ he.1, g.1 _ _ he.2.1, g.1 _ _ he.2.2]
  exact h
theorem c_deed (u : ab_S) : (∃ d, d < 4 ∧ isW (8 + d) u ∧ fX8_deedAt u = some (nI d, u)) ∨ ((∀ d, d < 4 → ¬ isW (8 + d) u) ∧ fX8_deedAt u = some (-1, u)) := by
  unfold fX8_deedAt
  by_cases e0 : isW 8 u
  · refine Or.inl ⟨0, by decide, e0, ?_⟩
    rw [c_isWord, if_pos e0]
    simp only [i10, i00, decide_true, decide_false, cnd_t, cnd_f, gd_nil, gd_t, b1_0, b1_1, sw_nil, sw_cons, obs]
    rfl
  by_cases e1 : isW 9 u
  · refine Or.inl ⟨1, by decide, e1, ?_⟩
    rw [c_isWord, if_neg e0]
    simp only [i10, i00, decide_true, decide_false, cnd_t, cnd_f, gd_nil, gd_t, b1_0, b1_1, sw_nil, sw_cons, obs]
    rw [c_isWord, if_pos e1]
    simp only [i10, i00, decide_true, decide_false, cnd_t, cnd_f, gd_nil, gd_t, b1_0, b1_1, sw_nil, sw_cons, obs]
    rfl
  by_cases e2 : isW 10 u
  · refine Or.inl ⟨2, by decide, e2, ?_⟩
    rw [c_isWord, if_neg e0]
    simp only [i10, i00, decide_true, decide_false, cnd_t, cnd_f, gd_nil, gd_t, b1_0, b1_1, sw_nil, sw_cons, obs]
    rw [c_isWord, if_neg e1]
    simp only [i10, i00, decide_true, decide_false, cnd_t, cnd_f, gd_nil, gd_t, b1_0, b1_1, sw_nil, sw_cons, obs]
    rw [c_isWord, if_pos e2]
    simp only [i10, i00, decide_true, decide_false, cnd_t, cnd_f, gd_nil, gd_t, b1_0, b1_1, sw_nil, sw_cons, obs]
    rfl
  by_cases e3 : isW 11 u
  · refine Or.inl ⟨3, by decide, e3, ?_⟩
    rw [c_isWord, if_neg e0]
    simp only [i10, i00, decide_true, decide_false, cnd_t, cnd_f, gd_nil, gd_t, b1_0, b1_1, sw_nil, sw_cons, obs]
    rw [c_isWord, if_neg e1]
    simp only [i10, i00, decide_true, decide_false, cnd_t, cnd_f, gd_nil, gd_t, b1_0, b1_1, sw_nil, sw_cons, obs]
    rw [c_isWord, if_neg e2]
    simp only [i10, i00, decide_true, decide_false, cnd_t, cnd_f, gd_nil, gd_t, b1_0, b1_1, sw_nil, sw_cons, obs]
    rw [c_isWord, if_pos e3]
    simp only [i10, i00, decide_true, decide_false, cnd_t, cnd_f, gd_nil, gd_t, b1_0, b1_1, sw_nil, sw_cons, obs]
    rfl
  · refine Or.inr ⟨fun d hd => ?_, ?_⟩
    · obtain h | h | h | h : d = 0 ∨ d = 1 ∨ d = 2 ∨ d = 3 := by omega
      · subst h; exact e0
      · subst h; exact e1
      · subst h; exact e2
      · subst h; exact e3
    · rw [c_isWord, if_neg e0]
      simp only [i10, i00, decide_true, decide_false, cnd_t, cnd_f, gd_nil, gd_t, b1_0, b1_1, sw_nil, sw_cons, obs]
      rw [c_isWord, if_neg e1]
      simp only [i10, i00, decide_true, decide_false, cnd_t, cnd_f, gd_nil, gd_t, b1_0, b1_1, sw_nil, sw_cons, obs]
      rw [c_isWord, if_neg e2]
      simp only [i10, i00, decide_true, decide_false, cnd_t, cnd_f, gd_nil, gd_t, b1_0, b1_1, sw_nil, sw_cons, obs]
      rw [c_isWord, if_neg e3]
      simp only [i10, i00, decide_true, decide_false, cnd_t, cnd_f, gd_nil, gd_t, b1_0, b1_1, sw_nil, sw_cons, obs]
theorem y88_F {f : Nat} (h : mF f v) (k0 : Int32 → ab_S → Option (Int32 × ab_S)) (x : Int32) : fX10_year_88 k0 x v = k0 x v := by
  unfold fX10_year_88
  rw [mF_takeSign h]
  simp only [obs]
theorem y_line (h : pR n T i u v) {y m : Nat} (hy : y = 30 ∨ y = 34) (hm : m ≤ 40) (hO : toR Z o u v) (h0 : u.1 y 0 = nI m) (hk : u.1 1 7 ≠ 0) (k0 : Int32 → ab_S → Option (Int32 × ab_S)) : (∃ u' v' i', i < i' ∧ m < 40 ∧ fX8_readLine y o u = some (1, u') ∧ ((fX10_wordHere 8 4 v).bind fun q2 => bif decide (q2.1 < 0) then ( (fX10_wrong 1 q2.2).bind fun q5 => fX10_year_88 k0 (nI m) q5.2) else ( bif decide ((nI m) = 40) then ( (fX10_wrong 5 q2.2).bind fun q4 => fX10_year_88 k0 (nI m) q4.2) else ( (fX10_readYear (125 + (3 * (nI m))) q2.1 (sI q2.2 0 7 ((q2.2.1 0 7) + 1))).bind fun q3 => fX10_year_88 k0 ((nI m) + 1) q3.2))) = k0 (nI (m + 1)) v' ∧ pR n T i' u' v' ∧ u'.1 y 0 = nI (m + 1) ∧ yLn Z y 125 u' v' m ∧ Fr (dYl y m) u u' ∧ Fr (dYv m) v v') ∨ (∃ f x u' v', fX8_readLine y o u = some (0, u') ∧ ((fX10_wordHere 8 4 v).bind fun q2 => bif decide (q2.1 < 0) then ( (fX10_wrong 1 q2.2).bind fun q5 => fX10_year_88 k0 (nI m) q5.2) else ( bif decide ((nI m) = 40) then ( (fX10_wrong 5 q2.2).bind fun q4 => fX10_year_88 k0 (nI m) q4.2) else ( (fX10_readYear (125 + (3 * (nI m))) q2.1 (sI q2.2 0 7 ((q2.2.1 0 7) + 1))).bind fun q3 => fX10_year_88 k0 ((nI m) + 1) q3.2))) = k0 x v' ∧ u'.1 1 10 = nI f ∧ mF f v' ∧ Fr (dYl y m) u u' ∧ Fr (dYv m) v v') := by
  unfold fX8_readLine
  obtain ⟨r, r1, r2, r3⟩ := m_wordHere h 8 4 (by decide)
  have r1' : fX10_wordHere 8 4 v = some (r, v) := r1
  rw [r1']
  obtain ⟨d, d1, d2, d3⟩ | ⟨d1, d2⟩ := c_deed u
  · have er := r2 d d1 d2
    subst er
    rw [d3]
    have nd : (nI d = -1) ↔ False := nI_nm1 (by omega)
    by_cases em : m = 40
    · subst em
      obtain ⟨f, f1, f2, f3, f4⟩ := p_fail h 5 (by decide) (by decide)
      have f3' : fX6_fail 5 u = some (0, sI u 1 10 (nI f)) := f3
      have f4' : fX10_wrong 5 v = some ((), sI v 0 8 (nI f)) := f4
      refine Or.inr ⟨f, nI 40, sI u 1 10 (nI f), sI v 0 8 (nI f), ?_, ?_, ?_, mF.mk8 f1 f2, Fr.sI (Or.inl (Or.inl ⟨rfl, by decide, by decide⟩)), Fr.sI (Or.inl ⟨rfl, Or.inr rfl⟩)⟩
      · simp only [obs, nd, h0, show (nI 40 < 40) = False from eq_false (by decide +kernel), i10, i00, decide_true, decide_false, cnd_t, cnd_f, gd_nil, gd_t, b1_0, b1_1, sw_nil, sw_cons, obs, f3']
      · simp (disch := first | omega | decide) only [obs, nI_lt0, show (nI 40 = 40) = True from eq_true rfl, i10, i00, decide_true, decide_false, cnd_t, cnd_f, gd_nil, gd_t, b1_0, b1_1, sw_nil, sw_cons, obs, f4']
        exact y88_F (mF.mk8 f1 f2) k0 _
      · rw [sI_at, if_pos ⟨rfl, rfl⟩]
    · have hm4 : m < 40 := by omega
      obtain ⟨u1, s1, s2, s3⟩ := p_step h hk
      have f2 : Fr (fun a _ => a = y + 1) u1 (sI u1 (y + 1) m (nI d)) := Fr.sI rfl
      have hr2 : pR n T (i + 1) (sI u1 (y + 1) m (nI d)) (sI v 0 7 (nI (i + 1))) := s2.fr f2 (Fr.rfl' (D := fun _ _ => False)) (fun a k z q => by unfold oPu at z; omega) (fun a k z q => q)
      have fT : Fr (dYl y m) u (sI u1 (y + 1) m (nI d)) := (s3.mono fun a k z => Or.inl (Or.inl z)).trans (Fr.sI (Or.inr (Or.inr ⟨rfl, rfl⟩)))
      have gT : Fr (dYv m) v (sI v 0 7 (nI (i + 1))) := Fr.sI (Or.inl ⟨rfl, Or.inl rfl⟩)
      have hO2 : toR Z o (sI u1 (y + 1) m (nI d)) (sI v 0 7 (nI (i + 1))) := hO.fr fT gT (fun a k z1 z2 q => by unfold dYl dYu dSu at q; omega) (fun k => ⟨fun q => by unfold dYv dSv at q; omega, fun q => by unfold dYv dSv at q; omega⟩) (fun q => by unfold dYv dSv at q; omega)
      have e1 : u1.1 y 0 = nI m := by rw [s3.1 _ _ (by unfold dSu; omega)]; exact h0
      have e2 : (sI u1 (y + 1) m (nI d)).1 y 0 = nI m := by rw [sI_at, if_neg (by omega)]; exact e1
      have ecl : ∀ (r' : Int32 × ab_S), fX8_readNames y o (nI d) (sI u1 (y + 1) m (nI d)) = some r' → ((some (nI d, u)).bind fun q1 => bif decide (q1.1 = -1) then ((fX6_fail 1 q1.2).bind fun q7 => ab_gd [ab_b1 q7.1] (some (q7.1, q7.2))) else (bif decide ((q1.2.1 y 0) < 40) then ((fX6_step q1.2).bind fun q2 => (fX9_put 40 (y + 1) (q2.2.1 y 0) q1.1 q2.2).bind fun q3 => (fX8_readNames y o q1.1 q3.2).bind fun q4 => bif decide (q4.1 = 0) then (ab_gd [ab_b1 0] (some (0, q4.2))) else ((fX6_takeEnd q4.2).bind fun q5 => bif decide (q5.1 = 0) then (ab_gd [ab_b1 0] (some (0, q5.2))) else (ab_gd [ab_b1 1] (some (1, (sI q5.2 y 0 ((q5.2.1 y 0) + 1))))))) else ((fX6_fail 5 q1.2).bind fun q6 => ab_gd [ab_b1 q6.1] (some (q6.1, q6.2))))) = (bif decide (r'.1 = 0) then (ab_gd [ab_b1 0] (some (0, r'.2))) else ((fX6_takeEnd r'.2).bind fun q5 => bif decide (q5.1 = 0) then (ab_gd [ab_b1 0] (some (0, q5.2))) else (ab_gd [ab_b1 1] (some (1, (sI q5.2 y 0 ((q5.2.1 y 0) + 1))))))) := by
        intro r' hr'
        simp (disch := first | omega | decide) only [obs, nd, h0, nI_lto, hm4, i10, i00, decide_true, decide_false, cnd_t, cnd_f, gd_nil, gd_t, b1_0, b1_1, sw_nil, sw_cons, obs, s1, e1, put_eq (show m < 40 by omega) (show 40 ≤ 1000 by decide), hr']
      have emo : ∀ v2, fX10_readYear (nI (125 + 3 * m)) (nI d) (sI v 0 7 (nI (i + 1))) = some ((), v2) → ((some (nI d, v)).bind fun q2 => bif decide (q2.1 < 0) then ((fX10_wrong 1 q2.2).bind fun q5 => fX10_year_88 k0 (nI m) q5.2) else (bif decide ((nI m) = 40) then ((fX10_wrong 5 q2.2).bind fun q4 => fX10_year_88 k0 (nI m) q4.2) else ((fX10_readYear (125 + (3 * (nI m))) q2.1 (sI q2.2 0 7 ((q2.2.1 0 7) + 1))).bind fun q3 => fX10_year_88 k0 ((nI m) + 1) q3.2))) = fX10_year_88 k0 (nI (m + 1)) v2 := by
        intro v2 hv2
        simp (disch := first | omega | decide) only [obs, nI_lt0, nI_eqo, em, i10, i00, decide_true, decide_false, cnd_t, cnd_f, gd_nil, gd_t, b1_0, b1_1, sw_nil, sw_cons, obs, h.at, nI_addo, nI_omul, nI_oadd, hv2]
      obtain ⟨u3, v3, i3, a1, a2, a3, a4, a5, a6, a7⟩ | ⟨f, u3, v3, a1, a2, a3, a4, a6, a7⟩ := y_names (d := d) hr2 hy hm4 hO2 e2 (by omega) (by rw [sI_at, if_pos ⟨rfl, rfl⟩])
      · rw [ecl _ a1, emo _ a2]
        unfold fX10_year_88
        have e3 : u3.1 y 0 = nI m := by rw [a6.1 _ _ (by unfold dYu dSu; omega)]; exact e2
        obtain ⟨u4, b1, b2, b3, b4, b5⟩ | ⟨f, b1, b2, b3, b4⟩ := p_end a3
        · have e4 : u4.1 y 0 = nI m := by rw [b4.1 _ _ (by unfold dSu; omega)]; exact e3
          refine Or.inl ⟨sI u4 y 0 (nI (m + 1)), sI v3 0 7 (nI (i3 + 1)), i3 + 1, by omega, hm4, ?_, ?_, ?_, ?_, ?_, ?_, ?_⟩
          · simp only [i10, i00, decide_true, decide_false, cnd_t, cnd_f, gd_nil, gd_t, b1_0, b1_1, sw_nil, sw_cons, obs, b1, e4, nI_addo]
          · simp only [b2, obs]
          · exact b3.fr (D := fun a _ => a = y) (E := fun _ _ => False) (Fr.sI rfl) Fr.rfl' (fun a k z q => by unfold oPu at z; omega) (fun a k z q => q)
          · rw [sI_at, if_pos ⟨rfl, rfl⟩]
          · exact a5.fr (D := fun a k => dSu a k ∨ a = y) (E := dSv) ((b4.mono fun a k z => Or.inl z).trans (Fr.sI (Or.inr rfl))) (Fr.sI ⟨rfl, Or.inl rfl⟩) ⟨fun q => by unfold dSu at q; omega, fun q => by unfold dSu at q; omega, fun q => by unfold dSu at q; omega⟩ ⟨fun q => by unfold dSv at q; omega, fun q => by unfold dSv at q; omega, fun q => by unfold dSv at q; omega⟩
          · exact fT.trans ((a6.mono fun a k z => Or.inl z).trans ((b4.mono fun a k z => Or.inl (Or.inl z)).trans (Fr.sI (Or.inr (Or.inl ⟨rfl, rfl⟩)))))
          · exact gT.trans (a7.trans (Fr.sI (Or.inl ⟨rfl, Or.inl rfl⟩)))
        · refine Or.inr ⟨f, nI (m + 1), sI u3 1 10 (nI f), sI v3 0 8 (nI f), ?_, ?_, ?_, mF.mk8 b3 b4, ?_, ?_⟩
          · simp only [i10, i00, decide_true, decide_false, cnd_t, cnd_f, gd_nil, gd_t, b1_0, b1_1, sw_nil, sw_cons, obs, b1]
          · simp only [b2, obs]
          · rw [sI_at, if_pos ⟨rfl, rfl⟩]
          · exact fT.trans ((a6.mono fun a k z => Or.inl z).trans (Fr.sI (Or.inl (Or.inl ⟨rfl, by decide, by decide⟩))))
          · exact gT.trans (a7.trans (Fr.sI (Or.inl ⟨rfl, Or.inr rfl⟩)))
      · rw [ecl _ a1, emo _ a2]
        refine Or.inr ⟨f, nI (m + 1), u3, v3, ?_, ?_, a3, a4, fT.trans (a6.mono fun a k z => Or.inl z), gT.trans a7⟩
        · simp only [i10, i00, decide_true, decide_false, cnd_t, cnd_f, gd_nil, gd_t, b1_0, b1_1, sw_nil, sw_cons, obs]
        · exact y88_F a4 k0 _
  · have er := r3 d1
    subst er
    rw [d2]
    obtain ⟨f, f1, f2, f3, f4⟩ := p_fail h 1 (by decide) (by decide)
    have f3' : fX6_fail 1 u = some (0, sI u 1 10 (nI f)) := f3
    have f4' : fX10_wrong 1 v = some ((), sI v 0 8 (nI f)) := f4
    refine Or.inr ⟨f, nI m, sI u 1 10 (nI f), sI v 0 8 (nI f), ?_, ?_, ?_, mF.mk8 f1 f2, Fr.sI (Or.inl (Or.inl ⟨rfl, by decide, by decide⟩)), Fr.sI (Or.inl ⟨rfl, Or.inr rfl⟩)⟩
    · simp only [obs, i10, i00, decide_true, decide_false, cnd_t, cnd_f, gd_nil, gd_t, b1_0, b1_1, sw_nil, sw_cons, obs, f3']
    · simp only [obs, show ((-1 : Int32) < 0) = True from eq_true (by decide +kernel), i10, i00, decide_true, decide_false, cnd_t, cnd_f, gd_nil, gd_t, b1_0, b1_1, sw_nil, sw_cons, obs, f4']
      exact y88_F (mF.mk8 f1 f2) k0 _
    · rw [sI_at, if_pos ⟨rfl, rfl⟩]
end PU
