/-! a year told: one line -/
def yLn (Z : dZ) (y b : Nat) (u v : ab_S) (i : Nat) : Prop :=
  (u.1 (y + 1) i = 0 ∧ v.1 13 (b + 3 * i) = 0) ∨
  ((u.1 (y + 1) i = 1 ∧ v.1 13 (b + 3 * i) = 1) ∧ ∃ p, p < Z.1 ∧ u.1 (y + 2) i = nI p ∧ v.1 13 (b + 1 + 3 * i) = nI p) ∨
  ((u.1 (y + 1) i = 2 ∧ v.1 13 (b + 3 * i) = 2) ∧ ∃ k j, k < Z.2.1 ∧ j < Z.2.1 ∧ u.1 (y + 2) i = nI k ∧ v.1 13 (b + 1 + 3 * i) = nI k ∧ u.1 (y + 3) i = nI j ∧ v.1 13 (b + 2 + 3 * i) = nI j) ∨
  ((u.1 (y + 1) i = 3 ∧ v.1 13 (b + 3 * i) = 3) ∧ ∃ k, k < Z.2.1 ∧ u.1 (y + 2) i = nI k ∧ v.1 13 (b + 1 + 3 * i) = nI k)
theorem yLn_eq (Z : dZ) (y : Nat) (u v : ab_S) (i : Nat) : yLn Z y 1 u v i = pYl Z y u v i := rfl
def dYu (y m a k : Nat) : Prop := dSu a k ∨ ((a = y + 2 ∨ a = y + 3) ∧ k = m)
def dYv (m a k : Nat) : Prop := dSv a k ∨ (a = 13 ∧ 125 + 3 * m ≤ k ∧ k < 128 + 3 * m)
theorem put_eq {u : ab_S} {n0 o m : Nat} (hm : m < n0) (hn : n0 ≤ 1000) (x : Int32) : fX9_put n0 o (nI m) x u = some ((), sI u o m x) := by
  unfold fX9_put
  rw [show Int32.ofNat n0 = nI n0 from rfl]
  simp (disch := first | omega | decide) only [i10, i00, decide_true, decide_false, cnd_t, cnd_f, gd_nil, gd_t, b1_0, b1_1, sw_nil, sw_cons, obs, Nat.not_lt_zero, nI_addo, nI_oadd, nI_add, nI_mulo, nI_omul, nI_mul, nI_lto, nI_leo, nI_olt, nI_ole, nI_eqo, nI_oeq, nI_lt2, nI_le2, nI_eq2, nI_nm1, nI_m1n, nI_lt0, nI_lem1, nc_nI, nc_o, ix_nI, ix_o, hm]
-- the office told, as a reader sees it
def toR (Z : dZ) (o : Nat) (u v : ab_S) : Prop := Z.1 ≤ 6 ∧ Z.2.1 ≤ 8 ∧ (o = 6 ∨ o = 18) ∧ u.1 o 0 = nI Z.1 ∧ u.1 o 1 = nI Z.2.1 ∧ v.1 0 18 = nI (Z.1 + Z.2.1) ∧ nmR Z.1 Z.2.1 o 9 11 u v
section PU
variable {Z : dZ} {u v u' v' : ab_S} {n T i o : Nat}
theorem toR.fr {D E : Nat → Nat → Prop} (h : toR Z o u v) (f : Fr D u u') (g : Fr E v v') (hd : ∀ a k, 6 ≤ a → a < 30 → ¬ D a k) (he : ∀ k, ¬ E 9 k ∧ ¬ E 11 k) (he2 : ¬ E 0 18) : toR Z o u' v' := by
  obtain ⟨h1, h2, h3, h4, h5, h6, h7⟩ := h
  refine ⟨h1, h2, h3, ?_, ?_, ?_, h7.fr f g (fun k => ⟨hd _ _ (by omega) (by omega), hd _ _ (by omega) (by omega)⟩) he⟩
  · rw [f.1 _ _ (hd _ _ (by omega) (by omega))]; exact h4
  · rw [f.1 _ _ (hd _ _ (by omega) (by omega))]; exact h5
  · rw [g.1 _ _ he2]; exact h6
theorem mask1 : ∀ k, k < 8 → ∀ j, j < 8 → (((((1 : Int32) <<< (nI k &&& 31)) >>> (nI j &&& 31)) &&& 1 = 1) ↔ k = j) := by decide +kernel
-- the second name of a swap
theorem y_second (h : pR n T i u v) {y m k : Nat} (hy : y = 30 ∨ y = 34) (hm : m < 40) (hO : toR Z o u v) (h0 : u.1 y 0 = nI m) (hk : k < Z.2.1) : (∃ u' v' j, j < Z.2.1 ∧ fX8_readNames_38 y o (nI 2) (nI k) u = some (1, u') ∧ ((fX10_takeTold 0 20 ((1 : Int32) <<< (nI k &&& 31)) v).bind fun q1 => some ((), sI q1.2 13 (127 + 3 * m) q1.1)) = some ((), v') ∧ pR n T (i + 1) u' v' ∧ u'.1 (y + 2) m = nI k ∧ u'.1 (y + 3) m = nI j ∧ v'.1 13 (127 + 3 * m) = nI j ∧ Fr (dYu y m) u u' ∧ Fr (fun a k => dSv a k ∨ (a = 13 ∧ k = 127 + 3 * m)) v v') ∨ (∃ f u' v', fX8_readNames_38 y o (nI 2) (nI k) u = some (0, u') ∧ ((fX10_takeTold 0 20 ((1 : Int32) <<< (nI k &&& 31)) v).bind fun q1 => some ((), sI q1.2 13 (127 + 3 * m) q1.1)) = some ((), v') ∧ u'.1 1 10 = nI f ∧ mF f v' ∧ Fr (dYu y m) u u' ∧ Fr (fun a k => dSv a k ∨ (a = 13 ∧ k = 127 + 3 * m)) v v') := by
  obtain ⟨hp6, hg8, ho, o1, o2, o3, hN⟩ := hO
  have f1 : Fr (fun a j => a = y + 2 ∧ j = m) u (sI u (y + 2) m (nI k)) := Fr.sI ⟨rfl, rfl⟩
  have f1' : Fr (dYu y m) u (sI u (y + 2) m (nI k)) := Fr.sI (Or.inr ⟨Or.inl rfl, rfl⟩)
  have g0 : Fr (fun _ _ => False) v v := Fr.rfl'
  have h1 : pR n T i (sI u (y + 2) m (nI k)) v := h.fr f1 g0 (fun a k z q => by unfold oPu at z; omega) (fun a k z q => q)
  have hN1 : nmR Z.1 Z.2.1 o 9 11 (sI u (y + 2) m (nI k)) v := hN.fr f1 g0 (fun k => ⟨fun q => by omega, fun q => by omega⟩) (fun k => ⟨id, id⟩)
  have e0 : (sI u (y + 2) m (nI k)).1 y 0 = nI m := by rw [sI_at, if_neg (by omega)]; exact h0
  have e1 : (sI u (y + 2) m (nI k)).1 o 1 = nI Z.2.1 := by rw [sI_at, if_neg (by omega)]; exact o2
  have nk : (nI k = -1) ↔ False := nI_nm1 (by omega)
  obtain ⟨b, b1, b2, b3⟩ := p_isName h1
  -- the rest, once it is known that the two differ
  have rest : ∀ s0 : Int32, ¬ s0 = nI k → (fX6_isName (sI u (y + 2) m (nI k)) = some (1, sI u (y + 2) m (nI k)) → ∀ j, j < Z.2.1 → (sI u (y + 2) m (nI k)).2.1 (o + 2) j = (sI u (y + 2) m (nI k)).2.1 1 9 → ¬ (((((1 : Int32) <<< (nI k &&& 31)) >>> (nI j &&& 31)) &&& 1 = 1))) → (∃ u' v' j, j < Z.2.1 ∧ fX8_readNames_102 y o (nI k) s0 (sI u (y + 2) m (nI k)) = some (1, u') ∧ ((fX10_takeTold 0 20 ((1 : Int32) <<< (nI k &&& 31)) v).bind fun q1 => some ((), sI q1.2 13 (127 + 3 * m) q1.1)) = some ((), v') ∧ pR n T (i + 1) u' v' ∧ u'.1 (y + 2) m = nI k ∧ u'.1 (y + 3) m = nI j ∧ v'.1 13 (127 + 3 * m) = nI j ∧ Fr (dYu y m) u u' ∧ Fr (fun a k => dSv a k ∨ (a = 13 ∧ k = 127 + 3 * m)) v v') ∨ (∃ f u' v', fX8_readNames_102 y o (nI k) s0 (sI u (y + 2) m (nI k)) = some (0, u') ∧ ((fX10_takeTold 0 20 ((1 : Int32) <<< (nI k &&& 31)) v).bind fun q1 => some ((), sI q1.2 13 (127 + 3 * m) q1.1)) = some ((), v') ∧ u'.1 1 10 = nI f ∧ mF f v' ∧ Fr (dYu y m) u u' ∧ Fr (fun a k => dSv a k ∨ (a = 13 ∧ k = 127 + 3 * m)) v v') := by
    intro s0 hs hm1
    unfold fX8_readNames_102
    rw [e1]
    obtain ⟨j, u2, j1, j2, j3, j4, j5, -⟩ | ⟨f, v2, j1, j2, j3, j4⟩ := p_toldG0 hp6 hg8 h1 hN1 o3 _ hm1
    · have nj : (nI j = -1) ↔ False := nI_nm1 (by omega)
      have e2 : u2.1 y 0 = nI m := by rw [j5.1 _ _ (by unfold dSu; omega)]; exact e0
      have e3 : u2.1 (y + 2) m = nI k := by rw [j5.1 _ _ (by unfold dSu; omega), sI_at, if_pos ⟨rfl, rfl⟩]
      refine Or.inl ⟨sI u2 (y + 3) m (nI j), sI (sI v 0 7 (nI (i + 1))) 13 (127 + 3 * m) (nI j), j, j1, ?_, ?_, ?_, ?_, ?_, ?_, ?_, ?_⟩
      · simp only [hs, i10, i00, decide_true, decide_false, cnd_t, cnd_f, gd_nil, gd_t, b1_0, b1_1, sw_nil, sw_cons, obs, j2, e2, put_eq (show m < 40 by omega) (show 40 ≤ 1000 by decide), nj]
      · rw [j3]
        simp only [obs]
      · exact j4.fr (D := fun a _ => a = y + 3) (E := fun a _ => a = 13) (Fr.sI rfl) (Fr.sI rfl) (fun a k z q => by unfold oPu at z; omega) (fun a k z q => by unfold oPv at z; omega)
      · rw [sI_at, if_neg (by omega)]; exact e3
      · rw [sI_at, if_pos ⟨rfl, rfl⟩]
      · rw [sI_at, if_pos ⟨rfl, rfl⟩]
      · exact f1'.trans ((j5.mono fun a k z => Or.inl z).trans (Fr.sI (Or.inr ⟨Or.inr rfl, rfl⟩)))
      · exact (Fr.sI (Or.inl ⟨rfl, Or.inl rfl⟩)).trans (Fr.sI (Or.inr ⟨rfl, rfl⟩))
    · have e2 : (sI (sI u (y + 2) m (nI k)) 1 10 (nI f)).1 y 0 = nI m := by rw [sI_at, if_neg (by omega)]; exact e0
      refine Or.inr ⟨f, sI (sI (sI u (y + 2) m (nI k)) 1 10 (nI f)) (y + 3) m (-1), sI v2 13 (127 + 3 * m) 0, ?_, ?_, ?_, ?_, ?_, ?_⟩
      · simp only [hs, i10, i00, decide_true, decide_false, cnd_t, cnd_f, gd_nil, gd_t, b1_0, b1_1, sw_nil, sw_cons, obs, j1, e2, put_eq (show m < 40 by omega) (show 40 ≤ 1000 by decide)]
      · rw [j2]
        simp only [obs]
      · rw [sI_at, if_neg (by omega), sI_at, if_pos ⟨rfl, rfl⟩]
      · unfold mF
        rw [sI_at, if_neg (by omega)]
        exact j3
      · exact f1'.trans ((Fr.sI (Or.inl ⟨rfl, by decide, by decide⟩)).trans (Fr.sI (Or.inr ⟨Or.inr rfl, rfl⟩)))
      · exact (j4.mono fun a k z => Or.inl z).trans (Fr.sI (Or.inr ⟨rfl, rfl⟩))
  unfold fX8_readNames_38
  rw [h0]
  simp (disch := first | omega | decide) only [i10, i00, decide_true, decide_false, cnd_t, cnd_f, gd_nil, gd_t, b1_0, b1_1, sw_nil, sw_cons, obs, put_eq (show m < 40 by omega) (show 40 ≤ 1000 by decide), nk, show (nI 2 = 2) = True from eq_true rfl, b1, e1]
  cases b
  · simp only [b01, Bool.false_eq_true, if_false, i10, i00, decide_true, decide_false, cnd_t, cnd_f, gd_nil, gd_t, b1_0, b1_1, sw_nil, sw_cons, obs]
    exact rest (-1) (fun z => nk.mp z.symm) fun z => by
      rw [b1] at z
      exact absurd (Prod.mk.inj (Option.some.inj z)).1 (by decide +kernel)
  · simp only [b01, if_true, i10, i00, decide_true, decide_false, cnd_t, cnd_f, gd_nil, gd_t, b1_0, b1_1, sw_nil, sw_cons, obs]
    obtain ⟨r, r1, r2⟩ := c_index (u := sI u (y + 2) m (nI k)) (o0 := o + 2) (n0 := 8) hg8 (by decide) ((sI u (y + 2) m (nI k)).2.1 1 9)
    rw [r1]
    simp only [obs]
    obtain ⟨j, j1, j2, j3⟩ | ⟨j1, j2⟩ := r2
    · by_cases ejk : j = k
      · subst ejk
        obtain ⟨f, v2, q1, q2, q3, q4⟩ := p_toldX0 hp6 hg8 h1 hN1 o3 b1 j1 j2 ((1 : Int32) <<< (nI j &&& 31)) ((mask1 j (by omega) j (by omega)).mpr rfl)
        refine Or.inr ⟨f, sI (sI u (y + 2) m (nI j)) 1 10 (nI f), sI v2 13 (127 + 3 * m) 0, ?_, ?_, ?_, ?_, ?_, ?_⟩
        · unfold fX8_readNames_102
          simp only [j3, i10, i00, decide_true, decide_false, cnd_t, cnd_f, gd_nil, gd_t, b1_0, b1_1, sw_nil, sw_cons, obs, q1]
        · rw [q2]
          simp only [obs]
        · rw [sI_at, if_pos ⟨rfl, rfl⟩]
        · unfold mF
          rw [sI_at, if_neg (by omega)]
          exact q3
        · exact f1'.trans (Fr.sI (Or.inl ⟨rfl, by decide, by decide⟩))
        · exact (q4.mono fun a k z => Or.inl z).trans (Fr.sI (Or.inr ⟨rfl, rfl⟩))
      · refine rest r ?_ fun _ j' a1 a2 a3 => ?_
        · rw [j3, nI_eq2 (by omega) (by omega)]
          exact ejk
        · have e4 := hN1.2.2.2.2.1 j j' j1 a1 (j2.trans a2.symm)
          have e5 := (mask1 k (by omega) j' (by omega)).mp a3
          omega
    · refine rest r ?_ fun _ j' a1 a2 => absurd a2 (j2 j' a1)
      rw [j1]
      exact fun z => nk.mp z.symm
theorem y_names (h : pR n T i u v) {y m d : Nat} (hy : y = 30 ∨ y = 34) (hm : m < 40) (hO : toR Z o u v) (h0 : u.1 y 0 = nI m) (hd : d ≤ 3) (h1 : u.1 (y + 1) m = nI d) : (∃ u' v' i', fX8_readNames y o (nI d) u = some (1, u') ∧ fX10_readYear (nI (125 + 3 * m)) (nI d) v = some ((), v') ∧ pR n T i' u' v' ∧ i ≤ i' ∧ yLn Z y 125 u' v' m ∧ Fr (dYu y m) u u' ∧ Fr (dYv m) v v') ∨ (∃ f u' v', fX8_readNames y o (nI d) u = some (0, u') ∧ fX10_readYear (nI (125 + 3 * m)) (nI d) v = some ((), v') ∧ u'.1 1 10 = nI f ∧ mF f v' ∧ Fr (dYu y m) u u' ∧ Fr (dYv m) v v') := by
  have hO' := hO
  obtain ⟨hp6, hg8, ho, o1, o2, o3, hN⟩ := hO
  have n1 : 125 + 3 * m + 1 = 126 + 3 * m := by omega
  have n2 : 125 + 3 * m + 2 = 127 + 3 * m := by omega
  have f0 : Fr (fun _ _ => False) u u := Fr.rfl'
  have g1 : Fr (fun a k => a = 13 ∧ k = 125 + 3 * m) v (sI v 13 (125 + 3 * m) (nI d)) := Fr.sI ⟨rfl, rfl⟩
  have g1' : Fr (dYv m) v (sI v 13 (125 + 3 * m) (nI d)) := Fr.sI (Or.inr ⟨rfl, by omega, by omega⟩)
  have hr1 : pR n T i u (sI v 13 (125 + 3 * m) (nI d)) := h.fr f0 g1 (fun a k z q => q) (fun a k z q => by unfold oPv at z; omega)
  have hO1 : toR Z o u (sI v 13 (125 + 3 * m) (nI d)) := hO'.fr f0 g1 (fun a k _ _ q => q) (fun k => ⟨fun q => by omega, fun q => by omega⟩) (fun q => by omega)
  have hN1 := hO1.2.2.2.2.2.2
  have o31 := hO1.2.2.2.2.2.1
  by_cases d0 : d = 0
  · subst d0
    refine Or.inl ⟨u, sI (sI (sI v 13 (125 + 3 * m) (nI 0)) 13 (126 + 3 * m) 0) 13 (127 + 3 * m) 0, i, ?_, ?_, ?_, Nat.le_refl i, ?_, Fr.rfl', ?_⟩
    · unfold fX8_readNames
      simp only [show (nI 0 = 0) = True from eq_true rfl, i10, i00, decide_true, decide_false, cnd_t, cnd_f, gd_nil, gd_t, b1_0, b1_1, sw_nil, sw_cons, obs]
    · unfold fX10_readYear fX10_readYear_39
      simp (disch := first | omega | decide) only [show (nI 0 = 0) = True from eq_true rfl, show (nI 0 = 2) = False from eq_false (by decide +kernel), i10, i00, decide_true, decide_false, cnd_t, cnd_f, gd_nil, gd_t, b1_0, b1_1, sw_nil, sw_cons, obs, Nat.not_lt_zero, nI_addo, nI_oadd, nI_add, nI_mulo, nI_omul, nI_mul, nI_lto, nI_leo, nI_olt, nI_ole, nI_eqo, nI_oeq, nI_lt2, nI_le2, nI_eq2, nI_nm1, nI_m1n, nI_lt0, nI_lem1, nc_nI, nc_o, ix_nI, ix_o, n1, n2]
    · exact hr1.fr (D := fun _ _ => False) (E := fun a _ => a = 13) Fr.rfl' (Fr.trans (Fr.sI (show (13 : Nat) = 13 from rfl)) (Fr.sI (show (13 : Nat) = 13 from rfl))) (fun a k z q => q) (fun a k z q => by unfold oPv at z; omega)
    · refine Or.inl ⟨h1, ?_⟩
      rw [sI_at, if_neg (by omega), sI_at, if_neg (by omega), sI_at, if_pos ⟨rfl, rfl⟩]
      rfl
    · exact g1'.trans ((Fr.sI (Or.inr ⟨rfl, by omega, by omega⟩)).trans (Fr.sI (Or.inr ⟨rfl, by omega, by omega⟩)))
  by_cases d1 : d = 1
  · subst d1
    obtain ⟨p, u2, j1, j2, j3, j4, j5⟩ | ⟨f, v2, j1, j2, j3, j4⟩ := p_toldP0 hp6 hg8 hr1 hN1 o31
    · have np1 : (nI p = -1) ↔ False := nI_nm1 (by omega)
      have e2 : u2.1 y 0 = nI m := by rw [j5.1 _ _ (by unfold dSu; omega)]; exact h0
      have e3 : u2.1 (y + 1) m = nI 1 := by rw [j5.1 _ _ (by unfold dSu; omega)]; exact h1
      refine Or.inl ⟨sI u2 (y + 2) m (nI p), sI (sI (sI (sI v 13 (125 + 3 * m) (nI 1)) 0 7 (nI (i + 1))) 13 (126 + 3 * m) (nI p)) 13 (127 + 3 * m) 0, i + 1, ?_, ?_, ?_, Nat.le_succ i, ?_, ?_, ?_⟩
      · unfold fX8_readNames fX8_readNames_38 fX8_readNames_64
        rw [o1]
        simp only [show (nI 1 = 0) = False from eq_false (by decide +kernel), show (nI 1 = 1) = True from eq_true rfl, show (nI 1 = 2) = False from eq_false (by decide +kernel), i10, i00, decide_true, decide_false, cnd_t, cnd_f, gd_nil, gd_t, b1_0, b1_1, sw_nil, sw_cons, obs, j2, e2, put_eq (show m < 40 by omega) (show 40 ≤ 1000 by decide), np1]
      · unfold fX10_readYear fX10_readYear_35 fX10_readYear_39
        simp (disch := first | omega | decide) only [show (nI 1 = 0) = False from eq_false (by decide +kernel), show (nI 1 = 1) = True from eq_true rfl, show (nI 1 = 2) = False from eq_false (by decide +kernel), i10, i00, decide_true, decide_false, cnd_t, cnd_f, gd_nil, gd_t, b1_0, b1_1, sw_nil, sw_cons, obs, nc_nI, ix_nI, nI_addo, n1, n2, j3]
      · exact j4.fr (D := fun a _ => a = y + 2) (E := fun a _ => a = 13) (Fr.sI rfl) (Fr.trans (Fr.sI (show (13 : Nat) = 13 from rfl)) (Fr.sI (show (13 : Nat) = 13 from rfl))) (fun a k z q => by unfold oPu at z; omega) (fun a k z q => by unfold oPv at z; omega)
      · refine Or.inr (Or.inl ⟨⟨?_, ?_⟩, p, j1, ?_, ?_⟩)
        · rw [sI_at, if_neg (by omega), e3]; rfl
        · rw [sI_at, if_neg (by omega), sI_at, if_neg (by omega), sI_at, if_neg (by omega), sI_at, if_pos ⟨rfl, rfl⟩]; rfl
        · rw [sI_at, if_pos ⟨rfl, rfl⟩]
        · rw [sI_at, if_neg (by omega), sI_at, if_pos ⟨rfl, by omega⟩]
      · exact (j5.mono fun a k z => Or.inl z).trans (Fr.sI (Or.inr ⟨Or.inl rfl, rfl⟩))
      · exact g1'.trans ((Fr.sI (Or.inl ⟨rfl, Or.inl rfl⟩)).trans ((Fr.sI (Or.inr ⟨rfl, by omega, by omega⟩)).trans (Fr.sI (Or.inr ⟨rfl, by omega, by omega⟩))))
    · have e2 : (sI u 1 10 (nI f)).1 y 0 = nI m := by rw [sI_at, if_neg (by omega)]; exact h0
      refine Or.inr ⟨f, sI (sI u 1 10 (nI f)) (y + 2) m (-1), sI (sI v2 13 (126 + 3 * m) 0) 13 (127 + 3 * m) 0, ?_, ?_, ?_, ?_, ?_, ?_⟩
      · unfold fX8_readNames fX8_readNames_38 fX8_readNames_64
        rw [o1]
        simp only [show (nI 1 = 0) = False from eq_false (by decide +kernel), show (nI 1 = 1) = True from eq_true rfl, i10, i00, decide_true, decide_false, cnd_t, cnd_f, gd_nil, gd_t, b1_0, b1_1, sw_nil, sw_cons, obs, j1, e2, put_eq (show m < 40 by omega) (show 40 ≤ 1000 by decide)]
      · unfold fX10_readYear fX10_readYear_35 fX10_readYear_39
        simp (disch := first | omega | decide) only [show (nI 1 = 0) = False from eq_false (by decide +kernel), show (nI 1 = 1) = True from eq_true rfl, show (nI 1 = 2) = False from eq_false (by decide +kernel), i10, i00, decide_true, decide_false, cnd_t, cnd_f, gd_nil, gd_t, b1_0, b1_1, sw_nil, sw_cons, obs, nc_nI, ix_nI, nI_addo, n1, n2, j2]
      · rw [sI_at, if_neg (by omega), sI_at, if_pos ⟨rfl, rfl⟩]
      · unfold mF
        rw [sI_at, if_neg (by omega), sI_at, if_neg (by omega)]
        exact j3
      · exact (Fr.sI (Or.inl ⟨rfl, by decide, by decide⟩)).trans (Fr.sI (Or.inr ⟨Or.inl rfl, rfl⟩))
      · exact g1'.trans ((j4.mono fun a k z => Or.inl z).trans ((Fr.sI (Or.inr ⟨rfl, by omega, by omega⟩)).trans (Fr.sI (Or.inr ⟨rfl, by omega, by omega⟩))))
  have q0 : (nI d = 0) = False := eq_false fun z => d0 ((nI_eq (b := 0) (by omega) (by decide)).mp z)
  have q1 : (nI d = 1) = False := eq_false fun z => d1 ((nI_eq (b := 1) (by omega) (by decide)).mp z)
  have ecl : fX8_readNames y o (nI d) u = (fX6_takeToldName 8 (o + 2) (nI Z.2.1) u).bind fun q7 => fX8_readNames_38 y o (nI d) q7.1 q7.2 := by
    unfold fX8_readNames
    rw [o2]
    simp only [q0, q1, i10, i00, decide_true, decide_false, cnd_t, cnd_f, gd_nil, gd_t, b1_0, b1_1, sw_nil, sw_cons, obs]
  have emo : fX10_readYear (nI (125 + 3 * m)) (nI d) v = (fX10_takeTold 0 20 0 (sI v 13 (125 + 3 * m) (nI d))).bind fun q2 => fX10_readYear_39 (nI (125 + 3 * m)) (nI d) (nI (126 + 3 * m)) q2.1 q2.2 := by
    unfold fX10_readYear fX10_readYear_35
    simp (disch := first | omega | decide) only [q0, q1, i10, i00, decide_true, decide_false, cnd_t, cnd_f, gd_nil, gd_t, b1_0, b1_1, sw_nil, sw_cons, obs, nc_nI, ix_nI, nI_addo, n1]
  rw [ecl, emo]
  obtain ⟨k, u2, j1, j2, j3, j4, j5, -⟩ | ⟨f, v2, j1, j2, j3, j4⟩ := p_toldG0 hp6 hg8 hr1 hN1 o31 0 (fun _ k hk _ => mask0 k (by omega))
  · have nk1 : (nI k = -1) ↔ False := nI_nm1 (by omega)
    have e2 : u2.1 y 0 = nI m := by rw [j5.1 _ _ (by unfold dSu; omega)]; exact h0
    have e3 : u2.1 (y + 1) m = nI d := by rw [j5.1 _ _ (by unfold dSu; omega)]; exact h1
    rw [j2, j3]
    simp only [obs]
    have g2 : Fr (fun a _ => a = 13) (sI (sI v 13 (125 + 3 * m) (nI d)) 0 7 (nI (i + 1))) (sI (sI (sI v 13 (125 + 3 * m) (nI d)) 0 7 (nI (i + 1))) 13 (126 + 3 * m) (nI k)) := Fr.sI rfl
    have hr2 : pR n T (i + 1) u2 (sI (sI (sI v 13 (125 + 3 * m) (nI d)) 0 7 (nI (i + 1))) 13 (126 + 3 * m) (nI k)) := j4.fr (D := fun _ _ => False) Fr.rfl' g2 (fun a k z q => q) (fun a k z q => by unfold oPv at z; omega)
    have gT : Fr (dYv m) v (sI (sI (sI v 13 (125 + 3 * m) (nI d)) 0 7 (nI (i + 1))) 13 (126 + 3 * m) (nI k)) := g1'.trans ((Fr.sI (Or.inl ⟨rfl, Or.inl rfl⟩)).trans (Fr.sI (Or.inr ⟨rfl, by omega, by omega⟩)))
    by_cases d2 : d = 2
    · subst d2
      have hO2 : toR Z o u2 (sI (sI (sI v 13 (125 + 3 * m) (nI 2)) 0 7 (nI (i + 1))) 13 (126 + 3 * m) (nI k)) := hO1.fr (E := fun a k => a = 13 ∨ (a = 0 ∧ k = 7)) j5 ((Fr.sI (Or.inr ⟨rfl, rfl⟩)).trans (Fr.sI (Or.inl rfl))) (fun a k _ _ q => by unfold dSu at q; omega) (fun k => ⟨fun q => by omega, fun q => by omega⟩) (fun q => by omega)
      have em2 : fX10_readYear_39 (nI (125 + 3 * m)) (nI 2) (nI (126 + 3 * m)) (nI k) (sI (sI v 13 (125 + 3 * m) (nI 2)) 0 7 (nI (i + 1))) = (fX10_takeTold 0 20 ((1 : Int32) <<< (nI k &&& 31)) (sI (sI (sI v 13 (125 + 3 * m) (nI 2)) 0 7 (nI (i + 1))) 13 (126 + 3 * m) (nI k))).bind fun q1 => some ((), sI q1.2 13 (127 + 3 * m) q1.1) := by
        unfold fX10_readYear_39
        simp (disch := first | omega | decide) only [show (nI 2 = 2) = True from eq_true rfl, i10, i00, decide_true, decide_false, cnd_t, cnd_f, gd_nil, gd_t, b1_0, b1_1, sw_nil, sw_cons, obs, nc_nI, ix_nI, nI_addo, n1, n2, sI_at, and_self, if_true]
      rw [em2]
      have dd : ∀ a j, (dSv a j ∨ (a = 13 ∧ j = 127 + 3 * m)) → dYv m a j := fun a j z => z.elim Or.inl fun z => Or.inr ⟨z.1, by omega, by omega⟩
      obtain ⟨u3, v3, j, a1, a2, a3, a4, a5, a6, a7, a8, a9⟩ | ⟨f, u3, v3, a2, a3, a4, a5, a8, a9⟩ := y_second hr2 hy hm hO2 e2 j1
      · refine Or.inl ⟨u3, v3, i + 2, a2, a3, a4, by omega, Or.inr (Or.inr (Or.inl ⟨⟨?_, ?_⟩, k, j, j1, a1, a5, ?_, a6, a7⟩)), (j5.mono fun a k z => Or.inl z).trans a8, gT.trans (a9.mono dd)⟩
        · rw [a8.1 _ _ (by unfold dYu dSu; omega), e3]; rfl
        · rw [a9.1 _ _ (by unfold dSv; omega), sI_at, if_neg (by omega), sI_at, if_neg (by omega), sI_at, if_pos ⟨rfl, rfl⟩]; rfl
        · rw [a9.1 _ _ (by unfold dSv; omega), sI_at, if_pos ⟨rfl, by omega⟩]
      · exact Or.inr ⟨f, u3, v3, a2, a3, a4, a5, (j5.mono fun a k z => Or.inl z).trans a8, gT.trans (a9.mono dd)⟩
    · have d3 : d = 3 := by omega
      subst d3
      refine Or.inl ⟨sI u2 (y + 2) m (nI k), sI (sI (sI (sI v 13 (125 + 3 * m) (nI 3)) 0 7 (nI (i + 1))) 13 (126 + 3 * m) (nI k)) 13 (127 + 3 * m) 0, i + 1, ?_, ?_, ?_, Nat.le_succ i, ?_, ?_, ?_⟩
      · unfold fX8_readNames_38 fX8_readNames_64
        simp only [show (nI 3 = 2) = False from eq_false (by decide +kernel), i10, i00, decide_true, decide_false, cnd_t, cnd_f, gd_nil, gd_t, b1_0, b1_1, sw_nil, sw_cons, obs, e2, put_eq (show m < 40 by omega) (show 40 ≤ 1000 by decide), nk1]
      · unfold fX10_readYear_39
        simp (disch := first | omega | decide) only [show (nI 3 = 2) = False from eq_false (by decide +kernel), i10, i00, decide_true, decide_false, cnd_t, cnd_f, gd_nil, gd_t, b1_0, b1_1, sw_nil, sw_cons, obs, nc_nI, ix_nI, nI_addo, n1, n2]
      · exact hr2.fr (D := fun a _ => a = y + 2) (E := fun a _ => a = 13) (Fr.sI rfl) (Fr.sI rfl) (fun a k z q => by unfold oPu at z; omega) (fun a k z q => by unfold oPv at z; omega)
      · refine Or.inr (Or.inr (Or.inr ⟨⟨?_, ?_⟩, k, j1, ?_, ?_⟩))
        · rw [sI_at, if_neg (by omega), e3]; rfl
        · rw [sI_at, if_neg (by omega), sI_at, if_neg (by omega), sI_at, if_neg (by omega), sI_at, if_pos ⟨rfl, rfl⟩]; rfl
        · rw [sI_at, if_pos ⟨rfl, rfl⟩]
        · rw [sI_at, if_neg (by omega), sI_at, if_pos ⟨rfl, by omega⟩]
      · exact (j5.mono fun a k z => Or.inl z).trans (Fr.sI (Or.inr ⟨Or.inl rfl, rfl⟩))
      · exact gT.trans (Fr.sI (Or.inr ⟨rfl, by omega, by omega⟩))
  · have e2 : (sI u 1 10 (nI f)).1 y 0 = nI m := by rw [sI_at, if_neg (by omega)]; exact h0
    rw [j1, j2]
    simp only [obs]
    have jT : Fr (dYv m) v (sI v2 13 (126 + 3 * m) 0) := g1'.trans ((j4.mono fun a k z => Or.inl z).trans (Fr.sI (Or.inr ⟨rfl, by omega, by omega⟩)))
    have j3' : mF f (sI v2 13 (126 + 3 * m) 0) := by
      unfold mF
      rw [sI_at, if_neg (by omega)]
      exact j3
    have ec : fX8_readNames_38 y o (nI d) (-1) (sI u 1 10 (nI f)) = some (0, sI (sI u 1 10 (nI f)) (y + 2) m (-1)) := by
      unfold fX8_readNames_38 fX8_readNames_64
      simp only [i10, i00, decide_true, decide_false, cnd_t, cnd_f, gd_nil, gd_t, b1_0, b1_1, sw_nil, sw_cons, obs, e2, put_eq (show m < 40 by omega) (show 40 ≤ 1000 by decide)]
    have eu : (sI (sI u 1 10 (nI f)) (y + 2) m (-1)).1 1 10 = nI f := by rw [sI_at, if_neg (by omega), sI_at, if_pos ⟨rfl, rfl⟩]
    have fu' : Fr (dYu y m) u (sI (sI u 1 10 (nI f)) (y + 2) m (-1)) := (Fr.sI (Or.inl ⟨rfl, by decide, by decide⟩)).trans (Fr.sI (Or.inr ⟨Or.inl rfl, rfl⟩))
    by_cases d2 : d = 2
    · subst d2
      obtain ⟨v3, b1, b2, b3⟩ := mF_takeTold j3' 0 20 ((1 : Int32) <<< ((0 : Int32) &&& 31))
      refine Or.inr ⟨f, _, sI v3 13 (127 + 3 * m) 0, ec, ?_, eu, ?_, fu', jT.trans ((b3.mono fun a k z => Or.inl z).trans (Fr.sI (Or.inr ⟨rfl, by omega, by omega⟩)))⟩
      · unfold fX10_readYear_39
        simp (disch := first | omega | decide) only [show (nI 2 = 2) = True from eq_true rfl, i10, i00, decide_true, decide_false, cnd_t, cnd_f, gd_nil, gd_t, b1_0, b1_1, sw_nil, sw_cons, obs, nc_nI, ix_nI, nI_addo, n1, n2, sI_at, and_self, if_true, b1]
      · unfold mF
        rw [sI_at, if_neg (by omega)]
        exact b2
    · have d3 : d = 3 := by omega
      subst d3
      refine Or.inr ⟨f, _, sI (sI v2 13 (126 + 3 * m) 0) 13 (127 + 3 * m) 0, ec, ?_, eu, ?_, fu', jT.trans (Fr.sI (Or.inr ⟨rfl, by omega, by omega⟩))⟩
      · unfold fX10_readYear_39
        simp (disch := first | omega | decide) only [show (nI 3 = 2) = False from eq_false (by decide +kernel), i10, i00, decide_true, decide_false, cnd_t, cnd_f, gd_nil, gd_t, b1_0, b1_1, sw_nil, sw_cons, obs, nc_nI, ix_nI, nI_addo, n1, n2]
      · unfold mF
        rw [sI_at, if_neg (by omega)]
        exact j3'
end PU
/-! a year told: all lines -/
def dYl (y m a k : Nat) : Prop := dYu y m a k ∨ (a = y ∧ k = 0) ∨ (a = y + 1 ∧ k = m)
def dYU (y a _k : Nat) : Prop := (a = 1 ∧ 6 ≤ _k ∧ _k ≤ 10) ∨ (y ≤ a ∧ a < y + 4)
def dYV (a k : Nat) : Prop := dSv a k ∨ (a = 13 ∧ 125 ≤ k)
section PU
variable {Z : dZ} {u v u' v' : ab_S} {n T i o : Nat}
theorem yLn.fr {D E : Nat → Nat → Prop} {y b j : Nat} (h : yLn Z y b u v j) (f : Fr D u u') (g : Fr E v v') (hd : ¬ D (y + 1) j ∧ ¬ D (y + 2) j ∧ ¬ D (y + 3) j) (he : ¬ E 13 (b + 3 * j) ∧ ¬ E 13 (b + 1 + 3 * j) ∧ ¬ E 13 (b + 2 + 3 * j)) : yLn Z y b u' v' j := by
  unfold yLn
  rw [f.1 _ _ hd.1, f.1 _ _ hd.2.1, f.1 _ _ hd.2.2, g.1 _ _ he.1, g.1 _ _ he.2.1, g.1 _ _ he.2.2]
  exact h
theorem c_deed (u : ab_S) : (∃ d, d < 4 ∧ isW (8 + d) u ∧ fX8_deedAt u = some (nI d, u)) ∨ ((∀ d, d < 4 → ¬ isW (8 + d) u) ∧ fX8_deedAt u = some (-1, u)) := by
  unfold fX8_deedAt
  by_cases e0 : isW 8 u
  · refine Or.inl ⟨0, by decide, e0, ?_⟩
    rw [c_isWord, if_pos e0]
    simp only [i10, i00, decide_true, decide_false, cnd_t, cnd_f, gd_nil, gd_t, b1_0, b1_1, sw_nil, sw_cons, obs]
    rfl
  by_cases e1 : isW 9 u
  · refine Or.inl ⟨1, by decide, e1, ?_⟩
    rw [c_isWord, if_neg e0]
    simp only [i10, i00, decide_true, decide_false, cnd_t, cnd_f, gd_nil, gd_t, b1_0, b1_1, sw_nil, sw_cons, obs]
    rw [c_isWord, if_pos e1]
    simp only [i10, i00, decide_true, decide_false, cnd_t, cnd_f, gd_nil, gd_t, b1_0, b1_1, sw_nil, sw_cons, obs]
    rfl
  by_cases e2 : isW 10 u
  · refine Or.inl ⟨2, by decide, e2, ?_⟩
    rw [c_isWord, if_neg e0]
    simp only [i10, i00, decide_true, decide_false, cnd_t, cnd_f, gd_nil, gd_t, b1_0, b1_1, sw_nil, sw_cons, obs]
    rw [c_isWord, if_neg e1]
    simp only [i10, i00, decide_true, decide_false, cnd_t, cnd_f, gd_nil, gd_t, b1_0, b1_1, sw_nil, sw_cons, obs]
    rw [c_isWord, if_pos e2]
    simp only [i10, i00, decide_true, decide_false, cnd_t, cnd_f, gd_nil, gd_t, b1_0, b1_1, sw_nil, sw_cons, obs]
    rfl
  by_cases e3 : isW 11 u
  · refine Or.inl ⟨3, by decide, e3, ?_⟩
    rw [c_isWord, if_neg e0]
    simp only [i10, i00, decide_true, decide_false, cnd_t, cnd_f, gd_nil, gd_t, b1_0, b1_1, sw_nil, sw_cons, obs]
    rw [c_isWord, if_neg e1]
    simp only [i10, i00, decide_true, decide_false, cnd_t, cnd_f, gd_nil, gd_t, b1_0, b1_1, sw_nil, sw_cons, obs]
    rw [c_isWord, if_neg e2]
    simp only [i10, i00, decide_true, decide_false, cnd_t, cnd_f, gd_nil, gd_t, b1_0, b1_1, sw_nil, sw_cons, obs]
    rw [c_isWord, if_pos e3]
    simp only [i10, i00, decide_true, decide_false, cnd_t, cnd_f, gd_nil, gd_t, b1_0, b1_1, sw_nil, sw_cons, obs]
    rfl
  · refine Or.inr ⟨fun d hd => ?_, ?_⟩
    · obtain h | h | h | h : d = 0 ∨ d = 1 ∨ d = 2 ∨ d = 3 := by omega
      · subst h; exact e0
      · subst h; exact e1
      · subst h; exact e2
      · subst h; exact e3
    · rw [c_isWord, if_neg e0]
      simp only [i10, i00, decide_true, decide_false, cnd_t, cnd_f, gd_nil, gd_t, b1_0, b1_1, sw_nil, sw_cons, obs]
      rw [c_isWord, if_neg e1]
      simp only [i10, i00, decide_true, decide_false, cnd_t, cnd_f, gd_nil, gd_t, b1_0, b1_1, sw_nil, sw_cons, obs]
      rw [c_isWord, if_neg e2]
      simp only [i10, i00, decide_true, decide_false, cnd_t, cnd_f, gd_nil, gd_t, b1_0, b1_1, sw_nil, sw_cons, obs]
      rw [c_isWord, if_neg e3]
      simp only [i10, i00, decide_true, decide_false, cnd_t, cnd_f, gd_nil, gd_t, b1_0, b1_1, sw_nil, sw_cons, obs]
theorem y88_F {f : Nat} (h : mF f v) (k0 : Int32 → ab_S → Option (Int32 × ab_S)) (x : Int32) : fX10_year_88 k0 x v = k0 x v := by
  unfold fX10_year_88
  rw [mF_takeSign h]
  simp only [obs]
theorem y_line (h : pR n T i u v) {y m : Nat} (hy : y = 30 ∨ y = 34) (hm : m ≤ 40) (hO : toR Z o u v) (h0 : u.1 y 0 = nI m) (hk : u.1 1 7 ≠ 0) (k0 : Int32 → ab_S → Option (Int32 × ab_S)) : (∃ u' v' i', i < i' ∧ m < 40 ∧ fX8_readLine y o u = some (1, u') ∧ ((fX10_wordHere 8 4 v).bind fun q2 => bif decide (q2.1 < 0) then ( (fX10_wrong 1 q2.2).bind fun q5 => fX10_year_88 k0 (nI m) q5.2) else ( bif decide ((nI m) = 40) then ( (fX10_wrong 5 q2.2).bind fun q4 => fX10_year_88 k0 (nI m) q4.2) else ( (fX10_readYear (125 + (3 * (nI m))) q2.1 (sI q2.2 0 7 ((q2.2.1 0 7) + 1))).bind fun q3 => fX10_year_88 k0 ((nI m) + 1) q3.2))) = k0 (nI (m + 1)) v' ∧ pR n T i' u' v' ∧ u'.1 y 0 = nI (m + 1) ∧ yLn Z y 125 u' v' m ∧ Fr (dYl y m) u u' ∧ Fr (dYv m) v v') ∨ (∃ f x u' v', fX8_readLine y o u = some (0, u') ∧ ((fX10_wordHere 8 4 v).bind fun q2 => bif decide (q2.1 < 0) then ( (fX10_wrong 1 q2.2).bind fun q5 => fX10_year_88 k0 (nI m) q5.2) else ( bif decide ((nI m) = 40) then ( (fX10_wrong 5 q2.2).bind fun q4 => fX10_year_88 k0 (nI m) q4.2) else ( (fX10_readYear (125 + (3 * (nI m))) q2.1 (sI q2.2 0 7 ((q2.2.1 0 7) + 1))).bind fun q3 => fX10_year_88 k0 ((nI m) + 1) q3.2))) = k0 x v' ∧ u'.1 1 10 = nI f ∧ mF f v' ∧ Fr (dYl y m) u u' ∧ Fr (dYv m) v v') := by
  unfold fX8_readLine
  obtain ⟨r, r1, r2, r3⟩ := m_wordHere h 8 4 (by decide)
  have r1' : fX10_wordHere 8 4 v = some (r, v) := r1
  rw [r1']
  obtain ⟨d, d1, d2, d3⟩ | ⟨d1, d2⟩ := c_deed u
  · have er := r2 d d1 d2
    subst er
    rw [d3]
    have nd : (nI d = -1) ↔ False := nI_nm1 (by omega)
    by_cases em : m = 40
    · subst em
      obtain ⟨f, f1, f2, f3, f4⟩ := p_fail h 5 (by decide) (by decide)
      have f3' : fX6_fail 5 u = some (0, sI u 1 10 (nI f)) := f3
      have f4' : fX10_wrong 5 v = some ((), sI v 0 8 (nI f)) := f4
      refine Or.inr ⟨f, nI 40, sI u 1 10 (nI f), sI v 0 8 (nI f), ?_, ?_, ?_, mF.mk8 f1 f2, Fr.sI (Or.inl (Or.inl ⟨rfl, by decide, by decide⟩)), Fr.sI (Or.inl ⟨rfl, Or.inr rfl⟩)⟩
      · simp only [obs, nd, h0, show (nI 40 < 40) = False from eq_false (by decide +kernel), i10, i00, decide_true, decide_false, cnd_t, cnd_f, gd_nil, gd_t, b1_0, b1_1, sw_nil, sw_cons, obs, f3']
      · simp (disch := first | omega | decide) only [obs, nI_lt0, show (nI 40 = 40) = True from eq_true rfl, i10, i00, decide_true, decide_false, cnd_t, cnd_f, gd_nil, gd_t, b1_0, b1_1, sw_nil, sw_cons, obs, f4']
        exact y88_F (mF.mk8 f1 f2) k0 _
      · rw [sI_at, if_pos ⟨rfl, rfl⟩]
    · have hm4 : m < 40 := by omega
      obtain ⟨u1, s1, s2, s3⟩ := p_step h hk
      have f2 : Fr (fun a _ => a = y + 1) u1 (sI u1 (y + 1) m (nI d)) := Fr.sI rfl
      have hr2 : pR n T (i + 1) (sI u1 (y + 1) m (nI d)) (sI v 0 7 (nI (i + 1))) := s2.fr f2 (Fr.rfl' (D := fun _ _ => False)) (fun a k z q => by unfold oPu at z; omega) (fun a k z q => q)
      have fT : Fr (dYl y m) u (sI u1 (y + 1) m (nI d)) := (s3.mono fun a k z => Or.inl (Or.inl z)).trans (Fr.sI (Or.inr (Or.inr ⟨rfl, rfl⟩)))
      have gT : Fr (dYv m) v (sI v 0 7 (nI (i + 1))) := Fr.sI (Or.inl ⟨rfl, Or.inl rfl⟩)
      have hO2 : toR Z o (sI u1 (y + 1) m (nI d)) (sI v 0 7 (nI (i + 1))) := hO.fr fT gT (fun a k z1 z2 q => by unfold dYl dYu dSu at q; omega) (fun k => ⟨fun q => by unfold dYv dSv at q; omega, fun q => by unfold dYv dSv at q; omega⟩) (fun q => by unfold dYv dSv at q; omega)
      have e1 : u1.1 y 0 = nI m := by rw [s3.1 _ _ (by unfold dSu; omega)]; exact h0
      have e2 : (sI u1 (y + 1) m (nI d)).1 y 0 = nI m := by rw [sI_at, if_neg (by omega)]; exact e1
      have ecl : ∀ (r' : Int32 × ab_S), fX8_readNames y o (nI d) (sI u1 (y + 1) m (nI d)) = some r' → ((some (nI d, u)).bind fun q1 => bif decide (q1.1 = -1) then ((fX6_fail 1 q1.2).bind fun q7 => ab_gd [ab_b1 q7.1] (some (q7.1, q7.2))) else (bif decide ((q1.2.1 y 0) < 40) then ((fX6_step q1.2).bind fun q2 => (fX9_put 40 (y + 1) (q2.2.1 y 0) q1.1 q2.2).bind fun q3 => (fX8_readNames y o q1.1 q3.2).bind fun q4 => bif decide (q4.1 = 0) then (ab_gd [ab_b1 0] (some (0, q4.2))) else ((fX6_takeEnd q4.2).bind fun q5 => bif decide (q5.1 = 0) then (ab_gd [ab_b1 0] (some (0, q5.2))) else (ab_gd [ab_b1 1] (some (1, (sI q5.2 y 0 ((q5.2.1 y 0) + 1))))))) else ((fX6_fail 5 q1.2).bind fun q6 => ab_gd [ab_b1 q6.1] (some (q6.1, q6.2))))) = (bif decide (r'.1 = 0) then (ab_gd [ab_b1 0] (some (0, r'.2))) else ((fX6_takeEnd r'.2).bind fun q5 => bif decide (q5.1 = 0) then (ab_gd [ab_b1 0] (some (0, q5.2))) else (ab_gd [ab_b1 1] (some (1, (sI q5.2 y 0 ((q5.2.1 y 0) + 1))))))) := by
        intro r' hr'
        simp (disch := first | omega | decide) only [obs, nd, h0, nI_lto, hm4, i10, i00, decide_true, decide_false, cnd_t, cnd_f, gd_nil, gd_t, b1_0, b1_1, sw_nil, sw_cons, obs, s1, e1, put_eq (show m < 40 by omega) (show 40 ≤ 1000 by decide), hr']
      have emo : ∀ v2, fX10_readYear (nI (125 + 3 * m)) (nI d) (sI v 0 7 (nI (i + 1))) = some ((), v2) → ((some (nI d, v)).bind fun q2 => bif decide (q2.1 < 0) then ((fX10_wrong 1 q2.2).bind fun q5 => fX10_year_88 k0 (nI m) q5.2) else (bif decide ((nI m) = 40) then ((fX10_wrong 5 q2.2).bind fun q4 => fX10_year_88 k0 (nI m) q4.2) else ((fX10_readYear (125 + (3 * (nI m))) q2.1 (sI q2.2 0 7 ((q2.2.1 0 7) + 1))).bind fun q3 => fX10_year_88 k0 ((nI m) + 1) q3.2))) = fX10_year_88 k0 (nI (m + 1)) v2 := by
        intro v2 hv2
        simp (disch := first | omega | decide) only [obs, nI_lt0, nI_eqo, em, i10, i00, decide_true, decide_false, cnd_t, cnd_f, gd_nil, gd_t, b1_0, b1_1, sw_nil, sw_cons, obs, h.at, nI_addo, nI_omul, nI_oadd, hv2]
      obtain ⟨u3, v3, i3, a1, a2, a3, a4, a5, a6, a7⟩ | ⟨f, u3, v3, a1, a2, a3, a4, a6, a7⟩ := y_names (d := d) hr2 hy hm4 hO2 e2 (by omega) (by rw [sI_at, if_pos ⟨rfl, rfl⟩])
      · rw [ecl _ a1, emo _ a2]
        unfold fX10_year_88
        have e3 : u3.1 y 0 = nI m := by rw [a6.1 _ _ (by unfold dYu dSu; omega)]; exact e2
        obtain ⟨u4, b1, b2, b3, b4, b5⟩ | ⟨f, b1, b2, b3, b4⟩ := p_end a3
        · have e4 : u4.1 y 0 = nI m := by rw [b4.1 _ _ (by unfold dSu; omega)]; exact e3
          refine Or.inl ⟨sI u4 y 0 (nI (m + 1)), sI v3 0 7 (nI (i3 + 1)), i3 + 1, by omega, hm4, ?_, ?_, ?_, ?_, ?_, ?_, ?_⟩
          · simp only [i10, i00, decide_true, decide_false, cnd_t, cnd_f, gd_nil, gd_t, b1_0, b1_1, sw_nil, sw_cons, obs, b1, e4, nI_addo]
          · simp only [b2, obs]
          · exact b3.fr (D := fun a _ => a = y) (E := fun _ _ => False) (Fr.sI rfl) Fr.rfl' (fun a k z q => by unfold oPu at z; omega) (fun a k z q => q)
          · rw [sI_at, if_pos ⟨rfl, rfl⟩]
          · exact a5.fr (D := fun a k => dSu a k ∨ a = y) (E := dSv) ((b4.mono fun a k z => Or.inl z).trans (Fr.sI (Or.inr rfl))) (Fr.sI ⟨rfl, Or.inl rfl⟩) ⟨fun q => by unfold dSu at q; omega, fun q => by unfold dSu at q; omega, fun q => by unfold dSu at q; omega⟩ ⟨fun q => by unfold dSv at q; omega, fun q => by unfold dSv at q; omega, fun q => by unfold dSv at q; omega⟩
          · exact fT.trans ((a6.mono fun a k z => Or.inl z).trans ((b4.mono fun a k z => Or.inl (Or.inl z)).trans (Fr.sI (Or.inr (Or.inl ⟨rfl, rfl⟩)))))
          · exact gT.trans (a7.trans (Fr.sI (Or.inl ⟨rfl, Or.inl rfl⟩)))
        · refine Or.inr ⟨f, nI (m + 1), sI u3 1 10 (nI f), sI v3 0 8 (nI f), ?_, ?_, ?_, mF.mk8 b3 b4, ?_, ?_⟩
          · simp only [i10, i00, decide_true, decide_false, cnd_t, cnd_f, gd_nil, gd_t, b1_0, b1_1, sw_nil, sw_cons, obs, b1]
          · simp only [b2, obs]
          · rw [sI_at, if_pos ⟨rfl, rfl⟩]
          · exact fT.trans ((a6.mono fun a k z => Or.inl z).trans (Fr.sI (Or.inl (Or.inl ⟨rfl, by decide, by decide⟩))))
          · exact gT.trans (a7.trans (Fr.sI (Or.inl ⟨rfl, Or.inr rfl⟩)))
      · rw [ecl _ a1, emo _ a2]
        refine Or.inr ⟨f, nI (m + 1), u3, v3, ?_, ?_, a3, a4, fT.trans (a6.mono fun a k z => Or.inl z), gT.trans a7⟩
        · simp only [i10, i00, decide_true, decide_false, cnd_t, cnd_f, gd_nil, gd_t, b1_0, b1_1, sw_nil, sw_cons, obs]
        · exact y88_F a4 k0 _
  · have er := r3 d1
    subst er
    rw [d2]
    obtain ⟨f, f1, f2, f3, f4⟩ := p_fail h 1 (by decide) (by decide)
    have f3' : fX6_fail 1 u = some (0, sI u 1 10 (nI f)) := f3
    have f4' : fX10_wrong 1 v = some ((), sI v 0 8 (nI f)) := f4
    refine Or.inr ⟨f, nI m, sI u 1 10 (nI f), sI v 0 8 (nI f), ?_, ?_, ?_, mF.mk8 f1 f2, Fr.sI (Or.inl (Or.inl ⟨rfl, by decide, by decide⟩)), Fr.sI (Or.inl ⟨rfl, Or.inr rfl⟩)⟩
    · simp only [obs, i10, i00, decide_true, decide_false, cnd_t, cnd_f, gd_nil, gd_t, b1_0, b1_1, sw_nil, sw_cons, obs, f3']
    · simp only [obs, show ((-1 : Int32) < 0) = True from eq_true (by decide +kernel), i10, i00, decide_true, decide_false, cnd_t, cnd_f, gd_nil, gd_t, b1_0, b1_1, sw_nil, sw_cons, obs, f4']
      exact y88_F (mF.mk8 f1 f2) k0 _
    · rw [sI_at, if_pos ⟨rfl, rfl⟩]
end PU
/-! a year told -/
def dKu (a k : Nat) : Prop := a = 3 ∨ a = 4 ∨ a = 5 ∨ (a = 1 ∧ (k = 1 ∨ (5 ≤ k ∧ k ≤ 10)))
def dKv (a k : Nat) : Prop := a = 2 ∨ a = 3 ∨ a = 4 ∨ (a = 0 ∧ (k = 2 ∨ k = 3 ∨ k = 7 ∨ k = 8))
def rdU (o y a k : Nat) : Prop := a = 3 ∨ a = 4 ∨ a = 5 ∨ (a = 1 ∧ (k = 1 ∨ (5 ≤ k ∧ k ≤ 10))) ∨ (o ≤ a ∧ a < o + 12) ∨ (y ≤ a ∧ a < y + 4)
def rdV (a k : Nat) : Prop := a = 2 ∨ a = 3 ∨ a = 4 ∨ a = 10 ∨ a = 12 ∨ (a = 0 ∧ (k = 0 ∨ k = 2 ∨ k = 3 ∨ k = 7 ∨ k = 8 ∨ k = 13 ∨ k = 19 ∨ k = 20)) ∨ (a = 6 ∧ 90 ≤ k) ∨ ((a = 7 ∨ a = 8) ∧ 1100 ≤ k) ∨ (a = 13 ∧ 125 ≤ k)
section PU
variable {Z : dZ} {s : Nat → Int32} {u v u' v' : ab_S} {n T i o : Nat}
theorem p_cut (hT : pTp u v) (hW : pWd v) : ∃ n T u' v', fX6_split u = some ((), u') ∧ fX10_cutAll v = some ((), v') ∧ pR n T 0 u' v' ∧ pTp u' v' ∧ Fr dKu u u' ∧ Fr dKv v v' := by
  obtain ⟨n, hn, t1, t2, t3⟩ := hT
  have hc : ∃ c : Nat → Nat, ∀ i, i < n → ctx (c i) ∧ u.1 2 i = nI (c i) ∧ v.1 1 i = nI (c i) := by
    refine ⟨fun i => if h : i < n then Classical.choose (t3 i h) else 0, fun i hi => ?_⟩
    have := Classical.choose_spec (t3 i hi)
    simp only [hi, dite_true]
    exact this
  obtain ⟨c, hc⟩ := hc
  have f1 : Fr dKu u (sI (sI u 1 5 0) 1 10 0) := (Fr.sI (Or.inr (Or.inr (Or.inr ⟨rfl, by decide⟩)))).trans (Fr.sI (Or.inr (Or.inr (Or.inr ⟨rfl, by decide⟩))))
  have g1 : Fr dKv v (sI (sI v 0 3 (v.1 0 2)) 0 2 0) := (Fr.sI (Or.inr (Or.inr (Or.inr ⟨rfl, by decide⟩)))).trans (Fr.sI (Or.inr (Or.inr (Or.inr ⟨rfl, by decide⟩))))
  obtain ⟨u', v', T, q1, q2, q3, q4, q5, q6, q7, q8⟩ := cut_loop (c := c) hn (fun i hi => (hc i hi).1) n 0 0 fu fu (sI (sI u 1 5 0) 1 10 0) (sI (sI v 0 3 (v.1 0 2)) 0 2 0) (by omega) (Nat.zero_le n) (Nat.le_refl 0) (show n < 5000 by omega) (show n < 5000 by omega) ⟨by simp only [sI_at, sI_l, sJ_at, sJ_i, sJ_m, sM_at, sM_i, sM_l, Nat.reduceEqDiff, false_and, and_false, true_and, and_true, and_self, if_false, if_true, ite_false, ite_true]; exact t1, fun i hi => by simp only [sI_at, sI_l, sJ_at, sJ_i, sJ_m, sM_at, sM_i, sM_l, Nat.reduceEqDiff, false_and, and_false, true_and, and_true, and_self, if_false, if_true, ite_false, ite_true]; exact (hc i hi).2.1⟩ ⟨by simp only [sI_at, sI_l, sJ_at, sJ_i, sJ_m, sM_at, sM_i, sM_l, Nat.reduceEqDiff, false_and, and_false, true_and, and_true, and_self, if_false, if_true, ite_false, ite_true]; exact t2, fun i hi => by simp only [sI_at, sI_l, sJ_at, sJ_i, sJ_m, sM_at, sM_i, sM_l, Nat.reduceEqDiff, false_and, and_false, true_and, and_true, and_self, if_false, if_true, ite_false, ite_true]; exact (hc i hi).2.2⟩ (by simp only [sI_at, sI_l, sJ_at, sJ_i, sJ_m, sM_at, sM_i, sM_l, Nat.reduceEqDiff, false_and, and_false, true_and, and_true, and_self, if_false, if_true, ite_false, ite_true]; rfl) (fun i hi => by omega)
  have e0 : v'.1 0 2 = 0 := by
    rw [q8.1 _ _ (by unfold dTv; omega)]
    simp only [sI_at, sI_l, sJ_at, sJ_i, sJ_m, sM_at, sM_i, sM_l, Nat.reduceEqDiff, false_and, and_false, true_and, and_true, and_self, if_false, if_true, ite_false, ite_true]
  refine ⟨n, T, u', v', q1, q2, ⟨q3, q4, Nat.zero_le T, q6, ?_⟩, ⟨0, by omega, q5, e0, fun i hi => by omega⟩, f1.trans (q7.mono fun a k z => by unfold dTu at z; unfold dKu; omega), g1.trans (q8.mono fun a k z => by unfold dTv at z; unfold dKv; omega)⟩
  exact hW.fr (g1.trans (q8.mono fun a k z => by unfold dTv at z; unfold dKv; omega)) fun k => by unfold dKv; omega
theorem InvZ.rd (h : InvZ Z s u v) (f : Fr (rdU (u.2.2 1) (u.2.2 3)) u u') (g : Fr rdV v v') (hT : pTp u' v') : InvZ Z s u' v' := by
  obtain ⟨⟨hE, hO, ho, hm, hc, hs, hv⟩, ⟨hy, hn⟩, h3, h4, h5, h6, h7, h8, h9, hR⟩ := h
  have hR' := hR
  obtain ⟨hR1, hR2⟩ := hR
  have e2 : u'.2.2 = u.2.2 := f.2.2
  refine ⟨⟨hE, ?_, by rw [e2]; exact ho, ⟨fun k hk => (g.1 _ _ (by unfold rdV; omega)).trans (hm.1 k hk), fun k hk => (g.1 _ _ (by unfold rdV; omega)).trans (hm.2.1 k hk), fun k hk => (g.1 _ _ (by unfold rdV; omega)).trans (hm.2.2 k hk)⟩, hc.fr f (fun a k a1 a2 q => by unfold rdU at q; omega), hs.fr g (fun k a1 q => by unfold rdV at q; omega), hv⟩, ?_, h3.fr f g (fun a k a1 a2 q => by unfold rdU at q; omega) (fun k a1 a2 q => by unfold rdV at q; omega), h4.fr f g (fun a k a1 a2 q => by unfold rdU at q; omega) ⟨fun q => by unfold rdU at q; omega, fun q => by unfold rdU at q; omega⟩ (fun q => by unfold rdV at q; omega) (fun k a1 a2 q => by unfold rdV at q; omega), h5.fr f g (fun a k a1 a2 q => by unfold rdU at q; omega) (fun k q => by unfold rdV at q; omega) (fun k a1 a2 q => by unfold rdV at q; omega), h6.fr f (fun a k a1 q => by unfold rdU at q; omega), ?_, h8.fr g (fun k q => by unfold rdV at q; omega), hT, hR'.fr f⟩
  · rw [e2]
    exact hO.fr f (fun a k a1 a2 q => by unfold rdU at q; omega)
  · obtain ⟨n, h2, h3, h4, h5⟩ := hn
    have e : u'.2.2 2 = u.2.2 2 := congrFun e2 2
    rw [pY, e]
    refine ⟨hy, n, h2, by rw [f.1 _ _ (by unfold rdU; omega)]; exact h3, by rw [g.1 _ _ (by unfold rdV; omega)]; exact h4, fun i hi => ?_⟩
    have h6 := h5 i hi
    rw [← yLn_eq] at h6 ⊢
    exact h6.fr f g ⟨fun q => by unfold rdU at q; omega, fun q => by unfold rdU at q; omega, fun q => by unfold rdU at q; omega⟩ ⟨fun q => by unfold rdV at q; omega, fun q => by unfold rdV at q; omega, fun q => by unfold rdV at q; omega⟩
  · unfold pNm
    rw [e2, g.1 _ _ (by unfold rdV; omega)]
    exact ⟨h7.1, h7.2.fr f g (fun k => ⟨fun q => by unfold rdU at q; omega, fun q => by unfold rdU at q; omega⟩) (fun k => ⟨fun q => by unfold rdV at q; omega, fun q => by unfold rdV at q; omega⟩)⟩
-- all lines
theorem y_loop {y : Nat} (hy : y = 30 ∨ y = 34) (ho : o = 6 ∨ o = 18) : ∀ D i m c N M (u v : ab_S), T - i ≤ D → D < N → D < M → pR n T i u v → toR Z o u v → u.1 y 0 = nI m → m ≤ 40 → c ≤ i → (∀ j, j < m → yLn Z y 125 u v j) → (∃ u' v' m', fX8_readLines_7 y o N (nI c) u = some (0, u') ∧ fX10_year_11 M (nI m) v = fX10_year_97 (nI m') v' ∧ v'.1 0 8 = 0 ∧ m' ≤ 40 ∧ u'.1 y 0 = nI m' ∧ (∀ j, j < m' → yLn Z y 125 u' v' j) ∧ Fr (dYU y) u u' ∧ Fr dYV v v') ∨ (∃ f u' v', fX8_readLines_7 y o N (nI c) u = some (nI f, u') ∧ fX10_year_11 M (nI m) v = some (nI f, v') ∧ 1 ≤ f ∧ f < 20000 ∧ Fr (dYU y) u u' ∧ Fr dYV v v') := by
  have fin : ∀ i m c N M (u v : ab_S), 0 < N → 0 < M → pR n T i u v → u.1 1 7 = 0 → c ≤ i → u.1 y 0 = nI m → m ≤ 40 → (∀ j, j < m → yLn Z y 125 u v j) → (∃ u' v' m', fX8_readLines_7 y o N (nI c) u = some (0, u') ∧ fX10_year_11 M (nI m) v = fX10_year_97 (nI m') v' ∧ v'.1 0 8 = 0 ∧ m' ≤ 40 ∧ u'.1 y 0 = nI m' ∧ (∀ j, j < m' → yLn Z y 125 u' v' j) ∧ Fr (dYU y) u u' ∧ Fr dYV v v') := by
    intro i m c N M u v hN hM h hk hc h0 hm hl
    have hi := h.i1000
    obtain ⟨N, rfl⟩ : ∃ m, N = m + 1 := ⟨N - 1, by omega⟩
    obtain ⟨M, rfl⟩ : ∃ m, M = m + 1 := ⟨M - 1, by omega⟩
    refine ⟨u, v, m, ?_, ?_, h.ok, hm, h0, hl, Fr.rfl', Fr.rfl'⟩
    · rw [fX8_readLines_7, hk]
      by_cases e : c < 1000
      · simp (disch := first | omega | decide) only [i10, i00, decide_true, decide_false, cnd_t, cnd_f, gd_nil, gd_t, b1_0, b1_1, sw_nil, sw_cons, obs, Nat.not_lt_zero, nI_addo, nI_oadd, nI_add, nI_mulo, nI_omul, nI_mul, nI_lto, nI_leo, nI_olt, nI_ole, nI_eqo, nI_oeq, nI_lt2, nI_le2, nI_eq2, nI_nm1, nI_m1n, nI_lt0, nI_lem1, nc_nI, nc_o, ix_nI, ix_o, e]
      · simp (disch := first | omega | decide) only [i10, i00, decide_true, decide_false, cnd_t, cnd_f, gd_nil, gd_t, b1_0, b1_1, sw_nil, sw_cons, obs, Nat.not_lt_zero, nI_addo, nI_oadd, nI_add, nI_mulo, nI_omul, nI_mul, nI_lto, nI_leo, nI_olt, nI_ole, nI_eqo, nI_oeq, nI_lt2, nI_le2, nI_eq2, nI_nm1, nI_m1n, nI_lt0, nI_lem1, nc_nI, nc_o, ix_nI, ix_o, e]
    · rw [fX10_year_11, h.ok, h.at]
      simp (disch := first | omega | decide) only [i10, i00, decide_true, decide_false, cnd_t, cnd_f, gd_nil, gd_t, b1_0, b1_1, sw_nil, sw_cons, obs, Nat.not_lt_zero, nI_addo, nI_oadd, nI_add, nI_mulo, nI_omul, nI_mul, nI_lto, nI_leo, nI_olt, nI_ole, nI_eqo, nI_oeq, nI_lt2, nI_le2, nI_eq2, nI_nm1, nI_m1n, nI_lt0, nI_lem1, nc_nI, nc_o, ix_nI, ix_o, h.end.mp hk]
  intro D
  induction D with
  | zero =>
    intro i m c N M u v hD hN hM h hO h0 hm hc hl
    have hk : u.1 1 7 = 0 := Classical.byContradiction fun z => by
      have := h.lt z
      omega
    exact Or.inl (fin i m c N M u v (by omega) (by omega) h hk hc h0 hm hl)
  | succ D ih =>
    intro i m c N M u v hD hN hM h hO h0 hm hc hl
    by_cases hk : u.1 1 7 = 0
    · exact Or.inl (fin i m c N M u v (by omega) (by omega) h hk hc h0 hm hl)
    have hT := h.lt hk
    have hi := h.i1000
    have hTn : T ≤ 1000 := Nat.le_trans h.1.1 h.1.2.1
    obtain ⟨N, rfl⟩ : ∃ m, N = m + 1 := ⟨N - 1, by omega⟩
    obtain ⟨M, rfl⟩ : ∃ m, M = m + 1 := ⟨M - 1, by omega⟩
    have hk2 : ¬ v.1 2 i = 0 := fun z => hk (h.end.mpr z)
    rw [fX8_readLines_7, fX10_year_11, h.ok, h.at]
    simp (disch := first | omega | decide) only [i10, i00, decide_true, decide_false, cnd_t, cnd_f, gd_nil, gd_t, b1_0, b1_1, sw_nil, sw_cons, obs, ix_nI, nc_nI, nI_lto, show c < 1000 by omega, hk, hk2]
    have dU : ∀ a k, dYl y m a k → dYU y a k := fun a k z => by unfold dYl dYu dSu at z; unfold dYU; omega
    have dV : ∀ a k, dYv m a k → dYV a k := fun a k z => z.elim Or.inl fun z => Or.inr ⟨z.1, by omega⟩
    obtain ⟨u1, v1, i1, b1, b2, b3, b4, b5, b6, b7, b8, b9⟩ | ⟨f, x, u1, v1, b3, b4, b5, b6, b8, b9⟩ := y_line h hy hm hO h0 hk (fX10_year_11 M)
    · rw [b3, b4]
      simp (disch := first | omega | decide) only [i10, i00, decide_true, decide_false, cnd_t, cnd_f, gd_nil, gd_t, b1_0, b1_1, sw_nil, sw_cons, obs, nI_addo]
      have hO1 : toR Z o u1 v1 := hO.fr b8 b9 (fun a k z1 z2 q => by unfold dYl dYu dSu at q; omega) (fun k => ⟨fun q => by unfold dYv dSv at q; omega, fun q => by unfold dYv dSv at q; omega⟩) (fun q => by unfold dYv dSv at q; omega)
      have hl1 : ∀ j, j < m + 1 → yLn Z y 125 u1 v1 j := fun j hj => by
        by_cases ej : j = m
        · subst ej; exact b7
        · exact (hl j (by omega)).fr b8 b9 ⟨fun q => by unfold dYl dYu dSu at q; omega, fun q => by unfold dYl dYu dSu at q; omega, fun q => by unfold dYl dYu dSu at q; omega⟩ ⟨fun q => by unfold dYv dSv at q; omega, fun q => by unfold dYv dSv at q; omega, fun q => by unfold dYv dSv at q; omega⟩
      obtain ⟨u', v', m', z1, z2, z3, z4, z5, z6, z7, z8⟩ | ⟨f, u', v', z1, z2, z3, z4, z7, z8⟩ := ih i1 (m + 1) (c + 1) N M u1 v1 (by omega) (by omega) (by omega) b5 hO1 b6 (by omega) (by omega) hl1
      · exact Or.inl ⟨u', v', m', z1, z2, z3, z4, z5, z6, (b8.mono dU).trans z7, (b9.mono dV).trans z8⟩
      · exact Or.inr ⟨f, u', v', z1, z2, z3, z4, (b8.mono dU).trans z7, (b9.mono dV).trans z8⟩
    · rw [b3, b4]
      obtain ⟨M, rfl⟩ : ∃ m, M = m + 1 := ⟨M - 1, by omega⟩
      refine Or.inr ⟨f, u1, v1, ?_, ?_, b6.2.1, b6.2.2, b8.mono dU, b9.mono dV⟩
      · simp only [i10, i00, decide_true, decide_false, cnd_t, cnd_f, gd_nil, gd_t, b1_0, b1_1, sw_nil, sw_cons, obs, b5]
      · rw [fX10_year_11]
        unfold fX10_year_97
        simp only [b6.nz.1, b6.nz.2, i10, i00, decide_true, decide_false, cnd_t, cnd_f, gd_nil, gd_t, b1_0, b1_1, sw_nil, sw_cons, obs]
        rw [b6.1]
-- the reference takes the lines over
theorem m_take118 (m : Nat) (hm : m ≤ 40) : ∀ d k N (v : ab_S), k + d = 3 * m → d < N → ∃ v', fX10_year_118 N (nI m) (nI k) v = some (0, v') ∧ (∀ j, k ≤ j → j < 3 * m → v'.1 13 (1 + j) = v.1 13 (125 + j)) ∧ (∀ j, j < k → v'.1 13 (1 + j) = v.1 13 (1 + j)) ∧ v'.1 13 0 = v.1 13 0 ∧ Fr (fun a _ => a = 13) v v' := by
  intro d
  induction d with
  | zero =>
    intro k N v hk hN
    obtain ⟨N, rfl⟩ : ∃ m, N = m + 1 := ⟨N - 1, by omega⟩
    rw [fX10_year_118]
    simp (disch := first | omega | decide) only [i10, i00, decide_true, decide_false, cnd_t, cnd_f, gd_nil, gd_t, b1_0, b1_1, sw_nil, sw_cons, obs, Nat.not_lt_zero, nI_addo, nI_oadd, nI_add, nI_mulo, nI_omul, nI_mul, nI_lto, nI_leo, nI_olt, nI_ole, nI_eqo, nI_oeq, nI_lt2, nI_le2, nI_eq2, nI_nm1, nI_m1n, nI_lt0, nI_lem1, nc_nI, nc_o, ix_nI, ix_o, show ¬ k < 3 * m by omega]
    exact ⟨v, rfl, fun j h1 h2 => by omega, fun j _ => rfl, rfl, Fr.rfl'⟩
  | succ d ih =>
    intro k N v hk hN
    obtain ⟨N, rfl⟩ : ∃ m, N = m + 1 := ⟨N - 1, by omega⟩
    rw [fX10_year_118]
    simp (disch := first | omega | decide) only [i10, i00, decide_true, decide_false, cnd_t, cnd_f, gd_nil, gd_t, b1_0, b1_1, sw_nil, sw_cons, obs, Nat.not_lt_zero, nI_addo, nI_oadd, nI_add, nI_mulo, nI_omul, nI_mul, nI_lto, nI_leo, nI_olt, nI_ole, nI_eqo, nI_oeq, nI_lt2, nI_le2, nI_eq2, nI_nm1, nI_m1n, nI_lt0, nI_lem1, nc_nI, nc_o, ix_nI, ix_o, show k < 3 * m by omega]
    obtain ⟨v', q1, q2, q3, q4, q5⟩ := ih (k + 1) N (sI v 13 (1 + k) (v.1 13 (125 + k))) (by omega) (by omega)
    refine ⟨v', q1, fun j h1 h2 => ?_, fun j hj => ?_, ?_, (Fr.sI (D := fun a _ => a = 13) rfl).trans q5⟩
    · by_cases ej : j = k
      · subst ej
        rw [q3 j (by omega), sI_at, if_pos ⟨rfl, rfl⟩]
      · rw [q2 j (by omega) h2, sI_at, if_neg (by omega)]
    · rw [q3 j (by omega), sI_at, if_neg (by omega)]
    · rw [q4, sI_at, if_neg (by omega)]
theorem InvZ.newY {m : Nat} (h : InvZ Z s u v) (hm : m ≤ 40) (g : Fr (fun a _ => a = 13) v v') (h0 : u.1 (u.2.2 3) 0 = nI m) (hv : v'.1 13 0 = nI m) (hl : ∀ j, j < m → yLn Z (u.2.2 3) 1 u v' j) : InvZ Z s (sM (sM u 2 (u.2.2 3)) 3 (u.2.2 2)) v' := by
  obtain ⟨⟨hE, hO, ho, hM, hc, hs, hv1⟩, -, h3, h4, h5, h6, h7, h8, h9, hR1, hR2⟩ := h
  have f : Fr (fun _ _ => False) u u := Fr.rfl'
  have h3' : seR Z 46 0 u v' := h3.fr f g (fun a k a1 a2 q => q) (fun k a1 a2 q => by omega)
  have h4' : pUn Z u v' := h4.fr f g (fun a k a1 a2 q => q) ⟨id, id⟩ (fun q => by omega) (fun k a1 a2 q => by omega)
  have h5' : pMk Z u v' := h5.fr f g (fun a k a1 a2 q => q) (fun k q => by omega) (fun k a1 a2 q => by omega)
  have h9' : pTp u v' := h9.fr f g id (fun k => id) (fun q => by omega) (fun k q => by omega)
  have h7' : nmR Z.1 Z.2.1 (u.2.2 0) 9 11 u v' := h7.2.fr f g (fun k => ⟨id, id⟩) (fun k => ⟨fun q => by omega, fun q => by omega⟩)
  refine ⟨⟨hE, hO, ho, hM.fr g (fun a k a1 a2 q => by omega), hc, hs.fr g (fun k a1 q => by omega), hv1⟩, ⟨?_, m, hm, h0, hv, fun i hi => ?_⟩, h3', h4', h5', h6, ⟨(g.1 _ _ (fun q => by omega)).trans h7.1, h7'⟩, h8.fr g (fun k q => by omega), h9', hR1, ?_⟩
  · show u.2.2 3 = 30 ∨ u.2.2 3 = 34
    omega
  · rw [← yLn_eq]
    exact hl i hi
  · show ((u.2.2 3 = 30 ∧ u.2.2 2 = 34) ∨ (u.2.2 3 = 34 ∧ u.2.2 2 = 30))
    omega
theorem i_S2 (u v : ab_S) (h : Inv u v) : ∃ (r : Int32) (u1 v1 : ab_S), fX9_year u = some (r, u1) ∧ fX10_year v = some (r, v1) ∧ Inv u1 v1 := by
  obtain ⟨Z, s, h⟩ := h
  have h := h.th
  have h' := h
  obtain ⟨⟨hE, hO, ho, hM, hc, hs, hv1⟩, -, -, -, -, -, hNm, hW, hT, hR1, hR2⟩ := h'
  obtain ⟨n, T, u1, v1, q1, q2, q3, q4, q5, q6⟩ := p_cut hT hW
  have er : u1.2.2 = u.2.2 := q5.2.2
  have hy : u.2.2 3 = 30 ∨ u.2.2 3 = 34 := by omega
  have ho6 : u.2.2 0 = 6 ∨ u.2.2 0 = 18 := by omega
  have f2 : Fr (fun a _ => a = u.2.2 3) u1 (sI u1 (u.2.2 3) 0 0) := Fr.sI rfl
  have g2 : Fr (fun _ _ => False) v1 v1 := Fr.rfl'
  have hO1 : toR Z (u.2.2 0) u (sI v 0 0 0) := ⟨hE.1, hE.2.1, ho6, hO.1, hO.2.1, hNm.1, hNm.2⟩
  have f3 : Fr (fun a k => dKu a k ∨ a = u.2.2 3) u (sI u1 (u.2.2 3) 0 0) := (q5.mono fun a k z => Or.inl z).trans (Fr.sI (Or.inr rfl))
  have hO2 : toR Z (u.2.2 0) (sI u1 (u.2.2 3) 0 0) v1 := hO1.fr f3 q6 (fun a k z1 z2 q => by unfold dKu at q; omega) (fun k => ⟨fun q => by unfold dKv at q; omega, fun q => by unfold dKv at q; omega⟩) (fun q => by unfold dKv at q; omega)
  have hr2 : pR n T 0 (sI u1 (u.2.2 3) 0 0) v1 := q3.fr f2 g2 (fun a k z q => by unfold oPu at z; omega) (fun a k z q => q)
  have hTn : T ≤ 1000 := Nat.le_trans q3.1.1 q3.1.2.1
  have ecl : ∀ r, fX8_readLines_7 (u.2.2 3) (u.2.2 0) fu 0 (sI u1 (u.2.2 3) 0 0) = some r → fX9_year u = bif decide (r.1 = 0) then (some (0, (sM (sM r.2 2 (r.2.2.2 3)) 3 (r.2.2.2 2)))) else (some (r.1, r.2)) := by
    intro r hr
    unfold fX9_year fX8_readLines
    rw [q1]
    simp only [obs, er, hr]
  have emo : fX10_year v = fX10_year_11 fu 0 v1 := by
    unfold fX10_year
    rw [q2]
    simp only [obs]
  rw [emo]
  obtain ⟨u', v', m', z1, z2, z3, z4, z5, z6, z7, z8⟩ | ⟨f, u', v', z1, z2, z3, z4, z7, z8⟩ := y_loop hy ho6 T 0 0 0 fu fu (sI u1 (u.2.2 3) 0 0) v1 (by omega) (show T < 5000 by omega) (show T < 5000 by omega) hr2 hO2 (by rw [sI_at, if_pos ⟨rfl, rfl⟩]; rfl) (by omega) (Nat.le_refl 0) (fun j hj => by omega)
  · have hT2 : pTp u' v' := q4.fr (Fr.trans (f2.mono fun a k z => Or.inr ⟨Nat.le_of_eq z.symm, by omega⟩) z7) z8 (fun q => by omega) (fun k q => by omega) (fun q => by unfold dYV dSv at q; omega) (fun k q => by unfold dYV dSv at q; omega)
    have hI : InvZ Z s u' v' := h.rd ((f3.mono fun a k q => by unfold dKu at q; unfold rdU; omega).trans (z7.mono fun a k q => by unfold dYU at q; unfold rdU; omega)) ((q6.mono fun a k q => by unfold dKv at q; unfold rdV; omega).trans (z8.mono fun a k q => by unfold dYV dSv at q; unfold rdV; omega)) hT2
    have e4 : u'.2.2 = u.2.2 := z7.2.2.trans (f3.2.2)
    obtain ⟨v2, b1, b2, b3, b4, b5⟩ := m_take118 m' z4 (3 * m') 0 fu (sI v' 13 0 (nI m')) (by omega) (show 3 * m' < 5000 by omega)
    have gT : Fr (fun a _ => a = 13) v' v2 := (Fr.sI (D := fun a _ => a = 13) rfl).trans b5
    have z1' : fX8_readLines_7 (u.2.2 3) (u.2.2 0) fu 0 (sI u1 (u.2.2 3) 0 0) = some (0, u') := z1
    have z2' : fX10_year_11 fu 0 v1 = fX10_year_97 (nI m') v' := z2
    have b1' : fX10_year_118 fu (nI m') 0 (sI v' 13 0 (nI m')) = some (0, v2) := b1
    refine ⟨0, sM (sM u' 2 (u'.2.2 3)) 3 (u'.2.2 2), v2, ?_, ?_, Z, s, hI.newY z4 gT (by rw [e4]; exact z5) (by rw [b4, sI_at, if_pos ⟨rfl, rfl⟩]) fun j hj => ?_⟩
    · rw [ecl _ z1']
      simp only [i10, i00, decide_true, decide_false, cnd_t, cnd_f, gd_nil, gd_t, b1_0, b1_1, sw_nil, sw_cons, obs]
    · rw [z2']
      unfold fX10_year_97
      simp only [z3, show ((0 : Int32) ≤ 0) = True from eq_true (by decide +kernel), show ab_ix 0 250 = true by decide +kernel, show nc 0 = 0 by decide +kernel, i10, i00, decide_true, decide_false, cnd_t, cnd_f, gd_nil, gd_t, b1_0, b1_1, sw_nil, sw_cons, obs, b1']
    · rw [e4]
      have h6 := z6 j hj
      have k0 := b2 (3 * j) (Nat.zero_le _) (by omega)
      have k1 := b2 (1 + 3 * j) (Nat.zero_le _) (by omega)
      have k2 := b2 (2 + 3 * j) (Nat.zero_le _) (by omega)
      rw [sI_at, if_neg (by omega)] at k0 k1 k2
      unfold yLn at h6 ⊢
      rw [k0, show 1 + 1 + 3 * j = 1 + (1 + 3 * j) by omega, k1, show 1 + 2 + 3 * j = 1 + (2 + 3 * j) by omega, k2, show 125 + (1 + 3 * j) = 125 + 1 + 3 * j by omega, show 125 + (2 + 3 * j) = 125 + 2 + 3 * j by omega]
      exact h6
  · have hT2 : pTp u' v' := q4.fr (Fr.trans (f2.mono fun a k z => Or.inr ⟨Nat.le_of_eq z.symm, by omega⟩) z7) z8 (fun q => by omega) (fun k q => by omega) (fun q => by unfold dYV dSv at q; omega) (fun k q => by unfold dYV dSv at q; omega)
    have hI : InvZ Z s u' v' := h.rd ((f3.mono fun a k q => by unfold dKu at q; unfold rdU; omega).trans (z7.mono fun a k q => by unfold dYU at q; unfold rdU; omega)) ((q6.mono fun a k q => by unfold dKv at q; unfold rdV; omega).trans (z8.mono fun a k q => by unfold dYV dSv at q; unfold rdV; omega)) hT2
    have z1' : fX8_readLines_7 (u.2.2 3) (u.2.2 0) fu 0 (sI u1 (u.2.2 3) 0 0) = some (nI f, u') := z1
    have z2' : fX10_year_11 fu 0 v1 = some (nI f, v') := z2
    refine ⟨nI f, u', v', ?_, z2', Z, s, hI⟩
    rw [ecl _ z1']
    have nf : (nI f = 0) = False := eq_false fun z => by
      have := (nI_eq (b := 0) (show f < 2 ^ 31 by omega) (by decide)).mp z
      omega
    simp only [nf, i10, i00, decide_true, decide_false, cnd_t, cnd_f, gd_nil, gd_t, b1_0, b1_1, sw_nil, sw_cons, obs]
end PU
