/-! a year told: one line -/
def yLn (Z : dZ) (y b : Nat) (u v : ab_S) (i : Nat) : Prop :=
  (u.1 (y + 1) i = 0 ∧ v.1 13 (b + 3 * i) = 0) ∨
  ((u.1 (y + 1) i = 1 ∧ v.1 13 (b + 3 * i) = 1) ∧ ∃ p, p < Z.1 ∧ u.1 (y + 2) i = nI p ∧ v.1 13 (b + 1 + 3 * i) = nI p) ∨
  ((u.1 (y + 1) i = 2 ∧ v.1 13 (b + 3 * i) = 2) ∧ ∃ k j, k < Z.2.1 ∧ j < Z.2.1 ∧ u.1 (y + 2) i = nI k ∧ v.1 13 (b + 1 + 3 * i) = nI k ∧ u.1 (y + 3) i = nI j ∧ v.1 13 (b + 2 + 3 * i) = nI j) ∨
  ((u.1 (y + 1) i = 3 ∧ v.1 13 (b + 3 * i) = 3) ∧ ∃ k, k < Z.2.1 ∧ u.1 (y + 2) i = nI k ∧ v.1 13 (b + 1 + 3 * i) = nI k)
theorem yLn_eq (Z : dZ) (y : Nat) (u v : ab_S) (i : Nat) : yLn Z y 1 u v i = pYl Z y u v i := rfl
def dYu (y m a k : Nat) : Prop := dSu a k ∨ ((a = y + 2 ∨ a = y + 3) ∧ k = m)
def dYv (m a k : Nat) : Prop := dSv a k ∨ (a = 13 ∧ 125 + 3 * m ≤ k ∧ k < 128 + 3 * m)
theorem put_eq {u : ab_S} {n0 o m : Nat} (hm : m < n0) (hn : n0 ≤ 1000) (x : Int32) : fX9_put n0 o (nI m) x u = some ((), sI u o m x) := by
  unfold fX9_put
  rw [show Int32.ofNat n0 = nI n0 from rfl]
  simp (disch := first | omega | decide) only [i10, i00, decide_true, decide_false, cnd_t, cnd_f, gd_nil, gd_t, b1_0, b1_1, sw_nil, sw_cons, obs, Nat.not_lt_zero, nI_addo, nI_oadd, nI_add, nI_mulo, nI_omul, nI_mul, nI_lto, nI_leo, nI_olt, nI_ole, nI_eqo, nI_oeq, nI_lt2, nI_le2, nI_eq2, nI_nm1, nI_m1n, nI_lt0, nI_lem1, nc_nI, nc_o, ix_nI, ix_o, hm]
-- the office told, as a reader sees it
def toR (Z : dZ) (o : Nat) (u v : ab_S) : Prop := Z.1 ≤ 6 ∧ Z.2.1 ≤ 8 ∧ (o = 6 ∨ o = 18) ∧ u.1 o 0 = nI Z.1 ∧ u.1 o 1 = nI Z.2.1 ∧ v.1 0 18 = nI (Z.1 + Z.2.1) ∧ nmR Z.1 Z.2.1 o 9 11 u v
section PU
variable {Z : dZ} {u v u' v' : ab_S} {n T i o : Nat}
theorem toR.fr {D E : Nat → Nat → Prop} (h : toR Z o u v) (f : Fr D u u') (g : Fr E v v') (hd : ∀ a k, 6 ≤ a → a < 30 → ¬ D a k) (he : ∀ k, ¬ E 9 k ∧ ¬ E 11 k) (he2 : ¬ E 0 18) : toR Z o u' v' := by
  obtain ⟨h1, h2, h3, h4, h5, h6, h7⟩ := h
  refine ⟨h1, h2, h3, ?_, ?_, ?_, h7.fr f g (fun k => ⟨hd _ _ (by omega) (by omega), hd _ _ (by omega) (by omega)⟩) he⟩
  · rw [f.1 _ _ (hd _ _ (by omega) (by omega))]; exact h4
  · rw [f.1 _ _ (hd _ _ (by omega) (by omega))]; exact h5
  · rw [g.1 _ _ he2]; exact h6
theorem mask1 : ∀ k, k < 8 → ∀ j, j < 8 → (((((1 : Int32) <<< (nI k &&& 31)) >>> (nI j &&& 31)) &&& 1 = 1) ↔ k = j) := by decide +kernel
-- the second name of a swap
theorem y_second (h : pR n T i u v) {y m k : Nat} (hy : y = 30 ∨ y = 34) (hm : m < 40) (hO : toR Z o u v) (h0 : u.1 y 0 = nI m) (hk : k < Z.2.1) : (∃ u' v' j, j < Z.2.1 ∧ fX8_readNames_38 y o (nI 2) (nI k) u = some (1, u') ∧ ((fX10_takeTold 0 20 ((1 : Int32) <<< (nI k &&& 31)) v).bind fun q1 => some ((), sI q1.2 13 (127 + 3 * m) q1.1)) = some ((), v') ∧ pR n T (i + 1) u' v' ∧ u'.1 (y + 2) m = nI k ∧ u'.1 (y + 3) m = nI j ∧ v'.1 13 (127 + 3 * m) = nI j ∧ Fr (dYu y m) u u' ∧ Fr (fun a k => dSv a k ∨ (a = 13 ∧ k = 127 + 3 * m)) v v') ∨ (∃ f u' v', fX8_readNames_38 y o (nI 2) (nI k) u = some (0, u') ∧ ((fX10_takeTold 0 20 ((1 : Int32) <<< (nI k &&& 31)) v).bind fun q1 => some ((), sI q1.2 13 (127 + 3 * m) q1.1)) = some ((), v') ∧ u'.1 1 10 = nI f ∧ mF f v' ∧ Fr (dYu y m) u u' ∧ Fr (fun a k => dSv a k ∨ (a = 13 ∧ k = 127 + 3 * m)) v v') := by
  obtain ⟨hp6, hg8, ho, o1, o2, o3, hN⟩ := hO
  have f1 : Fr (fun a j => a = y + 2 ∧ j = m) u (sI u (y + 2) m (nI k)) := Fr.sI ⟨rfl, rfl⟩
  have f1' : Fr (dYu y m) u (sI u (y + 2) m (nI k)) := Fr.sI (Or.inr ⟨Or.inl rfl, rfl⟩)
  have g0 : Fr (fun _ _ => False) v v := Fr.rfl'
  have h1 : pR n T i (sI u (y + 2) m (nI k)) v := h.fr f1 g0 (fun a k z q => by unfold oPu at z; omega) (fun a k z q => q)
  have hN1 : nmR Z.1 Z.2.1 o 9 11 (sI u (y + 2) m (nI k)) v := hN.fr f1 g0 (fun k => ⟨fun q => by omega, fun q => by omega⟩) (fun k => ⟨id, id⟩)
  have e0 : (sI u (y + 2) m (nI k)).1 y 0 = nI m := by rw [sI_at, if_neg (by omega)]; exact h0
  have e1 : (sI u (y + 2) m (nI k)).1 o 1 = nI Z.2.1 := by rw [sI_at, if_neg (by omega)]; exact o2
  have nk : (nI k = -1) ↔ False := nI_nm1 (by omega)
  obtain ⟨b, b1, b2, b3⟩ := p_isName h1
  -- the rest, once it is known that the two differ
  have rest : ∀ s0 : Int32, ¬ s0 = nI k → (fX6_isName (sI u (y + 2) m (nI k)) = some (1, sI u (y + 2) m (nI k)) → ∀ j, j < Z.2.1 → (sI u (y + 2) m (nI k)).2.1 (o + 2) j = (sI u (y + 2) m (nI k)).2.1 1 9 → ¬ (((((1 : Int32) <<< (nI k &&& 31)) >>> (nI j &&& 31)) &&& 1 = 1))) → (∃ u' v' j, j < Z.2.1 ∧ fX8_readNames_102 y o (nI k) s0 (sI u (y + 2) m (nI k)) = some (1, u') ∧ ((fX10_takeTold 0 20 ((1 : Int32) <<< (nI k &&& 31)) v).bind fun q1 => some ((), sI q1.2 13 (127 + 3 * m) q1.1)) = some ((), v') ∧ pR n T (i + 1) u' v' ∧ u'.1 (y + 2) m = nI k ∧ u'.1 (y + 3) m = nI j ∧ v'.1 13 (127 + 3 * m) = nI j ∧ Fr (dYu y m) u u' ∧ Fr (fun a k => dSv a k ∨ (a = 13 ∧ k = 127 + 3 * m)) v v') ∨ (∃ f u' v', fX8_readNames_102 y o (nI k) s0 (sI u (y + 2) m (nI k)) = some (0, u') ∧ ((fX10_takeTold 0 20 ((1 : Int32) <<< (nI k &&& 31)) v).bind fun q1 => some ((), sI q1.2 13 (127 + 3 * m) q1.1)) = some ((), v') ∧ u'.1 1 10 = nI f ∧ mF f v' ∧ Fr (dYu y m) u u' ∧ Fr (fun a k => dSv a k ∨ (a = 13 ∧ k = 127 + 3 * m)) v v') := by
    intro s0 hs hm1
    unfold fX8_readNames_102
    rw [e1]
    obtain ⟨j, u2, j1, j2, j3, j4, j5, -⟩ | ⟨f, v2, j1, j2, j3, j4⟩ := p_toldG0 hp6 hg8 h1 hN1 o3 _ hm1
    · have nj : (nI j = -1) ↔ False := nI_nm1 (by omega)
      have e2 : u2.1 y 0 = nI m := by rw [j5.1 _ _ (by unfold dSu; omega)]; exact e0
      have e3 : u2.1 (y + 2) m = nI k := by rw [j5.1 _ _ (by unfold dSu; omega), sI_at, if_pos ⟨rfl, rfl⟩]
      refine Or.inl ⟨sI u2 (y + 3) m (nI j), sI (sI v 0 7 (nI (i + 1))) 13 (127 + 3 * m) (nI j), j, j1, ?_, ?_, ?_, ?_, ?_, ?_, ?_, ?_⟩
      · simp only [hs, i10, i00, decide_true, decide_false, cnd_t, cnd_f, gd_nil, gd_t, b1_0, b1_1, sw_nil, sw_cons, obs, j2, e2, put_eq (show m < 40 by omega) (show 40 ≤ 1000 by decide), nj]
      · rw [j3]
        simp only [obs]
      · exact j4.fr (D := fun a _ => a = y + 3) (E := fun a _ => a = 13) (Fr.sI rfl) (Fr.sI rfl) (fun a k z q => by unfold oPu at z; omega) (fun a k z q => by unfold oPv at z; omega)
      · rw [sI_at, if_neg (by omega)]; exact e3
      · rw [sI_at, if_pos ⟨rfl, rfl⟩]
      · rw [sI_at, if_pos ⟨rfl, rfl⟩]
      · exact f1'.trans ((j5.mono fun a k z => Or.inl z).trans (Fr.sI (Or.inr ⟨Or.inr rfl, rfl⟩)))
      · exact (Fr.sI (Or.inl ⟨rfl, Or.inl rfl⟩)).trans (Fr.sI (Or.inr ⟨rfl, rfl⟩))
    · have e2 : (sI (sI u (y + 2) m (nI k)) 1 10 (nI f)).1 y 0 = nI m := by rw [sI_at, if_neg (by omega)]; exact e0
      refine Or.inr ⟨f, sI (sI (sI u (y + 2) m (nI k)) 1 10 (nI f)) (y + 3) m (-1), sI v2 13 (127 + 3 * m) 0, ?_, ?_, ?_, ?_, ?_, ?_⟩
      · simp only [hs, i10, i00, decide_true, decide_false, cnd_t, cnd_f, gd_nil, gd_t, b1_0, b1_1, sw_nil, sw_cons, obs, j1, e2, put_eq (show m < 40 by omega) (show 40 ≤ 1000 by decide)]
      · rw [j2]
        simp only [obs]
      · rw [sI_at, if_neg (by omega), sI_at, if_pos ⟨rfl, rfl⟩]
      · unfold mF
        rw [sI_at, if_neg (by omega)]
        exact j3
      · exact f1'.trans ((Fr.sI (Or.inl ⟨rfl, by decide, by decide⟩)).trans (Fr.sI (Or.inr ⟨Or.inr rfl, rfl⟩)))
      · exact (j4.mono fun a k z => Or.inl z).trans (Fr.sI (Or.inr ⟨rfl, rfl⟩))
  unfold fX8_readNames_38
  rw [h0]
  simp (disch := first | omega | decide) only [i10, i00, decide_true, decide_false, cnd_t, cnd_f, gd_nil, gd_t, b1_0, b1_1, sw_nil, sw_cons, obs, put_eq (show m < 40 by omega) (show 40 ≤ 1000 by decide), nk, show (nI 2 = 2) = True from eq_true rfl, b1, e1]
  cases b
  · simp only [b01, Bool.false_eq_true, if_false, i10, i00, decide_true, decide_false, cnd_t, cnd_f, gd_nil, gd_t, b1_0, b1_1, sw_nil, sw_cons, obs]
    exact rest (-1) (fun z => nk.mp z.symm) fun z => by
      rw [b1] at z
      exact absurd (Prod.mk.inj (Option.some.inj z)).1 (by decide +kernel)
  · simp only [b01, if_true, i10, i00, decide_true, decide_false, cnd_t, cnd_f, gd_nil, gd_t, b1_0, b1_1, sw_nil, sw_cons, obs]
    obtain ⟨r, r1, r2⟩ := c_index (u := sI u (y + 2) m (nI k)) (o0 := o + 2) (n0 := 8) hg8 (by decide) ((sI u (y + 2) m (nI k)).2.1 1 9)
    rw [r1]
    simp only [obs]
    obtain ⟨j, j1, j2, j3⟩ | ⟨j1, j2⟩ := r2
    · by_cases ejk : j = k
      · subst ejk
        obtain ⟨f, v2, q1, q2, q3, q4⟩ := p_toldX0 hp6 hg8 h1 hN1 o3 b1 j1 j2 ((1 : Int32) <<< (nI j &&& 31)) ((mask1 j (by omega) j (by omega)).mpr rfl)
        refine Or.inr ⟨f, sI (sI u (y + 2) m (nI j)) 1 10 (nI f), sI v2 13 (127 + 3 * m) 0, ?_, ?_, ?_, ?_, ?_, ?_⟩
        · unfold fX8_readNames_102
          simp only [j3, i10, i00, decide_true, decide_false, cnd_t, cnd_f, gd_nil, gd_t, b1_0, b1_1, sw_nil, sw_cons, obs, q1]
        · rw [q2]
          simp only [obs]
        · rw [sI_at, if_pos ⟨rfl, rfl⟩]
        · unfold mF
          rw [sI_at, if_neg (by omega)]
          exact q3
        · exact f1'.trans (Fr.sI (Or.inl ⟨rfl, by decide, by decide⟩))
        · exact (q4.mono fun a k z => Or.inl z).trans (Fr.sI (Or.inr ⟨rfl, rfl⟩))
      · refine rest r ?_ fun _ j' a1 a2 a3 => ?_
        · rw [j3, nI_eq2 (by omega) (by omega)]
          exact ejk
        · have e4 := hN1.2.2.2.2.1 j j' j1 a1 (j2.trans a2.symm)
          have e5 := (mask1 k (by omega) j' (by omega)).mp a3
          omega
    · refine rest r ?_ fun _ j' a1 a2 => absurd a2 (j2 j' a1)
      rw [j1]
      exact fun z => nk.mp z.symm
theorem y_names (h : pR n T i u v) {y m d : Nat} (hy : y = 30 ∨ y = 34) (hm : m < 40) (hO : toR Z o u v) (h0 : u.1 y 0 = nI m) (hd : d ≤ 3) (h1 : u.1 (y + 1) m = nI d) : (∃ u' v' i', fX8_readNames y o (nI d) u = some (1, u') ∧ fX10_readYear (nI (125 + 3 * m)) (nI d) v = some ((), v') ∧ pR n T i' u' v' ∧ i ≤ i' ∧ yLn Z y 125 u' v' m ∧ Fr (dYu y m) u u' ∧ Fr (dYv m) v v') ∨ (∃ f u' v', fX8_readNames y o (nI d) u = some (0, u') ∧ fX10_readYear (nI (125 + 3 * m)) (nI d) v = some ((), v') ∧ u'.1 1 10 = nI f ∧ mF f v' ∧ Fr (dYu y m) u u' ∧ Fr (dYv m) v v') := by
  have hO' := hO
  obtain ⟨hp6, hg8, ho, o1, o2, o3, hN⟩ := hO
  have n1 : 125 + 3 * m + 1 = 126 + 3 * m := by omega
  have n2 : 125 + 3 * m + 2 = 127 + 3 * m := by omega
  have f0 : Fr (fun _ _ => False) u u := Fr.rfl'
  have g1 : Fr (fun a k => a = 13 ∧ k = 125 + 3 * m) v (sI v 13 (125 + 3 * m) (nI d)) := Fr.sI ⟨rfl, rfl⟩
  have g1' : Fr (dYv m) v (sI v 13 (125 + 3 * m) (nI d)) := Fr.sI (Or.inr ⟨rfl, by omega, by omega⟩)
  have hr1 : pR n T i u (sI v 13 (125 + 3 * m) (nI d)) := h.fr f0 g1 (fun a k z q => q) (fun a k z q => by unfold oPv at z; omega)
  have hO1 : toR Z o u (sI v 13 (125 + 3 * m) (nI d)) := hO'.fr f0 g1 (fun a k _ _ q => q) (fun k => ⟨fun q => by omega, fun q => by omega⟩) (fun q => by omega)
  have hN1 := hO1.2.2.2.2.2.2
  have o31 := hO1.2.2.2.2.2.1
  by_cases d0 : d = 0
  · subst d0
    refine Or.inl ⟨u, sI (sI (sI v 13 (125 + 3 * m) (nI 0)) 13 (126 + 3 * m) 0) 13 (127 + 3 * m) 0, i, ?_, ?_, ?_, Nat.le_refl i, ?_, Fr.rfl', ?_⟩
    · unfold fX8_readNames
      simp only [show (nI 0 = 0) = True from eq_true rfl, i10, i00, decide_true, decide_false, cnd_t, cnd_f, gd_nil, gd_t, b1_0, b1_1, sw_nil, sw_cons, obs]
    · unfold fX10_readYear fX10_readYear_39
      simp (disch := first | omega | decide) only [show (nI 0 = 0) = True from eq_true rfl, show (nI 0 = 2) = False from eq_false (by decide +kernel), i10, i00, decide_true, decide_false, cnd_t, cnd_f, gd_nil, gd_t, b1_0, b1_1, sw_nil, sw_cons, obs, Nat.not_lt_zero, nI_addo, nI_oadd, nI_add, nI_mulo, nI_omul, nI_mul, nI_lto, nI_leo, nI_olt, nI_ole, nI_eqo, nI_oeq, nI_lt2, nI_le2, nI_eq2, nI_nm1, nI_m1n, nI_lt0, nI_lem1, nc_nI, nc_o, ix_nI, ix_o, n1, n2]
    · exact hr1.fr (D := fun _ _ => False) (E := fun a _ => a = 13) Fr.rfl' (Fr.trans (Fr.sI (show (13 : Nat) = 13 from rfl)) (Fr.sI (show (13 : Nat) = 13 from rfl))) (fun a k z q => q) (fun a k z q => by unfold oPv at z; omega)
    · refine Or.inl ⟨h1, ?_⟩
      rw [sI_at, if_neg (by omega), sI_at, if_neg (by omega), sI_at, if_pos ⟨rfl, rfl⟩]
      rfl
    · exact g1'.trans ((Fr.sI (Or.inr ⟨rfl, by omega, by omega⟩)).trans (Fr.sI (Or.inr ⟨rfl, by omega, by omega⟩)))
  by_cases d1 : d = 1
  · subst d1
    obtain ⟨p, u2, j1, j2, j3, j4, j5⟩ | ⟨f, v2, j1, j2, j3, j4⟩ := p_toldP0 hp6 hg8 hr1 hN1 o31
    · have np1 : (nI p = -1) ↔ False := nI_nm1 (by omega)
      have e2 : u2.1 y 0 = nI m := by rw [j5.1 _ _ (by unfold dSu; omega)]; exact h0
      have e3 : u2.1 (y + 1) m = nI 1 := by rw [j5.1 _ _ (by unfold dSu; omega)]; exact h1
      refine Or.inl ⟨sI u2 (y + 2) m (nI p), sI (sI (sI (sI v 13 (125 + 3 * m) (nI 1)) 0 7 (nI (i + 1))) 13 (126 + 3 * m) (nI p)) 13 (127 + 3 * m) 0, i + 1, ?_, ?_, ?_, Nat.le_succ i, ?_, ?_, ?_⟩
      · unfold fX8_readNames fX8_readNames_38 fX8_readNames_64
        rw [o1]
        simp only [show (nI 1 = 0) = False from eq_false (by decide +kernel), show (nI 1 = 1) = True from eq_true rfl, show (nI 1 = 2) = False from eq_false (by decide +kernel), i10, i00, decide_true, decide_false, cnd_t, cnd_f, gd_nil, gd_t, b1_0, b1_1, sw_nil, sw_cons, obs, j2, e2, put_eq (show m < 40 by omega) (show 40 ≤ 1000 by decide), np1]
      · unfold fX10_readYear fX10_readYear_35 fX10_readYear_39
        simp (disch := first | omega | decide) only [show (nI 1 = 0) = False from eq_false (by decide +kernel), show (nI 1 = 1) = True from eq_true rfl, show (nI 1 = 2) = False from eq_false (by decide +kernel), i10, i00, decide_true, decide_false, cnd_t, cnd_f, gd_nil, gd_t, b1_0, b1_1, sw_nil, sw_cons, obs, nc_nI, ix_nI, nI_addo, n1, n2, j3]
      · exact j4.fr (D := fun a _ => a = y + 2) (E := fun a _ => a = 13) (Fr.sI rfl) (Fr.trans (Fr.sI (show (13 : Nat) = 13 from rfl)) (Fr.sI (show (13 : Nat) = 13 from rfl))) (fun a k z q => by unfold oPu at z; omega) (fun a k z q => by unfold oPv at z; omega)
      · refine Or.inr (Or.inl ⟨⟨?_, ?_⟩, p, j1, ?_, ?_⟩)
        · rw [sI_at, if_neg (by omega), e3]; rfl
        · rw [sI_at, if_neg (by omega), sI_at, if_neg (by omega), sI_at, if_neg (by omega), sI_at, if_pos ⟨rfl, rfl⟩]; rfl
        · rw [sI_at, if_pos ⟨rfl, rfl⟩]
        · rw [sI_at, if_neg (by omega), sI_at, if_pos ⟨rfl, by omega⟩]
      · exact (j5.mono fun a k z => Or.inl z).trans (Fr.sI (Or.inr ⟨Or.inl rfl, rfl⟩))
      · exact g1'.trans ((Fr.sI (Or.inl ⟨rfl, Or.inl rfl⟩)).trans ((Fr.sI (Or.inr ⟨rfl, by omega, by omega⟩)).trans (Fr.sI (Or.inr ⟨rfl, by omega, by omega⟩))))
    · have e2 : (sI u 1 10 (nI f)).1 y 0 = nI m := by rw [sI_at, if_neg (by omega)]; exact h0
      refine Or.inr ⟨f, sI (sI u 1 10 (nI f)) (y + 2) m (-1), sI (sI v2 13 (126 + 3 * m) 0) 13 (127 + 3 * m) 0, ?_, ?_, ?_, ?_, ?_, ?_⟩
      · unfold fX8_readNames fX8_readNames_38 fX8_readNames_64
        rw [o1]
        simp only [show (nI 1 = 0) = False from eq_false (by decide +kernel), show (nI 1 = 1) = True from eq_true rfl, i10, i00, decide_true, decide_false, cnd_t, cnd_f, gd_nil, gd_t, b1_0, b1_1, sw_nil, sw_cons, obs, j1, e2, put_eq (show m < 40 by omega) (show 40 ≤ 1000 by decide)]
      · unfold fX10_readYear fX10_readYear_35 fX10_readYear_39
        simp (disch := first | omega | decide) only [show (nI 1 = 0) = False from eq_false (by decide +kernel), show (nI 1 = 1) = True from eq_true rfl, show (nI 1 = 2) = False from eq_false (by decide +kernel), i10, i00, decide_true, decide_false, cnd_t, cnd_f, gd_nil, gd_t, b1_0, b1_1, sw_nil, sw_cons, obs, nc_nI, ix_nI, nI_addo, n1, n2, j2]
      · rw [sI_at, if_neg (by omega), sI_at, if_pos ⟨rfl, rfl⟩]
      · unfold mF
        rw [sI_at, if_neg (by omega), sI_at, if_neg (by omega)]
        exact j3
      · exact (Fr.sI (Or.inl ⟨rfl, by decide, by decide⟩)).trans (Fr.sI (Or.inr ⟨Or.inl rfl, rfl⟩))
      · exact g1'.trans ((j4.mono fun a k z => Or.inl z).trans ((Fr.sI (Or.inr ⟨rfl, by omega, by omega⟩)).trans (Fr.sI (Or.inr ⟨rfl, by omega, by omega⟩))))
  have q0 : (nI d = 0) = False := eq_false fun z => d0 ((nI_eq (b := 0) (by omega) (by decide)).mp z)
  have q1 : (nI d = 1) = False := eq_false fun z => d1 ((nI_eq (b := 1) (by omega) (by decide)).mp z)
  have ecl : fX8_readNames y o (nI d) u = (fX6_takeToldName 8 (o + 2) (nI Z.2.1) u).bind fun q7 => fX8_readNames_38 y o (nI d) q7.1 q7.2 := by
    unfold fX8_readNames
    rw [o2]
    simp only [q0, q1, i10, i00, decide_true, decide_false, cnd_t, cnd_f, gd_nil, gd_t, b1_0, b1_1, sw_nil, sw_cons, obs]
  have emo : fX10_readYear (nI (125 + 3 * m)) (nI d) v = (fX10_takeTold 0 20 0 (sI v 13 (125 + 3 * m) (nI d))).bind fun q2 => fX10_readYear_39 (nI (125 + 3 * m)) (nI d) (nI (126 + 3 * m)) q2.1 q2.2 := by
    unfold fX10_readYear fX10_readYear_35
    simp (disch := first | omega | decide) only [q0, q1, i10, i00, decide_true, decide_false, cnd_t, cnd_f, gd_nil, gd_t, b1_0, b1_1, sw_nil, sw_cons, obs, nc_nI, ix_nI, nI_addo, n1]
  rw [ecl, emo]
  obtain ⟨k, u2, j1, j2, j3, j4, j5, -⟩ | ⟨f, v2, j1, j2, j3, j4⟩ := p_toldG0 hp6 hg8 hr1 hN1 o31 0 (fun _ k hk _ => mask0 k (by omega))
  · have nk1 : (nI k = -1) ↔ False := nI_nm1 (by omega)
    have e2 : u2.1 y 0 = nI m := by rw [j5.1 _ _ (by unfold dSu; omega)]; exact h0
    have e3 : u2.1 (y + 1) m = nI d := by rw [j5.1 _ _ (by unfold dSu; omega)]; exact h1
    rw [j2, j3]
    simp only [obs]
    have g2 : Fr (fun a _ => a = 13) (sI (sI v 13 (125 + 3 * m) (nI d)) 0 7 (nI (i + 1))) (sI (sI (sI v 13 (125 + 3 * m) (nI d)) 0 7 (nI (i + 1))) 13 (126 + 3 * m) (nI k)) := Fr.sI rfl
    have hr2 : pR n T (i + 1) u2 (sI (sI (sI v 13 (125 + 3 * m) (nI d)) 0 7 (nI (i + 1))) 13 (126 + 3 * m) (nI k)) := j4.fr (D := fun _ _ => False) Fr.rfl' g2 (fun a k z q => q) (fun a k z q => by unfold oPv at z; omega)
    have gT : Fr (dYv m) v (sI (sI (sI v 13 (125 + 3 * m) (nI d)) 0 7 (nI (i + 1))) 13 (126 + 3 * m) (nI k)) := g1'.trans ((Fr.sI (Or.inl ⟨rfl, Or.inl rfl⟩)).trans (Fr.sI (Or.inr ⟨rfl, by omega, by omega⟩)))
    by_cases d2 : d = 2
    · subst d2
      have hO2 : toR Z o u2 (sI (sI (sI v 13 (125 + 3 * m) (nI 2)) 0 7 (nI (i + 1))) 13 (126 + 3 * m) (nI k)) := hO1.fr (E := fun a k => a = 13 ∨ (a = 0 ∧ k = 7)) j5 ((Fr.sI (Or.inr ⟨rfl, rfl⟩)).trans (Fr.sI (Or.inl rfl))) (fun a k _ _ q => by unfold dSu at q; omega) (fun k => ⟨fun q => by omega, fun q => by omega⟩) (fun q => by omega)
      have em2 : fX10_readYear_39 (nI (125 + 3 * m)) (nI 2) (nI (126 + 3 * m)) (nI k) (sI (sI v 13 (125 + 3 * m) (nI 2)) 0 7 (nI (i + 1))) = (fX10_takeTold 0 20 ((1 : Int32) <<< (nI k &&& 31)) (sI (sI (sI v 13 (125 + 3 * m) (nI 2)) 0 7 (nI (i + 1))) 13 (126 + 3 * m) (nI k))).bind fun q1 => some ((), sI q1.2 13 (127 + 3 * m) q1.1) := by
        unfold fX10_readYear_39
        simp (disch := first | omega | decide) only [show (nI 2 = 2) = True from eq_true rfl, i10, i00, decide_true, decide_false, cnd_t, cnd_f, gd_nil, gd_t, b1_0, b1_1, sw_nil, sw_cons, obs, nc_nI, ix_nI, nI_addo, n1, n2, sI_at, and_self, if_true]
      rw [em2]
      have dd : ∀ a j, (dSv a j ∨ (a = 13 ∧ j = 127 + 3 * m)) → dYv m a j := fun a j z => z.elim Or.inl fun z => Or.inr ⟨z.1, by omega, by omega⟩
      obtain ⟨u3, v3, j, a1, a2, a3, a4, a5, a6, a7, a8, a9⟩ | ⟨f, u3, v3, a2, a3, a4, a5, a8, a9⟩ := y_second hr2 hy hm hO2 e2 j1
      · refine Or.inl ⟨u3, v3, i + 2, a2, a3, a4, by omega, Or.inr (Or.inr (Or.inl ⟨⟨?_, ?_⟩, k, j, j1, a1, a5, ?_, a6, a7⟩)), (j5.mono fun a k z => Or.inl z).trans a8, gT.trans (a9.mono dd)⟩
        · rw [a8.1 _ _ (by unfold dYu dSu; omega), e3]; rfl
        · rw [a9.1 _ _ (by unfold dSv; omega), sI_at, if_neg (by omega), sI_at, if_neg (by omega), sI_at, if_pos ⟨rfl, rfl⟩]; rfl
        · rw [a9.1 _ _ (by unfold dSv; omega), sI_at, if_pos ⟨rfl, by omega⟩]
      · exact Or.inr ⟨f, u3, v3, a2, a3, a4, a5, (j5.mono fun a k z => Or.inl z).trans a8, gT.trans (a9.mono dd)⟩
    · have d3 : d = 3 := by omega
      subst d3
      refine Or.inl ⟨sI u2 (y + 2) m (nI k), sI (sI (sI (sI v 13 (125 + 3 * m) (nI 3)) 0 7 (nI (i + 1))) 13 (126 + 3 * m) (nI k)) 13 (127 + 3 * m) 0, i + 1, ?_, ?_, ?_, Nat.le_succ i, ?_, ?_, ?_⟩
      · unfold fX8_readNames_38 fX8_readNames_64
        simp only [show (nI 3 = 2) = False from eq_false (by decide +kernel), i10, i00, decide_true, decide_false, cnd_t, cnd_f, gd_nil, gd_t, b1_0, b1_1, sw_nil, sw_cons, obs, e2, put_eq (show m < 40 by omega) (show 40 ≤ 1000 by decide), nk1]
      · unfold fX10_readYear_39
        simp (disch := first | omega | decide) only [show (nI 3 = 2) = False from eq_false (by decide +kernel), i10, i00, decide_true, decide_false, cnd_t, cnd_f, gd_nil, gd_t, b1_0, b1_1, sw_nil, sw_cons, obs, nc_nI, ix_nI, nI_addo, n1, n2]
      · exact hr2.fr (D := fun a _ => a = y + 2) (E := fun a _ => a = 13) (Fr.sI rfl) (Fr.sI rfl) (fun a k z q => by unfold oPu at z; omega) (fun a k z q => by unfold oPv at z; omega)
      · refine Or.inr (Or.inr (Or.inr ⟨⟨?_, ?_⟩, k, j1, ?_, ?_⟩))
        · rw [sI_at, if_neg (by omega), e3]; rfl
        · rw [sI_at, if_neg (by omega), sI_at, if_neg (by omega), sI_at, if_neg (by omega), sI_at, if_pos ⟨rfl, rfl⟩]; rfl
        · rw [sI_at, if_pos ⟨rfl, rfl⟩]
        · rw [sI_at, if_neg (by omega), sI_at, if_pos ⟨rfl, by omega⟩]
      · exact (j5.mono fun a k z => Or.inl z).trans (Fr.sI (Or.inr ⟨Or.inl rfl, rfl⟩))
      · exact gT.trans (Fr.sI (Or.inr ⟨rfl, by omega, by omega⟩))
  · have e2 : (sI u 1 10 (nI f)).1 y 0 = nI m := by rw [sI_at, if_neg (by omega)]; exact h0
    rw [j1, j2]
    simp only [obs]
    have jT : Fr (dYv m) v (sI v2 13 (126 + 3 * m) 0) := g1'.trans ((j4.mono fun a k z => Or.inl z).trans (Fr.sI (Or.inr ⟨rfl, by omega, by omega⟩)))
    have j3' : mF f (sI v2 13 (126 + 3 * m) 0) := by
      unfold mF
      rw [sI_at, if_neg (by omega)]
      exact j3
    have ec : fX8_readNames_38 y o (nI d) (-1) (sI u 1 10 (nI f)) = some (0, sI (sI u 1 10 (nI f)) (y + 2) m (-1)) := by
      unfold fX8_readNames_38 fX8_readNames_64
      simp only [i10, i00, decide_true, decide_false, cnd_t, cnd_f, gd_nil, gd_t, b1_0, b1_1, sw_nil, sw_cons, obs, e2, put_eq (show m < 40 by omega) (show 40 ≤ 1000 by decide)]
    have eu : (sI (sI u 1 10 (nI f)) (y + 2) m (-1)).1 1 10 = nI f := by rw [sI_at, if_neg (by omega), sI_at, if_pos ⟨rfl, rfl⟩]
    have fu' : Fr (dYu y m) u (sI (sI u 1 10 (nI f)) (y + 2) m (-1)) := (Fr.sI (Or.inl ⟨rfl, by decide, by decide⟩)).trans (Fr.sI (Or.inr ⟨Or.inl rfl, rfl⟩))
    by_cases d2 : d = 2
    · subst d2
      obtain ⟨v3, b1, b2, b3⟩ := mF_takeTold j3' 0 20 ((1 : Int32) <<< ((0 : Int32) &&& 31))
      refine Or.inr ⟨f, _, sI v3 13 (127 + 3 * m) 0, ec, ?_, eu, ?_, fu', jT.trans ((b3.mono fun a k z => Or.inl z).trans (Fr.sI (Or.inr ⟨rfl, by omega, by omega⟩)))⟩
      · unfold fX10_readYear_39
        simp (disch := first | omega | decide) only [show (nI 2 = 2) = True from eq_true rfl, i10, i00, decide_true, decide_false, cnd_t, cnd_f, gd_nil, gd_t, b1_0, b1_1, sw_nil, sw_cons, obs, nc_nI, ix_nI, nI_addo, n1, n2, sI_at, and_self, if_true, b1]
      · unfold mF
        rw [sI_at, if_neg (by omega)]
        exact b2
    · have d3 : d = 3 := by omega
      subst d3
      refine Or.inr ⟨f, _, sI (sI v2 13 (126 + 3 * m) 0) 13 (127 + 3 * m) 0, ec, ?_, eu, ?_, fu', jT.trans (Fr.sI (Or.inr ⟨rfl, by omega, by omega⟩))⟩
      · unfold fX10_readYear_39
        simp (disch := first | omega | decide) only [show (nI 3 = 2) = False from eq_false (by decide +kernel), i10, i00, decide_true, decide_false, cnd_t, cnd_f, gd_nil, gd_t, b1_0, b1_1, sw_nil, sw_cons, obs, nc_nI, ix_nI, nI_addo, n1, n2]
      · unfold mF
        rw [sI_at, if_neg (by omega)]
        exact j3'
end PU
