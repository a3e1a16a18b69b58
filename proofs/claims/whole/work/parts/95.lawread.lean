/-! the law: its code, read on both sides -/
def cP (c : Int32) : Prop := c = -1 ∨ c = -2 ∨ c = -3 ∨ c = -4 ∨ ∃ m, m < 10000 ∧ c = nI m
def cB (c : Int32) : Prop := c = -6 ∨ c = -7 ∨ c = -8 ∨ c = -9 ∨ c = -10 ∨ c = -11 ∨ c = -12
def okc : List Int32 → Nat → Nat → Prop
  | [], h, h' => h = h'
  | c :: cs, h, h' => (cP c ∧ h < 32 ∧ okc cs (h + 1) h') ∨ (c = -5 ∧ 1 ≤ h ∧ okc cs h h') ∨ (cB c ∧ 2 ≤ h ∧ okc cs (h - 1) h')
theorem okc_app : ∀ (a b : List Int32) (h m h' : Nat), okc a h m → okc b m h' → okc (a ++ b) h h'
  | [], b, h, m, h', x, y => by
    have e : h = m := x
    subst e
    exact y
  | c :: cs, b, h, m, h', x, y => by
    obtain ⟨x1, x2, x3⟩ | ⟨x1, x2, x3⟩ | ⟨x1, x2, x3⟩ := x
    · exact Or.inl ⟨x1, x2, okc_app cs b _ m h' x3 y⟩
    · exact Or.inr (Or.inl ⟨x1, x2, okc_app cs b _ m h' x3 y⟩)
    · exact Or.inr (Or.inr ⟨x1, x2, okc_app cs b _ m h' x3 y⟩)
def sgm (D : Nat) (cs : List Int32) : Prop := ∀ h, h + D ≤ 32 → okc cs h (h + 1)
theorem sgm.mono {D D' : Nat} {cs : List Int32} (h : sgm D cs) (hd : D ≤ D') : sgm D' cs := fun k hk => h k (by omega)
theorem sgm_one {c : Int32} (h : cP c) {D : Nat} (hD : 1 ≤ D) : sgm D [c] := fun k hk => Or.inl ⟨h, by omega, rfl⟩
theorem sgm_not {D : Nat} {cs : List Int32} (h : sgm D cs) : sgm D (cs ++ [-5]) := fun k hk => okc_app cs [-5] k (k + 1) (k + 1) (h k hk) (Or.inr (Or.inl ⟨rfl, by omega, rfl⟩))
theorem sgm_bin {D : Nat} {a b : List Int32} {c : Int32} (ha : sgm (D + 1) a) (hb : sgm D b) (hc : cB c) : sgm (D + 1) (a ++ (b ++ [c])) := fun k hk => okc_app a _ k (k + 1) (k + 1) (ha k hk) (okc_app b [c] (k + 1) (k + 2) (k + 1) (hb (k + 1) (by omega)) (Or.inr (Or.inr ⟨hc, by omega, rfl⟩)))
-- the class's part, the reference's two numbers
def cE (c x y : Int32) : Prop := (c = -1 ∧ x = 2 ∧ y = 0) ∨ (c = -2 ∧ x = 2 ∧ y = 1) ∨ (c = -3 ∧ x = 2 ∧ y = 2) ∨ (c = -4 ∧ x = 2 ∧ y = 3) ∨ (c = -5 ∧ x = 3 ∧ y = 0) ∨ (c = -6 ∧ x = 9 ∧ y = 0) ∨ (c = -7 ∧ x = 10 ∧ y = 0) ∨ (c = -8 ∧ x = 7 ∧ y = 0) ∨ (c = -9 ∧ x = 8 ∧ y = 0) ∨ (c = -10 ∧ x = 4 ∧ y = 0) ∨ (c = -11 ∧ x = 5 ∧ y = 0) ∨ (c = -12 ∧ x = 6 ∧ y = 0) ∨ (∃ m, m < 10000 ∧ c = nI m ∧ x = 1 ∧ y = nI m)
def dLu (q a k : Nat) : Prop := dSu a k ∨ a = q ∨ a = q + 1
def dLv (a k : Nat) : Prop := dSv a k ∨ (a = 0 ∧ k = 13) ∨ ((a = 7 ∨ a = 8) ∧ 1100 ≤ k)
def lwR (cs : List Int32) (q : Nat) (u v : ab_S) : Prop := u.1 q 1 = nI cs.length ∧ v.1 0 13 = nI cs.length ∧ ∀ i, i < cs.length → u.1 (q + 1) i = cs.getD i 0 ∧ cE (cs.getD i 0) (v.1 7 (1100 + i)) (v.1 8 (1100 + i))
theorem c_add {u : ab_S} {q m : Nat} (h : u.1 q 1 = nI m) (hm : m < 1000) (c : Int32) : fX1_add q c u = some ((), sI (sI u (q + 1) m c) q 1 (nI (m + 1))) := by
  have e : (sI u (q + 1) m c).1 q 1 = nI m := by rw [sI_at, if_neg (by omega)]; exact h
  unfold fX1_add
  rw [h]
  simp (disch := first | omega | decide) only [i10, i00, decide_true, decide_false, cnd_t, cnd_f, gd_nil, gd_t, b1_0, b1_1, sw_nil, sw_cons, obs, Nat.not_lt_zero, nI_addo, nI_oadd, nI_add, nI_mulo, nI_omul, nI_mul, nI_lto, nI_leo, nI_olt, nI_ole, nI_eqo, nI_oeq, nI_lt2, nI_le2, nI_eq2, nI_nm1, nI_m1n, nI_lt0, nI_lem1, nc_nI, nc_o, ix_nI, ix_o, hm, e]
theorem m_emit {v : ab_S} {m : Nat} (h : v.1 0 13 = nI m) (hm : m < 1090) (x y : Int32) : fX10_emit x y v = some ((), sI (sI (sI v 7 (1100 + m) x) 8 (1100 + m) y) 0 13 (nI (m + 1))) := by
  unfold fX10_emit
  simp (disch := first | omega | decide) only [sI_at, sI_l, sJ_at, sJ_i, sJ_m, sM_at, sM_i, sM_l, Nat.reduceEqDiff, false_and, and_false, true_and, and_true, and_self, if_false, if_true, ite_false, ite_true, i10, i00, decide_true, decide_false, cnd_t, cnd_f, gd_nil, gd_t, b1_0, b1_1, sw_nil, sw_cons, obs, Nat.not_lt_zero, nI_addo, nI_oadd, nI_add, nI_mulo, nI_omul, nI_mul, nI_lto, nI_leo, nI_olt, nI_ole, nI_eqo, nI_oeq, nI_lt2, nI_le2, nI_eq2, nI_nm1, nI_m1n, nI_lt0, nI_lem1, nc_nI, nc_o, ix_nI, ix_o, h]
section PU
variable {u v u' v' : ab_S} {n T i q : Nat} {cs ds : List Int32}
theorem lwR.fr {D E : Nat → Nat → Prop} (h : lwR cs q u v) (f : Fr D u u') (g : Fr E v v') (hd : ∀ k, ¬ D q k ∧ ¬ D (q + 1) k) (he : ∀ k, ¬ E 7 (1100 + k) ∧ ¬ E 8 (1100 + k)) (he2 : ¬ E 0 13) : lwR cs q u' v' := by
  obtain ⟨h1, h2, h3⟩ := h
  refine ⟨(f.1 _ _ (hd 1).1).trans h1, (g.1 _ _ he2).trans h2, fun i hi => ?_⟩
  rw [f.1 _ _ (hd i).2, g.1 _ _ (he i).1, g.1 _ _ (he i).2]
  exact h3 i hi
theorem lwR.sv (h : lwR cs q u v) (hq : 14 ≤ q) (f : Fr dSu u u') (g : Fr dSv v v') : lwR cs q u' v' := h.fr f g (fun k => ⟨fun z => by unfold dSu at z; omega, fun z => by unfold dSu at z; omega⟩) (fun k => ⟨fun z => by unfold dSv at z; omega, fun z => by unfold dSv at z; omega⟩) (fun z => by unfold dSv at z; omega)
theorem getD_push {a : List Int32} {c : Int32} {i : Nat} (hi : i < a.length + 1) : (a ++ [c]).getD i 0 = if i = a.length then c else a.getD i 0 := by
  by_cases e : i = a.length
  · subst e
    rw [if_pos rfl, List.getD_eq_getElem?_getD, List.getElem?_append_right (Nat.le_refl _), Nat.sub_self]
    rfl
  · rw [if_neg e, List.getD_eq_getElem?_getD, List.getElem?_append_left (by omega), List.getD_eq_getElem?_getD]
theorem lwR.push (h : lwR cs q u v) {c x y : Int32} (hc : cE c x y) : lwR (cs ++ [c]) q (sI (sI u (q + 1) cs.length c) q 1 (nI (cs.length + 1))) (sI (sI (sI v 7 (1100 + cs.length) x) 8 (1100 + cs.length) y) 0 13 (nI (cs.length + 1))) := by
  obtain ⟨h1, h2, h3⟩ := h
  have el : (cs ++ [c]).length = cs.length + 1 := by rw [List.length_append, List.length_singleton]
  refine ⟨?_, ?_, fun i hi => ?_⟩
  · rw [el, sI_at, if_pos ⟨rfl, rfl⟩]
  · rw [el, sI_at, if_pos ⟨rfl, rfl⟩]
  · rw [el] at hi
    rw [getD_push hi]
    by_cases e : i = cs.length
    · subst e
      rw [if_pos rfl, sI_at, if_neg (by omega), sI_at, if_pos ⟨rfl, rfl⟩, sI_at, if_neg (by omega), sI_at, if_neg (by omega), sI_at, if_pos ⟨rfl, rfl⟩, sI_at, if_neg (by omega), sI_at, if_pos ⟨rfl, rfl⟩]
      exact ⟨rfl, hc⟩
    · rw [if_neg e, sI_at, if_neg (by omega), sI_at, if_neg (by omega), sI_at, if_neg (by omega), sI_at, if_neg (by omega), sI_at, if_neg (by omega), sI_at, if_neg (by omega), sI_at, if_neg (by omega), sI_at, if_neg (by omega)]
      exact h3 i (by omega)
theorem add_fr {m : Nat} {c x : Int32} : Fr (dLu q) u (sI (sI u (q + 1) m c) q 1 x) := Fr.trans (D := dLu q) (Fr.sI (Or.inr (Or.inr rfl))) (Fr.sI (Or.inr (Or.inl rfl)))
theorem emit_fr {m : Nat} {x y z : Int32} : Fr dLv v (sI (sI (sI v 7 (1100 + m) x) 8 (1100 + m) y) 0 13 z) := Fr.trans (D := dLv) (Fr.sI (Or.inr (Or.inr ⟨Or.inl rfl, Nat.le_add_right _ _⟩))) (Fr.trans (D := dLv) (Fr.sI (Or.inr (Or.inr ⟨Or.inr rfl, Nat.le_add_right _ _⟩))) (Fr.sI (Or.inr (Or.inl ⟨rfl, rfl⟩))))
theorem su_L : ∀ a k, dSu a k → dLu q a k := fun _ _ z => Or.inl z
theorem sv_L : ∀ a k, dSv a k → dLv a k := fun _ _ z => Or.inl z
theorem pR.law (h : pR n T i u v) (hq : 14 ≤ q) (f : Fr (fun a k => a = q ∨ a = q + 1) u u') (g : Fr (fun a k => (a = 0 ∧ k = 13) ∨ a = 7 ∨ a = 8) v v') : pR n T i u' v' := h.fr f g (fun a k z z2 => by unfold oPu at z; omega) (fun a k z z2 => by unfold oPv at z; omega)
theorem pR.push (h : pR n T i u v) (hq : 14 ≤ q) {m m' : Nat} {c x y a b : Int32} : pR n T i (sI (sI u (q + 1) m c) q 1 a) (sI (sI (sI v 7 (1100 + m') x) 8 (1100 + m') y) 0 13 b) := h.law hq (Fr.trans (D := fun a k => a = q ∨ a = q + 1) (Fr.sI (Or.inr rfl)) (Fr.sI (Or.inl rfl))) (Fr.trans (D := fun a k => (a = 0 ∧ k = 13) ∨ a = 7 ∨ a = 8) (Fr.sI (Or.inr (Or.inl rfl))) (Fr.trans (D := fun a k => (a = 0 ∧ k = 13) ∨ a = 7 ∨ a = 8) (Fr.sI (Or.inr (Or.inr rfl))) (Fr.sI (Or.inl ⟨rfl, rfl⟩))))
theorem mF.emit {f m : Nat} {x y z : Int32} (h : mF f v) : mF f (sI (sI (sI v 7 m x) 8 m y) 0 13 z) := by
  unfold mF
  simp only [sI_at, sI_l, sJ_at, sJ_i, sJ_m, sM_at, sM_i, sM_l, Nat.reduceEqDiff, false_and, and_false, true_and, and_true, and_self, if_false, if_true, ite_false, ite_true]
  exact h
end PU
-- what comes out of a piece of the law: y the class's answer, z the reference's
def lwO (n T i q D X : Nat) (cs : List Int32) (y : Option (Int32 × ab_S)) (z : Option (Unit × ab_S)) (u v : ab_S) : Prop := (∃ u' v' i' ds, i + ds.length ≤ i' ∧ i < i' ∧ y = some (1, u') ∧ z = some ((), v') ∧ pR n T i' u' v' ∧ lwR (cs ++ ds) q u' v' ∧ sgm D ds ∧ Fr (dLu q) u u' ∧ Fr dLv v v') ∨ (∃ f u' v' c, y = some (0, u') ∧ z = some ((), v') ∧ u'.1 1 10 = nI f ∧ mF f v' ∧ v'.1 0 13 = nI c ∧ c ≤ 1000 + X ∧ Fr (dLu q) u u' ∧ Fr dLv v v')
def lwJ (n T q D X : Nat) (Y : ab_S → Option (Int32 × ab_S)) (Zf : ab_S → Option (Unit × ab_S)) : Prop := ∀ u v i cs, pR n T i u v → lwR cs q u v → cs.length ≤ i → lwO n T i q D X cs (Y u) (Zf v) u v
-- an operator of a level, as both sides see it
def opU (n T lv : Nat) (Zf : ab_S → Option (Unit × ab_S)) (L : Nat → ab_S → Option (Unit × ab_S)) : Prop := ∀ m i u v, pR n T i u v → (∃ c x, cB c ∧ ¬ c = 0 ∧ fX1_operatorAt (nI lv) u = some (c, u) ∧ cE c x 0 ∧ u.1 1 7 ≠ 0 ∧ L (m + 1) v = (Zf (sI v 0 7 (nI (i + 1)))).bind fun r => (fX10_emit x 0 r.2).bind fun s => L m s.2) ∨ (fX1_operatorAt (nI lv) u = some (0, u) ∧ (L (m + 1) v = some ((), v) ∨ L (m + 1) v = some ((), sI v 0 7 (nI i))))
def opF (L : Nat → ab_S → Option (Unit × ab_S)) : Prop := ∀ m f v, mF f v → ∃ v', L (m + 1) v = some ((), v') ∧ mF f v' ∧ Fr dSv v v'
theorem lv_loop {n T q D X lv : Nat} {w : Int32} {R1 : Nat → Int32 → Int32 → ab_S → Option (Int32 × ab_S)} {R2 R3 R4 : Nat → Int32 → ab_S → Option (Int32 × ab_S)} {Zf : ab_S → Option (Unit × ab_S)} {L : Nat → ab_S → Option (Unit × ab_S)} (hq : 14 ≤ q) (hl1 : lv ≠ 1) (hl4 : lv < 4) (hX : X < 80) (hT : T ≤ 1000) (hY : lwJ n T q D X (fun u => R1 q (nI (lv + 1)) w u) Zf) (hU : opU n T lv Zf L) (hF : opF L) (cs : List Int32) (i0 : Nat) (hc : cs.length ≤ i0) : ∀ d i N M c ds u v, T - i ≤ d → d < N → d + 1 < M → pR n T i u v → lwR (cs ++ ds) q u v → i0 < i → i0 + ds.length ≤ i → sgm (D + 1) ds → c ≤ i → lwO n T i0 q (D + 1) (X + 1) cs (fX1_readLevel_29 R1 R2 R3 R4 q N (nI lv) w (nI c) u) (L M v) u v := by
  intro d
  induction d with
  | zero =>
    intro i N M c ds u v hd hN hM h hL h0 h1 hs hci
    obtain ⟨N, rfl⟩ : ∃ m, N = m + 1 := ⟨N - 1, by omega⟩
    obtain ⟨M, rfl⟩ : ∃ m, M = m + 1 := ⟨M - 1, by omega⟩
    have hiT : i = T := by have := h.2.2.1; omega
    obtain ⟨c1, x, b1, b2, b3, b4, b5, b6⟩ | ⟨b1, b2⟩ := hU M i u v h
    · exact absurd (h.lt b5) (by omega)
    · rw [fX1_readLevel_29]
      have er : (bif decide (nI c < 1000) then ((fX1_operatorAt (nI lv) u).bind fun q1 => bif decide (q1.1 = 0) then (ab_gd [ab_b1 1] (some (1, q1.2))) else ((fX6_step q1.2).bind fun q2 => (R1 q (nI lv + 1) w q2.2).bind fun q3 => bif decide (q3.1 = 0) then (ab_gd [ab_b1 0] (some (0, q3.2))) else ((fX1_add q q1.1 q3.2).bind fun q4 => bif decide (nI lv = 1) then (ab_gd [ab_b1 1] (some (1, q4.2))) else ((fX1_readLevel_29 R1 R2 R3 R4 q N) (nI lv) w (nI c + 1) q4.2)))) else (ab_gd [ab_b1 1] (some (1, u)))) = some (1, u) := by
        by_cases e : nI c < 1000
        · simp only [e, i10, i00, decide_true, decide_false, cnd_t, cnd_f, gd_nil, gd_t, b1_0, b1_1, sw_nil, sw_cons, obs, b1]
        · simp only [e, i10, i00, decide_true, decide_false, cnd_t, cnd_f, gd_nil, gd_t, b1_0, b1_1, sw_nil, sw_cons, obs]
      rw [er]
      obtain b2 | b2 := b2
      · exact Or.inl ⟨u, v, i, ds, h1, h0, rfl, b2, h, hL, hs, Fr.rfl', Fr.rfl'⟩
      · have g : Fr dSv v (sI v 0 7 (nI i)) := Fr.sI ⟨rfl, Or.inl rfl⟩
        exact Or.inl ⟨u, _, i, ds, h1, h0, rfl, b2, h.same, hL.sv hq Fr.rfl' g, hs, Fr.rfl', g.mono sv_L⟩
  | succ d ih =>
    intro i N M c ds u v hd hN hM h hL h0 h1 hs hci
    obtain ⟨N, rfl⟩ : ∃ m, N = m + 1 := ⟨N - 1, by omega⟩
    obtain ⟨M, rfl⟩ : ∃ m, M = m + 1 := ⟨M - 1, by omega⟩
    rw [fX1_readLevel_29]
    obtain ⟨c1, x, b1, b2, b3, b4, b5, b6⟩ | ⟨b1, b2⟩ := hU M i u v h
    · have hiT := h.lt b5
      obtain ⟨u1, s1, s2, s3⟩ := p_step h b5
      have g1 : Fr dSv v (sI v 0 7 (nI (i + 1))) := Fr.sI ⟨rfl, Or.inl rfl⟩
      have hL1 := hL.sv hq s3 g1
      have lt : nI c < 1000 := show nI c < nI 1000 from (nI_ltI (by omega) (by decide)).mpr (by omega)
      have e1 : nI lv + 1 = nI (lv + 1) := nI_1 lv
      have e2 : (nI lv = 1) = False := eq_false fun z => by
        have := (nI_eq (b := 1) (show lv < 2 ^ 31 by omega) (by decide)).mp z
        omega
      have e3 : nI c + 1 = nI (c + 1) := nI_1 c
      rw [b6]
      have hlen : (cs ++ ds).length ≤ i := by rw [List.length_append]; omega
      obtain ⟨u2, v2, i2, es, a1, a2, a3, a4, a5, a6, a7, a8, a9⟩ | ⟨f, u2, v2, k, a1, a2, a3, a4, a5, a6, a7, a8⟩ := hY u1 _ (i + 1) (cs ++ ds) s2 hL1 (by omega)
      · have a3' : R1 q (nI (lv + 1)) w u1 = some (1, u2) := a3
        have hi2 := a5.2.2.1
        have hlen2 : (cs ++ ds ++ es).length + 1 ≤ i2 := by rw [List.length_append]; omega
        have eA := c_add a6.1 (by omega) c1
        have eM := m_emit a6.2.1 (by omega) x 0
        have hp := a6.push b4
        have hR := a5.push hq (m := (cs ++ ds ++ es).length) (m' := (cs ++ ds ++ es).length) (c := c1) (x := x) (y := 0) (a := nI ((cs ++ ds ++ es).length + 1)) (b := nI ((cs ++ ds ++ es).length + 1))
        have ec : cs ++ ds ++ es ++ [c1] = cs ++ (ds ++ (es ++ [c1])) := by simp only [List.append_assoc]
        rw [ec] at hp
        have elen : (ds ++ (es ++ [c1])).length = ds.length + es.length + 1 := by simp only [List.length_append, List.length_singleton]; omega
        have r := ih i2 N M (c + 1) (ds ++ (es ++ [c1])) _ _ (by omega) (by omega) (by omega) hR hp (by omega) (by rw [elen]; omega) (sgm_bin hs a7 b1) (by omega)
        have fU : Fr (dLu q) u (sI (sI u2 (q + 1) (cs ++ ds ++ es).length c1) q 1 (nI ((cs ++ ds ++ es).length + 1))) := (s3.mono su_L).trans (a8.trans add_fr)
        have fV : Fr dLv v (sI (sI (sI v2 7 (1100 + (cs ++ ds ++ es).length) x) 8 (1100 + (cs ++ ds ++ es).length) 0) 0 13 (nI ((cs ++ ds ++ es).length + 1))) := (g1.mono sv_L).trans (a9.trans emit_fr)
        rw [a4]
        simp only [lt, i10, i00, decide_true, decide_false, cnd_t, cnd_f, gd_nil, gd_t, b1_0, b1_1, sw_nil, sw_cons, obs, b3, b2, s1, e1, a3', eA, eM, e2, e3]
        obtain ⟨u3, v3, i3, fs, z1, z2, z3, z4, z5, z6, z7, z8, z9⟩ | ⟨f, u3, v3, k, z1, z2, z3, z4, z5, z6, z7, z8⟩ := r
        · exact Or.inl ⟨u3, v3, i3, fs, z1, z2, z3, z4, z5, z6, z7, fU.trans z8, fV.trans z9⟩
        · exact Or.inr ⟨f, u3, v3, k, z1, z2, z3, z4, z5, z6, fU.trans z7, fV.trans z8⟩
      · have a1' : R1 q (nI (lv + 1)) w u1 = some (0, u2) := a1
        have eM := m_emit a5 (by omega) x 0
        obtain ⟨M, rfl⟩ : ∃ m, M = m + 1 := ⟨M - 1, by omega⟩
        obtain ⟨v3, y1, y2, y3⟩ := hF M f _ (a4.emit (m := 1100 + k) (x := x) (y := 0) (z := nI (k + 1)))
        refine Or.inr ⟨f, u2, v3, k + 1, ?_, ?_, a3, y2, ?_, by omega, (s3.mono su_L).trans a7, (g1.mono sv_L).trans (a8.trans (emit_fr.trans (y3.mono sv_L)))⟩
        · simp only [lt, i10, i00, decide_true, decide_false, cnd_t, cnd_f, gd_nil, gd_t, b1_0, b1_1, sw_nil, sw_cons, obs, b3, b2, s1, e1, a1']
        · rw [a2]
          simp only [obs, eM]
          exact y1
        · rw [y3.1 _ _ (by unfold dSv; omega), sI_at, if_pos ⟨rfl, rfl⟩]
    · have er : (bif decide (nI c < 1000) then ((fX1_operatorAt (nI lv) u).bind fun q1 => bif decide (q1.1 = 0) then (ab_gd [ab_b1 1] (some (1, q1.2))) else ((fX6_step q1.2).bind fun q2 => (R1 q (nI lv + 1) w q2.2).bind fun q3 => bif decide (q3.1 = 0) then (ab_gd [ab_b1 0] (some (0, q3.2))) else ((fX1_add q q1.1 q3.2).bind fun q4 => bif decide (nI lv = 1) then (ab_gd [ab_b1 1] (some (1, q4.2))) else ((fX1_readLevel_29 R1 R2 R3 R4 q N) (nI lv) w (nI c + 1) q4.2)))) else (ab_gd [ab_b1 1] (some (1, u)))) = some (1, u) := by
        by_cases e : nI c < 1000
        · simp only [e, i10, i00, decide_true, decide_false, cnd_t, cnd_f, gd_nil, gd_t, b1_0, b1_1, sw_nil, sw_cons, obs, b1]
        · simp only [e, i10, i00, decide_true, decide_false, cnd_t, cnd_f, gd_nil, gd_t, b1_0, b1_1, sw_nil, sw_cons, obs]
      rw [er]
      obtain b2 | b2 := b2
      · exact Or.inl ⟨u, v, i, ds, h1, h0, rfl, b2, h, hL, hs, Fr.rfl', Fr.rfl'⟩
      · have g : Fr dSv v (sI v 0 7 (nI i)) := Fr.sI ⟨rfl, Or.inl rfl⟩
        exact Or.inl ⟨u, _, i, ds, h1, h0, rfl, b2, h.same, hL.sv hq Fr.rfl' g, hs, Fr.rfl', g.mono sv_L⟩
-- a level whose operators may follow each other
theorem lv_level {n T q D X lv : Nat} {w : Int32} {R1 : Nat → Int32 → Int32 → ab_S → Option (Int32 × ab_S)} {R2 R3 R4 : Nat → Int32 → ab_S → Option (Int32 × ab_S)} {Zf : ab_S → Option (Unit × ab_S)} {L : Nat → ab_S → Option (Unit × ab_S)} (hq : 14 ≤ q) (hl1 : lv ≠ 1) (hl4 : lv < 4) (hX : X < 80) (hT : T ≤ 1000) (hY : lwJ n T q D X (fun u => R1 q (nI (lv + 1)) w u) Zf) (hU : opU n T lv Zf L) (hF : opF L) : lwJ n T q (D + 1) (X + 1) (fun u => fX1_readLevel R1 R2 R3 R4 q (nI lv) w u) (fun v => (Zf v).bind fun r => L fu r.2) := by
  intro u v i cs h hL hc
  have e1 : nI lv + 1 = nI (lv + 1) := nI_1 lv
  have e3 : (nI lv ≤ 3) = True := eq_true (show nI lv ≤ nI 3 from (nI_leI (by omega) (by decide)).mpr (by omega))
  show lwO n T i q (D + 1) (X + 1) cs (fX1_readLevel R1 R2 R3 R4 q (nI lv) w u) ((Zf v).bind fun r => L fu r.2) u v
  unfold fX1_readLevel
  obtain ⟨u2, v2, i2, es, a1, a2, a3, a4, a5, a6, a7, a8, a9⟩ | ⟨f, u2, v2, k, a1, a2, a3, a4, a5, a6, a7, a8⟩ := hY u v i cs h hL hc
  · have a3' : R1 q (nI (lv + 1)) w u = some (1, u2) := a3
    have r := lv_loop (R2 := R2) (R3 := R3) (R4 := R4) hq hl1 hl4 hX hT hY hU hF cs i hc T i2 fu fu 0 es u2 v2 (by omega) (show T < 5000 by omega) (show T + 1 < 5000 by omega) a5 a6 a2 a1 (a7.mono (by omega)) (Nat.zero_le _)
    rw [a4]
    simp only [e3, i10, i00, decide_true, decide_false, cnd_t, cnd_f, gd_nil, gd_t, b1_0, b1_1, sw_nil, sw_cons, obs, e1, a3']
    obtain ⟨u3, v3, i3, fs, z1, z2, z3, z4, z5, z6, z7, z8, z9⟩ | ⟨f, u3, v3, k, z1, z2, z3, z4, z5, z6, z7, z8⟩ := r
    · exact Or.inl ⟨u3, v3, i3, fs, z1, z2, z3, z4, z5, z6, z7, a8.trans z8, a9.trans z9⟩
    · exact Or.inr ⟨f, u3, v3, k, z1, z2, z3, z4, z5, z6, a8.trans z7, a9.trans z8⟩
  · have a1' : R1 q (nI (lv + 1)) w u = some (0, u2) := a1
    obtain ⟨v3, y1, y2, y3⟩ := hF 4999 f v2 a4
    have y1' : L fu v2 = some ((), v3) := y1
    refine Or.inr ⟨f, u2, v3, k, ?_, ?_, a3, y2, ?_, by omega, a7, a8.trans (y3.mono sv_L)⟩
    · simp only [e3, i10, i00, decide_true, decide_false, cnd_t, cnd_f, gd_nil, gd_t, b1_0, b1_1, sw_nil, sw_cons, obs, e1, a1']
    · rw [a2]
      simp only [obs]
      exact y1'
    · rw [y3.1 _ _ (by unfold dSv; omega)]
      exact a5
