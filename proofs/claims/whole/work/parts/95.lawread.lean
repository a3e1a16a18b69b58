/-! the law: its code, read on both sides -/
def cP (c : Int32) : Prop := c = -1 ∨ c = -2 ∨ c = -3 ∨ c = -4 ∨ ∃ m, m < 10000 ∧ c = nI m
def cB (c : Int32) : Prop := c = -6 ∨ c = -7 ∨ c = -8 ∨ c = -9 ∨ c = -10 ∨ c = -11 ∨ c = -12
def okc : List Int32 → Nat → Nat → Prop
  | [], h, h' => h = h'
  | c :: cs, h, h' => (cP c ∧ h < 32 ∧ okc cs (h + 1) h') ∨ (c = -5 ∧ 1 ≤ h ∧ okc cs h h') ∨ (cB c ∧ 2 ≤ h ∧ okc cs (h - 1) h')
theorem okc_app : ∀ (a b : List Int32) (h m h' : Nat), okc a h m → okc b m h' → okc (a ++ b) h h'
  | [], b, h, m, h', x, y => by
    have e : h = m := x
    subst e
    exact y
  | c :: cs, b, h, m, h', x, y => by
    obtain ⟨x1, x2, x3⟩ | ⟨x1, x2, x3⟩ | ⟨x1, x2, x3⟩ := x
    · exact Or.inl ⟨x1, x2, okc_app cs b _ m h' x3 y⟩
    · exact Or.inr (Or.inl ⟨x1, x2, okc_app cs b _ m h' x3 y⟩)
    · exact Or.inr (Or.inr ⟨x1, x2, okc_app cs b _ m h' x3 y⟩)
def sgm (D : Nat) (cs : List Int32) : Prop := ∀ h, h + D ≤ 32 → okc cs h (h + 1)
theorem sgm.mono {D D' : Nat} {cs : List Int32} (h : sgm D cs) (hd : D ≤ D') : sgm D' cs := fun k hk => h k (by omega)
theorem sgm_one {c : Int32} (h : cP c) {D : Nat} (hD : 1 ≤ D) : sgm D [c] := fun k hk => Or.inl ⟨h, by omega, rfl⟩
theorem sgm_not {D : Nat} {cs : List Int32} (h : sgm D cs) : sgm D (cs ++ [-5]) := fun k hk => okc_app cs [-5] k (k + 1) (k + 1) (h k hk) (Or.inr (Or.inl ⟨rfl, by omega, rfl⟩))
theorem sgm_bin {D : Nat} {a b : List Int32} {c : Int32} (ha : sgm (D + 1) a) (hb : sgm D b) (hc : cB c) : sgm (D + 1) (a ++ (b ++ [c])) := fun k hk => okc_app a _ k (k + 1) (k + 1) (ha k hk) (okc_app b [c] (k + 1) (k + 2) (k + 1) (hb (k + 1) (by omega)) (Or.inr (Or.inr ⟨hc, by omega, rfl⟩)))
-- the class's part, the reference's two numbers
def cE (c x y : Int32) : Prop := (c = -1 ∧ x = 2 ∧ y = 0) ∨ (c = -2 ∧ x = 2 ∧ y = 1) ∨ (c = -3 ∧ x = 2 ∧ y = 2) ∨ (c = -4 ∧ x = 2 ∧ y = 3) ∨ (c = -5 ∧ x = 3 ∧ y = 0) ∨ (c = -6 ∧ x = 9 ∧ y = 0) ∨ (c = -7 ∧ x = 10 ∧ y = 0) ∨ (c = -8 ∧ x = 7 ∧ y = 0) ∨ (c = -9 ∧ x = 8 ∧ y = 0) ∨ (c = -10 ∧ x = 4 ∧ y = 0) ∨ (c = -11 ∧ x = 5 ∧ y = 0) ∨ (c = -12 ∧ x = 6 ∧ y = 0) ∨ (∃ m, m < 10000 ∧ c = nI m ∧ x = 1 ∧ y = nI m)
def dLu (q a k : Nat) : Prop := dSu a k ∨ a = q ∨ a = q + 1
def dLv (a k : Nat) : Prop := dSv a k ∨ (a = 0 ∧ k = 13) ∨ ((a = 7 ∨ a = 8) ∧ 1100 ≤ k)
def lwR (cs : List Int32) (q : Nat) (u v : ab_S) : Prop := u.1 q 1 = nI cs.length ∧ v.1 0 13 = nI cs.length ∧ ∀ i, i < cs.length → u.1 (q + 1) i = cs.getD i 0 ∧ cE (cs.getD i 0) (v.1 7 (1100 + i)) (v.1 8 (1100 + i))
theorem c_add {u : ab_S} {q m : Nat} (h : u.1 q 1 = nI m) (hm : m < 1000) (c : Int32) : fX1_add q c u = some ((), sI (sI u (q + 1) m c) q 1 (nI (m + 1))) := by
  have e : (sI u (q + 1) m c).1 q 1 = nI m := by rw [sI_at, if_neg (by omega)]; exact h
  unfold fX1_add
  rw [h]
  simp (disch := first | omega | decide) only [i10, i00, decide_true, decide_false, cnd_t, cnd_f, gd_nil, gd_t, b1_0, b1_1, sw_nil, sw_cons, obs, Nat.not_lt_zero, nI_addo, nI_oadd, nI_add, nI_mulo, nI_omul, nI_mul, nI_lto, nI_leo, nI_olt, nI_ole, nI_eqo, nI_oeq, nI_lt2, nI_le2, nI_eq2, nI_nm1, nI_m1n, nI_lt0, nI_lem1, nc_nI, nc_o, ix_nI, ix_o, hm, e]
theorem m_emit {v : ab_S} {m : Nat} (h : v.1 0 13 = nI m) (hm : m < 1090) (x y : Int32) : fX10_emit x y v = some ((), sI (sI (sI v 7 (1100 + m) x) 8 (1100 + m) y) 0 13 (nI (m + 1))) := by
  unfold fX10_emit
  simp (disch := first | omega | decide) only [sI_at, sI_l, sJ_at, sJ_i, sJ_m, sM_at, sM_i, sM_l, Nat.reduceEqDiff, false_and, and_false, true_and, and_true, and_self, if_false, if_true, ite_false, ite_true, i10, i00, decide_true, decide_false, cnd_t, cnd_f, gd_nil, gd_t, b1_0, b1_1, sw_nil, sw_cons, obs, Nat.not_lt_zero, nI_addo, nI_oadd, nI_add, nI_mulo, nI_omul, nI_mul, nI_lto, nI_leo, nI_olt, nI_ole, nI_eqo, nI_oeq, nI_lt2, nI_le2, nI_eq2, nI_nm1, nI_m1n, nI_lt0, nI_lem1, nc_nI, nc_o, ix_nI, ix_o, h]
section PU
variable {u v u' v' : ab_S} {n T i q : Nat} {cs ds : List Int32}
theorem lwR.fr {D E : Nat → Nat → Prop} (h : lwR cs q u v) (f : Fr D u u') (g : Fr E v v') (hd : ∀ k, ¬ D q k ∧ ¬ D (q + 1) k) (he : ∀ k, ¬ E 7 (1100 + k) ∧ ¬ E 8 (1100 + k)) (he2 : ¬ E 0 13) : lwR cs q u' v' := by
  obtain ⟨h1, h2, h3⟩ := h
  refine ⟨(f.1 _ _ (hd 1).1).trans h1, (g.1 _ _ he2).trans h2, fun i hi => ?_⟩
  rw [f.1 _ _ (hd i).2, g.1 _ _ (he i).1, g.1 _ _ (he i).2]
  exact h3 i hi
theorem lwR.sv (h : lwR cs q u v) (hq : 14 ≤ q) (f : Fr dSu u u') (g : Fr dSv v v') : lwR cs q u' v' := h.fr f g (fun k => ⟨fun z => by unfold dSu at z; omega, fun z => by unfold dSu at z; omega⟩) (fun k => ⟨fun z => by unfold dSv at z; omega, fun z => by unfold dSv at z; omega⟩) (fun z => by unfold dSv at z; omega)
theorem getD_push {a : List Int32} {c : Int32} {i : Nat} (hi : i < a.length + 1) : (a ++ [c]).getD i 0 = if i = a.length then c else a.getD i 0 := by
  by_cases e : i = a.length
  · subst e
    rw [if_pos rfl, List.getD_eq_getElem?_getD, List.getElem?_append_right (Nat.le_refl _), Nat.sub_self]
    rfl
  · rw [if_neg e, List.getD_eq_getElem?_getD, List.getElem?_append_left (by omega), List.getD_eq_getElem?_getD]
theorem lwR.push (h : lwR cs q u v) {c x y : Int32} (hc : cE c x y) : lwR (cs ++ [c]) q (sI (sI u (q + 1) cs.length c) q 1 (nI (cs.length + 1))) (sI (sI (sI v 7 (1100 + cs.length) x) 8 (1100 + cs.length) y) 0 13 (nI (cs.length + 1))) := by
  obtain ⟨h1, h2, h3⟩ := h
  have el : (cs ++ [c]).length = cs.length + 1 := by rw [List.length_append, List.length_singleton]
  refine ⟨?_, ?_, fun i hi => ?_⟩
  · rw [el, sI_at, if_pos ⟨rfl, rfl⟩]
  · rw [el, sI_at, if_pos ⟨rfl, rfl⟩]
  · rw [el] at hi
    rw [getD_push hi]
    by_cases e : i = cs.length
    · subst e
      rw [if_pos rfl, sI_at, if_neg (by omega), sI_at, if_pos ⟨rfl, rfl⟩, sI_at, if_neg (by omega), sI_at, if_neg (by omega), sI_at, if_pos ⟨rfl, rfl⟩, sI_at, if_neg (by omega), sI_at, if_pos ⟨rfl, rfl⟩]
      exact ⟨rfl, hc⟩
    · rw [if_neg e, sI_at, if_neg (by omega), sI_at, if_neg (by omega), sI_at, if_neg (by omega), sI_at, if_neg (by omega), sI_at, if_neg (by omega), sI_at, if_neg (by omega), sI_at, if_neg (by omega), sI_at, if_neg (by omega)]
      exact h3 i (by omega)
theorem add_fr {m : Nat} {c x : Int32} : Fr (dLu q) u (sI (sI u (q + 1) m c) q 1 x) := Fr.trans (D := dLu q) (Fr.sI (Or.inr (Or.inr rfl))) (Fr.sI (Or.inr (Or.inl rfl)))
theorem emit_fr {m : Nat} {x y z : Int32} : Fr dLv v (sI (sI (sI v 7 (1100 + m) x) 8 (1100 + m) y) 0 13 z) := Fr.trans (D := dLv) (Fr.sI (Or.inr (Or.inr ⟨Or.inl rfl, Nat.le_add_right _ _⟩))) (Fr.trans (D := dLv) (Fr.sI (Or.inr (Or.inr ⟨Or.inr rfl, Nat.le_add_right _ _⟩))) (Fr.sI (Or.inr (Or.inl ⟨rfl, rfl⟩))))
theorem su_L : ∀ a k, dSu a k → dLu q a k := fun _ _ z => Or.inl z
theorem sv_L : ∀ a k, dSv a k → dLv a k := fun _ _ z => Or.inl z
theorem pR.law (h : pR n T i u v) (hq : 14 ≤ q) (f : Fr (fun a k => a = q ∨ a = q + 1) u u') (g : Fr (fun a k => (a = 0 ∧ k = 13) ∨ a = 7 ∨ a = 8) v v') : pR n T i u' v' := h.fr f g (fun a k z z2 => by unfold oPu at z; omega) (fun a k z z2 => by unfold oPv at z; omega)
theorem pR.push (h : pR n T i u v) (hq : 14 ≤ q) {m m' : Nat} {c x y a b : Int32} : pR n T i (sI (sI u (q + 1) m c) q 1 a) (sI (sI (sI v 7 (1100 + m') x) 8 (1100 + m') y) 0 13 b) := h.law hq (Fr.trans (D := fun a k => a = q ∨ a = q + 1) (Fr.sI (Or.inr rfl)) (Fr.sI (Or.inl rfl))) (Fr.trans (D := fun a k => (a = 0 ∧ k = 13) ∨ a = 7 ∨ a = 8) (Fr.sI (Or.inr (Or.inl rfl))) (Fr.trans (D := fun a k => (a = 0 ∧ k = 13) ∨ a = 7 ∨ a = 8) (Fr.sI (Or.inr (Or.inr rfl))) (Fr.sI (Or.inl ⟨rfl, rfl⟩))))
theorem mF.emit {f m : Nat} {x y z : Int32} (h : mF f v) : mF f (sI (sI (sI v 7 m x) 8 m y) 0 13 z) := by
  unfold mF
  simp only [sI_at, sI_l, sJ_at, sJ_i, sJ_m, sM_at, sM_i, sM_l, Nat.reduceEqDiff, false_and, and_false, true_and, and_true, and_self, if_false, if_true, ite_false, ite_true]
  exact h
end PU
-- what comes out of a piece of the law: y the class's answer, z the reference's
def lwO (n T i q D X : Nat) (cs : List Int32) (y : Option (Int32 × ab_S)) (z : Option (Unit × ab_S)) (u v : ab_S) : Prop := (∃ u' v' i' ds, i + ds.length ≤ i' ∧ i < i' ∧ y = some (1, u') ∧ z = some ((), v') ∧ pR n T i' u' v' ∧ lwR (cs ++ ds) q u' v' ∧ sgm D ds ∧ Fr (dLu q) u u' ∧ Fr dLv v v') ∨ (∃ f u' v' c, y = some (0, u') ∧ z = some ((), v') ∧ u'.1 1 10 = nI f ∧ mF f v' ∧ v'.1 0 13 = nI c ∧ c ≤ 1000 + X ∧ Fr (dLu q) u u' ∧ Fr dLv v v')
def lwJ (n T q D X : Nat) (Y : ab_S → Option (Int32 × ab_S)) (Zf : ab_S → Option (Unit × ab_S)) : Prop := ∀ u v i cs, pR n T i u v → lwR cs q u v → cs.length ≤ i → lwO n T i q D X cs (Y u) (Zf v) u v
-- an operator of a level, as both sides see it
def opU (n T lv : Nat) (Zf : ab_S → Option (Unit × ab_S)) (L : Nat → ab_S → Option (Unit × ab_S)) : Prop := ∀ m i u v, pR n T i u v → (∃ c x, cB c ∧ ¬ c = 0 ∧ fX1_operatorAt (nI lv) u = some (c, u) ∧ cE c x 0 ∧ u.1 1 7 ≠ 0 ∧ L (m + 1) v = (Zf (sI v 0 7 (nI (i + 1)))).bind fun r => (fX10_emit x 0 r.2).bind fun s => L m s.2) ∨ (fX1_operatorAt (nI lv) u = some (0, u) ∧ (L (m + 1) v = some ((), v) ∨ L (m + 1) v = some ((), sI v 0 7 (nI i))))
def opF (L : Nat → ab_S → Option (Unit × ab_S)) : Prop := ∀ m f v, mF f v → ∃ v', L (m + 1) v = some ((), v') ∧ mF f v' ∧ Fr dSv v v'
theorem lv_loop {n T q D X lv : Nat} {w : Int32} {R1 : Nat → Int32 → Int32 → ab_S → Option (Int32 × ab_S)} {R2 R3 R4 : Nat → Int32 → ab_S → Option (Int32 × ab_S)} {Zf : ab_S → Option (Unit × ab_S)} {L : Nat → ab_S → Option (Unit × ab_S)} (hq : 14 ≤ q) (hl1 : lv ≠ 1) (hl4 : lv < 4) (hX : X < 80) (hT : T ≤ 1000) (hY : lwJ n T q D X (fun u => R1 q (nI (lv + 1)) w u) Zf) (hU : opU n T lv Zf L) (hF : opF L) (cs : List Int32) (i0 : Nat) (hc : cs.length ≤ i0) : ∀ d i N M c ds u v, T - i ≤ d → d < N → d + 1 < M → pR n T i u v → lwR (cs ++ ds) q u v → i0 < i → i0 + ds.length ≤ i → sgm (D + 1) ds → c ≤ i → lwO n T i0 q (D + 1) (X + 1) cs (fX1_readLevel_29 R1 R2 R3 R4 q N (nI lv) w (nI c) u) (L M v) u v := by
  intro d
  induction d with
  | zero =>
    intro i N M c ds u v hd hN hM h hL h0 h1 hs hci
    obtain ⟨N, rfl⟩ : ∃ m, N = m + 1 := ⟨N - 1, by omega⟩
    obtain ⟨M, rfl⟩ : ∃ m, M = m + 1 := ⟨M - 1, by omega⟩
    have hiT : i = T := by have := h.2.2.1; omega
    obtain ⟨c1, x, b1, b2, b3, b4, b5, b6⟩ | ⟨b1, b2⟩ := hU M i u v h
    · exact absurd (h.lt b5) (by omega)
    · rw [fX1_readLevel_29]
      have er : (bif decide (nI c < 1000) then ((fX1_operatorAt (nI lv) u).bind fun q1 => bif decide (q1.1 = 0) then (ab_gd [ab_b1 1] (some (1, q1.2))) else ((fX6_step q1.2).bind fun q2 => (R1 q (nI lv + 1) w q2.2).bind fun q3 => bif decide (q3.1 = 0) then (ab_gd [ab_b1 0] (some (0, q3.2))) else ((fX1_add q q1.1 q3.2).bind fun q4 => bif decide (nI lv = 1) then (ab_gd [ab_b1 1] (some (1, q4.2))) else ((fX1_readLevel_29 R1 R2 R3 R4 q N) (nI lv) w (nI c + 1) q4.2)))) else (ab_gd [ab_b1 1] (some (1, u)))) = some (1, u) := by
        by_cases e : nI c < 1000
        · simp only [e, i10, i00, decide_true, decide_false, cnd_t, cnd_f, gd_nil, gd_t, b1_0, b1_1, sw_nil, sw_cons, obs, b1]
        · simp only [e, i10, i00, decide_true, decide_false, cnd_t, cnd_f, gd_nil, gd_t, b1_0, b1_1, sw_nil, sw_cons, obs]
      rw [er]
      obtain b2 | b2 := b2
      · exact Or.inl ⟨u, v, i, ds, h1, h0, rfl, b2, h, hL, hs, Fr.rfl', Fr.rfl'⟩
      · have g : Fr dSv v (sI v 0 7 (nI i)) := Fr.sI ⟨rfl, Or.inl rfl⟩
        exact Or.inl ⟨u, _, i, ds, h1, h0, rfl, b2, h.same, hL.sv hq Fr.rfl' g, hs, Fr.rfl', g.mono sv_L⟩
  | succ d ih =>
    intro i N M c ds u v hd hN hM h hL h0 h1 hs hci
    obtain ⟨N, rfl⟩ : ∃ m, N = m + 1 := ⟨N - 1, by omega⟩
    obtain ⟨M, rfl⟩ : ∃ m, M = m + 1 := ⟨M - 1, by omega⟩
    rw [fX1_readLevel_29]
    obtain ⟨c1, x, b1, b2, b3, b4, b5, b6⟩ | ⟨b1, b2⟩ := hU M i u v h
    · have hiT := h.lt b5
      obtain ⟨u1, s1, s2, s3⟩ := p_step h b5
      have g1 : Fr dSv v (sI v 0 7 (nI (i + 1))) := Fr.sI ⟨rfl, Or.inl rfl⟩
      have hL1 := hL.sv hq s3 g1
      have lt : nI c < 1000 := show nI c < nI 1000 from (nI_ltI (by omega) (by decide)).mpr (by omega)
      have e1 : nI lv + 1 = nI (lv + 1) := nI_1 lv
      have e2 : (nI lv = 1) = False := eq_false fun z => by
        have := (nI_eq (b := 1) (show lv < 2 ^ 31 by omega) (by decide)).mp z
        omega
      have e3 : nI c + 1 = nI (c + 1) := nI_1 c
      rw [b6]
      have hlen : (cs ++ ds).length ≤ i := by rw [List.length_append]; omega
      obtain ⟨u2, v2, i2, es, a1, a2, a3, a4, a5, a6, a7, a8, a9⟩ | ⟨f, u2, v2, k, a1, a2, a3, a4, a5, a6, a7, a8⟩ := hY u1 _ (i + 1) (cs ++ ds) s2 hL1 (by omega)
      · have a3' : R1 q (nI (lv + 1)) w u1 = some (1, u2) := a3
        have hi2 := a5.2.2.1
        have hlen2 : (cs ++ ds ++ es).length + 1 ≤ i2 := by rw [List.length_append]; omega
        have eA := c_add a6.1 (by omega) c1
        have eM := m_emit a6.2.1 (by omega) x 0
        have hp := a6.push b4
        have hR := a5.push hq (m := (cs ++ ds ++ es).length) (m' := (cs ++ ds ++ es).length) (c := c1) (x := x) (y := 0) (a := nI ((cs ++ ds ++ es).length + 1)) (b := nI ((cs ++ ds ++ es).length + 1))
        have ec : cs ++ ds ++ es ++ [c1] = cs ++ (ds ++ (es ++ [c1])) := by simp only [List.append_assoc]
        rw [ec] at hp
        have elen : (ds ++ (es ++ [c1])).length = ds.length + es.length + 1 := by simp only [List.length_append, List.length_singleton]; omega
        have r := ih i2 N M (c + 1) (ds ++ (es ++ [c1])) _ _ (by omega) (by omega) (by omega) hR hp (by omega) (by rw [elen]; omega) (sgm_bin hs a7 b1) (by omega)
        have fU : Fr (dLu q) u (sI (sI u2 (q + 1) (cs ++ ds ++ es).length c1) q 1 (nI ((cs ++ ds ++ es).length + 1))) := (s3.mono su_L).trans (a8.trans add_fr)
        have fV : Fr dLv v (sI (sI (sI v2 7 (1100 + (cs ++ ds ++ es).length) x) 8 (1100 + (cs ++ ds ++ es).length) 0) 0 13 (nI ((cs ++ ds ++ es).length + 1))) := (g1.mono sv_L).trans (a9.trans emit_fr)
        rw [a4]
        simp only [lt, i10, i00, decide_true, decide_false, cnd_t, cnd_f, gd_nil, gd_t, b1_0, b1_1, sw_nil, sw_cons, obs, b3, b2, s1, e1, a3', eA, eM, e2, e3]
        obtain ⟨u3, v3, i3, fs, z1, z2, z3, z4, z5, z6, z7, z8, z9⟩ | ⟨f, u3, v3, k, z1, z2, z3, z4, z5, z6, z7, z8⟩ := r
        · exact Or.inl ⟨u3, v3, i3, fs, z1, z2, z3, z4, z5, z6, z7, fU.trans z8, fV.trans z9⟩
        · exact Or.inr ⟨f, u3, v3, k, z1, z2, z3, z4, z5, z6, fU.trans z7, fV.trans z8⟩
      · have a1' : R1 q (nI (lv + 1)) w u1 = some (0, u2) := a1
        have eM := m_emit a5 (by omega) x 0
        obtain ⟨M, rfl⟩ : ∃ m, M = m + 1 := ⟨M - 1, by omega⟩
        obtain ⟨v3, y1, y2, y3⟩ := hF M f _ (a4.emit (m := 1100 + k) (x := x) (y := 0) (z := nI (k + 1)))
        refine Or.inr ⟨f, u2, v3, k + 1, ?_, ?_, a3, y2, ?_, by omega, (s3.mono su_L).trans a7, (g1.mono sv_L).trans (a8.trans (emit_fr.trans (y3.mono sv_L)))⟩
        · simp only [lt, i10, i00, decide_true, decide_false, cnd_t, cnd_f, gd_nil, gd_t, b1_0, b1_1, sw_nil, sw_cons, obs, b3, b2, s1, e1, a1']
        · rw [a2]
          simp only [obs, eM]
          exact y1
        · rw [y3.1 _ _ (by unfold dSv; omega), sI_at, if_pos ⟨rfl, rfl⟩]
    · have er : (bif decide (nI c < 1000) then ((fX1_operatorAt (nI lv) u).bind fun q1 => bif decide (q1.1 = 0) then (ab_gd [ab_b1 1] (some (1, q1.2))) else ((fX6_step q1.2).bind fun q2 => (R1 q (nI lv + 1) w q2.2).bind fun q3 => bif decide (q3.1 = 0) then (ab_gd [ab_b1 0] (some (0, q3.2))) else ((fX1_add q q1.1 q3.2).bind fun q4 => bif decide (nI lv = 1) then (ab_gd [ab_b1 1] (some (1, q4.2))) else ((fX1_readLevel_29 R1 R2 R3 R4 q N) (nI lv) w (nI c + 1) q4.2)))) else (ab_gd [ab_b1 1] (some (1, u)))) = some (1, u) := by
        by_cases e : nI c < 1000
        · simp only [e, i10, i00, decide_true, decide_false, cnd_t, cnd_f, gd_nil, gd_t, b1_0, b1_1, sw_nil, sw_cons, obs, b1]
        · simp only [e, i10, i00, decide_true, decide_false, cnd_t, cnd_f, gd_nil, gd_t, b1_0, b1_1, sw_nil, sw_cons, obs]
      rw [er]
      obtain b2 | b2 := b2
      · exact Or.inl ⟨u, v, i, ds, h1, h0, rfl, b2, h, hL, hs, Fr.rfl', Fr.rfl'⟩
      · have g : Fr dSv v (sI v 0 7 (nI i)) := Fr.sI ⟨rfl, Or.inl rfl⟩
        exact Or.inl ⟨u, _, i, ds, h1, h0, rfl, b2, h.same, hL.sv hq Fr.rfl' g, hs, Fr.rfl', g.mono sv_L⟩
-- a level whose operators may follow each other
theorem lv_level {n T q D X lv : Nat} {w : Int32} {R1 : Nat → Int32 → Int32 → ab_S → Option (Int32 × ab_S)} {R2 R3 R4 : Nat → Int32 → ab_S → Option (Int32 × ab_S)} {Zf : ab_S → Option (Unit × ab_S)} {L : Nat → ab_S → Option (Unit × ab_S)} (hq : 14 ≤ q) (hl1 : lv ≠ 1) (hl4 : lv < 4) (hX : X < 80) (hT : T ≤ 1000) (hY : lwJ n T q D X (fun u => R1 q (nI (lv + 1)) w u) Zf) (hU : opU n T lv Zf L) (hF : opF L) : lwJ n T q (D + 1) (X + 1) (fun u => fX1_readLevel R1 R2 R3 R4 q (nI lv) w u) (fun v => (Zf v).bind fun r => L fu r.2) := by
  intro u v i cs h hL hc
  have e1 : nI lv + 1 = nI (lv + 1) := nI_1 lv
  have e3 : (nI lv ≤ 3) = True := eq_true (show nI lv ≤ nI 3 from (nI_leI (by omega) (by decide)).mpr (by omega))
  show lwO n T i q (D + 1) (X + 1) cs (fX1_readLevel R1 R2 R3 R4 q (nI lv) w u) ((Zf v).bind fun r => L fu r.2) u v
  unfold fX1_readLevel
  obtain ⟨u2, v2, i2, es, a1, a2, a3, a4, a5, a6, a7, a8, a9⟩ | ⟨f, u2, v2, k, a1, a2, a3, a4, a5, a6, a7, a8⟩ := hY u v i cs h hL hc
  · have a3' : R1 q (nI (lv + 1)) w u = some (1, u2) := a3
    have r := lv_loop (R2 := R2) (R3 := R3) (R4 := R4) hq hl1 hl4 hX hT hY hU hF cs i hc T i2 fu fu 0 es u2 v2 (by omega) (show T < 5000 by omega) (show T + 1 < 5000 by omega) a5 a6 a2 a1 (a7.mono (by omega)) (Nat.zero_le _)
    rw [a4]
    simp only [e3, i10, i00, decide_true, decide_false, cnd_t, cnd_f, gd_nil, gd_t, b1_0, b1_1, sw_nil, sw_cons, obs, e1, a3']
    obtain ⟨u3, v3, i3, fs, z1, z2, z3, z4, z5, z6, z7, z8, z9⟩ | ⟨f, u3, v3, k, z1, z2, z3, z4, z5, z6, z7, z8⟩ := r
    · exact Or.inl ⟨u3, v3, i3, fs, z1, z2, z3, z4, z5, z6, z7, a8.trans z8, a9.trans z9⟩
    · exact Or.inr ⟨f, u3, v3, k, z1, z2, z3, z4, z5, z6, a8.trans z7, a9.trans z8⟩
  · have a1' : R1 q (nI (lv + 1)) w u = some (0, u2) := a1
    obtain ⟨v3, y1, y2, y3⟩ := hF 4999 f v2 a4
    have y1' : L fu v2 = some ((), v3) := y1
    refine Or.inr ⟨f, u2, v3, k, ?_, ?_, a3, y2, ?_, by omega, a7, a8.trans (y3.mono sv_L)⟩
    · simp only [e3, i10, i00, decide_true, decide_false, cnd_t, cnd_f, gd_nil, gd_t, b1_0, b1_1, sw_nil, sw_cons, obs, e1, a1']
    · rw [a2]
      simp only [obs]
      exact y1'
    · rw [y3.1 _ _ (by unfold dSv; omega)]
      exact a5
/-! the law: comparisons, parts, brackets, on both sides -/
section PU
variable {u v u' v' : ab_S} {n T i q : Nat} {cs ds : List Int32}
theorem m_hasSign (h : pR n T i u v) {s : Nat} (hs : s < 128) : ∃ b : Bool, fX6_isSign (nI s) u = some (b01 b, u) ∧ fX10_isSign (nI s) v = some (b01 b, v) ∧ (b = true → u.1 1 7 = 4 ∧ u.2.1 1 9 = lN s) ∧ (b = true → fX10_hasSign (nI s) v = some (1, sI v 0 7 (nI (i + 1)))) ∧ (b = false → fX10_hasSign (nI s) v = some (0, sI v 0 7 (nI i))) := by
  obtain ⟨b, s1, s2, s3⟩ := p_isSign h hs
  refine ⟨b, s1, s2, s3, fun e => ?_, fun e => ?_⟩
  · subst e
    unfold fX10_hasSign
    rw [s2]
    simp only [b01, if_true, i10, i00, decide_true, decide_false, cnd_t, cnd_f, gd_nil, gd_t, b1_0, b1_1, sw_nil, sw_cons, obs, h.at, show nI i + 1 = nI (i + 1) from nI_1 i]
  · subst e
    unfold fX10_hasSign
    rw [s2]
    simp only [b01, Bool.false_eq_true, if_false, i10, i00, decide_true, decide_false, cnd_t, cnd_f, gd_nil, gd_t, b1_0, b1_1, sw_nil, sw_cons, obs, h.at, show nI i + 0 = nI i from Int32.add_zero _]
theorem m_hasWord1 (h : pR n T i u v) {k : Nat} (hk : k < 23) (e : isW k u) : fX10_hasWord (nI k) v = some (1, sI v 0 7 (nI (i + 1))) := by
  unfold fX10_hasWord
  rw [m_isWord h hk]
  simp only [if_pos e, i10, i00, decide_true, decide_false, cnd_t, cnd_f, gd_nil, gd_t, b1_0, b1_1, sw_nil, sw_cons, obs, h.at, show nI i + 1 = nI (i + 1) from nI_1 i]
theorem m_hasWord0 (h : pR n T i u v) {k : Nat} (hk : k < 23) (e : ¬ isW k u) : fX10_hasWord (nI k) v = some (0, sI v 0 7 (nI i)) := by
  unfold fX10_hasWord
  rw [m_isWord h hk]
  simp only [if_neg e, i10, i00, decide_true, decide_false, cnd_t, cnd_f, gd_nil, gd_t, b1_0, b1_1, sw_nil, sw_cons, obs, h.at, show nI i + 0 = nI i from Int32.add_zero _]
theorem mF_hasSign {f : Nat} (h : mF f v) (K : Int32) : ∃ v', fX10_hasSign K v = some (0, v') ∧ mF f v' ∧ Fr dSv v v' := by
  refine ⟨sI v 0 7 (v.1 0 7 + 0), ?_, ?_, Fr.sI ⟨rfl, Or.inl rfl⟩⟩
  · unfold fX10_hasSign
    rw [mF_isSign h]
    simp only [i10, i00, decide_true, decide_false, cnd_t, cnd_f, gd_nil, gd_t, b1_0, b1_1, sw_nil, sw_cons, obs]
  · unfold mF
    simp only [sI_at, sI_l, sJ_at, sJ_i, sJ_m, sM_at, sM_i, sM_l, Nat.reduceEqDiff, false_and, and_false, true_and, and_true, and_self, if_false, if_true, ite_false, ite_true]
    exact h
theorem lv_comp {D X : Nat} {w : Int32} {R1 : Nat → Int32 → Int32 → ab_S → Option (Int32 × ab_S)} {R2 R3 R4 : Nat → Int32 → ab_S → Option (Int32 × ab_S)} {S1 S2 S3 S4 S5 : Int32 → ab_S → Option (Unit × ab_S)} (hq : 14 ≤ q) (hX : X < 80) (hT : T ≤ 1000) (hY : lwJ n T q D X (fun u => R1 q 2 w u) (fun v => S3 w v)) : lwJ n T q (D + 1) (X + 1) (fun u => fX1_readLevel R1 R2 R3 R4 q 1 w u) (fun v => fX10_test S1 S2 S3 S4 S5 w v) := by
  intro u v i cs h hL hc
  show lwO n T i q (D + 1) (X + 1) cs (fX1_readLevel R1 R2 R3 R4 q 1 w u) (fX10_test S1 S2 S3 S4 S5 w v) u v
  have e1 : (1 : Int32) + 1 = 2 := by decide +kernel
  have e3 : ((1 : Int32) ≤ 3) = True := eq_true (by decide +kernel)
  have e4 : ((0 : Int32) < 1000) = True := eq_true (by decide +kernel)
  have efu : fu = 4999 + 1 := rfl
  unfold fX1_readLevel fX10_test
  obtain ⟨u2, v2, i2, es, a1, a2, a3, a4, a5, a6, a7, a8, a9⟩ | ⟨f, u2, v2, k, a1, a2, a3, a4, a5, a6, a7, a8⟩ := hY u v i cs h hL hc
  · have a3' : R1 q 2 w u = some (1, u2) := a3
    have a4' : S3 w v = some ((), v2) := a4
    rw [a4']
    simp only [e3, i10, i00, decide_true, decide_false, cnd_t, cnd_f, gd_nil, gd_t, b1_0, b1_1, sw_nil, sw_cons, obs, e1, a3']
    rw [efu, fX1_readLevel_29]
    -- an operator stands here
    have go : ∀ (c x : Int32) (vv : ab_S) (zz : Option (Unit × ab_S)), cB c → ¬ c = 0 → cE c x 0 → pR n T i2 u2 vv → lwR (cs ++ es) q u2 vv → Fr dSv v2 vv → u2.1 1 7 ≠ 0 → fX1_operatorAt 1 u2 = some (c, u2) → zz = ((S3 w (sI vv 0 7 (nI (i2 + 1)))).bind fun r => (fX10_emit x 0 r.2).bind fun s => some ((), s.2)) → lwO n T i q (D + 1) (X + 1) cs (bif decide ((0 : Int32) < 1000) then ((fX1_operatorAt 1 u2).bind fun q1 => bif decide (q1.1 = 0) then (ab_gd [ab_b1 1] (some (1, q1.2))) else ((fX6_step q1.2).bind fun q2 => (R1 q (1 + 1) w q2.2).bind fun q3 => bif decide (q3.1 = 0) then (ab_gd [ab_b1 0] (some (0, q3.2))) else ((fX1_add q q1.1 q3.2).bind fun q4 => bif decide ((1 : Int32) = 1) then (ab_gd [ab_b1 1] (some (1, q4.2))) else ((fX1_readLevel_29 R1 R2 R3 R4 q 4999) 1 w (0 + 1) q4.2)))) else (ab_gd [ab_b1 1] (some (1, u2)))) zz u v := by
      intro c x vv zz hb hn hE hp hl hf hk ho hz
      obtain ⟨u3, s1, s2, s3⟩ := p_step hp hk
      have g1 : Fr dSv vv (sI vv 0 7 (nI (i2 + 1))) := Fr.sI ⟨rfl, Or.inl rfl⟩
      have hl1 := hl.sv hq s3 g1
      have hi2 := a5.2.2.1
      have hlen : (cs ++ es).length ≤ i2 := by rw [List.length_append]; omega
      rw [hz]
      obtain ⟨u4, v4, i4, fs, b1, b2, b3, b4, b5, b6, b7, b8, b9⟩ | ⟨f, u4, v4, k, b1, b2, b3, b4, b5, b6, b7, b8⟩ := hY u3 _ (i2 + 1) (cs ++ es) s2 hl1 (by omega)
      · have b3' : R1 q 2 w u3 = some (1, u4) := b3
        have b4' : S3 w (sI vv 0 7 (nI (i2 + 1))) = some ((), v4) := b4
        have hi4 := b5.2.2.1
        have hlen2 : (cs ++ es ++ fs).length + 1 ≤ i4 := by rw [List.length_append]; omega
        have eA := c_add b6.1 (by omega) c
        have eM := m_emit b6.2.1 (by omega) x 0
        have hp4 := b6.push hE
        have ec : cs ++ es ++ fs ++ [c] = cs ++ (es ++ (fs ++ [c])) := by simp only [List.append_assoc]
        rw [ec] at hp4
        have elen : (es ++ (fs ++ [c])).length = es.length + fs.length + 1 := by simp only [List.length_append, List.length_singleton]; omega
        refine Or.inl ⟨_, _, i4, es ++ (fs ++ [c]), by rw [elen]; omega, by omega, ?_, ?_, b5.push hq, hp4, sgm_bin (a7.mono (by omega)) b7 hb, a8.trans ((s3.mono su_L).trans (b8.trans add_fr)), a9.trans ((hf.mono sv_L).trans ((g1.mono sv_L).trans (b9.trans emit_fr)))⟩
        · simp only [e4, i10, i00, decide_true, decide_false, cnd_t, cnd_f, gd_nil, gd_t, b1_0, b1_1, sw_nil, sw_cons, obs, ho, hn, s1, e1, b3', eA]
        · simp only [b4', obs, eM]
      · have b1' : R1 q 2 w u3 = some (0, u4) := b1
        have b2' : S3 w (sI vv 0 7 (nI (i2 + 1))) = some ((), v4) := b2
        have eM := m_emit b5 (by omega) x 0
        refine Or.inr ⟨f, u4, _, k + 1, ?_, ?_, b3, b4.emit (m := 1100 + k) (x := x) (y := 0) (z := nI (k + 1)), ?_, by omega, a8.trans ((s3.mono su_L).trans b7), a9.trans ((hf.mono sv_L).trans ((g1.mono sv_L).trans (b8.trans emit_fr)))⟩
        · simp only [e4, i10, i00, decide_true, decide_false, cnd_t, cnd_f, gd_nil, gd_t, b1_0, b1_1, sw_nil, sw_cons, obs, ho, hn, s1, e1, b1']
        · simp only [b2', obs, eM]
        · rw [sI_at, if_pos ⟨rfl, rfl⟩]
    obtain ⟨b, s1, s2, s3, s4, s5⟩ := m_hasSign a5 (s := 60) (by decide)
    have s1' : fX6_isSign 60 u2 = some (b01 b, u2) := s1
    have s2' : fX10_isSign 60 v2 = some (b01 b, v2) := s2
    cases b
    · have s5' : fX10_hasSign 60 v2 = some (0, sI v2 0 7 (nI i2)) := s5 rfl
      have g0 : Fr dSv v2 (sI v2 0 7 (nI i2)) := Fr.sI ⟨rfl, Or.inl rfl⟩
      obtain ⟨b, t1, t2, t3, t4, t5⟩ := m_hasSign a5.same (s := 61) (by decide)
      have t1' : fX6_isSign 61 u2 = some (b01 b, u2) := t1
      cases b
      · have t5' : fX10_hasSign 61 (sI v2 0 7 (nI i2)) = some (0, sI (sI v2 0 7 (nI i2)) 0 7 (nI i2)) := t5 rfl
        have g2 : Fr dSv (sI v2 0 7 (nI i2)) (sI (sI v2 0 7 (nI i2)) 0 7 (nI i2)) := Fr.sI ⟨rfl, Or.inl rfl⟩
        have eo : fX1_operatorAt 1 u2 = some (0, u2) := by
          unfold fX1_operatorAt
          simp only [i10, i00, decide_true, decide_false, cnd_t, cnd_f, gd_nil, gd_t, b1_0, b1_1, sw_nil, sw_cons, obs, show ((1 : Int32) = 1) = True from eq_true rfl, s1', t1', b01, Bool.false_eq_true, if_false]
        refine Or.inl ⟨u2, _, i2, es, a1, a2, ?_, ?_, a5.same.same, (a6.sv hq Fr.rfl' g0).sv hq Fr.rfl' g2, a7.mono (by omega), a8, a9.trans ((g0.mono sv_L).trans (g2.mono sv_L))⟩
        · simp only [e4, i10, i00, decide_true, decide_false, cnd_t, cnd_f, gd_nil, gd_t, b1_0, b1_1, sw_nil, sw_cons, obs, eo]
        · simp only [obs, s2', b01, Bool.false_eq_true, if_false, s5', i10, i00, decide_true, decide_false, cnd_t, cnd_f, gd_nil, gd_t, b1_0, b1_1, sw_nil, sw_cons, obs, t5']
      · have t4' : fX10_hasSign 61 (sI v2 0 7 (nI i2)) = some (1, sI (sI v2 0 7 (nI i2)) 0 7 (nI (i2 + 1))) := t4 rfl
        have eo : fX1_operatorAt 1 u2 = some (-9, u2) := by
          unfold fX1_operatorAt
          simp only [i10, i00, decide_true, decide_false, cnd_t, cnd_f, gd_nil, gd_t, b1_0, b1_1, sw_nil, sw_cons, obs, show ((1 : Int32) = 1) = True from eq_true rfl, s1', t1', b01, Bool.false_eq_true, if_false, if_true]
        refine go (-9) 8 _ _ (Or.inr (Or.inr (Or.inr (Or.inl rfl)))) (by decide +kernel) (Or.inr (Or.inr (Or.inr (Or.inr (Or.inr (Or.inr (Or.inr (Or.inr (Or.inl ⟨rfl, rfl, rfl⟩))))))))) a5.same (a6.sv hq Fr.rfl' g0) g0 (by rw [(t3 rfl).1]; decide +kernel) eo ?_
        unfold fX10_test_30 fX10_test_47
        simp only [obs, s2', b01, Bool.false_eq_true, if_false, s5', i10, i00, decide_true, decide_false, cnd_t, cnd_f, gd_nil, gd_t, b1_0, b1_1, sw_nil, sw_cons, obs, t4']
    · have s4' : fX10_hasSign 60 v2 = some (1, sI v2 0 7 (nI (i2 + 1))) := s4 rfl
      have eo : fX1_operatorAt 1 u2 = some (-8, u2) := by
        unfold fX1_operatorAt
        simp only [i10, i00, decide_true, decide_false, cnd_t, cnd_f, gd_nil, gd_t, b1_0, b1_1, sw_nil, sw_cons, obs, show ((1 : Int32) = 1) = True from eq_true rfl, s1', b01, if_true]
      refine go (-8) 7 v2 _ (Or.inr (Or.inr (Or.inl rfl))) (by decide +kernel) (Or.inr (Or.inr (Or.inr (Or.inr (Or.inr (Or.inr (Or.inr (Or.inl ⟨rfl, rfl, rfl⟩)))))))) a5 a6 Fr.rfl' (by rw [(s3 rfl).1]; decide +kernel) eo ?_
      unfold fX10_test_30 fX10_test_47
      simp only [obs, s2', b01, if_true, s4', i10, i00, decide_true, decide_false, cnd_t, cnd_f, gd_nil, gd_t, b1_0, b1_1, sw_nil, sw_cons, obs]
  · have a1' : R1 q 2 w u = some (0, u2) := a1
    have a2' : S3 w v = some ((), v2) := a2
    obtain ⟨v3, y1, y2, y3⟩ := mF_hasSign a4 60
    obtain ⟨v4, y4, y5, y6⟩ := mF_hasSign y2 61
    refine Or.inr ⟨f, u2, v4, k, ?_, ?_, a3, y5, ?_, by omega, a7, a8.trans ((y3.mono sv_L).trans (y6.mono sv_L))⟩
    · simp only [e3, i10, i00, decide_true, decide_false, cnd_t, cnd_f, gd_nil, gd_t, b1_0, b1_1, sw_nil, sw_cons, obs, e1, a1']
    · rw [a2']
      simp only [obs, mF_isSign a4, y1, i10, i00, decide_true, decide_false, cnd_t, cnd_f, gd_nil, gd_t, b1_0, b1_1, sw_nil, sw_cons, obs, y4]
    · rw [y6.1 _ _ (by unfold dSv; omega), y3.1 _ _ (by unfold dSv; omega)]
      exact a5
-- the operators of the other levels
theorem op_join {w : Int32} {S1 S2 S3 S4 S5 : Int32 → ab_S → Option (Unit × ab_S)} : opU n T 0 (fun v => S2 w v) (fun m v => fX10_whole_5 S1 S2 S3 S4 S5 m w v) := by
  intro m i u v h
  show (∃ c x, cB c ∧ ¬ c = 0 ∧ fX1_operatorAt 0 u = some (c, u) ∧ cE c x 0 ∧ u.1 1 7 ≠ 0 ∧ fX10_whole_5 S1 S2 S3 S4 S5 (m + 1) w v = (S2 w (sI v 0 7 (nI (i + 1)))).bind fun r => (fX10_emit x 0 r.2).bind fun s => fX10_whole_5 S1 S2 S3 S4 S5 m w s.2) ∨ (fX1_operatorAt 0 u = some (0, u) ∧ (fX10_whole_5 S1 S2 S3 S4 S5 (m + 1) w v = some ((), v) ∨ fX10_whole_5 S1 S2 S3 S4 S5 (m + 1) w v = some ((), sI v 0 7 (nI i))))
  have w17 := m_isWord h (k := 17) (by decide)
  have w18 := m_isWord h (k := 18) (by decide)
  have w17' : fX10_isWord 17 v = some (if isW 17 u then 1 else 0, v) := w17
  have w18' : fX10_isWord 18 v = some (if isW 18 u then 1 else 0, v) := w18
  rw [fX10_whole_5]
  by_cases e : isW 17 u
  · rw [if_pos e] at w17'
    refine Or.inl ⟨-6, 9, Or.inl rfl, by decide +kernel, ?_, Or.inr (Or.inr (Or.inr (Or.inr (Or.inr (Or.inl ⟨rfl, rfl, rfl⟩))))), by rw [e.1]; decide +kernel, ?_⟩
    · unfold fX1_operatorAt
      rw [c_isWord, if_pos e]
      simp only [i10, i00, decide_true, decide_false, cnd_t, cnd_f, gd_nil, gd_t, b1_0, b1_1, sw_nil, sw_cons, obs]
    · unfold fX10_whole_23 fX10_whole_57
      simp only [w17', i10, i00, decide_true, decide_false, cnd_t, cnd_f, gd_nil, gd_t, b1_0, b1_1, sw_nil, sw_cons, obs, h.at, show nI i + 1 = nI (i + 1) from nI_1 i]
  · rw [if_neg e] at w17'
    by_cases e2 : isW 18 u
    · rw [if_pos e2] at w18'
      refine Or.inl ⟨-7, 10, Or.inr (Or.inl rfl), by decide +kernel, ?_, Or.inr (Or.inr (Or.inr (Or.inr (Or.inr (Or.inr (Or.inl ⟨rfl, rfl, rfl⟩)))))), by rw [e2.1]; decide +kernel, ?_⟩
      · unfold fX1_operatorAt
        rw [c_isWord, if_neg e]
        simp only [i10, i00, decide_true, decide_false, cnd_t, cnd_f, gd_nil, gd_t, b1_0, b1_1, sw_nil, sw_cons, obs]
        rw [c_isWord, if_pos e2]
        simp only [i10, i00, decide_true, decide_false, cnd_t, cnd_f, gd_nil, gd_t, b1_0, b1_1, sw_nil, sw_cons, obs]
      · unfold fX10_whole_23 fX10_whole_57
        simp only [w17', w18', i10, i00, decide_true, decide_false, cnd_t, cnd_f, gd_nil, gd_t, b1_0, b1_1, sw_nil, sw_cons, obs, h.at, show nI i + 1 = nI (i + 1) from nI_1 i]
    · rw [if_neg e2] at w18'
      refine Or.inr ⟨?_, Or.inl ?_⟩
      · unfold fX1_operatorAt
        rw [c_isWord, if_neg e]
        simp only [i10, i00, decide_true, decide_false, cnd_t, cnd_f, gd_nil, gd_t, b1_0, b1_1, sw_nil, sw_cons, obs]
        rw [c_isWord, if_neg e2]
        simp only [i10, i00, decide_true, decide_false, cnd_t, cnd_f, gd_nil, gd_t, b1_0, b1_1, sw_nil, sw_cons, obs]
      · simp only [w17', w18', i10, i00, decide_true, decide_false, cnd_t, cnd_f, gd_nil, gd_t, b1_0, b1_1, sw_nil, sw_cons, obs]
theorem of_join {w : Int32} {S1 S2 S3 S4 S5 : Int32 → ab_S → Option (Unit × ab_S)} : opF (fun m v => fX10_whole_5 S1 S2 S3 S4 S5 m w v) := by
  intro m f v h
  refine ⟨v, ?_, h, Fr.rfl'⟩
  show fX10_whole_5 S1 S2 S3 S4 S5 (m + 1) w v = some ((), v)
  rw [fX10_whole_5, mF_isWord h]
  simp only [i10, i00, decide_true, decide_false, cnd_t, cnd_f, gd_nil, gd_t, b1_0, b1_1, sw_nil, sw_cons, obs]
  rw [mF_isWord h]
  simp only [i10, i00, decide_true, decide_false, cnd_t, cnd_f, gd_nil, gd_t, b1_0, b1_1, sw_nil, sw_cons, obs]
theorem op_sum {w : Int32} {S1 S2 S3 S4 S5 : Int32 → ab_S → Option (Unit × ab_S)} : opU n T 2 (fun v => S4 w v) (fun m v => fX10_sums_5 S1 S2 S3 S4 S5 m w v) := by
  intro m i u v h
  show (∃ c x, cB c ∧ ¬ c = 0 ∧ fX1_operatorAt 2 u = some (c, u) ∧ cE c x 0 ∧ u.1 1 7 ≠ 0 ∧ fX10_sums_5 S1 S2 S3 S4 S5 (m + 1) w v = (S4 w (sI v 0 7 (nI (i + 1)))).bind fun r => (fX10_emit x 0 r.2).bind fun s => fX10_sums_5 S1 S2 S3 S4 S5 m w s.2) ∨ (fX1_operatorAt 2 u = some (0, u) ∧ (fX10_sums_5 S1 S2 S3 S4 S5 (m + 1) w v = some ((), v) ∨ fX10_sums_5 S1 S2 S3 S4 S5 (m + 1) w v = some ((), sI v 0 7 (nI i))))
  obtain ⟨b, s1, s2, s3⟩ := p_isSign h (s := 43) (by decide)
  have s1' : fX6_isSign 43 u = some (b01 b, u) := s1
  have s2' : fX10_isSign 43 v = some (b01 b, v) := s2
  have k0 : ((2 : Int32) = 0) = False := eq_false (by decide +kernel)
  have k1 : ((2 : Int32) = 1) = False := eq_false (by decide +kernel)
  rw [fX10_sums_5]
  cases b
  · obtain ⟨b, t1, t2, t3⟩ := p_isSign h (s := 45) (by decide)
    have t1' : fX6_isSign 45 u = some (b01 b, u) := t1
    have t2' : fX10_isSign 45 v = some (b01 b, v) := t2
    cases b
    · refine Or.inr ⟨?_, Or.inl ?_⟩
      · unfold fX1_operatorAt
        simp only [k0, k1, i10, i00, decide_true, decide_false, cnd_t, cnd_f, gd_nil, gd_t, b1_0, b1_1, sw_nil, sw_cons, obs, s1', t1', b01, Bool.false_eq_true, if_false]
      · simp only [s2', t2', i10, i00, decide_true, decide_false, cnd_t, cnd_f, gd_nil, gd_t, b1_0, b1_1, sw_nil, sw_cons, obs, b01, Bool.false_eq_true, if_false]
    · refine Or.inl ⟨-11, 5, Or.inr (Or.inr (Or.inr (Or.inr (Or.inr (Or.inl rfl))))), by decide +kernel, ?_, Or.inr (Or.inr (Or.inr (Or.inr (Or.inr (Or.inr (Or.inr (Or.inr (Or.inr (Or.inr (Or.inl ⟨rfl, rfl, rfl⟩)))))))))), by rw [(t3 rfl).1]; decide +kernel, ?_⟩
      · unfold fX1_operatorAt
        simp only [k0, k1, i10, i00, decide_true, decide_false, cnd_t, cnd_f, gd_nil, gd_t, b1_0, b1_1, sw_nil, sw_cons, obs, s1', t1', b01, Bool.false_eq_true, if_false, if_true]
      · unfold fX10_sums_23 fX10_sums_55
        simp only [s2', t2', i10, i00, decide_true, decide_false, cnd_t, cnd_f, gd_nil, gd_t, b1_0, b1_1, sw_nil, sw_cons, obs, b01, Bool.false_eq_true, if_false, if_true, h.at, show nI i + 1 = nI (i + 1) from nI_1 i]
  · refine Or.inl ⟨-10, 4, Or.inr (Or.inr (Or.inr (Or.inr (Or.inl rfl)))), by decide +kernel, ?_, Or.inr (Or.inr (Or.inr (Or.inr (Or.inr (Or.inr (Or.inr (Or.inr (Or.inr (Or.inl ⟨rfl, rfl, rfl⟩))))))))), by rw [(s3 rfl).1]; decide +kernel, ?_⟩
    · unfold fX1_operatorAt
      simp only [k0, k1, i10, i00, decide_true, decide_false, cnd_t, cnd_f, gd_nil, gd_t, b1_0, b1_1, sw_nil, sw_cons, obs, s1', b01, if_true]
    · unfold fX10_sums_23 fX10_sums_55
      simp only [s2', i10, i00, decide_true, decide_false, cnd_t, cnd_f, gd_nil, gd_t, b1_0, b1_1, sw_nil, sw_cons, obs, b01, if_true, h.at, show nI i + 1 = nI (i + 1) from nI_1 i]
theorem of_sum {w : Int32} {S1 S2 S3 S4 S5 : Int32 → ab_S → Option (Unit × ab_S)} : opF (fun m v => fX10_sums_5 S1 S2 S3 S4 S5 m w v) := by
  intro m f v h
  refine ⟨v, ?_, h, Fr.rfl'⟩
  show fX10_sums_5 S1 S2 S3 S4 S5 (m + 1) w v = some ((), v)
  rw [fX10_sums_5, mF_isSign h]
  simp only [i10, i00, decide_true, decide_false, cnd_t, cnd_f, gd_nil, gd_t, b1_0, b1_1, sw_nil, sw_cons, obs]
  rw [mF_isSign h]
  simp only [i10, i00, decide_true, decide_false, cnd_t, cnd_f, gd_nil, gd_t, b1_0, b1_1, sw_nil, sw_cons, obs]
theorem op_prod {w : Int32} {S1 S2 S3 S4 S5 : Int32 → ab_S → Option (Unit × ab_S)} : opU n T 3 (fun v => S5 w v) (fun m v => fX10_products_5 S1 S2 S3 S4 S5 m w v) := by
  intro m i u v h
  show (∃ c x, cB c ∧ ¬ c = 0 ∧ fX1_operatorAt 3 u = some (c, u) ∧ cE c x 0 ∧ u.1 1 7 ≠ 0 ∧ fX10_products_5 S1 S2 S3 S4 S5 (m + 1) w v = (S5 w (sI v 0 7 (nI (i + 1)))).bind fun r => (fX10_emit x 0 r.2).bind fun s => fX10_products_5 S1 S2 S3 S4 S5 m w s.2) ∨ (fX1_operatorAt 3 u = some (0, u) ∧ (fX10_products_5 S1 S2 S3 S4 S5 (m + 1) w v = some ((), v) ∨ fX10_products_5 S1 S2 S3 S4 S5 (m + 1) w v = some ((), sI v 0 7 (nI i))))
  obtain ⟨b, s1, s2, s3, s4, s5⟩ := m_hasSign h (s := 42) (by decide)
  have s1' : fX6_isSign 42 u = some (b01 b, u) := s1
  have k0 : ((3 : Int32) = 0) = False := eq_false (by decide +kernel)
  have k1 : ((3 : Int32) = 1) = False := eq_false (by decide +kernel)
  have k2 : ((3 : Int32) = 2) = False := eq_false (by decide +kernel)
  rw [fX10_products_5]
  cases b
  · have s5' : fX10_hasSign 42 v = some (0, sI v 0 7 (nI i)) := s5 rfl
    refine Or.inr ⟨?_, Or.inr ?_⟩
    · unfold fX1_operatorAt
      simp only [k0, k1, k2, i10, i00, decide_true, decide_false, cnd_t, cnd_f, gd_nil, gd_t, b1_0, b1_1, sw_nil, sw_cons, obs, s1', b01, Bool.false_eq_true, if_false]
    · simp only [s5', i10, i00, decide_true, decide_false, cnd_t, cnd_f, gd_nil, gd_t, b1_0, b1_1, sw_nil, sw_cons, obs]
  · have s4' : fX10_hasSign 42 v = some (1, sI v 0 7 (nI (i + 1))) := s4 rfl
    refine Or.inl ⟨-12, 6, Or.inr (Or.inr (Or.inr (Or.inr (Or.inr (Or.inr rfl))))), by decide +kernel, ?_, Or.inr (Or.inr (Or.inr (Or.inr (Or.inr (Or.inr (Or.inr (Or.inr (Or.inr (Or.inr (Or.inr (Or.inl ⟨rfl, rfl, rfl⟩))))))))))), by rw [(s3 rfl).1]; decide +kernel, ?_⟩
    · unfold fX1_operatorAt
      simp only [k0, k1, k2, i10, i00, decide_true, decide_false, cnd_t, cnd_f, gd_nil, gd_t, b1_0, b1_1, sw_nil, sw_cons, obs, s1', b01, if_true]
    · simp only [s4', i10, i00, decide_true, decide_false, cnd_t, cnd_f, gd_nil, gd_t, b1_0, b1_1, sw_nil, sw_cons, obs]
theorem of_prod {w : Int32} {S1 S2 S3 S4 S5 : Int32 → ab_S → Option (Unit × ab_S)} : opF (fun m v => fX10_products_5 S1 S2 S3 S4 S5 m w v) := by
  intro m f v h
  obtain ⟨v', y1, y2, y3⟩ := mF_hasSign h 42
  refine ⟨v', ?_, y2, y3⟩
  show fX10_products_5 S1 S2 S3 S4 S5 (m + 1) w v = some ((), v')
  rw [fX10_products_5, y1]
  simp only [i10, i00, decide_true, decide_false, cnd_t, cnd_f, gd_nil, gd_t, b1_0, b1_1, sw_nil, sw_cons, obs]
end PU
/-! the law: parts and the whole of it -/
def fcL : List Int32 := [-1, -2, -3, -4]
theorem fc_E : ∀ a, a < 4 → cE (fcL.getD a 0) 2 (nI a)
  | 0, _ => Or.inl ⟨rfl, rfl, rfl⟩
  | 1, _ => Or.inr (Or.inl ⟨rfl, rfl, rfl⟩)
  | 2, _ => Or.inr (Or.inr (Or.inl ⟨rfl, rfl, rfl⟩))
  | 3, _ => Or.inr (Or.inr (Or.inr (Or.inl ⟨rfl, rfl, rfl⟩)))
  | a + 4, h => absurd h (by omega)
theorem fc_P : ∀ a, a < 4 → cP (fcL.getD a 0)
  | 0, _ => Or.inl rfl
  | 1, _ => Or.inr (Or.inl rfl)
  | 2, _ => Or.inr (Or.inr (Or.inl rfl))
  | 3, _ => Or.inr (Or.inr (Or.inr (Or.inl rfl)))
  | a + 4, h => absurd h (by omega)
theorem fc_0 : ∀ a, a < 4 → ¬ fcL.getD a 0 = 0 := by decide +kernel
section PU
variable {u v u' v' : ab_S} {n T i q : Nat} {cs ds : List Int32}
theorem c_factAt (u : ab_S) : (∃ d, d < 4 ∧ isW (19 + d) u ∧ fX1_factAt u = some (fcL.getD d 0, u)) ∨ ((∀ d, d < 4 → ¬ isW (19 + d) u) ∧ fX1_factAt u = some (0, u)) := by
  unfold fX1_factAt
  by_cases e0 : isW 19 u
  · refine Or.inl ⟨0, by decide, e0, ?_⟩
    rw [c_isWord, if_pos e0]
    simp only [i10, i00, decide_true, decide_false, cnd_t, cnd_f, gd_nil, gd_t, b1_0, b1_1, sw_nil, sw_cons, obs]
    rfl
  by_cases e1 : isW 20 u
  · refine Or.inl ⟨1, by decide, e1, ?_⟩
    rw [c_isWord, if_neg e0]
    simp only [i10, i00, decide_true, decide_false, cnd_t, cnd_f, gd_nil, gd_t, b1_0, b1_1, sw_nil, sw_cons, obs]
    rw [c_isWord, if_pos e1]
    simp only [i10, i00, decide_true, decide_false, cnd_t, cnd_f, gd_nil, gd_t, b1_0, b1_1, sw_nil, sw_cons, obs]
    rfl
  by_cases e2 : isW 21 u
  · refine Or.inl ⟨2, by decide, e2, ?_⟩
    rw [c_isWord, if_neg e0]
    simp only [i10, i00, decide_true, decide_false, cnd_t, cnd_f, gd_nil, gd_t, b1_0, b1_1, sw_nil, sw_cons, obs]
    rw [c_isWord, if_neg e1]
    simp only [i10, i00, decide_true, decide_false, cnd_t, cnd_f, gd_nil, gd_t, b1_0, b1_1, sw_nil, sw_cons, obs]
    rw [c_isWord, if_pos e2]
    simp only [i10, i00, decide_true, decide_false, cnd_t, cnd_f, gd_nil, gd_t, b1_0, b1_1, sw_nil, sw_cons, obs]
    rfl
  by_cases e3 : isW 22 u
  · refine Or.inl ⟨3, by decide, e3, ?_⟩
    rw [c_isWord, if_neg e0]
    simp only [i10, i00, decide_true, decide_false, cnd_t, cnd_f, gd_nil, gd_t, b1_0, b1_1, sw_nil, sw_cons, obs]
    rw [c_isWord, if_neg e1]
    simp only [i10, i00, decide_true, decide_false, cnd_t, cnd_f, gd_nil, gd_t, b1_0, b1_1, sw_nil, sw_cons, obs]
    rw [c_isWord, if_neg e2]
    simp only [i10, i00, decide_true, decide_false, cnd_t, cnd_f, gd_nil, gd_t, b1_0, b1_1, sw_nil, sw_cons, obs]
    rw [c_isWord, if_pos e3]
    simp only [i10, i00, decide_true, decide_false, cnd_t, cnd_f, gd_nil, gd_t, b1_0, b1_1, sw_nil, sw_cons, obs]
    rfl
  · refine Or.inr ⟨fun d hd => ?_, ?_⟩
    · obtain h | h | h | h : d = 0 ∨ d = 1 ∨ d = 2 ∨ d = 3 := by omega
      · subst h; exact e0
      · subst h; exact e1
      · subst h; exact e2
      · subst h; exact e3
    · rw [c_isWord, if_neg e0]
      simp only [i10, i00, decide_true, decide_false, cnd_t, cnd_f, gd_nil, gd_t, b1_0, b1_1, sw_nil, sw_cons, obs]
      rw [c_isWord, if_neg e1]
      simp only [i10, i00, decide_true, decide_false, cnd_t, cnd_f, gd_nil, gd_t, b1_0, b1_1, sw_nil, sw_cons, obs]
      rw [c_isWord, if_neg e2]
      simp only [i10, i00, decide_true, decide_false, cnd_t, cnd_f, gd_nil, gd_t, b1_0, b1_1, sw_nil, sw_cons, obs]
      rw [c_isWord, if_neg e3]
      simp only [i10, i00, decide_true, decide_false, cnd_t, cnd_f, gd_nil, gd_t, b1_0, b1_1, sw_nil, sw_cons, obs]
theorem p_isNum (h : pR n T i u v) : (u.1 1 7 = 3 ↔ v.1 2 i = 2) ∧ (u.1 1 7 = 3 → ∃ x, x < 10000 ∧ u.2.1 1 9 = lN x ∧ v.2.1 4 i = lN x) := by
  obtain h | ⟨a, b⟩ | ⟨a, b, w⟩ | ⟨a, b, c⟩ | ⟨a, b, -⟩ := h.cur
  · rw [h.1, h.2]; exact ⟨by decide +kernel, fun z => absurd z (by decide +kernel)⟩
  · rw [a, b]; exact ⟨by decide +kernel, fun z => absurd z (by decide +kernel)⟩
  · rw [a, b]; exact ⟨by decide +kernel, fun z => absurd z (by decide +kernel)⟩
  · rw [a, b]; exact ⟨by decide +kernel, fun _ => c⟩
  · rw [a, b]; exact ⟨by decide +kernel, fun z => absurd z (by decide +kernel)⟩
-- a piece that stands for itself: a number or a fact
theorem lw_leaf (hq : 14 ≤ q) (hT : T ≤ 1000) (h : pR n T i u v) (hL : lwR cs q u v) (hc : cs.length ≤ i) (hk : u.1 1 7 ≠ 0) {c x y : Int32} (hE : cE c x y) (hp : cP c) {D X : Nat} (hD : 1 ≤ D) {R1 : Nat → Int32 → Int32 → ab_S → Option (Int32 × ab_S)} {R2 R3 R4 : Nat → Int32 → ab_S → Option (Int32 × ab_S)} {S1 S2 S3 S4 S5 : Int32 → ab_S → Option (Unit × ab_S)} : lwO n T i q D X cs (fX1_readPart_97 R1 R2 R3 R4 q c u) (fX10_takePart_165 S1 S2 S3 S4 S5 x y v) u v := by
  have hi := h.lt hk
  have eA := c_add hL.1 (by omega) c
  have eM := m_emit hL.2.1 (by omega) x y
  have h1 : pR n T i (sI (sI u (q + 1) cs.length c) q 1 (nI (cs.length + 1))) (sI (sI (sI v 7 (1100 + cs.length) x) 8 (1100 + cs.length) y) 0 13 (nI (cs.length + 1))) := h.push hq
  have hk1 : (sI (sI u (q + 1) cs.length c) q 1 (nI (cs.length + 1))).1 1 7 ≠ 0 := by
    rw [sI_at, if_neg (by omega), sI_at, if_neg (by omega)]
    exact hk
  obtain ⟨u2, s1, s2, s3⟩ := p_step h1 hk1
  have g : Fr dSv (sI (sI (sI v 7 (1100 + cs.length) x) 8 (1100 + cs.length) y) 0 13 (nI (cs.length + 1))) (sI (sI (sI (sI v 7 (1100 + cs.length) x) 8 (1100 + cs.length) y) 0 13 (nI (cs.length + 1))) 0 7 (nI (i + 1))) := Fr.sI ⟨rfl, Or.inl rfl⟩
  refine Or.inl ⟨u2, _, i + 1, [c], Nat.le_refl _, Nat.lt_succ_self i, ?_, ?_, s2, (hL.push hE).sv hq s3 g, sgm_one hp hD, add_fr.trans (s3.mono su_L), emit_fr.trans (g.mono sv_L)⟩
  · unfold fX1_readPart_97
    rw [eA]
    simp only [i10, i00, decide_true, decide_false, cnd_t, cnd_f, gd_nil, gd_t, b1_0, b1_1, sw_nil, sw_cons, obs, s1]
  · unfold fX10_takePart_165
    rw [eM]
    simp only [obs, h1.at, show nI i + 1 = nI (i + 1) from nI_1 i]
-- a wrong piece
theorem lw_bad (h : pR n T i u v) (hL : lwR cs q u v) (hc : cs.length ≤ 1000) {D X K : Nat} (h1 : 1 ≤ K) (h2 : K < 16) : ∃ f, 1 ≤ f ∧ f < 20000 ∧ fX6_fail (nI K) u = some (0, sI u 1 10 (nI f)) ∧ fX10_wrong (nI K) v = some ((), sI v 0 8 (nI f)) ∧ lwO n T i q D X cs (some (0, sI u 1 10 (nI f))) (some ((), sI v 0 8 (nI f))) u v := by
  obtain ⟨f, f1, f2, f3, f4⟩ := p_fail h K h1 h2
  refine ⟨f, f1, f2, f3, f4, Or.inr ⟨f, _, _, cs.length, rfl, rfl, by rw [sI_at, if_pos ⟨rfl, rfl⟩], mF.mk8 f1 f2, ?_, by omega, Fr.sI (Or.inl ⟨rfl, by decide, by decide⟩), Fr.sI (Or.inl ⟨rfl, Or.inr rfl⟩)⟩⟩
  rw [sI_at, if_neg (by omega)]
  exact hL.2.1
theorem mF79 {f : Nat} (h : mF f v) {S1 S2 S3 S4 S5 : Int32 → ab_S → Option (Unit × ab_S)} (a b c : Int32) : fX10_takePart_79 S1 S2 S3 S4 S5 a b c v = some ((), v) := by
  unfold fX10_takePart_79
  simp only [h.nz.2, i10, i00, decide_true, decide_false, cnd_t, cnd_f, gd_nil, gd_t, b1_0, b1_1, sw_nil, sw_cons, obs]
theorem lv_part {d D X : Nat} (hd : d ≤ 5) {R1 Q1 : Nat → Int32 → Int32 → ab_S → Option (Int32 × ab_S)} {R2 R3 R4 Q2 Q3 Q4 : Nat → Int32 → ab_S → Option (Int32 × ab_S)} {S1 S2 S3 S4 S5 : Int32 → ab_S → Option (Unit × ab_S)} (hq : 14 ≤ q) (hX : X < 80) (hT : T ≤ 1000) (h3 : ∀ u, R3 q (nI d) u = fX1_readNot Q1 Q2 Q3 Q4 q (nI d) u) (h4 : ∀ u, R4 q (nI d) u = fX1_readBrackets Q1 Q2 Q3 Q4 q (nI d) u) (hW : d < 5 → lwJ n T q D X (fun u => Q1 q 0 (nI (d + 1)) u) (fun v => S1 (nI (d + 1)) v)) (hP : d < 5 → lwJ n T q D X (fun u => Q2 q (nI (d + 1)) u) (fun v => S5 (nI (d + 1)) v)) (hD : 1 ≤ D) : lwJ n T q D (X + 1) (fun u => fX1_readPart R1 R2 R3 R4 q (nI d) u) (fun v => fX10_takePart S1 S2 S3 S4 S5 (nI d) v) := by
  intro u v i cs h hL hc
  show lwO n T i q D (X + 1) cs (fX1_readPart R1 R2 R3 R4 q (nI d) u) (fX10_takePart S1 S2 S3 S4 S5 (nI d) v) u v
  have h7 := h.at
  have h8 := h.ok
  have hi := h.i1000
  have le0 : ((0 : Int32) ≤ 0) = True := eq_true (by decide +kernel)
  have lt0 : ((-1 : Int32) < 0) = True := eq_true (by decide +kernel)
  have e1 : nI d + 1 = nI (d + 1) := nI_1 d
  obtain ⟨k1, k2⟩ := p_isNum h
  obtain ⟨b, s1, s2, s3⟩ := p_isSign h (s := 40) (by decide)
  have s1' : fX6_isSign 40 u = some (b01 b, u) := s1
  have s2' : fX10_isSign 40 v = some (b01 b, v) := s2
  obtain ⟨r, r1, r2, r3⟩ := m_wordHere h 19 4 (by decide)
  have r1' : fX10_wordHere 19 4 v = some (r, v) := r1
  have w16 : fX10_isWord 16 v = some (if isW 16 u then 1 else 0, v) := m_isWord h (k := 16) (by decide)
  have ix : ab_ix (nI i) 1002 = true := ix_nI (by omega) (by decide)
  have nci : nc (nI i) = i := nc_nI (by omega)
  -- too deep
  have deep : d = 5 → ∀ (s0 w : Int32) (a c : Int32), lwO n T i q D (X + 1) cs (fX1_readPart_62 R1 R2 R3 R4 q (nI d) s0 a c u) (fX10_takePart_69 S1 S2 S3 S4 S5 (nI d) s0 w v) u v := by
    intro ed s0 w a c
    subst ed
    obtain ⟨f, f1, f2, f3, f4, f5⟩ := lw_bad h hL (by omega) (D := D) (X := X + 1) (K := 5) (by decide) (by decide)
    have f3' : fX6_fail 5 u = some (0, sI u 1 10 (nI f)) := f3
    have f4' : fX10_wrong 5 v = some ((), sI v 0 8 (nI f)) := f4
    unfold fX1_readPart_62 fX10_takePart_69
    simp only [show (nI 5 ≤ 4) = False from eq_false (by decide +kernel), show (nI 5 = 5) = True from eq_true rfl, i10, i00, decide_true, decide_false, cnd_t, cnd_f, gd_nil, gd_t, b1_0, b1_1, sw_nil, sw_cons, obs, f3', f4', mF79 (mF.mk8 (v := v) f1 f2)]
    exact f5
  have n5 : d < 5 → (nI d = 5) = False := fun z => eq_false fun z2 => by
    have := (nI_eq (b := 5) (show d < 2 ^ 31 by omega) (by decide)).mp z2
    omega
  have n4 : d < 5 → (nI d ≤ 4) = True := fun z => eq_true (show nI d ≤ nI 4 from (nI_leI (by omega) (by decide)).mpr (by omega))
  -- the reference passes over what isn't there
  have noW : ∀ (ee : ¬ isW 16 u), fX10_hasWord 16 v = some (0, sI v 0 7 (nI i)) := fun ee => m_hasWord0 h (k := 16) (by decide) ee
  have g0 : Fr dSv v (sI v 0 7 (nI i)) := Fr.sI ⟨rfl, Or.inl rfl⟩
  have hL0 : lwR cs q u (sI v 0 7 (nI i)) := hL.sv hq Fr.rfl' g0
  obtain ⟨bb, t1, t2, t3, t4, t5⟩ := m_hasSign h.same (s := 40) (by decide)
  have ebb : bb = b := by
    have := s1.symm.trans t1
    cases b <;> cases bb
    · rfl
    · exact absurd (show b01 true = b01 false from (congrArg Prod.fst (Option.some.inj this)).symm) (by decide +kernel)
    · exact absurd (show b01 true = b01 false from congrArg Prod.fst (Option.some.inj this)) (by decide +kernel)
    · rfl
  subst ebb
  have g1 : Fr dSv (sI v 0 7 (nI i)) (sI (sI v 0 7 (nI i)) 0 7 (nI i)) := Fr.sI ⟨rfl, Or.inl rfl⟩
  unfold fX1_readPart fX10_takePart
  rw [h7, h8]
  simp only [le0, i10, i00, decide_true, decide_false, cnd_t, cnd_f, gd_nil, gd_t, b1_0, b1_1, sw_nil, sw_cons, obs, ix, nci]
  by_cases ek : u.1 1 7 = 3
  · -- a number
    have ek2 := k1.mp ek
    have n16 : ¬ isW 16 u := fun z => absurd (z.1.symm.trans ek) (by decide +kernel)
    have nf : ∀ a, a < 4 → ¬ isW (19 + a) u := fun a _ z => absurd (z.1.symm.trans ek) (by decide +kernel)
    have eb : bb = false := by
      cases bb
      · rfl
      · exact absurd ((s3 rfl).1.symm.trans ek) (by decide +kernel)
    subst eb
    have er := r3 nf
    subst er
    obtain ⟨a, a1, a2, a3⟩ | ⟨a2, a3⟩ := c_factAt u
    · exact absurd a2 (nf a a1)
    simp only [ek, ek2, i10, i00, decide_true, decide_false, cnd_t, cnd_f, gd_nil, gd_t, b1_0, b1_1, sw_nil, sw_cons, obs]
    unfold fX1_readPart_13 fX10_takePart_26
    rw [c_isWord, if_neg n16]
    simp only [i10, i00, decide_true, decide_false, cnd_t, cnd_f, gd_nil, gd_t, b1_0, b1_1, sw_nil, sw_cons, obs, s1', a3, r1', lt0]
    by_cases ed : d = 5
    · exact deep ed 1 (-1) _ _
    have hd5 : d < 5 := by omega
    have t5' : fX10_hasSign 40 (sI v 0 7 (nI i)) = some (0, sI (sI v 0 7 (nI i)) 0 7 (nI i)) := t5 rfl
    obtain ⟨x, x1, x2, x3⟩ := k2 ek
    have hk : u.1 1 7 ≠ 0 := by rw [ek]; decide +kernel
    have r := lw_leaf (c := nI x) (x := 1) (y := nI x) (D := D) (X := X + 1) (R1 := R1) (R2 := R2) (R3 := R3) (R4 := R4) (S1 := S1) (S2 := S2) (S3 := S3) (S4 := S4) (S5 := S5) hq hT h.same.same (hL0.sv hq Fr.rfl' g1) hc hk (Or.inr (Or.inr (Or.inr (Or.inr (Or.inr (Or.inr (Or.inr (Or.inr (Or.inr (Or.inr (Or.inr (Or.inr ⟨x, x1, rfl, rfl, rfl⟩)))))))))))) (Or.inr (Or.inr (Or.inr (Or.inr ⟨x, x1, rfl⟩)))) hD
    unfold fX1_readPart_62 fX1_readPart_82 fX10_takePart_69 fX10_takePart_79 fX10_takePart_147
    simp only [n4 hd5, n5 hd5, i10, i00, decide_true, decide_false, cnd_t, cnd_f, gd_nil, gd_t, b1_0, b1_1, sw_nil, sw_cons, obs, x2, lN_i, h8, le0, noW n16, t5']
    simp only [sI_at, sI_l, sJ_at, sJ_i, sJ_m, sM_at, sM_i, sM_l, Nat.reduceEqDiff, false_and, and_false, true_and, and_true, and_self, if_false, if_true, ite_false, ite_true, ix, nci, i10, i00, decide_true, decide_false, cnd_t, cnd_f, gd_nil, gd_t, b1_0, b1_1, sw_nil, sw_cons, obs, x3, lN_i]
    obtain ⟨u2, v2, i2, es, a1, a2, a3, a4, a5, a6, a7, a8, a9⟩ | ⟨f, u2, v2, k, a1, a2, a3, a4, a5, a6, a7, a8⟩ := r
    · exact Or.inl ⟨u2, v2, i2, es, a1, a2, a3, a4, a5, a6, a7, a8, (g0.mono sv_L).trans ((g1.mono sv_L).trans a9)⟩
    · exact Or.inr ⟨f, u2, v2, k, a1, a2, a3, a4, a5, a6, a7, (g0.mono sv_L).trans ((g1.mono sv_L).trans a8)⟩
  have ek2 : ¬ v.1 2 i = 2 := fun z => ek (k1.mpr z)
  simp only [ek, ek2, i10, i00, decide_true, decide_false, cnd_t, cnd_f, gd_nil, gd_t, b1_0, b1_1, sw_nil, sw_cons, obs]
  unfold fX1_readPart_13 fX10_takePart_26
  rw [c_isWord]
  by_cases e16 : isW 16 u
  · -- not
    have nf : ∀ a, a < 4 → ¬ isW (19 + a) u := fun a ha z => by
      have := isW.uniq (k := 16) (j := 19 + a) (by omega) (by omega) e16 z
      omega
    have eb : bb = false := by
      cases bb
      · rfl
      · exact absurd ((s3 rfl).1.symm.trans e16.1) (by decide +kernel)
    subst eb
    have er := r3 nf
    subst er
    obtain ⟨a, a1, a2, a3⟩ | ⟨a2, a3⟩ := c_factAt u
    · exact absurd a2 (nf a a1)
    rw [if_pos e16] at w16
    simp only [if_pos e16, i10, i00, decide_true, decide_false, cnd_t, cnd_f, gd_nil, gd_t, b1_0, b1_1, sw_nil, sw_cons, obs, s1', s2', b01, Bool.false_eq_true, if_false, a3, r1', lt0, w16]
    by_cases ed : d = 5
    · exact deep ed 0 (-1) _ _
    have hd5 : d < 5 := by omega
    have hk : u.1 1 7 ≠ 0 := by rw [e16.1]; decide +kernel
    obtain ⟨u1, p1, p2, p3⟩ := p_step h hk
    have gg : Fr dSv v (sI v 0 7 (nI (i + 1))) := Fr.sI ⟨rfl, Or.inl rfl⟩
    have ew : fX10_hasWord 16 v = some (1, sI v 0 7 (nI (i + 1))) := m_hasWord1 h (k := 16) (by decide) e16
    have hT1 := p2.2.2.1
    unfold fX1_readPart_62 fX10_takePart_69 fX10_takePart_79
    simp only [n4 hd5, n5 hd5, i10, i00, decide_true, decide_false, cnd_t, cnd_f, gd_nil, gd_t, b1_0, b1_1, sw_nil, sw_cons, obs, p1, h3, e1, h8, le0, ew]
    unfold fX1_readNot
    simp only [e1]
    obtain ⟨u2, v2, i2, es, a1, a2, a3, a4, a5, a6, a7, a8, a9⟩ | ⟨f, u2, v2, k, a1, a2, a3, a4, a5, a6, a7, a8⟩ := hP hd5 u1 _ (i + 1) cs p2 (hL.sv hq p3 gg) (by omega)
    · have a3' : Q2 q (nI (d + 1)) u1 = some (1, u2) := a3
      have a4' : S5 (nI (d + 1)) (sI v 0 7 (nI (i + 1))) = some ((), v2) := a4
      have hi2 := a5.2.2.1
      have hlen : (cs ++ es).length + 1 ≤ i2 := by rw [List.length_append]; omega
      have eA := c_add a6.1 (by omega) (-5)
      have eM := m_emit a6.2.1 (by omega) 3 0
      have hp := a6.push (c := -5) (x := 3) (y := 0) (Or.inr (Or.inr (Or.inr (Or.inr (Or.inl ⟨rfl, rfl, rfl⟩)))))
      rw [List.append_assoc] at hp
      refine Or.inl ⟨_, _, i2, es ++ [-5], by rw [List.length_append, List.length_singleton]; omega, by omega, ?_, ?_, a5.push hq, hp, sgm_not a7, (p3.mono su_L).trans (a8.trans add_fr), (gg.mono sv_L).trans (a9.trans emit_fr)⟩
      · simp only [a3', i10, i00, decide_true, decide_false, cnd_t, cnd_f, gd_nil, gd_t, b1_0, b1_1, sw_nil, sw_cons, obs, eA]
      · simp only [a4', obs, eM]
    · have a1' : Q2 q (nI (d + 1)) u1 = some (0, u2) := a1
      have a2' : S5 (nI (d + 1)) (sI v 0 7 (nI (i + 1))) = some ((), v2) := a2
      have eM := m_emit a5 (by omega) 3 0
      refine Or.inr ⟨f, u2, _, k + 1, ?_, ?_, a3, a4.emit (m := 1100 + k) (x := 3) (y := 0) (z := nI (k + 1)), ?_, by omega, (p3.mono su_L).trans a7, (gg.mono sv_L).trans (a8.trans emit_fr)⟩
      · simp only [a1', i10, i00, decide_true, decide_false, cnd_t, cnd_f, gd_nil, gd_t, b1_0, b1_1, sw_nil, sw_cons, obs]
      · simp only [a2', obs, eM]
      · rw [sI_at, if_pos ⟨rfl, rfl⟩]
  rw [if_neg e16] at w16
  cases bb
  · obtain ⟨a, a1, a2, a3⟩ | ⟨a2, a3⟩ := c_factAt u
    · -- a fact
      have er := r2 a a1 a2
      subst er
      have na : (nI a < 0) = False := eq_false (nI_pos (by omega))
      have nz := fc_0 a a1
      simp only [if_neg e16, i10, i00, decide_true, decide_false, cnd_t, cnd_f, gd_nil, gd_t, b1_0, b1_1, sw_nil, sw_cons, obs, s1', b01, Bool.false_eq_true, if_false, a3, r1', na, nz]
      by_cases ed : d = 5
      · exact deep ed 0 (nI a) _ _
      have hd5 : d < 5 := by omega
      have t5' : fX10_hasSign 40 (sI v 0 7 (nI i)) = some (0, sI (sI v 0 7 (nI i)) 0 7 (nI i)) := t5 rfl
      have hk : u.1 1 7 ≠ 0 := by rw [a2.1]; decide +kernel
      have r := lw_leaf (D := D) (X := X + 1) (R1 := R1) (R2 := R2) (R3 := R3) (R4 := R4) (S1 := S1) (S2 := S2) (S3 := S3) (S4 := S4) (S5 := S5) hq hT h.same.same (hL0.sv hq Fr.rfl' g1) hc hk (fc_E a a1) (fc_P a a1) hD
      unfold fX1_readPart_62 fX1_readPart_82 fX10_takePart_69 fX10_takePart_79 fX10_takePart_147
      simp only [n4 hd5, n5 hd5, i10, i00, decide_true, decide_false, cnd_t, cnd_f, gd_nil, gd_t, b1_0, b1_1, sw_nil, sw_cons, obs, nz, h8, le0, noW e16, t5']
      obtain ⟨u2, v2, i2, es, a1, a2, a3, a4, a5, a6, a7, a8, a9⟩ | ⟨f, u2, v2, k, a1, a2, a3, a4, a5, a6, a7, a8⟩ := r
      · exact Or.inl ⟨u2, v2, i2, es, a1, a2, a3, a4, a5, a6, a7, a8, (g0.mono sv_L).trans ((g1.mono sv_L).trans a9)⟩
      · exact Or.inr ⟨f, u2, v2, k, a1, a2, a3, a4, a5, a6, a7, (g0.mono sv_L).trans ((g1.mono sv_L).trans a8)⟩
    · -- nothing that can stand here
      have er := r3 a2
      subst er
      obtain ⟨f, f1, f2, f3, f4, f5⟩ := lw_bad h hL (by omega) (D := D) (X := X + 1) (K := 1) (by decide) (by decide)
      have f3' : fX6_fail 1 u = some (0, sI u 1 10 (nI f)) := f3
      have f4' : fX10_wrong 1 v = some ((), sI v 0 8 (nI f)) := f4
      simp only [if_neg e16, i10, i00, decide_true, decide_false, cnd_t, cnd_f, gd_nil, gd_t, b1_0, b1_1, sw_nil, sw_cons, obs, s1', s2', b01, Bool.false_eq_true, if_false, a3, r1', lt0, w16, f3', f4', mF79 (mF.mk8 (v := v) f1 f2)]
      exact f5
  · -- brackets
    have k4 := (s3 rfl).1
    have nf : ∀ a, a < 4 → ¬ isW (19 + a) u := fun a _ z => absurd (z.1.symm.trans k4) (by decide +kernel)
    have er := r3 nf
    subst er
    obtain ⟨a, a1, a2, a3⟩ | ⟨a2, a3⟩ := c_factAt u
    · exact absurd a2 (nf a a1)
    simp only [if_neg e16, i10, i00, decide_true, decide_false, cnd_t, cnd_f, gd_nil, gd_t, b1_0, b1_1, sw_nil, sw_cons, obs, s1', s2', b01, if_true, a3, r1', lt0]
    by_cases ed : d = 5
    · exact deep ed 0 (-1) _ _
    have hd5 : d < 5 := by omega
    have hk : u.1 1 7 ≠ 0 := by rw [k4]; decide +kernel
    obtain ⟨u1, p1, p2, p3⟩ := p_step h.same hk
    have gg : Fr dSv (sI v 0 7 (nI i)) (sI (sI v 0 7 (nI i)) 0 7 (nI (i + 1))) := Fr.sI ⟨rfl, Or.inl rfl⟩
    have t4' : fX10_hasSign 40 (sI v 0 7 (nI i)) = some (1, sI (sI v 0 7 (nI i)) 0 7 (nI (i + 1))) := t4 rfl
    have hT1 := p2.2.2.1
    unfold fX1_readPart_62 fX10_takePart_69 fX10_takePart_79
    simp only [n4 hd5, n5 hd5, i10, i00, decide_true, decide_false, cnd_t, cnd_f, gd_nil, gd_t, b1_0, b1_1, sw_nil, sw_cons, obs, p1, h4, e1, h8, le0, noW e16, t4']
    unfold fX1_readBrackets
    simp only [e1]
    obtain ⟨u2, v2, i2, es, a1, a2, a3, a4, a5, a6, a7, a8, a9⟩ | ⟨f, u2, v2, k, a1, a2, a3, a4, a5, a6, a7, a8⟩ := hW hd5 u1 _ (i + 1) cs p2 (hL0.sv hq p3 gg) (by omega)
    · have a3' : Q1 q 0 (nI (d + 1)) u1 = some (1, u2) := a3
      have a4' : S1 (nI (d + 1)) (sI (sI v 0 7 (nI i)) 0 7 (nI (i + 1))) = some ((), v2) := a4
      obtain ⟨b, q1, q2, q3⟩ := p_isSign a5 (s := 41) (by decide)
      have q1' : fX6_isSign 41 u2 = some (b01 b, u2) := q1
      have q2' : fX10_isSign 41 v2 = some (b01 b, v2) := q2
      simp only [a3', a4', i10, i00, decide_true, decide_false, cnd_t, cnd_f, gd_nil, gd_t, b1_0, b1_1, sw_nil, sw_cons, obs, q1']
      unfold fX10_takeSign
      simp only [q2', i10, i00, decide_true, decide_false, cnd_t, cnd_f, gd_nil, gd_t, b1_0, b1_1, sw_nil, sw_cons, obs]
      have hi2 := a5.2.2.1
      have FV : Fr dLv v v2 := (g0.mono sv_L).trans ((gg.mono sv_L).trans a9)
      have FU : Fr (dLu q) u u2 := (p3.mono su_L).trans a8
      cases b
      · have hlen : (cs ++ es).length ≤ 1000 := by rw [List.length_append]; omega
        obtain ⟨f, f1, f2, f3, f4, f5⟩ := lw_bad a5 a6 hlen (D := D) (X := X + 1) (K := 1) (by decide) (by decide)
        have f3' : fX6_fail 1 u2 = some (0, sI u2 1 10 (nI f)) := f3
        have f4' : fX10_wrong 1 v2 = some ((), sI v2 0 8 (nI f)) := f4
        refine Or.inr ⟨f, sI u2 1 10 (nI f), sI v2 0 8 (nI f), (cs ++ es).length, ?_, ?_, by rw [sI_at, if_pos ⟨rfl, rfl⟩], mF.mk8 f1 f2, ?_, by omega, FU.trans (Fr.sI (Or.inl ⟨rfl, by decide, by decide⟩)), FV.trans (Fr.sI (Or.inl ⟨rfl, Or.inr rfl⟩))⟩
        · simp only [b01, Bool.false_eq_true, if_false, i10, i00, decide_true, decide_false, cnd_t, cnd_f, gd_nil, gd_t, b1_0, b1_1, sw_nil, sw_cons, obs, f3']
        · simp only [b01, Bool.false_eq_true, if_false, i10, i00, decide_true, decide_false, cnd_t, cnd_f, gd_nil, gd_t, b1_0, b1_1, sw_nil, sw_cons, obs, f4']
        · rw [sI_at, if_neg (by omega)]
          exact a6.2.1
      · have hk2 : u2.1 1 7 ≠ 0 := by rw [(q3 rfl).1]; decide +kernel
        obtain ⟨u3, z1, z2, z3⟩ := p_step a5 hk2
        have g5 : Fr dSv v2 (sI v2 0 7 (nI (i2 + 1))) := Fr.sI ⟨rfl, Or.inl rfl⟩
        refine Or.inl ⟨u3, sI v2 0 7 (nI (i2 + 1)), i2 + 1, es, by omega, by omega, ?_, ?_, z2, a6.sv hq z3 g5, a7, FU.trans (z3.mono su_L), FV.trans (g5.mono sv_L)⟩
        · simp only [b01, if_true, i10, i00, decide_true, decide_false, cnd_t, cnd_f, gd_nil, gd_t, b1_0, b1_1, sw_nil, sw_cons, obs, z1]
        · simp only [b01, if_true, i10, i00, decide_true, decide_false, cnd_t, cnd_f, gd_nil, gd_t, b1_0, b1_1, sw_nil, sw_cons, obs, a5.at, show nI i2 + 1 = nI (i2 + 1) from nI_1 i2]
    · have a1' : Q1 q 0 (nI (d + 1)) u1 = some (0, u2) := a1
      have a2' : S1 (nI (d + 1)) (sI (sI v 0 7 (nI i)) 0 7 (nI (i + 1))) = some ((), v2) := a2
      refine Or.inr ⟨f, u2, v2, k, ?_, ?_, a3, a4, a5, by omega, (p3.mono su_L).trans a7, (g0.mono sv_L).trans ((gg.mono sv_L).trans a8)⟩
      · simp only [a1', i10, i00, decide_true, decide_false, cnd_t, cnd_f, gd_nil, gd_t, b1_0, b1_1, sw_nil, sw_cons, obs]
      · simp only [a2', obs, mF_takeSign a4]
-- all depths
theorem lw_W {d : Nat} {D X N M : Nat} (hq : 14 ≤ q) (hX : X < 70) (hT : T ≤ 1000) (hd : d ≤ 5) (hP : lwJ n T q D X (fun u => (zX1_readLevel N).2.1 q (nI d) u) (fun v => (zX10_whole M).2.2.2.2 (nI d) v)) : lwJ n T q (D + 4) (X + 4) (fun u => (zX1_readLevel (N + 5)).1 q 0 (nI d) u) (fun v => (zX10_whole (M + 4)).1 (nI d) v) := by
  have j4 : lwJ n T q D X (fun u => (zX1_readLevel (N + 1)).1 q (nI (3 + 1)) (nI d) u) (fun v => (zX10_whole M).2.2.2.2 (nI d) v) := by
    intro u v i cs h hL hc
    have r := hP u v i cs h hL hc
    have e : (zX1_readLevel (N + 1)).1 q (nI (3 + 1)) (nI d) u = (zX1_readLevel N).2.1 q (nI d) u := by
      show fX1_readLevel (zX1_readLevel N).1 (zX1_readLevel N).2.1 (zX1_readLevel N).2.2.1 (zX1_readLevel N).2.2.2 q (nI 4) (nI d) u = _
      unfold fX1_readLevel
      simp only [show (nI 4 ≤ 3) = False from eq_false (by decide +kernel), i10, i00, decide_true, decide_false, cnd_t, cnd_f, gd_nil, gd_t, b1_0, b1_1, sw_nil, sw_cons, obs]
      obtain ⟨u2, v2, i2, es, a1, a2, a3, a4, a5, a6, a7, a8, a9⟩ | ⟨f, u2, v2, k, a1, a2, a3, a4, a5, a6, a7, a8⟩ := r
      · have a3' : (zX1_readLevel N).2.1 q (nI d) u = some (1, u2) := a3
        rw [a3']
        simp only [i10, i00, decide_true, decide_false, cnd_t, cnd_f, gd_nil, gd_t, b1_0, b1_1, sw_nil, sw_cons, obs]
      · have a1' : (zX1_readLevel N).2.1 q (nI d) u = some (0, u2) := a1
        rw [a1']
        simp only [i10, i00, decide_true, decide_false, cnd_t, cnd_f, gd_nil, gd_t, b1_0, b1_1, sw_nil, sw_cons, obs]
    show lwO n T i q D X cs ((zX1_readLevel (N + 1)).1 q (nI (3 + 1)) (nI d) u) _ u v
    rw [e]
    exact r
  have j3 := lv_level (lv := 3) (w := nI d) (R1 := (zX1_readLevel (N + 1)).1) (R2 := (zX1_readLevel (N + 1)).2.1) (R3 := (zX1_readLevel (N + 1)).2.2.1) (R4 := (zX1_readLevel (N + 1)).2.2.2) hq (by decide) (by decide) (by omega) hT j4 (op_prod (w := nI d) (S1 := (zX10_whole M).1) (S2 := (zX10_whole M).2.1) (S3 := (zX10_whole M).2.2.1) (S4 := (zX10_whole M).2.2.2.1) (S5 := (zX10_whole M).2.2.2.2)) of_prod
  have j2 := lv_level (lv := 2) (w := nI d) (R1 := (zX1_readLevel (N + 2)).1) (R2 := (zX1_readLevel (N + 2)).2.1) (R3 := (zX1_readLevel (N + 2)).2.2.1) (R4 := (zX1_readLevel (N + 2)).2.2.2) hq (by decide) (by decide) (by omega) hT j3 (op_sum (w := nI d) (S1 := (zX10_whole (M + 1)).1) (S2 := (zX10_whole (M + 1)).2.1) (S3 := (zX10_whole (M + 1)).2.2.1) (S4 := (zX10_whole (M + 1)).2.2.2.1) (S5 := (zX10_whole (M + 1)).2.2.2.2)) of_sum
  have j1 := lv_comp (w := nI d) (R1 := (zX1_readLevel (N + 3)).1) (R2 := (zX1_readLevel (N + 3)).2.1) (R3 := (zX1_readLevel (N + 3)).2.2.1) (R4 := (zX1_readLevel (N + 3)).2.2.2) (S1 := (zX10_whole (M + 2)).1) (S2 := (zX10_whole (M + 2)).2.1) (S3 := (zX10_whole (M + 2)).2.2.1) (S4 := (zX10_whole (M + 2)).2.2.2.1) (S5 := (zX10_whole (M + 2)).2.2.2.2) hq (by omega) hT j2
  have j0 := lv_level (lv := 0) (w := nI d) (R1 := (zX1_readLevel (N + 4)).1) (R2 := (zX1_readLevel (N + 4)).2.1) (R3 := (zX1_readLevel (N + 4)).2.2.1) (R4 := (zX1_readLevel (N + 4)).2.2.2) hq (by decide) (by decide) (by omega) hT j1 (op_join (w := nI d) (S1 := (zX10_whole (M + 3)).1) (S2 := (zX10_whole (M + 3)).2.1) (S3 := (zX10_whole (M + 3)).2.2.1) (S4 := (zX10_whole (M + 3)).2.2.2.1) (S5 := (zX10_whole (M + 3)).2.2.2.2)) of_join
  exact j0
theorem lwJ.mono {D D' X X' : Nat} {Y : ab_S → Option (Int32 × ab_S)} {Zf : ab_S → Option (Unit × ab_S)} (h : lwJ n T q D X Y Zf) (hd : D ≤ D') (hx : X ≤ X') : lwJ n T q D' X' Y Zf := by
  intro u v i cs h1 h2 h3
  obtain ⟨u2, v2, i2, es, a1, a2, a3, a4, a5, a6, a7, a8, a9⟩ | ⟨f, u2, v2, k, a1, a2, a3, a4, a5, a6, a7, a8⟩ := h u v i cs h1 h2 h3
  · exact Or.inl ⟨u2, v2, i2, es, a1, a2, a3, a4, a5, a6, a7.mono hd, a8, a9⟩
  · exact Or.inr ⟨f, u2, v2, k, a1, a2, a3, a4, a5, by omega, a7, a8⟩
theorem lz_P (hq : 14 ≤ q) (hT : T ≤ 1000) : ∀ k, k ≤ 5 → ∀ N M, 2 + 7 * k ≤ N → 1 + 5 * k ≤ M → lwJ n T q (1 + 4 * k) (1 + 5 * k) (fun u => (zX1_readLevel N).2.1 q (nI (5 - k)) u) (fun v => (zX10_whole M).2.2.2.2 (nI (5 - k)) v) := by
  intro k
  induction k with
  | zero =>
    intro _ N M hN hM
    obtain ⟨N, rfl⟩ : ∃ m, N = m + 2 := ⟨N - 2, by omega⟩
    obtain ⟨M, rfl⟩ : ∃ m, M = m + 1 := ⟨M - 1, by omega⟩
    exact lv_part (d := 5) (X := 0) (D := 1) (Nat.le_refl 5) (R1 := (zX1_readLevel (N + 1)).1) (R2 := (zX1_readLevel (N + 1)).2.1) (R3 := (zX1_readLevel (N + 1)).2.2.1) (R4 := (zX1_readLevel (N + 1)).2.2.2) (Q1 := (zX1_readLevel N).1) (Q2 := (zX1_readLevel N).2.1) (Q3 := (zX1_readLevel N).2.2.1) (Q4 := (zX1_readLevel N).2.2.2) (S1 := (zX10_whole M).1) (S2 := (zX10_whole M).2.1) (S3 := (zX10_whole M).2.2.1) (S4 := (zX10_whole M).2.2.2.1) (S5 := (zX10_whole M).2.2.2.2) hq (by decide) hT (fun _ => rfl) (fun _ => rfl) (fun z => absurd z (by decide)) (fun z => absurd z (by decide)) (Nat.le_refl 1)
  | succ k ih =>
    intro hk N M hN hM
    obtain ⟨N, rfl⟩ : ∃ m, N = m + 5 + 2 := ⟨N - 7, by omega⟩
    obtain ⟨M, rfl⟩ : ∃ m, M = m + 4 + 1 := ⟨M - 5, by omega⟩
    have ed : 5 - (k + 1) + 1 = 5 - k := by omega
    have hW := lw_W hq (by omega) hT (by omega) (ih (by omega) N M (by omega) (by omega))
    have hP := (ih (by omega) (N + 5) (M + 4) (by omega) (by omega)).mono (D' := 1 + 4 * k + 4) (X' := 1 + 5 * k + 4) (by omega) (by omega)
    have r := lv_part (n := n) (T := T) (q := q) (d := 5 - (k + 1)) (X := 1 + 5 * k + 4) (D := 1 + 4 * k + 4) (by omega) (R1 := (zX1_readLevel (N + 5 + 1)).1) (R2 := (zX1_readLevel (N + 5 + 1)).2.1) (R3 := (zX1_readLevel (N + 5 + 1)).2.2.1) (R4 := (zX1_readLevel (N + 5 + 1)).2.2.2) (Q1 := (zX1_readLevel (N + 5)).1) (Q2 := (zX1_readLevel (N + 5)).2.1) (Q3 := (zX1_readLevel (N + 5)).2.2.1) (Q4 := (zX1_readLevel (N + 5)).2.2.2) (S1 := (zX10_whole (M + 4)).1) (S2 := (zX10_whole (M + 4)).2.1) (S3 := (zX10_whole (M + 4)).2.2.1) (S4 := (zX10_whole (M + 4)).2.2.2.1) (S5 := (zX10_whole (M + 4)).2.2.2.2) hq (by omega) hT (fun _ => rfl) (fun _ => rfl) (fun _ => by rw [ed]; exact hW) (fun _ => by rw [ed]; exact hP) (by omega)
    exact r.mono (by omega) (by omega)
theorem lz_top (hq : 14 ≤ q) (hT : T ≤ 1000) : lwJ n T q 30 30 (fun u => wX1_readLevel q 0 0 u) (fun v => wX10_whole 0 v) := by
  have h := lw_W (d := 0) hq (by decide) hT (by decide) (lz_P (n := n) hq hT 5 (Nat.le_refl 5) 55 46 (by decide) (by decide))
  exact h.mono (by decide) (by decide)
end PU
