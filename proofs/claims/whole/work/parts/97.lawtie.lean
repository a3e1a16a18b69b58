/-! the law: parts and the whole of it -/
def fcL : List Int32 := [-1, -2, -3, -4]
theorem fc_E : ∀ a, a < 4 → cE (fcL.getD a 0) 2 (nI a)
  | 0, _ => Or.inl ⟨rfl, rfl, rfl⟩
  | 1, _ => Or.inr (Or.inl ⟨rfl, rfl, rfl⟩)
  | 2, _ => Or.inr (Or.inr (Or.inl ⟨rfl, rfl, rfl⟩))
  | 3, _ => Or.inr (Or.inr (Or.inr (Or.inl ⟨rfl, rfl, rfl⟩)))
  | a + 4, h => absurd h (by omega)
theorem fc_P : ∀ a, a < 4 → cP (fcL.getD a 0)
  | 0, _ => Or.inl rfl
  | 1, _ => Or.inr (Or.inl rfl)
  | 2, _ => Or.inr (Or.inr (Or.inl rfl))
  | 3, _ => Or.inr (Or.inr (Or.inr (Or.inl rfl)))
  | a + 4, h => absurd h (by omega)
theorem fc_0 : ∀ a, a < 4 → ¬ fcL.getD a 0 = 0 := by decide +kernel
section PU
variable {u v u' v' : ab_S} {n T i q : Nat} {cs ds : List Int32}
theorem c_factAt (u : ab_S) : (∃ d, d < 4 ∧ isW (19 + d) u ∧ fX1_factAt u = some (fcL.getD d 0, u)) ∨ ((∀ d, d < 4 → ¬ isW (19 + d) u) ∧ fX1_factAt u = some (0, u)) := by
  unfold fX1_factAt
  by_cases e0 : isW 19 u
  · refine Or.inl ⟨0, by decide, e0, ?_⟩
    rw [c_isWord, if_pos e0]
    simp only [i10, i00, decide_true, decide_false, cnd_t, cnd_f, gd_nil, gd_t, b1_0, b1_1, sw_nil, sw_cons, obs]
    rfl
  by_cases e1 : isW 20 u
  · refine Or.inl ⟨1, by decide, e1, ?_⟩
    rw [c_isWord, if_neg e0]
    simp only [i10, i00, decide_true, decide_false, cnd_t, cnd_f, gd_nil, gd_t, b1_0, b1_1, sw_nil, sw_cons, obs]
    rw [c_isWord, if_pos e1]
    simp only [i10, i00, decide_true, decide_false, cnd_t, cnd_f, gd_nil, gd_t, b1_0, b1_1, sw_nil, sw_cons, obs]
    rfl
  by_cases e2 : isW 21 u
  · refine Or.inl ⟨2, by decide, e2, ?_⟩
    rw [c_isWord, if_neg e0]
    simp only [i10, i00, decide_true, decide_false, cnd_t, cnd_f, gd_nil, gd_t, b1_0, b1_1, sw_nil, sw_cons, obs]
    rw [c_isWord, if_neg e1]
    simp only [i10, i00, decide_true, decide_false, cnd_t, cnd_f, gd_nil, gd_t, b1_0, b1_1, sw_nil, sw_cons, obs]
    rw [c_isWord, if_pos e2]
    simp only [i10, i00, decide_true, decide_false, cnd_t, cnd_f, gd_nil, gd_t, b1_0, b1_1, sw_nil, sw_cons, obs]
    rfl
  by_cases e3 : isW 22 u
  · refine Or.inl ⟨3, by decide, e3, ?_⟩
    rw [c_isWord, if_neg e0]
    simp only [i10, i00, decide_true, decide_false, cnd_t, cnd_f, gd_nil, gd_t, b1_0, b1_1, sw_nil, sw_cons, obs]
    rw [c_isWord, if_neg e1]
    simp only [i10, i00, decide_true, decide_false, cnd_t, cnd_f, gd_nil, gd_t, b1_0, b1_1, sw_nil, sw_cons, obs]
    rw [c_isWord, if_neg e2]
    simp only [i10, i00, decide_true, decide_false, cnd_t, cnd_f, gd_nil, gd_t, b1_0, b1_1, sw_nil, sw_cons, obs]
    rw [c_isWord, if_pos e3]
    simp only [i10, i00, decide_true, decide_false, cnd_t, cnd_f, gd_nil, gd_t, b1_0, b1_1, sw_nil, sw_cons, obs]
    rfl
  · refine Or.inr ⟨fun d hd => ?_, ?_⟩
    · obtain h | h | h | h : d = 0 ∨ d = 1 ∨ d = 2 ∨ d = 3 := by omega
      · subst h; exact e0
      · subst h; exact e1
      · subst h; exact e2
      · subst h; exact e3
    · rw [c_isWord, if_neg e0]
      simp only [i10, i00, decide_true, decide_false, cnd_t, cnd_f, gd_nil, gd_t, b1_0, b1_1, sw_nil, sw_cons, obs]
      rw [c_isWord, if_neg e1]
      simp only [i10, i00, decide_true, decide_false, cnd_t, cnd_f, gd_nil, gd_t, b1_0, b1_1, sw_nil, sw_cons, obs]
      rw [c_isWord, if_neg e2]
      simp only [i10, i00, decide_true, decide_false, cnd_t, cnd_f, gd_nil, gd_t, b1_0, b1_1, sw_nil, sw_cons, obs]
      rw [c_isWord, if_neg e3]
      simp only [i10, i00, decide_true, decide_false, cnd_t, cnd_f, gd_nil, gd_t, b1_0, b1_1, sw_nil, sw_cons, obs]
theorem p_isNum (h : pR n T i u v) : (u.1 1 7 = 3 ↔ v.1 2 i = 2) ∧ (u.1 1 7 = 3 → ∃ x, x < 10000 ∧ u.2.1 1 9 = lN x ∧ v.2.1 4 i = lN x) := by
  obtain h | ⟨a, b⟩ | ⟨a, b, w⟩ | ⟨a, b, c⟩ | ⟨a, b, -⟩ := h.cur
  · rw [h.1, h.2]; exact ⟨by decide +kernel, fun z => absurd z (by decide +kernel)⟩
  · rw [a, b]; exact ⟨by decide +kernel, fun z => absurd z (by decide +kernel)⟩
  · rw [a, b]; exact ⟨by decide +kernel, fun z => absurd z (by decide +kernel)⟩
  · rw [a, b]; exact ⟨by decide +kernel, fun _ => c⟩
  · rw [a, b]; exact ⟨by decide +kernel, fun z => absurd z (by decide +kernel)⟩
-- a piece that stands for itself: a number or a fact
theorem lw_leaf (hq : 14 ≤ q) (hT : T ≤ 1000) (h : pR n T i u v) (hL : lwR cs q u v) (hc : cs.length ≤ i) (hk : u.1 1 7 ≠ 0) {c x y : Int32} (hE : cE c x y) (hp : cP c) {D X : Nat} (hD : 1 ≤ D) {R1 : Nat → Int32 → Int32 → ab_S → Option (Int32 × ab_S)} {R2 R3 R4 : Nat → Int32 → ab_S → Option (Int32 × ab_S)} {S1 S2 S3 S4 S5 : Int32 → ab_S → Option (Unit × ab_S)} : lwO n T i q D X cs (fX1_readPart_97 R1 R2 R3 R4 q c u) (fX10_takePart_165 S1 S2 S3 S4 S5 x y v) u v := by
  have hi := h.lt hk
  have eA := c_add hL.1 (by omega) c
  have eM := m_emit hL.2.1 (by omega) x y
  have h1 : pR n T i (sI (sI u (q + 1) cs.length c) q 1 (nI (cs.length + 1))) (sI (sI (sI v 7 (1100 + cs.length) x) 8 (1100 + cs.length) y) 0 13 (nI (cs.length + 1))) := h.push hq
  have hk1 : (sI (sI u (q + 1) cs.length c) q 1 (nI (cs.length + 1))).1 1 7 ≠ 0 := by
    rw [sI_at, if_neg (by omega), sI_at, if_neg (by omega)]
    exact hk
  obtain ⟨u2, s1, s2, s3⟩ := p_step h1 hk1
  have g : Fr dSv (sI (sI (sI v 7 (1100 + cs.length) x) 8 (1100 + cs.length) y) 0 13 (nI (cs.length + 1))) (sI (sI (sI (sI v 7 (1100 + cs.length) x) 8 (1100 + cs.length) y) 0 13 (nI (cs.length + 1))) 0 7 (nI (i + 1))) := Fr.sI ⟨rfl, Or.inl rfl⟩
  refine Or.inl ⟨u2, _, i + 1, [c], Nat.le_refl _, Nat.lt_succ_self i, ?_, ?_, s2, (hL.push hE).sv hq s3 g, sgm_one hp hD, add_fr.trans (s3.mono su_L), emit_fr.trans (g.mono sv_L)⟩
  · unfold fX1_readPart_97
    rw [eA]
    simp only [i10, i00, decide_true, decide_false, cnd_t, cnd_f, gd_nil, gd_t, b1_0, b1_1, sw_nil, sw_cons, obs, s1]
  · unfold fX10_takePart_165
    rw [eM]
    simp only [obs, h1.at, show nI i + 1 = nI (i + 1) from nI_1 i]
-- a wrong piece
theorem lw_bad (h : pR n T i u v) (hL : lwR cs q u v) (hc : cs.length ≤ 1000) {D X K : Nat} (h1 : 1 ≤ K) (h2 : K < 16) : ∃ f, 1 ≤ f ∧ f < 20000 ∧ fX6_fail (nI K) u = some (0, sI u 1 10 (nI f)) ∧ fX10_wrong (nI K) v = some ((), sI v 0 8 (nI f)) ∧ lwO n T i q D X cs (some (0, sI u 1 10 (nI f))) (some ((), sI v 0 8 (nI f))) u v := by
  obtain ⟨f, f1, f2, f3, f4⟩ := p_fail h K h1 h2
  refine ⟨f, f1, f2, f3, f4, Or.inr ⟨f, _, _, cs.length, rfl, rfl, by rw [sI_at, if_pos ⟨rfl, rfl⟩], mF.mk8 f1 f2, ?_, by omega, Fr.sI (Or.inl ⟨rfl, by decide, by decide⟩), Fr.sI (Or.inl ⟨rfl, Or.inr rfl⟩)⟩⟩
  rw [sI_at, if_neg (by omega)]
  exact hL.2.1
theorem mF79 {f : Nat} (h : mF f v) {S1 S2 S3 S4 S5 : Int32 → ab_S → Option (Unit × ab_S)} (a b c : Int32) : fX10_takePart_79 S1 S2 S3 S4 S5 a b c v = some ((), v) := by
  unfold fX10_takePart_79
  simp only [h.nz.2, i10, i00, decide_true, decide_false, cnd_t, cnd_f, gd_nil, gd_t, b1_0, b1_1, sw_nil, sw_cons, obs]
theorem lv_part {d D X : Nat} (hd : d ≤ 5) {R1 Q1 : Nat → Int32 → Int32 → ab_S → Option (Int32 × ab_S)} {R2 R3 R4 Q2 Q3 Q4 : Nat → Int32 → ab_S → Option (Int32 × ab_S)} {S1 S2 S3 S4 S5 : Int32 → ab_S → Option (Unit × ab_S)} (hq : 14 ≤ q) (hX : X < 80) (hT : T ≤ 1000) (h3 : ∀ u, R3 q (nI d) u = fX1_readNot Q1 Q2 Q3 Q4 q (nI d) u) (h4 : ∀ u, R4 q (nI d) u = fX1_readBrackets Q1 Q2 Q3 Q4 q (nI d) u) (hW : d < 5 → lwJ n T q D X (fun u => Q1 q 0 (nI (d + 1)) u) (fun v => S1 (nI (d + 1)) v)) (hP : d < 5 → lwJ n T q D X (fun u => Q2 q (nI (d + 1)) u) (fun v => S5 (nI (d + 1)) v)) (hD : 1 ≤ D) : lwJ n T q D (X + 1) (fun u => fX1_readPart R1 R2 R3 R4 q (nI d) u) (fun v => fX10_takePart S1 S2 S3 S4 S5 (nI d) v) := by
  intro u v i cs h hL hc
  show lwO n T i q D (X + 1) cs (fX1_readPart R1 R2 R3 R4 q (nI d) u) (fX10_takePart S1 S2 S3 S4 S5 (nI d) v) u v
  have h7 := h.at
  have h8 := h.ok
  have hi := h.i1000
  have le0 : ((0 : Int32) ≤ 0) = True := eq_true (by decide +kernel)
  have lt0 : ((-1 : Int32) < 0) = True := eq_true (by decide +kernel)
  have e1 : nI d + 1 = nI (d + 1) := nI_1 d
  obtain ⟨k1, k2⟩ := p_isNum h
  obtain ⟨b, s1, s2, s3⟩ := p_isSign h (s := 40) (by decide)
  have s1' : fX6_isSign 40 u = some (b01 b, u) := s1
  have s2' : fX10_isSign 40 v = some (b01 b, v) := s2
  obtain ⟨r, r1, r2, r3⟩ := m_wordHere h 19 4 (by decide)
  have r1' : fX10_wordHere 19 4 v = some (r, v) := r1
  have w16 : fX10_isWord 16 v = some (if isW 16 u then 1 else 0, v) := m_isWord h (k := 16) (by decide)
  have ix : ab_ix (nI i) 1002 = true := ix_nI (by omega) (by decide)
  have nci : nc (nI i) = i := nc_nI (by omega)
  -- too deep
  have deep : d = 5 → ∀ (s0 w : Int32) (a c : Int32), lwO n T i q D (X + 1) cs (fX1_readPart_62 R1 R2 R3 R4 q (nI d) s0 a c u) (fX10_takePart_69 S1 S2 S3 S4 S5 (nI d) s0 w v) u v := by
    intro ed s0 w a c
    subst ed
    obtain ⟨f, f1, f2, f3, f4, f5⟩ := lw_bad h hL (by omega) (D := D) (X := X + 1) (K := 5) (by decide) (by decide)
    have f3' : fX6_fail 5 u = some (0, sI u 1 10 (nI f)) := f3
    have f4' : fX10_wrong 5 v = some ((), sI v 0 8 (nI f)) := f4
    unfold fX1_readPart_62 fX10_takePart_69
    simp only [show (nI 5 ≤ 4) = False from eq_false (by decide +kernel), show (nI 5 = 5) = True from eq_true rfl, i10, i00, decide_true, decide_false, cnd_t, cnd_f, gd_nil, gd_t, b1_0, b1_1, sw_nil, sw_cons, obs, f3', f4', mF79 (mF.mk8 (v := v) f1 f2)]
    exact f5
  have n5 : d < 5 → (nI d = 5) = False := fun z => eq_false fun z2 => by
    have := (nI_eq (b := 5) (show d < 2 ^ 31 by omega) (by decide)).mp z2
    omega
  have n4 : d < 5 → (nI d ≤ 4) = True := fun z => eq_true (show nI d ≤ nI 4 from (nI_leI (by omega) (by decide)).mpr (by omega))
  -- the reference passes over what isn't there
  have noW : ∀ (ee : ¬ isW 16 u), fX10_hasWord 16 v = some (0, sI v 0 7 (nI i)) := fun ee => m_hasWord0 h (k := 16) (by decide) ee
  have g0 : Fr dSv v (sI v 0 7 (nI i)) := Fr.sI ⟨rfl, Or.inl rfl⟩
  have hL0 : lwR cs q u (sI v 0 7 (nI i)) := hL.sv hq Fr.rfl' g0
  obtain ⟨bb, t1, t2, t3, t4, t5⟩ := m_hasSign h.same (s := 40) (by decide)
  have ebb : bb = b := by
    have := s1.symm.trans t1
    cases b <;> cases bb
    · rfl
    · exact absurd (show b01 true = b01 false from (congrArg Prod.fst (Option.some.inj this)).symm) (by decide +kernel)
    · exact absurd (show b01 true = b01 false from congrArg Prod.fst (Option.some.inj this)) (by decide +kernel)
    · rfl
  subst ebb
  have g1 : Fr dSv (sI v 0 7 (nI i)) (sI (sI v 0 7 (nI i)) 0 7 (nI i)) := Fr.sI ⟨rfl, Or.inl rfl⟩
  unfold fX1_readPart fX10_takePart
  rw [h7, h8]
  simp only [le0, i10, i00, decide_true, decide_false, cnd_t, cnd_f, gd_nil, gd_t, b1_0, b1_1, sw_nil, sw_cons, obs, ix, nci]
  by_cases ek : u.1 1 7 = 3
  · -- a number
    have ek2 := k1.mp ek
    have n16 : ¬ isW 16 u := fun z => absurd (z.1.symm.trans ek) (by decide +kernel)
    have nf : ∀ a, a < 4 → ¬ isW (19 + a) u := fun a _ z => absurd (z.1.symm.trans ek) (by decide +kernel)
    have eb : bb = false := by
      cases bb
      · rfl
      · exact absurd ((s3 rfl).1.symm.trans ek) (by decide +kernel)
    subst eb
    have er := r3 nf
    subst er
    obtain ⟨a, a1, a2, a3⟩ | ⟨a2, a3⟩ := c_factAt u
    · exact absurd a2 (nf a a1)
    simp only [ek, ek2, i10, i00, decide_true, decide_false, cnd_t, cnd_f, gd_nil, gd_t, b1_0, b1_1, sw_nil, sw_cons, obs]
    unfold fX1_readPart_13 fX10_takePart_26
    rw [c_isWord, if_neg n16]
    simp only [i10, i00, decide_true, decide_false, cnd_t, cnd_f, gd_nil, gd_t, b1_0, b1_1, sw_nil, sw_cons, obs, s1', a3, r1', lt0]
    by_cases ed : d = 5
    · exact deep ed 1 (-1) _ _
    have hd5 : d < 5 := by omega
    have t5' : fX10_hasSign 40 (sI v 0 7 (nI i)) = some (0, sI (sI v 0 7 (nI i)) 0 7 (nI i)) := t5 rfl
    obtain ⟨x, x1, x2, x3⟩ := k2 ek
    have hk : u.1 1 7 ≠ 0 := by rw [ek]; decide +kernel
    have r := lw_leaf (c := nI x) (x := 1) (y := nI x) (D := D) (X := X + 1) (R1 := R1) (R2 := R2) (R3 := R3) (R4 := R4) (S1 := S1) (S2 := S2) (S3 := S3) (S4 := S4) (S5 := S5) hq hT h.same.same (hL0.sv hq Fr.rfl' g1) hc hk (Or.inr (Or.inr (Or.inr (Or.inr (Or.inr (Or.inr (Or.inr (Or.inr (Or.inr (Or.inr (Or.inr (Or.inr ⟨x, x1, rfl, rfl, rfl⟩)))))))))))) (Or.inr (Or.inr (Or.inr (Or.inr ⟨x, x1, rfl⟩)))) hD
    unfold fX1_readPart_62 fX1_readPart_82 fX10_takePart_69 fX10_takePart_79 fX10_takePart_147
    simp only [n4 hd5, n5 hd5, i10, i00, decide_true, decide_false, cnd_t, cnd_f, gd_nil, gd_t, b1_0, b1_1, sw_nil, sw_cons, obs, x2, lN_i, h8, le0, noW n16, t5']
    simp only [sI_at, sI_l, sJ_at, sJ_i, sJ_m, sM_at, sM_i, sM_l, Nat.reduceEqDiff, false_and, and_false, true_and, and_true, and_self, if_false, if_true, ite_false, ite_true, ix, nci, i10, i00, decide_true, decide_false, cnd_t, cnd_f, gd_nil, gd_t, b1_0, b1_1, sw_nil, sw_cons, obs, x3, lN_i]
    obtain ⟨u2, v2, i2, es, a1, a2, a3, a4, a5, a6, a7, a8, a9⟩ | ⟨f, u2, v2, k, a1, a2, a3, a4, a5, a6, a7, a8⟩ := r
    · exact Or.inl ⟨u2, v2, i2, es, a1, a2, a3, a4, a5, a6, a7, a8, (g0.mono sv_L).trans ((g1.mono sv_L).trans a9)⟩
    · exact Or.inr ⟨f, u2, v2, k, a1, a2, a3, a4, a5, a6, a7, (g0.mono sv_L).trans ((g1.mono sv_L).trans a8)⟩
  have ek2 : ¬ v.1 2 i = 2 := fun z => ek (k1.mpr z)
  simp only [ek, ek2, i10, i00, decide_true, decide_false, cnd_t, cnd_f, gd_nil, gd_t, b1_0, b1_1, sw_nil, sw_cons, obs]
  unfold fX1_readPart_13 fX10_takePart_26
  rw [c_isWord]
  by_cases e16 : isW 16 u
  · -- not
    have nf : ∀ a, a < 4 → ¬ isW (19 + a) u := fun a ha z => by
      have := isW.uniq (k := 16) (j := 19 + a) (by omega) (by omega) e16 z
      omega
    have eb : bb = false := by
      cases bb
      · rfl
      · exact absurd ((s3 rfl).1.symm.trans e16.1) (by decide +kernel)
    subst eb
    have er := r3 nf
    subst er
    obtain ⟨a, a1, a2, a3⟩ | ⟨a2, a3⟩ := c_factAt u
    · exact absurd a2 (nf a a1)
    rw [if_pos e16] at w16
    simp only [if_pos e16, i10, i00, decide_true, decide_false, cnd_t, cnd_f, gd_nil, gd_t, b1_0, b1_1, sw_nil, sw_cons, obs, s1', s2', b01, Bool.false_eq_true, if_false, a3, r1', lt0, w16]
    by_cases ed : d = 5
    · exact deep ed 0 (-1) _ _
    have hd5 : d < 5 := by omega
    have hk : u.1 1 7 ≠ 0 := by rw [e16.1]; decide +kernel
    obtain ⟨u1, p1, p2, p3⟩ := p_step h hk
    have gg : Fr dSv v (sI v 0 7 (nI (i + 1))) := Fr.sI ⟨rfl, Or.inl rfl⟩
    have ew : fX10_hasWord 16 v = some (1, sI v 0 7 (nI (i + 1))) := m_hasWord1 h (k := 16) (by decide) e16
    have hT1 := p2.2.2.1
    unfold fX1_readPart_62 fX10_takePart_69 fX10_takePart_79
    simp only [n4 hd5, n5 hd5, i10, i00, decide_true, decide_false, cnd_t, cnd_f, gd_nil, gd_t, b1_0, b1_1, sw_nil, sw_cons, obs, p1, h3, e1, h8, le0, ew]
    unfold fX1_readNot
    simp only [e1]
    obtain ⟨u2, v2, i2, es, a1, a2, a3, a4, a5, a6, a7, a8, a9⟩ | ⟨f, u2, v2, k, a1, a2, a3, a4, a5, a6, a7, a8⟩ := hP hd5 u1 _ (i + 1) cs p2 (hL.sv hq p3 gg) (by omega)
    · have a3' : Q2 q (nI (d + 1)) u1 = some (1, u2) := a3
      have a4' : S5 (nI (d + 1)) (sI v 0 7 (nI (i + 1))) = some ((), v2) := a4
      have hi2 := a5.2.2.1
      have hlen : (cs ++ es).length + 1 ≤ i2 := by rw [List.length_append]; omega
      have eA := c_add a6.1 (by omega) (-5)
      have eM := m_emit a6.2.1 (by omega) 3 0
      have hp := a6.push (c := -5) (x := 3) (y := 0) (Or.inr (Or.inr (Or.inr (Or.inr (Or.inl ⟨rfl, rfl, rfl⟩)))))
      rw [List.append_assoc] at hp
      refine Or.inl ⟨_, _, i2, es ++ [-5], by rw [List.length_append, List.length_singleton]; omega, by omega, ?_, ?_, a5.push hq, hp, sgm_not a7, (p3.mono su_L).trans (a8.trans add_fr), (gg.mono sv_L).trans (a9.trans emit_fr)⟩
      · simp only [a3', i10, i00, decide_true, decide_false, cnd_t, cnd_f, gd_nil, gd_t, b1_0, b1_1, sw_nil, sw_cons, obs, eA]
      · simp only [a4', obs, eM]
    · have a1' : Q2 q (nI (d + 1)) u1 = some (0, u2) := a1
      have a2' : S5 (nI (d + 1)) (sI v 0 7 (nI (i + 1))) = some ((), v2) := a2
      have eM := m_emit a5 (by omega) 3 0
      refine Or.inr ⟨f, u2, _, k + 1, ?_, ?_, a3, a4.emit (m := 1100 + k) (x := 3) (y := 0) (z := nI (k + 1)), ?_, by omega, (p3.mono su_L).trans a7, (gg.mono sv_L).trans (a8.trans emit_fr)⟩
      · simp only [a1', i10, i00, decide_true, decide_false, cnd_t, cnd_f, gd_nil, gd_t, b1_0, b1_1, sw_nil, sw_cons, obs]
      · simp only [a2', obs, eM]
      · rw [sI_at, if_pos ⟨rfl, rfl⟩]
  rw [if_neg e16] at w16
  cases bb
  · obtain ⟨a, a1, a2, a3⟩ | ⟨a2, a3⟩ := c_factAt u
    · -- a fact
      have er := r2 a a1 a2
      subst er
      have na : (nI a < 0) = False := eq_false (nI_pos (by omega))
      have nz := fc_0 a a1
      simp only [if_neg e16, i10, i00, decide_true, decide_false, cnd_t, cnd_f, gd_nil, gd_t, b1_0, b1_1, sw_nil, sw_cons, obs, s1', b01, Bool.false_eq_true, if_false, a3, r1', na, nz]
      by_cases ed : d = 5
      · exact deep ed 0 (nI a) _ _
      have hd5 : d < 5 := by omega
      have t5' : fX10_hasSign 40 (sI v 0 7 (nI i)) = some (0, sI (sI v 0 7 (nI i)) 0 7 (nI i)) := t5 rfl
      have hk : u.1 1 7 ≠ 0 := by rw [a2.1]; decide +kernel
      have r := lw_leaf (D := D) (X := X + 1) (R1 := R1) (R2 := R2) (R3 := R3) (R4 := R4) (S1 := S1) (S2 := S2) (S3 := S3) (S4 := S4) (S5 := S5) hq hT h.same.same (hL0.sv hq Fr.rfl' g1) hc hk (fc_E a a1) (fc_P a a1) hD
      unfold fX1_readPart_62 fX1_readPart_82 fX10_takePart_69 fX10_takePart_79 fX10_takePart_147
      simp only [n4 hd5, n5 hd5, i10, i00, decide_true, decide_false, cnd_t, cnd_f, gd_nil, gd_t, b1_0, b1_1, sw_nil, sw_cons, obs, nz, h8, le0, noW e16, t5']
      obtain ⟨u2, v2, i2, es, a1, a2, a3, a4, a5, a6, a7, a8, a9⟩ | ⟨f, u2, v2, k, a1, a2, a3, a4, a5, a6, a7, a8⟩ := r
      · exact Or.inl ⟨u2, v2, i2, es, a1, a2, a3, a4, a5, a6, a7, a8, (g0.mono sv_L).trans ((g1.mono sv_L).trans a9)⟩
      · exact Or.inr ⟨f, u2, v2, k, a1, a2, a3, a4, a5, a6, a7, (g0.mono sv_L).trans ((g1.mono sv_L).trans a8)⟩
    · -- nothing that can stand here
      have er := r3 a2
      subst er
      obtain ⟨f, f1, f2, f3, f4, f5⟩ := lw_bad h hL (by omega) (D := D) (X := X + 1) (K := 1) (by decide) (by decide)
      have f3' : fX6_fail 1 u = some (0, sI u 1 10 (nI f)) := f3
      have f4' : fX10_wrong 1 v = some ((), sI v 0 8 (nI f)) := f4
      simp only [if_neg e16, i10, i00, decide_true, decide_false, cnd_t, cnd_f, gd_nil, gd_t, b1_0, b1_1, sw_nil, sw_cons, obs, s1', s2', b01, Bool.false_eq_true, if_false, a3, r1', lt0, w16, f3', f4', mF79 (mF.mk8 (v := v) f1 f2)]
      exact f5
  · -- brackets
    have k4 := (s3 rfl).1
    have nf : ∀ a, a < 4 → ¬ isW (19 + a) u := fun a _ z => absurd (z.1.symm.trans k4) (by decide +kernel)
    have er := r3 nf
    subst er
    obtain ⟨a, a1, a2, a3⟩ | ⟨a2, a3⟩ := c_factAt u
    · exact absurd a2 (nf a a1)
    simp only [if_neg e16, i10, i00, decide_true, decide_false, cnd_t, cnd_f, gd_nil, gd_t, b1_0, b1_1, sw_nil, sw_cons, obs, s1', s2', b01, if_true, a3, r1', lt0]
    by_cases ed : d = 5
    · exact deep ed 0 (-1) _ _
    have hd5 : d < 5 := by omega
    have hk : u.1 1 7 ≠ 0 := by rw [k4]; decide +kernel
    obtain ⟨u1, p1, p2, p3⟩ := p_step h.same hk
    have gg : Fr dSv (sI v 0 7 (nI i)) (sI (sI v 0 7 (nI i)) 0 7 (nI (i + 1))) := Fr.sI ⟨rfl, Or.inl rfl⟩
    have t4' : fX10_hasSign 40 (sI v 0 7 (nI i)) = some (1, sI (sI v 0 7 (nI i)) 0 7 (nI (i + 1))) := t4 rfl
    have hT1 := p2.2.2.1
    unfold fX1_readPart_62 fX10_takePart_69 fX10_takePart_79
    simp only [n4 hd5, n5 hd5, i10, i00, decide_true, decide_false, cnd_t, cnd_f, gd_nil, gd_t, b1_0, b1_1, sw_nil, sw_cons, obs, p1, h4, e1, h8, le0, noW e16, t4']
    unfold fX1_readBrackets
    simp only [e1]
    obtain ⟨u2, v2, i2, es, a1, a2, a3, a4, a5, a6, a7, a8, a9⟩ | ⟨f, u2, v2, k, a1, a2, a3, a4, a5, a6, a7, a8⟩ := hW hd5 u1 _ (i + 1) cs p2 (hL0.sv hq p3 gg) (by omega)
    · have a3' : Q1 q 0 (nI (d + 1)) u1 = some (1, u2) := a3
      have a4' : S1 (nI (d + 1)) (sI (sI v 0 7 (nI i)) 0 7 (nI (i + 1))) = some ((), v2) := a4
      obtain ⟨b, q1, q2, q3⟩ := p_isSign a5 (s := 41) (by decide)
      have q1' : fX6_isSign 41 u2 = some (b01 b, u2) := q1
      have q2' : fX10_isSign 41 v2 = some (b01 b, v2) := q2
      simp only [a3', a4', i10, i00, decide_true, decide_false, cnd_t, cnd_f, gd_nil, gd_t, b1_0, b1_1, sw_nil, sw_cons, obs, q1']
      unfold fX10_takeSign
      simp only [q2', i10, i00, decide_true, decide_false, cnd_t, cnd_f, gd_nil, gd_t, b1_0, b1_1, sw_nil, sw_cons, obs]
      have hi2 := a5.2.2.1
      have FV : Fr dLv v v2 := (g0.mono sv_L).trans ((gg.mono sv_L).trans a9)
      have FU : Fr (dLu q) u u2 := (p3.mono su_L).trans a8
      cases b
      · have hlen : (cs ++ es).length ≤ 1000 := by rw [List.length_append]; omega
        obtain ⟨f, f1, f2, f3, f4, f5⟩ := lw_bad a5 a6 hlen (D := D) (X := X + 1) (K := 1) (by decide) (by decide)
        have f3' : fX6_fail 1 u2 = some (0, sI u2 1 10 (nI f)) := f3
        have f4' : fX10_wrong 1 v2 = some ((), sI v2 0 8 (nI f)) := f4
        refine Or.inr ⟨f, sI u2 1 10 (nI f), sI v2 0 8 (nI f), (cs ++ es).length, ?_, ?_, by rw [sI_at, if_pos ⟨rfl, rfl⟩], mF.mk8 f1 f2, ?_, by omega, FU.trans (Fr.sI (Or.inl ⟨rfl, by decide, by decide⟩)), FV.trans (Fr.sI (Or.inl ⟨rfl, Or.inr rfl⟩))⟩
        · simp only [b01, Bool.false_eq_true, if_false, i10, i00, decide_true, decide_false, cnd_t, cnd_f, gd_nil, gd_t, b1_0, b1_1, sw_nil, sw_cons, obs, f3']
        · simp only [b01, Bool.false_eq_true, if_false, i10, i00, decide_true, decide_false, cnd_t, cnd_f, gd_nil, gd_t, b1_0, b1_1, sw_nil, sw_cons, obs, f4']
        · rw [sI_at, if_neg (by omega)]
          exact a6.2.1
      · have hk2 : u2.1 1 7 ≠ 0 := by rw [(q3 rfl).1]; decide +kernel
        obtain ⟨u3, z1, z2, z3⟩ := p_step a5 hk2
        have g5 : Fr dSv v2 (sI v2 0 7 (nI (i2 + 1))) := Fr.sI ⟨rfl, Or.inl rfl⟩
        refine Or.inl ⟨u3, sI v2 0 7 (nI (i2 + 1)), i2 + 1, es, by omega, by omega, ?_, ?_, z2, a6.sv hq z3 g5, a7, FU.trans (z3.mono su_L), FV.trans (g5.mono sv_L)⟩
        · simp only [b01, if_true, i10, i00, decide_true, decide_false, cnd_t, cnd_f, gd_nil, gd_t, b1_0, b1_1, sw_nil, sw_cons, obs, z1]
        · simp only [b01, if_true, i10, i00, decide_true, decide_false, cnd_t, cnd_f, gd_nil, gd_t, b1_0, b1_1, sw_nil, sw_cons, obs, a5.at, show nI i2 + 1 = nI (i2 + 1) from nI_1 i2]
    · have a1' : Q1 q 0 (nI (d + 1)) u1 = some (0, u2) := a1
      have a2' : S1 (nI (d + 1)) (sI (sI v 0 7 (nI i)) 0 7 (nI (i + 1))) = some ((), v2) := a2
      refine Or.inr ⟨f, u2, v2, k, ?_, ?_, a3, a4, a5, by omega, (p3.mono su_L).trans a7, (g0.mono sv_L).trans ((gg.mono sv_L).trans a8)⟩
      · simp only [a1', i10, i00, decide_true, decide_false, cnd_t, cnd_f, gd_nil, gd_t, b1_0, b1_1, sw_nil, sw_cons, obs]
      · simp only [a2', obs, mF_takeSign a4]
-- all depths
theorem lw_W {d : Nat} {D X N M : Nat} (hq : 14 ≤ q) (hX : X < 70) (hT : T ≤ 1000) (hd : d ≤ 5) (hP : lwJ n T q D X (fun u => (zX1_readLevel N).2.1 q (nI d) u) (fun v => (zX10_whole M).2.2.2.2 (nI d) v)) : lwJ n T q (D + 4) (X + 4) (fun u => (zX1_readLevel (N + 5)).1 q 0 (nI d) u) (fun v => (zX10_whole (M + 4)).1 (nI d) v) := by
  have j4 : lwJ n T q D X (fun u => (zX1_readLevel (N + 1)).1 q (nI (3 + 1)) (nI d) u) (fun v => (zX10_whole M).2.2.2.2 (nI d) v) := by
    intro u v i cs h hL hc
    have r := hP u v i cs h hL hc
    have e : (zX1_readLevel (N + 1)).1 q (nI (3 + 1)) (nI d) u = (zX1_readLevel N).2.1 q (nI d) u := by
      show fX1_readLevel (zX1_readLevel N).1 (zX1_readLevel N).2.1 (zX1_readLevel N).2.2.1 (zX1_readLevel N).2.2.2 q (nI 4) (nI d) u = _
      unfold fX1_readLevel
      simp only [show (nI 4 ≤ 3) = False from eq_false (by decide +kernel), i10, i00, decide_true, decide_false, cnd_t, cnd_f, gd_nil, gd_t, b1_0, b1_1, sw_nil, sw_cons, obs]
      obtain ⟨u2, v2, i2, es, a1, a2, a3, a4, a5, a6, a7, a8, a9⟩ | ⟨f, u2, v2, k, a1, a2, a3, a4, a5, a6, a7, a8⟩ := r
      · have a3' : (zX1_readLevel N).2.1 q (nI d) u = some (1, u2) := a3
        rw [a3']
        simp only [i10, i00, decide_true, decide_false, cnd_t, cnd_f, gd_nil, gd_t, b1_0, b1_1, sw_nil, sw_cons, obs]
      · have a1' : (zX1_readLevel N).2.1 q (nI d) u = some (0, u2) := a1
        rw [a1']
        simp only [i10, i00, decide_true, decide_false, cnd_t, cnd_f, gd_nil, gd_t, b1_0, b1_1, sw_nil, sw_cons, obs]
    show lwO n T i q D X cs ((zX1_readLevel (N + 1)).1 q (nI (3 + 1)) (nI d) u) _ u v
    rw [e]
    exact r
  have j3 := lv_level (lv := 3) (w := nI d) (R1 := (zX1_readLevel (N + 1)).1) (R2 := (zX1_readLevel (N + 1)).2.1) (R3 := (zX1_readLevel (N + 1)).2.2.1) (R4 := (zX1_readLevel (N + 1)).2.2.2) hq (by decide) (by decide) (by omega) hT j4 (op_prod (w := nI d) (S1 := (zX10_whole M).1) (S2 := (zX10_whole M).2.1) (S3 := (zX10_whole M).2.2.1) (S4 := (zX10_whole M).2.2.2.1) (S5 := (zX10_whole M).2.2.2.2)) of_prod
  have j2 := lv_level (lv := 2) (w := nI d) (R1 := (zX1_readLevel (N + 2)).1) (R2 := (zX1_readLevel (N + 2)).2.1) (R3 := (zX1_readLevel (N + 2)).2.2.1) (R4 := (zX1_readLevel (N + 2)).2.2.2) hq (by decide) (by decide) (by omega) hT j3 (op_sum (w := nI d) (S1 := (zX10_whole (M + 1)).1) (S2 := (zX10_whole (M + 1)).2.1) (S3 := (zX10_whole (M + 1)).2.2.1) (S4 := (zX10_whole (M + 1)).2.2.2.1) (S5 := (zX10_whole (M + 1)).2.2.2.2)) of_sum
  have j1 := lv_comp (w := nI d) (R1 := (zX1_readLevel (N + 3)).1) (R2 := (zX1_readLevel (N + 3)).2.1) (R3 := (zX1_readLevel (N + 3)).2.2.1) (R4 := (zX1_readLevel (N + 3)).2.2.2) (S1 := (zX10_whole (M + 2)).1) (S2 := (zX10_whole (M + 2)).2.1) (S3 := (zX10_whole (M + 2)).2.2.1) (S4 := (zX10_whole (M + 2)).2.2.2.1) (S5 := (zX10_whole (M + 2)).2.2.2.2) hq (by omega) hT j2
  have j0 := lv_level (lv := 0) (w := nI d) (R1 := (zX1_readLevel (N + 4)).1) (R2 := (zX1_readLevel (N + 4)).2.1) (R3 := (zX1_readLevel (N + 4)).2.2.1) (R4 := (zX1_readLevel (N + 4)).2.2.2) hq (by decide) (by decide) (by omega) hT j1 (op_join (w := nI d) (S1 := (zX10_whole (M + 3)).1) (S2 := (zX10_whole (M + 3)).2.1) (S3 := (zX10_whole (M + 3)).2.2.1) (S4 := (zX10_whole (M + 3)).2.2.2.1) (S5 := (zX10_whole (M + 3)).2.2.2.2)) of_join
  exact j0
theorem lwJ.mono {D D' X X' : Nat} {Y : ab_S → Option (Int32 × ab_S)} {Zf : ab_S → Option (Unit × ab_S)} (h : lwJ n T q D X Y Zf) (hd : D ≤ D') (hx : X ≤ X') : lwJ n T q D' X' Y Zf := by
  intro u v i cs h1 h2 h3
  obtain ⟨u2, v2, i2, es, a1, a2, a3, a4, a5, a6, a7, a8, a9⟩ | ⟨f, u2, v2, k, a1, a2, a3, a4, a5, a6, a7, a8⟩ := h u v i cs h1 h2 h3
  · exact Or.inl ⟨u2, v2, i2, es, a1, a2, a3, a4, a5, a6, a7.mono hd, a8, a9⟩
  · exact Or.inr ⟨f, u2, v2, k, a1, a2, a3, a4, a5, by omega, a7, a8⟩
theorem lz_P (hq : 14 ≤ q) (hT : T ≤ 1000) : ∀ k, k ≤ 5 → ∀ N M, 2 + 7 * k ≤ N → 1 + 5 * k ≤ M → lwJ n T q (1 + 4 * k) (1 + 5 * k) (fun u => (zX1_readLevel N).2.1 q (nI (5 - k)) u) (fun v => (zX10_whole M).2.2.2.2 (nI (5 - k)) v) := by
  intro k
  induction k with
  | zero =>
    intro _ N M hN hM
    obtain ⟨N, rfl⟩ : ∃ m, N = m + 2 := ⟨N - 2, by omega⟩
    obtain ⟨M, rfl⟩ : ∃ m, M = m + 1 := ⟨M - 1, by omega⟩
    exact lv_part (d := 5) (X := 0) (D := 1) (Nat.le_refl 5) (R1 := (zX1_readLevel (N + 1)).1) (R2 := (zX1_readLevel (N + 1)).2.1) (R3 := (zX1_readLevel (N + 1)).2.2.1) (R4 := (zX1_readLevel (N + 1)).2.2.2) (Q1 := (zX1_readLevel N).1) (Q2 := (zX1_readLevel N).2.1) (Q3 := (zX1_readLevel N).2.2.1) (Q4 := (zX1_readLevel N).2.2.2) (S1 := (zX10_whole M).1) (S2 := (zX10_whole M).2.1) (S3 := (zX10_whole M).2.2.1) (S4 := (zX10_whole M).2.2.2.1) (S5 := (zX10_whole M).2.2.2.2) hq (by decide) hT (fun _ => rfl) (fun _ => rfl) (fun z => absurd z (by decide)) (fun z => absurd z (by decide)) (Nat.le_refl 1)
  | succ k ih =>
    intro hk N M hN hM
    obtain ⟨N, rfl⟩ : ∃ m, N = m + 5 + 2 := ⟨N - 7, by omega⟩
    obtain ⟨M, rfl⟩ : ∃ m, M = m + 4 + 1 := ⟨M - 5, by omega⟩
    have ed : 5 - (k + 1) + 1 = 5 - k := by omega
    have hW := lw_W hq (by omega) hT (by omega) (ih (by omega) N M (by omega) (by omega))
    have hP := (ih (by omega) (N + 5) (M + 4) (by omega) (by omega)).mono (D' := 1 + 4 * k + 4) (X' := 1 + 5 * k + 4) (by omega) (by omega)
    have r := lv_part (n := n) (T := T) (q := q) (d := 5 - (k + 1)) (X := 1 + 5 * k + 4) (D := 1 + 4 * k + 4) (by omega) (R1 := (zX1_readLevel (N + 5 + 1)).1) (R2 := (zX1_readLevel (N + 5 + 1)).2.1) (R3 := (zX1_readLevel (N + 5 + 1)).2.2.1) (R4 := (zX1_readLevel (N + 5 + 1)).2.2.2) (Q1 := (zX1_readLevel (N + 5)).1) (Q2 := (zX1_readLevel (N + 5)).2.1) (Q3 := (zX1_readLevel (N + 5)).2.2.1) (Q4 := (zX1_readLevel (N + 5)).2.2.2) (S1 := (zX10_whole (M + 4)).1) (S2 := (zX10_whole (M + 4)).2.1) (S3 := (zX10_whole (M + 4)).2.2.1) (S4 := (zX10_whole (M + 4)).2.2.2.1) (S5 := (zX10_whole (M + 4)).2.2.2.2) hq (by omega) hT (fun _ => rfl) (fun _ => rfl) (fun _ => by rw [ed]; exact hW) (fun _ => by rw [ed]; exact hP) (by omega)
    exact r.mono (by omega) (by omega)
theorem lz_top (hq : 14 ≤ q) (hT : T ≤ 1000) : lwJ n T q 30 30 (fun u => wX1_readLevel q 0 0 u) (fun v => wX10_whole 0 v) := by
  have h := lw_W (d := 0) hq (by decide) hT (by decide) (lz_P (n := n) hq hT 5 (Nat.le_refl 5) 55 46 (by decide) (by decide))
  exact h.mono (by decide) (by decide)
end PU
