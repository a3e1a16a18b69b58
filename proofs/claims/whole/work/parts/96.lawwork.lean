/-! the law worked out, on both sides -/
def upS (g : Nat → Int32) (i : Nat) (x : Int32) : Nat → Int32 := fun j => if j = i then x else g j
def jnS (c a b : Int32) : Int32 := if c = -6 then (if a = 0 then 0 else if b = 0 then 0 else 1) else if c = -7 then (if a = 0 then (if b = 0 then 0 else 1) else 1) else if c = -8 then (if a < b then 1 else 0) else if c = -9 then (if a = b then 1 else 0) else if c = -10 then a + b else if c = -11 then a - b else a * b
def pvS (f : Nat → Int32) (c : Int32) : Int32 := if c = -1 then f 0 else if c = -2 then f 1 else if c = -3 then f 2 else if c = -4 then f 3 else c
def peS (f : Nat → Int32) : List Int32 → Nat → (Nat → Int32) → Int32
  | [], _, g => g 0
  | c :: cs, h, g => if c = -5 then peS f cs h (upS g (h - 1) (if g (h - 1) = 0 then 1 else 0)) else if c < -5 then peS f cs (h - 1) (upS g (h - 2) (jnS c (g (h - 2)) (g (h - 1)))) else peS f cs (h + 1) (upS g h (pvS f c))
theorem nI_neg {m : Nat} (hm : m < 2147483648) {c : Int32} (hc : c < 0) : ¬ nI m = c := fun e => nI_pos hm (by rw [e]; exact hc)
theorem nI_gt {m : Nat} (hm : m < 2147483648) {c : Int32} (hc : c < 0) : ¬ nI m < c := by
  intro h
  rw [Int32.lt_iff_toInt_lt, nI_toInt hm] at h
  rw [Int32.lt_iff_toInt_lt, show (0 : Int32).toInt = 0 by decide +kernel] at hc
  omega
theorem cP_ge {c : Int32} (h : cP c) : ¬ c < -4 := by
  obtain h | h | h | h | ⟨m, h1, h⟩ := h
  · subst h; decide +kernel
  · subst h; decide +kernel
  · subst h; decide +kernel
  · subst h; decide +kernel
  · subst h; exact nI_gt (by omega) (by decide +kernel)
theorem cP_n5 {c : Int32} (h : cP c) : ¬ c = -5 := fun e => cP_ge h (by rw [e]; decide +kernel)
theorem cP_l5 {c : Int32} (h : cP c) : ¬ c < -5 := fun e => cP_ge h (by
  rw [Int32.lt_iff_toInt_lt, show (-5 : Int32).toInt = -5 by decide +kernel] at e
  rw [Int32.lt_iff_toInt_lt, show (-4 : Int32).toInt = -4 by decide +kernel]
  omega)
theorem cB_lt {c : Int32} (h : cB c) : c < -5 := by
  obtain h | h | h | h | h | h | h := h <;> (subst h; decide +kernel)
theorem cB_n5 {c : Int32} (h : cB c) : ¬ c = -5 := by
  obtain h | h | h | h | h | h | h := h <;> (subst h; decide +kernel)
theorem peS_push {f : Nat → Int32} {c : Int32} (h : cP c) (cs : List Int32) (k : Nat) (g : Nat → Int32) : peS f (c :: cs) k g = peS f cs (k + 1) (upS g k (pvS f c)) := by
  rw [peS, if_neg (cP_n5 h), if_neg (cP_l5 h)]
theorem peS_not {f : Nat → Int32} (cs : List Int32) (k : Nat) (g : Nat → Int32) : peS f (-5 :: cs) k g = peS f cs k (upS g (k - 1) (if g (k - 1) = 0 then 1 else 0)) := by
  rw [peS, if_pos rfl]
theorem peS_bin {f : Nat → Int32} {c : Int32} (h : cB c) (cs : List Int32) (k : Nat) (g : Nat → Int32) : peS f (c :: cs) k g = peS f cs (k - 1) (upS g (k - 2) (jnS c (g (k - 2)) (g (k - 1)))) := by
  rw [peS, if_neg (cB_n5 h), if_pos (cB_lt h)]
theorem sw_part {α : Type} (c : Int32) (a5 a4 a3 a2 a1 d : Option α) : ab_sw c [((-5), a5), ((-4), a4), ((-3), a3), ((-2), a2), ((-1), a1)] d = if c = -5 then a5 else if c = -4 then a4 else if c = -3 then a3 else if c = -2 then a2 else if c = -1 then a1 else d := by
  simp only [sw_cons, sw_nil, Bool.cond_decide]
theorem sw_join {α : Type} (c : Int32) (a1 a2 a3 a4 a5 a6 d : Option α) : ab_sw c [((-11), a1), ((-10), a2), ((-9), a3), ((-8), a4), ((-7), a5), ((-6), a6)] d = if c = -11 then a1 else if c = -10 then a2 else if c = -9 then a3 else if c = -8 then a4 else if c = -7 then a5 else if c = -6 then a6 else d := by
  simp only [sw_cons, sw_nil, Bool.cond_decide]
theorem sw_both {α : Type} (c : Int32) (a1 a2 a3 a4 a5 a6 d : Option α) : ab_sw c [(4, a1), (5, a2), (6, a3), (7, a4), (8, a5), (9, a6)] d = if c = 4 then a1 else if c = 5 then a2 else if c = 6 then a3 else if c = 7 then a4 else if c = 8 then a5 else if c = 9 then a6 else d := by
  simp only [sw_cons, sw_nil, Bool.cond_decide]
theorem bf {p : Prop} [h : Decidable p] {u : ab_S} {a b : Int32} : (bif decide p then some (a, u) else some (b, u)) = some (if p then a else b, u) := by
  by_cases e : p
  · simp only [e, i10, i00, decide_true, decide_false, cnd_t, cnd_f, gd_nil, gd_t, b1_0, b1_1, sw_nil, sw_cons, obs, if_true]
  · simp only [e, i10, i00, decide_true, decide_false, cnd_t, cnd_f, gd_nil, gd_t, b1_0, b1_1, sw_nil, sw_cons, obs, if_false]
theorem bf2 {p : Prop} [h : Decidable p] {u : ab_S} {a b : Int32} : (if p then some (a, u) else some (b, u)) = some (if p then a else b, u) := by
  by_cases e : p
  · simp only [e, if_true]
  · simp only [e, if_false]
theorem jn_6 (a b : Int32) : jnS (-6) a b = (if a = 0 then 0 else if b = 0 then 0 else 1) := by
  rw [jnS, if_pos rfl]
theorem jn_7 (a b : Int32) : jnS (-7) a b = (if a = 0 then (if b = 0 then 0 else 1) else 1) := by
  rw [jnS, if_neg (by decide +kernel), if_pos rfl]
theorem jn_8 (a b : Int32) : jnS (-8) a b = (if a < b then 1 else 0) := by
  rw [jnS, if_neg (by decide +kernel), if_neg (by decide +kernel), if_pos rfl]
theorem jn_9 (a b : Int32) : jnS (-9) a b = (if a = b then 1 else 0) := by
  rw [jnS, if_neg (by decide +kernel), if_neg (by decide +kernel), if_neg (by decide +kernel), if_pos rfl]
theorem jn_10 (a b : Int32) : jnS (-10) a b = a + b := by
  rw [jnS, if_neg (by decide +kernel), if_neg (by decide +kernel), if_neg (by decide +kernel), if_neg (by decide +kernel), if_pos rfl]
theorem jn_11 (a b : Int32) : jnS (-11) a b = a - b := by
  rw [jnS, if_neg (by decide +kernel), if_neg (by decide +kernel), if_neg (by decide +kernel), if_neg (by decide +kernel), if_neg (by decide +kernel), if_pos rfl]
theorem jn_12 (a b : Int32) : jnS (-12) a b = a * b := by
  rw [jnS, if_neg (by decide +kernel), if_neg (by decide +kernel), if_neg (by decide +kernel), if_neg (by decide +kernel), if_neg (by decide +kernel), if_neg (by decide +kernel)]
theorem c_join {c : Int32} (h : cB c) (a b : Int32) (u : ab_S) : fX1_join c a b u = some (jnS c a b, u) := by
  unfold fX1_join
  rw [sw_join]
  simp only [bf]
  obtain h | h | h | h | h | h | h := h
  · subst h
    rw [if_neg (by decide +kernel), if_neg (by decide +kernel), if_neg (by decide +kernel), if_neg (by decide +kernel), if_neg (by decide +kernel), if_pos rfl, jn_6]
  · subst h
    rw [if_neg (by decide +kernel), if_neg (by decide +kernel), if_neg (by decide +kernel), if_neg (by decide +kernel), if_pos rfl, jn_7]
  · subst h
    rw [if_neg (by decide +kernel), if_neg (by decide +kernel), if_neg (by decide +kernel), if_pos rfl, jn_8]
  · subst h
    rw [if_neg (by decide +kernel), if_neg (by decide +kernel), if_pos rfl, jn_9]
  · subst h
    rw [if_neg (by decide +kernel), if_pos rfl, jn_10]
  · subst h
    rw [if_pos rfl, jn_11]
  · subst h
    rw [if_neg (by decide +kernel), if_neg (by decide +kernel), if_neg (by decide +kernel), if_neg (by decide +kernel), if_neg (by decide +kernel), if_neg (by decide +kernel), jn_12]
theorem cE_P {c x y : Int32} (hP : cP c) (hE : cE c x y) : (∃ a, a < 4 ∧ c = fcL.getD a 0 ∧ x = 2 ∧ y = nI a) ∨ (∃ m, m < 10000 ∧ c = nI m ∧ x = 1 ∧ y = nI m) := by
  have no : c < -4 → False := cP_ge hP
  obtain ⟨h, a, b⟩ | ⟨h, a, b⟩ | ⟨h, a, b⟩ | ⟨h, a, b⟩ | ⟨h, a, b⟩ | ⟨h, a, b⟩ | ⟨h, a, b⟩ | ⟨h, a, b⟩ | ⟨h, a, b⟩ | ⟨h, a, b⟩ | ⟨h, a, b⟩ | ⟨h, a, b⟩ | ⟨m, hm, h, a, b⟩ := hE
  · exact Or.inl ⟨0, by decide, h, a, b⟩
  · exact Or.inl ⟨1, by decide, h, a, b⟩
  · exact Or.inl ⟨2, by decide, h, a, b⟩
  · exact Or.inl ⟨3, by decide, h, a, b⟩
  · exact (no (by rw [h]; decide +kernel)).elim
  · exact (no (by rw [h]; decide +kernel)).elim
  · exact (no (by rw [h]; decide +kernel)).elim
  · exact (no (by rw [h]; decide +kernel)).elim
  · exact (no (by rw [h]; decide +kernel)).elim
  · exact (no (by rw [h]; decide +kernel)).elim
  · exact (no (by rw [h]; decide +kernel)).elim
  · exact (no (by rw [h]; decide +kernel)).elim
  · exact Or.inr ⟨m, hm, h, a, b⟩
theorem cE_N {x y : Int32} (hE : cE (-5) x y) : x = 3 := by
  obtain ⟨h, a, b⟩ | ⟨h, a, b⟩ | ⟨h, a, b⟩ | ⟨h, a, b⟩ | ⟨h, a, b⟩ | ⟨h, a, b⟩ | ⟨h, a, b⟩ | ⟨h, a, b⟩ | ⟨h, a, b⟩ | ⟨h, a, b⟩ | ⟨h, a, b⟩ | ⟨h, a, b⟩ | ⟨m, hm, h, a, b⟩ := hE
  · exact absurd h (by decide +kernel)
  · exact absurd h (by decide +kernel)
  · exact absurd h (by decide +kernel)
  · exact absurd h (by decide +kernel)
  · exact a
  · exact absurd h (by decide +kernel)
  · exact absurd h (by decide +kernel)
  · exact absurd h (by decide +kernel)
  · exact absurd h (by decide +kernel)
  · exact absurd h (by decide +kernel)
  · exact absurd h (by decide +kernel)
  · exact absurd h (by decide +kernel)
  · exact absurd h.symm (nI_neg (by omega) (by decide +kernel))
theorem cE_B {c x y : Int32} (hB : cB c) (hE : cE c x y) : (¬ x = 0 ∧ ¬ x = 1 ∧ ¬ x = 2 ∧ ¬ x = 3) ∧ ∀ (a b : Int32) (v : ab_S), fX10_both x a b v = some (jnS c a b, v) := by
  have no : ¬ c < -5 → False := fun z => z (cB_lt hB)
  obtain ⟨h, a, b⟩ | ⟨h, a, b⟩ | ⟨h, a, b⟩ | ⟨h, a, b⟩ | ⟨h, a, b⟩ | ⟨h, a, b⟩ | ⟨h, a, b⟩ | ⟨h, a, b⟩ | ⟨h, a, b⟩ | ⟨h, a, b⟩ | ⟨h, a, b⟩ | ⟨h, a, b⟩ | ⟨m, hm, h, a, b⟩ := hE
  · exact (no (by rw [h]; decide +kernel)).elim
  · exact (no (by rw [h]; decide +kernel)).elim
  · exact (no (by rw [h]; decide +kernel)).elim
  · exact (no (by rw [h]; decide +kernel)).elim
  · exact (no (by rw [h]; decide +kernel)).elim
  · subst h a
    refine ⟨by decide +kernel, fun a b v => ?_⟩
    unfold fX10_both
    rw [sw_both, if_neg (by decide +kernel), if_neg (by decide +kernel), if_neg (by decide +kernel), if_neg (by decide +kernel), if_neg (by decide +kernel), if_pos rfl, jn_6]
    simp only [bf]
  · subst h a
    refine ⟨by decide +kernel, fun a b v => ?_⟩
    unfold fX10_both
    rw [sw_both, if_neg (by decide +kernel), if_neg (by decide +kernel), if_neg (by decide +kernel), if_neg (by decide +kernel), if_neg (by decide +kernel), if_neg (by decide +kernel), jn_7]
    simp only [bf]
  · subst h a
    refine ⟨by decide +kernel, fun a b v => ?_⟩
    unfold fX10_both
    rw [sw_both, if_neg (by decide +kernel), if_neg (by decide +kernel), if_neg (by decide +kernel), if_pos rfl, jn_8]
    simp only [bf]
  · subst h a
    refine ⟨by decide +kernel, fun a b v => ?_⟩
    unfold fX10_both
    rw [sw_both, if_neg (by decide +kernel), if_neg (by decide +kernel), if_neg (by decide +kernel), if_neg (by decide +kernel), if_pos rfl, jn_9]
    simp only [bf]
  · subst h a
    refine ⟨by decide +kernel, fun a b v => ?_⟩
    unfold fX10_both
    rw [sw_both, if_pos rfl, jn_10]
  · subst h a
    refine ⟨by decide +kernel, fun a b v => ?_⟩
    unfold fX10_both
    rw [sw_both, if_neg (by decide +kernel), if_pos rfl, jn_11]
  · subst h a
    refine ⟨by decide +kernel, fun a b v => ?_⟩
    unfold fX10_both
    rw [sw_both, if_neg (by decide +kernel), if_neg (by decide +kernel), if_pos rfl, jn_12]
  · exact (no (by rw [h]; exact nI_gt (by omega) (by decide +kernel))).elim
theorem pvS_f (f : Nat → Int32) : ∀ a, a < 4 → pvS f (fcL.getD a 0) = f a
  | 0, _ => by
    show pvS f (-1) = f 0
    rw [pvS, if_pos rfl]
  | 1, _ => by
    show pvS f (-2) = f 1
    rw [pvS, if_neg (by decide +kernel), if_pos rfl]
  | 2, _ => by
    show pvS f (-3) = f 2
    rw [pvS, if_neg (by decide +kernel), if_neg (by decide +kernel), if_pos rfl]
  | 3, _ => by
    show pvS f (-4) = f 3
    rw [pvS, if_neg (by decide +kernel), if_neg (by decide +kernel), if_neg (by decide +kernel), if_pos rfl]
  | a + 4, h => absurd h (by omega)
theorem pvS_n (f : Nat → Int32) {m : Nat} (h : m < 10000) : pvS f (nI m) = nI m := by
  rw [pvS, if_neg (nI_neg (by omega) (by decide +kernel)), if_neg (nI_neg (by omega) (by decide +kernel)), if_neg (nI_neg (by omega) (by decide +kernel)), if_neg (nI_neg (by omega) (by decide +kernel))]
def dWk (q a k : Nat) : Prop := a = q + 2 ∨ (a = q ∧ k = 3)
section PU
variable {u v u' v' : ab_S} {n T i q h : Nat} {cs ds : List Int32}
theorem c_push (e : u.1 q 3 = nI h) (hh : h < 32) (x : Int32) : fX1_push q x u = some ((), sI (sI u (q + 2) h x) q 3 (nI (h + 1))) := by
  have e2 : (sI u (q + 2) h x).1 q 3 = nI h := by rw [sI_at, if_neg (by omega)]; exact e
  unfold fX1_push
  rw [e]
  simp (disch := first | omega | decide) only [i10, i00, decide_true, decide_false, cnd_t, cnd_f, gd_nil, gd_t, b1_0, b1_1, sw_nil, sw_cons, obs, Nat.not_lt_zero, nI_addo, nI_oadd, nI_add, nI_mulo, nI_omul, nI_mul, nI_lto, nI_leo, nI_olt, nI_ole, nI_eqo, nI_oeq, nI_lt2, nI_le2, nI_eq2, nI_nm1, nI_m1n, nI_lt0, nI_lem1, nc_nI, nc_o, ix_nI, ix_o, hh, e2]
theorem c_pop (e : u.1 q 3 = nI (h + 1)) (hh : h < 32) : fX1_pop q u = some (u.1 (q + 2) h, sI u q 3 (nI h)) := by
  have e1 : nI (h + 1) - 1 = nI h := nI_sub (b := 1) (by omega)
  unfold fX1_pop
  rw [e, e1]
  have e2 : (sI u q 3 (nI h)).1 q 3 = nI h := by rw [sI_at, if_pos ⟨rfl, rfl⟩]
  have e3 : (sI u q 3 (nI h)).1 (q + 2) h = u.1 (q + 2) h := by rw [sI_at, if_neg (by omega)]
  simp (disch := first | omega | decide) only [i10, i00, decide_true, decide_false, cnd_t, cnd_f, gd_nil, gd_t, b1_0, b1_1, sw_nil, sw_cons, obs, Nat.not_lt_zero, nI_addo, nI_oadd, nI_add, nI_mulo, nI_omul, nI_mul, nI_lto, nI_leo, nI_olt, nI_ole, nI_eqo, nI_oeq, nI_lt2, nI_le2, nI_eq2, nI_nm1, nI_m1n, nI_lt0, nI_lem1, nc_nI, nc_o, ix_nI, ix_o, show ¬ h + 1 ≤ 0 by omega, show h + 1 ≤ 32 by omega, e2, e3]
theorem push_fr {x y : Int32} : Fr (dWk q) u (sI (sI u (q + 2) h x) q 3 y) := Fr.trans (D := dWk q) (Fr.sI (Or.inl rfl)) (Fr.sI (Or.inr ⟨rfl, rfl⟩))
theorem c_work (f : Nat → Int32) : ∀ (cs : List Int32) (k n h N : Nat) (g : Nat → Int32) (u : ab_S), u.1 q 1 = nI n → k + cs.length = n → n ≤ 1000 → (∀ j, j < cs.length → u.1 (q + 1) (k + j) = cs.getD j 0) → u.1 q 3 = nI h → (∀ i, i < h → u.1 (q + 2) i = g i) → h ≤ 32 → okc cs h 1 → cs.length < N → ∃ u', fX1_work_8 q N (f 0) (f 1) (f 2) (f 3) (nI k) u = some (peS f cs h g, u') ∧ Fr (dWk q) u u' := by
  intro cs
  induction cs with
  | nil =>
    intro k n h N g u e1 e2 hn e3 e4 e5 hh ok hN
    obtain ⟨N, rfl⟩ : ∃ m, N = m + 1 := ⟨N - 1, Nat.succ_pred_eq_of_pos (Nat.lt_of_le_of_lt (Nat.zero_le _) hN) |>.symm⟩
    have ek : k = n := e2
    have eh : h = 1 := ok
    subst ek eh
    have ep : fX1_pop q u = some (g 0, sI u q 3 (nI 0)) := by
      rw [c_pop (h := 0) e4 (by decide), e5 0 (by decide)]
    refine ⟨sI u q 3 (nI 0), ?_, Fr.sI (Or.inr ⟨rfl, rfl⟩)⟩
    rw [fX1_work_8, e1]
    unfold fX1_work_136
    simp (disch := first | omega | decide) only [i10, i00, decide_true, decide_false, cnd_t, cnd_f, gd_nil, gd_t, b1_0, b1_1, sw_nil, sw_cons, obs, Nat.not_lt_zero, nI_addo, nI_oadd, nI_add, nI_mulo, nI_omul, nI_mul, nI_lto, nI_leo, nI_olt, nI_ole, nI_eqo, nI_oeq, nI_lt2, nI_le2, nI_eq2, nI_nm1, nI_m1n, nI_lt0, nI_lem1, nc_nI, nc_o, ix_nI, ix_o, Nat.lt_irrefl, ep, peS]
  | cons c cs ih =>
    intro k n h N g u e1 e2 hn e3 e4 e5 hh ok hN
    obtain ⟨N, rfl⟩ : ∃ m, N = m + 1 := ⟨N - 1, Nat.succ_pred_eq_of_pos (Nat.lt_of_le_of_lt (Nat.zero_le _) hN) |>.symm⟩
    rw [List.length_cons] at e2 hN
    have ec : u.1 (q + 1) k = c := by
      have := e3 0 (by rw [List.length_cons]; omega)
      exact this
    have e3' : ∀ j, j < cs.length → u.1 (q + 1) (k + 1 + j) = cs.getD j 0 := fun j hj => by
      have := e3 (j + 1) (by rw [List.length_cons]; omega)
      rw [show k + 1 + j = k + (j + 1) by omega]
      exact this
    have ek : nI k + 1 = nI (k + 1) := nI_1 k
    have kn : (nI k < nI n) = True := eq_true ((nI_lt2 (by omega) (by omega)).mpr (by omega))
    have k1 : (nI k < 1000) = True := eq_true (show nI k < nI 1000 from (nI_ltI (by omega) (by decide)).mpr (by omega))
    have ix : ab_ix (nI k) 1000 = true := ix_nI (by omega) (by decide)
    have nck : nc (nI k) = k := nc_nI (by omega)
    -- what comes behind a push
    have next : ∀ (w : ab_S) (h' : Nat) (g' : Nat → Int32), Fr (dWk q) u w → w.1 q 3 = nI h' → (∀ i, i < h' → w.1 (q + 2) i = g' i) → h' ≤ 32 → okc cs h' 1 → ∃ u', fX1_work_8 q N (f 0) (f 1) (f 2) (f 3) (nI (k + 1)) w = some (peS f cs h' g', u') ∧ Fr (dWk q) u u' := by
      intro w h' g' F w3 w5 wh wo
      obtain ⟨u', z1, z2⟩ := ih (k + 1) n h' N g' w (by rw [F.1 _ _ (by unfold dWk; omega)]; exact e1) (by omega) hn (fun j hj => by rw [F.1 _ _ (by unfold dWk; omega)]; exact e3' j hj) w3 w5 wh wo (by omega)
      exact ⟨u', z1, F.trans z2⟩
    rw [fX1_work_8, e1]
    simp only [kn, k1, decide_true, cnd_t, gd_t, gd_nil, ix, nck, ec]
    rw [sw_part]
    unfold fX1_work_118
    obtain ⟨p1, p2, p3⟩ | ⟨p1, p2, p3⟩ | ⟨p1, p2, p3⟩ := ok
    · obtain ⟨u', z1, z2⟩ := next (sI (sI u (q + 2) h (pvS f c)) q 3 (nI (h + 1))) (h + 1) (upS g h (pvS f c)) push_fr (by rw [sI_at, if_pos ⟨rfl, rfl⟩]) (fun i hi => by
        rw [sI_at, if_neg (by omega), upS]
        by_cases e : i = h
        · subst e
          rw [if_pos rfl, sI_at, if_pos ⟨rfl, rfl⟩]
        · rw [if_neg e, sI_at, if_neg (by omega)]
          exact e5 i (by omega)) (by omega) p3
      have ep := c_push e4 p2 (pvS f c)
      refine ⟨u', ?_, z2⟩
      rw [peS_push p1, if_neg (cP_n5 p1), ← z1]
      obtain h1 | h1 | h1 | h1 | ⟨m, hm, h1⟩ := p1
      · subst h1
        rw [if_neg (by decide +kernel), if_neg (by decide +kernel), if_neg (by decide +kernel), if_pos rfl]
        rw [show pvS f (-1) = f 0 from pvS_f f 0 (by decide)] at ep ⊢
        simp only [ep, obs, ek]
      · subst h1
        rw [if_neg (by decide +kernel), if_neg (by decide +kernel), if_pos rfl]
        rw [show pvS f (-2) = f 1 from pvS_f f 1 (by decide)] at ep ⊢
        simp only [ep, obs, ek]
      · subst h1
        rw [if_neg (by decide +kernel), if_pos rfl]
        rw [show pvS f (-3) = f 2 from pvS_f f 2 (by decide)] at ep ⊢
        simp only [ep, obs, ek]
      · subst h1
        rw [if_pos rfl]
        rw [show pvS f (-4) = f 3 from pvS_f f 3 (by decide)] at ep ⊢
        simp only [ep, obs, ek]
      · subst h1
        rw [if_neg (nI_neg (by omega) (by decide +kernel)), if_neg (nI_neg (by omega) (by decide +kernel)), if_neg (nI_neg (by omega) (by decide +kernel)), if_neg (nI_neg (by omega) (by decide +kernel))]
        rw [pvS_n f hm] at ep ⊢
        unfold fX1_pushOrJoin
        simp only [show (nI m < 0) = False from eq_false (nI_pos (by omega)), i10, i00, decide_true, decide_false, cnd_t, cnd_f, gd_nil, gd_t, b1_0, b1_1, sw_nil, sw_cons, obs, ep, ek]
    · subst p1
      obtain ⟨h, rfl⟩ : ∃ m, h = m + 1 := ⟨h - 1, by omega⟩
      have ep := c_pop e4 (by omega)
      rw [e5 h (by omega)] at ep
      obtain ⟨u', z1, z2⟩ := next (sI (sI (sI u q 3 (nI h)) (q + 2) h (if g h = 0 then 1 else 0)) q 3 (nI (h + 1))) (h + 1) (upS g h (if g h = 0 then 1 else 0)) (Fr.trans (D := dWk q) (Fr.sI (Or.inr ⟨rfl, rfl⟩)) push_fr) (by rw [sI_at, if_pos ⟨rfl, rfl⟩]) (fun i hi => by
        rw [sI_at, if_neg (by omega), upS]
        by_cases e : i = h
        · subst e
          rw [if_pos rfl, sI_at, if_pos ⟨rfl, rfl⟩]
        · rw [if_neg e, sI_at, if_neg (by omega), sI_at, if_neg (by omega)]
          exact e5 i (by omega)) (by omega) p3
      have eq1 := c_push (u := sI u q 3 (nI h)) (q := q) (h := h) (by rw [sI_at, if_pos ⟨rfl, rfl⟩]) (by omega) (if g h = 0 then 1 else 0)
      refine ⟨u', ?_, z2⟩
      rw [peS_not, if_pos rfl, show h + 1 - 1 = h by omega, ← z1, ep]
      simp only [obs]
      by_cases eg : g h = 0
      · simp only [eg, if_true, i10, i00, decide_true, decide_false, cnd_t, cnd_f, gd_nil, gd_t, b1_0, b1_1, sw_nil, sw_cons, obs] at eq1 ⊢
        simp only [eq1, obs, ek]
      · simp only [eg, if_false, i10, i00, decide_true, decide_false, cnd_t, cnd_f, gd_nil, gd_t, b1_0, b1_1, sw_nil, sw_cons, obs] at eq1 ⊢
        simp only [eq1, obs, ek]
    · obtain ⟨h, rfl⟩ : ∃ m, h = m + 2 := ⟨h - 2, by omega⟩
      have ep := c_pop (h := h + 1) e4 (by omega)
      rw [e5 (h + 1) (by omega)] at ep
      have ep2 := c_pop (u := sI u q 3 (nI (h + 1))) (q := q) (h := h) (by rw [sI_at, if_pos ⟨rfl, rfl⟩]) (by omega)
      rw [sI_at, if_neg (by omega), e5 h (by omega)] at ep2
      have eq1 := c_push (u := sI (sI u q 3 (nI (h + 1))) q 3 (nI h)) (q := q) (h := h) (by rw [sI_at, if_pos ⟨rfl, rfl⟩]) (by omega) (jnS c (g h) (g (h + 1)))
      obtain ⟨u', z1, z2⟩ := next (sI (sI (sI (sI u q 3 (nI (h + 1))) q 3 (nI h)) (q + 2) h (jnS c (g h) (g (h + 1)))) q 3 (nI (h + 1))) (h + 1) (upS g h (jnS c (g h) (g (h + 1)))) (Fr.trans (D := dWk q) (Fr.sI (Or.inr ⟨rfl, rfl⟩)) (Fr.trans (D := dWk q) (Fr.sI (Or.inr ⟨rfl, rfl⟩)) push_fr)) (by rw [sI_at, if_pos ⟨rfl, rfl⟩]) (fun i hi => by
        rw [sI_at, if_neg (by omega), upS]
        by_cases e : i = h
        · subst e
          rw [if_pos rfl, sI_at, if_pos ⟨rfl, rfl⟩]
        · rw [if_neg e, sI_at, if_neg (by omega), sI_at, if_neg (by omega), sI_at, if_neg (by omega)]
          exact e5 i (by omega)) (by omega) (by
          rw [show h + 2 - 1 = h + 1 by omega] at p3
          exact p3)
      refine ⟨u', ?_, z2⟩
      have lt := cB_lt p1
      have c4 : ¬ c = -4 := fun e => absurd (e ▸ lt) (by decide +kernel)
      have c3 : ¬ c = -3 := fun e => absurd (e ▸ lt) (by decide +kernel)
      have c2 : ¬ c = -2 := fun e => absurd (e ▸ lt) (by decide +kernel)
      have c1 : ¬ c = -1 := fun e => absurd (e ▸ lt) (by decide +kernel)
      have c0 : c < 0 := by
        obtain h | h | h | h | h | h | h := p1 <;> (subst h; decide +kernel)
      rw [peS_bin p1, if_neg (cB_n5 p1), if_neg c4, if_neg c3, if_neg c2, if_neg c1, show h + 2 - 2 = h by omega, show h + 2 - 1 = h + 1 by omega, ← z1]
      unfold fX1_pushOrJoin
      simp only [c0, i10, i00, decide_true, decide_false, cnd_t, cnd_f, gd_nil, gd_t, b1_0, b1_1, sw_nil, sw_cons, obs, ep, ep2, c_join p1, eq1, ek]
-- the reference's road
theorem m_work (f : Nat → Int32) : ∀ (cs : List Int32) (k h N : Nat) (g : Nat → Int32) (v : ab_S), (∀ j, j < cs.length → cE (cs.getD j 0) (v.1 7 (k + j)) (v.1 8 (k + j))) → v.1 7 (k + cs.length) = 0 → k + cs.length ≤ 1000 → (∀ i, i < h → v.1 15 i = g i) → (∀ i, i < 4 → v.1 14 i = f i) → h ≤ 32 → okc cs h 1 → cs.length < N → ∃ v', fX10_worthAt_4 N (nI h) (nI k) v = some (peS f cs h g, v') ∧ Sc v v' := by
  intro cs
  induction cs with
  | nil =>
    intro k h N g v e1 e2 hn e3 e4 hh ok hN
    obtain ⟨N, rfl⟩ : ∃ m, N = m + 1 := ⟨N - 1, Nat.succ_pred_eq_of_pos (Nat.lt_of_le_of_lt (Nat.zero_le _) hN) |>.symm⟩
    have eh : h = 1 := ok
    subst eh
    have hk : k ≤ 1000 := hn
    have e2' : v.1 7 k = 0 := e2
    have e5 : v.1 15 0 = g 0 := e3 0 (by decide)
    refine ⟨v, ?_, Fr.rfl'⟩
    rw [fX10_worthAt_4]
    simp (disch := first | omega | decide) only [i10, i00, decide_true, decide_false, cnd_t, cnd_f, gd_nil, gd_t, b1_0, b1_1, sw_nil, sw_cons, obs, Nat.not_lt_zero, nI_addo, nI_oadd, nI_add, nI_mulo, nI_omul, nI_mul, nI_lto, nI_leo, nI_olt, nI_ole, nI_eqo, nI_oeq, nI_lt2, nI_le2, nI_eq2, nI_nm1, nI_m1n, nI_lt0, nI_lem1, nc_nI, nc_o, ix_nI, ix_o, e2', show ab_ix 0 1100 = true by decide +kernel, show nc (0 : Int32) = 0 by decide +kernel, e5, peS]
  | cons c cs ih =>
    intro k h N g v e1 e2 hn e3 e4 hh ok hN
    obtain ⟨N, rfl⟩ : ∃ m, N = m + 1 := ⟨N - 1, Nat.succ_pred_eq_of_pos (Nat.lt_of_le_of_lt (Nat.zero_le _) hN) |>.symm⟩
    rw [List.length_cons] at e2 hn hN
    have hE : cE c (v.1 7 k) (v.1 8 k) := e1 0 (by rw [List.length_cons]; omega)
    have e1' : ∀ j, j < cs.length → cE (cs.getD j 0) (v.1 7 (k + 1 + j)) (v.1 8 (k + 1 + j)) := fun j hj => by
      have := e1 (j + 1) (by rw [List.length_cons]; omega)
      rw [show k + 1 + j = k + (j + 1) by omega]
      exact this
    have ek : nI k + 1 = nI (k + 1) := nI_1 k
    have ix : ab_ix (nI k) 2200 = true := ix_nI (by omega) (by decide)
    have nck : nc (nI k) = k := nc_nI (by omega)
    have next : ∀ (w : ab_S) (h' : Nat) (g' : Nat → Int32), Fr (fun a _ => a = 15) v w → (∀ i, i < h' → w.1 15 i = g' i) → h' ≤ 32 → okc cs h' 1 → ∃ v', fX10_worthAt_4 N (nI h') (nI (k + 1)) w = some (peS f cs h' g', v') ∧ Sc v v' := by
      intro w h' g' F w5 wh wo
      obtain ⟨v', z1, z2⟩ := ih (k + 1) h' N g' w (fun j hj => by rw [F.1 _ _ (by omega), F.1 _ _ (by omega)]; exact e1' j hj) (by rw [F.1 _ _ (by omega), show k + 1 + cs.length = k + (cs.length + 1) by omega]; exact e2) (by omega) w5 (fun i hi => by rw [F.1 _ _ (by omega)]; exact e4 i hi) wh wo (by omega)
      exact ⟨v', z1, (F.mono fun a k z => Or.inr z).trans z2⟩
    rw [fX10_worthAt_4]
    simp only [i10, i00, decide_true, decide_false, cnd_t, cnd_f, gd_nil, gd_t, b1_0, b1_1, sw_nil, sw_cons, obs, ix, nck]
    obtain ⟨p1, p2, p3⟩ | ⟨p1, p2, p3⟩ | ⟨p1, p2, p3⟩ := ok
    · obtain ⟨v', z1, z2⟩ := next (sI v 15 h (pvS f c)) (h + 1) (upS g h (pvS f c)) (Fr.sI rfl) (fun i hi => by
        rw [upS]
        by_cases e : i = h
        · subst e
          rw [if_pos rfl, sI_at, if_pos ⟨rfl, rfl⟩]
        · rw [if_neg e, sI_at, if_neg (by omega)]
          exact e3 i (by omega)) (by omega) p3
      refine ⟨v', ?_, z2⟩
      rw [peS_push p1, ← z1]
      unfold fX10_worthAt_33
      obtain ⟨a, a1, a2, a3, a4⟩ | ⟨m, a1, a2, a3, a4⟩ := cE_P p1 hE
      · have ea : v.1 14 a = pvS f c := by rw [a2, pvS_f f a a1]; exact e4 a a1
        simp (disch := first | omega | decide) only [a3, a4, show ((2 : Int32) = 0) = False from eq_false (by decide +kernel), show ((2 : Int32) = 1) = False from eq_false (by decide +kernel), i10, i00, decide_true, decide_false, cnd_t, cnd_f, gd_nil, gd_t, b1_0, b1_1, sw_nil, sw_cons, obs, ix_nI, nc_nI, nck, ix, ea, ek, show nI h + 1 = nI (h + 1) from nI_1 h]
      · have ea : nI m = pvS f c := by rw [a2, pvS_n f a1]
        simp (disch := first | omega | decide) only [a3, a4, show ((1 : Int32) = 0) = False from eq_false (by decide +kernel), i10, i00, decide_true, decide_false, cnd_t, cnd_f, gd_nil, gd_t, b1_0, b1_1, sw_nil, sw_cons, obs, ix_nI, nc_nI, nck, ix, ← ea, ek, show nI h + 1 = nI (h + 1) from nI_1 h]
    · subst p1
      obtain ⟨h, rfl⟩ : ∃ m, h = m + 1 := ⟨h - 1, by omega⟩
      have ex := cE_N hE
      have es : nI (h + 1) - 1 = nI h := nI_sub (b := 1) (by omega)
      have eg : v.1 15 h = g h := e3 h (by omega)
      obtain ⟨v', z1, z2⟩ := next (sI v 15 h (if g h = 0 then 1 else 0)) (h + 1) (upS g h (if g h = 0 then 1 else 0)) (Fr.sI rfl) (fun i hi => by
        rw [upS]
        by_cases e : i = h
        · subst e
          rw [if_pos rfl, sI_at, if_pos ⟨rfl, rfl⟩]
        · rw [if_neg e, sI_at, if_neg (by omega)]
          exact e3 i (by omega)) (by omega) p3
      refine ⟨v', ?_, z2⟩
      rw [peS_not, show h + 1 - 1 = h by omega, ← z1]
      by_cases e0 : g h = 0
      · simp (disch := first | omega | decide) only [ex, show ((3 : Int32) = 0) = False from eq_false (by decide +kernel), show ((3 : Int32) = 1) = False from eq_false (by decide +kernel), show ((3 : Int32) = 2) = False from eq_false (by decide +kernel), i10, i00, decide_true, decide_false, cnd_t, cnd_f, gd_nil, gd_t, b1_0, b1_1, sw_nil, sw_cons, obs, es, ix_nI, nc_nI, eg, e0, if_true, ek]
      · simp (disch := first | omega | decide) only [ex, show ((3 : Int32) = 0) = False from eq_false (by decide +kernel), show ((3 : Int32) = 1) = False from eq_false (by decide +kernel), show ((3 : Int32) = 2) = False from eq_false (by decide +kernel), i10, i00, decide_true, decide_false, cnd_t, cnd_f, gd_nil, gd_t, b1_0, b1_1, sw_nil, sw_cons, obs, es, ix_nI, nc_nI, eg, e0, if_false, ek]
    · obtain ⟨h, rfl⟩ : ∃ m, h = m + 2 := ⟨h - 2, by omega⟩
      obtain ⟨⟨n0, n1, n2, n3⟩, hb⟩ := cE_B p1 hE
      have es : nI (h + 2) + (-1) = nI (h + 1) := (Int32.sub_eq_add_neg (nI (h + 2)) 1).symm.trans (nI_sub (a := h + 2) (b := 1) (by omega))
      have es2 : nI (h + 1) - 1 = nI h := nI_sub (b := 1) (by omega)
      have eg : v.1 15 h = g h := e3 h (by omega)
      have eg1 : v.1 15 (h + 1) = g (h + 1) := e3 (h + 1) (by omega)
      obtain ⟨v', z1, z2⟩ := next (sI v 15 h (jnS c (g h) (g (h + 1)))) (h + 1) (upS g h (jnS c (g h) (g (h + 1)))) (Fr.sI rfl) (fun i hi => by
        rw [upS]
        by_cases e : i = h
        · subst e
          rw [if_pos rfl, sI_at, if_pos ⟨rfl, rfl⟩]
        · rw [if_neg e, sI_at, if_neg (by omega)]
          exact e3 i (by omega)) (by omega) (by
          rw [show h + 2 - 1 = h + 1 by omega] at p3
          exact p3)
      refine ⟨v', ?_, z2⟩
      rw [peS_bin p1, show h + 2 - 2 = h by omega, show h + 2 - 1 = h + 1 by omega, ← z1]
      simp (disch := first | omega | decide) only [n0, n1, n2, n3, i10, i00, decide_true, decide_false, cnd_t, cnd_f, gd_nil, gd_t, b1_0, b1_1, sw_nil, sw_cons, obs, es, es2, ix_nI, nc_nI, eg, eg1, hb, ek]
end PU
