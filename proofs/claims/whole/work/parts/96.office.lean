/-! the law worked out, on both sides -/
def upS (g : Nat → Int32) (i : Nat) (x : Int32) : Nat → Int32 := fun j => if j = i then x else g j
def jnS (c a b : Int32) : Int32 := if c = -6 then (if a = 0 then 0 else if b = 0 then 0 else 1) else if c = -7 then (if a = 0 then (if b = 0 then 0 else 1) else 1) else if c = -8 then (if a < b then 1 else 0) else if c = -9 then (if a = b then 1 else 0) else if c = -10 then a + b else if c = -11 then a - b else a * b
def pvS (f : Nat → Int32) (c : Int32) : Int32 := if c = -1 then f 0 else if c = -2 then f 1 else if c = -3 then f 2 else if c = -4 then f 3 else c
def peS (f : Nat → Int32) : List Int32 → Nat → (Nat → Int32) → Int32
  | [], _, g => g 0
  | c :: cs, h, g => if c = -5 then peS f cs h (upS g (h - 1) (if g (h - 1) = 0 then 1 else 0)) else if c < -5 then peS f cs (h - 1) (upS g (h - 2) (jnS c (g (h - 2)) (g (h - 1)))) else peS f cs (h + 1) (upS g h (pvS f c))
theorem nI_neg {m : Nat} (hm : m < 2147483648) {c : Int32} (hc : c < 0) : ¬ nI m = c := fun e => nI_pos hm (by rw [e]; exact hc)
theorem nI_gt {m : Nat} (hm : m < 2147483648) {c : Int32} (hc : c < 0) : ¬ nI m < c := by
  intro h
  rw [Int32.lt_iff_toInt_lt, nI_toInt hm] at h
  rw [Int32.lt_iff_toInt_lt, show (0 : Int32).toInt = 0 by decide +kernel] at hc
  omega
theorem cP_ge {c : Int32} (h : cP c) : ¬ c < -4 := by
  obtain h | h | h | h | ⟨m, h1, h⟩ := h
  · subst h; decide +kernel
  · subst h; decide +kernel
  · subst h; decide +kernel
  · subst h; decide +kernel
  · subst h; exact nI_gt (by omega) (by decide +kernel)
theorem cP_n5 {c : Int32} (h : cP c) : ¬ c = -5 := fun e => cP_ge h (by rw [e]; decide +kernel)
theorem cP_l5 {c : Int32} (h : cP c) : ¬ c < -5 := fun e => cP_ge h (by
  rw [Int32.lt_iff_toInt_lt, show (-5 : Int32).toInt = -5 by decide +kernel] at e
  rw [Int32.lt_iff_toInt_lt, show (-4 : Int32).toInt = -4 by decide +kernel]
  omega)
theorem cB_lt {c : Int32} (h : cB c) : c < -5 := by
  obtain h | h | h | h | h | h | h := h <;> (subst h; decide +kernel)
theorem cB_n5 {c : Int32} (h : cB c) : ¬ c = -5 := by
  obtain h | h | h | h | h | h | h := h <;> (subst h; decide +kernel)
theorem peS_push {f : Nat → Int32} {c : Int32} (h : cP c) (cs : List Int32) (k : Nat) (g : Nat → Int32) : peS f (c :: cs) k g = peS f cs (k + 1) (upS g k (pvS f c)) := by
  rw [peS, if_neg (cP_n5 h), if_neg (cP_l5 h)]
theorem peS_not {f : Nat → Int32} (cs : List Int32) (k : Nat) (g : Nat → Int32) : peS f (-5 :: cs) k g = peS f cs k (upS g (k - 1) (if g (k - 1) = 0 then 1 else 0)) := by
  rw [peS, if_pos rfl]
theorem peS_bin {f : Nat → Int32} {c : Int32} (h : cB c) (cs : List Int32) (k : Nat) (g : Nat → Int32) : peS f (c :: cs) k g = peS f cs (k - 1) (upS g (k - 2) (jnS c (g (k - 2)) (g (k - 1)))) := by
  rw [peS, if_neg (cB_n5 h), if_pos (cB_lt h)]
theorem sw_part {α : Type} (c : Int32) (a5 a4 a3 a2 a1 d : Option α) : ab_sw c [((-5), a5), ((-4), a4), ((-3), a3), ((-2), a2), ((-1), a1)] d = if c = -5 then a5 else if c = -4 then a4 else if c = -3 then a3 else if c = -2 then a2 else if c = -1 then a1 else d := by
  simp only [sw_cons, sw_nil, Bool.cond_decide]
theorem sw_join {α : Type} (c : Int32) (a1 a2 a3 a4 a5 a6 d : Option α) : ab_sw c [((-11), a1), ((-10), a2), ((-9), a3), ((-8), a4), ((-7), a5), ((-6), a6)] d = if c = -11 then a1 else if c = -10 then a2 else if c = -9 then a3 else if c = -8 then a4 else if c = -7 then a5 else if c = -6 then a6 else d := by
  simp only [sw_cons, sw_nil, Bool.cond_decide]
theorem sw_both {α : Type} (c : Int32) (a1 a2 a3 a4 a5 a6 d : Option α) : ab_sw c [(4, a1), (5, a2), (6, a3), (7, a4), (8, a5), (9, a6)] d = if c = 4 then a1 else if c = 5 then a2 else if c = 6 then a3 else if c = 7 then a4 else if c = 8 then a5 else if c = 9 then a6 else d := by
  simp only [sw_cons, sw_nil, Bool.cond_decide]
theorem bf {p : Prop} [h : Decidable p] {u : ab_S} {a b : Int32} : (bif decide p then some (a, u) else some (b, u)) = some (if p then a else b, u) := by
  by_cases e : p
  · simp only [e, i10, i00, decide_true, decide_false, cnd_t, cnd_f, gd_nil, gd_t, b1_0, b1_1, sw_nil, sw_cons, obs, if_true]
  · simp only [e, i10, i00, decide_true, decide_false, cnd_t, cnd_f, gd_nil, gd_t, b1_0, b1_1, sw_nil, sw_cons, obs, if_false]
theorem bf2 {p : Prop} [h : Decidable p] {u : ab_S} {a b : Int32} : (if p then some (a, u) else some (b, u)) = some (if p then a else b, u) := by
  by_cases e : p
  · simp only [e, if_true]
  · simp only [e, if_false]
theorem jn_6 (a b : Int32) : jnS (-6) a b = (if a = 0 then 0 else if b = 0 then 0 else 1) := by
  rw [jnS, if_pos rfl]
theorem jn_7 (a b : Int32) : jnS (-7) a b = (if a = 0 then (if b = 0 then 0 else 1) else 1) := by
  rw [jnS, if_neg (by decide +kernel), if_pos rfl]
theorem jn_8 (a b : Int32) : jnS (-8) a b = (if a < b then 1 else 0) := by
  rw [jnS, if_neg (by decide +kernel), if_neg (by decide +kernel), if_pos rfl]
theorem jn_9 (a b : Int32) : jnS (-9) a b = (if a = b then 1 else 0) := by
  rw [jnS, if_neg (by decide +kernel), if_neg (by decide +kernel), if_neg (by decide +kernel), if_pos rfl]
theorem jn_10 (a b : Int32) : jnS (-10) a b = a + b := by
  rw [jnS, if_neg (by decide +kernel), if_neg (by decide +kernel), if_neg (by decide +kernel), if_neg (by decide +kernel), if_pos rfl]
theorem jn_11 (a b : Int32) : jnS (-11) a b = a - b := by
  rw [jnS, if_neg (by decide +kernel), if_neg (by decide +kernel), if_neg (by decide +kernel), if_neg (by decide +kernel), if_neg (by decide +kernel), if_pos rfl]
theorem jn_12 (a b : Int32) : jnS (-12) a b = a * b := by
  rw [jnS, if_neg (by decide +kernel), if_neg (by decide +kernel), if_neg (by decide +kernel), if_neg (by decide +kernel), if_neg (by decide +kernel), if_neg (by decide +kernel)]
theorem c_join {c : Int32} (h : cB c) (a b : Int32) (u : ab_S) : fX1_join c a b u = some (jnS c a b, u) := by
  unfold fX1_join
  rw [sw_join]
  simp only [bf]
  obtain h | h | h | h | h | h | h := h
  · subst h
    rw [if_neg (by decide +kernel), if_neg (by decide +kernel), if_neg (by decide +kernel), if_neg (by decide +kernel), if_neg (by decide +kernel), if_pos rfl, jn_6]
  · subst h
    rw [if_neg (by decide +kernel), if_neg (by decide +kernel), if_neg (by decide +kernel), if_neg (by decide +kernel), if_pos rfl, jn_7]
  · subst h
    rw [if_neg (by decide +kernel), if_neg (by decide +kernel), if_neg (by decide +kernel), if_pos rfl, jn_8]
  · subst h
    rw [if_neg (by decide +kernel), if_neg (by decide +kernel), if_pos rfl, jn_9]
  · subst h
    rw [if_neg (by decide +kernel), if_pos rfl, jn_10]
  · subst h
    rw [if_pos rfl, jn_11]
  · subst h
    rw [if_neg (by decide +kernel), if_neg (by decide +kernel), if_neg (by decide +kernel), if_neg (by decide +kernel), if_neg (by decide +kernel), if_neg (by decide +kernel), jn_12]
theorem cE_P {c x y : Int32} (hP : cP c) (hE : cE c x y) : (∃ a, a < 4 ∧ c = fcL.getD a 0 ∧ x = 2 ∧ y = nI a) ∨ (∃ m, m < 10000 ∧ c = nI m ∧ x = 1 ∧ y = nI m) := by
  have no : c < -4 → False := cP_ge hP
  obtain ⟨h, a, b⟩ | ⟨h, a, b⟩ | ⟨h, a, b⟩ | ⟨h, a, b⟩ | ⟨h, a, b⟩ | ⟨h, a, b⟩ | ⟨h, a, b⟩ | ⟨h, a, b⟩ | ⟨h, a, b⟩ | ⟨h, a, b⟩ | ⟨h, a, b⟩ | ⟨h, a, b⟩ | ⟨m, hm, h, a, b⟩ := hE
  · exact Or.inl ⟨0, by decide, h, a, b⟩
  · exact Or.inl ⟨1, by decide, h, a, b⟩
  · exact Or.inl ⟨2, by decide, h, a, b⟩
  · exact Or.inl ⟨3, by decide, h, a, b⟩
  · exact (no (by rw [h]; decide +kernel)).elim
  · exact (no (by rw [h]; decide +kernel)).elim
  · exact (no (by rw [h]; decide +kernel)).elim
  · exact (no (by rw [h]; decide +kernel)).elim
  · exact (no (by rw [h]; decide +kernel)).elim
  · exact (no (by rw [h]; decide +kernel)).elim
  · exact (no (by rw [h]; decide +kernel)).elim
  · exact (no (by rw [h]; decide +kernel)).elim
  · exact Or.inr ⟨m, hm, h, a, b⟩
theorem cE_N {x y : Int32} (hE : cE (-5) x y) : x = 3 := by
  obtain ⟨h, a, b⟩ | ⟨h, a, b⟩ | ⟨h, a, b⟩ | ⟨h, a, b⟩ | ⟨h, a, b⟩ | ⟨h, a, b⟩ | ⟨h, a, b⟩ | ⟨h, a, b⟩ | ⟨h, a, b⟩ | ⟨h, a, b⟩ | ⟨h, a, b⟩ | ⟨h, a, b⟩ | ⟨m, hm, h, a, b⟩ := hE
  · exact absurd h (by decide +kernel)
  · exact absurd h (by decide +kernel)
  · exact absurd h (by decide +kernel)
  · exact absurd h (by decide +kernel)
  · exact a
  · exact absurd h (by decide +kernel)
  · exact absurd h (by decide +kernel)
  · exact absurd h (by decide +kernel)
  · exact absurd h (by decide +kernel)
  · exact absurd h (by decide +kernel)
  · exact absurd h (by decide +kernel)
  · exact absurd h (by decide +kernel)
  · exact absurd h.symm (nI_neg (by omega) (by decide +kernel))
theorem cE_B {c x y : Int32} (hB : cB c) (hE : cE c x y) : (¬ x = 0 ∧ ¬ x = 1 ∧ ¬ x = 2 ∧ ¬ x = 3) ∧ ∀ (a b : Int32) (v : ab_S), fX10_both x a b v = some (jnS c a b, v) := by
  have no : ¬ c < -5 → False := fun z => z (cB_lt hB)
  obtain ⟨h, a, b⟩ | ⟨h, a, b⟩ | ⟨h, a, b⟩ | ⟨h, a, b⟩ | ⟨h, a, b⟩ | ⟨h, a, b⟩ | ⟨h, a, b⟩ | ⟨h, a, b⟩ | ⟨h, a, b⟩ | ⟨h, a, b⟩ | ⟨h, a, b⟩ | ⟨h, a, b⟩ | ⟨m, hm, h, a, b⟩ := hE
  · exact (no (by rw [h]; decide +kernel)).elim
  · exact (no (by rw [h]; decide +kernel)).elim
  · exact (no (by rw [h]; decide +kernel)).elim
  · exact (no (by rw [h]; decide +kernel)).elim
  · exact (no (by rw [h]; decide +kernel)).elim
  · subst h a
    refine ⟨by decide +kernel, fun a b v => ?_⟩
    unfold fX10_both
    rw [sw_both, if_neg (by decide +kernel), if_neg (by decide +kernel), if_neg (by decide +kernel), if_neg (by decide +kernel), if_neg (by decide +kernel), if_pos rfl, jn_6]
    simp only [bf]
  · subst h a
    refine ⟨by decide +kernel, fun a b v => ?_⟩
    unfold fX10_both
    rw [sw_both, if_neg (by decide +kernel), if_neg (by decide +kernel), if_neg (by decide +kernel), if_neg (by decide +kernel), if_neg (by decide +kernel), if_neg (by decide +kernel), jn_7]
    simp only [bf]
  · subst h a
    refine ⟨by decide +kernel, fun a b v => ?_⟩
    unfold fX10_both
    rw [sw_both, if_neg (by decide +kernel), if_neg (by decide +kernel), if_neg (by decide +kernel), if_pos rfl, jn_8]
    simp only [bf]
  · subst h a
    refine ⟨by decide +kernel, fun a b v => ?_⟩
    unfold fX10_both
    rw [sw_both, if_neg (by decide +kernel), if_neg (by decide +kernel), if_neg (by decide +kernel), if_neg (by decide +kernel), if_pos rfl, jn_9]
    simp only [bf]
  · subst h a
    refine ⟨by decide +kernel, fun a b v => ?_⟩
    unfold fX10_both
    rw [sw_both, if_pos rfl, jn_10]
  · subst h a
    refine ⟨by decide +kernel, fun a b v => ?_⟩
    unfold fX10_both
    rw [sw_both, if_neg (by decide +kernel), if_pos rfl, jn_11]
  · subst h a
    refine ⟨by decide +kernel, fun a b v => ?_⟩
    unfold fX10_both
    rw [sw_both, if_neg (by decide +kernel), if_neg (by decide +kernel), if_pos rfl, jn_12]
  · exact (no (by rw [h]; exact nI_gt (by omega) (by decide +kernel))).elim
theorem pvS_f (f : Nat → Int32) : ∀ a, a < 4 → pvS f (fcL.getD a 0) = f a
  | 0, _ => by
    show pvS f (-1) = f 0
    rw [pvS, if_pos rfl]
  | 1, _ => by
    show pvS f (-2) = f 1
    rw [pvS, if_neg (by decide +kernel), if_pos rfl]
  | 2, _ => by
    show pvS f (-3) = f 2
    rw [pvS, if_neg (by decide +kernel), if_neg (by decide +kernel), if_pos rfl]
  | 3, _ => by
    show pvS f (-4) = f 3
    rw [pvS, if_neg (by decide +kernel), if_neg (by decide +kernel), if_neg (by decide +kernel), if_pos rfl]
  | a + 4, h => absurd h (by omega)
theorem pvS_n (f : Nat → Int32) {m : Nat} (h : m < 10000) : pvS f (nI m) = nI m := by
  rw [pvS, if_neg (nI_neg (by omega) (by decide +kernel)), if_neg (nI_neg (by omega) (by decide +kernel)), if_neg (nI_neg (by omega) (by decide +kernel)), if_neg (nI_neg (by omega) (by decide +kernel))]
def dWk (q a k : Nat) : Prop := a = q + 2 ∨ (a = q ∧ k = 3)
section PU
variable {u v u' v' : ab_S} {n T i q h : Nat} {cs ds : List Int32}
theorem c_push (e : u.1 q 3 = nI h) (hh : h < 32) (x : Int32) : fX1_push q x u = some ((), sI (sI u (q + 2) h x) q 3 (nI (h + 1))) := by
  have e2 : (sI u (q + 2) h x).1 q 3 = nI h := by rw [sI_at, if_neg (by omega)]; exact e
  unfold fX1_push
  rw [e]
  simp (disch := first | omega | decide) only [i10, i00, decide_true, decide_false, cnd_t, cnd_f, gd_nil, gd_t, b1_0, b1_1, sw_nil, sw_cons, obs, Nat.not_lt_zero, nI_addo, nI_oadd, nI_add, nI_mulo, nI_omul, nI_mul, nI_lto, nI_leo, nI_olt, nI_ole, nI_eqo, nI_oeq, nI_lt2, nI_le2, nI_eq2, nI_nm1, nI_m1n, nI_lt0, nI_lem1, nc_nI, nc_o, ix_nI, ix_o, hh, e2]
theorem c_pop (e : u.1 q 3 = nI (h + 1)) (hh : h < 32) : fX1_pop q u = some (u.1 (q + 2) h, sI u q 3 (nI h)) := by
  have e1 : nI (h + 1) - 1 = nI h := nI_sub (b := 1) (by omega)
  unfold fX1_pop
  rw [e, e1]
  have e2 : (sI u q 3 (nI h)).1 q 3 = nI h := by rw [sI_at, if_pos ⟨rfl, rfl⟩]
  have e3 : (sI u q 3 (nI h)).1 (q + 2) h = u.1 (q + 2) h := by rw [sI_at, if_neg (by omega)]
  simp (disch := first | omega | decide) only [i10, i00, decide_true, decide_false, cnd_t, cnd_f, gd_nil, gd_t, b1_0, b1_1, sw_nil, sw_cons, obs, Nat.not_lt_zero, nI_addo, nI_oadd, nI_add, nI_mulo, nI_omul, nI_mul, nI_lto, nI_leo, nI_olt, nI_ole, nI_eqo, nI_oeq, nI_lt2, nI_le2, nI_eq2, nI_nm1, nI_m1n, nI_lt0, nI_lem1, nc_nI, nc_o, ix_nI, ix_o, show ¬ h + 1 ≤ 0 by omega, show h + 1 ≤ 32 by omega, e2, e3]
theorem push_fr {x y : Int32} : Fr (dWk q) u (sI (sI u (q + 2) h x) q 3 y) := Fr.trans (D := dWk q) (Fr.sI (Or.inl rfl)) (Fr.sI (Or.inr ⟨rfl, rfl⟩))
theorem c_work (f : Nat → Int32) : ∀ (cs : List Int32) (k n h N : Nat) (g : Nat → Int32) (u : ab_S), u.1 q 1 = nI n → k + cs.length = n → n ≤ 1000 → (∀ j, j < cs.length → u.1 (q + 1) (k + j) = cs.getD j 0) → u.1 q 3 = nI h → (∀ i, i < h → u.1 (q + 2) i = g i) → h ≤ 32 → okc cs h 1 → cs.length < N → ∃ u', fX1_work_8 q N (f 0) (f 1) (f 2) (f 3) (nI k) u = some (peS f cs h g, u') ∧ Fr (dWk q) u u' := by
  intro cs
  induction cs with
  | nil =>
    intro k n h N g u e1 e2 hn e3 e4 e5 hh ok hN
    obtain ⟨N, rfl⟩ : ∃ m, N = m + 1 := ⟨N - 1, Nat.succ_pred_eq_of_pos (Nat.lt_of_le_of_lt (Nat.zero_le _) hN) |>.symm⟩
    have ek : k = n := e2
    have eh : h = 1 := ok
    subst ek eh
    have ep : fX1_pop q u = some (g 0, sI u q 3 (nI 0)) := by
      rw [c_pop (h := 0) e4 (by decide), e5 0 (by decide)]
    refine ⟨sI u q 3 (nI 0), ?_, Fr.sI (Or.inr ⟨rfl, rfl⟩)⟩
    rw [fX1_work_8, e1]
    unfold fX1_work_136
    simp (disch := first | omega | decide) only [i10, i00, decide_true, decide_false, cnd_t, cnd_f, gd_nil, gd_t, b1_0, b1_1, sw_nil, sw_cons, obs, Nat.not_lt_zero, nI_addo, nI_oadd, nI_add, nI_mulo, nI_omul, nI_mul, nI_lto, nI_leo, nI_olt, nI_ole, nI_eqo, nI_oeq, nI_lt2, nI_le2, nI_eq2, nI_nm1, nI_m1n, nI_lt0, nI_lem1, nc_nI, nc_o, ix_nI, ix_o, Nat.lt_irrefl, ep, peS]
  | cons c cs ih =>
    intro k n h N g u e1 e2 hn e3 e4 e5 hh ok hN
    obtain ⟨N, rfl⟩ : ∃ m, N = m + 1 := ⟨N - 1, Nat.succ_pred_eq_of_pos (Nat.lt_of_le_of_lt (Nat.zero_le _) hN) |>.symm⟩
    rw [List.length_cons] at e2 hN
    have ec : u.1 (q + 1) k = c := by
      have := e3 0 (by rw [List.length_cons]; omega)
      exact this
    have e3' : ∀ j, j < cs.length → u.1 (q + 1) (k + 1 + j) = cs.getD j 0 := fun j hj => by
      have := e3 (j + 1) (by rw [List.length_cons]; omega)
      rw [show k + 1 + j = k + (j + 1) by omega]
      exact this
    have ek : nI k + 1 = nI (k + 1) := nI_1 k
    have kn : (nI k < nI n) = True := eq_true ((nI_lt2 (by omega) (by omega)).mpr (by omega))
    have k1 : (nI k < 1000) = True := eq_true (show nI k < nI 1000 from (nI_ltI (by omega) (by decide)).mpr (by omega))
    have ix : ab_ix (nI k) 1000 = true := ix_nI (by omega) (by decide)
    have nck : nc (nI k) = k := nc_nI (by omega)
    -- what comes behind a push
    have next : ∀ (w : ab_S) (h' : Nat) (g' : Nat → Int32), Fr (dWk q) u w → w.1 q 3 = nI h' → (∀ i, i < h' → w.1 (q + 2) i = g' i) → h' ≤ 32 → okc cs h' 1 → ∃ u', fX1_work_8 q N (f 0) (f 1) (f 2) (f 3) (nI (k + 1)) w = some (peS f cs h' g', u') ∧ Fr (dWk q) u u' := by
      intro w h' g' F w3 w5 wh wo
      obtain ⟨u', z1, z2⟩ := ih (k + 1) n h' N g' w (by rw [F.1 _ _ (by unfold dWk; omega)]; exact e1) (by omega) hn (fun j hj => by rw [F.1 _ _ (by unfold dWk; omega)]; exact e3' j hj) w3 w5 wh wo (by omega)
      exact ⟨u', z1, F.trans z2⟩
    rw [fX1_work_8, e1]
    simp only [kn, k1, decide_true, cnd_t, gd_t, gd_nil, ix, nck, ec]
    rw [sw_part]
    unfold fX1_work_118
    obtain ⟨p1, p2, p3⟩ | ⟨p1, p2, p3⟩ | ⟨p1, p2, p3⟩ := ok
    · obtain ⟨u', z1, z2⟩ := next (sI (sI u (q + 2) h (pvS f c)) q 3 (nI (h + 1))) (h + 1) (upS g h (pvS f c)) push_fr (by rw [sI_at, if_pos ⟨rfl, rfl⟩]) (fun i hi => by
        rw [sI_at, if_neg (by omega), upS]
        by_cases e : i = h
        · subst e
          rw [if_pos rfl, sI_at, if_pos ⟨rfl, rfl⟩]
        · rw [if_neg e, sI_at, if_neg (by omega)]
          exact e5 i (by omega)) (by omega) p3
      have ep := c_push e4 p2 (pvS f c)
      refine ⟨u', ?_, z2⟩
      rw [peS_push p1, if_neg (cP_n5 p1), ← z1]
      obtain h1 | h1 | h1 | h1 | ⟨m, hm, h1⟩ := p1
      · subst h1
        rw [if_neg (by decide +kernel), if_neg (by decide +kernel), if_neg (by decide +kernel), if_pos rfl]
        rw [show pvS f (-1) = f 0 from pvS_f f 0 (by decide)] at ep ⊢
        simp only [ep, obs, ek]
      · subst h1
        rw [if_neg (by decide +kernel), if_neg (by decide +kernel), if_pos rfl]
        rw [show pvS f (-2) = f 1 from pvS_f f 1 (by decide)] at ep ⊢
        simp only [ep, obs, ek]
      · subst h1
        rw [if_neg (by decide +kernel), if_pos rfl]
        rw [show pvS f (-3) = f 2 from pvS_f f 2 (by decide)] at ep ⊢
        simp only [ep, obs, ek]
      · subst h1
        rw [if_pos rfl]
        rw [show pvS f (-4) = f 3 from pvS_f f 3 (by decide)] at ep ⊢
        simp only [ep, obs, ek]
      · subst h1
        rw [if_neg (nI_neg (by omega) (by decide +kernel)), if_neg (nI_neg (by omega) (by decide +kernel)), if_neg (nI_neg (by omega) (by decide +kernel)), if_neg (nI_neg (by omega) (by decide +kernel))]
        rw [pvS_n f hm] at ep ⊢
        unfold fX1_pushOrJoin
        simp only [show (nI m < 0) = False from eq_false (nI_pos (by omega)), i10, i00, decide_true, decide_false, cnd_t, cnd_f, gd_nil, gd_t, b1_0, b1_1, sw_nil, sw_cons, obs, ep, ek]
    · subst p1
      obtain ⟨h, rfl⟩ : ∃ m, h = m + 1 := ⟨h - 1, by omega⟩
      have ep := c_pop e4 (by omega)
      rw [e5 h (by omega)] at ep
      obtain ⟨u', z1, z2⟩ := next (sI (sI (sI u q 3 (nI h)) (q + 2) h (if g h = 0 then 1 else 0)) q 3 (nI (h + 1))) (h + 1) (upS g h (if g h = 0 then 1 else 0)) (Fr.trans (D := dWk q) (Fr.sI (Or.inr ⟨rfl, rfl⟩)) push_fr) (by rw [sI_at, if_pos ⟨rfl, rfl⟩]) (fun i hi => by
        rw [sI_at, if_neg (by omega), upS]
        by_cases e : i = h
        · subst e
          rw [if_pos rfl, sI_at, if_pos ⟨rfl, rfl⟩]
        · rw [if_neg e, sI_at, if_neg (by omega), sI_at, if_neg (by omega)]
          exact e5 i (by omega)) (by omega) p3
      have eq1 := c_push (u := sI u q 3 (nI h)) (q := q) (h := h) (by rw [sI_at, if_pos ⟨rfl, rfl⟩]) (by omega) (if g h = 0 then 1 else 0)
      refine ⟨u', ?_, z2⟩
      rw [peS_not, if_pos rfl, show h + 1 - 1 = h by omega, ← z1, ep]
      simp only [obs]
      by_cases eg : g h = 0
      · simp only [eg, if_true, i10, i00, decide_true, decide_false, cnd_t, cnd_f, gd_nil, gd_t, b1_0, b1_1, sw_nil, sw_cons, obs] at eq1 ⊢
        simp only [eq1, obs, ek]
      · simp only [eg, if_false, i10, i00, decide_true, decide_false, cnd_t, cnd_f, gd_nil, gd_t, b1_0, b1_1, sw_nil, sw_cons, obs] at eq1 ⊢
        simp only [eq1, obs, ek]
    · obtain ⟨h, rfl⟩ : ∃ m, h = m + 2 := ⟨h - 2, by omega⟩
      have ep := c_pop (h := h + 1) e4 (by omega)
      rw [e5 (h + 1) (by omega)] at ep
      have ep2 := c_pop (u := sI u q 3 (nI (h + 1))) (q := q) (h := h) (by rw [sI_at, if_pos ⟨rfl, rfl⟩]) (by omega)
      rw [sI_at, if_neg (by omega), e5 h (by omega)] at ep2
      have eq1 := c_push (u := sI (sI u q 3 (nI (h + 1))) q 3 (nI h)) (q := q) (h := h) (by rw [sI_at, if_pos ⟨rfl, rfl⟩]) (by omega) (jnS c (g h) (g (h + 1)))
      obtain ⟨u', z1, z2⟩ := next (sI (sI (sI (sI u q 3 (nI (h + 1))) q 3 (nI h)) (q + 2) h (jnS c (g h) (g (h + 1)))) q 3 (nI (h + 1))) (h + 1) (upS g h (jnS c (g h) (g (h + 1)))) (Fr.trans (D := dWk q) (Fr.sI (Or.inr ⟨rfl, rfl⟩)) (Fr.trans (D := dWk q) (Fr.sI (Or.inr ⟨rfl, rfl⟩)) push_fr)) (by rw [sI_at, if_pos ⟨rfl, rfl⟩]) (fun i hi => by
        rw [sI_at, if_neg (by omega), upS]
        by_cases e : i = h
        · subst e
          rw [if_pos rfl, sI_at, if_pos ⟨rfl, rfl⟩]
        · rw [if_neg e, sI_at, if_neg (by omega), sI_at, if_neg (by omega), sI_at, if_neg (by omega)]
          exact e5 i (by omega)) (by omega) (by
          rw [show h + 2 - 1 = h + 1 by omega] at p3
          exact p3)
      refine ⟨u', ?_, z2⟩
      have lt := cB_lt p1
      have c4 : ¬ c = -4 := fun e => absurd (e ▸ lt) (by decide +kernel)
      have c3 : ¬ c = -3 := fun e => absurd (e ▸ lt) (by decide +kernel)
      have c2 : ¬ c = -2 := fun e => absurd (e ▸ lt) (by decide +kernel)
      have c1 : ¬ c = -1 := fun e => absurd (e ▸ lt) (by decide +kernel)
      have c0 : c < 0 := by
        obtain h | h | h | h | h | h | h := p1 <;> (subst h; decide +kernel)
      rw [peS_bin p1, if_neg (cB_n5 p1), if_neg c4, if_neg c3, if_neg c2, if_neg c1, show h + 2 - 2 = h by omega, show h + 2 - 1 = h + 1 by omega, ← z1]
      unfold fX1_pushOrJoin
      simp only [c0, i10, i00, decide_true, decide_false, cnd_t, cnd_f, gd_nil, gd_t, b1_0, b1_1, sw_nil, sw_cons, obs, ep, ep2, c_join p1, eq1, ek]
-- the reference's road
theorem m_work (f : Nat → Int32) : ∀ (cs : List Int32) (k h N : Nat) (g : Nat → Int32) (v : ab_S), (∀ j, j < cs.length → cE (cs.getD j 0) (v.1 7 (k + j)) (v.1 8 (k + j))) → v.1 7 (k + cs.length) = 0 → k + cs.length ≤ 1000 → (∀ i, i < h → v.1 15 i = g i) → (∀ i, i < 4 → v.1 14 i = f i) → h ≤ 32 → okc cs h 1 → cs.length < N → ∃ v', fX10_worthAt_4 N (nI h) (nI k) v = some (peS f cs h g, v') ∧ Sc v v' := by
  intro cs
  induction cs with
  | nil =>
    intro k h N g v e1 e2 hn e3 e4 hh ok hN
    obtain ⟨N, rfl⟩ : ∃ m, N = m + 1 := ⟨N - 1, Nat.succ_pred_eq_of_pos (Nat.lt_of_le_of_lt (Nat.zero_le _) hN) |>.symm⟩
    have eh : h = 1 := ok
    subst eh
    have hk : k ≤ 1000 := hn
    have e2' : v.1 7 k = 0 := e2
    have e5 : v.1 15 0 = g 0 := e3 0 (by decide)
    refine ⟨v, ?_, Fr.rfl'⟩
    rw [fX10_worthAt_4]
    simp (disch := first | omega | decide) only [i10, i00, decide_true, decide_false, cnd_t, cnd_f, gd_nil, gd_t, b1_0, b1_1, sw_nil, sw_cons, obs, Nat.not_lt_zero, nI_addo, nI_oadd, nI_add, nI_mulo, nI_omul, nI_mul, nI_lto, nI_leo, nI_olt, nI_ole, nI_eqo, nI_oeq, nI_lt2, nI_le2, nI_eq2, nI_nm1, nI_m1n, nI_lt0, nI_lem1, nc_nI, nc_o, ix_nI, ix_o, e2', show ab_ix 0 1100 = true by decide +kernel, show nc (0 : Int32) = 0 by decide +kernel, e5, peS]
  | cons c cs ih =>
    intro k h N g v e1 e2 hn e3 e4 hh ok hN
    obtain ⟨N, rfl⟩ : ∃ m, N = m + 1 := ⟨N - 1, Nat.succ_pred_eq_of_pos (Nat.lt_of_le_of_lt (Nat.zero_le _) hN) |>.symm⟩
    rw [List.length_cons] at e2 hn hN
    have hE : cE c (v.1 7 k) (v.1 8 k) := e1 0 (by rw [List.length_cons]; omega)
    have e1' : ∀ j, j < cs.length → cE (cs.getD j 0) (v.1 7 (k + 1 + j)) (v.1 8 (k + 1 + j)) := fun j hj => by
      have := e1 (j + 1) (by rw [List.length_cons]; omega)
      rw [show k + 1 + j = k + (j + 1) by omega]
      exact this
    have ek : nI k + 1 = nI (k + 1) := nI_1 k
    have ix : ab_ix (nI k) 2200 = true := ix_nI (by omega) (by decide)
    have nck : nc (nI k) = k := nc_nI (by omega)
    have next : ∀ (w : ab_S) (h' : Nat) (g' : Nat → Int32), Fr (fun a _ => a = 15) v w → (∀ i, i < h' → w.1 15 i = g' i) → h' ≤ 32 → okc cs h' 1 → ∃ v', fX10_worthAt_4 N (nI h') (nI (k + 1)) w = some (peS f cs h' g', v') ∧ Sc v v' := by
      intro w h' g' F w5 wh wo
      obtain ⟨v', z1, z2⟩ := ih (k + 1) h' N g' w (fun j hj => by rw [F.1 _ _ (by omega), F.1 _ _ (by omega)]; exact e1' j hj) (by rw [F.1 _ _ (by omega), show k + 1 + cs.length = k + (cs.length + 1) by omega]; exact e2) (by omega) w5 (fun i hi => by rw [F.1 _ _ (by omega)]; exact e4 i hi) wh wo (by omega)
      exact ⟨v', z1, (F.mono fun a k z => Or.inr z).trans z2⟩
    rw [fX10_worthAt_4]
    simp only [i10, i00, decide_true, decide_false, cnd_t, cnd_f, gd_nil, gd_t, b1_0, b1_1, sw_nil, sw_cons, obs, ix, nck]
    obtain ⟨p1, p2, p3⟩ | ⟨p1, p2, p3⟩ | ⟨p1, p2, p3⟩ := ok
    · obtain ⟨v', z1, z2⟩ := next (sI v 15 h (pvS f c)) (h + 1) (upS g h (pvS f c)) (Fr.sI rfl) (fun i hi => by
        rw [upS]
        by_cases e : i = h
        · subst e
          rw [if_pos rfl, sI_at, if_pos ⟨rfl, rfl⟩]
        · rw [if_neg e, sI_at, if_neg (by omega)]
          exact e3 i (by omega)) (by omega) p3
      refine ⟨v', ?_, z2⟩
      rw [peS_push p1, ← z1]
      unfold fX10_worthAt_33
      obtain ⟨a, a1, a2, a3, a4⟩ | ⟨m, a1, a2, a3, a4⟩ := cE_P p1 hE
      · have ea : v.1 14 a = pvS f c := by rw [a2, pvS_f f a a1]; exact e4 a a1
        simp (disch := first | omega | decide) only [a3, a4, show ((2 : Int32) = 0) = False from eq_false (by decide +kernel), show ((2 : Int32) = 1) = False from eq_false (by decide +kernel), i10, i00, decide_true, decide_false, cnd_t, cnd_f, gd_nil, gd_t, b1_0, b1_1, sw_nil, sw_cons, obs, ix_nI, nc_nI, nck, ix, ea, ek, show nI h + 1 = nI (h + 1) from nI_1 h]
      · have ea : nI m = pvS f c := by rw [a2, pvS_n f a1]
        simp (disch := first | omega | decide) only [a3, a4, show ((1 : Int32) = 0) = False from eq_false (by decide +kernel), i10, i00, decide_true, decide_false, cnd_t, cnd_f, gd_nil, gd_t, b1_0, b1_1, sw_nil, sw_cons, obs, ix_nI, nc_nI, nck, ix, ← ea, ek, show nI h + 1 = nI (h + 1) from nI_1 h]
    · subst p1
      obtain ⟨h, rfl⟩ : ∃ m, h = m + 1 := ⟨h - 1, by omega⟩
      have ex := cE_N hE
      have es : nI (h + 1) - 1 = nI h := nI_sub (b := 1) (by omega)
      have eg : v.1 15 h = g h := e3 h (by omega)
      obtain ⟨v', z1, z2⟩ := next (sI v 15 h (if g h = 0 then 1 else 0)) (h + 1) (upS g h (if g h = 0 then 1 else 0)) (Fr.sI rfl) (fun i hi => by
        rw [upS]
        by_cases e : i = h
        · subst e
          rw [if_pos rfl, sI_at, if_pos ⟨rfl, rfl⟩]
        · rw [if_neg e, sI_at, if_neg (by omega)]
          exact e3 i (by omega)) (by omega) p3
      refine ⟨v', ?_, z2⟩
      rw [peS_not, show h + 1 - 1 = h by omega, ← z1]
      by_cases e0 : g h = 0
      · simp (disch := first | omega | decide) only [ex, show ((3 : Int32) = 0) = False from eq_false (by decide +kernel), show ((3 : Int32) = 1) = False from eq_false (by decide +kernel), show ((3 : Int32) = 2) = False from eq_false (by decide +kernel), i10, i00, decide_true, decide_false, cnd_t, cnd_f, gd_nil, gd_t, b1_0, b1_1, sw_nil, sw_cons, obs, es, ix_nI, nc_nI, eg, e0, if_true, ek]
      · simp (disch := first | omega | decide) only [ex, show ((3 : Int32) = 0) = False from eq_false (by decide +kernel), show ((3 : Int32) = 1) = False from eq_false (by decide +kernel), show ((3 : Int32) = 2) = False from eq_false (by decide +kernel), i10, i00, decide_true, decide_false, cnd_t, cnd_f, gd_nil, gd_t, b1_0, b1_1, sw_nil, sw_cons, obs, es, ix_nI, nc_nI, eg, e0, if_false, ek]
    · obtain ⟨h, rfl⟩ : ∃ m, h = m + 2 := ⟨h - 2, by omega⟩
      obtain ⟨⟨n0, n1, n2, n3⟩, hb⟩ := cE_B p1 hE
      have es : nI (h + 2) + (-1) = nI (h + 1) := (Int32.sub_eq_add_neg (nI (h + 2)) 1).symm.trans (nI_sub (a := h + 2) (b := 1) (by omega))
      have es2 : nI (h + 1) - 1 = nI h := nI_sub (b := 1) (by omega)
      have eg : v.1 15 h = g h := e3 h (by omega)
      have eg1 : v.1 15 (h + 1) = g (h + 1) := e3 (h + 1) (by omega)
      obtain ⟨v', z1, z2⟩ := next (sI v 15 h (jnS c (g h) (g (h + 1)))) (h + 1) (upS g h (jnS c (g h) (g (h + 1)))) (Fr.sI rfl) (fun i hi => by
        rw [upS]
        by_cases e : i = h
        · subst e
          rw [if_pos rfl, sI_at, if_pos ⟨rfl, rfl⟩]
        · rw [if_neg e, sI_at, if_neg (by omega)]
          exact e3 i (by omega)) (by omega) (by
          rw [show h + 2 - 1 = h + 1 by omega] at p3
          exact p3)
      refine ⟨v', ?_, z2⟩
      rw [peS_bin p1, show h + 2 - 2 = h by omega, show h + 2 - 1 = h + 1 by omega, ← z1]
      simp (disch := first | omega | decide) only [n0, n1, n2, n3, i10, i00, decide_true, decide_false, cnd_t, cnd_f, gd_nil, gd_t, b1_0, b1_1, sw_nil, sw_cons, obs, es, es2, ix_nI, nc_nI, eg, eg1, hb, ek]
end PU
/-! the law's line; all lines of an office -/
-- the law, between two lines
def LW (o : Nat) (u v : ab_S) : Prop := (u.1 o 11 = 0 ∧ v.1 6 93 = -1 ∧ v.1 0 13 = 0 ∧ u.1 (o + 8) 1 = nI 3 ∧ u.1 (o + 9) 0 = -1 ∧ u.1 (o + 9) 1 = -3 ∧ u.1 (o + 9) 2 = -10) ∨ (u.1 o 11 = 1 ∧ v.1 6 93 = 0 ∧ ∃ cs : List Int32, cs.length ≤ 1000 ∧ sgm 30 cs ∧ u.1 (o + 8) 1 = nI cs.length ∧ v.1 0 13 = nI (cs.length + 1) ∧ (∀ i, i < cs.length → u.1 (o + 9) i = cs.getD i 0 ∧ cE (cs.getD i 0) (v.1 7 (1100 + i)) (v.1 8 (1100 + i))) ∧ v.1 7 (1100 + cs.length) = 0)
def dZu (o a k : Nat) : Prop := (a = 1 ∧ 6 ≤ k ∧ k ≤ 10) ∨ (o ≤ a ∧ a < o + 12)
def dZv (a k : Nat) : Prop := dSv a k ∨ a = 10 ∨ a = 12 ∨ (a = 0 ∧ (k = 13 ∨ k = 19 ∨ k = 20)) ∨ (a = 6 ∧ 90 ≤ k) ∨ ((a = 7 ∨ a = 8) ∧ 1100 ≤ k)
def lnP (n T i o : Nat) (y : Option (Int32 × ab_S)) (z : Option (Unit × ab_S)) (u v : ab_S) : Prop := (∃ u' v' i' np ng, i < i' ∧ y = some (1, u') ∧ z = some ((), v') ∧ pR n T i' u' v' ∧ ofR np ng o u' v' ∧ LW o u' v' ∧ Fr (dZu o) u u' ∧ Fr dZv v v') ∨ (∃ f u' v', y = some (0, u') ∧ z = some ((), v') ∧ u'.1 1 10 = nI f ∧ mF f v' ∧ Fr (dZu o) u u' ∧ Fr dZv v v')
section PU
variable {u v u' v' : ab_S} {n T i o : Nat}
theorem LW.fr {D E : Nat → Nat → Prop} (h : LW o u v) (f : Fr D u u') (g : Fr E v v') (hd : ∀ a k, (a = o + 8 ∨ a = o + 9 ∨ (a = o ∧ k = 11)) → ¬ D a k) (he : ∀ a k, ((a = 6 ∧ k = 93) ∨ (a = 0 ∧ k = 13) ∨ ((a = 7 ∨ a = 8) ∧ 1100 ≤ k)) → ¬ E a k) : LW o u' v' := by
  obtain ⟨h1, h2, h3, h4, h5, h6, h7⟩ | ⟨h1, h2, cs, h3, h4, h5, h6, h7, h8⟩ := h
  · refine Or.inl ⟨(f.1 _ _ (hd _ _ (by omega))).trans h1, (g.1 _ _ (he _ _ (by omega))).trans h2, (g.1 _ _ (he _ _ (by omega))).trans h3, (f.1 _ _ (hd _ _ (by omega))).trans h4, (f.1 _ _ (hd _ _ (by omega))).trans h5, (f.1 _ _ (hd _ _ (by omega))).trans h6, (f.1 _ _ (hd _ _ (by omega))).trans h7⟩
  · refine Or.inr ⟨(f.1 _ _ (hd _ _ (by omega))).trans h1, (g.1 _ _ (he _ _ (by omega))).trans h2, cs, h3, h4, (f.1 _ _ (hd _ _ (by omega))).trans h5, (g.1 _ _ (he _ _ (by omega))).trans h6, fun i hi => ?_, (g.1 _ _ (he _ _ (by omega))).trans h8⟩
    rw [f.1 _ _ (hd (o + 9) i (by omega)), g.1 _ _ (he 7 (1100 + i) (by omega)), g.1 _ _ (he 8 (1100 + i) (by omega))]
    exact h7 i hi
theorem dQ_Z : ∀ a k, dQu o a k → dZu o a k := fun a k z => by unfold dQu at z; unfold dZu; omega
theorem dQ_Zv : ∀ a k, dQv a k → dZv a k := fun a k z => by unfold dQv dSv at z; unfold dZv dSv; omega
theorem lnO.P {y : Option (Int32 × ab_S)} {z : Option (Unit × ab_S)} (ho : o = 6 ∨ o = 18) (h : lnO n T i o y z u v) (hL : LW o u v) : lnP n T i o y z u v := by
  obtain ⟨u', v', i', np, ng, h1, h2, h3, h4, h5, h6, h7⟩ | ⟨f, u', v', h1, h2, h3, h4, h5, h6⟩ := h
  · exact Or.inl ⟨u', v', i', np, ng, h1, h2, h3, h4, h5, hL.fr h6 h7 (fun a k z q => by unfold dQu at q; omega) (fun a k z q => by unfold dQv dSv at q; omega), h6.mono dQ_Z, h7.mono dQ_Zv⟩
  · exact Or.inr ⟨f, u', v', h1, h2, h3, h4, h5.mono dQ_Z, h6.mono dQ_Zv⟩
theorem ofR.law {np ng : Nat} {b' : Bool} {D E : Nat → Nat → Prop} (h : ofR np ng o u v) (ho : o = 6 ∨ o = 18) (f : Fr D u u') (g : Fr E v v') (hd : ∀ a k, D a k → (a < 6 ∨ (a = o ∧ k = 11) ∨ (o + 8 ≤ a ∧ a < o + 12))) (he : ∀ a k, E a k → ((a = 0 ∧ k ≠ 19) ∨ (a = 6 ∧ k = 93) ∨ a = 7 ∨ a = 8)) (hb : u'.1 o 11 = b01 b') (hv : ∀ a : Bool, u.1 o 10 = b01 a → v'.1 0 20 = nI (a.toNat + 2 * b'.toNat)) : ofR np ng o u' v' := by
  obtain ⟨hp6, hg8, o1, o2, w90, w91, hc, hN, r1, r2, r3, r4, r5, ⟨a, b, r6, r61, r62⟩, r7⟩ := h
  have eu : ∀ a k, 6 ≤ a → ¬ (a = o ∧ k = 11) → ¬ (o + 8 ≤ a ∧ a < o + 12) → u'.1 a k = u.1 a k := fun a k z1 z2 z3 => f.1 a k fun q => by
    have := hd a k q
    omega
  have ev : ∀ k, k ≠ 93 → v'.1 6 k = v.1 6 k := fun k z => g.1 6 k fun q => by
    have := he 6 k q
    omega
  have hN' : nmR np ng o 10 12 u' v' := hN.fr f g (fun k => ⟨fun q => by have := hd _ _ q; omega, fun q => by have := hd _ _ q; omega⟩) (fun k => ⟨fun q => by have := he _ _ q; omega, fun q => by have := he _ _ q; omega⟩)
  refine ⟨hp6, hg8, ?_, ?_, ?_, ?_, ?_, hN', fun p hp => ?_, fun p hp => ?_, fun k hk => ?_, fun k hk => ?_, fun p hp k hk => ?_, ⟨a, b', ?_, hb, hv a r6⟩, ?_⟩
  · rw [eu o 0 (by omega) (by omega) (by omega)]; exact o1
  · rw [eu o 1 (by omega) (by omega) (by omega)]; exact o2
  · rw [ev 90 (by decide)]; exact w90
  · rw [ev 91 (by decide)]; exact w91
  · rw [g.1 0 19 (fun q => by have := he _ _ q; omega)]; exact hc
  · rw [eu _ _ (by omega) (by omega) (by omega), ev _ (by omega)]
    exact r1 p hp
  · obtain ⟨c', c1, c2, c3⟩ := r2 p hp
    exact ⟨c', c1, by rw [eu _ _ (by omega) (by omega) (by omega)]; exact c2, by rw [ev _ (by omega)]; exact c3⟩
  · obtain ⟨c', c1, c2, c3⟩ := r3 k hk
    exact ⟨c', c1, by rw [eu _ _ (by omega) (by omega) (by omega)]; exact c2, by rw [ev _ (by omega)]; exact c3⟩
  · obtain ⟨c', c1, c2, c3⟩ := r4 k hk
    exact ⟨c', c1, by rw [eu _ _ (by omega) (by omega) (by omega)]; exact c2, by rw [ev _ (by omega)]; exact c3⟩
  · obtain ⟨c', c1, c2, c3⟩ := r5 p hp k hk
    exact ⟨c', c1, by rw [eu _ _ (by omega) (by omega) (by omega)]; exact c2, by rw [ev _ (by omega)]; exact c3⟩
  · rw [eu o 10 (by omega) (by omega) (by omega)]; exact r6
  · obtain ⟨c', c1, c2, c3⟩ := r7
    exact ⟨c', c1, by rw [eu _ _ (by omega) (by omega) (by omega)]; exact c2, by rw [ev _ (by omega)]; exact c3⟩
theorem l_law {np ng : Nat} (h : pR n T i u v) (ho : o = 6 ∨ o = 18) (hR : ofR np ng o u v) (hL : LW o u v) (hw : isW 7 u) : lnP n T i o (fX2_readFits o u) ((fX10_readLine v).bind fun q2 => fX10_takeSign 59 q2.2) u v := by
  have hR0 := hR
  obtain ⟨hp6, hg8, o1, o2, w90, w91, hc, hN, r1, r2, r3, r4, r5, ⟨a, b, r6, r61, r62⟩, r7⟩ := hR
  have hk : u.1 1 7 ≠ 0 := by rw [hw.1]; decide +kernel
  have hi := h.i1000
  have no : ∀ k, k < 23 → k ≠ 7 → ¬ isW k u := fun k hk hn z => hn (isW.uniq hk (by decide) z hw)
  rw [m_once h (no 0 (by decide) (by decide)) (no 2 (by decide) (by decide)) (no 5 (by decide) (by decide))]
  obtain ⟨r, q1, q2, -⟩ := m_wordHere h 6 2 (by decide)
  have er := q2 1 (by decide) hw
  subst er
  have q1' : fX10_wordHere 6 2 v = some (1, v) := q1
  obtain ⟨⟨-, ob⟩, -, oc⟩ := once_bit a b
  unfold fX2_readFits fX10_readOnce
  rw [q1', r61]
  have l0 : ((1 : Int32) < 0) = False := eq_false (by decide +kernel)
  cases b
  · have nb : ¬ ((nI (a.toNat + 2 * false.toNat) >>> ((1 : Int32) &&& 31)) &&& 1 = 1) := fun z => absurd (ob.mp z) Bool.false_ne_true
    have hL' : v.1 0 13 = 0 := by
      obtain ⟨h1, h2, h3, -⟩ | ⟨h1, -⟩ := hL
      · exact h3
      · exact absurd (h1.symm.trans r61) (by decide +kernel)
    have hr0 : pR n T i u (sI v 0 20 (nI (a.toNat + 2 * true.toNat))) := h.fr (D := fun _ _ => False) (E := fun a k => a = 0 ∧ k = 20) Fr.rfl' (Fr.sI ⟨rfl, rfl⟩) (fun a k z q => q) (fun a k z q => by unfold oPv at z; omega)
    obtain ⟨u1, s1, s2, s3⟩ := p_step hr0 hk
    have fA : Fr (fun a k => a = o ∨ a = o + 8) u1 (sI (sI u1 o 11 1) (o + 8) 1 0) := (Fr.sI (Or.inl rfl)).trans (Fr.sI (Or.inr rfl))
    have gA : Fr (fun a k => a = 6 ∧ k = 93) (sI (sI v 0 20 (nI (a.toNat + 2 * true.toNat))) 0 7 (nI (i + 1))) (sI (sI (sI v 0 20 (nI (a.toNat + 2 * true.toNat))) 0 7 (nI (i + 1))) 6 93 0) := Fr.sI ⟨rfl, rfl⟩
    have hA : pR n T (i + 1) (sI (sI u1 o 11 1) (o + 8) 1 0) (sI (sI (sI v 0 20 (nI (a.toNat + 2 * true.toNat))) 0 7 (nI (i + 1))) 6 93 0) := s2.fr fA gA (fun a k z q => by unfold oPu at z; omega) (fun a k z q => by unfold oPv at z; omega)
    have hB : lwR [] (o + 8) (sI (sI u1 o 11 1) (o + 8) 1 0) (sI (sI (sI v 0 20 (nI (a.toNat + 2 * true.toNat))) 0 7 (nI (i + 1))) 6 93 0) := by
      refine ⟨?_, ?_, fun i hi => absurd hi (Nat.not_lt_zero i)⟩
      · rw [sI_at, if_pos ⟨rfl, rfl⟩]; rfl
      · rw [sI_at, if_neg (by omega), sI_at, if_neg (by omega), sI_at, if_neg (by omega)]; exact hL'
    have hT1 : T ≤ 1000 := Nat.le_trans h.1.1 h.1.2.1
    have em : fX10_readOnce_37 1 v = (wX10_whole 0 (sI (sI (sI v 0 20 (nI (a.toNat + 2 * true.toNat))) 0 7 (nI (i + 1))) 6 93 0)).bind fun q1 => (fX10_emit 0 0 q1.2).bind fun q2 => some ((), q2.2) := by
      unfold fX10_readOnce_37
      simp (disch := first | omega | decide) only [sI_at, sI_l, sJ_at, sJ_i, sJ_m, sM_at, sM_i, sM_l, Nat.reduceEqDiff, false_and, and_false, true_and, and_true, and_self, if_false, if_true, ite_false, ite_true, h.ok, h.at, r62, hL', show ((0 : Int32) ≤ 0) = True from eq_true (by decide +kernel), show ((1 : Int32) = 0) = False from eq_false (by decide +kernel), i10, i00, decide_true, decide_false, cnd_t, cnd_f, gd_nil, gd_t, b1_0, b1_1, sw_nil, sw_cons, obs, oc, ix_o, nc_o, show nI i + 1 = nI (i + 1) from nI_1 i]
    have FU1 : Fr (dZu o) u (sI (sI u1 o 11 1) (o + 8) 1 0) := (s3.mono fun a k z => Or.inl z).trans (fA.mono fun a k z => Or.inr (by omega))
    have FV1 : Fr dZv v (sI (sI (sI v 0 20 (nI (a.toNat + 2 * true.toNat))) 0 7 (nI (i + 1))) 6 93 0) := (Fr.sI (D := dZv) (Or.inr (Or.inr (Or.inr (Or.inl ⟨rfl, Or.inr (Or.inr rfl)⟩))))).trans ((Fr.sI (D := dZv) (Or.inl ⟨rfl, Or.inl rfl⟩)).trans (gA.mono fun a k z => by unfold dZv; omega))
    have lU : ∀ a k, dLu (o + 8) a k → dZu o a k := fun a k z => by unfold dLu dSu at z; unfold dZu; omega
    have lV : ∀ a k, dLv a k → dZv a k := fun a k z => by unfold dLv dSv at z; unfold dZv dSv; omega
    obtain ⟨u3, v3, i3, ds, a1, a2, a3, a4, a5, a6, a7, a8, a9⟩ | ⟨f, u3, v3, c, a1, a2, a3, a4, a5, a6, a7, a8⟩ := lz_top (n := n) (T := T) (q := o + 8) (by omega) hT1 _ _ (i + 1) [] hA hB (Nat.zero_le _)
    · have a3' : wX1_readLevel (o + 8) 0 0 (sI (sI u1 o 11 1) (o + 8) 1 0) = some (1, u3) := a3
      have a4' : wX10_whole 0 (sI (sI (sI v 0 20 (nI (a.toNat + 2 * true.toNat))) 0 7 (nI (i + 1))) 6 93 0) = some ((), v3) := a4
      have a6' : lwR ds (o + 8) u3 v3 := a6
      have hi3 := a5.2.2.1
      have eM := m_emit a6'.2.1 (by omega) 0 0
      have gE : Fr dLv v3 (sI (sI (sI v3 7 (1100 + ds.length) 0) 8 (1100 + ds.length) 0) 0 13 (nI (ds.length + 1))) := emit_fr
      have h5 : pR n T i3 u3 (sI (sI (sI v3 7 (1100 + ds.length) 0) 8 (1100 + ds.length) 0) 0 13 (nI (ds.length + 1))) := a5.law (q := o + 8) (by omega) Fr.rfl' ((Fr.sI (D := fun a k => (a = 0 ∧ k = 13) ∨ a = 7 ∨ a = 8) (Or.inr (Or.inl rfl))).trans ((Fr.sI (D := fun a k => (a = 0 ∧ k = 13) ∨ a = 7 ∨ a = 8) (Or.inr (Or.inr rfl))).trans (Fr.sI (Or.inl ⟨rfl, rfl⟩))))
      have FU3 : Fr (dZu o) u u3 := FU1.trans (a8.mono lU)
      have FV3 := FV1.trans ((a9.mono lV).trans (gE.mono lV))
      obtain ⟨u5, e1, e2, e3, e4, e5⟩ | ⟨f, e1, e2, e3, e4⟩ := p_end h5
      · have gX : Fr dSv (sI (sI (sI v3 7 (1100 + ds.length) 0) 8 (1100 + ds.length) 0) 0 13 (nI (ds.length + 1))) (sI (sI (sI (sI v3 7 (1100 + ds.length) 0) 8 (1100 + ds.length) 0) 0 13 (nI (ds.length + 1))) 0 7 (nI (i3 + 1))) := Fr.sI ⟨rfl, Or.inl rfl⟩
        have f11 : u5.1 o 11 = 1 := by
          rw [e4.1 _ _ (by unfold dSu; omega), a8.1 _ _ (by unfold dLu dSu; omega), sI_at, if_neg (by omega), sI_at, if_pos ⟨rfl, rfl⟩]
        have FR : Fr (fun a k => a < 6 ∨ (a = o ∧ k = 11) ∨ (o + 8 ≤ a ∧ a < o + 12)) u u5 := (s3.mono fun a k z => Or.inl (by unfold dSu at z; omega)).trans ((Fr.sI (D := fun a k => a < 6 ∨ (a = o ∧ k = 11) ∨ (o + 8 ≤ a ∧ a < o + 12)) (Or.inr (Or.inl ⟨rfl, rfl⟩))).trans ((Fr.sI (D := fun a k => a < 6 ∨ (a = o ∧ k = 11) ∨ (o + 8 ≤ a ∧ a < o + 12)) (Or.inr (Or.inr (by omega)))).trans ((a8.mono fun a k z => by unfold dLu dSu at z; omega).trans (e4.mono fun a k z => Or.inl (by unfold dSu at z; omega)))))
        have GR : Fr (fun a k => (a = 0 ∧ k ≠ 19) ∨ (a = 6 ∧ k = 93) ∨ a = 7 ∨ a = 8) v (sI (sI (sI (sI v3 7 (1100 + ds.length) 0) 8 (1100 + ds.length) 0) 0 13 (nI (ds.length + 1))) 0 7 (nI (i3 + 1))) := (Fr.sI (D := fun a k => (a = 0 ∧ k ≠ 19) ∨ (a = 6 ∧ k = 93) ∨ a = 7 ∨ a = 8) (Or.inl ⟨rfl, by decide⟩)).trans ((Fr.sI (D := fun a k => (a = 0 ∧ k ≠ 19) ∨ (a = 6 ∧ k = 93) ∨ a = 7 ∨ a = 8) (Or.inl ⟨rfl, by decide⟩)).trans ((gA.mono fun a k z => Or.inr (Or.inl z)).trans ((a9.mono fun a k z => by unfold dLv dSv at z; omega).trans ((gE.mono fun a k z => by unfold dLv dSv at z; omega).trans (gX.mono fun a k z => by unfold dSv at z; omega)))))
        have v20 : (sI (sI (sI (sI v3 7 (1100 + ds.length) 0) 8 (1100 + ds.length) 0) 0 13 (nI (ds.length + 1))) 0 7 (nI (i3 + 1))).1 0 20 = nI (a.toNat + 2 * true.toNat) := by
          rw [sI_at, if_neg (by omega), sI_at, if_neg (by omega), sI_at, if_neg (by omega), sI_at, if_neg (by omega), a9.1 _ _ (by unfold dLv dSv; omega), sI_at, if_neg (by omega), sI_at, if_neg (by omega), sI_at, if_pos ⟨rfl, rfl⟩]
        have v93 : (sI (sI (sI (sI v3 7 (1100 + ds.length) 0) 8 (1100 + ds.length) 0) 0 13 (nI (ds.length + 1))) 0 7 (nI (i3 + 1))).1 6 93 = 0 := by
          rw [sI_at, if_neg (by omega), sI_at, if_neg (by omega), sI_at, if_neg (by omega), sI_at, if_neg (by omega), a9.1 _ _ (by unfold dLv dSv; omega), sI_at, if_pos ⟨rfl, rfl⟩]
        refine Or.inl ⟨u5, _, i3 + 1, np, ng, by omega, ?_, ?_, e3, ofR.law (b' := true) hR0 ho FR GR (fun a k z => z) (fun a k z => z) f11 (fun a' z => ?_), Or.inr ⟨f11, v93, ds, by omega, a7, ?_, ?_, fun j hj => ?_, ?_⟩, FU3.trans (e4.mono fun a k z => Or.inl z), FV3.trans (gX.mono fun a k z => Or.inl z)⟩
        · simp only [b01, Bool.false_eq_true, if_false, i10, i00, decide_true, decide_false, cnd_t, cnd_f, gd_nil, gd_t, b1_0, b1_1, sw_nil, sw_cons, obs, s1, a3', e1]
        · simp only [obs, l0, i10, i00, decide_true, decide_false, cnd_t, cnd_f, gd_nil, gd_t, b1_0, b1_1, sw_nil, sw_cons, obs, r62, nb, em, a4', eM, e2]
        · rw [v20]
          have : b01 a' = b01 a := z.symm.trans r6
          have ea : a' = a := by
            cases a' <;> cases a
            · rfl
            · exact absurd this (by decide +kernel)
            · exact absurd this (by decide +kernel)
            · rfl
          rw [ea]
        · rw [e4.1 _ _ (by unfold dSu; omega)]
          exact a6'.1
        · rw [sI_at, if_neg (by omega), sI_at, if_pos ⟨rfl, rfl⟩]
        · have h6 := a6'.2.2 j hj
          rw [e4.1 _ _ (by unfold dSu; omega), sI_at, if_neg (by omega), sI_at, if_neg (by omega), sI_at, if_neg (by omega), sI_at, if_neg (by omega), sI_at, if_neg (by omega), sI_at, if_neg (by omega), sI_at, if_neg (by omega), sI_at, if_neg (by omega)]
          exact h6
        · rw [sI_at, if_neg (by omega), sI_at, if_neg (by omega), sI_at, if_neg (by omega), sI_at, if_pos ⟨rfl, rfl⟩]
      · refine Or.inr ⟨f, sI u3 1 10 (nI f), _, ?_, ?_, by rw [sI_at, if_pos ⟨rfl, rfl⟩], mF.mk8 e3 e4, FU3.trans (Fr.sI (Or.inl ⟨rfl, by decide, by decide⟩)), FV3.trans (Fr.sI (Or.inl ⟨rfl, Or.inr rfl⟩))⟩
        · simp only [b01, Bool.false_eq_true, if_false, i10, i00, decide_true, decide_false, cnd_t, cnd_f, gd_nil, gd_t, b1_0, b1_1, sw_nil, sw_cons, obs, s1, a3', e1]
        · simp only [obs, l0, i10, i00, decide_true, decide_false, cnd_t, cnd_f, gd_nil, gd_t, b1_0, b1_1, sw_nil, sw_cons, obs, r62, nb, em, a4', eM, e2]
    · have a1' : wX1_readLevel (o + 8) 0 0 (sI (sI u1 o 11 1) (o + 8) 1 0) = some (0, u3) := a1
      have a2' : wX10_whole 0 (sI (sI (sI v 0 20 (nI (a.toNat + 2 * true.toNat))) 0 7 (nI (i + 1))) 6 93 0) = some ((), v3) := a2
      have eM := m_emit a5 (by omega) 0 0
      have hF := a4.emit (m := 1100 + c) (x := 0) (y := 0) (z := nI (c + 1))
      refine Or.inr ⟨f, u3, _, ?_, ?_, a3, hF, FU1.trans (a7.mono lU), FV1.trans ((a8.mono lV).trans (emit_fr.mono lV))⟩
      · simp only [b01, Bool.false_eq_true, if_false, i10, i00, decide_true, decide_false, cnd_t, cnd_f, gd_nil, gd_t, b1_0, b1_1, sw_nil, sw_cons, obs, s1, a1']
      · simp only [obs, l0, i10, i00, decide_true, decide_false, cnd_t, cnd_f, gd_nil, gd_t, b1_0, b1_1, sw_nil, sw_cons, obs, r62, nb, em, a2', eM]
        exact mF_takeSign hF 59
  · have nb : ((nI (a.toNat + 2 * true.toNat) >>> ((1 : Int32) &&& 31)) &&& 1 = 1) := ob.mpr rfl
    obtain ⟨f, f1, f2, f3, f4⟩ := p_fail h 3 (by decide) (by decide)
    have f3' : fX6_fail 3 u = some (0, sI u 1 10 (nI f)) := f3
    have f4' : fX10_wrong 3 v = some ((), sI v 0 8 (nI f)) := f4
    have hF := mF.mk8 (v := v) f1 f2
    refine Or.inr ⟨f, sI u 1 10 (nI f), sI v 0 8 (nI f), ?_, ?_, by rw [sI_at, if_pos ⟨rfl, rfl⟩], hF, Fr.sI (Or.inl ⟨rfl, by decide, by decide⟩), Fr.sI (Or.inl ⟨rfl, Or.inr rfl⟩)⟩
    · simp only [b01, if_true, i10, i00, decide_true, decide_false, cnd_t, cnd_f, gd_nil, gd_t, b1_0, b1_1, sw_nil, sw_cons, obs, i10, f3']
    · simp only [obs, l0, i10, i00, decide_true, decide_false, cnd_t, cnd_f, gd_nil, gd_t, b1_0, b1_1, sw_nil, sw_cons, obs, r62, nb, f4', mF37 hF]
      exact mF_takeSign hF 59
-- a line, whatever it begins with
theorem l_line {np ng : Nat} (h : pR n T i u v) (ho : o = 6 ∨ o = 18) (hR : ofR np ng o u v) (hL : LW o u v) : lnP n T i o (fX2_readLine o u) ((fX10_readLine v).bind fun q2 => fX10_takeSign 59 q2.2) u v := by
  have wrap : ∀ (y : Option (Int32 × ab_S)) (z : Option (Unit × ab_S)), lnP n T i o y z u v → lnP n T i o (y.bind fun q => ab_gd [ab_b1 q.1] (some (q.1, q.2))) z u v := by
    intro y z hh
    obtain ⟨u', v', i', np, ng, h1, h2, h3⟩ | ⟨f, u', v', h1, h2, h3⟩ := hh
    · exact Or.inl ⟨u', v', i', np, ng, h1, by rw [h2]; simp only [i10, i00, decide_true, decide_false, cnd_t, cnd_f, gd_nil, gd_t, b1_0, b1_1, sw_nil, sw_cons, obs], h3⟩
    · exact Or.inr ⟨f, u', v', by rw [h1]; simp only [i10, i00, decide_true, decide_false, cnd_t, cnd_f, gd_nil, gd_t, b1_0, b1_1, sw_nil, sw_cons, obs], h2, h3⟩
  unfold fX2_readLine
  rw [c_isWord]
  by_cases e0 : isW 0 u
  · simp only [if_pos e0, i10, i00, decide_true, decide_false, cnd_t, cnd_f, gd_nil, gd_t, b1_0, b1_1, sw_nil, sw_cons, obs]
    exact wrap _ _ ((l_person h ho hR e0).P ho hL)
  simp only [if_neg e0, i10, i00, decide_true, decide_false, cnd_t, cnd_f, gd_nil, gd_t, b1_0, b1_1, sw_nil, sw_cons, obs]
  rw [c_isWord]
  by_cases e2 : isW 2 u
  · simp only [if_pos e2, i10, i00, decide_true, decide_false, cnd_t, cnd_f, gd_nil, gd_t, b1_0, b1_1, sw_nil, sw_cons, obs]
    exact wrap _ _ ((l_good h ho hR e2).P ho hL)
  simp only [if_neg e2, i10, i00, decide_true, decide_false, cnd_t, cnd_f, gd_nil, gd_t, b1_0, b1_1, sw_nil, sw_cons, obs]
  rw [c_isWord]
  by_cases e5 : isW 5 u
  · simp only [if_pos e5, i10, i00, decide_true, decide_false, cnd_t, cnd_f, gd_nil, gd_t, b1_0, b1_1, sw_nil, sw_cons, obs]
    exact wrap _ _ ((l_likes h ho hR e5).P ho hL)
  simp only [if_neg e5, i10, i00, decide_true, decide_false, cnd_t, cnd_f, gd_nil, gd_t, b1_0, b1_1, sw_nil, sw_cons, obs]
  rw [c_isWord]
  by_cases e6 : isW 6 u
  · simp only [if_pos e6, i10, i00, decide_true, decide_false, cnd_t, cnd_f, gd_nil, gd_t, b1_0, b1_1, sw_nil, sw_cons, obs]
    exact wrap _ _ ((l_seed h ho hR e6).P ho hL)
  simp only [if_neg e6, i10, i00, decide_true, decide_false, cnd_t, cnd_f, gd_nil, gd_t, b1_0, b1_1, sw_nil, sw_cons, obs]
  rw [c_isWord]
  by_cases e7 : isW 7 u
  · simp only [if_pos e7, i10, i00, decide_true, decide_false, cnd_t, cnd_f, gd_nil, gd_t, b1_0, b1_1, sw_nil, sw_cons, obs]
    exact wrap _ _ (l_law h ho hR hL e7)
  simp only [if_neg e7, i10, i00, decide_true, decide_false, cnd_t, cnd_f, gd_nil, gd_t, b1_0, b1_1, sw_nil, sw_cons, obs]
  rw [m_once h e0 e2 e5]
  obtain ⟨r, q1, -, q3⟩ := m_wordHere h 6 2 (by decide)
  have er := q3 fun j hj => by
    obtain e | e : j = 0 ∨ j = 1 := by omega
    · subst e; exact e6
    · subst e; exact e7
  subst er
  have q1' : fX10_wordHere 6 2 v = some (-1, v) := q1
  obtain ⟨f, f1, f2, f3, f4⟩ := p_fail h 1 (by decide) (by decide)
  have f3' : fX6_fail 1 u = some (0, sI u 1 10 (nI f)) := f3
  have f4' : fX10_wrong 1 v = some ((), sI v 0 8 (nI f)) := f4
  have hF := mF.mk8 (v := v) f1 f2
  refine Or.inr ⟨f, sI u 1 10 (nI f), sI v 0 8 (nI f), ?_, ?_, by rw [sI_at, if_pos ⟨rfl, rfl⟩], hF, Fr.sI (Or.inl ⟨rfl, by decide, by decide⟩), Fr.sI (Or.inl ⟨rfl, Or.inr rfl⟩)⟩
  · simp only [i10, i00, decide_true, decide_false, cnd_t, cnd_f, gd_nil, gd_t, b1_0, b1_1, sw_nil, sw_cons, obs, f3']
  · unfold fX10_readOnce
    rw [q1']
    simp only [obs, show ((-1 : Int32) < 0) = True from eq_true (by decide +kernel), i10, i00, decide_true, decide_false, cnd_t, cnd_f, gd_nil, gd_t, b1_0, b1_1, sw_nil, sw_cons, obs, f4', mF37 hF]
    exact mF_takeSign hF 59
-- all lines
theorem o_loop (ho : o = 6 ∨ o = 18) : ∀ D i c N M np ng (u v : ab_S), T - i ≤ D → D < N → D + 1 < M → pR n T i u v → ofR np ng o u v → LW o u v → c ≤ i → (∃ u' v' np' ng', fX2_readLines_6 o N (nI c) u = fX2_readLines_39 o u' ∧ fX10_office_30 M v = fX10_office_62 v' ∧ v'.1 0 8 = 0 ∧ ofR np' ng' o u' v' ∧ LW o u' v' ∧ Fr (dZu o) u u' ∧ Fr dZv v v') ∨ (∃ f u' v', fX2_readLines_6 o N (nI c) u = some (nI f, u') ∧ fX10_office_30 M v = some (nI f, v') ∧ 1 ≤ f ∧ f < 20000 ∧ Fr (dZu o) u u' ∧ Fr dZv v v') := by
  -- the end of the text
  have done : ∀ i c N M np ng (u v : ab_S), 0 < N → 0 < M → pR n T i u v → ofR np ng o u v → LW o u v → u.1 1 7 = 0 → (∃ u' v' np' ng', fX2_readLines_6 o N (nI c) u = fX2_readLines_39 o u' ∧ fX10_office_30 M v = fX10_office_62 v' ∧ v'.1 0 8 = 0 ∧ ofR np' ng' o u' v' ∧ LW o u' v' ∧ Fr (dZu o) u u' ∧ Fr dZv v v') := by
    intro i c N M np ng u v hN hM h hR hL hk
    obtain ⟨N, rfl⟩ : ∃ m, N = m + 1 := ⟨N - 1, by omega⟩
    obtain ⟨M, rfl⟩ : ∃ m, M = m + 1 := ⟨M - 1, by omega⟩
    have hi := h.i1000
    refine ⟨u, v, np, ng, ?_, ?_, h.ok, hR, hL, Fr.rfl', Fr.rfl'⟩
    · rw [fX2_readLines_6]
      by_cases e : nI c < 1000
      · simp only [e, i10, i00, decide_true, decide_false, cnd_t, cnd_f, gd_nil, gd_t, b1_0, b1_1, sw_nil, sw_cons, obs, hk]
      · simp only [e, i10, i00, decide_true, decide_false, cnd_t, cnd_f, gd_nil, gd_t, b1_0, b1_1, sw_nil, sw_cons, obs]
    · rw [fX10_office_30, h.ok, h.at]
      have e2 := h.end.mp hk
      simp (disch := first | omega | decide) only [i10, i00, decide_true, decide_false, cnd_t, cnd_f, gd_nil, gd_t, b1_0, b1_1, sw_nil, sw_cons, obs, ix_nI, nc_nI, e2]
  intro D
  induction D with
  | zero =>
    intro i c N M np ng u v hD hN hM h hR hL hc
    have hiT : i = T := by have := h.2.2.1; omega
    have hk : u.1 1 7 = 0 := by
      obtain ⟨⟨-, -, -, h4, -⟩, ⟨-, a2, -⟩, -⟩ := h
      rw [a2, hiT]
      exact h4
    exact Or.inl (done i c N M np ng u v (by omega) (by omega) h hR hL hk)
  | succ D ih =>
    intro i c N M np ng u v hD hN hM h hR hL hc
    by_cases hk : u.1 1 7 = 0
    · exact Or.inl (done i c N M np ng u v (by omega) (by omega) h hR hL hk)
    obtain ⟨N, rfl⟩ : ∃ m, N = m + 1 := ⟨N - 1, by omega⟩
    obtain ⟨M, rfl⟩ : ∃ m, M = m + 1 := ⟨M - 1, by omega⟩
    have hi := h.i1000
    have hiT := h.lt hk
    have hT1 : T ≤ 1000 := Nat.le_trans h.1.1 h.1.2.1
    have c1 : (nI c < 1000) = True := eq_true (show nI c < nI 1000 from (nI_ltI (by omega) (by decide)).mpr (by omega))
    have e2 : ¬ v.1 2 i = 0 := fun z => hk (h.end.mpr z)
    have em : fX10_office_30 (M + 1) v = ((fX10_readLine v).bind fun q2 => fX10_takeSign 59 q2.2).bind fun q3 => fX10_office_30 M q3.2 := by
      rw [fX10_office_30, h.ok, h.at]
      simp (disch := first | omega | decide) only [i10, i00, decide_true, decide_false, cnd_t, cnd_f, gd_nil, gd_t, b1_0, b1_1, sw_nil, sw_cons, obs, ix_nI, nc_nI, e2]
      cases fX10_readLine v with
      | none => rfl
      | some r => rfl
    rw [fX2_readLines_6, em]
    simp only [c1, i10, i00, decide_true, decide_false, cnd_t, cnd_f, gd_nil, gd_t, b1_0, b1_1, sw_nil, sw_cons, obs, hk]
    obtain ⟨u', v', i', np', ng', a1, a2, a3, a4, a5, a6, a7, a8⟩ | ⟨f, u', v', a1, a2, a3, a4, a5, a6⟩ := l_line h ho hR hL
    · rw [a2, a3]
      simp only [i10, i00, decide_true, decide_false, cnd_t, cnd_f, gd_nil, gd_t, b1_0, b1_1, sw_nil, sw_cons, obs, show nI c + 1 = nI (c + 1) from nI_1 c]
      obtain ⟨u3, v3, np3, ng3, b1, b2, b3, b4, b5, b6, b7⟩ | ⟨f, u3, v3, b1, b2, b3, b4, b5, b6⟩ := ih i' (c + 1) N M np' ng' u' v' (by omega) (by omega) (by omega) a4 a5 a6 (by omega)
      · exact Or.inl ⟨u3, v3, np3, ng3, b1, b2, b3, b4, b5, a7.trans b6, a8.trans b7⟩
      · exact Or.inr ⟨f, u3, v3, b1, b2, b3, b4, a7.trans b5, a8.trans b6⟩
    · rw [a1, a2]
      obtain ⟨M, rfl⟩ : ∃ m, M = m + 1 := ⟨M - 1, by omega⟩
      have ef := a4.1
      refine Or.inr ⟨f, u', v', ?_, ?_, a4.2.1, a4.2.2, a5, a6⟩
      · simp only [i10, i00, decide_true, decide_false, cnd_t, cnd_f, gd_nil, gd_t, b1_0, b1_1, sw_nil, sw_cons, obs, a3]
      · simp only [obs]
        rw [fX10_office_30]
        unfold fX10_office_62
        have nz := a4.nz
        rw [ef] at nz
        simp only [ef, nz.1, nz.2, i10, i00, decide_true, decide_false, cnd_t, cnd_f, gd_nil, gd_t, b1_0, b1_1, sw_nil, sw_cons, obs]
end PU
/-! the fits worked out; what the reference answers for them -/
def clN (x : Int32) : Nat := if x < 0 then 0 else if x ≤ 99 then nc x else 99
theorem x_cases (x : Int32) : (x < 0 ∧ x < 99 ∧ ¬ 0 < x ∧ clN x = 0) ∨ (∃ j, j < 2147483648 ∧ x = nI j ∧ clN x = if j ≤ 99 then j else 99) := by
  by_cases h : x < 0
  · have h' := h
    rw [Int32.lt_iff_toInt_lt, show (0 : Int32).toInt = 0 by decide +kernel] at h'
    refine Or.inl ⟨h, ?_, ?_, by rw [clN, if_pos h]⟩
    · rw [Int32.lt_iff_toInt_lt, show (99 : Int32).toInt = 99 by decide +kernel]; omega
    · rw [Int32.lt_iff_toInt_lt, show (0 : Int32).toInt = 0 by decide +kernel]; omega
  · obtain ⟨j, hj, rfl⟩ := nI_of h
    refine Or.inr ⟨j, hj, rfl, ?_⟩
    rw [clN, if_neg h]
    have e : nI j ≤ 99 ↔ j ≤ 99 := nI_leI (b := 99) hj (by decide)
    by_cases e2 : j ≤ 99
    · rw [if_pos (e.mpr e2), if_pos e2, nc_nI hj]
    · rw [if_neg (fun z => e2 (e.mp z)), if_neg e2]
theorem clN_le (x : Int32) : clN x ≤ 99 := by
  obtain ⟨-, -, -, h⟩ | ⟨j, -, -, h⟩ := x_cases x
  · omega
  · rw [h]
    by_cases e : j ≤ 99
    · rw [if_pos e]; exact e
    · rw [if_neg e]; exact Nat.le_refl _
theorem c_clamp (x : Int32) : (if 0 < (if x < 99 then x else 99) then (if x < 99 then x else 99) else 0) = nI (clN x) := by
  obtain ⟨h1, h2, h3, h4⟩ | ⟨j, h1, h2, h4⟩ := x_cases x
  · rw [h4, if_pos h2, if_neg h3]; rfl
  · rw [h4]
    subst h2
    have e : nI j < 99 ↔ j < 99 := nI_ltI (b := 99) h1 (by decide)
    have e0 : 0 < nI j ↔ 0 < j := nI_ltI (a := 0) (by decide) h1
    by_cases e2 : j < 99
    · rw [if_pos (e.mpr e2), if_pos (show j ≤ 99 by omega)]
      by_cases e3 : 0 < j
      · rw [if_pos (e0.mpr e3)]
      · have ej : j = 0 := by omega
        subst ej
        rw [if_neg (fun z => e3 (e0.mp z))]; rfl
    · rw [if_neg (fun z => e2 (e.mp z)), if_pos (by decide +kernel)]
      by_cases e3 : j ≤ 99
      · have ej : j = 99 := by omega
        subst ej
        rw [if_pos (Nat.le_refl _)]; rfl
      · rw [if_neg e3]; rfl
theorem m_clamp (x : Int32) (v : ab_S) : fX10_fitBy_95 x v = some (nI (clN x), v) := by
  unfold fX10_fitBy_95
  obtain ⟨h1, h2, h3, h4⟩ | ⟨j, h1, h2, h4⟩ := x_cases x
  · rw [h4]
    simp only [h1, i10, i00, decide_true, decide_false, cnd_t, cnd_f, gd_nil, gd_t, b1_0, b1_1, sw_nil, sw_cons, obs]
    rfl
  · rw [h4]
    subst h2
    have e : nI j ≤ 99 ↔ j ≤ 99 := nI_leI (b := 99) h1 (by decide)
    by_cases e2 : j ≤ 99
    · simp only [nI_pos h1, e.mpr e2, i10, i00, decide_true, decide_false, cnd_t, cnd_f, gd_nil, gd_t, b1_0, b1_1, sw_nil, sw_cons, obs, if_pos e2]
    · have e3 : ¬ nI j ≤ 99 := fun z => e2 (e.mp z)
      simp only [nI_pos h1, e3, i10, i00, decide_true, decide_false, cnd_t, cnd_f, gd_nil, gd_t, b1_0, b1_1, sw_nil, sw_cons, obs, if_neg e2]
      rfl
def fctS (g : Nat → Nat → Int32) (p k j : Nat) : Nat → Int32 := fun a => if a = 0 then g 6 (16 + 2 * k) else if a = 1 then (if g 6 (17 + 2 * k) = nI p then 1 else 0) else if a = 2 then g 6 (32 + 8 * p + k) else nI j
def FTS (g : Nat → Nat → Int32) (cs : List Int32) (p k j : Nat) : Nat := clN (peS (fctS g p k j) cs 0 (fun _ => 0))
def BHS (o np ng : Nat) (g : Nat → Nat → Int32) (cs : List Int32) (u : ab_S) : Prop := u.1 o 0 = nI np ∧ u.1 o 1 = nI ng ∧ (∀ k, k < ng → u.1 (o + 5) k = g 6 (16 + 2 * k)) ∧ (∀ k, k < ng → u.1 (o + 6) k = g 6 (17 + 2 * k)) ∧ (∀ p, p < 6 → ∀ k, k < 8 → u.1 (o + 7) (p * 8 + k) = g 6 (32 + 8 * p + k)) ∧ u.1 (o + 8) 1 = nI cs.length ∧ (∀ i, i < cs.length → u.1 (o + 9) i = cs.getD i 0)
def DNS (o np ng : Nat) (g : Nat → Nat → Int32) (cs : List Int32) (u : ab_S) (p k j : Nat) : Prop := ∀ p' k' j', p' < np → k' < ng → j' < ng → (p' < p ∨ (p' = p ∧ (k' < k ∨ (k' = k ∧ j' < j)))) → u.1 (o + 11) ((p' * 8 + k') * 8 + j') = nI (FTS g cs p' k' j')
def dWF (o a k : Nat) : Prop := a = o + 10 ∨ a = o + 11 ∨ (a = o + 8 ∧ k = 3)
section PU
variable {u v u' v' : ab_S} {n T i o np ng : Nat} {g : Nat → Nat → Int32} {cs : List Int32}
theorem BHS.fr (h : BHS o np ng g cs u) (f : Fr (dWF o) u u') : BHS o np ng g cs u' := by
  obtain ⟨h1, h2, h3, h4, h5, h6, h7⟩ := h
  refine ⟨(f.1 _ _ (by unfold dWF; omega)).trans h1, (f.1 _ _ (by unfold dWF; omega)).trans h2, fun k hk => (f.1 _ _ (by unfold dWF; omega)).trans (h3 k hk), fun k hk => (f.1 _ _ (by unfold dWF; omega)).trans (h4 k hk), fun p hp k hk => (f.1 _ _ (by unfold dWF; omega)).trans (h5 p hp k hk), (f.1 _ _ (by unfold dWF; omega)).trans h6, fun i hi => (f.1 _ _ (by unfold dWF; omega)).trans (h7 i hi)⟩
theorem c_fit44 (hp6 : np ≤ 6) (hg8 : ng ≤ 8) (hc : cs.length ≤ 1000) (hk : okc cs 0 1) (h : BHS o np ng g cs u) {p k j : Nat} (hp : p < np) (hk8 : k < ng) (hj : j < ng) (hD : DNS o np ng g cs u p k j) (k2 : Int32 → ab_S → Option (Unit × ab_S)) (k12 : Int32 → Int32 → ab_S → Option (Unit × ab_S)) (k22 : Int32 → Int32 → Int32 → ab_S → Option (Unit × ab_S)) : ∃ w, fX2_workOutFits_44 o k2 k12 k22 (nI p) (nI k) (nI j) (if g 6 (17 + 2 * k) = nI p then 1 else 0) u = k22 (nI p) (nI k) (nI (j + 1)) w ∧ DNS o np ng g cs w p k (j + 1) ∧ Fr (dWF o) u w := by
  obtain ⟨h1, h2, h3, h4, h5, h6, h7⟩ := h
  have eW : fX2_worthOf o (nI k) u = some (g 6 (16 + 2 * k), u) := by
    unfold fX2_worthOf
    rw [c_at (by omega) (by decide), h3 k hk8]
    rfl
  have eL : fX2_likeOf o (nI p) (nI k) u = some (g 6 (32 + 8 * p + k), u) := by
    rw [c_like (by omega) (by omega), h5 p (by omega) k (by omega)]
  have f0 : Fr (dWF o) u (sI u (o + 8) 3 0) := Fr.sI (Or.inr (Or.inr ⟨rfl, rfl⟩))
  obtain ⟨u1, w1, w2⟩ := c_work (q := o + 8) (fctS g p k j) cs 0 cs.length 0 fu (fun _ => 0) (sI u (o + 8) 3 0) (by rw [sI_at, if_neg (by omega)]; exact h6) (Nat.zero_add _) hc (fun i hi => by rw [sI_at, if_neg (by omega), Nat.zero_add]; exact h7 i hi) (by rw [sI_at, if_pos ⟨rfl, rfl⟩]; rfl) (fun i hi => absurd hi (Nat.not_lt_zero i)) (by decide) hk (show cs.length < 5000 by omega)
  have w1' : fX1_work (o + 8) (g 6 (16 + 2 * k)) (if g 6 (17 + 2 * k) = nI p then 1 else 0) (g 6 (32 + 8 * p + k)) (nI j) u = some (peS (fctS g p k j) cs 0 (fun _ => 0), u1) := w1
  have e1 : nI p * 8 = nI (p * 8) := nI_mul p 8
  have e2 : nI (p * 8 + k) * 8 = nI ((p * 8 + k) * 8) := nI_mul _ 8
  have fW : Fr (dWF o) u u1 := f0.trans (w2.mono fun a k z => by unfold dWk at z; unfold dWF; omega)
  have fX : Fr (dWF o) u (sI u1 (o + 11) ((p * 8 + k) * 8 + j) (nI (FTS g cs p k j))) := fW.trans (Fr.sI (Or.inr (Or.inl rfl)))
  refine ⟨sI u1 (o + 11) ((p * 8 + k) * 8 + j) (nI (FTS g cs p k j)), ?_, fun p' k' j' a1 a2 a3 a4 => ?_, fX⟩
  · unfold fX2_workOutFits_44 fX2_fitIndex
    rw [eW]
    simp only [obs, eL, w1', e1, e2, nI_add]
    rw [put_eq (by omega) (by decide), c_clamp]
    simp only [obs, show nI j + 1 = nI (j + 1) from nI_1 j, FTS]
  · by_cases e : p' = p ∧ k' = k ∧ j' = j
    · obtain ⟨rfl, rfl, rfl⟩ := e
      rw [sI_at, if_pos ⟨rfl, rfl⟩]
    · have ne : ¬ (o + 11 = o + 11 ∧ (p' * 8 + k') * 8 + j' = (p * 8 + k) * 8 + j) := by omega
      rw [sI_at, if_neg ne, w2.1 _ _ (by unfold dWk; omega), sI_at, if_neg (by omega)]
      exact hD p' k' j' a1 a2 a3 (by omega)
theorem c_fit22 (hp6 : np ≤ 6) (hg8 : ng ≤ 8) (hc : cs.length ≤ 1000) (hk : okc cs 0 1) {p k : Nat} (hp : p < np) (hk8 : k < ng) (k2 : Int32 → ab_S → Option (Unit × ab_S)) (k12 : Int32 → Int32 → ab_S → Option (Unit × ab_S)) : ∀ d j N (u : ab_S), j + d = ng → d < N → BHS o np ng g cs u → DNS o np ng g cs u p k j → ∃ w, fX2_workOutFits_22 o k2 k12 N (nI p) (nI k) (nI j) u = k12 (nI p) (nI (k + 1)) w ∧ DNS o np ng g cs w p (k + 1) 0 ∧ Fr (dWF o) u w := by
  intro d
  induction d with
  | zero =>
    intro j N u hd hN h hD
    obtain ⟨N, rfl⟩ : ∃ m, N = m + 1 := ⟨N - 1, by omega⟩
    refine ⟨u, ?_, fun p' k' j' a1 a2 a3 a4 => hD p' k' j' a1 a2 a3 (by omega), Fr.rfl'⟩
    rw [fX2_workOutFits_22, h.2.1]
    simp (disch := first | omega | decide) only [i10, i00, decide_true, decide_false, cnd_t, cnd_f, gd_nil, gd_t, b1_0, b1_1, sw_nil, sw_cons, obs, Nat.not_lt_zero, nI_addo, nI_oadd, nI_add, nI_mulo, nI_omul, nI_mul, nI_lto, nI_leo, nI_olt, nI_ole, nI_eqo, nI_oeq, nI_lt2, nI_le2, nI_eq2, nI_nm1, nI_m1n, nI_lt0, nI_lem1, nc_nI, nc_o, ix_nI, ix_o, show ¬ j < ng by omega]
  | succ d ih =>
    intro j N u hd hN h hD
    obtain ⟨N, rfl⟩ : ∃ m, N = m + 1 := ⟨N - 1, by omega⟩
    obtain ⟨w, w1, w2, w3⟩ := c_fit44 hp6 hg8 hc hk h hp hk8 (show j < ng by omega) hD k2 k12 (fX2_workOutFits_22 o k2 k12 N)
    obtain ⟨w', z1, z2, z3⟩ := ih (j + 1) N w (by omega) (by omega) (h.fr w3) w2
    have eO : fX2_ownerOf o (nI k) u = some (g 6 (17 + 2 * k), u) := by
      unfold fX2_ownerOf
      rw [c_at (by omega) (by decide), h.2.2.2.1 k hk8]
      rfl
    refine ⟨w', ?_, z2, w3.trans z3⟩
    rw [fX2_workOutFits_22, h.2.1, ← z1, ← w1, eO]
    simp (disch := first | omega | decide) only [i10, i00, decide_true, decide_false, cnd_t, cnd_f, gd_nil, gd_t, b1_0, b1_1, sw_nil, sw_cons, obs, Nat.not_lt_zero, nI_addo, nI_oadd, nI_add, nI_mulo, nI_omul, nI_mul, nI_lto, nI_leo, nI_olt, nI_ole, nI_eqo, nI_oeq, nI_lt2, nI_le2, nI_eq2, nI_nm1, nI_m1n, nI_lt0, nI_lem1, nc_nI, nc_o, ix_nI, ix_o, show j < ng by omega]
    by_cases e : g 6 (17 + 2 * k) = nI p
    · simp only [e, i10, i00, decide_true, decide_false, cnd_t, cnd_f, gd_nil, gd_t, b1_0, b1_1, sw_nil, sw_cons, obs, if_true]
    · simp only [e, i10, i00, decide_true, decide_false, cnd_t, cnd_f, gd_nil, gd_t, b1_0, b1_1, sw_nil, sw_cons, obs, if_false]
theorem c_fit12 (hp6 : np ≤ 6) (hg8 : ng ≤ 8) (hc : cs.length ≤ 1000) (hk : okc cs 0 1) {p : Nat} (hp : p < np) (k2 : Int32 → ab_S → Option (Unit × ab_S)) : ∀ d k N (u : ab_S), k + d = ng → d < N → BHS o np ng g cs u → DNS o np ng g cs u p k 0 → ∃ w, fX2_workOutFits_12 o k2 N (nI p) (nI k) u = k2 (nI (p + 1)) w ∧ DNS o np ng g cs w (p + 1) 0 0 ∧ Fr (dWF o) u w := by
  intro d
  induction d with
  | zero =>
    intro k N u hd hN h hD
    obtain ⟨N, rfl⟩ : ∃ m, N = m + 1 := ⟨N - 1, by omega⟩
    refine ⟨u, ?_, fun p' k' j' a1 a2 a3 a4 => hD p' k' j' a1 a2 a3 (by omega), Fr.rfl'⟩
    rw [fX2_workOutFits_12, h.2.1]
    simp (disch := first | omega | decide) only [i10, i00, decide_true, decide_false, cnd_t, cnd_f, gd_nil, gd_t, b1_0, b1_1, sw_nil, sw_cons, obs, Nat.not_lt_zero, nI_addo, nI_oadd, nI_add, nI_mulo, nI_omul, nI_mul, nI_lto, nI_leo, nI_olt, nI_ole, nI_eqo, nI_oeq, nI_lt2, nI_le2, nI_eq2, nI_nm1, nI_m1n, nI_lt0, nI_lem1, nc_nI, nc_o, ix_nI, ix_o, show ¬ k < ng by omega]
  | succ d ih =>
    intro k N u hd hN h hD
    obtain ⟨N, rfl⟩ : ∃ m, N = m + 1 := ⟨N - 1, by omega⟩
    obtain ⟨w, w1, w2, w3⟩ := c_fit22 hp6 hg8 hc hk hp (show k < ng by omega) k2 (fX2_workOutFits_12 o k2 N) ng 0 fu u (Nat.zero_add _) (show ng < 5000 by omega) h hD
    obtain ⟨w', z1, z2, z3⟩ := ih (k + 1) N w (by omega) (by omega) (h.fr w3) w2
    have w1' : fX2_workOutFits_22 o k2 (fX2_workOutFits_12 o k2 N) fu (nI p) (nI k) 0 u = fX2_workOutFits_12 o k2 N (nI p) (nI (k + 1)) w := w1
    refine ⟨w', ?_, z2, w3.trans z3⟩
    rw [fX2_workOutFits_12, h.2.1, ← z1, ← w1']
    simp (disch := first | omega | decide) only [i10, i00, decide_true, decide_false, cnd_t, cnd_f, gd_nil, gd_t, b1_0, b1_1, sw_nil, sw_cons, obs, Nat.not_lt_zero, nI_addo, nI_oadd, nI_add, nI_mulo, nI_omul, nI_mul, nI_lto, nI_leo, nI_olt, nI_ole, nI_eqo, nI_oeq, nI_lt2, nI_le2, nI_eq2, nI_nm1, nI_m1n, nI_lt0, nI_lem1, nc_nI, nc_o, ix_nI, ix_o, show k < ng by omega]
theorem c_fit2 (hp6 : np ≤ 6) (hg8 : ng ≤ 8) (hc : cs.length ≤ 1000) (hk : okc cs 0 1) : ∀ d p N (u : ab_S), p + d = np → d < N → BHS o np ng g cs u → DNS o np ng g cs u p 0 0 → ∃ w, fX2_workOutFits_2 o N (nI p) u = some ((), w) ∧ DNS o np ng g cs w np 0 0 ∧ Fr (dWF o) u w := by
  intro d
  induction d with
  | zero =>
    intro p N u hd hN h hD
    obtain ⟨N, rfl⟩ : ∃ m, N = m + 1 := ⟨N - 1, by omega⟩
    have ep : p = np := by omega
    subst ep
    refine ⟨u, ?_, hD, Fr.rfl'⟩
    rw [fX2_workOutFits_2, h.1]
    simp (disch := first | omega | decide) only [i10, i00, decide_true, decide_false, cnd_t, cnd_f, gd_nil, gd_t, b1_0, b1_1, sw_nil, sw_cons, obs, Nat.not_lt_zero, nI_addo, nI_oadd, nI_add, nI_mulo, nI_omul, nI_mul, nI_lto, nI_leo, nI_olt, nI_ole, nI_eqo, nI_oeq, nI_lt2, nI_le2, nI_eq2, nI_nm1, nI_m1n, nI_lt0, nI_lem1, nc_nI, nc_o, ix_nI, ix_o, Nat.lt_irrefl]
  | succ d ih =>
    intro p N u hd hN h hD
    obtain ⟨N, rfl⟩ : ∃ m, N = m + 1 := ⟨N - 1, by omega⟩
    obtain ⟨w, w1, w2, w3⟩ := c_fit12 hp6 hg8 hc hk (show p < np by omega) (fX2_workOutFits_2 o N) ng 0 fu u (Nat.zero_add _) (show ng < 5000 by omega) h hD
    obtain ⟨w', z1, z2, z3⟩ := ih (p + 1) N w (by omega) (by omega) (h.fr w3) w2
    have w1' : fX2_workOutFits_12 o (fX2_workOutFits_2 o N) fu (nI p) 0 u = fX2_workOutFits_2 o N (nI (p + 1)) w := w1
    refine ⟨w', ?_, z2, w3.trans z3⟩
    rw [fX2_workOutFits_2, h.1, ← z1, ← w1']
    simp (disch := first | omega | decide) only [i10, i00, decide_true, decide_false, cnd_t, cnd_f, gd_nil, gd_t, b1_0, b1_1, sw_nil, sw_cons, obs, Nat.not_lt_zero, nI_addo, nI_oadd, nI_add, nI_mulo, nI_omul, nI_mul, nI_lto, nI_leo, nI_olt, nI_ole, nI_eqo, nI_oeq, nI_lt2, nI_le2, nI_eq2, nI_nm1, nI_m1n, nI_lt0, nI_lem1, nc_nI, nc_o, ix_nI, ix_o, show p < np by omega]
theorem c_fits (hp6 : np ≤ 6) (hg8 : ng ≤ 8) (hc : cs.length ≤ 1000) (hk : okc cs 0 1) (h : BHS o np ng g cs u) : ∃ w, fX2_workOutFits o u = some ((), w) ∧ (∀ p k j, p < np → k < ng → j < ng → w.1 (o + 11) ((p * 8 + k) * 8 + j) = nI (FTS g cs p k j)) ∧ Fr (dWF o) u w := by
  obtain ⟨w, w1, w2, w3⟩ := c_fit2 hp6 hg8 hc hk np 0 fu u (Nat.zero_add _) (show np < 5000 by omega) h (fun p' k' j' a1 a2 a3 a4 => by omega)
  exact ⟨w, w1, fun p k j a b c => w2 p k j a b c (Or.inl a), w3⟩
-- the reference's fit
def LCS (cs : List Int32) (g : Nat → Nat → Int32) : Prop := (g 6 3 = -1 ∧ cs = [-1, -3, -10]) ∨ (g 6 3 = 0 ∧ cs.length ≤ 1000 ∧ sgm 30 cs ∧ (∀ i, i < cs.length → cE (cs.getD i 0) (g 7 i) (g 8 i)) ∧ g 7 cs.length = 0)
theorem LCS.ok (h : LCS cs g) : okc cs 0 1 ∧ cs.length ≤ 1000 := by
  obtain ⟨-, h⟩ | ⟨-, h1, h2, -⟩ := h
  · subst h
    exact ⟨Or.inl ⟨Or.inl rfl, by decide, Or.inl ⟨Or.inr (Or.inr (Or.inl rfl)), by decide, Or.inr (Or.inr ⟨Or.inr (Or.inr (Or.inr (Or.inr (Or.inl rfl)))), by decide, rfl⟩)⟩⟩, by decide⟩
  · exact ⟨h2 0 (by decide), h1⟩
theorem usual_pe (f : Nat → Int32) : peS f [-1, -3, -10] 0 (fun _ => 0) = f 0 + f 2 := by
  rw [peS_push (Or.inl rfl), peS_push (Or.inr (Or.inr (Or.inl rfl))), peS_bin (Or.inr (Or.inr (Or.inr (Or.inr (Or.inl rfl))))), peS, jn_10, show pvS f (-1) = f 0 from pvS_f f 0 (by decide), show pvS f (-3) = f 2 from pvS_f f 2 (by decide)]
  rfl
theorem m_fitL (h6 : np ≤ 6) (h8 : ng ≤ 8) (hL : LCS cs g) : pL (np, ng, g, FTS g cs) := by
  intro v hm p k j hp hk hj
  have hp' : p < np := hp
  have hk' : k < ng := hk
  have hj' : j < ng := hj
  have hm1 : ∀ k, k < 90 → v.1 6 k = g 6 k := hm.1
  have hm2 : ∀ k, k < 1100 → v.1 7 k = g 7 k := hm.2.1
  have hm3 : ∀ k, k < 1100 → v.1 8 k = g 8 k := hm.2.2
  show Wp (fX10_fitBy (nI p) (nI k) (nI j) v) (fun r v' => r = nI (FTS g cs p k j) ∧ Sc v v')
  have gd : ∀ (w : ab_S) (b : Nat), b < 2 → fX10_goodOf (nI k) (nI b) w = some (w.1 6 (16 + 2 * k + b), w) := by
    intro w b hb
    have e : (16 : Int32) + 2 * nI k + nI b = nI (16 + 2 * k + b) := by
      rw [show (2 : Int32) * nI k = nI (2 * k) from nI_mul 2 k, show (16 : Int32) + nI (2 * k) = nI (16 + 2 * k) from nI_add 16 _, nI_add]
    unfold fX10_goodOf
    rw [e]
    simp (disch := first | omega | decide) only [i10, i00, decide_true, decide_false, cnd_t, cnd_f, gd_nil, gd_t, b1_0, b1_1, sw_nil, sw_cons, obs, ix_nI, nc_nI]
  have g0 : fX10_goodOf (nI k) 0 v = some (g 6 (16 + 2 * k), v) := by
    have := gd v 0 (by decide)
    rw [Nat.add_zero, hm1 _ (by omega)] at this
    exact this
  have g1 : fX10_goodOf (nI k) 1 (sI v 14 0 (g 6 (16 + 2 * k))) = some (g 6 (17 + 2 * k), sI v 14 0 (g 6 (16 + 2 * k))) := by
    have := gd (sI v 14 0 (g 6 (16 + 2 * k))) 1 (by decide)
    rw [sI_at, if_neg (by omega), show 16 + 2 * k + 1 = 17 + 2 * k by omega, hm1 _ (by omega)] at this
    exact this
  have ei : (32 : Int32) + 8 * nI p + nI k = nI (32 + 8 * p + k) := by
    rw [show (8 : Int32) * nI p = nI (8 * p) from nI_mul 8 p, show (32 : Int32) + nI (8 * p) = nI (32 + 8 * p) from nI_add 32 _, nI_add]
  have c0 : nc (0 : Int32) = 0 := by decide +kernel
  have c1 : nc (1 : Int32) = 1 := by decide +kernel
  have c2 : nc (2 : Int32) = 2 := by decide +kernel
  have c3 : nc (3 : Int32) = 3 := by decide +kernel
  have x0 : ab_ix (0 : Int32) 4 = true := by decide +kernel
  have x1 : ab_ix (1 : Int32) 4 = true := by decide +kernel
  have x2 : ab_ix (2 : Int32) 4 = true := by decide +kernel
  have x3 : ab_ix (3 : Int32) 4 = true := by decide +kernel
  have x4 : ab_ix (3 : Int32) 180 = true := by decide +kernel
  have xi : ab_ix (nI (32 + 8 * p + k)) 180 = true := ix_nI (by omega) (by decide)
  have ci : nc (nI (32 + 8 * p + k)) = 32 + 8 * p + k := nc_nI (by omega)
  have eL : v.1 6 (32 + 8 * p + k) = g 6 (32 + 8 * p + k) := hm1 _ (by omega)
  have e3 : v.1 6 3 = g 6 3 := hm1 3 (by decide)
  -- behind the facts
  have fin : ∀ mine : Int32, mine = (if g 6 (17 + 2 * k) = nI p then 1 else 0) → Wp (fX10_fitBy_32 (nI p) (nI k) (nI j) 1 mine (sI v 14 0 (g 6 (16 + 2 * k)))) (fun r v' => r = nI (FTS g cs p k j) ∧ Sc v v') := by
    intro mine hmine
    unfold fX10_fitBy_32
    rw [ei]
    simp only [x1, xi, x2, x3, x4, gd_t, gd_nil, c1, ci, c2, c3]
    have fr : Sc v (sI (sI (sI (sI v 14 0 (g 6 (16 + 2 * k))) 14 1 mine) 14 2 (g 6 (32 + 8 * p + k))) 14 3 (nI j)) := (Fr.sI (D := dSc) (Or.inl rfl)).trans ((Fr.sI (D := dSc) (Or.inl rfl)).trans ((Fr.sI (D := dSc) (Or.inl rfl)).trans (Fr.sI (Or.inl rfl))))
    simp only [sI_at, sI_l, sJ_at, sJ_i, sJ_m, sM_at, sM_i, sM_l, Nat.reduceEqDiff, false_and, and_false, true_and, and_true, and_self, if_false, if_true, ite_false, ite_true, eL, e3]
    have hf : ∀ i, i < 4 → (sI (sI (sI (sI v 14 0 (g 6 (16 + 2 * k))) 14 1 mine) 14 2 (g 6 (32 + 8 * p + k))) 14 3 (nI j)).1 14 i = fctS g p k j i := by
      intro i hi
      obtain e | e | e | e : i = 0 ∨ i = 1 ∨ i = 2 ∨ i = 3 := by omega
      · subst e
        rw [sI_at, if_neg (by omega), sI_at, if_neg (by omega), sI_at, if_neg (by omega), sI_at, if_pos ⟨rfl, rfl⟩]; rfl
      · subst e
        rw [sI_at, if_neg (by omega), sI_at, if_neg (by omega), sI_at, if_pos ⟨rfl, rfl⟩, hmine]; rfl
      · subst e
        rw [sI_at, if_neg (by omega), sI_at, if_pos ⟨rfl, rfl⟩]; rfl
      · subst e
        rw [sI_at, if_pos ⟨rfl, rfl⟩]; rfl
    obtain ⟨l1, l2⟩ | ⟨l1, l2, l3, l4, l5⟩ := hL
    · rw [l1]
      simp only [show ((-1 : Int32) < 0) = True from eq_true (by decide +kernel), x0, x2, i10, i00, decide_true, decide_false, cnd_t, cnd_f, gd_nil, gd_t, b1_0, b1_1, sw_nil, sw_cons, obs, m_clamp, c0, sI_at, sI_l, sJ_at, sJ_i, sJ_m, sM_at, sM_i, sM_l, Nat.reduceEqDiff, false_and, and_false, true_and, and_true, and_self, if_false, if_true, ite_false, ite_true]
      refine ⟨_, _, rfl, ?_, fr⟩
      subst l2
      rw [FTS, usual_pe]
      rfl
    · rw [l1]
      simp only [show ((0 : Int32) < 0) = False from eq_false (by decide +kernel), i10, i00, decide_true, decide_false, cnd_t, cnd_f, gd_nil, gd_t, b1_0, b1_1, sw_nil, sw_cons, obs]
      obtain ⟨v', z1, z2⟩ := m_work (fctS g p k j) cs 0 0 fu (fun _ => 0) _ (fun i hi => by
        rw [Nat.zero_add, fr.1 7 i (by intro z; omega), fr.1 8 i (by intro z; omega), hm2 i (by omega), hm3 i (by omega)]
        exact l4 i hi) (by rw [Nat.zero_add, fr.1 7 _ (by intro z; omega), hm2 _ (by omega)]; exact l5) (by omega) (fun i hi => absurd hi (Nat.not_lt_zero i)) hf (by decide) (l3 0 (by decide)) (show cs.length < 5000 by omega)
      have z1' : fX10_worthAt 0 (sI (sI (sI (sI v 14 0 (g 6 (16 + 2 * k))) 14 1 mine) 14 2 (g 6 (32 + 8 * p + k))) 14 3 (nI j)) = some (peS (fctS g p k j) cs 0 (fun _ => 0), v') := z1
      rw [z1']
      simp only [obs, m_clamp]
      exact ⟨_, _, rfl, rfl, fr.trans z2⟩
  unfold fX10_fitBy
  rw [g0]
  simp only [obs, x0, gd_t, gd_nil, c0, g1]
  by_cases e : g 6 (17 + 2 * k) = nI p
  · have := fin 1 (by rw [if_pos e])
    simp only [e, i10, i00, decide_true, decide_false, cnd_t, cnd_f, gd_nil, gd_t, b1_0, b1_1, sw_nil, sw_cons, obs]
    exact this
  · have := fin 0 (by rw [if_neg e])
    simp only [e, i10, i00, decide_true, decide_false, cnd_t, cnd_f, gd_nil, gd_t, b1_0, b1_1, sw_nil, sw_cons, obs]
    exact this
end PU
/-! an office told -/
section PU
variable {u v u' v' : ab_S} {n T i o np ng : Nat} {g : Nat → Nat → Int32} {cs : List Int32}
-- ===== both sides cleared =====
theorem c_clear12 : ∀ d k N (u : ab_S), k + d = 48 → d < N → (∀ j, j < k → u.1 (o + 7) j = 0) → ∃ w, fX2_clear_12 o N (nI k) u = (ab_gd [ab_b1 0, ab_b1 0] ((fX1_setUsual (o + 8) (sI (sI (sI w o 9 0) o 10 0) o 11 0)).bind fun q1 => some ((), q1.2))) ∧ (∀ j, j < 48 → w.1 (o + 7) j = 0) ∧ Fr (fun a _ => a = o + 7) u w := by
  intro d
  induction d with
  | zero =>
    intro k N u hd hN h
    obtain ⟨N, rfl⟩ : ∃ m, N = m + 1 := ⟨N - 1, by omega⟩
    have ek : k = 48 := by omega
    subst ek
    refine ⟨u, ?_, h, Fr.rfl'⟩
    rw [fX2_clear_12]
    simp only [show (nI 48 < 48) = False from eq_false (by decide +kernel), decide_false, cnd_f]
  | succ d ih =>
    intro k N u hd hN h
    obtain ⟨N, rfl⟩ : ∃ m, N = m + 1 := ⟨N - 1, by omega⟩
    obtain ⟨w, w1, w2, w3⟩ := ih (k + 1) N (sI u (o + 7) k 0) (by omega) (by omega) (fun j hj => by
      by_cases e : j = k
      · subst e; rw [sI_at, if_pos ⟨rfl, rfl⟩]
      · rw [sI_at, if_neg (by omega)]; exact h j (by omega))
    refine ⟨w, ?_, w2, Fr.trans (D := fun a _ => a = o + 7) (Fr.sI rfl) w3⟩
    rw [fX2_clear_12, ← w1]
    simp (disch := first | omega | decide) only [i10, i00, decide_true, decide_false, cnd_t, cnd_f, gd_nil, gd_t, b1_0, b1_1, sw_nil, sw_cons, obs, Nat.not_lt_zero, nI_addo, nI_oadd, nI_add, nI_mulo, nI_omul, nI_mul, nI_lto, nI_leo, nI_olt, nI_ole, nI_eqo, nI_oeq, nI_lt2, nI_le2, nI_eq2, nI_nm1, nI_m1n, nI_lt0, nI_lem1, nc_nI, nc_o, ix_nI, ix_o, show k < 48 by omega]
theorem c_clear (ho : o = 6 ∨ o = 18) (u : ab_S) : ∃ w, fX2_clear o u = some ((), w) ∧ w.1 o 0 = 0 ∧ w.1 o 1 = 0 ∧ (∀ j, j < 48 → w.1 (o + 7) j = 0) ∧ w.1 o 9 = 0 ∧ w.1 o 10 = 0 ∧ w.1 o 11 = 0 ∧ w.1 (o + 8) 1 = nI 3 ∧ w.1 (o + 9) 0 = -1 ∧ w.1 (o + 9) 1 = -3 ∧ w.1 (o + 9) 2 = -10 ∧ Fr (fun a _ => o ≤ a ∧ a < o + 12) u w := by
  obtain ⟨w, w1, w2, w3⟩ := c_clear12 (o := o) 48 0 fu (sI (sI u o 0 0) o 1 0) rfl (by decide) (fun j hj => absurd hj (Nat.not_lt_zero j))
  have w1' : fX2_clear o u = (ab_gd [ab_b1 0, ab_b1 0] ((fX1_setUsual (o + 8) (sI (sI (sI w o 9 0) o 10 0) o 11 0)).bind fun q1 => some ((), q1.2))) := w1
  have a1 := c_add (u := sI (sI (sI (sI w o 9 0) o 10 0) o 11 0) (o + 8) 1 0) (q := o + 8) (m := 0) (by rw [sI_at, if_pos ⟨rfl, rfl⟩]; rfl) (by decide) (-1)
  have a2 := c_add (u := sI (sI (sI (sI (sI (sI w o 9 0) o 10 0) o 11 0) (o + 8) 1 0) (o + 8 + 1) 0 (-1)) (o + 8) 1 (nI (0 + 1))) (q := o + 8) (m := 1) (by rw [sI_at, if_pos ⟨rfl, rfl⟩]) (by decide) (-3)
  have a3 := c_add (u := sI (sI (sI (sI (sI (sI (sI (sI w o 9 0) o 10 0) o 11 0) (o + 8) 1 0) (o + 8 + 1) 0 (-1)) (o + 8) 1 (nI (0 + 1))) (o + 8 + 1) 1 (-3)) (o + 8) 1 (nI (1 + 1))) (q := o + 8) (m := 2) (by rw [sI_at, if_pos ⟨rfl, rfl⟩]) (by decide) (-10)
  have eW : ∀ a k, a < o + 8 → ¬ (a = o ∧ 9 ≤ k) → (sI (sI (sI (sI (sI (sI (sI (sI (sI (sI w o 9 0) o 10 0) o 11 0) (o + 8) 1 0) (o + 8 + 1) 0 (-1)) (o + 8) 1 (nI (0 + 1))) (o + 8 + 1) 1 (-3)) (o + 8) 1 (nI (1 + 1))) (o + 8 + 1) 2 (-10)) (o + 8) 1 (nI (2 + 1))).1 a k = w.1 a k := fun a k z1 z2 => by
    rw [sI_at, if_neg (by omega), sI_at, if_neg (by omega), sI_at, if_neg (by omega), sI_at, if_neg (by omega), sI_at, if_neg (by omega), sI_at, if_neg (by omega), sI_at, if_neg (by omega), sI_at, if_neg (by omega), sI_at, if_neg (by omega), sI_at, if_neg (by omega)]
  refine ⟨sI (sI (sI (sI (sI (sI (sI (sI (sI (sI w o 9 0) o 10 0) o 11 0) (o + 8) 1 0) (o + 8 + 1) 0 (-1)) (o + 8) 1 (nI (0 + 1))) (o + 8 + 1) 1 (-3)) (o + 8) 1 (nI (1 + 1))) (o + 8 + 1) 2 (-10)) (o + 8) 1 (nI (2 + 1)), ?_, ?_, ?_, fun j hj => ?_, ?_, ?_, ?_, ?_, ?_, ?_, ?_, ?_⟩
  rotate_left
  · rw [eW _ _ (by omega) (by omega), w3.1 _ _ (by omega), sI_at, if_neg (by omega), sI_at, if_pos ⟨rfl, rfl⟩]
  · rw [eW _ _ (by omega) (by omega), w3.1 _ _ (by omega), sI_at, if_pos ⟨rfl, rfl⟩]
  · rw [eW _ _ (by omega) (by omega)]
    exact w2 j hj
  · rw [sI_at, if_neg (by omega), sI_at, if_neg (by omega), sI_at, if_neg (by omega), sI_at, if_neg (by omega), sI_at, if_neg (by omega), sI_at, if_neg (by omega), sI_at, if_neg (by omega), sI_at, if_neg (by omega), sI_at, if_neg (by omega), sI_at, if_pos ⟨rfl, rfl⟩]
  · rw [sI_at, if_neg (by omega), sI_at, if_neg (by omega), sI_at, if_neg (by omega), sI_at, if_neg (by omega), sI_at, if_neg (by omega), sI_at, if_neg (by omega), sI_at, if_neg (by omega), sI_at, if_neg (by omega), sI_at, if_pos ⟨rfl, rfl⟩]
  · rw [sI_at, if_neg (by omega), sI_at, if_neg (by omega), sI_at, if_neg (by omega), sI_at, if_neg (by omega), sI_at, if_neg (by omega), sI_at, if_neg (by omega), sI_at, if_neg (by omega), sI_at, if_pos ⟨rfl, rfl⟩]
  · rw [sI_at, if_pos ⟨rfl, rfl⟩]
  · rw [sI_at, if_neg (by omega), sI_at, if_neg (by omega), sI_at, if_neg (by omega), sI_at, if_neg (by omega), sI_at, if_neg (by omega), sI_at, if_pos ⟨rfl, rfl⟩]
  · rw [sI_at, if_neg (by omega), sI_at, if_neg (by omega), sI_at, if_neg (by omega), sI_at, if_pos ⟨rfl, rfl⟩]
  · rw [sI_at, if_neg (by omega), sI_at, if_pos ⟨rfl, rfl⟩]
  · have fa : ∀ {w : ab_S} {a k : Nat} {x : Int32}, (o ≤ a ∧ a < o + 12) → Fr (fun a _ => o ≤ a ∧ a < o + 12) w (sI w a k x) := fun h => Fr.sI h
    exact (fa (by omega)).trans ((fa (by omega)).trans ((w3.mono fun a k z => by omega).trans ((fa (by omega)).trans ((fa (by omega)).trans ((fa (by omega)).trans ((fa (by omega)).trans ((fa (by omega)).trans ((fa (by omega)).trans ((fa (by omega)).trans ((fa (by omega)).trans ((fa (by omega)).trans (fa (by omega)))))))))))))
  · rw [w1']
    unfold fX1_setUsual
    simp only [i10, i00, decide_true, decide_false, cnd_t, cnd_f, gd_nil, gd_t, b1_0, b1_1, sw_nil, sw_cons, obs, a1, a2, a3]
theorem m_always2 : ∀ d k N (v : ab_S), k + d = 90 → d < N → (∀ j, j < k → v.1 6 (90 + j) = 0) → ∃ w, fX10_standsAsAlways_2 N 90 (nI k) v = some ((), sI w 6 93 (-1)) ∧ (∀ j, j < 90 → w.1 6 (90 + j) = 0) ∧ Fr (fun a k => a = 6 ∧ 90 ≤ k) v w := by
  intro d
  induction d with
  | zero =>
    intro k N v hd hN h
    obtain ⟨N, rfl⟩ : ∃ m, N = m + 1 := ⟨N - 1, by omega⟩
    have ek : k = 90 := by omega
    subst ek
    refine ⟨v, ?_, h, Fr.rfl'⟩
    rw [fX10_standsAsAlways_2]
    simp only [show (nI 90 < 90) = False from eq_false (by decide +kernel), i10, i00, decide_true, decide_false, cnd_t, cnd_f, gd_nil, gd_t, b1_0, b1_1, sw_nil, sw_cons, obs, show (90 : Int32) + 3 = 93 by decide +kernel, show ab_ix 93 180 = true by decide +kernel, show nc (93 : Int32) = 93 by decide +kernel]
  | succ d ih =>
    intro k N v hd hN h
    obtain ⟨N, rfl⟩ : ∃ m, N = m + 1 := ⟨N - 1, by omega⟩
    obtain ⟨w, w1, w2, w3⟩ := ih (k + 1) N (sI v 6 (90 + k) 0) (by omega) (by omega) (fun j hj => by
      by_cases e : j = k
      · subst e; rw [sI_at, if_pos ⟨rfl, rfl⟩]
      · rw [sI_at, if_neg (by omega)]; exact h j (by omega))
    refine ⟨w, ?_, w2, (Fr.sI ⟨rfl, by omega⟩).trans w3⟩
    rw [fX10_standsAsAlways_2, ← w1]
    simp (disch := first | omega | decide) only [i10, i00, decide_true, decide_false, cnd_t, cnd_f, gd_nil, gd_t, b1_0, b1_1, sw_nil, sw_cons, obs, Nat.not_lt_zero, nI_addo, nI_oadd, nI_add, nI_mulo, nI_omul, nI_mul, nI_lto, nI_leo, nI_olt, nI_ole, nI_eqo, nI_oeq, nI_lt2, nI_le2, nI_eq2, nI_nm1, nI_m1n, nI_lt0, nI_lem1, nc_nI, nc_o, ix_nI, ix_o, show k < 90 by omega, show (90 : Int32) + nI k = nI (90 + k) from nI_add 90 k]
theorem m_always (v : ab_S) : ∃ w, fX10_standsAsAlways 90 v = some ((), w) ∧ (∀ j, j < 90 → j ≠ 3 → w.1 6 (90 + j) = 0) ∧ w.1 6 93 = -1 ∧ Fr (fun a k => a = 6 ∧ 90 ≤ k) v w := by
  obtain ⟨w, w1, w2, w3⟩ := m_always2 90 0 fu v rfl (by decide) (fun j hj => absurd hj (Nat.not_lt_zero j))
  refine ⟨_, w1, fun j hj hn => ?_, by rw [sI_at, if_pos ⟨rfl, rfl⟩], w3.trans (Fr.sI ⟨rfl, by decide⟩)⟩
  rw [sI_at, if_neg (by omega)]
  exact w2 j hj
-- ===== the reference takes it =====
def dKp (a k : Nat) : Prop := (a = 6 ∧ k < 90) ∨ ((a = 7 ∨ a = 8) ∧ k < 1100) ∨ a = 9 ∨ a = 11
theorem m_off153 {m : Nat} (hm : m ≤ 14) : ∀ d k N (v : ab_S), v.1 0 19 = nI m → k + d = m → d < N → (∀ j, j < k → v.2.1 9 j = v.2.1 10 j ∧ v.1 11 j = v.1 12 j) → ∃ w, fX10_office_153 N (nI k) v = ((fX10_begins (sI w 0 18 (nI m))).bind fun q1 => some (0, q1.2)) ∧ (∀ j, j < m → w.2.1 9 j = v.2.1 10 j ∧ w.1 11 j = v.1 12 j) ∧ Fr (fun a _ => a = 9 ∨ a = 11) v w := by
  intro d
  induction d with
  | zero =>
    intro k N v hv hd hN h
    obtain ⟨N, rfl⟩ : ∃ m, N = m + 1 := ⟨N - 1, by omega⟩
    have ek : k = m := by omega
    subst ek
    refine ⟨v, ?_, h, Fr.rfl'⟩
    rw [fX10_office_153, hv]
    simp (disch := first | omega | decide) only [nI_lt2, Nat.lt_irrefl, decide_false, cnd_f]
  | succ d ih =>
    intro k N v hv hd hN h
    obtain ⟨N, rfl⟩ : ∃ m, N = m + 1 := ⟨N - 1, by omega⟩
    have fr : Fr (fun a _ => a = 9 ∨ a = 11) v (sI (sJ v 9 k (v.2.1 10 k)) 11 k (v.1 12 k)) := (Fr.sJ (Or.inl rfl)).trans (Fr.sI (Or.inr rfl))
    obtain ⟨w, w1, w2, w3⟩ := ih (k + 1) N (sI (sJ v 9 k (v.2.1 10 k)) 11 k (v.1 12 k)) (by rw [fr.1 _ _ (by omega)]; exact hv) (by omega) (by omega) (fun j hj => by
      rw [fr.2.1 10 j (by omega), fr.1 12 j (by omega)]
      by_cases e : j = k
      · subst e
        refine ⟨?_, ?_⟩
        · show (sJ v 9 j (v.2.1 10 j)).2.1 9 j = _
          rw [sJ_at, if_pos ⟨rfl, rfl⟩]
        · rw [sI_at, if_pos ⟨rfl, rfl⟩]
      · refine ⟨?_, ?_⟩
        · show (sJ v 9 k (v.2.1 10 k)).2.1 9 j = _
          rw [sJ_at, if_neg (by omega)]
          exact (h j (by omega)).1
        · rw [sI_at, if_neg (by omega)]
          exact (h j (by omega)).2)
    refine ⟨w, ?_, fun j hj => ?_, fr.trans w3⟩
    · rw [fX10_office_153, ← w1, hv]
      simp (disch := first | omega | decide) only [i10, i00, decide_true, decide_false, cnd_t, cnd_f, gd_nil, gd_t, b1_0, b1_1, sw_nil, sw_cons, obs, Nat.not_lt_zero, nI_addo, nI_oadd, nI_add, nI_mulo, nI_omul, nI_mul, nI_lto, nI_leo, nI_olt, nI_ole, nI_eqo, nI_oeq, nI_lt2, nI_le2, nI_eq2, nI_nm1, nI_m1n, nI_lt0, nI_lem1, nc_nI, nc_o, ix_nI, ix_o, show k < m by omega, sJ_i]
    · have := w2 j hj
      rw [fr.2.1 10 j (by omega), fr.1 12 j (by omega)] at this
      exact this
theorem m_off105 {m : Nat} (hm : m ≤ 1050) : ∀ d k N (v : ab_S), v.1 0 13 = nI m → k + d = m → d < N → (∀ j, j < k → v.1 7 j = v.1 7 (1100 + j) ∧ v.1 8 j = v.1 8 (1100 + j)) → ∃ w, fX10_office_105 N (nI k) v = fX10_office_153 fu 0 w ∧ (∀ j, j < m → w.1 7 j = v.1 7 (1100 + j) ∧ w.1 8 j = v.1 8 (1100 + j)) ∧ Fr (fun a k => (a = 7 ∨ a = 8) ∧ k < 1100) v w := by
  intro d
  induction d with
  | zero =>
    intro k N v hv hd hN h
    obtain ⟨N, rfl⟩ : ∃ m, N = m + 1 := ⟨N - 1, by omega⟩
    have ek : k = m := by omega
    subst ek
    refine ⟨v, ?_, h, Fr.rfl'⟩
    rw [fX10_office_105, hv]
    simp (disch := first | omega | decide) only [nI_lt2, Nat.lt_irrefl, decide_false, cnd_f]
  | succ d ih =>
    intro k N v hv hd hN h
    obtain ⟨N, rfl⟩ : ∃ m, N = m + 1 := ⟨N - 1, by omega⟩
    have fr : Fr (fun a k => (a = 7 ∨ a = 8) ∧ k < 1100) v (sI (sI v 7 k (v.1 7 (1100 + k))) 8 k (v.1 8 (1100 + k))) := (Fr.sI ⟨Or.inl rfl, by omega⟩).trans (Fr.sI ⟨Or.inr rfl, by omega⟩)
    obtain ⟨w, w1, w2, w3⟩ := ih (k + 1) N (sI (sI v 7 k (v.1 7 (1100 + k))) 8 k (v.1 8 (1100 + k))) (by rw [fr.1 _ _ (by omega)]; exact hv) (by omega) (by omega) (fun j hj => by
      rw [fr.1 7 (1100 + j) (by omega), fr.1 8 (1100 + j) (by omega)]
      by_cases e : j = k
      · subst e
        refine ⟨?_, ?_⟩
        · rw [sI_at, if_neg (by omega), sI_at, if_pos ⟨rfl, rfl⟩]
        · rw [sI_at, if_pos ⟨rfl, rfl⟩]
      · refine ⟨?_, ?_⟩
        · rw [sI_at, if_neg (by omega), sI_at, if_neg (by omega)]
          exact (h j (by omega)).1
        · rw [sI_at, if_neg (by omega), sI_at, if_neg (by omega)]
          exact (h j (by omega)).2)
    refine ⟨w, ?_, fun j hj => ?_, fr.trans w3⟩
    · have e8 : (sI v 7 k (v.1 7 (1100 + k))).1 8 (1100 + k) = v.1 8 (1100 + k) := by rw [sI_at, if_neg (by omega)]
      rw [fX10_office_105, ← w1, hv]
      simp (disch := first | omega | decide) only [i10, i00, decide_true, decide_false, cnd_t, cnd_f, gd_nil, gd_t, b1_0, b1_1, sw_nil, sw_cons, obs, Nat.not_lt_zero, nI_addo, nI_oadd, nI_add, nI_mulo, nI_omul, nI_mul, nI_lto, nI_leo, nI_olt, nI_ole, nI_eqo, nI_oeq, nI_lt2, nI_le2, nI_eq2, nI_nm1, nI_m1n, nI_lt0, nI_lem1, nc_nI, nc_o, ix_nI, ix_o, show k < m by omega, show (1100 : Int32) + nI k = nI (1100 + k) from nI_add 1100 k, e8]
    · have := w2 j hj
      rw [fr.1 7 (1100 + j) (by omega), fr.1 8 (1100 + j) (by omega)] at this
      exact this
theorem m_off76 : ∀ d k N (v : ab_S), k + d = 90 → d < N → (∀ j, j < k → v.1 6 j = v.1 6 (90 + j)) → ∃ w, fX10_office_76 N (nI k) v = fX10_office_105 fu 0 w ∧ (∀ j, j < 90 → w.1 6 j = v.1 6 (90 + j)) ∧ Fr (fun a k => a = 6 ∧ k < 90) v w := by
  intro d
  induction d with
  | zero =>
    intro k N v hd hN h
    obtain ⟨N, rfl⟩ : ∃ m, N = m + 1 := ⟨N - 1, by omega⟩
    have ek : k = 90 := by omega
    subst ek
    refine ⟨v, ?_, h, Fr.rfl'⟩
    rw [fX10_office_76]
    simp only [show (nI 90 < 90) = False from eq_false (by decide +kernel), decide_false, cnd_f]
  | succ d ih =>
    intro k N v hd hN h
    obtain ⟨N, rfl⟩ : ∃ m, N = m + 1 := ⟨N - 1, by omega⟩
    have fr : Fr (fun a k => a = 6 ∧ k < 90) v (sI v 6 k (v.1 6 (90 + k))) := Fr.sI ⟨rfl, by omega⟩
    obtain ⟨w, w1, w2, w3⟩ := ih (k + 1) N (sI v 6 k (v.1 6 (90 + k))) (by omega) (by omega) (fun j hj => by
      rw [fr.1 6 (90 + j) (by omega)]
      by_cases e : j = k
      · subst e
        rw [sI_at, if_pos ⟨rfl, rfl⟩]
      · rw [sI_at, if_neg (by omega)]
        exact h j (by omega))
    refine ⟨w, ?_, fun j hj => ?_, fr.trans w3⟩
    · rw [fX10_office_76, ← w1]
      simp (disch := first | omega | decide) only [i10, i00, decide_true, decide_false, cnd_t, cnd_f, gd_nil, gd_t, b1_0, b1_1, sw_nil, sw_cons, obs, Nat.not_lt_zero, nI_addo, nI_oadd, nI_add, nI_mulo, nI_omul, nI_mul, nI_lto, nI_leo, nI_olt, nI_ole, nI_eqo, nI_oeq, nI_lt2, nI_le2, nI_eq2, nI_nm1, nI_m1n, nI_lt0, nI_lem1, nc_nI, nc_o, ix_nI, ix_o, show k < 90 by omega, show (90 : Int32) + nI k = nI (90 + k) from nI_add 90 k]
    · have := w2 j hj
      rw [fr.1 6 (90 + j) (by omega)] at this
      exact this
theorem m_begins27 : ∀ d k N (v : ab_S), k + d = 4 → d < N → (∀ j, j < k → v.1 17 j = 0) → ∃ w, fX10_begins_27 N (nI k) v = some ((), w) ∧ (∀ j, j < 4 → w.1 17 j = 0) ∧ Fr (fun a _ => a = 17) v w := by
  intro d
  induction d with
  | zero =>
    intro k N v hd hN h
    obtain ⟨N, rfl⟩ : ∃ m, N = m + 1 := ⟨N - 1, by omega⟩
    have ek : k = 4 := by omega
    subst ek
    refine ⟨v, ?_, h, Fr.rfl'⟩
    rw [fX10_begins_27]
    simp only [show (nI 4 < 4) = False from eq_false (by decide +kernel), decide_false, cnd_f]
  | succ d ih =>
    intro k N v hd hN h
    obtain ⟨N, rfl⟩ : ∃ m, N = m + 1 := ⟨N - 1, by omega⟩
    obtain ⟨w, w1, w2, w3⟩ := ih (k + 1) N (sI v 17 k 0) (by omega) (by omega) (fun j hj => by
      by_cases e : j = k
      · subst e; rw [sI_at, if_pos ⟨rfl, rfl⟩]
      · rw [sI_at, if_neg (by omega)]; exact h j (by omega))
    refine ⟨w, ?_, w2, Fr.trans (D := fun a _ => a = 17) (Fr.sI rfl) w3⟩
    rw [fX10_begins_27, ← w1]
    simp (disch := first | omega | decide) only [i10, i00, decide_true, decide_false, cnd_t, cnd_f, gd_nil, gd_t, b1_0, b1_1, sw_nil, sw_cons, obs, Nat.not_lt_zero, nI_addo, nI_oadd, nI_add, nI_mulo, nI_omul, nI_mul, nI_lto, nI_leo, nI_olt, nI_ole, nI_eqo, nI_oeq, nI_lt2, nI_le2, nI_eq2, nI_nm1, nI_m1n, nI_lt0, nI_lem1, nc_nI, nc_o, ix_nI, ix_o, show k < 4 by omega]
theorem c_open34 : ∀ d k N (u : ab_S), k + d = 4 → d < N → (∀ j, j < k → u.1 149 j = 0) → ∃ w, fX9_openOffice_34 N (nI k) u = some ((), sI w 154 0 0) ∧ (∀ j, j < 4 → w.1 149 j = 0) ∧ Fr (fun a _ => a = 149) u w := by
  intro d
  induction d with
  | zero =>
    intro k N u hd hN h
    obtain ⟨N, rfl⟩ : ∃ m, N = m + 1 := ⟨N - 1, by omega⟩
    have ek : k = 4 := by omega
    subst ek
    refine ⟨u, ?_, h, Fr.rfl'⟩
    rw [fX9_openOffice_34]
    simp only [show (nI 4 < 4) = False from eq_false (by decide +kernel), i10, i00, decide_true, decide_false, cnd_t, cnd_f, gd_nil, gd_t, b1_0, b1_1, sw_nil, sw_cons, obs]
  | succ d ih =>
    intro k N u hd hN h
    obtain ⟨N, rfl⟩ : ∃ m, N = m + 1 := ⟨N - 1, by omega⟩
    obtain ⟨w, w1, w2, w3⟩ := ih (k + 1) N (sI u 149 k 0) (by omega) (by omega) (fun j hj => by
      by_cases e : j = k
      · subst e; rw [sI_at, if_pos ⟨rfl, rfl⟩]
      · rw [sI_at, if_neg (by omega)]; exact h j (by omega))
    refine ⟨w, ?_, w2, Fr.trans (D := fun a _ => a = 149) (Fr.sI rfl) w3⟩
    rw [fX9_openOffice_34, ← w1]
    simp (disch := first | omega | decide) only [i10, i00, decide_true, decide_false, cnd_t, cnd_f, gd_nil, gd_t, b1_0, b1_1, sw_nil, sw_cons, obs, Nat.not_lt_zero, nI_addo, nI_oadd, nI_add, nI_mulo, nI_omul, nI_mul, nI_lto, nI_leo, nI_olt, nI_ole, nI_eqo, nI_oeq, nI_lt2, nI_le2, nI_eq2, nI_nm1, nI_m1n, nI_lt0, nI_lem1, nc_nI, nc_o, ix_nI, ix_o, show k < 4 by omega]
end PU
/-! an office told: the step -/
section PU
variable {u v u' v' : ab_S} {n T i o np ng : Nat} {g : Nat → Nat → Int32} {cs : List Int32} {Z : dZ} {s : Nat → Int32}
theorem nmR.move (h : nmR np ng o 10 12 u v) (h1 : ∀ p, p < np → u'.2.1 (o + 1) p = u.2.1 (o + 1) p) (h2 : ∀ k, k < ng → u'.2.1 (o + 2) k = u.2.1 (o + 2) k) (hv : ∀ j, j < np + ng → v'.2.1 9 j = v.2.1 10 j ∧ v'.1 11 j = v.1 12 j) : nmR np ng o 9 11 u' v' := by
  obtain ⟨a1, a2, a3, a4, a5, a6⟩ := h
  refine ⟨fun j hj => ?_, fun p hp => ?_, fun k hk => ?_, fun p q hp hq e => ?_, fun p q hp hq e => ?_, fun p q hp hq e => ?_⟩
  · obtain ⟨e1, e2⟩ := hv j hj
    obtain ⟨p, p1, p2, p3⟩ | ⟨k, k1, k2, k3⟩ := a1 j hj
    · exact Or.inl ⟨p, p1, e2.trans p2, by rw [h1 p p1, e1]; exact p3⟩
    · exact Or.inr ⟨k, k1, e2.trans k2, by rw [h2 k k1, e1]; exact k3⟩
  · obtain ⟨j, j1, j2⟩ := a2 p hp
    exact ⟨j, j1, (hv j j1).2.trans j2⟩
  · obtain ⟨j, j1, j2⟩ := a3 k hk
    exact ⟨j, j1, (hv j j1).2.trans j2⟩
  · rw [h1 p hp, h1 q hq] at e
    exact a4 p q hp hq e
  · rw [h2 p hp, h2 q hq] at e
    exact a5 p q hp hq e
  · rw [h1 p hp, h2 q hq] at e
    exact a6 p q hp hq e
-- the reference begins anew
theorem m_begins (hE : pE Z) (hm : pm_O Z v) : ∃ w, fX10_begins v = some ((), w) ∧ pm_S 0 (s0 Z) w ∧ w.1 16 22 = 0 ∧ w.1 13 0 = 0 ∧ w.1 0 25 = 0 ∧ (∀ j, j < 4 → w.1 17 j = 0) ∧ Fr (fun a k => a = 13 ∨ a = 14 ∨ a = 15 ∨ a = 16 ∨ a = 17 ∨ (a = 0 ∧ k = 25)) v w := by
  obtain ⟨v1, q1, q2, q3⟩ := m_start (b := 0) hE (by decide) hm
  have q1' : fX10_starts 0 v = some ((), v1) := q1
  obtain ⟨w, w1, w2, w3⟩ := m_begins27 4 0 fu (sI (sI (sI v1 16 22 0) 13 0 0) 0 25 0) rfl (by decide) (fun j hj => absurd hj (Nat.not_lt_zero j))
  have w1' : fX10_begins_27 fu 0 (sI (sI (sI v1 16 22 0) 13 0 0) 0 25 0) = some ((), w) := w1
  refine ⟨w, ?_, fun k hk => ?_, ?_, ?_, ?_, w2, ?_⟩
  · unfold fX10_begins
    rw [q1']
    simp only [obs, show ab_ix 22 1081 = true by decide +kernel, show ab_ix 0 250 = true by decide +kernel, show nc (22 : Int32) = 22 by decide +kernel, show nc (0 : Int32) = 0 by decide +kernel, i10, i00, decide_true, decide_false, cnd_t, cnd_f, gd_nil, gd_t, b1_0, b1_1, sw_nil, sw_cons, obs, w1']
  · rw [w3.1 _ _ (by omega), sI_at, if_neg (by omega), sI_at, if_neg (by omega), sI_at, if_neg (by omega)]
    exact q3 k hk
  · rw [w3.1 _ _ (by omega)]
    simp only [sI_at, sI_l, sJ_at, sJ_i, sJ_m, sM_at, sM_i, sM_l, Nat.reduceEqDiff, false_and, and_false, true_and, and_true, and_self, if_false, if_true, ite_false, ite_true]
  · rw [w3.1 _ _ (by omega)]
    simp only [sI_at, sI_l, sJ_at, sJ_i, sJ_m, sM_at, sM_i, sM_l, Nat.reduceEqDiff, false_and, and_false, true_and, and_true, and_self, if_false, if_true, ite_false, ite_true]
  · rw [w3.1 _ _ (by omega)]
    simp only [sI_at, sI_l, sJ_at, sJ_i, sJ_m, sM_at, sM_i, sM_l, Nat.reduceEqDiff, false_and, and_false, true_and, and_true, and_self, if_false, if_true, ite_false, ite_true]
  · have fa : ∀ {w : ab_S} {a k : Nat} {x : Int32}, (a = 13 ∨ a = 14 ∨ a = 15 ∨ a = 16 ∨ a = 17 ∨ (a = 0 ∧ k = 25)) → Fr (fun a k => a = 13 ∨ a = 14 ∨ a = 15 ∨ a = 16 ∨ a = 17 ∨ (a = 0 ∧ k = 25)) w (sI w a k x) := fun h => Fr.sI h
    exact (q2.mono fun a k z => by omega).trans ((fa (by omega)).trans ((fa (by omega)).trans ((fa (by omega)).trans (w3.mono fun a k z => by omega))))
-- the class opens it
theorem c_open (hE : pE Z) (ho : u.2.2 0 + 12 ≤ 38) (hO : pc_O Z (u.2.2 0) u) (hy : u.2.2 2 = 30 ∨ u.2.2 2 = 34) : ∃ w, fX9_openOffice u = some ((), w) ∧ pc_S 38 (s0 Z) w ∧ w.1 (u.2.2 2) 0 = 0 ∧ w.1 46 3 = 0 ∧ w.1 0 10 = 0 ∧ (∀ j, j < 4 → w.1 149 j = 0) ∧ w.1 154 0 = 0 ∧ Fr (fun a k => (30 ≤ a ∧ a < 42) ∨ a = 46 ∨ (a = 0 ∧ k = 10) ∨ a = 149 ∨ a = 154) u w := by
  obtain ⟨u1, q1, q2, q3⟩ := c_start (o := 38) hE ho hO
  have e2 : u1.2.2 = u.2.2 := q2.2.2
  obtain ⟨w, w1, w2, w3⟩ := c_open34 4 0 fu (sI (sI (sI u1 (u.2.2 2) 0 0) 46 3 0) 0 10 0) rfl (by decide) (fun j hj => absurd hj (Nat.not_lt_zero j))
  have w1' : fX9_openOffice_34 fu 0 (sI (sI (sI u1 (u.2.2 2) 0 0) 46 3 0) 0 10 0) = some ((), sI w 154 0 0) := w1
  have fa : ∀ {w : ab_S} {a k : Nat} {x : Int32}, ((30 ≤ a ∧ a < 42) ∨ a = 46 ∨ (a = 0 ∧ k = 10) ∨ a = 149 ∨ a = 154) → Fr (fun a k => (30 ≤ a ∧ a < 42) ∨ a = 46 ∨ (a = 0 ∧ k = 10) ∨ a = 149 ∨ a = 154) w (sI w a k x) := fun h => Fr.sI h
  have F1 : Fr (fun a k => a = 30 ∨ a = 34 ∨ a = 46 ∨ (a = 0 ∧ k = 10) ∨ a = 149 ∨ a = 154) u1 (sI w 154 0 0) := by
    have fb : ∀ {w : ab_S} {a k : Nat} {x : Int32}, (a = 30 ∨ a = 34 ∨ a = 46 ∨ (a = 0 ∧ k = 10) ∨ a = 149 ∨ a = 154) → Fr (fun a k => a = 30 ∨ a = 34 ∨ a = 46 ∨ (a = 0 ∧ k = 10) ∨ a = 149 ∨ a = 154) w (sI w a k x) := fun h => Fr.sI h
    exact (fb (by omega)).trans ((fb (by omega)).trans ((fb (by omega)).trans ((w3.mono fun a k z => by omega).trans (fb (by omega)))))
  refine ⟨sI w 154 0 0, ?_, q3.fr F1 (fun a k a1 a2 z => by omega), ?_, ?_, ?_, fun j hj => ?_, by rw [sI_at, if_pos ⟨rfl, rfl⟩], (q2.mono fun a k z => by omega).trans (F1.mono fun a k z => by omega)⟩
  · unfold fX9_openOffice
    rw [q1]
    simp only [obs, e2, w1']
  · rw [sI_at, if_neg (by omega), w3.1 _ _ (by omega), sI_at, if_neg (by omega), sI_at, if_neg (by omega), sI_at, if_pos ⟨rfl, rfl⟩]
  · rw [sI_at, if_neg (by omega), w3.1 _ _ (by omega), sI_at, if_neg (by omega), sI_at, if_pos ⟨rfl, rfl⟩]
  · rw [sI_at, if_neg (by omega), w3.1 _ _ (by omega), sI_at, if_pos ⟨rfl, rfl⟩]
  · rw [sI_at, if_neg (by omega)]
    exact w2 j hj
theorem i_S1 (u v : ab_S) (h : Inv u v) : ∃ (r : Int32) (u1 v1 : ab_S), fX9_office u = some (r, u1) ∧ fX10_office v = some (r, v1) ∧ Inv u1 v1 := by
  obtain ⟨Z, s, h⟩ := h
  have h := h.th
  have h' := h
  obtain ⟨⟨hE, hO, ho, hM, hc, hs, hv1⟩, -, hse, hun, -, -, hNm, hW, hT, hR1, hR2⟩ := h'
  obtain ⟨n, T, u1, v1, q1, q2, q3, q4, q5, q6⟩ := p_cut hT hW
  have er : u1.2.2 = u.2.2 := q5.2.2
  have ho6 : u.2.2 1 = 6 ∨ u.2.2 1 = 18 := by omega
  have hT1 : T ≤ 1000 := Nat.le_trans q3.1.1 q3.1.2.1
  obtain ⟨u2, c1, c2, c3, c4, c5, c6, c7, c8, c9, c10, c11, c12⟩ := c_clear ho6 u1
  obtain ⟨v3, d1, d2, d3, d4⟩ := m_always (sI (sI (sI v1 0 13 0) 0 19 0) 0 20 0)
  have gA : Fr (fun a k => (a = 0 ∧ (k = 13 ∨ k = 19 ∨ k = 20)) ∨ (a = 6 ∧ 90 ≤ k)) v1 v3 := by
    have fb : ∀ {w : ab_S} {a k : Nat} {x : Int32}, ((a = 0 ∧ (k = 13 ∨ k = 19 ∨ k = 20)) ∨ (a = 6 ∧ 90 ≤ k)) → Fr (fun a k => (a = 0 ∧ (k = 13 ∨ k = 19 ∨ k = 20)) ∨ (a = 6 ∧ 90 ≤ k)) w (sI w a k x) := fun h => Fr.sI h
    exact (fb (by omega)).trans ((fb (by omega)).trans ((fb (by omega)).trans (d4.mono fun a k z => Or.inr z)))
  have hr2 : pR n T 0 u2 v3 := q3.fr c12 gA (fun a k z q => by unfold oPu at z; omega) (fun a k z q => by unfold oPv at z; omega)
  have k13 : v3.1 0 13 = 0 := by rw [d4.1 _ _ (by omega)]; simp only [sI_at, sI_l, sJ_at, sJ_i, sJ_m, sM_at, sM_i, sM_l, Nat.reduceEqDiff, false_and, and_false, true_and, and_true, and_self, if_false, if_true, ite_false, ite_true]
  have k19 : v3.1 0 19 = 0 := by rw [d4.1 _ _ (by omega)]; simp only [sI_at, sI_l, sJ_at, sJ_i, sJ_m, sM_at, sM_i, sM_l, Nat.reduceEqDiff, false_and, and_false, true_and, and_true, and_self, if_false, if_true, ite_false, ite_true]
  have k20 : v3.1 0 20 = 0 := by rw [d4.1 _ _ (by omega)]; simp only [sI_at, sI_l, sJ_at, sJ_i, sJ_m, sM_at, sM_i, sM_l, Nat.reduceEqDiff, false_and, and_false, true_and, and_true, and_self, if_false, if_true, ite_false, ite_true]
  have hq : ofR 0 0 (u.2.2 1) u2 v3 := by
    refine ⟨by decide, by decide, c2, c3, d2 0 (by decide) (by decide), d2 1 (by decide) (by decide), k19, ?_, fun p hp => absurd hp (Nat.not_lt_zero p), fun p hp => absurd hp (Nat.not_lt_zero p), fun p hp => absurd hp (Nat.not_lt_zero p), fun p hp => absurd hp (Nat.not_lt_zero p), fun p hp k hk => ⟨0, by decide, c4 _ (by omega), ?_⟩, ⟨false, false, c6, c7, k20⟩, ⟨0, by decide, c5, d2 2 (by decide) (by decide)⟩⟩
    · exact ⟨fun j hj => absurd hj (Nat.not_lt_zero j), fun p hp => absurd hp (Nat.not_lt_zero p), fun p hp => absurd hp (Nat.not_lt_zero p), fun p q hp => absurd hp (Nat.not_lt_zero p), fun p q hp => absurd hp (Nat.not_lt_zero p), fun p q hp => absurd hp (Nat.not_lt_zero p)⟩
    · have := d2 (32 + 8 * p + k) (by omega) (by omega)
      rw [show 122 + 8 * p + k = 90 + (32 + 8 * p + k) by omega]
      exact this
  have hl : LW (u.2.2 1) u2 v3 := Or.inl ⟨c7, d3, k13, c8, c9, c10, c11⟩
  have ecl : ∀ r, fX2_readLines_6 (u.2.2 1) fu 0 u2 = some r → fX9_office u = (bif decide (r.1 = 0) then ((fX9_openOffice (sM (sM r.2 0 (r.2.2.2 1)) 1 (r.2.2.2 0))).bind fun q3 => some (0, q3.2)) else some (r.1, r.2)) := by
    intro r hr
    unfold fX9_office fX2_readLines
    rw [q1]
    simp only [obs, er, c1, hr]
  have emo : fX10_office v = fX10_office_30 fu v3 := by
    unfold fX10_office
    rw [q2]
    simp only [obs, d1]
  have F2 : Fr (fun a k => dKu a k ∨ (u.2.2 1 ≤ a ∧ a < u.2.2 1 + 12)) u u2 := (q5.mono fun a k z => Or.inl z).trans (c12.mono fun a k z => Or.inr z)
  have G2 : Fr rdV (sI v 0 0 0) v3 := (q6.mono fun a k z => by unfold dKv at z; unfold rdV; omega).trans (gA.mono fun a k z => by unfold rdV; omega)
  rw [emo]
  obtain ⟨u4, v4, np, ng, z1, z2, z3, z4, z5, z6, z7⟩ | ⟨f, u4, v4, z1, z2, z3, z4, z5, z6⟩ := o_loop ho6 T 0 0 fu fu 0 0 u2 v3 (by omega) (show T < 5000 by omega) (show T + 1 < 5000 by omega) hr2 hq hl (Nat.le_refl 0)
  · obtain ⟨hp6, hg8, o1, o2, w90, w91, hcn, hN, r1, r2, r3, r4, r5, r6, ⟨gg, r7, r71, r72⟩⟩ := z4
    -- what the reference takes
    have em62 : fX10_office_62 v4 = fX10_office_76 fu 0 v4 := by
      unfold fX10_office_62
      simp only [z3, show ((0 : Int32) ≤ 0) = True from eq_true (by decide +kernel), i10, i00, decide_true, decide_false, cnd_t, cnd_f, gd_nil, gd_t, b1_0, b1_1, sw_nil, sw_cons, obs]
    obtain ⟨v5, a1, a2, a3⟩ := m_off76 90 0 fu v4 rfl (by decide) (fun j hj => absurd hj (Nat.not_lt_zero j))
    have hcd : ∃ m, m ≤ 1001 ∧ v4.1 0 13 = nI m ∧ ∃ cs : List Int32, u4.1 (u.2.2 1 + 8) 1 = nI cs.length ∧ (∀ i, i < cs.length → u4.1 (u.2.2 1 + 9) i = cs.getD i 0) ∧ ((v4.1 6 93 = -1 ∧ cs = [-1, -3, -10]) ∨ (v4.1 6 93 = 0 ∧ m = cs.length + 1 ∧ cs.length ≤ 1000 ∧ sgm 30 cs ∧ (∀ i, i < cs.length → cE (cs.getD i 0) (v4.1 7 (1100 + i)) (v4.1 8 (1100 + i))) ∧ v4.1 7 (1100 + cs.length) = 0)) := by
      obtain ⟨l1, l2, l3, l4, l5, l6, l7⟩ | ⟨l1, l2, cs, l3, l4, l5, l6, l7, l8⟩ := z5
      · refine ⟨0, by decide, l3, [-1, -3, -10], l4, fun i hi => ?_, Or.inl ⟨l2, rfl⟩⟩
        have hi3 : i < 3 := hi
        obtain e | e | e : i = 0 ∨ i = 1 ∨ i = 2 := by omega
        · subst e; exact l5
        · subst e; exact l6
        · subst e; exact l7
      · exact ⟨cs.length + 1, by omega, l6, cs, l5, fun i hi => (l7 i hi).1, Or.inr ⟨l2, rfl, l3, l4, fun i hi => (l7 i hi).2, l8⟩⟩
    obtain ⟨m, m1, m2, cs, m3, m4, m5⟩ := hcd
    obtain ⟨v6, b1, b2, b3⟩ := m_off105 (show m ≤ 1050 by omega) m 0 fu v5 (by rw [a3.1 _ _ (by omega)]; exact m2) (Nat.zero_add m) (show m < 5000 by omega) (fun j hj => absurd hj (Nat.not_lt_zero j))
    obtain ⟨v7, e1, e2, e3⟩ := m_off153 (show np + ng ≤ 14 by omega) (np + ng) 0 fu v6 (by rw [b3.1 _ _ (by omega), a3.1 _ _ (by omega)]; exact hcn) (Nat.zero_add _) (show np + ng < 5000 by omega) (fun j hj => absurd hj (Nat.not_lt_zero j))
    have g8 : Fr (fun a k => a = 0 ∧ k = 18) v7 (sI v7 0 18 (nI (np + ng))) := Fr.sI ⟨rfl, rfl⟩
    have t6 : ∀ k, k < 90 → (sI v7 0 18 (nI (np + ng))).1 6 k = v4.1 6 (90 + k) := fun k hk => by
      rw [g8.1 _ _ (by omega), e3.1 _ _ (by omega), b3.1 _ _ (by omega)]
      exact a2 k hk
    have t7 : ∀ j, j < m → (sI v7 0 18 (nI (np + ng))).1 7 j = v4.1 7 (1100 + j) ∧ (sI v7 0 18 (nI (np + ng))).1 8 j = v4.1 8 (1100 + j) := fun j hj => by
      have := b2 j hj
      rw [a3.1 7 (1100 + j) (by omega), a3.1 8 (1100 + j) (by omega)] at this
      rw [g8.1 _ _ (by omega), e3.1 _ _ (by omega), g8.1 8 _ (by omega), e3.1 8 _ (by omega)]
      exact this
    have hLC : LCS cs (sI v7 0 18 (nI (np + ng))).1 := by
      obtain ⟨l1, l2⟩ | ⟨l1, l2, l3, l4, l5, l6⟩ := m5
      · exact Or.inl ⟨(t6 3 (by decide)).trans l1, l2⟩
      · refine Or.inr ⟨(t6 3 (by decide)).trans l1, l3, l4, fun i hi => ?_, ?_⟩
        · rw [(t7 i (by omega)).1, (t7 i (by omega)).2]
          exact l5 i hi
        · rw [(t7 cs.length (by omega)).1]
          exact l6
    have hB : BHS (u.2.2 1) np ng (sI v7 0 18 (nI (np + ng))).1 cs u4 := by
      refine ⟨o1, o2, fun k hk => ?_, fun k hk => ?_, fun p hp k hk => ?_, m3, m4⟩
      · obtain ⟨c, -, x1, x2⟩ := r3 k hk
        rw [t6 _ (by omega), x1, show 90 + (16 + 2 * k) = 106 + 2 * k by omega, x2]
      · obtain ⟨c, -, x1, x2⟩ := r4 k hk
        rw [t6 _ (by omega), x1, show 90 + (17 + 2 * k) = 107 + 2 * k by omega, x2]
      · obtain ⟨c, -, x1, x2⟩ := r5 p hp k hk
        rw [t6 _ (by omega), x1, show 90 + (32 + 8 * p + k) = 122 + 8 * p + k by omega, x2]
    obtain ⟨u5, f1, f2, f3⟩ := c_fits hp6 hg8 hLC.ok.2 hLC.ok.1 hB
    have hE' : pE (np, ng, (sI v7 0 18 (nI (np + ng))).1, FTS (sI v7 0 18 (nI (np + ng))).1 cs) := by
      refine ⟨hp6, hg8, (t6 0 (by decide)).trans w90, (t6 1 (by decide)).trans w91, fun k hk => ?_, fun p hp => ?_, ⟨gg, r7, (t6 2 (by decide)).trans r72⟩, fun p k j => clN_le _, m_fitL hp6 hg8 hLC⟩
      · have hk' : k < ng := hk
        obtain ⟨c, x0, x1, x2⟩ := r4 k hk'
        refine ⟨c, x0, ?_⟩
        have := t6 (17 + 2 * k) (by omega)
        rw [show 90 + (17 + 2 * k) = 107 + 2 * k by omega, x2] at this
        exact this
      · have hp' : p < np := hp
        obtain ⟨c, x0, x1, x2⟩ := r2 p hp'
        refine ⟨c, x0, ?_⟩
        have := t6 (5 + 2 * p) (by omega)
        rw [show 90 + (5 + 2 * p) = 95 + 2 * p by omega, x2] at this
        exact this
    have hO5 : pc_O (np, ng, (sI v7 0 18 (nI (np + ng))).1, FTS (sI v7 0 18 (nI (np + ng))).1 cs) (u.2.2 1) u5 := by
      refine ⟨(f3.1 _ _ (by unfold dWF; omega)).trans o1, (f3.1 _ _ (by unfold dWF; omega)).trans o2, ?_, fun p hp => ?_, fun p hp => ?_, fun k hk => ?_, fun k hk => ?_, fun p k j hp hk hj => f2 p k j hp hk hj⟩
      · exact (f3.1 _ _ (by unfold dWF; omega)).trans (r71.trans (((t6 2 (by decide)).trans r72).symm))
      · have hp' : p < np := hp
        refine (f3.1 _ _ (by unfold dWF; omega)).trans ((r1 p hp').trans ?_)
        have := t6 (4 + 2 * p) (by omega)
        rw [show 90 + (4 + 2 * p) = 94 + 2 * p by omega] at this
        exact this.symm
      · have hp' : p < np := hp
        obtain ⟨c, x0, x1, x2⟩ := r2 p hp'
        refine (f3.1 _ _ (by unfold dWF; omega)).trans (x1.trans ?_)
        have := t6 (5 + 2 * p) (by omega)
        rw [show 90 + (5 + 2 * p) = 95 + 2 * p by omega, x2] at this
        exact this.symm
      · exact (f3.1 _ _ (by unfold dWF; omega)).trans (hB.2.2.1 k hk)
      · exact (f3.1 _ _ (by unfold dWF; omega)).trans (hB.2.2.2.1 k hk)
    have F5 : Fr (fun a k => dKu a k ∨ (u.2.2 1 ≤ a ∧ a < u.2.2 1 + 12)) u u5 := F2.trans ((z6.mono fun a k z => by unfold dZu at z; unfold dKu; omega).trans (f3.mono fun a k z => by unfold dWF at z; omega))
    have e5 : u5.2.2 = u.2.2 := F5.2.2
    have es0 : (sM (sM u5 0 (u5.2.2 1)) 1 (u5.2.2 0)).2.2 0 = u.2.2 1 := by
      rw [sM_at, if_neg (by omega), sM_at, if_pos rfl, e5]
    have es1 : (sM (sM u5 0 (u5.2.2 1)) 1 (u5.2.2 0)).2.2 1 = u.2.2 0 := by
      rw [sM_at, if_pos rfl, e5]
    have es2 : (sM (sM u5 0 (u5.2.2 1)) 1 (u5.2.2 0)).2.2 2 = u.2.2 2 := by
      rw [sM_at, if_neg (by omega), sM_at, if_neg (by omega), e5]
    have es3 : (sM (sM u5 0 (u5.2.2 1)) 1 (u5.2.2 0)).2.2 3 = u.2.2 3 := by
      rw [sM_at, if_neg (by omega), sM_at, if_neg (by omega), e5]
    obtain ⟨u9, p1, p2, p3, p4, p5, p6, p7, p8⟩ := c_open (u := sM (sM u5 0 (u5.2.2 1)) 1 (u5.2.2 0)) hE' (by rw [es0]; omega) (by rw [es0]; exact hO5) (by rw [es2]; omega)
    obtain ⟨v9, j1, j2, j3, j4, j5, j6, j7⟩ := m_begins (v := sI v7 0 18 (nI (np + ng))) hE' ⟨fun _ _ => rfl, fun _ _ => rfl, fun _ _ => rfl⟩
    have e9 : u9.2.2 = (sM (sM u5 0 (u5.2.2 1)) 1 (u5.2.2 0)).2.2 := p8.2.2
    have uu : ∀ a k, ¬ dKu a k → ¬ (u.2.2 1 ≤ a ∧ a < u.2.2 1 + 12) → ¬ ((30 ≤ a ∧ a < 42) ∨ a = 46 ∨ (a = 0 ∧ k = 10) ∨ a = 149 ∨ a = 154) → u9.1 a k = u.1 a k := fun a k x1 x2 x3 => (p8.1 a k x3).trans (F5.1 a k (fun z => z.elim x1 x2))
    -- the names
    have hnm : nmR np ng (u.2.2 1) 9 11 u9 v9 := by
      refine hN.move (fun p hp => ?_) (fun k hk => ?_) (fun j hj => ?_)
      · rw [p8.2.1 _ _ (by omega)]
        exact f3.2.1 _ _ (by unfold dWF; omega)
      · rw [p8.2.1 _ _ (by omega)]
        exact f3.2.1 _ _ (by unfold dWF; omega)
      · have x := e2 j hj
        rw [b3.2.1 _ _ (by omega), a3.2.1 _ _ (by omega), b3.1 _ _ (by omega), a3.1 _ _ (by omega)] at x
        rw [j7.2.1 _ _ (by omega), j7.1 _ _ (by omega), g8.2.1 _ _ (by omega), g8.1 _ _ (by omega)]
        exact x
    have G4 : Fr (fun a k => rdV a k ∨ (a = 6 ∧ k < 90) ∨ a = 7 ∨ a = 8 ∨ a = 9 ∨ a = 11 ∨ (a = 0 ∧ k = 18) ∨ a = 13 ∨ a = 14 ∨ a = 15 ∨ a = 16 ∨ a = 17 ∨ (a = 0 ∧ k = 25)) (sI v 0 0 0) v9 := (G2.mono fun a k z => Or.inl z).trans ((z7.mono fun a k z => Or.inl (by unfold dZv dSv at z; unfold rdV; omega)).trans ((a3.mono fun a k z => Or.inr (by omega)).trans ((b3.mono fun a k z => Or.inr (by omega)).trans ((e3.mono fun a k z => Or.inr (by omega)).trans ((g8.mono fun a k z => Or.inr (by omega)).trans (j7.mono fun a k z => Or.inr (by omega)))))))
    have hun' := hun
    obtain ⟨-, ww, -, hw16, -, -, hw9, -⟩ := hun'
    have hTp : pTp u9 v9 := by
      have hA : pTp u2 v3 := q4.fr c12 gA (fun z => by omega) (fun k z => by omega) (fun z => by omega) (fun k z => by omega)
      have hB : pTp u5 v4 := hA.fr (z6.trans (f3.mono fun a k z => by unfold dWF at z; unfold dZu; omega)) z7 (fun z => by unfold dZu at z; omega) (fun k z => by unfold dZu at z; omega) (fun z => by unfold dZv dSv at z; omega) (fun k z => by unfold dZv dSv at z; omega)
      have gB : Fr (fun a k => (a = 6 ∨ a = 7 ∨ a = 8 ∨ a = 9 ∨ a = 11 ∨ (a = 0 ∧ k = 18) ∨ a = 13 ∨ a = 14 ∨ a = 15 ∨ a = 16 ∨ a = 17 ∨ (a = 0 ∧ k = 25))) v4 v9 := (a3.mono fun a k z => by omega).trans ((b3.mono fun a k z => by omega).trans ((e3.mono fun a k z => by omega).trans ((g8.mono fun a k z => by omega).trans (j7.mono fun a k z => by omega))))
      have hC : pTp (sM (sM u5 0 (u5.2.2 1)) 1 (u5.2.2 0)) v4 := hB
      exact hC.fr p8 gB (fun z => by omega) (fun k z => by omega) (fun z => by omega) (fun k z => by omega)
    have hWd : pWd v9 := hW.fr G4 (fun k z => by unfold rdV at z; omega)
    have z1' : fX2_readLines_6 (u.2.2 1) fu 0 u2 = some (0, u5) := by
      have z1'' : fX2_readLines_6 (u.2.2 1) fu 0 u2 = fX2_readLines_39 (u.2.2 1) u4 := z1
      rw [z1'']
      unfold fX2_readLines_39
      rw [f1]
      simp only [obs]
    refine ⟨0, u9, v9, ?_, ?_, (np, ng, (sI v7 0 18 (nI (np + ng))).1, FTS (sI v7 0 18 (nI (np + ng))).1 cs), s0 (np, ng, (sI v7 0 18 (nI (np + ng))).1, FTS (sI v7 0 18 (nI (np + ng))).1 cs), ⟨hE', ?_, ?_, ?_, p2, j2, pv_s0 hE'⟩, ⟨?_, 0, by decide, ?_, j4, fun i hi => absurd hi (Nat.not_lt_zero i)⟩, ⟨⟨0, by decide, p4, j3, fun i hi => absurd hi (Nat.not_lt_zero i)⟩, fun i hi => ?_⟩, ⟨0, ww, by decide, hw16, p5, j5, ?_, fun j hj => absurd hj (Nat.not_lt_zero j)⟩, fun j hj => ⟨false, p6 j hj, j6 j hj, fun z => absurd z Bool.false_ne_true⟩, Or.inl p7, ⟨?_, ?_⟩, hWd, hTp, ?_⟩
    · rw [ecl _ z1']
      simp only [i10, i00, decide_true, decide_false, cnd_t, cnd_f, gd_nil, gd_t, b1_0, b1_1, sw_nil, sw_cons, obs, p1]
    · have a1' : fX10_office_76 fu 0 v4 = fX10_office_105 fu 0 v5 := a1
      have b1' : fX10_office_105 fu 0 v5 = fX10_office_153 fu 0 v6 := b1
      have e1' : fX10_office_153 fu 0 v6 = ((fX10_begins (sI v7 0 18 (nI (np + ng)))).bind fun q1 => some (0, q1.2)) := e1
      rw [z2, em62, a1', b1', e1', j1]
      simp only [obs]
    · rw [e9, es0]
      have hO5' : pc_O (np, ng, (sI v7 0 18 (nI (np + ng))).1, FTS (sI v7 0 18 (nI (np + ng))).1 cs) (u.2.2 1) (sM (sM u5 0 (u5.2.2 1)) 1 (u5.2.2 0)) := hO5
      exact hO5'.fr p8 (fun a k x1 x2 z => by omega)
    · rw [e9, es0]; omega
    · exact ⟨fun k hk => j7.1 _ _ (by omega), fun k hk => j7.1 _ _ (by omega), fun k hk => j7.1 _ _ (by omega)⟩
    · rw [e9, es2]; omega
    · rw [e9]; exact p3
    · obtain ⟨x, hx⟩ := hse.2 i hi
      exact ⟨x, (uu _ _ (by unfold dKu; omega) (by omega) (by omega)).trans hx⟩
    · exact (uu _ _ (by unfold dKu; omega) (by omega) (by omega)).trans hw9
    · rw [j7.1 _ _ (by omega), sI_at, if_pos ⟨rfl, rfl⟩]
    · rw [e9, es0]
      exact hnm
    · unfold pRf
      rw [e9, es0, es1, es2, es3]
      exact ⟨hR1.symm.imp (fun z => ⟨z.2, z.1⟩) (fun z => ⟨z.2, z.1⟩), hR2⟩
  · have z1' : fX2_readLines_6 (u.2.2 1) fu 0 u2 = some (nI f, u4) := z1
    have nf : (nI f = 0) = False := eq_false fun z => by
      have := (nI_eq (b := 0) (show f < 2 ^ 31 by omega) (by decide)).mp z
      omega
    have F4 : Fr (rdU (u.2.2 1) (u.2.2 3)) u u4 := (F2.mono fun a k z => by unfold dKu at z; unfold rdU; omega).trans (z5.mono fun a k z => by unfold dZu at z; unfold rdU; omega)
    have G4 : Fr rdV (sI v 0 0 0) v4 := G2.trans (z6.mono fun a k z => by unfold dZv dSv at z; unfold rdV; omega)
    have hA : pTp u2 v3 := q4.fr c12 gA (fun z => by omega) (fun k z => by omega) (fun z => by omega) (fun k z => by omega)
    have hB : pTp u4 v4 := hA.fr z5 z6 (fun z => by unfold dZu at z; omega) (fun k z => by unfold dZu at z; omega) (fun z => by unfold dZv dSv at z; omega) (fun k z => by unfold dZv dSv at z; omega)
    refine ⟨nI f, u4, v4, ?_, z2, Z, s, h.rd F4 G4 hB⟩
    rw [ecl _ z1']
    simp only [nf, i10, i00, decide_true, decide_false, cnd_t, cnd_f, gd_nil, gd_t, b1_0, b1_1, sw_nil, sw_cons, obs]
end PU
