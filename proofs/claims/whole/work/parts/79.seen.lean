/-! what is seen: who, ask -/
def seR (Z : dZ) (q b : Nat) (u v : ab_S) : Prop := (∃ n, n ≤ 8 ∧ u.1 q 3 = nI n ∧ v.1 16 (b + 22) = nI n ∧ ∀ i, i < n → ∃ k c, ∃ x : Bool, k < Z.2.1 ∧ c ≤ 99 ∧ u.1 (q + 1) i = nI k ∧ v.1 16 (b + 23 + 3 * i) = nI k ∧ u.1 (q + 2) i = nI c ∧ v.1 16 (b + 24 + 3 * i) = nI c ∧ u.1 (q + 3) i = b01 x ∧ v.1 16 (b + 25 + 3 * i) = b01 x) ∧ ∀ i, i < 8 → ∃ x : Bool, u.1 (q + 3) i = b01 x
theorem seR.fr {Z : dZ} {q b : Nat} {u v u' v' : ab_S} {D E : Nat → Nat → Prop} (h : seR Z q b u v) (f : Fr D u u') (g : Fr E v v') (hd : ∀ a k, q ≤ a → a < q + 4 → ¬ D a k) (he : ∀ k, b + 22 ≤ k → k < b + 47 → ¬ E 16 k) : seR Z q b u' v' := by
  obtain ⟨⟨n, h1, h2, h3, h4⟩, h5⟩ := h
  refine ⟨⟨n, h1, by rw [f.1 _ _ (hd _ _ (by omega) (by omega))]; exact h2, by rw [g.1 _ _ (he _ (by omega) (by omega))]; exact h3, fun i hi => ?_⟩, fun i hi => ?_⟩
  · rw [f.1 _ _ (hd (q + 1) i (by omega) (by omega)), f.1 _ _ (hd (q + 2) i (by omega) (by omega)), f.1 _ _ (hd (q + 3) i (by omega) (by omega)), g.1 _ _ (he (b + 23 + 3 * i) (by omega) (by omega)), g.1 _ _ (he (b + 24 + 3 * i) (by omega) (by omega)), g.1 _ _ (he (b + 25 + 3 * i) (by omega) (by omega))]
    exact h4 i hi
  · rw [f.1 _ _ (hd (q + 3) i (by omega) (by omega))]
    exact h5 i hi
def allN (f : Nat → Bool) : Nat → Bool
  | 0 => true
  | n + 1 => allN f n && f n
section PU
variable {Z : dZ} {s : Nat → Int32} {u v : ab_S}
def okS (Z : dZ) (K C : Nat → Nat) (X : Nat → Bool) (p i : Nat) : Bool := decide (C i ≤ Z.2.2.2 p (K i) 0) == X i
-- the seen, as functions
def snF (Z : dZ) (n : Nat) (K C : Nat → Nat) (X : Nat → Bool) (u v : ab_S) : Prop := n ≤ 8 ∧ u.1 46 3 = nI n ∧ v.1 16 22 = nI n ∧ ∀ i, i < n → K i < Z.2.1 ∧ C i ≤ 99 ∧ u.1 47 i = nI (K i) ∧ v.1 16 (23 + 3 * i) = nI (K i) ∧ u.1 48 i = nI (C i) ∧ v.1 16 (24 + 3 * i) = nI (C i) ∧ u.1 49 i = b01 (X i) ∧ v.1 16 (25 + 3 * i) = b01 (X i)
theorem snF_of (hE : pE Z) (h : seR Z 46 0 u v) : ∃ n K C X, snF Z n K C X u v := by
  obtain ⟨⟨n, h1, h2, h3, h4⟩, -⟩ := h
  refine ⟨n, fun i => nc (u.1 47 i), fun i => nc (u.1 48 i), fun i => u.1 49 i == 1, h1, h2, by rw [Nat.zero_add] at h3; exact h3, fun i hi => ?_⟩
  have hg := hE.2.1
  obtain ⟨k, c, x, a1, a2, a3, a4, a5, a6, a7, a8⟩ := h4 i hi
  have a3 : u.1 47 i = nI k := a3
  have a5 : u.1 48 i = nI c := a5
  have a7 : u.1 49 i = b01 x := a7
  rw [Nat.zero_add] at a4 a6 a8
  have ex : (u.1 49 i == 1) = x := by rw [a7]; cases x <;> decide +kernel
  show nc (u.1 47 i) < Z.2.1 ∧ nc (u.1 48 i) ≤ 99 ∧ u.1 47 i = nI (nc (u.1 47 i)) ∧ v.1 16 (23 + 3 * i) = nI (nc (u.1 47 i)) ∧ u.1 48 i = nI (nc (u.1 48 i)) ∧ v.1 16 (24 + 3 * i) = nI (nc (u.1 48 i)) ∧ u.1 49 i = b01 (u.1 49 i == 1) ∧ v.1 16 (25 + 3 * i) = b01 (u.1 49 i == 1)
  rw [ex, a3, a5, nc_nI (show k < 2147483648 by omega), nc_nI (show c < 2147483648 by omega)]
  exact ⟨a1, a2, rfl, a4, rfl, a6, a7, a8⟩
theorem snF.sc {n : Nat} {K C : Nat → Nat} {X : Nat → Bool} {w : ab_S} (h : snF Z n K C X u v) (s' : Sc v w) : snF Z n K C X u w := by
  obtain ⟨h1, h2, h3, h4⟩ := h
  have e : ∀ k, w.1 16 k = v.1 16 k := fun k => s'.1 16 k (by intro z; rcases z with z | z <;> omega)
  refine ⟨h1, h2, by rw [e]; exact h3, fun i hi => ?_⟩
  rw [e, e, e]
  exact h4 i hi
theorem qP.fst {x y : Option (Int32 × ab_S)} {u v : ab_S} (h : qP x u y v) : ∃ r, x = some (r, u) := by
  obtain ⟨r, h1, -⟩ := h
  exact ⟨r, h1⟩
theorem qP.snd {x y : Option (Int32 × ab_S)} {u v : ab_S} {r : Int32} (h : qP x u y v) (h1 : x = some (r, u)) : Wp y (fun r' v' => r' = r ∧ Sc v v') := by
  obtain ⟨r2, h3, h4⟩ := h
  have er := qP.uniq h3 h1
  subst er
  exact h4
theorem c_so2 (hE : pE Z) (hO : pc_O Z (u.2.2 0) u) {n : Nat} {K C : Nat → Nat} {X : Nat → Bool} (hs : snF Z n K C X u v) {p : Nat} (hp : p < Z.1) : ∀ (d i m : Nat), i + d = n → d < m → allN (okS Z K C X p) i = true → fX4_allIsSo_2 46 (u.2.2 0) m (nI p) (nI i) u = some (b01 (allN (okS Z K C X p) n), u) := by
  obtain ⟨h1, h2, h3, h4⟩ := hs
  have hfalse : ∀ d i, i + d = n → allN (okS Z K C X p) i = false → allN (okS Z K C X p) n = false := by
    intro d
    induction d with
    | zero => intro i hi h; have e : i = n := by omega
              subst e; exact h
    | succ d ih => intro i hi h; exact ih (i + 1) (by omega) (by rw [allN, h]; rfl)
  intro d
  induction d with
  | zero =>
    intro i m hi hm ha
    obtain ⟨m, rfl⟩ : ∃ j, m = j + 1 := ⟨m - 1, by omega⟩
    have e : i = n := by omega
    subst e
    rw [fX4_allIsSo_2, h2, ha]
    simp (disch := first | omega | decide) only [i10, i00, decide_true, decide_false, cnd_t, cnd_f, gd_nil, gd_t, b1_0, b1_1, sw_nil, sw_cons, obs, Nat.not_lt_zero, nI_addo, nI_oadd, nI_add, nI_mulo, nI_omul, nI_mul, nI_lto, nI_leo, nI_olt, nI_ole, nI_eqo, nI_oeq, nI_lt2, nI_le2, nI_eq2, nI_nm1, nI_m1n, nI_lt0, nI_lem1, nc_nI, nc_o, ix_nI, ix_o, Nat.lt_irrefl, b01_t]
  | succ d ih =>
    intro i m hi hm ha
    obtain ⟨m, rfl⟩ : ∃ j, m = j + 1 := ⟨m - 1, by omega⟩
    have hin : i < n := by omega
    have hi8 : i < 8 := by omega
    obtain ⟨a1, a2, a3, a4, a5, a6, a7, a8⟩ := h4 i hin
    have f1 := hE.2.2.2.2.2.2.2.1 p (K i) 0
    have ef : fX2_fitBy (u.2.2 0) (nI p) (nI (K i)) 0 u = some (nI (Z.2.2.2 p (K i) 0), u) := c_fitBy (j := 0) hE hO hp a1 (by omega)
    have en : allN (okS Z K C X p) (i + 1) = okS Z K C X p i := by rw [allN, ha, Bool.true_and]
    rw [fX4_allIsSo_2, h2]
    simp (disch := first | omega | decide) only [i10, i00, decide_true, decide_false, cnd_t, cnd_f, gd_nil, gd_t, b1_0, b1_1, sw_nil, sw_cons, obs, nI_lt2, nI_lto, hin, hi8]
    rw [c_at hi8 (by decide), a3]
    simp only [obs]
    rw [ef]
    simp only [obs]
    rw [c_at hi8 (by decide), a5]
    unfold fX4_allIsSo_49
    simp (disch := first | omega | decide) only [obs, nI_lt2, ix_nI, nc_nI, gd_t, gd_nil, a7, nI_addo, i10, i00, decide_true, decide_false, cnd_t, cnd_f, gd_nil, gd_t, b1_0, b1_1, sw_nil, sw_cons, obs]
    have key : ∀ y : Bool, y = decide (C i ≤ Z.2.2.2 p (K i) 0) → (bif decide (b01 y = b01 (X i)) then fX4_allIsSo_2 46 (u.2.2 0) m (nI p) (nI (i + 1)) u else some (0, u)) = some (b01 (allN (okS Z K C X p) n), u) := by
      intro y hy
      have eo : okS Z K C X p i = (y == X i) := by unfold okS; rw [hy]
      by_cases e : y = X i
      · subst e
        simp only [i10, i00, decide_true, decide_false, cnd_t, cnd_f, gd_nil, gd_t, b1_0, b1_1, sw_nil, sw_cons, obs]
        refine ih (i + 1) m (by omega) (by omega) ?_
        rw [en, eo]
        cases X i <;> rfl
      · have e2 : ¬ b01 y = b01 (X i) := by
          intro z
          apply e
          revert z
          cases y <;> cases X i <;> decide +kernel
        have e3 : allN (okS Z K C X p) n = false := hfalse d (i + 1) (by omega) (by
          rw [en, eo]
          revert e
          cases y <;> cases X i <;> decide)
        simp only [e2, i10, i00, decide_true, decide_false, cnd_t, cnd_f, gd_nil, gd_t, b1_0, b1_1, sw_nil, sw_cons, obs, e3, b01_f]
    by_cases e : Z.2.2.2 p (K i) 0 < C i
    · have e' : ¬ C i ≤ Z.2.2.2 p (K i) 0 := by omega
      have := key false (by simp only [e', decide_false])
      simp only [e, i10, i00, decide_true, decide_false, cnd_t, cnd_f, gd_nil, gd_t, b1_0, b1_1, sw_nil, sw_cons, obs]
      exact this
    · have e' : C i ≤ Z.2.2.2 p (K i) 0 := by omega
      have := key true (by simp only [e', decide_true])
      simp only [e, i10, i00, decide_true, decide_false, cnd_t, cnd_f, gd_nil, gd_t, b1_0, b1_1, sw_nil, sw_cons, obs]
      exact this
def whoS (Z : dZ) (n : Nat) (K C : Nat → Nat) (X : Nat → Bool) : Nat := bS (fun p => allN (okS Z K C X p) n) Z.1
theorem whoS_lt (hE : pE Z) (n : Nat) (K C : Nat → Nat) (X : Nat → Bool) : whoS Z n K C X < 256 := bS_256 (by have := hE.1; omega)
theorem c_who4 (hE : pE Z) (hO : pc_O Z (u.2.2 0) u) {n : Nat} {K C : Nat → Nat} {X : Nat → Bool} (hs : snF Z n K C X u v) : ∀ (d p m : Nat), p + d = Z.1 → d < m → fX4_whoBits_4 46 (u.2.2 0) m (nI (bS (fun p => allN (okS Z K C X p) n) p)) (nI p) u = some (nI (whoS Z n K C X), u) := by
  have hp6 := hE.1
  have h8 := hs.1
  intro d
  induction d with
  | zero =>
    intro p m hp hm
    obtain ⟨m, rfl⟩ : ∃ j, m = j + 1 := ⟨m - 1, by omega⟩
    have e : p = Z.1 := by omega
    subst e
    rw [fX4_whoBits_4, hO.1]
    simp (disch := first | omega | decide) only [i10, i00, decide_true, decide_false, cnd_t, cnd_f, gd_nil, gd_t, b1_0, b1_1, sw_nil, sw_cons, obs, Nat.not_lt_zero, nI_addo, nI_oadd, nI_add, nI_mulo, nI_omul, nI_mul, nI_lto, nI_leo, nI_olt, nI_ole, nI_eqo, nI_oeq, nI_lt2, nI_le2, nI_eq2, nI_nm1, nI_m1n, nI_lt0, nI_lem1, nc_nI, nc_o, ix_nI, ix_o, Nat.lt_irrefl]
    rfl
  | succ d ih =>
    intro p m hp hm
    obtain ⟨m, rfl⟩ : ∃ j, m = j + 1 := ⟨m - 1, by omega⟩
    have hp1 : p < Z.1 := by omega
    have ih := ih (p + 1) m (by omega) (by omega)
    have e : fX4_allIsSo 46 (u.2.2 0) (nI p) u = some (b01 (allN (okS Z K C X p) n), u) := c_so2 hE hO hs hp1 n 0 fu (Nat.zero_add _) (by simp only [fu]; omega) rfl
    rw [fX4_whoBits_4, hO.1]
    simp (disch := first | omega | decide) only [i10, i00, decide_true, decide_false, cnd_t, cnd_f, gd_nil, gd_t, b1_0, b1_1, sw_nil, sw_cons, obs, nI_lt2, hp1, e, b01_0, nI_addo, zb_or (bS_256 (show p ≤ 8 by omega)) (show p < 8 by omega)]
    rw [bS] at ih
    cases hh : allN (okS Z K C X p) n
    · simp only [hh, i10, i00, decide_true, decide_false, cnd_t, cnd_f, gd_nil, gd_t, b1_0, b1_1, sw_nil, sw_cons, obs, Bool.false_eq_true, if_false] at ih ⊢
      exact ih
    · simp only [hh, i10, i00, decide_true, decide_false, cnd_t, cnd_f, gd_nil, gd_t, b1_0, b1_1, sw_nil, sw_cons, obs, Bool.true_eq_false, if_true] at ih ⊢
      exact ih
theorem c_who (hE : pE Z) (hO : pc_O Z (u.2.2 0) u) {n : Nat} {K C : Nat → Nat} {X : Nat → Bool} (hs : snF Z n K C X u v) : fX4_whoBits 46 (u.2.2 0) u = some (nI (whoS Z n K C X), u) := c_who4 hE hO hs Z.1 0 fu (Nat.zero_add _) (by have := hE.1; simp only [fu]; omega)
def whoI (Z : dZ) (i : Nat) (K C : Nat → Nat) (X : Nat → Bool) (j : Nat) : Nat := bS (fun p => allN (okS Z K C X p) i && (decide (j ≤ p) || okS Z K C X p i)) Z.1
theorem whoI_lt (hE : pE Z) (i : Nat) (K C : Nat → Nat) (X : Nat → Bool) (j : Nat) : whoI Z i K C X j < 256 := bS_256 (by have := hE.1; omega)
theorem whoI_0 (i : Nat) (K C : Nat → Nat) (X : Nat → Bool) : whoI Z i K C X 0 = whoS Z i K C X := bS_congr fun k _ => by simp only [Nat.zero_le, decide_true, Bool.true_or, Bool.and_true]
theorem whoI_n (i : Nat) (K C : Nat → Nat) (X : Nat → Bool) : whoI Z i K C X Z.1 = whoS Z (i + 1) K C X := bS_congr fun k hk => by
  have e : ¬ Z.1 ≤ k := by omega
  simp only [e, decide_false, Bool.false_or, allN]
theorem whoI_s (hz : Z.1 ≤ 8) (i : Nat) (K C : Nat → Nat) (X : Nat → Bool) {j : Nat} (hj : j < 8) : whoI Z i K C X (j + 1) = if okS Z K C X j i then whoI Z i K C X j else whoI Z i K C X j &&& (255 ^^^ 2 ^ j) := by
  apply bit_ext
  intro k
  have e1 : (whoI Z i K C X (j + 1)).testBit k = (decide (k < Z.1) && (allN (okS Z K C X k) i && (decide (j + 1 ≤ k) || okS Z K C X k i))) := bS_bit _ _ _
  have e2 : (whoI Z i K C X j).testBit k = (decide (k < Z.1) && (allN (okS Z K C X k) i && (decide (j ≤ k) || okS Z K C X k i))) := bS_bit _ _ _
  by_cases ek : k = j
  · subst ek
    have e3 : ¬ k + 1 ≤ k := by omega
    cases ho : okS Z K C X k i
    · simp only [Bool.false_eq_true, if_false]
      rw [e1, Nat.testBit_and, e2, bit255, Nat.testBit_two_pow]
      simp only [e3, ho, hj, decide_false, decide_true, Bool.or_false, Bool.and_false, Bool.xor_self, Nat.le_refl]
    · simp only [if_true]
      rw [e1, e2]
      simp only [ho, Bool.or_true]
  · have e3 : decide (j + 1 ≤ k) = decide (j ≤ k) := decide_eq_decide.mpr (by omega)
    split
    · rw [e1, e2, e3]
    · rw [e1, Nat.testBit_and, e2, e3, bit255, Nat.testBit_two_pow]
      have e4 : ¬ j = k := fun z => ek z.symm
      by_cases hk : k < Z.1
      · have h8 : k < 8 := by omega
        simp only [e4, hk, h8, decide_true, decide_false, Bool.true_and, Bool.xor_false, Bool.and_true]
      · simp only [hk, decide_false, Bool.false_and]
theorem m_who32 (hE : pE Z) {n i : Nat} {K C : Nat → Nat} {X : Nat → Bool} {L : Int32 → Int32 → ab_S → Option (Int32 × ab_S)} (hi : i < n) {Q : Int32 → ab_S → Prop} : ∀ (d j m : Nat) (v : ab_S), pm_O Z v → snF Z n K C X u v → j + d = Z.1 → d < m → (∀ v', Sc v v' → Wp (L (nI (whoS Z (i + 1) K C X)) (nI (i + 1)) v') Q) → Wp (fX10_whoNow_32 L m (nI (whoI Z i K C X j)) (nI i) (nI (23 + 3 * i)) (nI j) v) Q := by
  have hp6 := hE.1
  have hg8 := hE.2.1
  intro d
  induction d with
  | zero =>
    intro j m v hm hs hj hmf hL
    obtain ⟨m, rfl⟩ : ∃ j, m = j + 1 := ⟨m - 1, by omega⟩
    have e : j = Z.1 := by omega
    subst e
    rw [fX10_whoNow_32, m_persons hE hm, whoI_n]
    simp (disch := first | omega | decide) only [i10, i00, decide_true, decide_false, cnd_t, cnd_f, gd_nil, gd_t, b1_0, b1_1, sw_nil, sw_cons, obs, Nat.not_lt_zero, nI_addo, nI_oadd, nI_add, nI_mulo, nI_omul, nI_mul, nI_lto, nI_leo, nI_olt, nI_ole, nI_eqo, nI_oeq, nI_lt2, nI_le2, nI_eq2, nI_nm1, nI_m1n, nI_lt0, nI_lem1, nc_nI, nc_o, ix_nI, ix_o, Nat.lt_irrefl]
    exact hL v Fr.rfl'
  | succ d ih =>
    intro j m v hm hs hj hmf hL
    obtain ⟨m, rfl⟩ : ∃ j, m = j + 1 := ⟨m - 1, by omega⟩
    have hj1 : j < Z.1 := by omega
    have h8 := hs.1
    obtain ⟨a1, a2, a3, a4, a5, a6, a7, a8⟩ := hs.2.2.2 i hi
    have f1 := hE.2.2.2.2.2.2.2.1 j (K i) 0
    have hlt := whoI_lt hE i K C X j
    rw [fX10_whoNow_32, m_persons hE hm]
    simp (disch := first | omega | decide) only [i10, i00, decide_true, decide_false, cnd_t, cnd_f, gd_nil, gd_t, b1_0, b1_1, sw_nil, sw_cons, obs, nI_lt2, hj1, ix_nI, nc_nI, a4, wp_bind]
    refine m_fitBy (j := 0) hE hm hj1 a1 (by omega) fun v1 s1 => ?_
    have hs1 := hs.sc s1
    obtain ⟨-, -, -, b4, -, b6, -, b8⟩ := hs1.2.2.2 i hi
    have e24 : v1.1 16 (23 + 3 * i + 1) = nI (C i) := by rw [show 23 + 3 * i + 1 = 24 + 3 * i by omega]; exact b6
    have e25 : v1.1 16 (23 + 3 * i + 2) = b01 (X i) := by rw [show 23 + 3 * i + 2 = 25 + 3 * i by omega]; exact b8
    have ih := ih (j + 1) m v1 (hm.sc s1) hs1 (by omega) (by omega) fun v' s' => hL v' (s1.trans s')
    rw [whoI_s (show Z.1 ≤ 8 by omega) i K C X (show j < 8 by omega)] at ih
    have key : ∀ y : Bool, y = decide (C i ≤ Z.2.2.2 j (K i) 0) → Wp (fX10_whoNow_70 L (fX10_whoNow_32 L m) (nI (whoI Z i K C X j)) (nI i) (nI (23 + 3 * i)) (nI j) (b01 y) v1) Q := by
      intro y hy
      have eo : okS Z K C X j i = (y == X i) := by unfold okS; rw [hy]
      rw [eo] at ih
      unfold fX10_whoNow_70 fX10_whoNow_92
      simp (disch := first | omega | decide) only [nI_addo, ix_nI, nc_nI, gd_t, gd_nil, e25, b01_1, zb_clr hlt (show j < 8 by omega), Int32.and_neg_one]
      cases hX : X i <;> cases y <;> simp only [hX, b01_t, b01_f, i10, i00, decide_true, decide_false, cnd_t, cnd_f, gd_nil, gd_t, b1_0, b1_1, sw_nil, sw_cons, obs, i0_1, Bool.false_eq_true, Bool.true_eq_false, beq_self_eq_true, if_true, if_false, show (true == false) = false from rfl, show (false == true) = false from rfl] at ih ⊢ <;> exact ih
    simp (disch := first | omega | decide) only [nI_addo, ix_nI, nc_nI, gd_t, gd_nil, e24, nI_lt2]
    by_cases e : Z.2.2.2 j (K i) 0 < C i
    · have e' : ¬ C i ≤ Z.2.2.2 j (K i) 0 := by omega
      simp only [e, i10, i00, decide_true, decide_false, cnd_t, cnd_f, gd_nil, gd_t, b1_0, b1_1, sw_nil, sw_cons, obs]
      exact key false (by simp only [e', decide_false])
    · have e' : C i ≤ Z.2.2.2 j (K i) 0 := by omega
      simp only [e, i10, i00, decide_true, decide_false, cnd_t, cnd_f, gd_nil, gd_t, b1_0, b1_1, sw_nil, sw_cons, obs]
      exact key true (by simp only [e', decide_true])
theorem m_who11 (hE : pE Z) {n : Nat} {K C : Nat → Nat} {X : Nat → Bool} {Q : Int32 → ab_S → Prop} : ∀ (d i m : Nat) (v : ab_S), pm_O Z v → snF Z n K C X u v → i + d = n → d < m → (∀ v', Sc v v' → Q (nI (whoS Z n K C X)) v') → Wp (fX10_whoNow_11 m (nI (whoS Z i K C X)) (nI i) v) Q := by
  have hp6 := hE.1
  intro d
  induction d with
  | zero =>
    intro i m v hm hs hi hmf hL
    obtain ⟨m, rfl⟩ : ∃ j, m = j + 1 := ⟨m - 1, by omega⟩
    have h8 := hs.1
    have e : i = n := by omega
    subst e
    rw [fX10_whoNow_11]
    simp (disch := first | omega | decide) only [i10, i00, decide_true, decide_false, cnd_t, cnd_f, gd_nil, gd_t, b1_0, b1_1, sw_nil, sw_cons, obs, ix_o, nc_o, hs.2.2.1, nI_lt2, Nat.lt_irrefl, wp_ret]
    exact hL v Fr.rfl'
  | succ d ih =>
    intro i m v hm hs hi hmf hL
    obtain ⟨m, rfl⟩ : ∃ j, m = j + 1 := ⟨m - 1, by omega⟩
    have h8 := hs.1
    have hin : i < n := by omega
    rw [fX10_whoNow_11]
    simp (disch := first | omega | decide) only [i10, i00, decide_true, decide_false, cnd_t, cnd_f, gd_nil, gd_t, b1_0, b1_1, sw_nil, sw_cons, obs, ix_o, nc_o, hs.2.2.1, nI_lt2, hin, nI_omul, nI_oadd]
    have h := m_who32 hE (L := fX10_whoNow_11 m) hin (Q := Q) Z.1 0 fu v hm hs (Nat.zero_add _) (by simp only [fu]; omega) fun v' s' => ih (i + 1) m v' (hm.sc s') (hs.sc s') (by omega) (by omega) fun v'' s'' => hL v'' (s'.trans s'')
    rw [whoI_0] at h
    exact h
theorem m_who (hE : pE Z) (hm : pm_O Z v) {n : Nat} {K C : Nat → Nat} {X : Nat → Bool} (hs : snF Z n K C X u v) {Q : Int32 → ab_S → Prop} (hL : ∀ v', Sc v v' → Q (nI (whoS Z n K C X)) v') : Wp (fX10_whoNow v) Q := by
  have hp6 := hE.1
  have e0 : whoS Z 0 K C X = 2 ^ Z.1 - 1 := by
    apply bit_ext
    intro k
    rw [whoS, bS_bit, all_bit]
    simp only [allN, Bool.and_true]
  unfold fX10_whoNow
  rw [m_persons hE hm]
  simp only [obs, zb_all (show Z.1 ≤ 8 by omega)]
  rw [← e0]
  have h8 := hs.1
  exact m_who11 hE n 0 fu v hm hs (Nat.zero_add _) (by simp only [fu]; omega) hL
theorem q_who (hN : pN Z s u v) (h : seR Z 46 0 u v) : qP (fX9_who u) u (fX10_who v) (sI v 0 0 0) := by
  have hN0 := hN.th (x := 0)
  have f : Fr (fun a _ => a = 0) v (sI v 0 0 0) := Fr.sI rfl
  have h0 : seR Z 46 0 u (sI v 0 0 0) := h.fr (D := fun _ _ => False) Fr.rfl' f (fun _ _ _ _ z => z) (by intro k h1 h2 z; omega)
  obtain ⟨n, K, C, X, hs⟩ := snF_of hN.1 h0
  unfold fX9_who fX10_who
  rw [c_who hN.1 hN.2.1 hs]
  refine ⟨_, rfl, ?_⟩
  rw [wp_bind]
  exact m_who hN.1 hN0.2.2.2.1 hs fun v' s' => wp_ret.mpr ⟨rfl, s'⟩
-- ===== ask =====
def cntS (Z : dZ) (m k c : Nat) (p : Nat) : Nat := if m.testBit p && decide (c ≤ Z.2.2.2 p k 0) then 1 else 0
theorem cntS_le (m k c p : Nat) : cntS Z m k c p ≤ 1 := by
  unfold cntS
  split <;> omega
theorem c_left6 (hE : pE Z) (hO : pc_O Z (u.2.2 0) u) {m k c : Nat} (hm : m < 256) (hk : k < Z.2.1) (hc : c ≤ 99) : ∀ (d p n : Nat), p + d = Z.1 → d < n → fX9_leftByAsking_6 n (nI m) (nI k) (nI c) (nI (sumN (cntS Z m k c) p)) (nI p) u = some ((if nI (sumN (cntS Z m k c) Z.1) < (nI (pc m) - nI (sumN (cntS Z m k c) Z.1)) then (nI (pc m) - nI (sumN (cntS Z m k c) Z.1)) else nI (sumN (cntS Z m k c) Z.1)), u) := by
  have hp6 := hE.1
  intro d
  induction d with
  | zero =>
    intro p n hp hn
    obtain ⟨n, rfl⟩ : ∃ j, n = j + 1 := ⟨n - 1, by omega⟩
    have e : p = Z.1 := by omega
    subst e
    rw [fX9_leftByAsking_6, hO.1, pc_c hm]
    simp (disch := first | omega | decide) only [i10, i00, decide_true, decide_false, cnd_t, cnd_f, gd_nil, gd_t, b1_0, b1_1, sw_nil, sw_cons, obs, nI_lt2, Nat.lt_irrefl]
  | succ d ih =>
    intro p n hp hn
    obtain ⟨n, rfl⟩ : ∃ j, n = j + 1 := ⟨n - 1, by omega⟩
    have hp1 : p < Z.1 := by omega
    have ih := ih (p + 1) n (by omega) (by omega)
    have f1 := hE.2.2.2.2.2.2.2.1 p k 0
    have ef : fX2_fitBy (u.2.2 0) (nI p) (nI k) 0 u = some (nI (Z.2.2.2 p k 0), u) := c_fitBy (j := 0) hE hO hp1 hk (by omega)
    rw [fX9_leftByAsking_6, hO.1]
    simp (disch := first | omega | decide) only [i10, i00, decide_true, decide_false, cnd_t, cnd_f, gd_nil, gd_t, b1_0, b1_1, sw_nil, sw_cons, obs, nI_lt2, hp1, zb_b1 hm (show p < 8 by omega), ef, nI_addo]
    rw [sumN] at ih
    have ec : cntS Z m k c p = if m.testBit p && decide (c ≤ Z.2.2.2 p k 0) then 1 else 0 := rfl
    cases hb : m.testBit p
    · rw [hb] at ec
      simp only [Bool.false_and, Bool.false_eq_true, if_false] at ec
      rw [ec, Nat.add_zero] at ih
      simp only [i10, i00, decide_true, decide_false, cnd_t, cnd_f, gd_nil, gd_t, b1_0, b1_1, sw_nil, sw_cons, obs, Bool.false_eq_true]
      exact ih
    · rw [hb] at ec
      by_cases e : Z.2.2.2 p k 0 < c
      · have e' : ¬ c ≤ Z.2.2.2 p k 0 := by omega
        simp only [e', decide_false, Bool.and_false, Bool.false_eq_true, if_false] at ec
        rw [ec, Nat.add_zero] at ih
        simp only [e, i10, i00, decide_true, decide_false, cnd_t, cnd_f, gd_nil, gd_t, b1_0, b1_1, sw_nil, sw_cons, obs]
        exact ih
      · have e' : c ≤ Z.2.2.2 p k 0 := by omega
        simp only [e', decide_true, Bool.and_self, if_true] at ec
        rw [ec] at ih
        simp only [e, i10, i00, decide_true, decide_false, cnd_t, cnd_f, gd_nil, gd_t, b1_0, b1_1, sw_nil, sw_cons, obs]
        exact ih
def lfS (Z : dZ) (m k c : Nat) : Int32 := if nI (sumN (cntS Z m k c) Z.1) < (nI (pc m) - nI (sumN (cntS Z m k c) Z.1)) then (nI (pc m) - nI (sumN (cntS Z m k c) Z.1)) else nI (sumN (cntS Z m k c) Z.1)
theorem c_left (hE : pE Z) (hO : pc_O Z (u.2.2 0) u) {m k c : Nat} (hm : m < 256) (hk : k < Z.2.1) (hc : c ≤ 99) : fX9_leftByAsking (nI m) (nI k) (nI c) u = some (lfS Z m k c, u) := c_left6 hE hO hm hk hc Z.1 0 fu (Nat.zero_add _) (by have := hE.1; simp only [fu]; omega)
theorem sumN_1 {f : Nat → Nat} (h : ∀ k, f k ≤ 1) (n : Nat) : sumN f n ≤ n := by
  have := sumN_le h n
  omega
theorem m_48 (hE : pE Z) {K23 : Int32 → Int32 → Int32 → Int32 → Int32 → ab_S → Option (Int32 × ab_S)} {L : Int32 → Int32 → Int32 → Int32 → Int32 → Int32 → ab_S → Option (Int32 × ab_S)} {m k c : Nat} {a l : Int32} (hm0 : m < 256) (hk : k < Z.2.1) (hc : c ≤ 99) {Q : Int32 → ab_S → Prop} : ∀ (d p n : Nat) (v : ab_S), pm_O Z v → p + d = Z.1 → d < n → (∀ v', Sc v v' → Wp (bif decide (lfS Z m k c < l) then L (nI m) (nI (pc m)) (nI (100 * k + c)) (lfS Z m k c) (nI k) (nI (c + 1)) v' else L (nI m) (nI (pc m)) a l (nI k) (nI (c + 1)) v') Q) → Wp (fX10_ask_48 K23 L n (nI m) (nI (pc m)) a l (nI k) (nI c) (nI (sumN (cntS Z m k c) p)) (nI p) v) Q := by
  have hp6 := hE.1
  have hg8 := hE.2.1
  have hpc := pc_le m
  intro d
  induction d with
  | zero =>
    intro p n v hm hp hn hL
    obtain ⟨n, rfl⟩ : ∃ j, n = j + 1 := ⟨n - 1, by omega⟩
    have e : p = Z.1 := by omega
    subst e
    have hL := hL v Fr.rfl'
    have elf : lfS Z m k c = bif decide (nI (sumN (cntS Z m k c) Z.1) ≤ (nI (pc m) - nI (sumN (cntS Z m k c) Z.1))) then (nI (pc m) - nI (sumN (cntS Z m k c) Z.1)) else nI (sumN (cntS Z m k c) Z.1) := by
      have hs := sumN_1 (cntS_le (Z := Z) m k c) Z.1
      unfold lfS
      generalize nI (pc m) - nI (sumN (cntS Z m k c) Z.1) = y
      generalize nI (sumN (cntS Z m k c) Z.1) = x
      by_cases h1 : x < y
      · have h2 : x ≤ y := by
          rw [Int32.lt_iff_toInt_lt] at h1
          rw [Int32.le_iff_toInt_le]
          omega
        simp only [h1, h2, if_true, i10, i00, decide_true, decide_false, cnd_t, cnd_f, gd_nil, gd_t, b1_0, b1_1, sw_nil, sw_cons, obs]
      · by_cases h2 : x ≤ y
        · have e : x = y := by
            apply Int32.toInt_inj.mp
            rw [Int32.lt_iff_toInt_lt] at h1
            rw [Int32.le_iff_toInt_le] at h2
            omega
          rw [if_neg h1]
          simp only [h2, i10, i00, decide_true, decide_false, cnd_t, cnd_f, gd_nil, gd_t, b1_0, b1_1, sw_nil, sw_cons, obs]
          exact e
        · simp only [h1, h2, if_false, i10, i00, decide_true, decide_false, cnd_t, cnd_f, gd_nil, gd_t, b1_0, b1_1, sw_nil, sw_cons, obs]
    rw [fX10_ask_48, m_persons hE hm]
    simp (disch := first | omega | decide) only [i10, i00, decide_true, decide_false, cnd_t, cnd_f, gd_nil, gd_t, b1_0, b1_1, sw_nil, sw_cons, obs, nI_lt2, Nat.lt_irrefl]
    have e115 : ∀ y : Int32, y = lfS Z m k c → Wp (fX10_ask_115 K23 L (nI m) (nI (pc m)) a l (nI k) (nI c) y v) Q := by
      intro y hy
      unfold fX10_ask_115 fX10_ask_136
      rw [hy]
      by_cases h1 : lfS Z m k c < l
      · simp only [h1, i10, i00, decide_true, decide_false, cnd_t, cnd_f, gd_nil, gd_t, b1_0, b1_1, sw_nil, sw_cons, obs, nI_omul, nI_add, nI_addo] at hL ⊢
        exact hL
      · simp only [h1, i10, i00, decide_true, decide_false, cnd_t, cnd_f, gd_nil, gd_t, b1_0, b1_1, sw_nil, sw_cons, obs, nI_addo] at hL ⊢
        exact hL
    by_cases h1 : nI (sumN (cntS Z m k c) Z.1) ≤ (nI (pc m) - nI (sumN (cntS Z m k c) Z.1))
    · simp only [h1, i10, i00, decide_true, decide_false, cnd_t, cnd_f, gd_nil, gd_t, b1_0, b1_1, sw_nil, sw_cons, obs] at elf ⊢
      exact e115 _ elf.symm
    · simp only [h1, i10, i00, decide_true, decide_false, cnd_t, cnd_f, gd_nil, gd_t, b1_0, b1_1, sw_nil, sw_cons, obs] at elf ⊢
      exact e115 _ elf.symm
  | succ d ih =>
    intro p n v hm hp hn hL
    obtain ⟨n, rfl⟩ : ∃ j, n = j + 1 := ⟨n - 1, by omega⟩
    have hp1 : p < Z.1 := by omega
    have ih := ih (p + 1) n
    have f1 := hE.2.2.2.2.2.2.2.1 p k 0
    rw [fX10_ask_48, m_persons hE hm]
    simp (disch := first | omega | decide) only [i10, i00, decide_true, decide_false, cnd_t, cnd_f, gd_nil, gd_t, b1_0, b1_1, sw_nil, sw_cons, obs, nI_lt2, hp1, zb_b1 hm0 (show p < 8 by omega), nI_addo]
    rw [sumN] at ih
    have ec : cntS Z m k c p = if m.testBit p && decide (c ≤ Z.2.2.2 p k 0) then 1 else 0 := rfl
    cases hb : m.testBit p
    · rw [hb] at ec
      simp only [Bool.false_and, Bool.false_eq_true, if_false] at ec
      rw [ec, Nat.add_zero] at ih
      simp only [i10, i00, decide_true, decide_false, cnd_t, cnd_f, gd_nil, gd_t, b1_0, b1_1, sw_nil, sw_cons, obs, Bool.false_eq_true, Int32.add_zero]
      exact ih v hm (by omega) (by omega) hL
    · rw [hb] at ec
      simp only [i10, i00, decide_true, decide_false, cnd_t, cnd_f, gd_nil, gd_t, b1_0, b1_1, sw_nil, sw_cons, obs, wp_bind]
      refine m_fitBy (j := 0) hE hm hp1 hk (by omega) fun v1 s1 => ?_
      have hL1 := fun v' s' => hL v' (s1.trans s')
      simp (disch := first | omega | decide) only [nI_lt2]
      by_cases e : Z.2.2.2 p k 0 < c
      · have e' : ¬ c ≤ Z.2.2.2 p k 0 := by omega
        simp only [e', decide_false, Bool.and_false, Bool.false_eq_true, if_false] at ec
        rw [ec, Nat.add_zero] at ih
        simp only [e, i10, i00, decide_true, decide_false, cnd_t, cnd_f, gd_nil, gd_t, b1_0, b1_1, sw_nil, sw_cons, obs, Int32.add_zero]
        exact ih v1 (hm.sc s1) (by omega) (by omega) hL1
      · have e' : c ≤ Z.2.2.2 p k 0 := by omega
        simp only [e', decide_true, Bool.and_self, if_true] at ec
        rw [ec] at ih
        simp only [e, i10, i00, decide_true, decide_false, cnd_t, cnd_f, gd_nil, gd_t, b1_0, b1_1, sw_nil, sw_cons, obs]
        exact ih v1 (hm.sc s1) (by omega) (by omega) hL1
theorem q_ask37 {m : Nat} (hm0 : m < 256) {k : Nat} {K L} (hK : ∀ (a l : Int32) (v : ab_S), pN Z s u v → qP (K (nI m) l a (nI (k + 1)) u) u (L (nI m) (nI (pc m)) a l (nI (k + 1)) v) v) : ∀ (d c n n' : Nat) (a l : Int32) (v : ab_S), pN Z s u v → k < Z.2.1 → c + d = 100 → d < n → d < n' → qP (fX9_ask_37 K n (nI m) l a (nI k) (nI c) u) u (fX10_ask_35 L n' (nI m) (nI (pc m)) a l (nI k) (nI c) v) v := by
  intro d
  induction d with
  | zero =>
    intro c n n' a l v hN hk hc hn hn'
    obtain ⟨n, rfl⟩ : ∃ j, n = j + 1 := ⟨n - 1, by omega⟩
    obtain ⟨n', rfl⟩ : ∃ j, n' = j + 1 := ⟨n' - 1, by omega⟩
    have e : ¬ c ≤ 99 := by omega
    rw [fX9_ask_37, fX10_ask_35]
    simp (disch := first | omega | decide) only [i10, i00, decide_true, decide_false, cnd_t, cnd_f, gd_nil, gd_t, b1_0, b1_1, sw_nil, sw_cons, obs, nI_leo, e, nI_addo]
    exact hK a l v hN
  | succ d ih =>
    intro c n n' a l v hN hk hc hn hn'
    obtain ⟨n, rfl⟩ : ∃ j, n = j + 1 := ⟨n - 1, by omega⟩
    obtain ⟨n', rfl⟩ : ∃ j, n' = j + 1 := ⟨n' - 1, by omega⟩
    have e : c ≤ 99 := by omega
    have hp6 := hN.1.1
    have hg8 := hN.1.2.1
    rw [fX9_ask_37, fX10_ask_35]
    simp (disch := first | omega | decide) only [i10, i00, decide_true, decide_false, cnd_t, cnd_f, gd_nil, gd_t, b1_0, b1_1, sw_nil, sw_cons, obs, nI_leo, e]
    rw [c_left hN.1 hN.2.1 hm0 hk e]
    simp only [obs, nI_omul, nI_add, nI_addo]
    have key : ∀ v', Sc v v' → qP (bif decide (lfS Z m k c < l) then fX9_ask_37 K n (nI m) (lfS Z m k c) (nI (100 * k + c)) (nI k) (nI (c + 1)) u else fX9_ask_37 K n (nI m) l a (nI k) (nI (c + 1)) u) u (bif decide (lfS Z m k c < l) then fX10_ask_35 L n' (nI m) (nI (pc m)) (nI (100 * k + c)) (lfS Z m k c) (nI k) (nI (c + 1)) v' else fX10_ask_35 L n' (nI m) (nI (pc m)) a l (nI k) (nI (c + 1)) v') v := by
      intro v' s'
      refine qP.sc s' ?_
      by_cases h1 : lfS Z m k c < l
      · simp only [h1, i10, i00, decide_true, decide_false, cnd_t, cnd_f, gd_nil, gd_t, b1_0, b1_1, sw_nil, sw_cons, obs]
        exact ih (c + 1) n n' _ _ v' (hN.sc s') hk (by omega) (by omega) (by omega)
      · simp only [h1, i10, i00, decide_true, decide_false, cnd_t, cnd_f, gd_nil, gd_t, b1_0, b1_1, sw_nil, sw_cons, obs]
        exact ih (c + 1) n n' _ _ v' (hN.sc s') hk (by omega) (by omega) (by omega)
    refine Exists.elim (qP.fst (key v Fr.rfl')) fun r h1 => ?_
    refine ⟨r, h1, ?_⟩
    exact m_48 hN.1 (K23 := L) (L := fX10_ask_35 L n') (a := a) (l := l) hm0 hk e (Q := fun r' v' => r' = r ∧ Sc v v') Z.1 0 fu v hN.2.2.2.1 (Nat.zero_add _) (by simp only [fu]; omega) (fun v' s' => qP.snd (key v' s') h1)
theorem q_ask22 {m : Nat} (hm0 : m < 256) : ∀ (d k n n' : Nat) (a l : Int32) (v : ab_S), pN Z s u v → k + d = Z.2.1 → d < n → d < n' → qP (fX9_ask_22 n (nI m) l a (nI k) u) u (fX10_ask_23 n' (nI m) (nI (pc m)) a l (nI k) v) v := by
  intro d
  induction d with
  | zero =>
    intro k n n' a l v hN hk hn hn'
    obtain ⟨n, rfl⟩ : ∃ j, n = j + 1 := ⟨n - 1, by omega⟩
    obtain ⟨n', rfl⟩ : ∃ j, n' = j + 1 := ⟨n' - 1, by omega⟩
    have hg8 := hN.1.2.1
    have e : k = Z.2.1 := by omega
    subst e
    rw [fX9_ask_22, fX10_ask_23, hN.2.1.2.1, m_goods hN.1 hN.2.2.2.1]
    simp (disch := first | omega | decide) only [i10, i00, decide_true, decide_false, cnd_t, cnd_f, gd_nil, gd_t, b1_0, b1_1, sw_nil, sw_cons, obs, nI_lt2, Nat.lt_irrefl]
    exact qP.ret
  | succ d ih =>
    intro k n n' a l v hN hk hn hn'
    obtain ⟨n, rfl⟩ : ∃ j, n = j + 1 := ⟨n - 1, by omega⟩
    obtain ⟨n', rfl⟩ : ∃ j, n' = j + 1 := ⟨n' - 1, by omega⟩
    have hg8 := hN.1.2.1
    have hk8 : k < Z.2.1 := by omega
    rw [fX9_ask_22, fX10_ask_23, hN.2.1.2.1, m_goods hN.1 hN.2.2.2.1]
    simp (disch := first | omega | decide) only [i10, i00, decide_true, decide_false, cnd_t, cnd_f, gd_nil, gd_t, b1_0, b1_1, sw_nil, sw_cons, obs, nI_lt2, hk8]
    exact q_ask37 hm0 (K := fX9_ask_22 n) (L := fX10_ask_23 n') (fun a' l' v' hN' => ih (k + 1) n n' a' l' v' hN' (by omega) (by omega) (by omega)) 99 1 fu fu a l v hN hk8 rfl (by decide) (by decide)
theorem q_ask (hN : pN Z s u v) (h : seR Z 46 0 u v) : qP (fX9_ask u) u (fX10_ask v) (sI v 0 0 0) := by
  have hN0 := hN.th (x := 0)
  have hg8 := hN.1.2.1
  have f : Fr (fun a _ => a = 0) v (sI v 0 0 0) := Fr.sI rfl
  have h0 : seR Z 46 0 u (sI v 0 0 0) := h.fr (D := fun _ _ => False) Fr.rfl' f (fun _ _ _ _ z => z) (by intro k h1 h2 z; omega)
  obtain ⟨n, K, C, X, hs⟩ := snF_of hN.1 h0
  have hw := whoS_lt hN.1 n K C X
  unfold fX9_ask fX10_ask
  rw [c_who hN.1 hN.2.1 hs]
  simp only [obs]
  rw [pc_c hw]
  simp only [obs]
  refine qP.mrun (a := nI (whoS Z n K C X)) (m_who hN.1 hN0.2.2.2.1 hs fun v' s' => ⟨rfl, s'⟩) fun v1 s1 => ?_
  rw [pc_m hw]
  simp only [obs]
  exact q_ask22 hw Z.2.1 0 fu fu (-1) (nI (pc (whoS Z n K C X))) v1 (hN0.sc s1) (Nat.zero_add _) (by simp only [fu]; omega) (by simp only [fu]; omega)
end PU
