/-! the best that could be given out: who gets what -/
theorem nm1_pair {p : Nat} (hp : p < 2147483648) : decide (nI p = -1) = false := by
  simp (disch := first | omega | decide) only [nI_nm1, decide_false]
section PU
variable {Z : dZ} {u v : ab_S} {x : Int32} {o1 : Nat}
theorem chS_lt {d p g k : Nat} (h : chS Z x d p g = some k) : k < Z.2.1 ∧ g.testBit k = false := by
  unfold chS at h
  rcases wst_ok (val := gW Z x d p g) (inn := gI x p g) Z.2.1 with ⟨h1, -⟩ | ⟨q, h1, h2, h3, -⟩
  · rw [h1] at h; cases h
  · rw [h1] at h
    have h : (if q.2 < mS Z x d (p + 1) g then none else some q.1) = some k := h
    split at h
    · cases h
    · cases h
      refine ⟨h2, ?_⟩
      unfold gI at h3
      cases hb : g.testBit q.1
      · rfl
      · rw [hb] at h3; simp only [Bool.not_true, Bool.and_false, Bool.false_eq_true] at h3
theorem c_fb19 (hE : pE Z) (hO : pc_O Z o1 u) {p d g : Nat} (hp : p < Z.1) (hd : Z.1 - (p + 1) = d) (hg : g < 2 ^ Z.2.1) (hpc : pc g ≤ p) (ht : tbl Z (-1) u (p + 1)) : ∀ (e k n : Nat), k + e = Z.2.1 → e < n → (∀ j, j < k → gI (-1) p g j = true → gW Z (-1) d p g j ≠ mS Z (-1) (d + 1) p g) → fX0_firstBest_19 o1 n (nI p) (nI g) (nI (mS Z (-1) (d + 1) p g)) (nI k) u = some (eO (chS Z (-1) d p g), u) := by
  have hp6 := hE.1
  have hg8 := hE.2.1
  have hg2 : g < 256 := Nat.lt_of_lt_of_le hg (show 2 ^ Z.2.1 ≤ 2 ^ 8 from Nat.pow_le_pow_right (by decide) hg8)
  intro e
  induction e with
  | zero =>
    intro k n hk hn hj
    obtain ⟨n, rfl⟩ : ∃ j, n = j + 1 := ⟨n - 1, by omega⟩
    have e : k = Z.2.1 := by omega
    subst e
    have hc : chS Z (-1) d p g = none := by
      unfold chS
      rcases wst_ok (val := gW Z (-1) d p g) (inn := gI (-1) p g) Z.2.1 with ⟨h1, -⟩ | ⟨q, h1, h2, h3, h4, -⟩
      · rw [h1]
      · rw [h1]
        show (if q.2 < mS Z (-1) d (p + 1) g then none else some q.1) = none
        rw [if_pos]
        apply Classical.byContradiction
        intro hz
        apply hj q.1 h2 h3
        rw [mS_s, h1]
        show gW Z (-1) d p g q.1 = (if q.2 < mS Z (-1) d (p + 1) g then mS Z (-1) d (p + 1) g else q.2)
        rw [if_neg hz, h4]
    rw [fX0_firstBest_19, hO.2.1, hc]
    simp (disch := first | omega | decide) only [i10, i00, decide_true, decide_false, cnd_t, cnd_f, gd_nil, gd_t, b1_0, b1_1, sw_nil, sw_cons, obs, Nat.not_lt_zero, nI_addo, nI_oadd, nI_add, nI_mulo, nI_omul, nI_mul, nI_lto, nI_leo, nI_olt, nI_ole, nI_eqo, nI_oeq, nI_lt2, nI_le2, nI_eq2, nI_nm1, nI_m1n, nI_lt0, nI_lem1, nc_nI, nc_o, ix_nI, ix_o, Nat.lt_irrefl, eO]
  | succ e ih =>
    intro k n hk hn hj
    obtain ⟨n, rfl⟩ : ∃ j, n = j + 1 := ⟨n - 1, by omega⟩
    have hk8 : k < Z.2.1 := by omega
    have hwk := gW_le hE (-1) d p g k
    have hml := mS_le hE (-1) (d + 1) p g
    have ein : gI (-1) p g k = !g.testBit k := by
      unfold gI
      rw [nm1_pair (by omega)]
      simp only [Bool.not_false, Bool.true_and]
    rw [fX0_firstBest_19, hO.2.1]
    simp (disch := first | omega | decide) only [i10, i00, decide_true, decide_false, cnd_t, cnd_f, gd_nil, gd_t, b1_0, b1_1, sw_nil, sw_cons, obs, nI_lt2, hk8, zb_b0 hg2 (show k < 8 by omega)]
    cases hb : g.testBit k
    · simp only [i10, i00, decide_true, decide_false, cnd_t, cnd_f, gd_nil, gd_t, b1_0, b1_1, sw_nil, sw_cons, obs]
      rw [c_mostBy hE hO hp hd hg hpc hk8 ht]
      simp (disch := first | omega | decide) only [obs, nI_eq2, nI_addo]
      by_cases e2 : gW Z (-1) d p g k = mS Z (-1) (d + 1) p g
      · simp only [e2, i10, i00, decide_true, decide_false, cnd_t, cnd_f, gd_nil, gd_t, b1_0, b1_1, sw_nil, sw_cons, obs]
        have hc : chS Z (-1) d p g = some k := by
          unfold chS
          rcases wst_ok (val := gW Z (-1) d p g) (inn := gI (-1) p g) Z.2.1 with ⟨h1, h2⟩ | ⟨q, h1, h2, h3, h4, h5, h6⟩
          · have := h2 k hk8
            rw [ein, hb] at this
            cases this
          · rw [h1]
            show (if q.2 < mS Z (-1) d (p + 1) g then none else some q.1) = some k
            have em := mS_s Z (-1) d p g
            rw [h1] at em
            have em : mS Z (-1) (d + 1) p g = (if q.2 < mS Z (-1) d (p + 1) g then mS Z (-1) d (p + 1) g else q.2) := em
            have hki : gI (-1) p g k = true := by rw [ein, hb]; rfl
            have h7 := h5 k hk8 hki
            by_cases z : q.2 < mS Z (-1) d (p + 1) g
            · rw [if_pos z] at em
              omega
            · rw [if_neg z] at em ⊢
              have hqk : q.1 = k := by
                by_cases z1 : q.1 < k
                · exact absurd (by rw [em, h4]) (hj q.1 z1 h3)
                · by_cases z2 : k < q.1
                  · have := h6 k z2 hki
                    omega
                  · omega
              rw [hqk]
        rw [hc]
        rfl
      · simp only [e2, i10, i00, decide_true, decide_false, cnd_t, cnd_f, gd_nil, gd_t, b1_0, b1_1, sw_nil, sw_cons, obs]
        refine ih (k + 1) n (by omega) (by omega) fun j hjk hji => ?_
        by_cases ej : j = k
        · subst ej; exact e2
        · exact hj j (by omega) hji
    · simp only [i10, i00, decide_true, decide_false, cnd_t, cnd_f, gd_nil, gd_t, b1_0, b1_1, sw_nil, sw_cons, obs, Bool.true_eq_false, nI_addo]
      refine ih (k + 1) n (by omega) (by omega) fun j hjk hji => ?_
      by_cases ej : j = k
      · subst ej; rw [ein, hb] at hji; cases hji
      · exact hj j (by omega) hji
theorem c_firstBest (hE : pE Z) (hO : pc_O Z o1 u) {p d g : Nat} (hp : p < Z.1) (hd : Z.1 - (p + 1) = d) (hg : g < 2 ^ Z.2.1) (hpc : pc g ≤ p) (ht : ∀ q, q ≤ Z.1 → tbl Z (-1) u q) : fX0_firstBest o1 (nI p) (nI g) u = some (eO (chS Z (-1) d p g), u) := by
  have hp6 := hE.1
  have hg8 := hE.2.1
  have hg2 : g < 256 := Nat.lt_of_lt_of_le hg (show 2 ^ Z.2.1 ≤ 2 ^ 8 from Nat.pow_le_pow_right (by decide) hg8)
  have e1 := ht p (by omega) g hg hpc
  rw [show Z.1 - p = d + 1 by omega] at e1
  unfold fX0_firstBest
  simp only [nI_mulo, nI_add]
  rw [c_at (by omega) (by decide), e1]
  simp only [obs]
  exact c_fb19 hE hO hp hd hg hpc (ht (p + 1) (by omega)) Z.2.1 0 fu (Nat.zero_add _) (by simp only [fu]; omega) (fun j hj => absurd hj (Nat.not_lt_zero j))
theorem gN_ok (hE : pE Z) {d p g : Nat} (hg : g < 2 ^ Z.2.1) (hpc : pc g ≤ p) : gN g (chS Z x d p g) < 2 ^ Z.2.1 ∧ pc (gN g (chS Z x d p g)) ≤ p + 1 := by
  have hg8 := hE.2.1
  have hg2 : g < 256 := Nat.lt_of_lt_of_le hg (show 2 ^ Z.2.1 ≤ 2 ^ 8 from Nat.pow_le_pow_right (by decide) hg8)
  cases h : chS Z x d p g with
  | none => exact ⟨hg, by show pc g ≤ p + 1; omega⟩
  | some k =>
    have h1 := (chS_lt h).1
    have h2 := pc_or hg2 (show k < 8 by omega)
    exact ⟨Nat.or_lt_two_pow hg (Nat.pow_lt_pow_right (by decide) h1), by show pc (g ||| 2 ^ k) ≤ p + 1; omega⟩
def dGu (a _k : Nat) : Prop := a = 154 ∨ a = 155 ∨ a = 156
theorem c_give22 (hE : pE Z) (ho : o1 + 12 ≤ 38) : ∀ (d p n g : Nat) (u : ab_S), pc_O Z o1 u → (∀ q, q ≤ Z.1 → tbl Z (-1) u q) → g < 2 ^ Z.2.1 → pc g ≤ p → p + d = Z.1 → d < n → ∃ u', fX0_giveOut_22 o1 n (nI g) (nI p) u = some ((), u') ∧ u'.1 154 0 = 1 ∧ (∀ j, p ≤ j → j < Z.1 → u'.1 155 j = rowF Z (-1) d p g j) ∧ Fr (fun a k => (a = 155 ∧ p ≤ k) ∨ (a = 154 ∧ k = 0)) u u' := by
  have hp6 := hE.1
  have hg8 := hE.2.1
  intro d
  induction d with
  | zero =>
    intro p n g u hO ht hg hpc hp hn
    obtain ⟨n, rfl⟩ : ∃ j, n = j + 1 := ⟨n - 1, by omega⟩
    have e : p = Z.1 := by omega
    subst e
    refine ⟨sI u 154 0 1, ?_, by rw [sI_at, if_pos ⟨rfl, rfl⟩], fun j a c => by omega, Fr.sI (Or.inr ⟨rfl, rfl⟩)⟩
    rw [fX0_giveOut_22, hO.1]
    simp (disch := first | omega | decide) only [i10, i00, decide_true, decide_false, cnd_t, cnd_f, gd_nil, gd_t, b1_0, b1_1, sw_nil, sw_cons, obs, Nat.not_lt_zero, nI_addo, nI_oadd, nI_add, nI_mulo, nI_omul, nI_mul, nI_lto, nI_leo, nI_olt, nI_ole, nI_eqo, nI_oeq, nI_lt2, nI_le2, nI_eq2, nI_nm1, nI_m1n, nI_lt0, nI_lem1, nc_nI, nc_o, ix_nI, ix_o, Nat.lt_irrefl]
  | succ d ih =>
    intro p n g u hO ht hg hpc hp hn
    obtain ⟨n, rfl⟩ : ∃ j, n = j + 1 := ⟨n - 1, by omega⟩
    have hp1 : p < Z.1 := by omega
    have hg2 : g < 256 := Nat.lt_of_lt_of_le hg (show 2 ^ Z.2.1 ≤ 2 ^ 8 from Nat.pow_le_pow_right (by decide) hg8)
    obtain ⟨k1, k2⟩ := gN_ok (x := -1) hE (d := d) hg hpc
    have f : Fr (fun a k => (a = 155 ∧ p ≤ k) ∨ (a = 154 ∧ k = 0)) u (sI u 155 p (eO (chS Z (-1) d p g))) := Fr.sI (Or.inl ⟨rfl, Nat.le_refl p⟩)
    obtain ⟨u', q1, q2, q3, q4⟩ := ih (p + 1) n (gN g (chS Z (-1) d p g)) (sI u 155 p (eO (chS Z (-1) d p g))) (hO.fr f (by intro a k a1 a2 q; omega)) (fun q c g' c1 c2 => by
      rw [sI_at, if_neg (by omega)]
      exact ht q c g' c1 c2) k1 k2 (by omega) (by omega)
    refine ⟨u', ?_, q2, ?_, f.trans (q4.mono fun a k z => by omega)⟩
    · rw [fX0_giveOut_22, hO.1]
      simp (disch := first | omega | decide) only [i10, i00, decide_true, decide_false, cnd_t, cnd_f, gd_nil, gd_t, b1_0, b1_1, sw_nil, sw_cons, obs, nI_lt2, hp1]
      rw [c_firstBest hE hO hp1 (show Z.1 - (p + 1) = d by omega) hg hpc ht]
      simp only [obs]
      rw [c_put (by omega) (by decide)]
      simp only [obs, nI_addo]
      cases hc : chS Z (-1) d p g with
      | none =>
        rw [hc] at q1
        simp only [eO, i10, i00, decide_true, decide_false, cnd_t, cnd_f, gd_nil, gd_t, b1_0, b1_1, sw_nil, sw_cons, obs, Int32.or_zero] at q1 ⊢
        exact q1
      | some k =>
        have hk := (chS_lt hc).1
        rw [hc] at q1
        simp (disch := first | omega | decide) only [eO, nI_nm1, i10, i00, decide_true, decide_false, cnd_t, cnd_f, gd_nil, gd_t, b1_0, b1_1, sw_nil, sw_cons, obs, zb_or hg2 (show k < 8 by omega)] at q1 ⊢
        exact q1
    · intro j a c
      rw [rowF]
      by_cases e : j = p
      · subst e
        rw [if_pos rfl, q4.1 155 j (by omega), sI_at, if_pos ⟨rfl, rfl⟩]
      · rw [if_neg e]
        exact q3 j (by omega) c
def gR (Z : dZ) (u : ab_S) : Prop := u.1 154 0 = 0 ∨ (u.1 154 0 = 1 ∧ u.1 154 1 = nI (mS Z (-1) Z.1 0 0) ∧ ∀ j, j < Z.1 → u.1 155 j = rowF Z (-1) Z.1 0 0 j)
theorem c_give (hE : pE Z) (ho : o1 + 12 ≤ 38) (hO : pc_O Z o1 u) (hR : gR Z u) : ∃ u', fX0_giveOut o1 u = some ((), u') ∧ u'.1 154 0 = 1 ∧ u'.1 154 1 = nI (mS Z (-1) Z.1 0 0) ∧ (∀ j, j < Z.1 → u'.1 155 j = rowF Z (-1) Z.1 0 0 j) ∧ Fr dGu u u' := by
  unfold fX0_giveOut
  rcases hR with h | ⟨h1, h2, h3⟩
  · obtain ⟨u1, q1, q2, q3⟩ := c_without hE ho hO (-1)
    have f1 : Fr (fun a k => a = 154 ∧ k = 1) u1 (sI u1 154 1 (nI (mS Z (-1) Z.1 0 0))) := Fr.sI ⟨rfl, rfl⟩
    obtain ⟨u', w1, w2, w3, w4⟩ := c_give22 hE ho Z.1 0 fu 0 (sI u1 154 1 (nI (mS Z (-1) Z.1 0 0))) ((hO.fr q3 (by intro a k a1 a2 q; omega)).fr f1 (by intro a k a1 a2 q; omega)) (fun q c g' c1 c2 => by rw [sI_at, if_neg (by omega)]; exact q2 q c g' c1 c2) (Nat.two_pow_pos _) (by decide) (Nat.zero_add _) (by have := hE.1; simp only [fu]; omega)
    rw [h, q1]
    simp only [i10, i00, decide_true, decide_false, cnd_t, cnd_f, gd_nil, gd_t, b1_0, b1_1, sw_nil, sw_cons, obs]
    have w1' : fX0_giveOut_22 o1 fu 0 0 (sI u1 154 1 (nI (mS Z (-1) Z.1 0 0))) = some ((), u') := w1
    refine ⟨u', w1', w2, ?_, fun j hj => w3 j (Nat.zero_le j) hj, ?_⟩
    · rw [w4.1 _ _ (by omega), sI_at, if_pos ⟨rfl, rfl⟩]
    · refine Fr.trans (q3.mono ?_) (Fr.trans (f1.mono ?_) (w4.mono ?_))
      · intro a k z; exact Or.inr (Or.inr z)
      · intro a k z; exact Or.inl z.1
      · intro a k z
        rcases z with z | z
        · exact Or.inr (Or.inl z.1)
        · exact Or.inl z.1
  · rw [h1]
    simp only [i10, i00, decide_true, decide_false, cnd_t, cnd_f, gd_nil, gd_t, b1_0, b1_1, sw_nil, sw_cons, obs]
    exact ⟨u, rfl, h1, h2, h3, Fr.rfl'⟩
theorem c_given {p : Nat} (hp : p < 6) : fX0_givenTo (nI p) u = some (u.1 155 p, u) := by
  unfold fX0_givenTo
  simp (disch := first | omega | decide) only [i10, i00, decide_true, decide_false, cnd_t, cnd_f, gd_nil, gd_t, b1_0, b1_1, sw_nil, sw_cons, obs, Nat.not_lt_zero, nI_addo, nI_oadd, nI_add, nI_mulo, nI_omul, nI_mul, nI_lto, nI_leo, nI_olt, nI_ole, nI_eqo, nI_oeq, nI_lt2, nI_le2, nI_eq2, nI_nm1, nI_m1n, nI_lt0, nI_lem1, nc_nI, nc_o, ix_nI, ix_o, hp]
-- ===== the reference's search =====
def btr (M : Option Nat) (t : Nat) : Bool := match M with
  | none => true
  | some m => decide (m < t)
def dGv (a k : Nat) : Prop := a = 14 ∨ a = 15 ∨ a = 21 ∨ a = 22 ∨ (a = 0 ∧ k = 32)
def stG (Z : dZ) (v : ab_S) (p : Nat) (M : Option Nat) (B R : Nat → Int32) : Prop := pm_O Z v ∧ v.1 0 32 = eO M ∧ (∀ j, j < Z.1 → v.1 22 j = B j) ∧ (∀ j, j < p → v.1 21 j = R j) ∧ (∀ m, M = some m → m ≤ 1000)
def cmb (R : Nat → Int32) (p : Nat) (X : Nat → Int32) (j : Nat) : Int32 := if j < p then R j else X j
def upM (M : Option Nat) (t : Nat) : Option Nat := if btr M t then some t else M
def upB (M : Option Nat) (t : Nat) (B X : Nat → Int32) : Nat → Int32 := if btr M t then X else B
theorem stG.dgv (h : ∃ D : Nat → Nat → Prop, D = dGv) : True := trivial
theorem le_eO {M : Option Nat} {t : Nat} (hM : ∀ m, M = some m → m ≤ 1000) (ht : t ≤ 1000) : (nI t ≤ eO M) = (btr M t = false) := by
  cases M with
  | none =>
    simp (disch := first | omega | decide) only [eO, nI_lem1, btr, Bool.true_eq_false]
  | some m =>
    have := hM m rfl
    simp (disch := first | omega | decide) only [eO, nI_le2, btr, decide_eq_false_iff_not, Nat.not_lt]
theorem m_leaf {G : Int32 → Int32 → Int32 → Int32 → ab_S → Option (Unit × ab_S)} (hE : pE Z) {sm : Nat} (hsm : sm ≤ 1000) {M : Option Nat} {B R : Nat → Int32} : ∀ (d k n : Nat) (v : ab_S), k + d = 6 → d < n → pm_O Z v → v.1 0 32 = eO M → (∀ m, M = some m → m ≤ 1000) → btr M sm = true → (∀ j, j < k → v.1 22 j = v.1 21 j) → ∃ v', fX10_givesFrom_11 G n (nI sm) (nI k) v = some ((), v') ∧ v'.1 0 32 = nI sm ∧ (∀ j, j < 6 → v'.1 22 j = v.1 21 j) ∧ Fr (fun a k => a = 22 ∨ (a = 0 ∧ k = 32)) v v' := by
  intro d
  induction d with
  | zero =>
    intro k n v hk hn hm hM hMb hbt hj
    obtain ⟨n, rfl⟩ : ∃ j, n = j + 1 := ⟨n - 1, by omega⟩
    have e : k = 6 := by omega
    subst e
    have el : ¬ nI sm ≤ eO M := by rw [le_eO hMb hsm, hbt]; simp only [Bool.true_eq_false, not_false_eq_true]
    refine ⟨sI v 0 32 (nI sm), ?_, by rw [sI_at, if_pos ⟨rfl, rfl⟩], fun j hj6 => ?_, Fr.sI (Or.inr ⟨rfl, rfl⟩)⟩
    · rw [fX10_givesFrom_11]
      unfold fX10_givesFrom_46
      simp (disch := first | omega | decide) only [i10, i00, decide_true, decide_false, cnd_t, cnd_f, gd_nil, gd_t, b1_0, b1_1, sw_nil, sw_cons, obs, Nat.not_lt_zero, nI_addo, nI_oadd, nI_add, nI_mulo, nI_omul, nI_mul, nI_lto, nI_leo, nI_olt, nI_ole, nI_eqo, nI_oeq, nI_lt2, nI_le2, nI_eq2, nI_nm1, nI_m1n, nI_lt0, nI_lem1, nc_nI, nc_o, ix_nI, ix_o, Nat.lt_irrefl, hM, el]
    · rw [sI_at, if_neg (by omega)]
      exact hj j hj6
  | succ d ih =>
    intro k n v hk hn hm hM hMb hbt hj
    obtain ⟨n, rfl⟩ : ∃ j, n = j + 1 := ⟨n - 1, by omega⟩
    have hk6 : k < 6 := by omega
    have el : ¬ nI sm ≤ eO M := by rw [le_eO hMb hsm, hbt]; simp only [Bool.true_eq_false, not_false_eq_true]
    have f : Fr (fun a k => a = 22 ∨ (a = 0 ∧ k = 32)) v (sI v 22 k (v.1 21 k)) := Fr.sI (Or.inl rfl)
    obtain ⟨v', q1, q2, q3, q4⟩ := ih (k + 1) n (sI v 22 k (v.1 21 k)) (by omega) (by omega) (hm.fr f (by intro a k a1 a2 q; omega)) (by rw [sI_at, if_neg (by omega)]; exact hM) hMb hbt (fun j hjk => by
      by_cases e : j = k
      · subst e
        rw [sI_at, if_pos ⟨rfl, rfl⟩, sI_at, if_neg (by omega)]
      · rw [sI_at, if_neg (by omega), sI_at, if_neg (by omega)]; exact hj j (by omega))
    refine ⟨v', ?_, q2, fun j hj6 => ?_, f.trans q4⟩
    · rw [fX10_givesFrom_11]
      simp (disch := first | omega | decide) only [i10, i00, decide_true, decide_false, cnd_t, cnd_f, gd_nil, gd_t, b1_0, b1_1, sw_nil, sw_cons, obs, nI_lto, hk6, hM, el, ix_nI, nc_nI, nI_addo]
      exact q1
    · rw [q3 j hj6, sI_at, if_neg (by omega)]
theorem m_leaf0 {G : Int32 → Int32 → Int32 → Int32 → ab_S → Option (Unit × ab_S)} (hE : pE Z) {sm : Nat} (hsm : sm ≤ 1000) {M : Option Nat} {B R : Nat → Int32} (h : stG Z v Z.1 M B R) : ∃ v', fX10_givesFrom_11 G fu (nI sm) 0 v = some ((), v') ∧ stG Z v' Z.1 (upM M sm) (upB M sm B R) R ∧ Fr dGv v v' := by
  have hp6 := hE.1
  obtain ⟨h1, h2, h3, h4, h5⟩ := h
  cases hb : btr M sm
  · have el : nI sm ≤ eO M := by rw [le_eO h5 hsm, hb]
    have f5 : fu = 4999 + 1 := rfl
    have h06 : ((0 : Int32) < 6) = True := eq_true (by decide +kernel)
    have f : Fr dGv v (sI v 0 32 (eO M)) := Fr.sI (Or.inr (Or.inr (Or.inr (Or.inr ⟨rfl, rfl⟩))))
    refine ⟨sI v 0 32 (eO M), ?_, ⟨h1.fr f (by intro a k a1 a2 q; rcases q with q | q | q | q | q <;> omega), ?_, ?_, ?_, ?_⟩, f⟩
    · rw [f5, fX10_givesFrom_11]
      unfold fX10_givesFrom_46
      simp only [h06, h2, el, i10, i00, decide_true, decide_false, cnd_t, cnd_f, gd_nil, gd_t, b1_0, b1_1, sw_nil, sw_cons, obs]
    · unfold upM; rw [hb, sI_at, if_pos ⟨rfl, rfl⟩]; rfl
    · intro j hj
      unfold upB; rw [hb, sI_at, if_neg (by omega)]; exact h3 j hj
    · intro j hj
      rw [sI_at, if_neg (by omega)]; exact h4 j hj
    · intro m hm
      unfold upM at hm; rw [hb] at hm; exact h5 m hm
  · obtain ⟨v', q1, q2, q3, q4⟩ := m_leaf (G := G) hE hsm (B := B) (R := R) 6 0 fu v rfl (by decide) h1 h2 h5 hb (fun j hj => absurd hj (Nat.not_lt_zero j))
    have q4' : Fr dGv v v' := q4.mono fun a k z => by
      rcases z with z | z
      · exact Or.inr (Or.inr (Or.inr (Or.inl z)))
      · exact Or.inr (Or.inr (Or.inr (Or.inr z)))
    refine ⟨v', q1, ⟨h1.fr q4' (by intro a k a1 a2 q; rcases q with q | q | q | q | q <;> omega), ?_, ?_, ?_, ?_⟩, q4'⟩
    · unfold upM; rw [hb]; exact q2
    · intro j hj
      unfold upB; rw [hb]
      show v'.1 22 j = R j
      rw [q3 j (by omega)]; exact h4 j hj
    · intro j hj
      rw [q4.1 21 j (by omega)]; exact h4 j hj
    · intro m hm
      unfold upM at hm; rw [hb] at hm
      cases hm
      exact hsm
end PU
