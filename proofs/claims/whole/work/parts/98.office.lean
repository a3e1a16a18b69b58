/-! the fits worked out; what the reference answers for them -/
def clN (x : Int32) : Nat := if x < 0 then 0 else if x ≤ 99 then nc x else 99
theorem x_cases (x : Int32) : (x < 0 ∧ x < 99 ∧ ¬ 0 < x ∧ clN x = 0) ∨ (∃ j, j < 2147483648 ∧ x = nI j ∧ clN x = if j ≤ 99 then j else 99) := by
  by_cases h : x < 0
  · have h' := h
    rw [Int32.lt_iff_toInt_lt, show (0 : Int32).toInt = 0 by decide +kernel] at h'
    refine Or.inl ⟨h, ?_, ?_, by rw [clN, if_pos h]⟩
    · rw [Int32.lt_iff_toInt_lt, show (99 : Int32).toInt = 99 by decide +kernel]; omega
    · rw [Int32.lt_iff_toInt_lt, show (0 : Int32).toInt = 0 by decide +kernel]; omega
  · obtain ⟨j, hj, rfl⟩ := nI_of h
    refine Or.inr ⟨j, hj, rfl, ?_⟩
    rw [clN, if_neg h]
    have e : nI j ≤ 99 ↔ j ≤ 99 := nI_leI (b := 99) hj (by decide)
    by_cases e2 : j ≤ 99
    · rw [if_pos (e.mpr e2), if_pos e2, nc_nI hj]
    · rw [if_neg (fun z => e2 (e.mp z)), if_neg e2]
theorem clN_le (x : Int32) : clN x ≤ 99 := by
  obtain ⟨-, -, -, h⟩ | ⟨j, -, -, h⟩ := x_cases x
  · omega
  · rw [h]
    by_cases e : j ≤ 99
    · rw [if_pos e]; exact e
    · rw [if_neg e]; exact Nat.le_refl _
theorem c_clamp (x : Int32) : (if 0 < (if x < 99 then x else 99) then (if x < 99 then x else 99) else 0) = nI (clN x) := by
  obtain ⟨h1, h2, h3, h4⟩ | ⟨j, h1, h2, h4⟩ := x_cases x
  · rw [h4, if_pos h2, if_neg h3]; rfl
  · rw [h4]
    subst h2
    have e : nI j < 99 ↔ j < 99 := nI_ltI (b := 99) h1 (by decide)
    have e0 : 0 < nI j ↔ 0 < j := nI_ltI (a := 0) (by decide) h1
    by_cases e2 : j < 99
    · rw [if_pos (e.mpr e2), if_pos (show j ≤ 99 by omega)]
      by_cases e3 : 0 < j
      · rw [if_pos (e0.mpr e3)]
      · have ej : j = 0 := by omega
        subst ej
        rw [if_neg (fun z => e3 (e0.mp z))]; rfl
    · rw [if_neg (fun z => e2 (e.mp z)), if_pos (by decide +kernel)]
      by_cases e3 : j ≤ 99
      · have ej : j = 99 := by omega
        subst ej
        rw [if_pos (Nat.le_refl _)]; rfl
      · rw [if_neg e3]; rfl
theorem m_clamp (x : Int32) (v : ab_S) : fX10_fitBy_95 x v = some (nI (clN x), v) := by
  unfold fX10_fitBy_95
  obtain ⟨h1, h2, h3, h4⟩ | ⟨j, h1, h2, h4⟩ := x_cases x
  · rw [h4]
    simp only [h1, i10, i00, decide_true, decide_false, cnd_t, cnd_f, gd_nil, gd_t, b1_0, b1_1, sw_nil, sw_cons, obs]
    rfl
  · rw [h4]
    subst h2
    have e : nI j ≤ 99 ↔ j ≤ 99 := nI_leI (b := 99) h1 (by decide)
    by_cases e2 : j ≤ 99
    · simp only [nI_pos h1, e.mpr e2, i10, i00, decide_true, decide_false, cnd_t, cnd_f, gd_nil, gd_t, b1_0, b1_1, sw_nil, sw_cons, obs, if_pos e2]
    · have e3 : ¬ nI j ≤ 99 := fun z => e2 (e.mp z)
      simp only [nI_pos h1, e3, i10, i00, decide_true, decide_false, cnd_t, cnd_f, gd_nil, gd_t, b1_0, b1_1, sw_nil, sw_cons, obs, if_neg e2]
      rfl
def fctS (g : Nat → Nat → Int32) (p k j : Nat) : Nat → Int32 := fun a => if a = 0 then g 6 (16 + 2 * k) else if a = 1 then (if g 6 (17 + 2 * k) = nI p then 1 else 0) else if a = 2 then g 6 (32 + 8 * p + k) else nI j
def FTS (g : Nat → Nat → Int32) (cs : List Int32) (p k j : Nat) : Nat := clN (peS (fctS g p k j) cs 0 (fun _ => 0))
def BHS (o np ng : Nat) (g : Nat → Nat → Int32) (cs : List Int32) (u : ab_S) : Prop := u.1 o 0 = nI np ∧ u.1 o 1 = nI ng ∧ (∀ k, k < ng → u.1 (o + 5) k = g 6 (16 + 2 * k)) ∧ (∀ k, k < ng → u.1 (o + 6) k = g 6 (17 + 2 * k)) ∧ (∀ p, p < 6 → ∀ k, k < 8 → u.1 (o + 7) (p * 8 + k) = g 6 (32 + 8 * p + k)) ∧ u.1 (o + 8) 1 = nI cs.length ∧ (∀ i, i < cs.length → u.1 (o + 9) i = cs.getD i 0)
def DNS (o np ng : Nat) (g : Nat → Nat → Int32) (cs : List Int32) (u : ab_S) (p k j : Nat) : Prop := ∀ p' k' j', p' < np → k' < ng → j' < ng → (p' < p ∨ (p' = p ∧ (k' < k ∨ (k' = k ∧ j' < j)))) → u.1 (o + 11) ((p' * 8 + k') * 8 + j') = nI (FTS g cs p' k' j')
def dWF (o a k : Nat) : Prop := a = o + 10 ∨ a = o + 11 ∨ (a = o + 8 ∧ k = 3)
section PU
variable {u v u' v' : ab_S} {n T i o np ng : Nat} {g : Nat → Nat → Int32} {cs : List Int32}
theorem BHS.fr (h : BHS o np ng g cs u) (f : Fr (dWF o) u u') : BHS o np ng g cs u' := by
  obtain ⟨h1, h2, h3, h4, h5, h6, h7⟩ := h
  refine ⟨(f.1 _ _ (by unfold dWF; omega)).trans h1, (f.1 _ _ (by unfold dWF; omega)).trans h2, fun k hk => (f.1 _ _ (by unfold dWF; omega)).trans (h3 k hk), fun k hk => (f.1 _ _ (by unfold dWF; omega)).trans (h4 k hk), fun p hp k hk => (f.1 _ _ (by unfold dWF; omega)).trans (h5 p hp k hk), (f.1 _ _ (by unfold dWF; omega)).trans h6, fun i hi => (f.1 _ _ (by unfold dWF; omega)).trans (h7 i hi)⟩
theorem c_fit44 (hp6 : np ≤ 6) (hg8 : ng ≤ 8) (hc : cs.length ≤ 1000) (hk : okc cs 0 1) (h : BHS o np ng g cs u) {p k j : Nat} (hp : p < np) (hk8 : k < ng) (hj : j < ng) (hD : DNS o np ng g cs u p k j) (k2 : Int32 → ab_S → Option (Unit × ab_S)) (k12 : Int32 → Int32 → ab_S → Option (Unit × ab_S)) (k22 : Int32 → Int32 → Int32 → ab_S → Option (Unit × ab_S)) : ∃ w, fX2_workOutFits_44 o k2 k12 k22 (nI p) (nI k) (nI j) (if g 6 (17 + 2 * k) = nI p then 1 else 0) u = k22 (nI p) (nI k) (nI (j + 1)) w ∧ DNS o np ng g cs w p k (j + 1) ∧ Fr (dWF o) u w := by
  obtain ⟨h1, h2, h3, h4, h5, h6, h7⟩ := h
  have eW : fX2_worthOf o (nI k) u = some (g 6 (16 + 2 * k), u) := by
    unfold fX2_worthOf
    rw [c_at (by omega) (by decide), h3 k hk8]
    rfl
  have eL : fX2_likeOf o (nI p) (nI k) u = some (g 6 (32 + 8 * p + k), u) := by
    rw [c_like (by omega) (by omega), h5 p (by omega) k (by omega)]
  have f0 : Fr (dWF o) u (sI u (o + 8) 3 0) := Fr.sI (Or.inr (Or.inr ⟨rfl, rfl⟩))
  obtain ⟨u1, w1, w2⟩ := c_work (q := o + 8) (fctS g p k j) cs 0 cs.length 0 fu (fun _ => 0) (sI u (o + 8) 3 0) (by rw [sI_at, if_neg (by omega)]; exact h6) (Nat.zero_add _) hc (fun i hi => by rw [sI_at, if_neg (by omega), Nat.zero_add]; exact h7 i hi) (by rw [sI_at, if_pos ⟨rfl, rfl⟩]; rfl) (fun i hi => absurd hi (Nat.not_lt_zero i)) (by decide) hk (show cs.length < 5000 by omega)
  have w1' : fX1_work (o + 8) (g 6 (16 + 2 * k)) (if g 6 (17 + 2 * k) = nI p then 1 else 0) (g 6 (32 + 8 * p + k)) (nI j) u = some (peS (fctS g p k j) cs 0 (fun _ => 0), u1) := w1
  have e1 : nI p * 8 = nI (p * 8) := nI_mul p 8
  have e2 : nI (p * 8 + k) * 8 = nI ((p * 8 + k) * 8) := nI_mul _ 8
  have fW : Fr (dWF o) u u1 := f0.trans (w2.mono fun a k z => by unfold dWk at z; unfold dWF; omega)
  have fX : Fr (dWF o) u (sI u1 (o + 11) ((p * 8 + k) * 8 + j) (nI (FTS g cs p k j))) := fW.trans (Fr.sI (Or.inr (Or.inl rfl)))
  refine ⟨sI u1 (o + 11) ((p * 8 + k) * 8 + j) (nI (FTS g cs p k j)), ?_, fun p' k' j' a1 a2 a3 a4 => ?_, fX⟩
  · unfold fX2_workOutFits_44 fX2_fitIndex
    rw [eW]
    simp only [obs, eL, w1', e1, e2, nI_add]
    rw [put_eq (by omega) (by decide), c_clamp]
    simp only [obs, show nI j + 1 = nI (j + 1) from nI_1 j, FTS]
  · by_cases e : p' = p ∧ k' = k ∧ j' = j
    · obtain ⟨rfl, rfl, rfl⟩ := e
      rw [sI_at, if_pos ⟨rfl, rfl⟩]
    · have ne : ¬ (o + 11 = o + 11 ∧ (p' * 8 + k') * 8 + j' = (p * 8 + k) * 8 + j) := by omega
      rw [sI_at, if_neg ne, w2.1 _ _ (by unfold dWk; omega), sI_at, if_neg (by omega)]
      exact hD p' k' j' a1 a2 a3 (by omega)
theorem c_fit22 (hp6 : np ≤ 6) (hg8 : ng ≤ 8) (hc : cs.length ≤ 1000) (hk : okc cs 0 1) {p k : Nat} (hp : p < np) (hk8 : k < ng) (k2 : Int32 → ab_S → Option (Unit × ab_S)) (k12 : Int32 → Int32 → ab_S → Option (Unit × ab_S)) : ∀ d j N (u : ab_S), j + d = ng → d < N → BHS o np ng g cs u → DNS o np ng g cs u p k j → ∃ w, fX2_workOutFits_22 o k2 k12 N (nI p) (nI k) (nI j) u = k12 (nI p) (nI (k + 1)) w ∧ DNS o np ng g cs w p (k + 1) 0 ∧ Fr (dWF o) u w := by
  intro d
  induction d with
  | zero =>
    intro j N u hd hN h hD
    obtain ⟨N, rfl⟩ : ∃ m, N = m + 1 := ⟨N - 1, by omega⟩
    refine ⟨u, ?_, fun p' k' j' a1 a2 a3 a4 => hD p' k' j' a1 a2 a3 (by omega), Fr.rfl'⟩
    rw [fX2_workOutFits_22, h.2.1]
    simp (disch := first | omega | decide) only [i10, i00, decide_true, decide_false, cnd_t, cnd_f, gd_nil, gd_t, b1_0, b1_1, sw_nil, sw_cons, obs, Nat.not_lt_zero, nI_addo, nI_oadd, nI_add, nI_mulo, nI_omul, nI_mul, nI_lto, nI_leo, nI_olt, nI_ole, nI_eqo, nI_oeq, nI_lt2, nI_le2, nI_eq2, nI_nm1, nI_m1n, nI_lt0, nI_lem1, nc_nI, nc_o, ix_nI, ix_o, show ¬ j < ng by omega]
  | succ d ih =>
    intro j N u hd hN h hD
    obtain ⟨N, rfl⟩ : ∃ m, N = m + 1 := ⟨N - 1, by omega⟩
    obtain ⟨w, w1, w2, w3⟩ := c_fit44 hp6 hg8 hc hk h hp hk8 (show j < ng by omega) hD k2 k12 (fX2_workOutFits_22 o k2 k12 N)
    obtain ⟨w', z1, z2, z3⟩ := ih (j + 1) N w (by omega) (by omega) (h.fr w3) w2
    have eO : fX2_ownerOf o (nI k) u = some (g 6 (17 + 2 * k), u) := by
      unfold fX2_ownerOf
      rw [c_at (by omega) (by decide), h.2.2.2.1 k hk8]
      rfl
    refine ⟨w', ?_, z2, w3.trans z3⟩
    rw [fX2_workOutFits_22, h.2.1, ← z1, ← w1, eO]
    simp (disch := first | omega | decide) only [i10, i00, decide_true, decide_false, cnd_t, cnd_f, gd_nil, gd_t, b1_0, b1_1, sw_nil, sw_cons, obs, Nat.not_lt_zero, nI_addo, nI_oadd, nI_add, nI_mulo, nI_omul, nI_mul, nI_lto, nI_leo, nI_olt, nI_ole, nI_eqo, nI_oeq, nI_lt2, nI_le2, nI_eq2, nI_nm1, nI_m1n, nI_lt0, nI_lem1, nc_nI, nc_o, ix_nI, ix_o, show j < ng by omega]
    by_cases e : g 6 (17 + 2 * k) = nI p
    · simp only [e, i10, i00, decide_true, decide_false, cnd_t, cnd_f, gd_nil, gd_t, b1_0, b1_1, sw_nil, sw_cons, obs, if_true]
    · simp only [e, i10, i00, decide_true, decide_false, cnd_t, cnd_f, gd_nil, gd_t, b1_0, b1_1, sw_nil, sw_cons, obs, if_false]
theorem c_fit12 (hp6 : np ≤ 6) (hg8 : ng ≤ 8) (hc : cs.length ≤ 1000) (hk : okc cs 0 1) {p : Nat} (hp : p < np) (k2 : Int32 → ab_S → Option (Unit × ab_S)) : ∀ d k N (u : ab_S), k + d = ng → d < N → BHS o np ng g cs u → DNS o np ng g cs u p k 0 → ∃ w, fX2_workOutFits_12 o k2 N (nI p) (nI k) u = k2 (nI (p + 1)) w ∧ DNS o np ng g cs w (p + 1) 0 0 ∧ Fr (dWF o) u w := by
  intro d
  induction d with
  | zero =>
    intro k N u hd hN h hD
    obtain ⟨N, rfl⟩ : ∃ m, N = m + 1 := ⟨N - 1, by omega⟩
    refine ⟨u, ?_, fun p' k' j' a1 a2 a3 a4 => hD p' k' j' a1 a2 a3 (by omega), Fr.rfl'⟩
    rw [fX2_workOutFits_12, h.2.1]
    simp (disch := first | omega | decide) only [i10, i00, decide_true, decide_false, cnd_t, cnd_f, gd_nil, gd_t, b1_0, b1_1, sw_nil, sw_cons, obs, Nat.not_lt_zero, nI_addo, nI_oadd, nI_add, nI_mulo, nI_omul, nI_mul, nI_lto, nI_leo, nI_olt, nI_ole, nI_eqo, nI_oeq, nI_lt2, nI_le2, nI_eq2, nI_nm1, nI_m1n, nI_lt0, nI_lem1, nc_nI, nc_o, ix_nI, ix_o, show ¬ k < ng by omega]
  | succ d ih =>
    intro k N u hd hN h hD
    obtain ⟨N, rfl⟩ : ∃ m, N = m + 1 := ⟨N - 1, by omega⟩
    obtain ⟨w, w1, w2, w3⟩ := c_fit22 hp6 hg8 hc hk hp (show k < ng by omega) k2 (fX2_workOutFits_12 o k2 N) ng 0 fu u (Nat.zero_add _) (show ng < 5000 by omega) h hD
    obtain ⟨w', z1, z2, z3⟩ := ih (k + 1) N w (by omega) (by omega) (h.fr w3) w2
    have w1' : fX2_workOutFits_22 o k2 (fX2_workOutFits_12 o k2 N) fu (nI p) (nI k) 0 u = fX2_workOutFits_12 o k2 N (nI p) (nI (k + 1)) w := w1
    refine ⟨w', ?_, z2, w3.trans z3⟩
    rw [fX2_workOutFits_12, h.2.1, ← z1, ← w1']
    simp (disch := first | omega | decide) only [i10, i00, decide_true, decide_false, cnd_t, cnd_f, gd_nil, gd_t, b1_0, b1_1, sw_nil, sw_cons, obs, Nat.not_lt_zero, nI_addo, nI_oadd, nI_add, nI_mulo, nI_omul, nI_mul, nI_lto, nI_leo, nI_olt, nI_ole, nI_eqo, nI_oeq, nI_lt2, nI_le2, nI_eq2, nI_nm1, nI_m1n, nI_lt0, nI_lem1, nc_nI, nc_o, ix_nI, ix_o, show k < ng by omega]
theorem c_fit2 (hp6 : np ≤ 6) (hg8 : ng ≤ 8) (hc : cs.length ≤ 1000) (hk : okc cs 0 1) : ∀ d p N (u : ab_S), p + d = np → d < N → BHS o np ng g cs u → DNS o np ng g cs u p 0 0 → ∃ w, fX2_workOutFits_2 o N (nI p) u = some ((), w) ∧ DNS o np ng g cs w np 0 0 ∧ Fr (dWF o) u w := by
  intro d
  induction d with
  | zero =>
    intro p N u hd hN h hD
    obtain ⟨N, rfl⟩ : ∃ m, N = m + 1 := ⟨N - 1, by omega⟩
    have ep : p = np := by omega
    subst ep
    refine ⟨u, ?_, hD, Fr.rfl'⟩
    rw [fX2_workOutFits_2, h.1]
    simp (disch := first | omega | decide) only [i10, i00, decide_true, decide_false, cnd_t, cnd_f, gd_nil, gd_t, b1_0, b1_1, sw_nil, sw_cons, obs, Nat.not_lt_zero, nI_addo, nI_oadd, nI_add, nI_mulo, nI_omul, nI_mul, nI_lto, nI_leo, nI_olt, nI_ole, nI_eqo, nI_oeq, nI_lt2, nI_le2, nI_eq2, nI_nm1, nI_m1n, nI_lt0, nI_lem1, nc_nI, nc_o, ix_nI, ix_o, Nat.lt_irrefl]
  | succ d ih =>
    intro p N u hd hN h hD
    obtain ⟨N, rfl⟩ : ∃ m, N = m + 1 := ⟨N - 1, by omega⟩
    obtain ⟨w, w1, w2, w3⟩ := c_fit12 hp6 hg8 hc hk (show p < np by omega) (fX2_workOutFits_2 o N) ng 0 fu u (Nat.zero_add _) (show ng < 5000 by omega) h hD
    obtain ⟨w', z1, z2, z3⟩ := ih (p + 1) N w (by omega) (by omega) (h.fr w3) w2
    have w1' : fX2_workOutFits_12 o (fX2_workOutFits_2 o N) fu (nI p) 0 u = fX2_workOutFits_2 o N (nI (p + 1)) w := w1
    refine ⟨w', ?_, z2, w3.trans z3⟩
    rw [fX2_workOutFits_2, h.1, ← z1, ← w1']
    simp (disch := first | omega | decide) only [i10, i00, decide_true, decide_false, cnd_t, cnd_f, gd_nil, gd_t, b1_0, b1_1, sw_nil, sw_cons, obs, Nat.not_lt_zero, nI_addo, nI_oadd, nI_add, nI_mulo, nI_omul, nI_mul, nI_lto, nI_leo, nI_olt, nI_ole, nI_eqo, nI_oeq, nI_lt2, nI_le2, nI_eq2, nI_nm1, nI_m1n, nI_lt0, nI_lem1, nc_nI, nc_o, ix_nI, ix_o, show p < np by omega]
theorem c_fits (hp6 : np ≤ 6) (hg8 : ng ≤ 8) (hc : cs.length ≤ 1000) (hk : okc cs 0 1) (h : BHS o np ng g cs u) : ∃ w, fX2_workOutFits o u = some ((), w) ∧ (∀ p k j, p < np → k < ng → j < ng → w.1 (o + 11) ((p * 8 + k) * 8 + j) = nI (FTS g cs p k j)) ∧ Fr (dWF o) u w := by
  obtain ⟨w, w1, w2, w3⟩ := c_fit2 hp6 hg8 hc hk np 0 fu u (Nat.zero_add _) (show np < 5000 by omega) h (fun p' k' j' a1 a2 a3 a4 => by omega)
  exact ⟨w, w1, fun p k j a b c => w2 p k j a b c (Or.inl a), w3⟩
-- the reference's fit
def LCS (cs : List Int32) (g : Nat → Nat → Int32) : Prop := (g 6 3 = -1 ∧ cs = [-1, -3, -10]) ∨ (g 6 3 = 0 ∧ cs.length ≤ 1000 ∧ sgm 30 cs ∧ (∀ i, i < cs.length → cE (cs.getD i 0) (g 7 i) (g 8 i)) ∧ g 7 cs.length = 0)
theorem LCS.ok (h : LCS cs g) : okc cs 0 1 ∧ cs.length ≤ 1000 := by
  obtain ⟨-, h⟩ | ⟨-, h1, h2, -⟩ := h
  · subst h
    exact ⟨Or.inl ⟨Or.inl rfl, by decide, Or.inl ⟨Or.inr (Or.inr (Or.inl rfl)), by decide, Or.inr (Or.inr ⟨Or.inr (Or.inr (Or.inr (Or.inr (Or.inl rfl)))), by decide, rfl⟩)⟩⟩, by decide⟩
  · exact ⟨h2 0 (by decide), h1⟩
theorem usual_pe (f : Nat → Int32) : peS f [-1, -3, -10] 0 (fun _ => 0) = f 0 + f 2 := by
  rw [peS_push (Or.inl rfl), peS_push (Or.inr (Or.inr (Or.inl rfl))), peS_bin (Or.inr (Or.inr (Or.inr (Or.inr (Or.inl rfl))))), peS, jn_10, show pvS f (-1) = f 0 from pvS_f f 0 (by decide), show pvS f (-3) = f 2 from pvS_f f 2 (by decide)]
  rfl
theorem m_fitL (h6 : np ≤ 6) (h8 : ng ≤ 8) (hL : LCS cs g) : pL (np, ng, g, FTS g cs) := by
  intro v hm p k j hp hk hj
  have hp' : p < np := hp
  have hk' : k < ng := hk
  have hj' : j < ng := hj
  have hm1 : ∀ k, k < 90 → v.1 6 k = g 6 k := hm.1
  have hm2 : ∀ k, k < 1100 → v.1 7 k = g 7 k := hm.2.1
  have hm3 : ∀ k, k < 1100 → v.1 8 k = g 8 k := hm.2.2
  show Wp (fX10_fitBy (nI p) (nI k) (nI j) v) (fun r v' => r = nI (FTS g cs p k j) ∧ Sc v v')
  have gd : ∀ (w : ab_S) (b : Nat), b < 2 → fX10_goodOf (nI k) (nI b) w = some (w.1 6 (16 + 2 * k + b), w) := by
    intro w b hb
    have e : (16 : Int32) + 2 * nI k + nI b = nI (16 + 2 * k + b) := by
      rw [show (2 : Int32) * nI k = nI (2 * k) from nI_mul 2 k, show (16 : Int32) + nI (2 * k) = nI (16 + 2 * k) from nI_add 16 _, nI_add]
    unfold fX10_goodOf
    rw [e]
    simp (disch := first | omega | decide) only [i10, i00, decide_true, decide_false, cnd_t, cnd_f, gd_nil, gd_t, b1_0, b1_1, sw_nil, sw_cons, obs, ix_nI, nc_nI]
  have g0 : fX10_goodOf (nI k) 0 v = some (g 6 (16 + 2 * k), v) := by
    have := gd v 0 (by decide)
    rw [Nat.add_zero, hm1 _ (by omega)] at this
    exact this
  have g1 : fX10_goodOf (nI k) 1 (sI v 14 0 (g 6 (16 + 2 * k))) = some (g 6 (17 + 2 * k), sI v 14 0 (g 6 (16 + 2 * k))) := by
    have := gd (sI v 14 0 (g 6 (16 + 2 * k))) 1 (by decide)
    rw [sI_at, if_neg (by omega), show 16 + 2 * k + 1 = 17 + 2 * k by omega, hm1 _ (by omega)] at this
    exact this
  have ei : (32 : Int32) + 8 * nI p + nI k = nI (32 + 8 * p + k) := by
    rw [show (8 : Int32) * nI p = nI (8 * p) from nI_mul 8 p, show (32 : Int32) + nI (8 * p) = nI (32 + 8 * p) from nI_add 32 _, nI_add]
  have c0 : nc (0 : Int32) = 0 := by decide +kernel
  have c1 : nc (1 : Int32) = 1 := by decide +kernel
  have c2 : nc (2 : Int32) = 2 := by decide +kernel
  have c3 : nc (3 : Int32) = 3 := by decide +kernel
  have x0 : ab_ix (0 : Int32) 4 = true := by decide +kernel
  have x1 : ab_ix (1 : Int32) 4 = true := by decide +kernel
  have x2 : ab_ix (2 : Int32) 4 = true := by decide +kernel
  have x3 : ab_ix (3 : Int32) 4 = true := by decide +kernel
  have x4 : ab_ix (3 : Int32) 180 = true := by decide +kernel
  have xi : ab_ix (nI (32 + 8 * p + k)) 180 = true := ix_nI (by omega) (by decide)
  have ci : nc (nI (32 + 8 * p + k)) = 32 + 8 * p + k := nc_nI (by omega)
  have eL : v.1 6 (32 + 8 * p + k) = g 6 (32 + 8 * p + k) := hm1 _ (by omega)
  have e3 : v.1 6 3 = g 6 3 := hm1 3 (by decide)
  -- behind the facts
  have fin : ∀ mine : Int32, mine = (if g 6 (17 + 2 * k) = nI p then 1 else 0) → Wp (fX10_fitBy_32 (nI p) (nI k) (nI j) 1 mine (sI v 14 0 (g 6 (16 + 2 * k)))) (fun r v' => r = nI (FTS g cs p k j) ∧ Sc v v') := by
    intro mine hmine
    unfold fX10_fitBy_32
    rw [ei]
    simp only [x1, xi, x2, x3, x4, gd_t, gd_nil, c1, ci, c2, c3]
    have fr : Sc v (sI (sI (sI (sI v 14 0 (g 6 (16 + 2 * k))) 14 1 mine) 14 2 (g 6 (32 + 8 * p + k))) 14 3 (nI j)) := (Fr.sI (D := dSc) (Or.inl rfl)).trans ((Fr.sI (D := dSc) (Or.inl rfl)).trans ((Fr.sI (D := dSc) (Or.inl rfl)).trans (Fr.sI (Or.inl rfl))))
    simp only [sI_at, sI_l, sJ_at, sJ_i, sJ_m, sM_at, sM_i, sM_l, Nat.reduceEqDiff, false_and, and_false, true_and, and_true, and_self, if_false, if_true, ite_false, ite_true, eL, e3]
    have hf : ∀ i, i < 4 → (sI (sI (sI (sI v 14 0 (g 6 (16 + 2 * k))) 14 1 mine) 14 2 (g 6 (32 + 8 * p + k))) 14 3 (nI j)).1 14 i = fctS g p k j i := by
      intro i hi
      obtain e | e | e | e : i = 0 ∨ i = 1 ∨ i = 2 ∨ i = 3 := by omega
      · subst e
        rw [sI_at, if_neg (by omega), sI_at, if_neg (by omega), sI_at, if_neg (by omega), sI_at, if_pos ⟨rfl, rfl⟩]; rfl
      · subst e
        rw [sI_at, if_neg (by omega), sI_at, if_neg (by omega), sI_at, if_pos ⟨rfl, rfl⟩, hmine]; rfl
      · subst e
        rw [sI_at, if_neg (by omega), sI_at, if_pos ⟨rfl, rfl⟩]; rfl
      · subst e
        rw [sI_at, if_pos ⟨rfl, rfl⟩]; rfl
    obtain ⟨l1, l2⟩ | ⟨l1, l2, l3, l4, l5⟩ := hL
    · rw [l1]
      simp only [show ((-1 : Int32) < 0) = True from eq_true (by decide +kernel), x0, x2, i10, i00, decide_true, decide_false, cnd_t, cnd_f, gd_nil, gd_t, b1_0, b1_1, sw_nil, sw_cons, obs, m_clamp, c0, sI_at, sI_l, sJ_at, sJ_i, sJ_m, sM_at, sM_i, sM_l, Nat.reduceEqDiff, false_and, and_false, true_and, and_true, and_self, if_false, if_true, ite_false, ite_true]
      refine ⟨_, _, rfl, ?_, fr⟩
      subst l2
      rw [FTS, usual_pe]
      rfl
    · rw [l1]
      simp only [show ((0 : Int32) < 0) = False from eq_false (by decide +kernel), i10, i00, decide_true, decide_false, cnd_t, cnd_f, gd_nil, gd_t, b1_0, b1_1, sw_nil, sw_cons, obs]
      obtain ⟨v', z1, z2⟩ := m_work (fctS g p k j) cs 0 0 fu (fun _ => 0) _ (fun i hi => by
        rw [Nat.zero_add, fr.1 7 i (by intro z; omega), fr.1 8 i (by intro z; omega), hm2 i (by omega), hm3 i (by omega)]
        exact l4 i hi) (by rw [Nat.zero_add, fr.1 7 _ (by intro z; omega), hm2 _ (by omega)]; exact l5) (by omega) (fun i hi => absurd hi (Nat.not_lt_zero i)) hf (by decide) (l3 0 (by decide)) (show cs.length < 5000 by omega)
      have z1' : fX10_worthAt 0 (sI (sI (sI (sI v 14 0 (g 6 (16 + 2 * k))) 14 1 mine) 14 2 (g 6 (32 + 8 * p + k))) 14 3 (nI j)) = some (peS (fctS g p k j) cs 0 (fun _ => 0), v') := z1
      rw [z1']
      simp only [obs, m_clamp]
      exact ⟨_, _, rfl, rfl, fr.trans z2⟩
  unfold fX10_fitBy
  rw [g0]
  simp only [obs, x0, gd_t, gd_nil, c0, g1]
  by_cases e : g 6 (17 + 2 * k) = nI p
  · have := fin 1 (by rw [if_pos e])
    simp only [e, i10, i00, decide_true, decide_false, cnd_t, cnd_f, gd_nil, gd_t, b1_0, b1_1, sw_nil, sw_cons, obs]
    exact this
  · have := fin 0 (by rw [if_neg e])
    simp only [e, i10, i00, decide_true, decide_false, cnd_t, cnd_f, gd_nil, gd_t, b1_0, b1_1, sw_nil, sw_cons, obs]
    exact this
end PU
