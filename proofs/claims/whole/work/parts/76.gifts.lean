/-! the best that could be given out -/
def mS (Z : dZ) (x : Int32) : Nat → Nat → Nat → Nat
  | 0, _, _ => 0
  | d + 1, p, g => (match wst (fun k => Z.2.2.2 p k 0 + mS Z x d (p + 1) (g ||| 2 ^ k)) (fun k => !decide (nI p = x) && !g.testBit k) Z.2.1 with
    | none => mS Z x d (p + 1) g
    | some q => if q.2 < mS Z x d (p + 1) g then mS Z x d (p + 1) g else q.2)
def gW (Z : dZ) (x : Int32) (d p g : Nat) (k : Nat) : Nat := Z.2.2.2 p k 0 + mS Z x d (p + 1) (g ||| 2 ^ k)
def gI (x : Int32) (p g : Nat) (k : Nat) : Bool := !decide (nI p = x) && !g.testBit k
def chS (Z : dZ) (x : Int32) (d p g : Nat) : Option Nat := match wst (gW Z x d p g) (gI x p g) Z.2.1 with
  | none => none
  | some q => if q.2 < mS Z x d (p + 1) g then none else some q.1
def gN (g : Nat) : Option Nat → Nat
  | none => g
  | some k => g ||| 2 ^ k
def rowF (Z : dZ) (x : Int32) : Nat → Nat → Nat → Nat → Int32
  | 0, _, _, _ => -1
  | d + 1, p, g, j => if j = p then eO (chS Z x d p g) else rowF Z x d (p + 1) (gN g (chS Z x d p g)) j
theorem mS_s (Z : dZ) (x : Int32) (d p g : Nat) : mS Z x (d + 1) p g = (match wst (gW Z x d p g) (gI x p g) Z.2.1 with
    | none => mS Z x d (p + 1) g
    | some q => if q.2 < mS Z x d (p + 1) g then mS Z x d (p + 1) g else q.2) := rfl
section PU
variable {Z : dZ} {u v : ab_S} {x : Int32} {o1 : Nat}
theorem mS_le (hE : pE Z) (x : Int32) : ∀ (d p g : Nat), mS Z x d p g ≤ 99 * d
  | 0, _, _ => Nat.le_refl _
  | d + 1, p, g => by
    have h1 := mS_le hE x d (p + 1) g
    have hw : ∀ k, gW Z x d p g k ≤ 99 * (d + 1) := fun k => by
      have a := hE.2.2.2.2.2.2.2.1 p k 0
      have c := mS_le hE x d (p + 1) (g ||| 2 ^ k)
      unfold gW
      omega
    rw [mS_s]
    cases h : wst (gW Z x d p g) (gI x p g) Z.2.1 with
    | none =>
      show mS Z x d (p + 1) g ≤ _
      omega
    | some q =>
      have h2 := wst_val hw q h
      show (if q.2 < mS Z x d (p + 1) g then mS Z x d (p + 1) g else q.2) ≤ _
      split <;> omega
theorem gW_le (hE : pE Z) (x : Int32) (d p g k : Nat) : gW Z x d p g k ≤ 99 * (d + 1) := by
  have a := hE.2.2.2.2.2.2.2.1 p k 0
  have c := mS_le hE x d (p + 1) (g ||| 2 ^ k)
  unfold gW
  omega
theorem pc_or0 : (List.range 256).all (fun m => (List.range 8).all fun k => decide (pc (m ||| 2 ^ k) ≤ pc m + 1)) = true := by decide +kernel
theorem pc_or {m k : Nat} (hm : m < 256) (hk : k < 8) : pc (m ||| 2 ^ k) ≤ pc m + 1 := of_decide_eq_true (List.all_eq_true.mp (List.all_eq_true.mp pc_or0 m (List.mem_range.mpr hm)) k (List.mem_range.mpr hk))
-- ===== the class's table =====
def tbl (Z : dZ) (x : Int32) (u : ab_S) (p : Nat) : Prop := ∀ g, g < 2 ^ Z.2.1 → pc g ≤ p → u.1 156 (p * 256 + g) = nI (mS Z x (Z.1 - p) p g)
theorem c_mostBy (hE : pE Z) (hO : pc_O Z o1 u) {p d g k : Nat} (hp : p < Z.1) (hd : Z.1 - (p + 1) = d) (hg : g < 2 ^ Z.2.1) (hpc : pc g ≤ p) (hk : k < Z.2.1) (ht : tbl Z x u (p + 1)) : fX0_mostBy o1 (nI p) (nI g) (nI k) u = some (nI (gW Z x d p g k), u) := by
  have hp6 := hE.1
  have hg8 := hE.2.1
  have hg2 : g < 256 := Nat.lt_of_lt_of_le hg (show 2 ^ Z.2.1 ≤ 2 ^ 8 from Nat.pow_le_pow_right (by decide) hg8)
  have h1 := zb_or256 hg2 (show k < 8 by omega)
  have h2 := pc_or hg2 (show k < 8 by omega)
  have h3 : g ||| 2 ^ k < 2 ^ Z.2.1 := Nat.or_lt_two_pow hg (Nat.pow_lt_pow_right (by decide) hk)
  have e0 : fX2_fitBy o1 (nI p) (nI k) 0 u = some (nI (Z.2.2.2 p k 0), u) := c_fitBy (j := 0) hE hO hp hk (by omega)
  have e1 := ht (g ||| 2 ^ k) h3 (by omega)
  unfold fX0_mostBy
  rw [e0]
  simp only [obs, zb_or hg2 (show k < 8 by omega), nI_addo, nI_mulo, nI_add]
  rw [c_at (by omega) (by decide), e1, hd]
  simp only [obs, nI_add]
  rfl
theorem c_mf21 (hE : pE Z) (hO : pc_O Z o1 u) {p d g : Nat} (hp : p < Z.1) (hd : Z.1 - (p + 1) = d) (hg : g < 2 ^ Z.2.1) (hpc : pc g ≤ p) (ht : tbl Z x u (p + 1)) (hx : ¬ nI p = x) : ∀ (e k n a : Nat), k + e = Z.2.1 → e < n → a = (match wst (gW Z x d p g) (gI x p g) k with | none => mS Z x d (p + 1) g | some q => if q.2 < mS Z x d (p + 1) g then mS Z x d (p + 1) g else q.2) → fX0_mostFrom_21 o1 n (nI p) (nI g) 0 (nI a) (nI k) u = some (nI (mS Z x (d + 1) p g), u) := by
  have hp6 := hE.1
  have hg8 := hE.2.1
  have hg2 : g < 256 := Nat.lt_of_lt_of_le hg (show 2 ^ Z.2.1 ≤ 2 ^ 8 from Nat.pow_le_pow_right (by decide) hg8)
  intro e
  induction e with
  | zero =>
    intro k n a hk hn ha
    obtain ⟨n, rfl⟩ : ∃ j, n = j + 1 := ⟨n - 1, by omega⟩
    have e : k = Z.2.1 := by omega
    subst e
    rw [fX0_mostFrom_21, hO.2.1]
    simp (disch := first | omega | decide) only [i10, i00, decide_true, decide_false, cnd_t, cnd_f, gd_nil, gd_t, b1_0, b1_1, sw_nil, sw_cons, obs, Nat.not_lt_zero, nI_addo, nI_oadd, nI_add, nI_mulo, nI_omul, nI_mul, nI_lto, nI_leo, nI_olt, nI_ole, nI_eqo, nI_oeq, nI_lt2, nI_le2, nI_eq2, nI_nm1, nI_m1n, nI_lt0, nI_lem1, nc_nI, nc_o, ix_nI, ix_o, Nat.lt_irrefl]
    rw [mS_s, ← ha]
  | succ e ih =>
    intro k n a hk hn ha
    obtain ⟨n, rfl⟩ : ∃ j, n = j + 1 := ⟨n - 1, by omega⟩
    have hk8 : k < Z.2.1 := by omega
    have hwk := gW_le hE x d p g k
    have ih := ih (k + 1) n
    rw [fX0_mostFrom_21, hO.2.1]
    simp (disch := first | omega | decide) only [i10, i00, decide_true, decide_false, cnd_t, cnd_f, gd_nil, gd_t, b1_0, b1_1, sw_nil, sw_cons, obs, nI_lt2, hk8, zb_b0 hg2 (show k < 8 by omega)]
    rw [wst] at ih
    have ein : gI x p g k = !g.testBit k := by
      unfold gI
      simp only [hx, decide_false, Bool.not_false, Bool.true_and]
    have hale : a ≤ 800 := by
      have h1 := mS_le hE x d (p + 1) g
      cases h : wst (gW Z x d p g) (gI x p g) k with
      | none => rw [h] at ha; have ha : a = mS Z x d (p + 1) g := ha; omega
      | some q =>
        have h2 := wst_val (gW_le hE x d p g) q h
        rw [h] at ha
        have ha : a = (if q.2 < mS Z x d (p + 1) g then mS Z x d (p + 1) g else q.2) := ha
        split at ha <;> omega
    cases hb : g.testBit k
    · rw [ein, hb] at ih
      simp only [i10, i00, decide_true, decide_false, cnd_t, cnd_f, gd_nil, gd_t, b1_0, b1_1, sw_nil, sw_cons, obs]
      rw [c_mostBy hE hO hp hd hg hpc hk8 ht]
      simp (disch := first | omega | decide) only [obs, nI_lt2, nI_addo]
      have e2 : (if a < gW Z x d p g k then nI (gW Z x d p g k) else nI a) = nI (if a < gW Z x d p g k then gW Z x d p g k else a) := by split <;> rfl
      rw [e2]
      refine ih _ (by omega) (by omega) ?_
      simp only [Bool.not_false, if_true]
      cases h : wst (gW Z x d p g) (gI x p g) k with
      | none =>
        rw [h] at ha
        have ha : a = mS Z x d (p + 1) g := ha
        show (if a < gW Z x d p g k then gW Z x d p g k else a) = (if gW Z x d p g k < mS Z x d (p + 1) g then mS Z x d (p + 1) g else gW Z x d p g k)
        split <;> split <;> omega
      | some q =>
        rw [h] at ha
        have ha : a = (if q.2 < mS Z x d (p + 1) g then mS Z x d (p + 1) g else q.2) := ha
        by_cases e3 : q.2 < gW Z x d p g k
        · simp only [e3, if_true]
          split at ha <;> split <;> split <;> omega
        · simp only [e3, if_false]
          split at ha <;> split <;> omega
    · rw [ein, hb] at ih
      simp only [i10, i00, decide_true, decide_false, cnd_t, cnd_f, gd_nil, gd_t, b1_0, b1_1, sw_nil, sw_cons, obs, Bool.true_eq_false, nI_addo]
      refine ih a (by omega) (by omega) ?_
      simp only [Bool.not_true, Bool.false_eq_true, if_false]
      exact ha
theorem wst_no {val : Nat → Nat} {inn : Nat → Bool} (h : ∀ k, inn k = false) : ∀ n, wst val inn n = none
  | 0 => rfl
  | n + 1 => by rw [wst, h n]; simp only [Bool.false_eq_true, if_false]; exact wst_no h n
theorem c_mostFrom (hE : pE Z) (hO : pc_O Z o1 u) {p d g : Nat} (hp : p < Z.1) (hd : Z.1 - (p + 1) = d) (hg : g < 2 ^ Z.2.1) (hpc : pc g ≤ p) (ht : tbl Z x u (p + 1)) : fX0_mostFrom o1 (nI p) (nI g) (b01 (decide (nI p = x))) u = some (nI (mS Z x (d + 1) p g), u) := by
  have hp6 := hE.1
  have hg8 := hE.2.1
  have hg2 : g < 256 := Nat.lt_of_lt_of_le hg (show 2 ^ Z.2.1 ≤ 2 ^ 8 from Nat.pow_le_pow_right (by decide) hg8)
  have e1 := ht g hg (by omega)
  unfold fX0_mostFrom
  simp only [nI_addo, nI_mulo, nI_add]
  rw [c_at (by omega) (by decide), e1, hd]
  simp only [obs]
  by_cases hx : nI p = x
  · have hn : wst (gW Z x d p g) (gI x p g) Z.2.1 = none := wst_no (fun k => by unfold gI; simp only [hx, decide_true, Bool.not_true, Bool.false_and]) _
    have f5 : fu = 4999 + 1 := rfl
    rw [mS_s, hn, f5, fX0_mostFrom_21, hO.2.1]
    simp only [hx, decide_true, b01_t, i10, i00, decide_true, decide_false, cnd_t, cnd_f, gd_nil, gd_t, b1_0, b1_1, sw_nil, sw_cons, obs]
    by_cases z : (0 : Int32) < nI Z.2.1 <;> simp only [z, i10, i00, decide_true, decide_false, cnd_t, cnd_f, gd_nil, gd_t, b1_0, b1_1, sw_nil, sw_cons, obs]
  · simp only [hx, decide_false, b01_f]
    exact c_mf21 hE hO hp hd hg hpc ht hx Z.2.1 0 fu _ (Nat.zero_add _) (by simp only [fu]; omega) rfl
theorem c_mw47 (hE : pE Z) {p d : Nat} (hp : p < Z.1) (hd : Z.1 - (p + 1) = d) {K : Int32 → Int32 → ab_S → Option (Int32 × ab_S)} (ho : o1 + 12 ≤ 38) : ∀ (e g n : Nat) (u : ab_S), pc_O Z o1 u → (∀ q, p < q → q ≤ Z.1 → tbl Z x u q) → (∀ g', g' < g → g' < 2 ^ Z.2.1 → pc g' ≤ p → u.1 156 (p * 256 + g') = nI (mS Z x (Z.1 - p) p g')) → g + e = 2 ^ Z.2.1 → e < n → ∃ u', fX0_mostWithout_47 o1 K n x (nI p) (nI g) u = K x (nI p + (-1)) u' ∧ (∀ q, p ≤ q → q ≤ Z.1 → tbl Z x u' q) ∧ Fr (fun a _ => a = 156) u u' := by
  have hp6 := hE.1
  have hg8 := hE.2.1
  have h28 : 2 ^ Z.2.1 ≤ 2 ^ 8 := Nat.pow_le_pow_right (by decide) hg8
  have hpos : 0 < 2 ^ Z.2.1 := Nat.two_pow_pos _
  intro e
  induction e with
  | zero =>
    intro g n u hO h1 h2 hg hn
    obtain ⟨n, rfl⟩ : ∃ j, n = j + 1 := ⟨n - 1, by omega⟩
    refine ⟨u, ?_, ?_, Fr.rfl'⟩
    · have e1 : ¬ g ≤ 2 ^ Z.2.1 - 1 := by omega
      rw [fX0_mostWithout_47]
      unfold fX2_allGoods
      rw [hO.2.1]
      simp (disch := first | omega | decide) only [i10, i00, decide_true, decide_false, cnd_t, cnd_f, gd_nil, gd_t, b1_0, b1_1, sw_nil, sw_cons, obs, zb_all hg8, nI_le2, e1]
    · intro q a c
      by_cases eq : q = p
      · subst eq
        intro g' k1 k2
        exact h2 g' (by omega) k1 k2
      · exact h1 q (by omega) c
  | succ e ih =>
    intro g n u hO h1 h2 hg hn
    obtain ⟨n, rfl⟩ : ∃ j, n = j + 1 := ⟨n - 1, by omega⟩
    have e1 : g ≤ 2 ^ Z.2.1 - 1 := by omega
    have hgl : g < 2 ^ Z.2.1 := by omega
    have hpc8 := pc_le g
    rw [fX0_mostWithout_47]
    unfold fX2_allGoods
    rw [hO.2.1]
    simp (disch := first | omega | decide) only [i10, i00, decide_true, decide_false, cnd_t, cnd_f, gd_nil, gd_t, b1_0, b1_1, sw_nil, sw_cons, obs, zb_all hg8, nI_le2, e1]
    rw [pc_c (show g < 256 by omega)]
    simp (disch := first | omega | decide) only [i10, i00, decide_true, decide_false, cnd_t, cnd_f, gd_nil, gd_t, b1_0, b1_1, sw_nil, sw_cons, obs, nI_le2]
    by_cases e2 : pc g ≤ p
    · simp only [e2, i10, i00, decide_true, decide_false, cnd_t, cnd_f, gd_nil, gd_t, b1_0, b1_1, sw_nil, sw_cons, obs]
      have eb : (bif decide (nI p = x) then fX0_mostWithout_92 o1 K (fX0_mostWithout_47 o1 K n) x (nI p) (nI g) (nI p * 256 + nI g) (nI p) (nI g) 1 u else fX0_mostWithout_92 o1 K (fX0_mostWithout_47 o1 K n) x (nI p) (nI g) (nI p * 256 + nI g) (nI p) (nI g) 0 u) = fX0_mostWithout_92 o1 K (fX0_mostWithout_47 o1 K n) x (nI p) (nI g) (nI p * 256 + nI g) (nI p) (nI g) (b01 (decide (nI p = x))) u := by
        by_cases z : nI p = x <;> simp only [z, i10, i00, decide_true, decide_false, cnd_t, cnd_f, gd_nil, gd_t, b1_0, b1_1, sw_nil, sw_cons, obs, b01_t, b01_f]
      rw [eb]
      unfold fX0_mostWithout_92
      rw [c_mostFrom hE hO hp hd hgl e2 (h1 (p + 1) (by omega) (by omega))]
      simp only [obs, nI_mulo, nI_add]
      rw [c_put (by omega) (by decide)]
      simp only [obs, nI_addo]
      have f : Fr (fun a _ => a = 156) u (sI u 156 (p * 256 + g) (nI (mS Z x (d + 1) p g))) := Fr.sI rfl
      obtain ⟨u', q1, q2, q3⟩ := ih (g + 1) n (sI u 156 (p * 256 + g) (nI (mS Z x (d + 1) p g))) (hO.fr f (by intro a k a1 a2 q; omega)) (fun q a c => by
        intro g' k1 k2
        have := h1 q a c g' k1 k2
        rw [sI_at, if_neg (by omega)]
        exact this) (fun g' k0 k1 k2 => by
        by_cases eg : g' = g
        · subst eg
          rw [sI_at, if_pos ⟨rfl, rfl⟩, show Z.1 - p = d + 1 by omega]
        · rw [sI_at, if_neg (by omega)]
          exact h2 g' (by omega) k1 k2) (by omega) (by omega)
      exact ⟨u', q1, q2, f.trans q3⟩
    · simp only [e2, i10, i00, decide_true, decide_false, cnd_t, cnd_f, gd_nil, gd_t, b1_0, b1_1, sw_nil, sw_cons, obs, nI_addo]
      exact ih (g + 1) n u hO h1 (fun g' k0 k1 k2 => by
        by_cases eg : g' = g
        · subst eg; exact absurd k2 e2
        · exact h2 g' (by omega) k1 k2) (by omega) (by omega)
theorem c_mw40 (hE : pE Z) (ho : o1 + 12 ≤ 38) : ∀ (p n : Nat) (u : ab_S), p ≤ Z.1 → pc_O Z o1 u → (∀ q, p ≤ q → q ≤ Z.1 → tbl Z x u q) → p < n → ∃ u', fX0_mostWithout_40 o1 n x (nI p - 1) u = some (nI (mS Z x Z.1 0 0), u') ∧ (∀ q, q ≤ Z.1 → tbl Z x u' q) ∧ Fr (fun a _ => a = 156) u u' := by
  have hp6 := hE.1
  have hg8 := hE.2.1
  intro p
  induction p with
  | zero =>
    intro n u hp hO h1 hn
    obtain ⟨n, rfl⟩ : ∃ j, n = j + 1 := ⟨n - 1, by omega⟩
    have e0 : (nI 0 - 1 < 0) = True := eq_true (by decide +kernel)
    have h0 := h1 0 (Nat.le_refl 0) (Nat.zero_le _) 0 (Nat.two_pow_pos _) (by decide)
    refine ⟨u, ?_, fun q c => h1 q (Nat.zero_le q) c, Fr.rfl'⟩
    rw [fX0_mostWithout_40]
    simp only [e0, i10, i00, decide_true, decide_false, cnd_t, cnd_f, gd_nil, gd_t, b1_0, b1_1, sw_nil, sw_cons, obs]
    have ea : fX9_at 1792 156 0 u = some (u.1 156 0, u) := c_at (k := 0) (by decide) (by decide)
    rw [ea]
    simp only [obs]
    have h0 : u.1 156 0 = nI (mS Z x (Z.1 - 0) 0 0) := h0
    rw [h0, Nat.sub_zero]
  | succ p ih =>
    intro n u hp hO h1 hn
    obtain ⟨n, rfl⟩ : ∃ j, n = j + 1 := ⟨n - 1, by omega⟩
    have e1 : nI (p + 1) - 1 = nI p := nI_sub (b := 1) (by omega)
    have e2 : nI p + (-1) = nI p - 1 := by rw [Int32.sub_eq_add_neg]
    rw [fX0_mostWithout_40, e1]
    simp (disch := first | omega | decide) only [nI_lt0, i10, i00, decide_true, decide_false, cnd_t, cnd_f, gd_nil, gd_t, b1_0, b1_1, sw_nil, sw_cons, obs]
    obtain ⟨u1, q1, q2, q3⟩ := c_mw47 hE (x := x) (p := p) (d := Z.1 - (p + 1)) (by omega) rfl (K := fX0_mostWithout_40 o1 n) ho (2 ^ Z.2.1) 0 fu u hO (fun q a c => h1 q (by omega) c) (fun g' k0 => absurd k0 (Nat.not_lt_zero g')) (Nat.zero_add _) (by
      have : 2 ^ Z.2.1 ≤ 2 ^ 8 := Nat.pow_le_pow_right (by decide) hg8
      simp only [fu]; omega)
    have q1' : fX0_mostWithout_47 o1 (fX0_mostWithout_40 o1 n) fu x (nI p) 0 u = fX0_mostWithout_40 o1 n x (nI p + (-1)) u1 := q1
    obtain ⟨u', z1, z2, z3⟩ := ih n u1 (by omega) (hO.fr q3 (by intro a k a1 a2 q; omega)) q2 (by omega)
    refine ⟨u', ?_, z2, q3.trans z3⟩
    rw [q1', e2]
    exact z1
theorem c_mw2 (hE : pE Z) (ho : o1 + 12 ≤ 38) : ∀ (e g n : Nat) (u : ab_S), pc_O Z o1 u → (∀ g', g' < g → u.1 156 (Z.1 * 256 + g') = 0) → g + e = 256 → e < n → ∃ u', fX0_mostWithout_2 o1 n x (nI g) u = some (nI (mS Z x Z.1 0 0), u') ∧ (∀ q, q ≤ Z.1 → tbl Z x u' q) ∧ Fr (fun a _ => a = 156) u u' := by
  have hp6 := hE.1
  have hg8 := hE.2.1
  intro e
  induction e with
  | zero =>
    intro g n u hO h1 hg hn
    obtain ⟨n, rfl⟩ : ∃ j, n = j + 1 := ⟨n - 1, by omega⟩
    have eg : g = 256 := by omega
    subst eg
    have h28 : 2 ^ Z.2.1 ≤ 2 ^ 8 := Nat.pow_le_pow_right (by decide) hg8
    obtain ⟨u', q1, q2, q3⟩ := c_mw40 hE (x := x) ho Z.1 fu u (Nat.le_refl _) hO (fun q a c => by
      have : q = Z.1 := by omega
      subst this
      intro g' k1 k2
      rw [h1 g' (by omega), Nat.sub_self]
      rfl) (by simp only [fu]; omega)
    refine ⟨u', ?_, q2, q3⟩
    rw [fX0_mostWithout_2, hO.1]
    simp (disch := first | omega | decide) only [i10, i00, decide_true, decide_false, cnd_t, cnd_f, gd_nil, gd_t, b1_0, b1_1, sw_nil, sw_cons, obs, nI_lto, Nat.lt_irrefl]
    exact q1
  | succ e ih =>
    intro g n u hO h1 hg hn
    obtain ⟨n, rfl⟩ : ∃ j, n = j + 1 := ⟨n - 1, by omega⟩
    have hg2 : g < 256 := by omega
    have f : Fr (fun a _ => a = 156) u (sI u 156 (Z.1 * 256 + g) 0) := Fr.sI rfl
    obtain ⟨u', q1, q2, q3⟩ := ih (g + 1) n _ (hO.fr f (by intro a k a1 a2 q; omega)) (fun g' hg' => by
      by_cases eg : g' = g
      · subst eg; rw [sI_at, if_pos ⟨rfl, rfl⟩]
      · rw [sI_at, if_neg (by omega)]; exact h1 g' (by omega)) (by omega) (by omega)
    refine ⟨u', ?_, q2, f.trans q3⟩
    rw [fX0_mostWithout_2, hO.1]
    simp (disch := first | omega | decide) only [i10, i00, decide_true, decide_false, cnd_t, cnd_f, gd_nil, gd_t, b1_0, b1_1, sw_nil, sw_cons, obs, nI_lto, hg2, nI_mulo, nI_add]
    rw [c_put (by omega) (by decide)]
    simp only [obs, nI_addo]
    exact q1
theorem c_without (hE : pE Z) (ho : o1 + 12 ≤ 38) (hO : pc_O Z o1 u) (x : Int32) : ∃ u', fX0_mostWithout o1 x u = some (nI (mS Z x Z.1 0 0), u') ∧ (∀ q, q ≤ Z.1 → tbl Z x u' q) ∧ Fr (fun a _ => a = 156) u u' := c_mw2 hE ho 256 0 fu u hO (fun g' k0 => absurd k0 (Nat.not_lt_zero g')) rfl (by decide)
end PU
