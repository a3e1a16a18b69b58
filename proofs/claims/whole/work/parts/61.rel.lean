/-! how class and reference hold one office, one standing -/
abbrev dZ : Type := Nat × (Nat × ((Nat → Nat → Int32) × (Nat → Nat → Nat → Nat)))
def Fr (D : Nat → Nat → Prop) (v v' : ab_S) : Prop := (∀ a k, ¬ D a k → v'.1 a k = v.1 a k) ∧ (∀ a k, ¬ D a k → v'.2.1 a k = v.2.1 a k) ∧ v'.2.2 = v.2.2
theorem Fr.rfl' {D : Nat → Nat → Prop} {v : ab_S} : Fr D v v := ⟨fun _ _ _ => rfl, fun _ _ _ => rfl, rfl⟩
theorem Fr.trans {D : Nat → Nat → Prop} {v w x : ab_S} (h : Fr D v w) (k : Fr D w x) : Fr D v x := ⟨fun a j hd => (k.1 a j hd).trans (h.1 a j hd), fun a j hd => (k.2.1 a j hd).trans (h.2.1 a j hd), k.2.2.trans h.2.2⟩
theorem Fr.mono {D D' : Nat → Nat → Prop} {v w : ab_S} (h : Fr D v w) (m : ∀ a k, D a k → D' a k) : Fr D' v w := ⟨fun a j hd => h.1 a j fun q => hd (m a j q), fun a j hd => h.2.1 a j fun q => hd (m a j q), h.2.2⟩
theorem Fr.sI {D : Nat → Nat → Prop} {v : ab_S} {a k : Nat} {x : Int32} (h : D a k) : Fr D v (sI v a k x) := by
  refine ⟨fun b j hd => ?_, fun _ _ _ => rfl, rfl⟩
  rw [sI_at, if_neg]
  rintro ⟨rfl, rfl⟩
  exact hd h
theorem Fr.sJ {D : Nat → Nat → Prop} {v : ab_S} {a k : Nat} {x : Int64} (h : D a k) : Fr D v (sJ v a k x) := by
  refine ⟨fun _ _ _ => rfl, fun b j hd => ?_, rfl⟩
  rw [sJ_at, if_neg]
  rintro ⟨rfl, rfl⟩
  exact hd h
abbrev dSc (a _k : Nat) : Prop := a = 14 ∨ a = 15
abbrev Sc (v v' : ab_S) : Prop := Fr dSc v v'
abbrev dMb (b : Nat) (a k : Nat) : Prop := a = 14 ∨ a = 15 ∨ (a = 16 ∧ b ≤ k ∧ k < b + 22)
abbrev Fm (b : Nat) (v v' : ab_S) : Prop := Fr (dMb b) v v'
abbrev dCo (o : Nat) (a _k : Nat) : Prop := o ≤ a ∧ a < o + 4
abbrev Fc (o : Nat) (u u' : ab_S) : Prop := Fr (dCo o) u u'
theorem Sc.fm {b : Nat} {v v' : ab_S} (h : Sc v v') : Fm b v v' := h.mono fun a k q => by
  rcases q with q | q
  · exact Or.inl q
  · exact Or.inr (Or.inl q)
-- ===== the pictures =====
def pm_O (Z : dZ) (v : ab_S) : Prop := (∀ k, k < 90 → v.1 6 k = Z.2.2.1 6 k) ∧ (∀ k, k < 1100 → v.1 7 k = Z.2.2.1 7 k) ∧ (∀ k, k < 1100 → v.1 8 k = Z.2.2.1 8 k)
def pL (Z : dZ) : Prop := ∀ (v : ab_S), pm_O Z v → ∀ (p k j : Nat), p < Z.1 → k < Z.2.1 → j < Z.2.1 → Wp (fX10_fitBy (nI p) (nI k) (nI j) v) (fun r v' => r = nI (Z.2.2.2 p k j) ∧ Sc v v')
def pE (Z : dZ) : Prop := Z.1 ≤ 6 ∧ Z.2.1 ≤ 8 ∧ Z.2.2.1 6 0 = nI Z.1 ∧ Z.2.2.1 6 1 = nI Z.2.1 ∧ (∀ k, k < Z.2.1 → ∃ p, p < Z.1 ∧ Z.2.2.1 6 (17 + 2 * k) = nI p) ∧ (∀ p, p < Z.1 → ∃ c, c ≤ 50 ∧ Z.2.2.1 6 (5 + 2 * p) = nI c) ∧ (∃ g, g ≤ 9999 ∧ Z.2.2.1 6 2 = nI g) ∧ (∀ p k j, Z.2.2.2 p k j ≤ 99) ∧ pL Z
def pc_O (Z : dZ) (o : Nat) (u : ab_S) : Prop := u.1 o 0 = nI Z.1 ∧ u.1 o 1 = nI Z.2.1 ∧ u.1 o 9 = Z.2.2.1 6 2 ∧ (∀ p, p < Z.1 → u.1 (o + 3) p = Z.2.2.1 6 (4 + 2 * p)) ∧ (∀ p, p < Z.1 → u.1 (o + 4) p = Z.2.2.1 6 (5 + 2 * p)) ∧ (∀ k, k < Z.2.1 → u.1 (o + 5) k = Z.2.2.1 6 (16 + 2 * k)) ∧ (∀ k, k < Z.2.1 → u.1 (o + 6) k = Z.2.2.1 6 (17 + 2 * k)) ∧ (∀ p k j, p < Z.1 → k < Z.2.1 → j < Z.2.1 → u.1 (o + 11) ((p * 8 + k) * 8 + j) = nI (Z.2.2.2 p k j))
def pc_S (o : Nat) (s : Nat → Int32) (u : ab_S) : Prop := u.1 o 4 = s 0 ∧ u.2.1 o 3 = (s 1).toInt64 ∧ (∀ k, k < 8 → u.1 (o + 1) k = s (2 + k)) ∧ (∀ p, p < 6 → u.1 (o + 2) p = s (10 + p)) ∧ (∀ p, p < 6 → u.1 (o + 3) p = s (16 + p))
def pm_S (b : Nat) (s : Nat → Int32) (v : ab_S) : Prop := ∀ k, k < 22 → v.1 16 (b + k) = s k
def pv_S (Z : dZ) (s : Nat → Int32) : Prop := (∀ k, k < Z.2.1 → s (2 + k) = -1 ∨ ∃ p, p < Z.1 ∧ s (2 + k) = nI p) ∧ (∀ k, Z.2.1 ≤ k → k < 8 → s (2 + k) = -1) ∧ (∀ p, p < 6 → ∃ c, c ≤ 50 ∧ s (10 + p) = nI c) ∧ (∀ p, p < 6 → ∃ t, t ≤ 9 ∧ s (16 + p) = nI t) ∧ (∀ p, p < 6 → Z.1 ≤ p → s (10 + p) = 0 ∧ s (16 + p) = 0) ∧ (∃ g, g < 2147483648 ∧ s 1 = nI g)
-- ===== kept when nothing of theirs is written =====
theorem pm_O.fr {Z : dZ} {D : Nat → Nat → Prop} {v v' : ab_S} (h : pm_O Z v) (f : Fr D v v') (hd : ∀ a k, 6 ≤ a → a ≤ 8 → ¬ D a k) : pm_O Z v' := by
  obtain ⟨h1, h2, h3⟩ := h
  exact ⟨fun k hk => (f.1 6 k (hd 6 k (by decide) (by decide))).trans (h1 k hk), fun k hk => (f.1 7 k (hd 7 k (by decide) (by decide))).trans (h2 k hk), fun k hk => (f.1 8 k (hd 8 k (by decide) (by decide))).trans (h3 k hk)⟩
theorem pm_O.sc {Z : dZ} {v v' : ab_S} (h : pm_O Z v) (f : Sc v v') : pm_O Z v' := h.fr f (by intro a k h1 h2 q; rcases q with q | q <;> omega)
theorem pm_O.fm {Z : dZ} {b : Nat} {v v' : ab_S} (h : pm_O Z v) (f : Fm b v v') : pm_O Z v' := h.fr f (by intro a k h1 h2 q; rcases q with q | q | q <;> omega)
theorem pm_S.fr {b : Nat} {s : Nat → Int32} {D : Nat → Nat → Prop} {v v' : ab_S} (h : pm_S b s v) (f : Fr D v v') (hd : ∀ k, k < 22 → ¬ D 16 (b + k)) : pm_S b s v' := fun k hk => (f.1 16 (b + k) (hd k hk)).trans (h k hk)
theorem pm_S.sc {b : Nat} {s : Nat → Int32} {v v' : ab_S} (h : pm_S b s v) (f : Sc v v') : pm_S b s v' := h.fr f (by intro k hk q; rcases q with q | q <;> omega)
theorem pc_O.fr {Z : dZ} {o : Nat} {D : Nat → Nat → Prop} {u u' : ab_S} (h : pc_O Z o u) (f : Fr D u u') (hd : ∀ a k, o ≤ a → a < o + 12 → ¬ D a k) : pc_O Z o u' := by
  obtain ⟨h1, h2, h3, h4, h5, h6, h7, h8⟩ := h
  refine ⟨(f.1 _ _ (hd _ _ (by omega) (by omega))).trans h1, (f.1 _ _ (hd _ _ (by omega) (by omega))).trans h2, (f.1 _ _ (hd _ _ (by omega) (by omega))).trans h3, fun p hp => (f.1 _ _ (hd _ _ (by omega) (by omega))).trans (h4 p hp), fun p hp => (f.1 _ _ (hd _ _ (by omega) (by omega))).trans (h5 p hp), fun p hp => (f.1 _ _ (hd _ _ (by omega) (by omega))).trans (h6 p hp), fun p hp => (f.1 _ _ (hd _ _ (by omega) (by omega))).trans (h7 p hp), fun p k j a b c => (f.1 _ _ (hd _ _ (by omega) (by omega))).trans (h8 p k j a b c)⟩
theorem pc_S.fr {o : Nat} {s : Nat → Int32} {D : Nat → Nat → Prop} {u u' : ab_S} (h : pc_S o s u) (f : Fr D u u') (hd : ∀ a k, o ≤ a → a < o + 4 → ¬ D a k) : pc_S o s u' := by
  obtain ⟨h1, h2, h3, h4, h5⟩ := h
  exact ⟨(f.1 _ _ (hd _ _ (by omega) (by omega))).trans h1, (f.2.1 _ _ (hd _ _ (by omega) (by omega))).trans h2, fun p hp => (f.1 _ _ (hd _ _ (by omega) (by omega))).trans (h3 p hp), fun p hp => (f.1 _ _ (hd _ _ (by omega) (by omega))).trans (h4 p hp), fun p hp => (f.1 _ _ (hd _ _ (by omega) (by omega))).trans (h5 p hp)⟩
-- ===== rows of the class =====
theorem c_at {n o k : Nat} {u : ab_S} (hk : k < n) (hn : n < 2147483648) : fX9_at n o (nI k) u = some (u.1 o k, u) := by
  have e : Int32.ofNat n = nI n := rfl
  unfold fX9_at
  rw [e]
  simp (disch := first | omega | decide) only [i10, i00, decide_true, decide_false, cnd_t, cnd_f, gd_nil, gd_t, b1_0, b1_1, sw_nil, sw_cons, obs, Nat.not_lt_zero, nI_addo, nI_oadd, nI_add, nI_mulo, nI_omul, nI_mul, nI_lto, nI_leo, nI_olt, nI_ole, nI_eqo, nI_oeq, nI_lt2, nI_le2, nI_eq2, nI_nm1, nI_m1n, nI_lt0, nI_lem1, nc_nI, nc_o, ix_nI, ix_o, hk]
theorem c_put {n o k : Nat} {u : ab_S} {x : Int32} (hk : k < n) (hn : n < 2147483648) : fX9_put n o (nI k) x u = some ((), sI u o k x) := by
  have e : Int32.ofNat n = nI n := rfl
  unfold fX9_put
  rw [e]
  simp (disch := first | omega | decide) only [i10, i00, decide_true, decide_false, cnd_t, cnd_f, gd_nil, gd_t, b1_0, b1_1, sw_nil, sw_cons, obs, Nat.not_lt_zero, nI_addo, nI_oadd, nI_add, nI_mulo, nI_omul, nI_mul, nI_lto, nI_leo, nI_olt, nI_ole, nI_eqo, nI_oeq, nI_lt2, nI_le2, nI_eq2, nI_nm1, nI_m1n, nI_lt0, nI_lem1, nc_nI, nc_o, ix_nI, ix_o, hk]
theorem isP (Z : dZ) (hZ : Z.1 ≤ 6) (x : Int32) : (∃ p, p < Z.1 ∧ x = nI p) ∨ (x < 0 ∨ (¬ x < 0 ∧ ¬ x < nI Z.1)) := by
  by_cases h : x < 0
  · exact Or.inr (Or.inl h)
  · by_cases h2 : x < nI Z.1
    · exact Or.inl ((nI_inR (by omega)).mp ⟨h, h2⟩)
    · exact Or.inr (Or.inr ⟨h, h2⟩)
theorem isG (Z : dZ) (hZ : Z.2.1 ≤ 8) (x : Int32) : (∃ p, p < Z.2.1 ∧ x = nI p) ∨ (x < 0 ∨ (¬ x < 0 ∧ ¬ x < nI Z.2.1)) := by
  by_cases h : x < 0
  · exact Or.inr (Or.inl h)
  · by_cases h2 : x < nI Z.2.1
    · exact Or.inl ((nI_inR (by omega)).mp ⟨h, h2⟩)
    · exact Or.inr (Or.inr ⟨h, h2⟩)
section PU
variable {Z : dZ} {o o1 b : Nat} {s : Nat → Int32} {u v : ab_S}
theorem c_hasP1 (hE : pE Z) (h : pc_O Z o u) {p : Nat} (hp : p < Z.1) : fX2_hasPerson o (nI p) u = some (1, u) := by
  have := hE.1
  unfold fX2_hasPerson
  rw [h.1]
  simp (disch := first | omega | decide) only [i10, i00, decide_true, decide_false, cnd_t, cnd_f, gd_nil, gd_t, b1_0, b1_1, sw_nil, sw_cons, obs, Nat.not_lt_zero, nI_addo, nI_oadd, nI_add, nI_mulo, nI_omul, nI_mul, nI_lto, nI_leo, nI_olt, nI_ole, nI_eqo, nI_oeq, nI_lt2, nI_le2, nI_eq2, nI_nm1, nI_m1n, nI_lt0, nI_lem1, nc_nI, nc_o, ix_nI, ix_o, hp]
theorem c_hasP0 (h : pc_O Z o u) {x : Int32} (hx : x < 0 ∨ (¬ x < 0 ∧ ¬ x < nI Z.1)) : fX2_hasPerson o x u = some (0, u) := by
  unfold fX2_hasPerson
  rw [h.1]
  rcases hx with hx | ⟨h1, h2⟩
  · simp only [i10, i00, decide_true, decide_false, cnd_t, cnd_f, gd_nil, gd_t, b1_0, b1_1, sw_nil, sw_cons, obs, hx]
  · simp only [i10, i00, decide_true, decide_false, cnd_t, cnd_f, gd_nil, gd_t, b1_0, b1_1, sw_nil, sw_cons, obs, h1, h2]
theorem c_hasG1 (hE : pE Z) (h : pc_O Z o u) {p : Nat} (hp : p < Z.2.1) : fX2_hasGood o (nI p) u = some (1, u) := by
  have := hE.2.1
  unfold fX2_hasGood
  rw [h.2.1]
  simp (disch := first | omega | decide) only [i10, i00, decide_true, decide_false, cnd_t, cnd_f, gd_nil, gd_t, b1_0, b1_1, sw_nil, sw_cons, obs, Nat.not_lt_zero, nI_addo, nI_oadd, nI_add, nI_mulo, nI_omul, nI_mul, nI_lto, nI_leo, nI_olt, nI_ole, nI_eqo, nI_oeq, nI_lt2, nI_le2, nI_eq2, nI_nm1, nI_m1n, nI_lt0, nI_lem1, nc_nI, nc_o, ix_nI, ix_o, hp]
theorem c_hasG0 (h : pc_O Z o u) {x : Int32} (hx : x < 0 ∨ (¬ x < 0 ∧ ¬ x < nI Z.2.1)) : fX2_hasGood o x u = some (0, u) := by
  unfold fX2_hasGood
  rw [h.2.1]
  rcases hx with hx | ⟨h1, h2⟩
  · simp only [i10, i00, decide_true, decide_false, cnd_t, cnd_f, gd_nil, gd_t, b1_0, b1_1, sw_nil, sw_cons, obs, hx]
  · simp only [i10, i00, decide_true, decide_false, cnd_t, cnd_f, gd_nil, gd_t, b1_0, b1_1, sw_nil, sw_cons, obs, h1, h2]
theorem c_own (hE : pE Z) (h : pc_O Z o u) {k : Nat} (hk : k < Z.2.1) : fX2_ownerOf o (nI k) u = some (Z.2.2.1 6 (17 + 2 * k), u) := by
  have := hE.2.1
  unfold fX2_ownerOf
  rw [c_at (by omega) (by decide), h.2.2.2.2.2.2.1 k hk]
  rfl
theorem c_worth (hE : pE Z) (h : pc_O Z o u) {k : Nat} (hk : k < Z.2.1) : fX2_worthOf o (nI k) u = some (Z.2.2.1 6 (16 + 2 * k), u) := by
  have := hE.2.1
  unfold fX2_worthOf
  rw [c_at (by omega) (by decide), h.2.2.2.2.2.1 k hk]
  rfl
theorem c_kind (hE : pE Z) (h : pc_O Z o u) {p : Nat} (hp : p < Z.1) : fX2_kindOf o (nI p) u = some (Z.2.2.1 6 (4 + 2 * p), u) := by
  have := hE.1
  unfold fX2_kindOf
  rw [c_at (by omega) (by decide), h.2.2.2.1 p hp]
  rfl
theorem c_fitBy (hE : pE Z) (h : pc_O Z o u) {p k j : Nat} (hp : p < Z.1) (hk : k < Z.2.1) (hj : j < Z.2.1) : fX2_fitBy o (nI p) (nI k) (nI j) u = some (nI (Z.2.2.2 p k j), u) := by
  have h1 := hE.1
  have h2 := hE.2.1
  unfold fX2_fitBy fX2_fitIndex
  simp only [obs, nI_mulo, nI_add]
  rw [c_at (by omega) (by decide), h.2.2.2.2.2.2.2 p k j hp hk hj]
  rfl
theorem c_hold (h : pc_S o s u) {k : Nat} (hk : k < 8) : fX5_holderOf o (nI k) u = some (s (2 + k), u) := by
  unfold fX5_holderOf
  simp (disch := first | omega | decide) only [i10, i00, decide_true, decide_false, cnd_t, cnd_f, gd_nil, gd_t, b1_0, b1_1, sw_nil, sw_cons, obs, Nat.not_lt_zero, nI_addo, nI_oadd, nI_add, nI_mulo, nI_omul, nI_mul, nI_lto, nI_leo, nI_olt, nI_ole, nI_eqo, nI_oeq, nI_lt2, nI_le2, nI_eq2, nI_nm1, nI_m1n, nI_lt0, nI_lem1, nc_nI, nc_o, ix_nI, ix_o, hk]
  rw [h.2.2.1 k hk]
theorem c_coin (h : pc_S o s u) {p : Nat} (hp : p < 6) : fX5_shillingsOf o (nI p) u = some (s (10 + p), u) := by
  unfold fX5_shillingsOf
  rw [c_at hp (by decide), h.2.2.2.1 p hp]
  rfl
theorem c_tick (h : pc_S o s u) {p : Nat} (hp : p < 6) : fX5_ticketsOf o (nI p) u = some (s (16 + p), u) := by
  unfold fX5_ticketsOf
  rw [c_at hp (by decide), h.2.2.2.2 p hp]
  rfl
def hS (Z : dZ) (s : Nat → Int32) (x : Int32) : Nat := bS (fun k => decide (s (2 + k) = x)) Z.2.1
theorem hS_lt (hE : pE Z) (x : Int32) : hS Z s x < 256 := bS_256 hE.2.1
theorem hS_lt2 (x : Int32) : hS Z s x < 2 ^ Z.2.1 := bS_lt _ _
theorem hS_bit (x : Int32) (k : Nat) : (hS Z s x).testBit k = (decide (k < Z.2.1) && decide (s (2 + k) = x)) := bS_bit _ _ _
theorem c_bits4 (h : pc_S o s u) (x : Int32) : ∀ (d k n : Nat), k + d = 8 → d < n → fX5_bitsOf_4 o n x (nI (bS (fun k => decide (s (2 + k) = x)) k)) (nI k) u = some (nI (bS (fun k => decide (s (2 + k) = x)) 8), u) := by
  intro d
  induction d with
  | zero =>
    intro k n hk hn
    obtain ⟨n, rfl⟩ : ∃ m, n = m + 1 := ⟨n - 1, by omega⟩
    have e : k = 8 := by omega
    subst e
    rw [fX5_bitsOf_4]
    rfl
  | succ d ih =>
    intro k n hk hn
    obtain ⟨n, rfl⟩ : ∃ m, n = m + 1 := ⟨n - 1, by omega⟩
    have hk8 : k < 8 := by omega
    have ih := ih (k + 1) n (by omega) (by omega)
    rw [fX5_bitsOf_4]
    simp (disch := first | omega | decide) only [i10, i00, decide_true, decide_false, cnd_t, cnd_f, gd_nil, gd_t, b1_0, b1_1, sw_nil, sw_cons, obs, Nat.not_lt_zero, nI_addo, nI_oadd, nI_add, nI_mulo, nI_omul, nI_mul, nI_lto, nI_leo, nI_olt, nI_ole, nI_eqo, nI_oeq, nI_lt2, nI_le2, nI_eq2, nI_nm1, nI_m1n, nI_lt0, nI_lem1, nc_nI, nc_o, ix_nI, ix_o, hk8, h.2.2.1 k hk8, zb_or (bS_256 (show k ≤ 8 by omega)) hk8]
    rw [bS] at ih
    by_cases e : s (2 + k) = x
    · simp only [e, i10, i00, decide_true, decide_false, cnd_t, cnd_f, gd_nil, gd_t, b1_0, b1_1, sw_nil, sw_cons, obs, if_true] at ih ⊢
      exact ih
    · simp only [e, i10, i00, decide_true, decide_false, cnd_t, cnd_f, gd_nil, gd_t, b1_0, b1_1, sw_nil, sw_cons, obs, Bool.false_eq_true, if_false] at ih ⊢
      exact ih
theorem c_bits8 (h : pc_S o s u) (x : Int32) : fX5_bitsOf o x u = some (nI (bS (fun k => decide (s (2 + k) = x)) 8), u) := c_bits4 h x 8 0 fu rfl (by decide)
theorem c_bits (hE : pE Z) (hv : pv_S Z s) (h : pc_S o s u) {p : Nat} (hp : p < Z.1) : fX5_bitsOf o (nI p) u = some (nI (hS Z s (nI p)), u) := by
  have h1 := hE.1
  rw [c_bits8 h, hS, bS_more hE.2.1]
  intro k h1 h2
  rw [hv.2.1 k h1 h2]
  simp (disch := first | omega | decide) only [nI_m1n, decide_false]
end PU
