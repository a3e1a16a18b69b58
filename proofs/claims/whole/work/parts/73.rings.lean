/-! rings -/
theorem pigeon : ∀ (n : Nat) (g : Nat → Nat), (∀ i, i ≤ n → g i < n) → ∃ i j, i < j ∧ j ≤ n ∧ g i = g j
  | 0, g, h => absurd (h 0 (Nat.le_refl 0)) (Nat.not_lt_zero _)
  | n + 1, g, h => by
    by_cases e : ∃ i, i < n + 1 ∧ g i = g (n + 1)
    · obtain ⟨i, h1, h2⟩ := e
      exact ⟨i, n + 1, h1, Nat.le_refl _, h2⟩
    · have hne : ∀ i, i ≤ n → g i ≠ g (n + 1) := fun i hi q => e ⟨i, by omega, q⟩
      obtain ⟨i, j, h1, h2, h3⟩ := pigeon n (fun i => if g (n + 1) < g i then g i - 1 else g i) (by
        intro i hi
        have a1 := h i (by omega)
        have a2 := h (n + 1) (Nat.le_refl _)
        have a3 := hne i hi
        show (if g (n + 1) < g i then g i - 1 else g i) < n
        split <;> omega)
      refine ⟨i, j, h1, by omega, ?_⟩
      have a1 := hne i (by omega)
      have a2 := hne j h2
      have h3 : (if g (n + 1) < g i then g i - 1 else g i) = (if g (n + 1) < g j then g j - 1 else g j) := h3
      split at h3 <;> split at h3 <;> omega
def itN (f : Nat → Nat) (x : Nat) : Nat → Nat
  | 0 => x
  | n + 1 => itN f (f x) n
theorem itN_add (f : Nat → Nat) : ∀ (a c x : Nat), itN f x (a + c) = itN f (itN f x a) c
  | 0, c, x => by rw [Nat.zero_add]; rfl
  | a + 1, c, x => by
    rw [show a + 1 + c = (a + c) + 1 by omega]
    exact itN_add f a c (f x)
theorem itN_in {f : Nat → Nat} {S : Nat → Prop} (h : ∀ x, S x → S (f x)) : ∀ (n x : Nat), S x → S (itN f x n)
  | 0, _, hx => hx
  | n + 1, x, hx => itN_in h n (f x) (h x hx)
def itA (f : Nat → Nat) (p : Nat) : Nat → Nat → Bool
  | _, 0 => false
  | x, n + 1 => decide (f x = p) || itA f p (f x) n
theorem itA_of {f : Nat → Nat} {p : Nat} : ∀ (n x i : Nat), 1 ≤ i → i ≤ n → itN f x i = p → itA f p x n = true
  | 0, _, i, h1, h2, _ => absurd h1 (by omega)
  | n + 1, x, i, h1, h2, h3 => by
    rw [itA]
    by_cases e : i = 1
    · subst e
      have h3 : f x = p := h3
      simp only [h3, decide_true, Bool.true_or]
    · obtain ⟨i, rfl⟩ : ∃ j, i = j + 1 := ⟨i - 1, by omega⟩
      have := itA_of n (f x) i (by omega) (by omega) h3
      rw [this, Bool.or_true]
theorem ring_is {f : Nat → Nat} {S : Nat → Prop} (hS : ∀ x, S x → x < 6) (hf : ∀ x, S x → S (f x)) {x : Nat} (hx : S x) : ∃ p, S p ∧ itA f p p 6 = true := by
  obtain ⟨i, j, h1, h2, h3⟩ := pigeon 6 (fun i => itN f x i) (fun i _ => hS _ (itN_in hf i x hx))
  have h3 : itN f x i = itN f x j := h3
  refine ⟨itN f x i, itN_in hf i x hx, itA_of 6 _ (j - i) (by omega) (by omega) ?_⟩
  rw [← itN_add, show i + (j - i) = j by omega, h3]
def eO : Option Nat → Int32
  | none => -1
  | some k => nI k
def fGd (P : Nat → Bool) : Nat → Nat → Option Nat
  | _, 0 => none
  | k, d + 1 => if P k then some k else fGd P (k + 1) d
theorem fGd_ok {P : Nat → Bool} : ∀ (d k : Nat), (fGd P k d = none ∧ ∀ j, k ≤ j → j < k + d → P j = false) ∨ ∃ j, fGd P k d = some j ∧ k ≤ j ∧ j < k + d ∧ P j = true
  | 0, k => Or.inl ⟨rfl, fun j a c => by omega⟩
  | d + 1, k => by
    rw [fGd]
    by_cases e : P k = true
    · rw [if_pos e]
      exact Or.inr ⟨k, rfl, Nat.le_refl k, by omega, e⟩
    · rw [if_neg e]
      rcases fGd_ok (P := P) d (k + 1) with ⟨h1, h2⟩ | ⟨j, h1, h2, h3, h4⟩
      · refine Or.inl ⟨h1, fun j a c => ?_⟩
        by_cases ej : j = k
        · subst ej
          cases h : P j
          · rfl
          · exact absurd h e
        · exact h2 j (by omega) (by omega)
      · exact Or.inr ⟨j, h1, by omega, by omega, h4⟩
theorem fGd_more {P : Nat → Bool} {N : Nat} (hN : ∀ j, N ≤ j → P j = false) : ∀ (d e k : Nat), k + d = N → fGd P k (d + e) = fGd P k d
  | 0, 0, _, _ => rfl
  | 0, e + 1, k, h => by
    rw [Nat.zero_add]
    show fGd P k (e + 1) = none
    rw [fGd, hN k (by omega)]
    simp only [Bool.false_eq_true, if_false]
    have : ∀ (e k : Nat), N ≤ k → fGd P k e = none := by
      intro e
      induction e with
      | zero => intro k _; rfl
      | succ e ih =>
        intro k hk
        rw [fGd, hN k hk]
        simp only [Bool.false_eq_true, if_false]
        exact ih (k + 1) (by omega)
    exact this e (k + 1) (by omega)
  | d + 1, e, k, h => by
    rw [show d + 1 + e = (d + e) + 1 by omega, fGd, fGd, fGd_more hN d e (k + 1) (by omega)]
theorem pc_less0 : (List.range 64).all (fun m => (List.range 64).all fun o => (m &&& o == 0) || decide (pc (m &&& (255 ^^^ o)) < pc m)) = true := by decide +kernel
theorem pc_less {m o : Nat} (hm : m < 64) (ho : o < 64) (h : m &&& o ≠ 0) : pc (m &&& (255 ^^^ o)) < pc m := by
  have q := List.all_eq_true.mp (List.all_eq_true.mp pc_less0 m (List.mem_range.mpr hm)) o (List.mem_range.mpr ho)
  rw [Bool.or_eq_true, beq_iff_eq, decide_eq_true_eq] at q
  exact q.resolve_left h
section PU
variable {Z : dZ} {s : Nat → Int32} {u v : ab_S}
def fG (Z : dZ) (s : Nat → Int32) (p : Nat) : Option Nat := fGd (fun k => decide (s (2 + k) = nI p)) 0 Z.2.1
def fP (Z : dZ) (s : Nat → Int32) (p : Nat) : Nat := (fG Z s p).getD 0
theorem fG_c (hE : pE Z) (hv : pv_S Z s) {p : Nat} (hp : p < 2147483648) : fGd (fun k => decide (s (2 + k) = nI p)) 0 8 = fG Z s p := by
  have hg := hE.2.1
  have h : ∀ j, Z.2.1 ≤ j → (fun k => decide (k < 8) && decide (s (2 + k) = nI p)) j = false := by
    intro j hj
    by_cases h8 : j < 8
    · show (decide (j < 8) && decide (s (2 + j) = nI p)) = false
      rw [hv.2.1 j hj h8]
      simp (disch := first | omega | decide) only [nI_m1n, decide_false, Bool.and_false]
    · show (decide (j < 8) && decide (s (2 + j) = nI p)) = false
      simp only [h8, decide_false, Bool.false_and]
  have e : ∀ (d k : Nat), k + d ≤ 8 → fGd (fun k => decide (k < 8) && decide (s (2 + k) = nI p)) k d = fGd (fun k => decide (s (2 + k) = nI p)) k d := by
    intro d
    induction d with
    | zero => intro k _; rfl
    | succ d ih =>
      intro k hk
      rw [fGd, fGd, ih (k + 1) (by omega)]
      simp only [show k < 8 by omega, decide_true, Bool.true_and]
  have e8 : Z.2.1 + (8 - Z.2.1) = 8 := by omega
  have q := fGd_more h Z.2.1 (8 - Z.2.1) 0 (Nat.zero_add _)
  rw [e8] at q
  rw [← e 8 0 (by decide), fG, ← e Z.2.1 0 (by omega)]
  exact q
theorem fG_some {p : Nat} (h : (fG Z s p).isSome = true) : fG Z s p = some (fP Z s p) ∧ fP Z s p < Z.2.1 ∧ s (2 + fP Z s p) = nI p := by
  rcases fGd_ok (P := fun k => decide (s (2 + k) = nI p)) Z.2.1 0 with ⟨h1, -⟩ | ⟨j, h1, -, h3, h4⟩
  · have h1 : fG Z s p = none := h1
    rw [h1] at h
    cases h
  · have h1 : fG Z s p = some j := h1
    have e : fP Z s p = j := by unfold fP; rw [h1]; rfl
    rw [e]
    exact ⟨h1, by omega, of_decide_eq_true h4⟩
theorem fG_hS (hE : pE Z) {p : Nat} : (fG Z s p).isSome = !decide (hS Z s (nI p) = 0) := by
  rcases fGd_ok (P := fun k => decide (s (2 + k) = nI p)) Z.2.1 0 with ⟨h1, h2⟩ | ⟨j, h1, -, h3, h4⟩
  · have h1 : fG Z s p = none := h1
    have e : hS Z s (nI p) = 0 := by
      apply bit_ext
      intro k
      rw [hS_bit, Nat.zero_testBit]
      by_cases hk : k < Z.2.1
      · have := h2 k (Nat.zero_le k) (by omega)
        simp only [hk, decide_true, Bool.true_and]
        exact this
      · simp only [hk, decide_false, Bool.false_and]
    rw [h1, e]
    rfl
  · have h1 : fG Z s p = some j := h1
    have e : ¬ hS Z s (nI p) = 0 := by
      intro z
      have hb : (hS Z s (nI p)).testBit j = true := by
        rw [hS_bit]
        have h4 : decide (s (2 + j) = nI p) = true := h4
        simp only [show j < Z.2.1 by omega, decide_true, Bool.true_and]
        exact h4
      rw [z, Nat.zero_testBit] at hb
      cases hb
    rw [h1]
    simp only [e, decide_false, Bool.not_false]
    rfl
theorem fP_inj {p q : Nat} (hp : p < 2147483648) (hq : q < 2147483648) (h1 : (fG Z s p).isSome = true) (h2 : (fG Z s q).isSome = true) (e : fP Z s p = fP Z s q) : p = q := by
  have a := (fG_some h1).2.2
  have c := (fG_some h2).2.2
  rw [e, c] at a
  exact ((nI_eq2 hq hp).mp a).symm
def in0 (Z : dZ) (s : Nat → Int32) (n : Nat) : Nat := bS (fun p => (fG Z s p).isSome) n
theorem c_first2 (hc : pc_S 38 s u) {x : Int32} : ∀ (d k n : Nat), k + d = 8 → d < n → fX5_firstOf_2 38 n x (nI k) u = some (eO (fGd (fun k => decide (s (2 + k) = x)) k d), u) := by
  intro d
  induction d with
  | zero =>
    intro k n hk hn
    obtain ⟨n, rfl⟩ : ∃ i, n = i + 1 := ⟨n - 1, by omega⟩
    have e : k = 8 := by omega
    subst e
    rw [fX5_firstOf_2]
    simp (disch := first | omega | decide) only [i10, i00, decide_true, decide_false, cnd_t, cnd_f, gd_nil, gd_t, b1_0, b1_1, sw_nil, sw_cons, obs, Nat.not_lt_zero, nI_addo, nI_oadd, nI_add, nI_mulo, nI_omul, nI_mul, nI_lto, nI_leo, nI_olt, nI_ole, nI_eqo, nI_oeq, nI_lt2, nI_le2, nI_eq2, nI_nm1, nI_m1n, nI_lt0, nI_lem1, nc_nI, nc_o, ix_nI, ix_o, Nat.lt_irrefl, fGd, eO]
  | succ d ih =>
    intro k n hk hn
    obtain ⟨n, rfl⟩ : ∃ i, n = i + 1 := ⟨n - 1, by omega⟩
    have hk8 : k < 8 := by omega
    rw [fX5_firstOf_2]
    simp (disch := first | omega | decide) only [i10, i00, decide_true, decide_false, cnd_t, cnd_f, gd_nil, gd_t, b1_0, b1_1, sw_nil, sw_cons, obs, Nat.not_lt_zero, nI_addo, nI_oadd, nI_add, nI_mulo, nI_omul, nI_mul, nI_lto, nI_leo, nI_olt, nI_ole, nI_eqo, nI_oeq, nI_lt2, nI_le2, nI_eq2, nI_nm1, nI_m1n, nI_lt0, nI_lem1, nc_nI, nc_o, ix_nI, ix_o, hk8]
    rw [hc.2.2.1 k hk8, fGd]
    by_cases e : s (2 + k) = x
    · simp only [e, i10, i00, decide_true, decide_false, cnd_t, cnd_f, gd_nil, gd_t, b1_0, b1_1, sw_nil, sw_cons, obs, if_true, eO]
    · simp only [e, i10, i00, decide_true, decide_false, cnd_t, cnd_f, gd_nil, gd_t, b1_0, b1_1, sw_nil, sw_cons, obs, Bool.false_eq_true, if_false]
      exact ih (k + 1) n (by omega) (by omega)
theorem c_first (hE : pE Z) (hv : pv_S Z s) (hc : pc_S 38 s u) {p : Nat} (hp : p < 2147483648) : fX5_firstOf 38 (nI p) u = some (eO (fG Z s p), u) := by
  rw [← fG_c hE hv hp]
  exact c_first2 hc 8 0 fu rfl (by decide)
def rPut (Z : dZ) (s : Nat → Int32) (u v : ab_S) (n : Nat) : Prop := ∀ p, p < n → u.1 151 p = eO (fG Z s p) ∧ u.1 153 p = -1
def rPutM (Z : dZ) (s : Nat → Int32) (v : ab_S) (n : Nat) : Prop := ∀ p, p < n → v.1 18 p = eO (fG Z s p) ∧ v.1 20 p = -1
theorem eO_m1 (x : Option Nat) (hx : ∀ k, x = some k → k < 2147483648) : (eO x = -1) = (x.isSome = false) := by
  cases x with
  | none => simp only [eO, Option.isSome_none]
  | some k =>
    simp (disch := first | omega | decide) only [eO, nI_nm1 (hx k rfl), Option.isSome_some, Bool.true_eq_false]
theorem c_put5 {v : ab_S} : ∀ (d p n : Nat) (u : ab_S), pN Z s u v → rPut Z s u v p → p + d = Z.1 → d < n → ∃ u', fX3_putIn_5 (u.2.2 0) 38 n (nI (in0 Z s p)) (nI p) u = some (nI (in0 Z s Z.1), u') ∧ rPut Z s u' v Z.1 ∧ Fr (fun a _ => a = 151 ∨ a = 153) u u' := by
  intro d
  induction d with
  | zero =>
    intro p n u hN hr hp hn
    obtain ⟨n, rfl⟩ : ∃ i, n = i + 1 := ⟨n - 1, by omega⟩
    obtain ⟨hE, hO, ho, hm, hc, hs, hv⟩ := hN
    have hp6 := hE.1
    have e : p = Z.1 := by omega
    subst e
    rw [fX3_putIn_5, hO.1]
    simp (disch := first | omega | decide) only [i10, i00, decide_true, decide_false, cnd_t, cnd_f, gd_nil, gd_t, b1_0, b1_1, sw_nil, sw_cons, obs, Nat.not_lt_zero, nI_addo, nI_oadd, nI_add, nI_mulo, nI_omul, nI_mul, nI_lto, nI_leo, nI_olt, nI_ole, nI_eqo, nI_oeq, nI_lt2, nI_le2, nI_eq2, nI_nm1, nI_m1n, nI_lt0, nI_lem1, nc_nI, nc_o, ix_nI, ix_o, Nat.lt_irrefl]
    exact ⟨u, rfl, hr, Fr.rfl'⟩
  | succ d ih =>
    intro p n u hN hr hp hn
    obtain ⟨n, rfl⟩ : ∃ i, n = i + 1 := ⟨n - 1, by omega⟩
    have hN' := hN
    obtain ⟨hE, hO, ho, hm, hc, hs, hv⟩ := hN
    have hp6 := hE.1
    have hg := hE.2.1
    have e : p < Z.1 := by omega
    have f : Fr (fun a _ => a = 151 ∨ a = 153) u (sI (sI u 151 p (eO (fG Z s p))) 153 p (-1)) := Fr.trans (Fr.sI (Or.inl rfl)) (Fr.sI (Or.inr rfl))
    have f2 : Fr dCu u (sI (sI u 151 p (eO (fG Z s p))) 153 p (-1)) := f.mono fun a k z => Or.inr (by omega)
    obtain ⟨u', q, h1, h2⟩ := ih (p + 1) n _ (hN'.fr f2 Fr.rfl') (by
      intro j hj
      by_cases ej : j = p
      · subst ej
        exact ⟨by rw [sI_at, if_neg (by omega), sI_at, if_pos ⟨rfl, rfl⟩], by rw [sI_at, if_pos ⟨rfl, rfl⟩]⟩
      · have := hr j (by omega)
        exact ⟨by rw [sI_at, if_neg (by omega), sI_at, if_neg (by omega)]; exact this.1, by rw [sI_at, if_neg (by omega), sI_at, if_neg (by omega)]; exact this.2⟩) (by omega) (by omega)
    refine ⟨u', ?_, h1, f.trans h2⟩
    rw [fX3_putIn_5, hO.1, c_first hE hv hc (by omega)]
    simp (disch := first | omega | decide) only [i10, i00, decide_true, decide_false, cnd_t, cnd_f, gd_nil, gd_t, b1_0, b1_1, sw_nil, sw_cons, obs, nI_lt2, e]
    rw [c_put (by omega) (by decide)]
    simp only [obs]
    rw [c_put (by omega) (by decide)]
    have ez := eO_m1 (fG Z s p) (fun k hk => by
      have := (fG_some (Z := Z) (s := s) (p := p) (by rw [hk]; rfl)).2.1
      have e2 := (fG_some (Z := Z) (s := s) (p := p) (by rw [hk]; rfl)).1
      rw [hk] at e2
      cases e2
      omega)
    simp only [obs, ez, nI_addo]
    have e22 : (sI (sI u 151 p (eO (fG Z s p))) 153 p (-1)).2.2 0 = u.2.2 0 := rfl
    rw [e22, in0, bS] at q
    rw [in0]
    cases hh : (fG Z s p).isSome
    · simp only [hh, i10, i00, decide_true, decide_false, cnd_t, cnd_f, gd_nil, gd_t, b1_0, b1_1, sw_nil, sw_cons, obs, Bool.false_eq_true, if_false] at q ⊢
      exact q
    · simp only [hh, i10, i00, decide_true, decide_false, cnd_t, cnd_f, gd_nil, gd_t, b1_0, b1_1, sw_nil, sw_cons, obs, Bool.true_eq_false, if_true, zb_or (bS_256 (show p ≤ 8 by omega)) (show p < 8 by omega)] at q ⊢
      exact q
theorem m_put41 (hE : pE Z) {p a : Nat} (hp : p < Z.1) {K : Int32 → Int32 → ab_S → Option (Int32 × ab_S)} : ∀ (k n : Nat) (v : ab_S), k ≤ Z.2.1 → k < n → v.1 18 p = eO (fGd (fun k => decide (s (2 + k) = nI p)) k (Z.2.1 - k)) → ∃ v', fX10_ringsNow_41 K n (nI a) (nI p) (nI (hS Z s (nI p))) (nI k - 1) v = K (bif decide (hS Z s (nI p) = 0) then nI a ||| 0 else nI a ||| ((1 : Int32) <<< (nI p &&& 31))) (nI (p + 1)) v' ∧ v'.1 18 p = eO (fG Z s p) ∧ Fr (fun a k => a = 18 ∧ k = p) v v' := by
  have hp6 := hE.1
  have hg := hE.2.1
  have hl := hS_lt hE (s := s) (nI p)
  intro k
  induction k with
  | zero =>
    intro n v hk hn h1
    obtain ⟨n, rfl⟩ : ∃ i, n = i + 1 := ⟨n - 1, by omega⟩
    have e0 : (nI 0 - 1 < 0) = True := eq_true (by decide +kernel)
    refine ⟨v, ?_, h1, Fr.rfl'⟩
    rw [fX10_ringsNow_41]
    simp (disch := first | omega | decide) only [i10, i00, decide_true, decide_false, cnd_t, cnd_f, gd_nil, gd_t, b1_0, b1_1, sw_nil, sw_cons, obs, e0, nI_eqo, nI_addo]
    by_cases z : hS Z s (nI p) = 0 <;> simp only [z, i10, i00, decide_true, decide_false, cnd_t, cnd_f, gd_nil, gd_t, b1_0, b1_1, sw_nil, sw_cons, obs]
  | succ k ih =>
    intro n v hk hn h1
    obtain ⟨n, rfl⟩ : ∃ i, n = i + 1 := ⟨n - 1, by omega⟩
    have hk8 : k < Z.2.1 := by omega
    have e1 : nI (k + 1) - 1 = nI k := nI_sub (b := 1) (by omega)
    have e2 : nI k + (-1) = nI k - 1 := by rw [Int32.sub_eq_add_neg]
    have e3 : Z.2.1 - k = (Z.2.1 - (k + 1)) + 1 := by omega
    rw [fX10_ringsNow_41, e1, e2]
    simp (disch := first | omega | decide) only [i10, i00, decide_true, decide_false, cnd_t, cnd_f, gd_nil, gd_t, b1_0, b1_1, sw_nil, sw_cons, obs, nI_lt0, zb_b1 hl (show k < 8 by omega), hS_bit, hk8, Bool.true_and, ix_nI, nc_nI]
    by_cases z : s (2 + k) = nI p
    · simp only [z, i10, i00, decide_true, decide_false, cnd_t, cnd_f, gd_nil, gd_t, b1_0, b1_1, sw_nil, sw_cons, obs]
      obtain ⟨v', q1, q2, q3⟩ := ih n (sI v 18 p (nI k)) (by omega) (by omega) (by
        rw [sI_at, if_pos ⟨rfl, rfl⟩, e3, fGd, z]
        simp only [decide_true, if_true, eO])
      exact ⟨v', q1, q2, Fr.trans (Fr.sI ⟨rfl, rfl⟩) q3⟩
    · simp only [z, i10, i00, decide_true, decide_false, cnd_t, cnd_f, gd_nil, gd_t, b1_0, b1_1, sw_nil, sw_cons, obs, Bool.false_eq_true]
      obtain ⟨v', q1, q2, q3⟩ := ih n (sI v 18 p (v.1 18 p)) (by omega) (by omega) (by
        rw [sI_at, if_pos ⟨rfl, rfl⟩, e3, fGd, h1]
        simp only [z, decide_false, Bool.false_eq_true, if_false])
      exact ⟨v', q1, q2, Fr.trans (Fr.sI ⟨rfl, rfl⟩) q3⟩
theorem m_put4 {u : ab_S} : ∀ (d p n : Nat) (v : ab_S), pN Z s u v → rPutM Z s v p → p + d = Z.1 → d < n → ∃ v', fX10_ringsNow_4 n (nI (in0 Z s p)) (nI p) v = fX10_ringsNow_101 fu (nI (in0 Z s Z.1)) 0 v' ∧ rPutM Z s v' Z.1 ∧ Fr (fun a _ => a = 18 ∨ a = 20) v v' := by
  intro d
  induction d with
  | zero =>
    intro p n v hN hr hp hn
    obtain ⟨n, rfl⟩ : ∃ i, n = i + 1 := ⟨n - 1, by omega⟩
    obtain ⟨hE, hO, ho, hm, hc, hs, hv⟩ := hN
    have hp6 := hE.1
    have e : p = Z.1 := by omega
    subst e
    rw [fX10_ringsNow_4, m_persons hE hm]
    simp (disch := first | omega | decide) only [i10, i00, decide_true, decide_false, cnd_t, cnd_f, gd_nil, gd_t, b1_0, b1_1, sw_nil, sw_cons, obs, Nat.not_lt_zero, nI_addo, nI_oadd, nI_add, nI_mulo, nI_omul, nI_mul, nI_lto, nI_leo, nI_olt, nI_ole, nI_eqo, nI_oeq, nI_lt2, nI_le2, nI_eq2, nI_nm1, nI_m1n, nI_lt0, nI_lem1, nc_nI, nc_o, ix_nI, ix_o, Nat.lt_irrefl]
    exact ⟨v, rfl, hr, Fr.rfl'⟩
  | succ d ih =>
    intro p n v hN hr hp hn
    obtain ⟨n, rfl⟩ : ∃ i, n = i + 1 := ⟨n - 1, by omega⟩
    have hN' := hN
    obtain ⟨hE, hO, ho, hm, hc, hs, hv⟩ := hN
    have hp6 := hE.1
    have hg := hE.2.1
    have e : p < Z.1 := by omega
    have f : Fr (fun a _ => a = 18 ∨ a = 20) v (sI (sI v 18 p (-1)) 20 p (-1)) := Fr.trans (Fr.sI (Or.inl rfl)) (Fr.sI (Or.inr rfl))
    have f2 : Fr dMu v (sI (sI v 18 p (-1)) 20 p (-1)) := f.mono fun a k z => Or.inr (Or.inr (Or.inr (Or.inl (by omega))))
    have hN1 := hN'.fr Fr.rfl' f2
    have hg2 : ∀ K, ∃ v', fX10_ringsNow_41 K fu (nI (in0 Z s p)) (nI p) (nI (hS Z s (nI p))) (nI Z.2.1 - 1) (sI (sI v 18 p (-1)) 20 p (-1)) = K (bif decide (hS Z s (nI p) = 0) then nI (in0 Z s p) ||| 0 else nI (in0 Z s p) ||| ((1 : Int32) <<< (nI p &&& 31))) (nI (p + 1)) v' ∧ v'.1 18 p = eO (fG Z s p) ∧ Fr (fun a k => a = 18 ∧ k = p) (sI (sI v 18 p (-1)) 20 p (-1)) v' := fun K => m_put41 hE e Z.2.1 fu _ (Nat.le_refl _) (by simp only [fu]; omega) (by
      rw [sI_at, if_neg (by omega), sI_at, if_pos ⟨rfl, rfl⟩, Nat.sub_self]
      rfl)
    obtain ⟨v1, q1, q2, q3⟩ := hg2 (fX10_ringsNow_4 n)
    have f3 : Fr dMu (sI (sI v 18 p (-1)) 20 p (-1)) v1 := q3.mono fun a k z => Or.inr (Or.inr (Or.inr (Or.inl (by omega))))
    obtain ⟨v', h1, h2, h3⟩ := ih (p + 1) n v1 (hN1.fr Fr.rfl' f3) (by
      intro j hj
      by_cases ej : j = p
      · subst ej
        exact ⟨q2, by rw [q3.1 20 j (by omega), sI_at, if_pos ⟨rfl, rfl⟩]⟩
      · have := hr j (by omega)
        exact ⟨by rw [q3.1 18 j (by omega), sI_at, if_neg (by omega), sI_at, if_neg (by omega)]; exact this.1, by rw [q3.1 20 j (by omega), sI_at, if_neg (by omega), sI_at, if_neg (by omega)]; exact this.2⟩) (by omega) (by omega)
    refine ⟨v', ?_, h2, f.trans ((q3.mono fun a k z => Or.inl z.1).trans h3)⟩
    rw [fX10_ringsNow_4, m_persons hE hm]
    simp (disch := first | omega | decide) only [i10, i00, decide_true, decide_false, cnd_t, cnd_f, gd_nil, gd_t, b1_0, b1_1, sw_nil, sw_cons, obs, nI_lt2, e, ix_nI, nc_nI]
    rw [m_held0 hE hm hs]
    simp only [i10, i00, decide_true, decide_false, cnd_t, cnd_f, gd_nil, gd_t, b1_0, b1_1, sw_nil, sw_cons, obs]
    rw [m_goods hE hN1.2.2.2.1]
    simp only [obs]
    rw [q1, ← h1]
    have eh := fG_hS hE (s := s) (p := p)
    have eb : in0 Z s (p + 1) = if (fG Z s p).isSome then in0 Z s p ||| 2 ^ p else in0 Z s p := rfl
    rw [eb, eh]
    by_cases z : hS Z s (nI p) = 0
    · simp only [z, i10, i00, decide_true, decide_false, cnd_t, cnd_f, gd_nil, gd_t, b1_0, b1_1, sw_nil, sw_cons, obs, Bool.not_true, Bool.false_eq_true, if_false, Int32.or_zero]
    · simp only [z, i10, i00, decide_true, decide_false, cnd_t, cnd_f, gd_nil, gd_t, b1_0, b1_1, sw_nil, sw_cons, obs, Bool.not_false, if_true, zb_or (show in0 Z s p < 256 from bS_256 (show p ≤ 8 by omega)) (show p < 8 by omega)]
end PU
