/-! tickets, swaps, places, draws: on both sides -/
def su (s : Nat → Int32) (k : Nat) (x : Int32) (j : Nat) : Int32 := if j = k then x else s j
theorem su_eq {s : Nat → Int32} {k : Nat} {x : Int32} : su s k x k = x := if_pos rfl
theorem su_ne {s : Nat → Int32} {k j : Nat} {x : Int32} (h : j ≠ k) : su s k x j = s j := if_neg h
def b01 (x : Bool) : Int32 := if x then 1 else 0
theorem b01_0 (x : Bool) : (b01 x = 0) ↔ x = false := by cases x <;> decide +kernel
theorem b01_1 (x : Bool) : (b01 x = 1) ↔ x = true := by cases x <;> decide +kernel
theorem b1_b (x : Bool) : ab_b1 (b01 x) = true := by cases x <;> decide +kernel
theorem b01_t : b01 true = 1 := rfl
theorem b01_f : b01 false = 0 := rfl
section PU
variable {Z : dZ} {o o1 b : Nat} {s : Nat → Int32} {u v : ab_S}
theorem pc_S.hold (h : pc_S o s u) {k : Nat} (hk : k < 8) {x : Int32} : pc_S o (su s (2 + k) x) (sI u (o + 1) k x) := by
  obtain ⟨h1, h2, h3, h4, h5⟩ := h
  refine ⟨?_, ?_, ?_, ?_, ?_⟩
  · rw [sI_at, if_neg (by omega), su_ne (by omega)]; exact h1
  · rw [sI_l, su_ne (by omega)]; exact h2
  · intro j hj
    by_cases e : j = k
    · subst e
      rw [sI_at, if_pos ⟨rfl, rfl⟩, su_eq]
    · rw [sI_at, if_neg (by omega), su_ne (by omega)]; exact h3 j hj
  · intro p hp
    rw [sI_at, if_neg (by omega), su_ne (by omega)]; exact h4 p hp
  · intro p hp
    rw [sI_at, if_neg (by omega), su_ne (by omega)]; exact h5 p hp
theorem pc_S.coin (h : pc_S o s u) {k : Nat} (hk : k < 6) {x : Int32} : pc_S o (su s (10 + k) x) (sI u (o + 2) k x) := by
  obtain ⟨h1, h2, h3, h4, h5⟩ := h
  refine ⟨?_, ?_, ?_, ?_, ?_⟩
  · rw [sI_at, if_neg (by omega), su_ne (by omega)]; exact h1
  · rw [sI_l, su_ne (by omega)]; exact h2
  · intro p hp
    rw [sI_at, if_neg (by omega), su_ne (by omega)]; exact h3 p hp
  · intro j hj
    by_cases e : j = k
    · subst e
      rw [sI_at, if_pos ⟨rfl, rfl⟩, su_eq]
    · rw [sI_at, if_neg (by omega), su_ne (by omega)]; exact h4 j hj
  · intro p hp
    rw [sI_at, if_neg (by omega), su_ne (by omega)]; exact h5 p hp
theorem pc_S.tick (h : pc_S o s u) {k : Nat} (hk : k < 6) {x : Int32} : pc_S o (su s (16 + k) x) (sI u (o + 3) k x) := by
  obtain ⟨h1, h2, h3, h4, h5⟩ := h
  refine ⟨?_, ?_, ?_, ?_, ?_⟩
  · rw [sI_at, if_neg (by omega), su_ne (by omega)]; exact h1
  · rw [sI_l, su_ne (by omega)]; exact h2
  · intro p hp
    rw [sI_at, if_neg (by omega), su_ne (by omega)]; exact h3 p hp
  · intro p hp
    rw [sI_at, if_neg (by omega), su_ne (by omega)]; exact h4 p hp
  · intro j hj
    by_cases e : j = k
    · subst e
      rw [sI_at, if_pos ⟨rfl, rfl⟩, su_eq]
    · rw [sI_at, if_neg (by omega), su_ne (by omega)]; exact h5 j hj
theorem pc_S.now (h : pc_S o s u) {x : Int32} : pc_S o (su s 0 x) (sI u o 4 x) := by
  obtain ⟨h1, h2, h3, h4, h5⟩ := h
  refine ⟨?_, ?_, ?_, ?_, ?_⟩
  · rw [sI_at, if_pos ⟨rfl, rfl⟩, su_eq]
  · rw [sI_l, su_ne (by omega)]; exact h2
  · intro p hp
    rw [sI_at, if_neg (by omega), su_ne (by omega)]; exact h3 p hp
  · intro p hp
    rw [sI_at, if_neg (by omega), su_ne (by omega)]; exact h4 p hp
  · intro p hp
    rw [sI_at, if_neg (by omega), su_ne (by omega)]; exact h5 p hp
theorem pc_S.drawn (h : pc_S o s u) {x : Int32} {y : Int64} (hy : y = x.toInt64) : pc_S o (su s 1 x) (sJ u o 3 y) := by
  obtain ⟨h1, h2, h3, h4, h5⟩ := h
  refine ⟨?_, ?_, ?_, ?_, ?_⟩
  · rw [sJ_i, su_ne (by omega)]; exact h1
  · rw [sJ_at, if_pos ⟨rfl, rfl⟩, su_eq]; exact hy
  · intro p hp
    rw [sJ_i, su_ne (by omega)]; exact h3 p hp
  · intro p hp
    rw [sJ_i, su_ne (by omega)]; exact h4 p hp
  · intro p hp
    rw [sJ_i, su_ne (by omega)]; exact h5 p hp
theorem pm_S.put (h : pm_S b s v) {k i : Nat} (hi : i = b + k) {x : Int32} : pm_S b (su s k x) (sI v 16 i x) := by
  intro j hj
  by_cases e : j = k
  · subst e
    rw [sI_at, if_pos ⟨rfl, hi.symm⟩, su_eq]
  · rw [sI_at, if_neg (by omega), su_ne e]; exact h j hj
-- what stays good
theorem pv_S.hold (hE : pE Z) (hv : pv_S Z s) {k : Nat} (hk : k < Z.2.1) {x : Int32} (hx : x = -1 ∨ ∃ p, p < Z.1 ∧ x = nI p) : pv_S Z (su s (2 + k) x) := by
  have hg := hE.2.1
  obtain ⟨h1, h2, h3, h4, h5, h6⟩ := hv
  refine ⟨fun j hj => ?_, fun j a c => ?_, fun p hp => ?_, fun p hp => ?_, fun p hp h => ?_, ?_⟩
  · by_cases e : j = k
    · subst e
      rw [su_eq]; exact hx
    · rw [su_ne (by omega)]; exact h1 j hj
  · rw [su_ne (by omega)]; exact h2 j a c
  · rw [su_ne (by omega)]; exact h3 p hp
  · rw [su_ne (by omega)]; exact h4 p hp
  · rw [su_ne (by omega), su_ne (by omega)]; exact h5 p hp h
  · rw [su_ne (by omega)]; exact h6
theorem pv_S.coin (hE : pE Z) (hv : pv_S Z s) {k : Nat} (hk : k < Z.1) {x : Int32} (hx : ∃ c, c ≤ 50 ∧ x = nI c) : pv_S Z (su s (10 + k) x) := by
  have hg := hE.2.1
  have hp6 := hE.1
  obtain ⟨h1, h2, h3, h4, h5, h6⟩ := hv
  refine ⟨fun j hj => ?_, fun j a c => ?_, fun p hp => ?_, fun p hp => ?_, fun p hp h => ?_, ?_⟩
  · rw [su_ne (by omega)]; exact h1 j hj
  · rw [su_ne (by omega)]; exact h2 j a c
  · by_cases e : p = k
    · subst e
      rw [su_eq]; exact hx
    · rw [su_ne (by omega)]; exact h3 p hp
  · rw [su_ne (by omega)]; exact h4 p hp
  · rw [su_ne (by omega), su_ne (by omega)]; exact h5 p hp h
  · rw [su_ne (by omega)]; exact h6
theorem pv_S.tick (hE : pE Z) (hv : pv_S Z s) {k : Nat} (hk : k < Z.1) {x : Int32} (hx : ∃ c, c ≤ 9 ∧ x = nI c) : pv_S Z (su s (16 + k) x) := by
  have hg := hE.2.1
  have hp6 := hE.1
  obtain ⟨h1, h2, h3, h4, h5, h6⟩ := hv
  refine ⟨fun j hj => ?_, fun j a c => ?_, fun p hp => ?_, fun p hp => ?_, fun p hp h => ?_, ?_⟩
  · rw [su_ne (by omega)]; exact h1 j hj
  · rw [su_ne (by omega)]; exact h2 j a c
  · rw [su_ne (by omega)]; exact h3 p hp
  · by_cases e : p = k
    · subst e
      rw [su_eq]; exact hx
    · rw [su_ne (by omega)]; exact h4 p hp
  · rw [su_ne (by omega), su_ne (by omega)]; exact h5 p hp h
  · rw [su_ne (by omega)]; exact h6
theorem pv_S.now (hE : pE Z) (hv : pv_S Z s) {x : Int32} : pv_S Z (su s 0 x) := by
  obtain ⟨h1, h2, h3, h4, h5, h6⟩ := hv
  refine ⟨fun j hj => ?_, fun j a c => ?_, fun p hp => ?_, fun p hp => ?_, fun p hp h => ?_, ?_⟩
  · rw [su_ne (by omega)]; exact h1 j hj
  · rw [su_ne (by omega)]; exact h2 j a c
  · rw [su_ne (by omega)]; exact h3 p hp
  · rw [su_ne (by omega)]; exact h4 p hp
  · rw [su_ne (by omega), su_ne (by omega)]; exact h5 p hp h
  · rw [su_ne (by omega)]; exact h6
theorem pv_S.drawn (hE : pE Z) (hv : pv_S Z s) {x : Int32} (hx : ∃ g, g < 2147483648 ∧ x = nI g) : pv_S Z (su s 1 x) := by
  obtain ⟨h1, h2, h3, h4, h5, h6⟩ := hv
  refine ⟨fun j hj => ?_, fun j a c => ?_, fun p hp => ?_, fun p hp => ?_, fun p hp h => ?_, ?_⟩
  · rw [su_ne (by omega)]; exact h1 j hj
  · rw [su_ne (by omega)]; exact h2 j a c
  · rw [su_ne (by omega)]; exact h3 p hp
  · rw [su_ne (by omega)]; exact h4 p hp
  · rw [su_ne (by omega), su_ne (by omega)]; exact h5 p hp h
  · rw [su_eq]; exact hx
-- places
theorem c_place (h : pc_S o s u) {k : Nat} (hk : k < 8) {x : Int32} : ∃ u', fX5_place o (nI k) x u = some ((), u') ∧ Fc o u u' ∧ pc_S o (su s (2 + k) x) u' := by
  refine ⟨sI u (o + 1) k x, ?_, Fr.sI ⟨by omega, by omega⟩, h.hold hk⟩
  unfold fX5_place
  rw [c_put hk (by decide)]
  rfl
-- ===== tickets =====
def buyS (s : Nat → Int32) (p : Nat) : Bool := !decide (s (10 + p) ≤ 0) && decide (s (16 + p) < 9)
def buyT (s : Nat → Int32) (p : Nat) : Nat → Int32 := su (su s (10 + p) (s (10 + p) - 1)) (16 + p) (s (16 + p) + 1)
theorem pv_S.buy (hE : pE Z) (hv : pv_S Z s) {p : Nat} (hp : p < Z.1) (hb : buyS s p = true) : pv_S Z (buyT s p) := by
  have hp6 := hE.1
  obtain ⟨c, hc, ec⟩ := hv.2.2.1 p (by omega)
  obtain ⟨t, ht, et⟩ := hv.2.2.2.1 p (by omega)
  unfold buyS at hb
  rw [ec, et] at hb
  simp (disch := first | omega | decide) only [nI_leo, nI_lto, Bool.and_eq_true, Bool.not_eq_true', decide_eq_false_iff_not, decide_eq_true_eq] at hb
  refine (hv.coin hE hp ⟨c - 1, by omega, ?_⟩).tick hE hp ⟨t + 1, by omega, ?_⟩
  · rw [ec]; exact nI_sub (b := 1) (by omega)
  · rw [et, nI_addo]
theorem c_canBuy (h : pc_S o s u) {p : Nat} (hp : p < 6) : fX5_canBuy o (nI p) u = some (b01 (buyS s p), u) := by
  unfold fX5_canBuy buyS
  rw [c_coin h hp]
  simp only [obs]
  rw [c_tick h hp]
  by_cases e : s (10 + p) ≤ 0
  · simp only [e, i10, i00, decide_true, decide_false, cnd_t, cnd_f, gd_nil, gd_t, b1_0, b1_1, sw_nil, sw_cons, obs, Bool.not_true, Bool.false_and, b01_f]
  · by_cases e2 : s (16 + p) < 9
    · simp only [e, e2, i10, i00, decide_true, decide_false, cnd_t, cnd_f, gd_nil, gd_t, b1_0, b1_1, sw_nil, sw_cons, obs, Bool.not_false, Bool.true_and, b01_t]
    · simp only [e, e2, i10, i00, decide_true, decide_false, cnd_t, cnd_f, gd_nil, gd_t, b1_0, b1_1, sw_nil, sw_cons, obs, Bool.not_false, Bool.true_and, b01_f]
theorem c_buy (h : pc_S o s u) {p : Nat} (hp : p < 6) : ∃ u', fX5_takeTicket o (nI p) u = some ((), u') ∧ Fc o u u' ∧ pc_S o (buyT s p) u' := by
  refine ⟨sI (sI u (o + 2) p (s (10 + p) - 1)) (o + 3) p (s (16 + p) + 1), ?_, Fr.trans (Fr.sI ⟨by omega, by omega⟩) (Fr.sI ⟨by omega, by omega⟩), ?_⟩
  · unfold fX5_takeTicket
    rw [c_coin h hp]
    simp only [obs]
    rw [c_put hp (by decide)]
    simp only [obs]
    rw [c_tick (h.coin hp) hp, su_ne (by omega)]
    simp only [obs]
    rw [c_put hp (by decide)]
    rfl
  · exact (h.coin hp).tick hp
theorem m_mayBuy (h : pm_S b s v) (hb : b ≤ 1050) {p : Nat} (hp : p < 6) : fX10_mayBuy (nI b) (nI p) v = some (b01 (buyS s p), v) := by
  unfold fX10_mayBuy buyS
  simp (disch := first | omega | decide) only [i10, i00, decide_true, decide_false, cnd_t, cnd_f, gd_nil, gd_t, b1_0, b1_1, sw_nil, sw_cons, obs, Nat.not_lt_zero, nI_addo, nI_oadd, nI_add, nI_mulo, nI_omul, nI_mul, nI_lto, nI_leo, nI_olt, nI_ole, nI_eqo, nI_oeq, nI_lt2, nI_le2, nI_eq2, nI_nm1, nI_m1n, nI_lt0, nI_lem1, nc_nI, nc_o, ix_nI, ix_o, h.at (k := 10 + p) (by omega) (show b + 10 + p = b + (10 + p) by omega), h.at (k := 16 + p) (by omega) (show b + 16 + p = b + (16 + p) by omega)]
  by_cases e : s (10 + p) ≤ 0
  · simp only [e, i10, i00, decide_true, decide_false, cnd_t, cnd_f, gd_nil, gd_t, b1_0, b1_1, sw_nil, sw_cons, obs, Bool.not_true, Bool.false_and, b01_f]
  · by_cases e2 : s (16 + p) < 9
    · simp only [e, e2, i10, i00, decide_true, decide_false, cnd_t, cnd_f, gd_nil, gd_t, b1_0, b1_1, sw_nil, sw_cons, obs, Bool.not_false, Bool.true_and, b01_t]
    · simp only [e, e2, i10, i00, decide_true, decide_false, cnd_t, cnd_f, gd_nil, gd_t, b1_0, b1_1, sw_nil, sw_cons, obs, Bool.not_false, Bool.true_and, b01_f]
theorem m_buy (h : pm_S b s v) (hb : b ≤ 1050) {p : Nat} (hp : p < 6) : ∃ v', fX10_buys (nI b) (nI p) v = some ((), v') ∧ Fm b v v' ∧ pm_S b (buyT s p) v' := by
  have e10 := h.at (k := 10 + p) (by omega) (show b + 10 + p = b + (10 + p) by omega)
  have e16 := h.at (k := 16 + p) (by omega) (show b + 16 + p = b + (16 + p) by omega)
  refine ⟨sI (sI v 16 (b + 10 + p) (s (10 + p) - 1)) 16 (b + 16 + p) (s (16 + p) + 1), ?_, Fr.trans (Fr.sI (Or.inr (Or.inr ⟨rfl, by omega, by omega⟩))) (Fr.sI (Or.inr (Or.inr ⟨rfl, by omega, by omega⟩))), ?_⟩
  · unfold fX10_buys
    simp (disch := first | omega | decide) only [i10, i00, decide_true, decide_false, cnd_t, cnd_f, gd_nil, gd_t, b1_0, b1_1, sw_nil, sw_cons, obs, Nat.not_lt_zero, nI_addo, nI_oadd, nI_add, nI_mulo, nI_omul, nI_mul, nI_lto, nI_leo, nI_olt, nI_ole, nI_eqo, nI_oeq, nI_lt2, nI_le2, nI_eq2, nI_nm1, nI_m1n, nI_lt0, nI_lem1, nc_nI, nc_o, ix_nI, ix_o, e10]
    rw [sI_at, if_neg (by omega), e16]
  · exact (h.put (k := 10 + p) (by omega)).put (k := 16 + p) (by omega)
-- ===== swaps =====
def likeS (Z : dZ) (s : Nat → Int32) (p got given : Nat) : Bool := !decide (Z.2.2.2 p got (pc (hS Z s (nI p)) - 1) ≤ Z.2.2.2 p given (pc (hS Z s (nI p)) - 1))
def tradeS (Z : dZ) (s : Nat → Int32) (k j : Nat) : Bool := (!decide (s (2 + k) = -1) && (!decide (s (2 + j) = -1) && !decide (s (2 + k) = s (2 + j)))) && (likeS Z s (nc (s (2 + k))) j k && likeS Z s (nc (s (2 + j))) k j)
def tradeT (s : Nat → Int32) (k j : Nat) : Nat → Int32 := su (su s (2 + k) (s (2 + j))) (2 + j) (s (2 + k))
theorem hS_pos (hE : pE Z) {p k : Nat} (hk : k < Z.2.1) (hh : s (2 + k) = nI p) : 0 < pc (hS Z s (nI p)) ∧ pc (hS Z s (nI p)) ≤ Z.2.1 := by
  refine ⟨pc_pos hE.2.1 (hS_lt2 _) hk ?_, pc_bound hE.2.1 (hS_lt2 _)⟩
  rw [hS_bit, hh]
  simp only [hk, decide_true, Bool.and_self]
theorem c_gains (hE : pE Z) (hO : pc_O Z o1 u) (hv : pv_S Z s) (h : pc_S o s u) {p k g j : Nat} (hp : p < Z.1) (hk : k < Z.2.1) (hh : s (2 + k) = nI p) (hg : g < Z.2.1) (hj : j < Z.2.1) : fX5_gainsBy o o1 (nI p) (nI g) (nI j) u = some (b01 (likeS Z s p j g), u) := by
  obtain ⟨h0, h1⟩ := hS_pos hE hk hh
  have f1 := hE.2.2.2.2.2.2.2.1 p j (pc (hS Z s (nI p)) - 1)
  have f2 := hE.2.2.2.2.2.2.2.1 p g (pc (hS Z s (nI p)) - 1)
  unfold fX5_gainsBy
  rw [c_bits hE hv h hp]
  simp only [obs]
  rw [pc_c (hS_lt hE _)]
  simp only [obs]
  rw [nI_pc1 h0, c_fitBy hE hO hp hj (by omega)]
  simp only [obs]
  rw [c_fitBy hE hO hp hg (by omega)]
  simp (disch := first | omega | decide) only [obs, nI_le2, likeS]
  by_cases e : Z.2.2.2 p j (pc (hS Z s (nI p)) - 1) ≤ Z.2.2.2 p g (pc (hS Z s (nI p)) - 1)
  · simp only [e, i10, i00, decide_true, decide_false, cnd_t, cnd_f, gd_nil, gd_t, b1_0, b1_1, sw_nil, sw_cons, obs, Bool.not_true, b01_f]
  · simp only [e, i10, i00, decide_true, decide_false, cnd_t, cnd_f, gd_nil, gd_t, b1_0, b1_1, sw_nil, sw_cons, obs, Bool.not_false, b01_t]
theorem c_canTrade (hE : pE Z) (hO : pc_O Z o1 u) (hv : pv_S Z s) (h : pc_S o s u) {k j : Nat} (hk : k < Z.2.1) (hj : j < Z.2.1) : fX5_canTrade o o1 (nI k) (nI j) u = some (b01 (tradeS Z s k j), u) := by
  have hg := hE.2.1
  have hp6 := hE.1
  unfold fX5_canTrade tradeS
  rw [c_hold h (by omega)]
  simp only [obs]
  rw [c_hold h (by omega)]
  simp only [obs]
  rcases hv.1 k hk with e | ⟨p, hp, e⟩
  · simp only [e, i10, i00, decide_true, decide_false, cnd_t, cnd_f, gd_nil, gd_t, b1_0, b1_1, sw_nil, sw_cons, obs, Bool.not_true, Bool.false_and, b01_f]
  · rcases hv.1 j hj with e2 | ⟨q, hq, e2⟩
    · simp (disch := first | omega | decide) only [e, e2, nI_nm1, i10, i00, decide_true, decide_false, cnd_t, cnd_f, gd_nil, gd_t, b1_0, b1_1, sw_nil, sw_cons, obs, Bool.not_true, Bool.not_false, Bool.true_and, Bool.false_and, b01_f]
    · by_cases e3 : p = q
      · subst e3
        simp (disch := first | omega | decide) only [e, e2, nI_nm1, i10, i00, decide_true, decide_false, cnd_t, cnd_f, gd_nil, gd_t, b1_0, b1_1, sw_nil, sw_cons, obs, Bool.not_true, Bool.not_false, Bool.true_and, Bool.false_and, b01_f]
      · simp (disch := first | omega | decide) only [e, e2, e3, nI_nm1, nI_eq2, nc_nI, i10, i00, decide_true, decide_false, cnd_t, cnd_f, gd_nil, gd_t, b1_0, b1_1, sw_nil, sw_cons, obs, Bool.not_true, Bool.not_false, Bool.true_and, Bool.false_and]
        rw [c_gains hE hO hv h hp hk e hk hj]
        simp only [obs, b01_0]
        cases hl : likeS Z s p j k
        · simp only [i10, i00, decide_true, decide_false, cnd_t, cnd_f, gd_nil, gd_t, b1_0, b1_1, sw_nil, sw_cons, obs, Bool.false_and, b01_f]
        · simp only [i10, i00, decide_true, decide_false, cnd_t, cnd_f, gd_nil, gd_t, b1_0, b1_1, sw_nil, sw_cons, obs, Bool.true_and, Bool.true_eq_false]
          rw [c_gains hE hO hv h hq hj e2 hj hk]
          simp only [obs, b01_0]
          cases hl2 : likeS Z s q k j <;> simp only [i10, i00, decide_true, decide_false, cnd_t, cnd_f, gd_nil, gd_t, b1_0, b1_1, sw_nil, sw_cons, obs, b01_f, b01_t, Bool.true_eq_false]
theorem m_like (hE : pE Z) (h : pm_O Z v) (hS0 : pm_S b s v) (hb : b ≤ 1050) {p k g j : Nat} (hp : p < Z.1) (hk : k < Z.2.1) (hh : s (2 + k) = nI p) (hg : g < Z.2.1) (hj : j < Z.2.1) {Q : Int32 → ab_S → Prop} (q : ∀ v', Sc v v' → Q (b01 (likeS Z s p j g)) v') : Wp (fX10_doesLike (nI b) (nI p) (nI j) (nI g) v) Q := by
  obtain ⟨h0, h1⟩ := hS_pos hE hk hh
  have f1 := hE.2.2.2.2.2.2.2.1 p j (pc (hS Z s (nI p)) - 1)
  have f2 := hE.2.2.2.2.2.2.2.1 p g (pc (hS Z s (nI p)) - 1)
  unfold fX10_doesLike
  rw [m_held hE h hS0 hb]
  simp only [obs]
  rw [pc_m (hS_lt hE _)]
  simp only [obs, wp_bind]
  rw [nI_pc1 h0]
  refine m_fitBy hE h hp hj (by omega) fun v1 s1 => ?_
  refine m_fitBy hE (h.sc s1) hp hg (by omega) fun v2 s2 => ?_
  have qq := q v2 (s1.trans s2)
  unfold likeS at qq
  simp (disch := first | omega | decide) only [nI_le2]
  by_cases e : Z.2.2.2 p j (pc (hS Z s (nI p)) - 1) ≤ Z.2.2.2 p g (pc (hS Z s (nI p)) - 1)
  · simp only [e, i10, i00, decide_true, decide_false, cnd_t, cnd_f, gd_nil, gd_t, b1_0, b1_1, sw_nil, sw_cons, obs, Bool.not_true, b01_f, wp_ret] at qq ⊢
    exact qq
  · simp only [e, i10, i00, decide_true, decide_false, cnd_t, cnd_f, gd_nil, gd_t, b1_0, b1_1, sw_nil, sw_cons, obs, Bool.not_false, b01_t, wp_ret] at qq ⊢
    exact qq
theorem m_maySwap (hE : pE Z) (h : pm_O Z v) (hv : pv_S Z s) (hS0 : pm_S b s v) (hb : b ≤ 1050) {k j : Nat} (hk : k < Z.2.1) (hj : j < Z.2.1) {Q : Int32 → ab_S → Prop} (q : ∀ v', Sc v v' → Q (b01 (tradeS Z s k j)) v') : Wp (fX10_maySwap (nI b) (nI k) (nI j) v) Q := by
  have hg := hE.2.1
  have hp6 := hE.1
  have m1 : ((-1 : Int32) < 0) = True := by simp only [eq_iff_iff, iff_true]; decide +kernel
  unfold tradeS at q
  unfold fX10_maySwap
  simp (disch := first | omega | decide) only [i10, i00, decide_true, decide_false, cnd_t, cnd_f, gd_nil, gd_t, b1_0, b1_1, sw_nil, sw_cons, obs, Nat.not_lt_zero, nI_addo, nI_oadd, nI_add, nI_mulo, nI_omul, nI_mul, nI_lto, nI_leo, nI_olt, nI_ole, nI_eqo, nI_oeq, nI_lt2, nI_le2, nI_eq2, nI_nm1, nI_m1n, nI_lt0, nI_lem1, nc_nI, nc_o, ix_nI, ix_o, hS0.at (k := 2 + k) (by omega) (show b + 2 + k = b + (2 + k) by omega), hS0.at (k := 2 + j) (by omega) (show b + 2 + j = b + (2 + j) by omega)]
  rcases hv.1 k hk with e | ⟨p, hp, e⟩
  · have qq := q v Fr.rfl'
    simp only [e, m1, i10, i00, decide_true, decide_false, cnd_t, cnd_f, gd_nil, gd_t, b1_0, b1_1, sw_nil, sw_cons, obs, Bool.not_true, Bool.false_and, b01_f, wp_ret] at qq ⊢
    exact qq
  · rcases hv.1 j hj with e2 | ⟨r, hr, e2⟩
    · have qq := q v Fr.rfl'
      simp (disch := first | omega | decide) only [e, e2, m1, nI_lt0, nI_nm1, i10, i00, decide_true, decide_false, cnd_t, cnd_f, gd_nil, gd_t, b1_0, b1_1, sw_nil, sw_cons, obs, Bool.not_true, Bool.not_false, Bool.true_and, Bool.false_and, b01_f, wp_ret] at qq ⊢
      exact qq
    · by_cases e3 : p = r
      · subst e3
        have qq := q v Fr.rfl'
        simp (disch := first | omega | decide) only [e, e2, m1, nI_lt0, nI_nm1, i10, i00, decide_true, decide_false, cnd_t, cnd_f, gd_nil, gd_t, b1_0, b1_1, sw_nil, sw_cons, obs, Bool.not_true, Bool.not_false, Bool.true_and, Bool.false_and, b01_f, wp_ret] at qq ⊢
        exact qq
      · simp (disch := first | omega | decide) only [e, e2, e3, nI_lt0, nI_nm1, nI_eq2, nc_nI, i10, i00, decide_true, decide_false, cnd_t, cnd_f, gd_nil, gd_t, b1_0, b1_1, sw_nil, sw_cons, obs, Bool.not_true, Bool.not_false, Bool.true_and, Bool.false_and, wp_bind] at q ⊢
        refine m_like hE h hS0 hb hp hk e hk hj fun v1 s1 => ?_
        simp only [b01_0]
        cases hl : likeS Z s p j k
        · have qq := q v1 s1
          simp only [hl, i10, i00, decide_true, decide_false, cnd_t, cnd_f, gd_nil, gd_t, b1_0, b1_1, sw_nil, sw_cons, obs, Bool.false_and, b01_f, wp_ret] at qq ⊢
          exact qq
        · simp only [i10, i00, decide_true, decide_false, cnd_t, cnd_f, gd_nil, gd_t, b1_0, b1_1, sw_nil, sw_cons, obs, Bool.true_eq_false, wp_bind]
          refine m_like hE (h.sc s1) (hS0.sc s1) hb hr hj e2 hj hk fun v2 s2 => ?_
          have qq := q v2 (s1.trans s2)
          simp only [b01_0]
          cases hl2 : likeS Z s r k j <;> simp only [hl, hl2, i10, i00, decide_true, decide_false, cnd_t, cnd_f, gd_nil, gd_t, b1_0, b1_1, sw_nil, sw_cons, obs, Bool.true_and, Bool.and_false, b01_f, b01_t, Bool.true_eq_false, wp_ret] at qq ⊢ <;> exact qq
theorem c_trade (h : pc_S o s u) {k j : Nat} (hk : k < 8) (hj : j < 8) : ∃ u', fX5_trade o (nI k) (nI j) u = some ((), u') ∧ Fc o u u' ∧ pc_S o (tradeT s k j) u' := by
  obtain ⟨u1, e1, f1, s1⟩ := c_place h hk (x := s (2 + j))
  obtain ⟨u2, e2, f2, s2⟩ := c_place s1 hj (x := s (2 + k))
  refine ⟨u2, ?_, f1.trans f2, s2⟩
  unfold fX5_trade
  rw [c_hold h hk]
  simp only [obs]
  rw [c_hold h hj]
  simp only [obs]
  rw [e1]
  simp only [obs]
  rw [e2]
  rfl
theorem m_swaps (h : pm_S b s v) (hb : b ≤ 1050) {k j : Nat} (hk : k < 8) (hj : j < 8) : ∃ v', fX10_swaps (nI b) (nI k) (nI j) v = some ((), v') ∧ Fm b v v' ∧ pm_S b (tradeT s k j) v' := by
  have e1 := h.at (k := 2 + k) (by omega) (show b + 2 + k = b + (2 + k) by omega)
  have e2 := h.at (k := 2 + j) (by omega) (show b + 2 + j = b + (2 + j) by omega)
  refine ⟨sI (sI v 16 (b + 2 + k) (s (2 + j))) 16 (b + 2 + j) (s (2 + k)), ?_, Fr.trans (Fr.sI (Or.inr (Or.inr ⟨rfl, by omega, by omega⟩))) (Fr.sI (Or.inr (Or.inr ⟨rfl, by omega, by omega⟩))), ?_⟩
  · unfold fX10_swaps
    simp (disch := first | omega | decide) only [i10, i00, decide_true, decide_false, cnd_t, cnd_f, gd_nil, gd_t, b1_0, b1_1, sw_nil, sw_cons, obs, Nat.not_lt_zero, nI_addo, nI_oadd, nI_add, nI_mulo, nI_omul, nI_mul, nI_lto, nI_leo, nI_olt, nI_ole, nI_eqo, nI_oeq, nI_lt2, nI_le2, nI_eq2, nI_nm1, nI_m1n, nI_lt0, nI_lem1, nc_nI, nc_o, ix_nI, ix_o, e1, e2]
  · exact (h.put (k := 2 + k) (by omega)).put (k := 2 + j) (by omega)
theorem pv_S.trade (hE : pE Z) (hv : pv_S Z s) {k j : Nat} (hk : k < Z.2.1) (hj : j < Z.2.1) : pv_S Z (tradeT s k j) := (hv.hold hE hk (hv.1 j hj)).hold hE hj (hv.1 k hk)
end PU
