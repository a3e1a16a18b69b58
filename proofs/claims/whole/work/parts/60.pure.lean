/-! THE PURE PART. Numbers, sets, what a function leaves -/
def Wp {α : Type} (x : Option (α × ab_S)) (Q : α → ab_S → Prop) : Prop := ∃ (r : α) (w : ab_S), x = some (r, w) ∧ Q r w
theorem obs {α β : Type} {x : α} {f : α → Option β} : (some x).bind f = f x := (Option.bind_some x f).trans rfl
theorem obnd {α β : Type} {x : Option α} {f : α → Option β} {a : α} {r : Option β} (h : x = some a) (k : f a = r) : x.bind f = r := by rw [h]; exact k
theorem wp_ret {α : Type} {a : α} {u : ab_S} {Q : α → ab_S → Prop} : Wp (some (a, u)) Q ↔ Q a u := by
  constructor
  · rintro ⟨r, w, h, hq⟩
    cases h
    exact hq
  · intro h
    exact ⟨a, u, rfl, h⟩
theorem wp_bind {α β : Type} {x : Option (α × ab_S)} {f : α × ab_S → Option (β × ab_S)} {Q : β → ab_S → Prop} : Wp (x.bind f) Q ↔ Wp x (fun r w => Wp (f (r, w)) Q) := by
  constructor
  · rintro ⟨r, w, h, hq⟩
    obtain ⟨⟨a, u⟩, h1, h2⟩ := Option.bind_eq_some_iff.mp h
    exact ⟨a, u, h1, r, w, h2, hq⟩
  · rintro ⟨a, u, h1, r, w, h2, hq⟩
    exact ⟨r, w, by rw [h1]; exact h2, hq⟩
theorem Wp.mono {α : Type} {x : Option (α × ab_S)} {Q Q' : α → ab_S → Prop} (h : Wp x Q) (k : ∀ r w, Q r w → Q' r w) : Wp x Q' := by
  obtain ⟨r, w, h1, h2⟩ := h
  exact ⟨r, w, h1, k r w h2⟩
theorem wp_eq {α : Type} {x : Option (α × ab_S)} {a : α} {u : ab_S} {Q : α → ab_S → Prop} (h : x = some (a, u)) : Wp x Q ↔ Q a u := by
  rw [h]; exact wp_ret
theorem wp_cond {α : Type} {c : Bool} {a b : Option (α × ab_S)} {Q : α → ab_S → Prop} : Wp (bif c then a else b) Q ↔ (c = true → Wp a Q) ∧ (c = false → Wp b Q) := by
  cases c <;> simp
theorem gd_nil {α : Type} {r : Option α} : ab_gd [] r = r := Eq.trans rfl rfl
theorem gd_t {α : Type} {l : List Bool} {r : Option α} : ab_gd (true :: l) r = ab_gd l r := Eq.trans rfl rfl
theorem i10 : ((1 : Int32) = 0) = False := eq_false (by decide +kernel)
theorem i00 : ((0 : Int32) = 0) = True := eq_true rfl
theorem b1_0 : ab_b1 0 = true := by decide +kernel
theorem b1_1 : ab_b1 1 = true := by decide +kernel
theorem sw_nil {α : Type} {x : Int32} {r : Option α} : ab_sw x [] r = r := Eq.trans rfl rfl
theorem sw_cons {α : Type} {x k : Int32} {l : List (Int32 × Option α)} {a r : Option α} : ab_sw x ((k, a) :: l) r = bif decide (x = k) then a else ab_sw x l r := Eq.trans rfl rfl
theorem cnd_t {α : Type} {a b : α} : (bif true then a else b) = a := Eq.trans rfl rfl
theorem cnd_f {α : Type} {a b : α} : (bif false then a else b) = b := Eq.trans rfl rfl
-- ===== stores =====
theorem sI_at {u : ab_S} {a k b j : Nat} {v : Int32} : (sI u a k v).1 b j = if b = a ∧ j = k then v else u.1 b j := rfl
theorem sI_l {u : ab_S} {a k : Nat} {v : Int32} : (sI u a k v).2 = u.2 := rfl
theorem sJ_at {u : ab_S} {a k b j : Nat} {v : Int64} : (sJ u a k v).2.1 b j = if b = a ∧ j = k then v else u.2.1 b j := rfl
theorem sJ_i {u : ab_S} {a k : Nat} {v : Int64} : (sJ u a k v).1 = u.1 := rfl
theorem sJ_m {u : ab_S} {a k : Nat} {v : Int64} : (sJ u a k v).2.2 = u.2.2 := rfl
theorem sM_at {u : ab_S} {k j : Nat} {v : Nat} : (sM u k v).2.2 j = if j = k then v else u.2.2 j := rfl
theorem sM_i {u : ab_S} {k : Nat} {v : Nat} : (sM u k v).1 = u.1 := rfl
theorem sM_l {u : ab_S} {k : Nat} {v : Nat} : (sM u k v).2.1 = u.2.1 := rfl
-- ===== numbers =====
theorem nI_o (a : Nat) : (no_index (OfNat.ofNat a) : Int32) = nI a := rfl
theorem nI_addo (k a : Nat) : nI k + (no_index (OfNat.ofNat a) : Int32) = nI (k + (OfNat.ofNat a : Nat)) := nI_add k a
theorem nI_oadd (k a : Nat) : (no_index (OfNat.ofNat a) : Int32) + nI k = nI ((OfNat.ofNat a : Nat) + k) := nI_add a k
theorem nI_mul (a b : Nat) : nI a * nI b = nI (a * b) := (Int32.ofNat_mul a b).symm
theorem nI_mulo (k a : Nat) : nI k * (no_index (OfNat.ofNat a) : Int32) = nI (k * (OfNat.ofNat a : Nat)) := nI_mul k a
theorem nI_omul (k a : Nat) : (no_index (OfNat.ofNat a) : Int32) * nI k = nI ((OfNat.ofNat a : Nat) * k) := nI_mul a k
theorem nI_lto {k a : Nat} (h : k < 2147483648) (ha : (OfNat.ofNat a : Nat) < 2147483648) : nI k < (no_index (OfNat.ofNat a) : Int32) ↔ k < (OfNat.ofNat a : Nat) := nI_ltI h ha
theorem nI_leo {k a : Nat} (h : k < 2147483648) (ha : (OfNat.ofNat a : Nat) < 2147483648) : nI k ≤ (no_index (OfNat.ofNat a) : Int32) ↔ k ≤ (OfNat.ofNat a : Nat) := nI_leI h ha
theorem nI_olt {k a : Nat} (h : k < 2147483648) (ha : (OfNat.ofNat a : Nat) < 2147483648) : (no_index (OfNat.ofNat a) : Int32) < nI k ↔ (OfNat.ofNat a : Nat) < k := nI_ltI ha h
theorem nI_ole {k a : Nat} (h : k < 2147483648) (ha : (OfNat.ofNat a : Nat) < 2147483648) : (no_index (OfNat.ofNat a) : Int32) ≤ nI k ↔ (OfNat.ofNat a : Nat) ≤ k := nI_leI ha h
theorem nI_eqo {k a : Nat} (h : k < 2147483648) (ha : (OfNat.ofNat a : Nat) < 2147483648) : nI k = (no_index (OfNat.ofNat a) : Int32) ↔ k = (OfNat.ofNat a : Nat) := nI_eq h ha
theorem nI_oeq {k a : Nat} (h : k < 2147483648) (ha : (OfNat.ofNat a : Nat) < 2147483648) : (no_index (OfNat.ofNat a) : Int32) = nI k ↔ (OfNat.ofNat a : Nat) = k := nI_eq ha h
theorem nI_lt2 {a b : Nat} (ha : a < 2147483648) (hb : b < 2147483648) : nI a < nI b ↔ a < b := nI_ltI ha hb
theorem nI_le2 {a b : Nat} (ha : a < 2147483648) (hb : b < 2147483648) : nI a ≤ nI b ↔ a ≤ b := nI_leI ha hb
theorem nI_eq2 {a b : Nat} (ha : a < 2147483648) (hb : b < 2147483648) : nI a = nI b ↔ a = b := nI_eq ha hb
theorem nI_nm1 {k : Nat} (h : k < 2147483648) : (nI k = -1) ↔ False := by
  constructor
  · intro q
    have a := nI_toInt (n := k) h
    rw [q] at a
    have b : (-1 : Int32).toInt = -1 := by decide +kernel
    omega
  · exact False.elim
theorem nI_m1n {k : Nat} (h : k < 2147483648) : ((-1 : Int32) = nI k) ↔ False := by
  rw [eq_comm]; exact nI_nm1 h
theorem nI_m1lt {k : Nat} (h : k < 2147483648) : ((-1 : Int32) < nI k) ↔ True := by
  rw [Int32.lt_iff_toInt_lt, nI_toInt h, show (-1 : Int32).toInt = -1 by decide +kernel]
  simp only [iff_true]; omega
theorem nI_lem1 {k : Nat} (h : k < 2147483648) : (nI k ≤ (-1 : Int32)) ↔ False := by
  rw [Int32.le_iff_toInt_le, nI_toInt h, show (-1 : Int32).toInt = -1 by decide +kernel]
  simp only [iff_false]; omega
theorem nI_lt0 {k : Nat} (h : k < 2147483648) : (nI k < 0) ↔ False := by
  simp only [iff_false]; exact nI_pos h
theorem nI_sub {a b : Nat} (h : b ≤ a) : nI a - nI b = nI (a - b) := by
  obtain ⟨c, rfl⟩ := Nat.exists_eq_add_of_le h
  rw [show b + c - b = c by omega, ← nI_add]
  rw [Int32.add_comm, Int32.add_sub_cancel]
theorem nI_subo {k a : Nat} (h : (OfNat.ofNat a : Nat) ≤ k) : nI k - (no_index (OfNat.ofNat a) : Int32) = nI (k - (OfNat.ofNat a : Nat)) := nI_sub h
theorem nc_nI {k : Nat} (h : k < 2147483648) : nc (nI k) = k := nI_clamp h
theorem nc_o {a : Nat} (h : (OfNat.ofNat a : Nat) < 2147483648) : nc (no_index (OfNat.ofNat a) : Int32) = (OfNat.ofNat a : Nat) := nI_clamp h
theorem ix_nI {k N : Nat} (h : k < N) (hN : N < 2147483648) : ab_ix (nI k) N = true := by
  have h := vp_in_iff.mp (vp_in_nI h hN)
  simp only [ab_ix, Bool.and_eq_true, decide_eq_true_eq]
  exact h
theorem ix_o {a N : Nat} (h : (OfNat.ofNat a : Nat) < N) (hN : N < 2147483648) : ab_ix (no_index (OfNat.ofNat a) : Int32) N = true := ix_nI h hN
theorem nI_inR {x : Int32} {n : Nat} (hn : n < 2147483648) : (¬ x < 0 ∧ x < nI n) ↔ ∃ k, k < n ∧ x = nI k := by
  constructor
  · rintro ⟨h1, h2⟩
    obtain ⟨j, hj, rfl⟩ := nI_of h1
    exact ⟨j, (nI_ltI hj hn).mp h2, rfl⟩
  · rintro ⟨k, hk, rfl⟩
    exact ⟨nI_pos (Nat.lt_trans hk hn), nI_lt hk hn⟩
theorem nI_inRo {x : Int32} {n : Nat} (hn : n < 2147483648) : (¬ x < 0 ∧ x ≤ (no_index (OfNat.ofNat n) : Int32)) ↔ ∃ k, k ≤ n ∧ x = nI k := by
  constructor
  · rintro ⟨h1, h2⟩
    obtain ⟨j, hj, rfl⟩ := nI_of h1
    exact ⟨j, (nI_leI hj hn).mp h2, rfl⟩
  · rintro ⟨k, hk, rfl⟩
    exact ⟨nI_pos (Nat.lt_of_le_of_lt hk hn), nI_le hk hn⟩
-- ===== sets of small numbers =====
def bS (P : Nat → Bool) : Nat → Nat
  | 0 => 0
  | n + 1 => if P n then bS P n ||| 2 ^ n else bS P n
theorem bS_lt (P : Nat → Bool) : ∀ n, bS P n < 2 ^ n
  | 0 => by rw [bS]; exact Nat.one_pos
  | n + 1 => by
    have h := bS_lt P n
    have h2 : 2 ^ n < 2 ^ (n + 1) := Nat.pow_lt_pow_right (by decide) (Nat.lt_succ_self n)
    rw [bS]
    split
    · exact Nat.or_lt_two_pow (Nat.lt_trans h h2) h2
    · exact Nat.lt_trans h h2
theorem bS_bit (P : Nat → Bool) (k : Nat) : ∀ n, (bS P n).testBit k = (decide (k < n) && P k)
  | 0 => by simp [bS]
  | n + 1 => by
    have h := bS_bit P k n
    rw [bS]
    by_cases e : k = n
    · subst e
      cases hp : P k <;> simp [h, hp, Nat.testBit_or, Nat.testBit_two_pow]
    · have e1 : decide (k < n + 1) = decide (k < n) := by
        apply decide_eq_decide.mpr; omega
      rw [e1]
      split
      · rw [Nat.testBit_or, Nat.testBit_two_pow, h]
        simp [Ne.symm e]
      · exact h
theorem bS_congr {P P' : Nat → Bool} : ∀ {n : Nat}, (∀ k, k < n → P k = P' k) → bS P n = bS P' n
  | 0, _ => rfl
  | n + 1, h => by
    rw [bS, bS, h n (Nat.lt_succ_self n), bS_congr (n := n) fun k hk => h k (Nat.lt_succ_of_lt hk)]
theorem bS_more {P : Nat → Bool} {n : Nat} : ∀ {m : Nat}, n ≤ m → (∀ k, n ≤ k → k < m → P k = false) → bS P m = bS P n
  | 0, h, _ => by rw [Nat.le_zero.mp h]
  | m + 1, h, hz => by
    by_cases e : n = m + 1
    · rw [e]
    · have hle : n ≤ m := by omega
      rw [bS, hz m hle (Nat.lt_succ_self m)]
      simp only [Bool.false_eq_true, if_false]
      exact bS_more hle fun k h1 h2 => hz k h1 (Nat.lt_succ_of_lt h2)
theorem bit_ext {a b : Nat} (h : ∀ k, a.testBit k = b.testBit k) : a = b := Nat.eq_of_testBit_eq h
def pc (m : Nat) : Nat := (m.testBit 0).toNat + (m.testBit 1).toNat + (m.testBit 2).toNat + (m.testBit 3).toNat + (m.testBit 4).toNat + (m.testBit 5).toNat + (m.testBit 6).toNat + (m.testBit 7).toNat
theorem pc_le (m : Nat) : pc m ≤ 8 := by
  have h : ∀ b : Bool, b.toNat ≤ 1 := by decide
  have := h (m.testBit 0); have := h (m.testBit 1); have := h (m.testBit 2); have := h (m.testBit 3)
  have := h (m.testBit 4); have := h (m.testBit 5); have := h (m.testBit 6); have := h (m.testBit 7)
  unfold pc; omega
theorem zb_or0 : (List.range 256).all (fun m => (List.range 8).all fun k => (nI m ||| ((1 : Int32) <<< (nI k &&& 31))) == nI (m ||| 2 ^ k)) = true := by decide +kernel
theorem zb_or {m k : Nat} (hm : m < 256) (hk : k < 8) : nI m ||| ((1 : Int32) <<< (nI k &&& 31)) = nI (m ||| 2 ^ k) :=
  beq_iff_eq.mp (List.all_eq_true.mp (List.all_eq_true.mp zb_or0 m (List.mem_range.mpr hm)) k (List.mem_range.mpr hk))
theorem zb_bit0 : (List.range 256).all (fun m => (List.range 8).all fun k => decide ((nI m >>> (nI k &&& 31)) &&& 1 = 1) == m.testBit k && decide ((nI m >>> (nI k &&& 31)) &&& 1 = 0) == !m.testBit k) = true := by decide +kernel
theorem zb_bit {m k : Nat} (hm : m < 256) (hk : k < 8) : ((nI m >>> (nI k &&& 31)) &&& 1 = 1 ↔ m.testBit k = true) ∧ ((nI m >>> (nI k &&& 31)) &&& 1 = 0 ↔ m.testBit k = false) := by
  have h := List.all_eq_true.mp (List.all_eq_true.mp zb_bit0 m (List.mem_range.mpr hm)) k (List.mem_range.mpr hk)
  simp only [Bool.and_eq_true, beq_iff_eq] at h
  obtain ⟨h1, h2⟩ := h
  constructor
  · rw [← h1, decide_eq_true_eq]
  · rw [← Bool.not_eq_true', ← h2, decide_eq_true_eq]
theorem zb_b1 {m k : Nat} (hm : m < 256) (hk : k < 8) : ((nI m >>> (nI k &&& 31)) &&& 1 = 1) ↔ m.testBit k = true := (zb_bit hm hk).1
theorem zb_b0 {m k : Nat} (hm : m < 256) (hk : k < 8) : ((nI m >>> (nI k &&& 31)) &&& 1 = 0) ↔ m.testBit k = false := (zb_bit hm hk).2
theorem zb_clr0 : (List.range 256).all (fun m => (List.range 8).all fun k => (nI m &&& (((1 : Int32) <<< (nI k &&& 31)) ^^^ (-1))) == nI (m &&& (255 ^^^ 2 ^ k))) = true := by decide +kernel
theorem zb_clr {m k : Nat} (hm : m < 256) (hk : k < 8) : nI m &&& (((1 : Int32) <<< (nI k &&& 31)) ^^^ (-1)) = nI (m &&& (255 ^^^ 2 ^ k)) :=
  beq_iff_eq.mp (List.all_eq_true.mp (List.all_eq_true.mp zb_clr0 m (List.mem_range.mpr hm)) k (List.mem_range.mpr hk))
theorem zb_and2 (a b : Nat) : nI a &&& nI b = nI (a &&& b) := by
  apply Int32.toBitVec_inj.mp
  rw [Int32.toBitVec_and]
  show BitVec.ofNat 32 a &&& BitVec.ofNat 32 b = BitVec.ofNat 32 (a &&& b)
  exact BitVec.ofNat_and.symm
theorem zb_or2 (a b : Nat) : nI a ||| nI b = nI (a ||| b) := by
  apply Int32.toBitVec_inj.mp
  rw [Int32.toBitVec_or]
  show BitVec.ofNat 32 a ||| BitVec.ofNat 32 b = BitVec.ofNat 32 (a ||| b)
  exact BitVec.ofNat_or.symm
theorem zb_not0 : (List.range 256).all (fun m => (nI m ^^^ (-1)) == nI (4294967040 + (255 ^^^ m))) = true := by decide +kernel
theorem zb_hi : ∀ a, a < 256 → ∀ b, b < 256 → a &&& (4294967040 + b) = a &&& b := by
  intro a ha b hb
  have e : 4294967040 + b = 4294967040 ||| b := by
    have := Nat.two_pow_add_eq_or_of_lt (i := 8) (b := b) hb 16777215
    simpa using this
  rw [e, Nat.and_or_distrib_left]
  have z : a &&& 4294967040 = 0 := by
    apply bit_ext
    intro k
    rw [Nat.testBit_and, Nat.zero_testBit]
    by_cases hk : k < 8
    · have : ∀ k, k < 8 → (4294967040 : Nat).testBit k = false := by decide +kernel
      rw [this k hk, Bool.and_false]
    · rw [Nat.testBit_lt_two_pow (Nat.lt_of_lt_of_le ha (by exact Nat.pow_le_pow_right (n := 2) (by decide) (show 8 ≤ k by omega)))]
      rfl
  rw [z, Nat.zero_or]
theorem zb_diff {a b : Nat} (ha : a < 256) (hb : b < 256) : nI a &&& (nI b ^^^ (-1)) = nI (a &&& (255 ^^^ b)) := by
  rw [beq_iff_eq.mp (List.all_eq_true.mp zb_not0 b (List.mem_range.mpr hb)), zb_and2]
  congr 1
  apply zb_hi a ha
  exact Nat.xor_lt_two_pow (n := 8) (by decide) hb
theorem zb_all0 : (List.range 9).all (fun n => ((1 : Int32) <<< (nI n &&& 31)) - 1 == nI (2 ^ n - 1)) = true := by decide +kernel
theorem zb_all {n : Nat} (h : n ≤ 8) : ((1 : Int32) <<< (nI n &&& 31)) - 1 = nI (2 ^ n - 1) :=
  beq_iff_eq.mp (List.all_eq_true.mp zb_all0 n (List.mem_range.mpr (by omega)))
theorem zb_one0 : (List.range 31).all (fun n => ((1 : Int32) <<< (nI n &&& 31)) == nI (2 ^ n)) = true := by decide +kernel
theorem zb_one {n : Nat} (h : n < 31) : ((1 : Int32) <<< (nI n &&& 31)) = nI (2 ^ n) :=
  beq_iff_eq.mp (List.all_eq_true.mp zb_one0 n (List.mem_range.mpr h))
theorem bS_256 {P : Nat → Bool} {n : Nat} (h : n ≤ 8) : bS P n < 256 := Nat.lt_of_lt_of_le (bS_lt P n) (show 2 ^ n ≤ 2 ^ 8 from Nat.pow_le_pow_right (by decide) h)
theorem zb_or256 {m k : Nat} (hm : m < 256) (hk : k < 8) : m ||| 2 ^ k < 256 := Nat.or_lt_two_pow (n := 8) hm (Nat.pow_lt_pow_right (by decide) hk)
theorem all_lt {n : Nat} (h : n ≤ 8) : 2 ^ n - 1 < 256 := by
  have : 2 ^ n ≤ 2 ^ 8 := Nat.pow_le_pow_right (by decide) h
  have : 0 < 2 ^ n := Nat.two_pow_pos n
  omega
theorem all_bit (n k : Nat) : (2 ^ n - 1).testBit k = decide (k < n) := Nat.testBit_two_pow_sub_one n k
theorem pc_c0 : (List.range 256).all (fun m => ((fJ6_bitCount_0f7a4 (nI m) (fun _ _ => 0, fun _ _ => 0, fun _ => 0)).map Prod.fst) == some (nI (pc m))) = true := by decide +kernel
theorem pc_c {m : Nat} (hm : m < 256) (u : ab_S) : fJ6_bitCount_0f7a4 (nI m) u = some (nI (pc m), u) := by
  have h := beq_iff_eq.mp (List.all_eq_true.mp pc_c0 m (List.mem_range.mpr hm))
  unfold fJ6_bitCount_0f7a4 at h ⊢
  simp only [Option.map_some, Option.some.injEq] at h
  rw [h]
def bits30 (x : Int32) : Nat → Int32
  | 0 => 0
  | n + 1 => bits30 x n + ((x >>> (nI n &&& 31)) &&& 1)
theorem pc_m0 : (List.range 256).all (fun m => bits30 (nI m) 30 == nI (pc m)) = true := by decide +kernel
theorem pc_m1 (x : Int32) (u : ab_S) : ∀ (d k n : Nat), k + d = 30 → d < n → fX10_bits_4 n x (bits30 x k) (nI k) u = some (bits30 x 30, u) := by
  intro d
  induction d with
  | zero =>
    intro k n hk hn
    obtain ⟨n, rfl⟩ : ∃ m, n = m + 1 := ⟨n - 1, by omega⟩
    have e : k = 30 := by omega
    subst e
    rw [fX10_bits_4]
    rfl
  | succ d ih =>
    intro k n hk hn
    obtain ⟨n, rfl⟩ : ∃ m, n = m + 1 := ⟨n - 1, by omega⟩
    have h := ih (k + 1) n (by omega) (by omega)
    rw [fX10_bits_4]
    simp (disch := first | omega | decide) only [nI_lto, show k < 30 by omega, decide_true, cnd_t, nI_addo]
    exact h
theorem pc_m {m : Nat} (hm : m < 256) (u : ab_S) : fX10_bits (nI m) u = some (nI (pc m), u) := by
  have h := beq_iff_eq.mp (List.all_eq_true.mp pc_m0 m (List.mem_range.mpr hm))
  rw [fX10_bits, ← h]
  exact pc_m1 (nI m) u 30 0 fu rfl (by decide)
