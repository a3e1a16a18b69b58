/-! what straight code does, as a function; and that the machine does it -/
def ab_cat : ab_V → Nat
  | .inr (.inl _) => 2
  | _ => 1
theorem ab_cat_vm (E : ab_E) (v : ab_V) : (ab_vm E v).category = ab_cat v := by
  rcases v with x | x | ⟨t, a⟩ <;> rfl
-- ===== the locals =====
def ab_al (E : ab_E) : List (Option ab_V) → Nat → List (Nat × Value)
  | [], _ => []
  | none :: r, i => ab_al E r (i + 1)
  | some v :: r, i => (i, ab_vm E v) :: ab_al E r (i + 1)
theorem ab_al_mem {E : ab_E} {L : List (Option ab_V)} {i : Nat} {q : Nat × Value} : q ∈ ab_al E L i ↔ ∃ (j : Nat) (v : ab_V), L[j]? = some (some v) ∧ q = (i + j, ab_vm E v) := by
  induction L generalizing i with
  | nil => simp [ab_al]
  | cons o r ih =>
    have tail : (∃ (j : Nat) (v : ab_V), r[j]? = some (some v) ∧ q = (i + 1 + j, ab_vm E v)) ↔ ∃ (j : Nat) (v : ab_V), (o :: r)[j + 1]? = some (some v) ∧ q = (i + (j + 1), ab_vm E v) := by
      constructor
      · rintro ⟨j, v, h1, h2⟩; exact ⟨j, v, by simpa using h1, by rw [h2]; congr 1; omega⟩
      · rintro ⟨j, v, h1, h2⟩; exact ⟨j, v, by simpa using h1, by rw [h2]; congr 1; omega⟩
    cases o with
    | none =>
      rw [ab_al, ih, tail]
      constructor
      · rintro ⟨j, v, h⟩; exact ⟨j + 1, v, h⟩
      · rintro ⟨j, v, h1, h2⟩
        cases j with
        | zero => simp at h1
        | succ j => exact ⟨j, v, h1, h2⟩
    | some w =>
      rw [ab_al, List.mem_cons, ih, tail]
      constructor
      · rintro (h | ⟨j, v, h⟩)
        · exact ⟨0, w, rfl, h⟩
        · exact ⟨j + 1, v, h⟩
      · rintro ⟨j, v, h1, h2⟩
        cases j with
        | zero => left; simp at h1; rw [h2, h1]; rfl
        | succ j => exact Or.inr ⟨j, v, h1, h2⟩
def ab_hl (E : ab_E) (ls : Array Slot) (L : List (Option ab_V)) : Prop := lv_has ls L.length (ab_al E L 0)
theorem ab_hl.at {E : ab_E} {ls : Array Slot} {L : List (Option ab_V)} (h : ab_hl E ls L) {i : Nat} {v : ab_V} (hi : L[i]? = some (some v)) : ls[i]? = some (.val (ab_vm E v)) :=
  h.2.2 (i, ab_vm E v) (ab_al_mem.mpr ⟨i, v, hi, by simp⟩)
theorem ab_hl.weak {E : ab_E} {ls : Array Slot} {L L' : List (Option ab_V)} (h : ab_hl E ls L) (hn : L'.length = L.length) (hw : ∀ (i : Nat) (v : ab_V), L'[i]? = some (some v) → L[i]? = some (some v)) : ab_hl E ls L' := by
  refine ⟨by rw [hn]; exact h.1, h.2.1, fun q hq => ?_⟩
  obtain ⟨j, v, h1, h2⟩ := ab_al_mem.mp hq
  exact h.2.2 q (ab_al_mem.mpr ⟨j, v, hw j v h1, h2⟩)
def ab_un : Option ab_V → Option ab_V
  | some (.inr (.inl _)) => none
  | x => x
def ab_st1 : List (Option ab_V) → Nat → ab_V → List (Option ab_V)
  | [], _, _ => []
  | _ :: r, 0, v => some v :: r
  | o :: r, i + 1, v => (match i with | 0 => ab_un o | _ => o) :: ab_st1 r i v
def ab_k1 : List (Option ab_V) → List (Option ab_V)
  | [] => []
  | _ :: r => none :: r
def ab_st2 : List (Option ab_V) → Nat → ab_V → List (Option ab_V)
  | [], _, _ => []
  | _ :: r, 0, v => some v :: ab_k1 r
  | o :: r, i + 1, v => (match i with | 0 => ab_un o | _ => o) :: ab_st2 r i v
theorem ab_k1_len (r : List (Option ab_V)) : (ab_k1 r).length = r.length := by cases r <;> rfl
theorem ab_k1_at {r : List (Option ab_V)} {j : Nat} {w : ab_V} (h : (ab_k1 r)[j]? = some (some w)) : j ≠ 0 ∧ r[j]? = some (some w) := by
  cases r with
  | nil => simp [ab_k1] at h
  | cons o r =>
    cases j with
    | zero => simp [ab_k1] at h
    | succ j => exact ⟨by omega, by simpa [ab_k1] using h⟩
theorem ab_un_some {o : Option ab_V} {w : ab_V} (h : ab_un o = some w) : o = some w ∧ ab_cat w = 1 := by
  rcases o with _ | x | x | ⟨t, a⟩
  · cases h
  · cases h; exact ⟨rfl, rfl⟩
  · cases h
  · cases h; exact ⟨rfl, rfl⟩
theorem ab_st1_len (L : List (Option ab_V)) (i : Nat) (v : ab_V) : (ab_st1 L i v).length = L.length := by
  induction L generalizing i with
  | nil => simp [ab_st1]
  | cons o r ih => cases i <;> simp [ab_st1, ih]
theorem ab_st2_len (L : List (Option ab_V)) (i : Nat) (v : ab_V) : (ab_st2 L i v).length = L.length := by
  induction L generalizing i with
  | nil => simp [ab_st2]
  | cons o r ih => cases i <;> simp [ab_st2, ih, ab_k1_len]
theorem ab_st1_at {L : List (Option ab_V)} {i j : Nat} {v w : ab_V} (h : (ab_st1 L i v)[j]? = some (some w)) : (j = i ∧ w = v) ∨ (j ≠ i ∧ L[j]? = some (some w) ∧ ¬ (j + 1 = i ∧ ab_cat w = 2)) := by
  induction L generalizing i j with
  | nil => simp [ab_st1] at h
  | cons o r ih =>
    cases i with
    | zero =>
      cases j with
      | zero => left; simp [ab_st1] at h; exact ⟨rfl, h.symm⟩
      | succ j => right; simp [ab_st1] at h; exact ⟨by omega, by simpa using h, by omega⟩
    | succ i =>
      cases j with
      | zero =>
        right
        simp only [ab_st1, List.getElem?_cons_zero, Option.some.injEq] at h
        cases i with
        | zero =>
          obtain ⟨h1, h2⟩ := ab_un_some h
          exact ⟨by omega, by simp [h1], fun q => by omega⟩
        | succ i =>
          have h : o = some w := h
          exact ⟨by omega, by simp [h], fun q => by omega⟩
      | succ j =>
        simp only [ab_st1, List.getElem?_cons_succ] at h
        rcases ih h with ⟨h1, h2⟩ | ⟨h1, h2, h3⟩
        · exact Or.inl ⟨by omega, h2⟩
        · exact Or.inr ⟨by omega, by simpa using h2, fun q => h3 ⟨by omega, q.2⟩⟩
theorem ab_st2_at {L : List (Option ab_V)} {i j : Nat} {v w : ab_V} (h : (ab_st2 L i v)[j]? = some (some w)) : (j = i ∧ w = v) ∨ (j ≠ i ∧ j ≠ i + 1 ∧ L[j]? = some (some w) ∧ ¬ (j + 1 = i ∧ ab_cat w = 2)) := by
  induction L generalizing i j with
  | nil => simp [ab_st2] at h
  | cons o r ih =>
    cases i with
    | zero =>
      cases j with
      | zero => left; simp [ab_st2] at h; exact ⟨rfl, h.symm⟩
      | succ j =>
        right
        simp only [ab_st2, List.getElem?_cons_succ] at h
        obtain ⟨h1, h2⟩ := ab_k1_at h
        exact ⟨by omega, by omega, by simpa using h2, by omega⟩
    | succ i =>
      cases j with
      | zero =>
        right
        simp only [ab_st2, List.getElem?_cons_zero, Option.some.injEq] at h
        cases i with
        | zero =>
          obtain ⟨h1, h2⟩ := ab_un_some h
          exact ⟨by omega, by omega, by simp [h1], fun q => by omega⟩
        | succ i =>
          have h : o = some w := h
          exact ⟨by omega, by omega, by simp [h], fun q => by omega⟩
      | succ j =>
        simp only [ab_st2, List.getElem?_cons_succ] at h
        rcases ih h with ⟨h1, h2⟩ | ⟨h1, h0, h2, h3⟩
        · exact Or.inl ⟨by omega, h2⟩
        · exact Or.inr ⟨by omega, by omega, by simpa using h2, fun q => h3 ⟨by omega, q.2⟩⟩
theorem ab_hl.st1 {E : ab_E} {ls : Array Slot} {L : List (Option ab_V)} {i : Nat} {v : ab_V} (h : lv_has ls L.length ((i, ab_vm E v) :: (ab_al E L 0).filter (fun q => !(q.1 == i) && !(q.1 + 1 == i && q.2.category == 2)))) : ab_hl E ls (ab_st1 L i v) := by
  refine ⟨by rw [ab_st1_len]; exact h.1, h.2.1, fun q hq => h.2.2 q ?_⟩
  obtain ⟨j, w, h1, rfl⟩ := ab_al_mem.mp hq
  rcases ab_st1_at h1 with ⟨rfl, rfl⟩ | ⟨h2, h3, h4⟩
  · simp
  · refine List.mem_cons_of_mem _ (List.mem_filter.mpr ⟨ab_al_mem.mpr ⟨j, w, h3, rfl⟩, ?_⟩)
    simp only [Nat.zero_add, ab_cat_vm]
    by_cases h5 : j + 1 = i
    · have h6 : ab_cat w ≠ 2 := fun q => h4 ⟨h5, q⟩
      simp [h2, h6]
    · simp [h2, h5]
theorem ab_hl.st2 {E : ab_E} {ls : Array Slot} {L : List (Option ab_V)} {i : Nat} {v : ab_V} (h : lv_has ls L.length ((i, ab_vm E v) :: (ab_al E L 0).filter (fun q => !(q.1 == i) && (!(q.1 == i + 1) && !(q.1 + 1 == i && q.2.category == 2))))) : ab_hl E ls (ab_st2 L i v) := by
  refine ⟨by rw [ab_st2_len]; exact h.1, h.2.1, fun q hq => h.2.2 q ?_⟩
  obtain ⟨j, w, h1, rfl⟩ := ab_al_mem.mp hq
  rcases ab_st2_at h1 with ⟨rfl, rfl⟩ | ⟨h2, h0, h3, h4⟩
  · simp
  · refine List.mem_cons_of_mem _ (List.mem_filter.mpr ⟨ab_al_mem.mpr ⟨j, w, h3, rfl⟩, ?_⟩)
    simp only [Nat.zero_add, ab_cat_vm]
    by_cases h5 : j + 1 = i
    · have h6 : ab_cat w ≠ 2 := fun q => h4 ⟨h5, q⟩
      simp [h2, h0, h6]
    · simp [h2, h0, h5]
theorem ab_ok_st1 {sy : Nat} {L : List (Option ab_V)} {i : Nat} {v : ab_V} (h : ∀ (j : Nat) (w : ab_V), L[j]? = some (some w) → ab_ok sy w) (hv : ab_ok sy v) : ∀ (j : Nat) (w : ab_V), (ab_st1 L i v)[j]? = some (some w) → ab_ok sy w := by
  intro j w hw
  rcases ab_st1_at hw with ⟨-, rfl⟩ | ⟨-, h3, -⟩
  · exact hv
  · exact h j w h3
theorem ab_ok_st2 {sy : Nat} {L : List (Option ab_V)} {i : Nat} {v : ab_V} (h : ∀ (j : Nat) (w : ab_V), L[j]? = some (some w) → ab_ok sy w) (hv : ab_ok sy v) : ∀ (j : Nat) (w : ab_V), (ab_st2 L i v)[j]? = some (some w) → ab_ok sy w := by
  intro j w hw
  rcases ab_st2_at hw with ⟨-, rfl⟩ | ⟨-, -, h3, -⟩
  · exact hv
  · exact h j w h3
-- ===== instructions =====
abbrev ab_O : Type := (Instr ⊕ (Nat × Nat)) ⊕ ((Int32 ⊕ Int64) ⊕ (Nat × Int32))
abbrev oP (i : Instr) : ab_O := .inl (.inl i)
abbrev oL (c n : Nat) : ab_O := .inl (.inr (c, n))
abbrev oC (x : Int32) : ab_O := .inr (.inl (.inl x))
abbrev oD (x : Int64) : ab_O := .inr (.inl (.inr x))
abbrev oN (i : Nat) (z : Int32) : ab_O := .inr (.inr (i, z))
def ab_ln : Instr → Nat
  | .iload _ | .lload _ | .aload _ | .istore _ | .lstore _ | .astore _ | .bipush _ | .ldc _ => 2
  | .sipush _ | .ldc_w _ | .ldc2_w _ | .iinc _ _ | .getfield _ | .putfield _ | .getstatic _ => 3
  | _ => 1
def ab_oc (own : Nat) (x : Int32) : Instr → Bool
  | .iconst n => Int32.ofInt n == x
  | .bipush n => (Int8.ofInt n).toInt32 == x
  | .sipush n => (Int16.ofInt n).toInt32 == x
  | .ldc k => (ab_lk own k).1 == 2 && Int32.ofInt (ab_lk own k).2.2.2 == x
  | .ldc_w k => (ab_lk own k).1 == 2 && Int32.ofInt (ab_lk own k).2.2.2 == x
  | _ => false
def ab_od (own : Nat) (x : Int64) : Instr → Bool
  | .lconst n => Int64.ofNat n == x
  | .ldc2_w k => (ab_lk own k).1 == 3 && Int64.ofInt (ab_lk own k).2.2.2 == x
  | _ => false
def ab_on (n : Nat) (z : Int32) : Instr → Bool
  | .iinc k y => k == n && Int32.ofInt y == z
  | _ => false
def ab_ol (c n : Nat) : Instr → Bool
  | .iload k => c == 0 && k == n
  | .iload_n k => c == 0 && k.val == n
  | .lload k => c == 1 && k == n
  | .lload_n k => c == 1 && k.val == n
  | .aload k => c == 2 && k == n
  | .aload_n k => c == 2 && k.val == n
  | .istore k => c == 3 && k == n
  | .istore_n k => c == 3 && k.val == n
  | .lstore k => c == 4 && k == n
  | .lstore_n k => c == 4 && k.val == n
  | .astore k => c == 5 && k == n
  | .astore_n k => c == 5 && k.val == n
  | _ => false
def ab_om (own : Nat) (i : Instr) : ab_O → Bool
  | .inl (.inl j) => decide (i = j)
  | .inl (.inr (c, n)) => ab_ol c n i
  | .inr (.inl (.inl x)) => ab_oc own x i
  | .inr (.inl (.inr x)) => ab_od own x i
  | .inr (.inr (n, z)) => ab_on n z i
def ab_dc (own : Nat) (b : ByteArray) (pc : Nat) (o : ab_O) (n : Nat) : Bool := match decode b pc with
  | .ok q => q.2 == n && (q.2 == ab_ln q.1 && ab_om own q.1 o)
  | .error _ => false
theorem ab_dc_ok {own : Nat} {b : ByteArray} {pc n : Nat} {o : ab_O} (h : ab_dc own b pc o n = true) : ∃ i, decode b pc = .ok (i, n) ∧ n = ab_ln i ∧ ab_om own i o = true := by
  unfold ab_dc at h
  split at h
  · rename_i q hq
    simp only [Bool.and_eq_true, beq_iff_eq] at h
    obtain ⟨h1, h2, h3⟩ := h
    refine ⟨q.1, ?_, ?_, h3⟩
    · rw [hq, ← h1]
    · rw [← h1, h2]
  · cases h
-- guards
def ab_ix (i : Int32) (n : Nat) : Bool := decide (0 ≤ i.toInt) && decide (i.toInt < n)
def ab_b1 (x : Int32) : Bool := x == 0 || x == 1
def ab_c1 (x : Int32) : Bool := vp_nar .char x == x
def nc (i : Int32) : Nat := i.toNatClampNeg
theorem ab_ix_in {i : Int32} {n : Nat} (h : ab_ix i n = true) : vp_in i n := by
  simp only [ab_ix, Bool.and_eq_true, decide_eq_true_eq] at h
  exact vp_in_iff.mpr h
theorem ab_ix_lt {i : Int32} {n : Nat} (h : ab_ix i n = true) : nc i < n := Nat.not_le.mp fun q => ab_ix_in h (Or.inr q)
-- fields and things never written
def ab_fval (u : ab_S) (a c k : Nat) : Option ab_V := match (ab_fk c k).1 with
  | 0 => some (vI (u.1 a k))
  | 4 => some (vI (u.1 a k))
  | 1 => some (vL (u.2.1 a k))
  | 2 => some (vR (ab_fk c k).2.1 (a + (ab_fk c k).2.2))
  | 3 => some (vR (ab_fk c k).2.1 (u.2.2 (ab_fk c k).2.2))
  | _ => none
def ab_gf (q : ab_K) (t : ab_T) (a : Nat) (u : ab_S) : Option ab_V := match t with
  | .inl c => match q.1 with
    | 0 => bif Nat.beq c q.2.1 then ab_fval u a c q.2.2.1 else none
    | 1 => bif Nat.beq c q.2.1 then ab_fval u a c q.2.2.1 else none
    | 6 => bif Nat.beq c 20 then (bif Nat.beq q.2.1 0 then some (vL (ab_wl.getD a 0)) else some (vI (ab_wr.getD a 0))) else none
    | 8 => bif Nat.beq c 21 then some (vR (kA 7 8) 0) else none
    | 9 => bif Nat.beq c 21 then some (vI 0) else none
    | _ => none
  | .inr _ => none
def ab_pf (q : ab_K) (t : ab_T) (a : Nat) (v : ab_V) (u : ab_S) : Option (List Bool × ab_S) := match t with
  | .inl c => bif (Nat.beq c q.2.1 && Nat.ble q.1 1) then (match (ab_fk c q.2.2.1).1, v with
    | 0, .inl x => some ([], sI u a q.2.2.1 x)
    | 4, .inl x => some ([ab_b1 x], sI u a q.2.2.1 x)
    | 1, .inr (.inl x) => some ([], sJ u a q.2.2.1 x)
    | 3, .inr (.inr (.inl d, b)) => bif (Nat.beq c 8 && Nat.beq d (if q.2.2.1 < 3 then 2 else 7)) then some ([], sM u (q.2.2.1 - 1) b) else none
    | _, _ => none) else none
  | .inr _ => none
def ab_gs (q : ab_K) : Option ab_V := match q.1 with
  | 4 => some (vR (kO 20) q.2.1)
  | 5 => some (vR (kA 6 23) 0)
  | 11 => some (vR (kA 6 23) 0)
  | 10 => some (vI 1)
  | _ => none
def ab_by : List Int32 := [40, 41, 60, 61, 43, 45, 42, 59]
def ab_sti (own : Nat) (i : Instr) (st : List ab_V) (u : ab_S) : Option (List Bool × (List ab_V × ab_S)) := match i, st with
  | .iadd, .inl y :: .inl x :: r => some ([], vI (x + y) :: r, u)
  | .isub, .inl y :: .inl x :: r => some ([], vI (x - y) :: r, u)
  | .imul, .inl y :: .inl x :: r => some ([], vI (x * y) :: r, u)
  | .iand, .inl y :: .inl x :: r => some ([], vI (x &&& y) :: r, u)
  | .ior, .inl y :: .inl x :: r => some ([], vI (x ||| y) :: r, u)
  | .ixor, .inl y :: .inl x :: r => some ([], vI (x ^^^ y) :: r, u)
  | .ineg, .inl x :: r => some ([], vI (-x) :: r, u)
  | .ishl, .inl y :: .inl x :: r => some ([], vI (x <<< (y &&& 31)) :: r, u)
  | .ishr, .inl y :: .inl x :: r => some ([], vI (x >>> (y &&& 31)) :: r, u)
  | .iushr, .inl y :: .inl x :: r => some ([], vI ((x.toUInt32 >>> (y.toUInt32 &&& Int32.toUInt32 31)).toInt32) :: r, u)
  | .idiv, .inl y :: .inl x :: r => some ([decide (¬ y = 0)], vI (x / y) :: r, u)
  | .irem, .inl y :: .inl x :: r => some ([decide (¬ y = 0)], vI (x - x / y * y) :: r, u)
  | .ladd, .inr (.inl y) :: .inr (.inl x) :: r => some ([], vL (x + y) :: r, u)
  | .lsub, .inr (.inl y) :: .inr (.inl x) :: r => some ([], vL (x - y) :: r, u)
  | .lmul, .inr (.inl y) :: .inr (.inl x) :: r => some ([], vL (x * y) :: r, u)
  | .land, .inr (.inl y) :: .inr (.inl x) :: r => some ([], vL (x &&& y) :: r, u)
  | .lor, .inr (.inl y) :: .inr (.inl x) :: r => some ([], vL (x ||| y) :: r, u)
  | .ldiv, .inr (.inl y) :: .inr (.inl x) :: r => some ([decide (¬ y = 0)], vL (x / y) :: r, u)
  | .lrem, .inr (.inl y) :: .inr (.inl x) :: r => some ([decide (¬ y = 0)], vL (x - x / y * y) :: r, u)
  | .lshl, .inl y :: .inr (.inl x) :: r => some ([], vL (x <<< (y.toInt64 &&& 63)) :: r, u)
  | .lshr, .inl y :: .inr (.inl x) :: r => some ([], vL (x >>> (y.toInt64 &&& 63)) :: r, u)
  | .lushr, .inl y :: .inr (.inl x) :: r => some ([], vL ((x.toUInt64 >>> (y.toInt64.toUInt64 &&& Int64.toUInt64 63)).toInt64) :: r, u)
  | .i2l, .inl x :: r => some ([], vL x.toInt64 :: r, u)
  | .l2i, .inr (.inl x) :: r => some ([], vI x.toInt32 :: r, u)
  | .i2c, .inl x :: r => some ([], vI (x.toUInt32 % 65536).toInt32 :: r, u)
  | .i2b, .inl x :: r => some ([], vI x.toInt8.toInt32 :: r, u)
  | .lcmp, .inr (.inl y) :: .inr (.inl x) :: r => some ([], vI (lg_cmp x y) :: r, u)
  | .dup, .inl x :: r => some ([], .inl x :: .inl x :: r, u)
  | .dup, .inr (.inr x) :: r => some ([], .inr (.inr x) :: .inr (.inr x) :: r, u)
  | .pop, .inl _ :: r => some ([], r, u)
  | .dup2, .inl y :: .inr (.inr x) :: r => some ([], .inl y :: .inr (.inr x) :: .inl y :: .inr (.inr x) :: r, u)
  | .getfield k, .inr (.inr (t, a)) :: r => match ab_gf (ab_lk own k) t a u with
    | some v => some ([], v :: r, u)
    | none => none
  | .putfield k, v :: .inr (.inr (t, a)) :: r => match ab_pf (ab_lk own k) t a v u with
    | some (g, u') => some (g, r, u')
    | none => none
  | .getstatic k, r => match ab_gs (ab_lk own k) with
    | some v => some ([], v :: r, u)
    | none => none
  | .ldc k, r => bif Nat.beq (ab_lk own k).1 7 then some ([], vR (kO 21) 0 :: r, u) else none
  | .arraylength, .inr (.inr (.inr (_, n), _)) :: r => some ([], vI (Int32.ofNat n) :: r, u)
  | .iaload, .inl i :: .inr (.inr (.inr (0, n), a)) :: r => some ([ab_ix i n], vI (u.1 a (nc i)) :: r, u)
  | .caload, .inl i :: .inr (.inr (.inr (2, n), a)) :: r => some ([ab_ix i n], vI (u.1 a (nc i)) :: r, u)
  | .baload, .inl i :: .inr (.inr (.inr (3, n), a)) :: r => some ([ab_ix i n], vI (u.1 a (nc i)) :: r, u)
  | .baload, .inl i :: .inr (.inr (.inr (7, _), _)) :: r => some ([ab_ix i 8], vI (ab_by.getD (nc i) 0) :: r, u)
  | .laload, .inl i :: .inr (.inr (.inr (1, n), a)) :: r => some ([ab_ix i n], vL (u.2.1 a (nc i)) :: r, u)
  | .aaload, .inl i :: .inr (.inr (.inr (4, n), a)) :: r => some ([ab_ix i n], vR (kO 5) (a + 1 + 4 * nc i) :: r, u)
  | .aaload, .inl i :: .inr (.inr (.inr (5, n), a)) :: r => some ([ab_ix i n], vR (kO 4) (a + 1 + 4 * nc i) :: r, u)
  | .aaload, .inl i :: .inr (.inr (.inr (6, _), _)) :: r => some ([ab_ix i 23], vR (kO 20) (nc i) :: r, u)
  | .iastore, .inl x :: .inl i :: .inr (.inr (.inr (0, n), a)) :: r => some ([ab_ix i n], r, sI u a (nc i) x)
  | .castore, .inl x :: .inl i :: .inr (.inr (.inr (2, n), a)) :: r => some ([ab_ix i n, ab_c1 x], r, sI u a (nc i) x)
  | .bastore, .inl x :: .inl i :: .inr (.inr (.inr (3, n), a)) :: r => some ([ab_ix i n, ab_b1 x], r, sI u a (nc i) x)
  | .lastore, .inr (.inl x) :: .inl i :: .inr (.inr (.inr (1, n), a)) :: r => some ([ab_ix i n], r, sJ u a (nc i) x)
  | _, _ => none
def ab_stl (c n : Nat) (L : List (Option ab_V)) (st : List ab_V) : Option (List (Option ab_V) × List ab_V) := match c with
  | 0 => match L[n]? with
    | some (some (.inl x)) => some (L, .inl x :: st)
    | _ => none
  | 1 => match L[n]? with
    | some (some (.inr (.inl x))) => some (L, .inr (.inl x) :: st)
    | _ => none
  | 2 => match L[n]? with
    | some (some (.inr (.inr x))) => some (L, .inr (.inr x) :: st)
    | _ => none
  | 3 => match st with
    | .inl x :: r => bif Nat.blt n L.length then some (ab_st1 L n (.inl x), r) else none
    | _ => none
  | 4 => match st with
    | .inr (.inl x) :: r => bif Nat.blt (n + 1) L.length then some (ab_st2 L n (.inr (.inl x)), r) else none
    | _ => none
  | 5 => match st with
    | .inr (.inr x) :: r => bif Nat.blt n L.length then some (ab_st1 L n (.inr (.inr x)), r) else none
    | _ => none
  | _ => none
def ab_stp (own : Nat) (o : ab_O) (L : List (Option ab_V)) (st : List ab_V) (u : ab_S) : Option (List Bool × (List (Option ab_V) × (List ab_V × ab_S))) := match o with
  | .inr (.inl (.inl x)) => some ([], L, .inl x :: st, u)
  | .inr (.inl (.inr x)) => some ([], L, .inr (.inl x) :: st, u)
  | .inr (.inr (i, z)) => match L[i]? with
    | some (some (.inl x)) => some ([], ab_st1 L i (.inl (x + z)), st, u)
    | _ => none
  | .inl (.inr (c, n)) => match ab_stl c n L st with
    | some (L', st') => some ([], L', st', u)
    | none => none
  | .inl (.inl i) => match ab_sti own i st u with
    | some (g, st', u') => some (g, L, st', u')
    | none => none
