/-! A small evaluator of straight stretches of code over a pool of cells with numbered places, and why it says what the machine does. -/
-- ===== the words that stay good in a call =====
def ab_W0 : List Cond := lw_tbl.filter goodWord
def ab_isNest : Cond → Bool
  | .fieldLinkNest _ _ _ _ _ _ => true
  | .methodLinkNest _ _ _ _ => true
  | _ => false
def ab_NW (U : State) : Prop := ∀ w ∈ lw_tbl, ab_isNest w = true → va_Nw w U
-- ===== values, tags, states =====
abbrev ab_T : Type := Nat ⊕ (Nat × Nat)
abbrev ab_V : Type := Int32 ⊕ (Int64 ⊕ (ab_T × Nat))
abbrev vI (x : Int32) : ab_V := .inl x
abbrev vL (x : Int64) : ab_V := .inr (.inl x)
abbrev vR (t : ab_T) (a : Nat) : ab_V := .inr (.inr (t, a))
abbrev kO (c : Nat) : ab_T := .inl c
abbrev kA (e n : Nat) : ab_T := .inr (e, n)
abbrev ab_S : Type := (Nat → Nat → Int32) × ((Nat → Nat → Int64) × (Nat → Nat))
def sI (u : ab_S) (a k : Nat) (v : Int32) : ab_S := (fun b j => if b = a ∧ j = k then v else u.1 b j, u.2)
def sJ (u : ab_S) (a k : Nat) (v : Int64) : ab_S := (u.1, fun b j => if b = a ∧ j = k then v else u.2.1 b j, u.2.2)
def sM (u : ab_S) (k : Nat) (v : Nat) : ab_S := (u.1, u.2.1, fun j => if j = k then v else u.2.2 j)
-- class numbers, array class numbers, addresses, addresses of what is never written
abbrev ab_E : Type := (Nat → ClassId) × ((Nat → Nat → Nat) × ((Nat → ClassId) × ((Nat → Nat) × (Nat → Nat → Nat))))
def ab_ro (E : ab_E) : Nat → Nat := E.2.2.2.1
def ab_sa (E : ab_E) : Nat → Nat → Nat := E.2.2.2.2
def ab_cA (E : ab_E) : Nat → ClassId := E.2.2.1
def ab_re (E : ab_E) : ab_T → Nat → Nat
  | .inl c, a => if c < 20 then ab_ro E a else ab_sa E c a
  | .inr (e, _), a => if e < 6 then ab_ro E a else ab_sa E (100 + e) a
def ab_vm (E : ab_E) : ab_V → Value
  | .inl x => .int x
  | .inr (.inl x) => .long x
  | .inr (.inr (t, a)) => .ref (ab_re E t a)
-- ===== the two pools: the tags by the places; fields by tag and number =====
def ab_tSt : List ab_T := [kO 5, kA 0 8, kA 0 6, kA 0 6]
def ab_tSe : List ab_T := [kO 4, kA 0 8, kA 0 8, kA 3 8]
def ab_tOf : List ab_T := [kO 2, kA 1 6, kA 1 8, kA 0 6, kA 0 6, kA 0 8, kA 0 8, kA 0 48, kO 1, kA 0 1000, kA 0 32, kA 0 384]
def ab_tYe : List ab_T := [kO 7, kA 0 40, kA 0 40, kA 0 40]
def ab_sh0 : List ab_T := [kO 8, kO 6, kA 2 1000, kA 0 1001, kA 0 1001, kA 1 1001] ++ ab_tOf ++ ab_tOf ++ ab_tYe ++ ab_tYe ++ ab_tSt ++ ab_tSt ++ ab_tSe ++ [kA 4 16] ++ (List.replicate 16 ab_tSt).flatten ++ [kA 4 4] ++ (List.replicate 4 ab_tSt).flatten ++ [kA 5 4] ++ (List.replicate 4 ab_tSe).flatten ++ [kA 3 4, kO 3, kA 0 6, kA 0 6, kA 0 6, kO 0, kA 0 6, kA 0 1792]
def ab_sh1 : List ab_T := [kO 9, kA 0 1000, kA 0 1002, kA 0 1002, kA 1 1002, kA 1 23, kA 0 180, kA 0 2200, kA 0 2200, kA 1 14, kA 1 14, kA 0 14, kA 0 14, kA 0 250, kA 0 4, kA 0 1100, kA 0 1081, kA 3 4, kA 0 6, kA 0 6, kA 0 6, kA 0 6, kA 0 6]
def ab_sh (sy : Nat) : List ab_T := if sy = 0 then ab_sh0 else ab_sh1
-- a field: what it is (0 int, 1 long, 2 a fixed cell so much behind, 3 a changing reference by its number, 4 boolean), its tag, that number
def ab_f0 : List (List (Nat × (ab_T × Nat))) := [
  [(4, kO 0, 0), (0, kO 0, 0), (2, kA 0 6, 1), (2, kA 0 1792, 2)],
  [(2, kA 0 1000, 1), (0, kO 0, 0), (2, kA 0 32, 2), (0, kO 0, 0)],
  [(0, kO 0, 0), (0, kO 0, 0), (2, kA 1 6, 1), (2, kA 1 8, 2), (2, kA 0 6, 3), (2, kA 0 6, 4), (2, kA 0 8, 5), (2, kA 0 8, 6), (2, kA 0 48, 7), (0, kO 0, 0), (4, kO 0, 0), (4, kO 0, 0), (2, kO 1, 8), (2, kA 0 384, 11)],
  [(2, kA 0 6, 1), (2, kA 0 6, 2), (2, kA 0 6, 3), (0, kO 0, 0)],
  [(2, kA 0 8, 1), (2, kA 0 8, 2), (2, kA 3 8, 3), (0, kO 0, 0)],
  [(2, kA 0 8, 1), (2, kA 0 6, 2), (2, kA 0 6, 3), (1, kO 0, 0), (0, kO 0, 0)],
  [(2, kA 2 1000, 1), (0, kO 0, 0), (2, kA 0 1001, 2), (2, kA 0 1001, 3), (2, kA 1 1001, 4), (0, kO 0, 0), (0, kO 0, 0), (0, kO 0, 0), (0, kO 0, 0), (1, kO 0, 0), (0, kO 0, 0)],
  [(0, kO 0, 0), (2, kA 0 40, 1), (2, kA 0 40, 2), (2, kA 0 40, 3)],
  [(2, kO 6, 1), (3, kO 2, 0), (3, kO 2, 1), (3, kO 7, 2), (3, kO 7, 3), (2, kO 5, 38), (2, kO 5, 42), (2, kO 4, 46), (2, kA 4 16, 50), (0, kO 0, 0), (0, kO 0, 0), (2, kA 4 4, 115), (2, kA 5 4, 132), (2, kA 3 4, 149), (2, kO 3, 150), (2, kO 0, 154)],
  [(0, kO 0, 0), (2, kA 0 1000, 1), (0, kO 0, 0), (0, kO 0, 0), (2, kA 0 1002, 2), (2, kA 0 1002, 3), (2, kA 1 1002, 4), (0, kO 0, 0), (0, kO 0, 0), (2, kA 1 23, 5), (2, kA 0 180, 6), (2, kA 0 2200, 7), (2, kA 0 2200, 8), (0, kO 0, 0), (2, kA 1 14, 9), (2, kA 1 14, 10), (2, kA 0 14, 11), (2, kA 0 14, 12), (0, kO 0, 0), (0, kO 0, 0), (0, kO 0, 0), (2, kA 0 250, 13), (2, kA 0 4, 14), (2, kA 0 1100, 15), (2, kA 0 1081, 16), (0, kO 0, 0), (2, kA 3 4, 17), (2, kA 0 6, 18), (2, kA 0 6, 19), (2, kA 0 6, 20), (2, kA 0 6, 21), (2, kA 0 6, 22), (0, kO 0, 0)]]
def ab_fs (c : Nat) : List (Nat × (ab_T × Nat)) := ab_f0.getD c []
def ab_fk (c k : Nat) : Nat × (ab_T × Nat) := (ab_fs c).getD k (9, kO 0, 0)
def ab_fv (E : ab_E) (u : ab_S) (a : Nat) (q : Nat × (ab_T × Nat)) (k : Nat) : Value := match q.1 with
  | 1 => .long (u.2.1 a k)
  | 2 => .ref (ab_ro E (a + q.2.2))
  | 3 => .ref (ab_ro E (u.2.2 q.2.2))
  | _ => .int (u.1 a k)
def ab_cell (E : ab_E) (u : ab_S) (a : Nat) : ab_T → va_E
  | .inl c => .inr (c, (List.range (ab_fs c).length).map fun k => ab_fv E u a (ab_fk c k) k)
  | .inr (e, n) => .inl (ab_cA E e, (n, match e with
      | 1 => .inr (.inl (u.2.1 a))
      | 4 => .inr (.inr (.inr (.inr (fun j => some (ab_ro E (a + 1 + 4 * j))))))
      | 5 => .inr (.inr (.inr (.inr (fun j => some (ab_ro E (a + 1 + 4 * j))))))
      | _ => .inl (u.1 a)))
def ab_wd (E : ab_E) (sy : Nat) (u : ab_S) : va_W := (List.range (ab_sh sy).length).map fun a => (ab_ro E a, ab_cell E u a ((ab_sh sy).getD a (kO 99)))
def ab_WT (sy : Nat) (u : ab_S) : Prop := ∀ j, j < 4 → sy = 0 → ab_sh0[u.2.2 j]? = some (if j < 2 then kO 2 else kO 7)
-- how many of the things that are never written
def ab_sn (c : Nat) : Nat := if c = 20 then 23 else 1
def ab_ia (sy : Nat) : ab_T → Nat → Prop
  | .inl c, a => if c < 20 then (ab_sh sy)[a]? = some (.inl c) else a < ab_sn c
  | .inr (e, n), a => if e < 6 then (ab_sh sy)[a]? = some (.inr (e, n)) else (a < 1 ∧ e < 8 ∧ n = (if e = 6 then 23 else 8))
def ab_ok (sy : Nat) : ab_V → Prop
  | .inr (.inr (t, a)) => ab_ia sy t a
  | _ => True
def ab_el : Nat → FieldType
  | 0 => .int
  | 1 => .long
  | 2 => .char
  | 3 => .boolean
  | 4 => .object "SoulRaffle$Standing"
  | 5 => .object "SoulRaffle$Seen"
  | _ => .int
def ab_ty (E : ab_E) : List (ClassId × FieldType) := (List.range 6).map fun e => (ab_cA E e, ab_el e)
theorem ab_ty_at (E : ab_E) {e : Nat} (h : e < 6) : (ab_ty E)[e]? = some (ab_cA E e, ab_el e) := by
  unfold ab_ty
  rw [List.getElem?_map, List.getElem?_range h]
  rfl
theorem ab_wd_at (E : ab_E) {sy a : Nat} {u : ab_S} {t : ab_T} (h : (ab_sh sy)[a]? = some t) : (ab_wd E sy u)[a]? = some (ab_ro E a, ab_cell E u a t) := by
  have hl : a < (ab_sh sy).length := (List.getElem?_eq_some_iff.mp h).1
  unfold ab_wd
  rw [List.getElem?_map, List.getElem?_range hl]
  simp [List.getD_eq_getElem?_getD, h]
theorem ab_wd_set (E : ab_E) {sy a : Nat} {u u' : ab_S} {t : ab_T} {x : va_E} (h : (ab_sh sy)[a]? = some t) (hx : x = ab_cell E u' a t) (ho : ∀ b s, b ≠ a → (ab_sh sy)[b]? = some s → ab_cell E u' b s = ab_cell E u b s) : (ab_wd E sy u).set a (ab_ro E a, x) = ab_wd E sy u' := by
  have hl : a < (ab_sh sy).length := (List.getElem?_eq_some_iff.mp h).1
  apply List.ext_getElem?
  intro i
  by_cases hi : i < (ab_sh sy).length
  · obtain ⟨s, hs⟩ : ∃ s, (ab_sh sy)[i]? = some s := ⟨_, List.getElem?_eq_getElem hi⟩
    rw [ab_wd_at E hs]
    by_cases e : i = a
    · subst e
      rw [List.getElem?_set_self (by unfold ab_wd; simpa using hl), hx]
      cases h.symm.trans hs
      rfl
    · rw [List.getElem?_set_ne (Ne.symm e), ab_wd_at E hs, ho i s e hs]
  · rw [List.getElem?_eq_none (by simp [ab_wd]; omega), List.getElem?_eq_none (by simp [ab_wd]; omega)]
-- ===== what a store does to the pool =====
theorem ab_cell_sI (E : ab_E) {u : ab_S} {a b k : Nat} {v : Int32} {s : ab_T} (h : b ≠ a) : ab_cell E (sI u a k v) b s = ab_cell E u b s := by
  have e1 : (sI u a k v).1 b = u.1 b := by funext j; simp [sI, h]
  have e2 : (sI u a k v).2 = u.2 := rfl
  cases s with
  | inl c => simp only [ab_cell, ab_fv, e1, e2]
  | inr p => simp only [ab_cell, e1, e2]
theorem ab_cell_sJ (E : ab_E) {u : ab_S} {a b k : Nat} {v : Int64} {s : ab_T} (h : b ≠ a) : ab_cell E (sJ u a k v) b s = ab_cell E u b s := by
  have e1 : (sJ u a k v).2.1 b = u.2.1 b := by funext j; simp [sJ, h]
  have e2 : (sJ u a k v).1 = u.1 := rfl
  have e3 : (sJ u a k v).2.2 = u.2.2 := rfl
  cases s with
  | inl c => simp only [ab_cell, ab_fv, e1, e2, e3]
  | inr p => simp only [ab_cell, e1, e2, e3]
theorem ab_fs_none {c : Nat} (h : 10 ≤ c) : ab_fs c = [] := by
  unfold ab_fs
  rw [List.getD_eq_getElem?_getD, List.getElem?_eq_none (show ab_f0.length ≤ c from h)]
  rfl
theorem ab_fk_none {c k : Nat} (h : (ab_fs c).length ≤ k) : ab_fk c k = (9, kO 0, 0) := by
  unfold ab_fk
  rw [List.getD_eq_getElem?_getD, List.getElem?_eq_none h]
  rfl
theorem ab_no3 : ∀ c, c < 10 → c ≠ 8 → ∀ k, k < (ab_fs c).length → (ab_fk c k).1 ≠ 3 := by decide +kernel
theorem ab_cell_sM (E : ab_E) {u : ab_S} {b j : Nat} {v : Nat} {s : ab_T} (h : s ≠ kO 8) : ab_cell E (sM u j v) b s = ab_cell E u b s := by
  have e1 : (sM u j v).2.1 = u.2.1 := rfl
  have e2 : (sM u j v).1 = u.1 := rfl
  cases s with
  | inl c =>
    simp only [ab_cell, e1, e2]
    congr 2
    apply List.map_congr_left
    intro k hk
    have hk2 : k < (ab_fs c).length := List.mem_range.mp hk
    have h3 : (ab_fk c k).1 ≠ 3 := by
      have hc : c ≠ 8 := fun q => h (by rw [q])
      by_cases h10 : c < 10
      · exact ab_no3 c h10 hc k hk2
      · rw [ab_fs_none (Nat.not_lt.mp h10)] at hk2
        cases hk2
    simp only [ab_fv, e1, e2]
    split
    · rfl
    · rfl
    · exact absurd (by assumption) h3
    · rfl
  | inr p => simp only [ab_cell, e1, e2]
theorem ab_map_set {β : Type} (f : Nat → β) (n k : Nat) (v : β) : ((List.range n).map f).set k v = (List.range n).map (fun j => if j = k then v else f j) := by
  apply List.ext_getElem?
  intro i
  by_cases hi : i < n
  · by_cases e : i = k
    · subst e
      rw [List.getElem?_set_self (by simpa using hi), List.getElem?_map, List.getElem?_range hi]
      simp
    · rw [List.getElem?_set_ne (Ne.symm e), List.getElem?_map, List.getElem?_map, List.getElem?_range hi]
      simp [e]
  · rw [List.getElem?_eq_none (by simp; omega), List.getElem?_eq_none (by simp; omega)]
theorem ab_obj_sI (E : ab_E) {u : ab_S} {a c k : Nat} {v : Int32} (h : (ab_fk c k).1 = 0 ∨ (ab_fk c k).1 = 4) : ab_cell E (sI u a k v) a (.inl c) = .inr (c, ((List.range (ab_fs c).length).map fun j => ab_fv E u a (ab_fk c j) j).set k (.int v)) := by
  rw [ab_map_set]
  simp only [ab_cell]
  congr 2
  apply List.map_congr_left
  intro j _
  by_cases e : j = k
  · subst e
    rw [if_pos rfl]
    rcases h with h | h <;> simp [ab_fv, h, sI]
  · rw [if_neg e]
    have e1 : (sI u a k v).1 a j = u.1 a j := by simp [sI, e]
    have e2 : (sI u a k v).2 = u.2 := rfl
    simp only [ab_fv, e1, e2]
theorem ab_obj_sJ (E : ab_E) {u : ab_S} {a c k : Nat} {v : Int64} (h : (ab_fk c k).1 = 1) : ab_cell E (sJ u a k v) a (.inl c) = .inr (c, ((List.range (ab_fs c).length).map fun j => ab_fv E u a (ab_fk c j) j).set k (.long v)) := by
  rw [ab_map_set]
  simp only [ab_cell]
  congr 2
  apply List.map_congr_left
  intro j _
  by_cases e : j = k
  · subst e
    rw [if_pos rfl]
    simp [ab_fv, h, sJ]
  · rw [if_neg e]
    have e1 : (sJ u a k v).2.1 a j = u.2.1 a j := by simp [sJ, e]
    have e2 : (sJ u a k v).1 = u.1 := rfl
    have e3 : (sJ u a k v).2.2 = u.2.2 := rfl
    simp only [ab_fv, e1, e2, e3]
theorem ab_obj_sM (E : ab_E) {u : ab_S} {a k : Nat} {v : Nat} (hk : 1 ≤ k ∧ k < 5) : ab_cell E (sM u (k - 1) v) a (kO 8) = .inr (8, ((List.range (ab_fs 8).length).map fun j => ab_fv E u a (ab_fk 8 j) j).set k (.ref (ab_ro E v))) := by
  rw [ab_map_set]
  simp only [ab_cell]
  congr 2
  apply List.map_congr_left
  intro j hj
  have hj2 : j < 16 := List.mem_range.mp hj
  have key : ∀ j, j < 16 → decide ((ab_fk 8 j).1 = 3) = decide (1 ≤ j ∧ j < 5) ∧ (1 ≤ j ∧ j < 5 → (ab_fk 8 j).2.2 = j - 1) := by decide +kernel
  obtain ⟨q0, q2⟩ := key j hj2
  have q1 : (ab_fk 8 j).1 = 3 ↔ 1 ≤ j ∧ j < 5 := by rwa [decide_eq_decide] at q0
  by_cases e : j = k
  · subst e
    rw [if_pos rfl]
    have h3 := q1.mpr hk
    simp only [ab_fv, h3, q2 hk]
    simp [sM]
  · rw [if_neg e]
    have e1 : (sM u (k - 1) v).1 = u.1 := rfl
    have e2 : (sM u (k - 1) v).2.1 = u.2.1 := rfl
    simp only [ab_fv, e1, e2]
    split
    · rfl
    · rfl
    · rename_i h3
      have h4 := q1.mp h3
      have h5 : ¬ (ab_fk 8 j).2.2 = k - 1 := by rw [q2 h4]; omega
      simp [sM, h5]
    · rfl
theorem ab_arr_sI (E : ab_E) {u : ab_S} {a e n k : Nat} {v : Int32} (h : e = 0 ∨ e = 2 ∨ e = 3) : ab_cell E (sI u a k v) a (.inr (e, n)) = .inl (ab_cA E e, (n, .inl (upd (u.1 a) k v))) := by
  have e1 : (sI u a k v).1 a = upd (u.1 a) k v := by funext j; simp [sI, upd]
  rcases h with rfl | rfl | rfl <;> simp only [ab_cell, e1]
theorem ab_arr_sJ (E : ab_E) {u : ab_S} {a n k : Nat} {v : Int64} : ab_cell E (sJ u a k v) a (.inr (1, n)) = .inl (ab_cA E 1, (n, .inr (.inl (vp_updL (u.2.1 a) k v)))) := by
  have e1 : (sJ u a k v).2.1 a = vp_updL (u.2.1 a) k v := by funext j; simp [sJ, vp_updL]
  simp only [ab_cell, e1]
-- ===== where things lie =====
def ab_layB (sy a : Nat) : Bool := match (ab_sh sy)[a]? with
  | some (Sum.inl c) => decide (c < 10) && (decide (c ≠ 8) || (sy == 0 && a == 0)) && (List.range (ab_fs c).length).all (fun k => (ab_fk c k).1 != 2 || (decide ((ab_sh sy)[a + (ab_fk c k).2.2]? = some (ab_fk c k).2.1)))
  | some (Sum.inr (e, n)) => decide (e < 6) && (decide (e < 4) || (List.range n).all (fun j => decide ((ab_sh sy)[a + 1 + 4 * j]? = some (if e = 4 then kO 5 else kO 4))))
  | none => true
theorem ab_lay0 : (List.range 2).all (fun sy => (List.range (ab_sh sy).length).all (fun a => ab_layB sy a)) = true := by decide +kernel
theorem ab_lay1 {sy a : Nat} (hs : sy < 2) (ha : a < (ab_sh sy).length) : ab_layB sy a = true := List.all_eq_true.mp (List.all_eq_true.mp ab_lay0 sy (List.mem_range.mpr hs)) a (List.mem_range.mpr ha)
theorem ab_lay {sy a c k : Nat} (hs : sy < 2) (h : (ab_sh sy)[a]? = some (kO c)) : c < 10 ∧ (c = 8 → sy = 0 ∧ a = 0) ∧ ((ab_fk c k).1 = 2 → (ab_sh sy)[a + (ab_fk c k).2.2]? = some (ab_fk c k).2.1) := by
  have h1 := ab_lay1 hs (List.getElem?_eq_some_iff.mp h).1
  unfold ab_layB at h1
  rw [h] at h1
  simp only [Bool.and_eq_true, Bool.or_eq_true, decide_eq_true_eq, List.all_eq_true, List.mem_range, beq_iff_eq, bne_iff_ne, ne_eq] at h1
  refine ⟨h1.1.1, fun h8 => h1.1.2.resolve_left (fun q => q h8), fun h2 => ?_⟩
  by_cases hk : k < (ab_fs c).length
  · exact (h1.2 k hk).resolve_left (fun q => q h2)
  · rw [ab_fk_none (Nat.not_lt.mp hk)] at h2
    cases h2
theorem ab_layA {sy a e n : Nat} (hs : sy < 2) (h : (ab_sh sy)[a]? = some (kA e n)) : e < 6 ∧ (4 ≤ e → ∀ j, j < n → (ab_sh sy)[a + 1 + 4 * j]? = some (if e = 4 then kO 5 else kO 4)) := by
  have h1 := ab_lay1 hs (List.getElem?_eq_some_iff.mp h).1
  unfold ab_layB at h1
  rw [h] at h1
  simp only [Bool.and_eq_true, Bool.or_eq_true, decide_eq_true_eq, List.all_eq_true, List.mem_range] at h1
  exact ⟨h1.1, fun h4 => h1.2.resolve_left (by omega)⟩
