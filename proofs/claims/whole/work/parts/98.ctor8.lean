/-! the constructor of SoulRaffle (wip/gen/ctor8.py) -/
def XX8 (s : State) : Prop := va_AO "SoulRaffle$Standing" s ∧ va_AO "SoulRaffle$Seen" s
def s8_1 (E : ab_E) (N0 : Nat) : va_W := nW6 E (N0) (N0 + 1)
def s8_2 (E : ab_E) (N0 : Nat) : va_W := s8_1 E N0 ++ nW2 E (N0 + 5) (N0 + 5 + 1)
def s8_3 (E : ab_E) (N0 : Nat) : va_W := s8_2 E N0 ++ nW2 E (N0 + 17) (N0 + 17 + 1)
def s8_4 (E : ab_E) (N0 : Nat) : va_W := s8_3 E N0 ++ nW7 E (N0 + 29) (N0 + 29 + 1)
def s8_5 (E : ab_E) (N0 : Nat) : va_W := s8_4 E N0 ++ nW7 E (N0 + 33) (N0 + 33 + 1)
def s8_6 (E : ab_E) (N0 : Nat) : va_W := s8_5 E N0 ++ nW5 E (N0 + 37) (N0 + 37 + 1)
def s8_7 (E : ab_E) (N0 : Nat) : va_W := s8_6 E N0 ++ nW5 E (N0 + 41) (N0 + 41 + 1)
def s8_8 (E : ab_E) (N0 : Nat) : va_W := s8_7 E N0 ++ nW4 E (N0 + 45) (N0 + 45 + 1)
theorem s8_len (E : ab_E) (N0 : Nat) : (s8_8 E N0).length = 49 := rfl
def qfn (b0 w k : Nat) : Nat → Option Nat := fun j => if j < k then some (b0 + w * j) else none
theorem qfn_up {b0 w k : Nat} (hk : k < 100) : va_up (qfn b0 w k) (nI k).toNatClampNeg (some (b0 + w * k)) = qfn b0 w (k + 1) := by
  have e : (nI k).toNatClampNeg = k := nI_clamp (by omega)
  rw [e]
  funext j
  simp only [va_up, qfn]
  by_cases h1 : j = k
  · subst h1
    simp
  · by_cases h2 : j < k
    · simp [h1, h2, show j < k + 1 by omega]
    · simp [h1, h2, show ¬ j < k + 1 by omega]
theorem qfn_0 (b0 w : Nat) : qfn b0 w 0 = fun _ => none := funext fun j => by simp [qfn]
def pS8 (E : ab_E) (N0 : Nat) : Nat → va_W
  | 0 => []
  | k + 1 => pS8 E N0 k ++ nW5 E (N0 + 50 + 4 * k) (N0 + 50 + 4 * k + 1)
theorem pS8_len (E : ab_E) (N0 : Nat) : ∀ k, (pS8 E N0 k).length = 4 * k
  | 0 => rfl
  | k + 1 => by
    rw [pS8, List.length_append, pS8_len E N0 k]
    rfl
def mS8 (E : ab_E) (N0 : Nat) : Nat → va_W
  | 0 => []
  | k + 1 => mS8 E N0 k ++ (nW5 E (N0 + 117 + 8 * k) (N0 + 117 + 8 * k + 1) ++ nW4 E (N0 + 121 + 8 * k) (N0 + 121 + 8 * k + 1))
theorem mS8_len (E : ab_E) (N0 : Nat) : ∀ k, (mS8 E N0 k).length = 8 * k
  | 0 => rfl
  | k + 1 => by
    rw [mS8, List.length_append, mS8_len E N0 k]
    rfl
def w8a (E : ab_E) (a N0 k : Nat) : va_W := (a, .inr (8, [.ref (N0), .ref (N0 + 5), .ref (N0 + 17), .ref (N0 + 29), .ref (N0 + 33), .ref (N0 + 37), .ref (N0 + 41), .ref (N0 + 45), .ref (N0 + 49), .int 0, .int 0, .null, .null, .null, .null, .null])) :: (s8_8 E N0 ++ ((N0 + 49, .inl (ab_cA E 4, 16, .inr (.inr (.inr (.inr (qfn (N0 + 50) 4 k)))))) :: pS8 E N0 k))
theorem w8a_len (E : ab_E) (a N0 k : Nat) : (w8a E a N0 k).length = 51 + 4 * k := by
  unfold w8a
  rw [List.length_cons, List.length_append, s8_len, List.length_cons, pS8_len]
  omega
def s8b (E : ab_E) (N0 : Nat) : va_W := s8_8 E N0 ++ ((N0 + 49, .inl (ab_cA E 4, 16, .inr (.inr (.inr (.inr (qfn (N0 + 50) 4 16)))))) :: pS8 E N0 16)
theorem s8b_len (E : ab_E) (N0 : Nat) : (s8b E N0).length = 114 := by
  unfold s8b
  rw [List.length_append, s8_len, List.length_cons, pS8_len]
def m8 (E : ab_E) (N0 i j : Nat) (r : va_W) : va_W := (N0 + 114, .inl (ab_cA E 4, 4, .inr (.inr (.inr (.inr (qfn (N0 + 117) 8 i)))))) :: (N0 + 115, .inl (ab_cA E 5, 4, .inr (.inr (.inr (.inr (qfn (N0 + 121) 8 j)))))) :: (N0 + 116, .inl (ab_cA E 3, 4, .inl (fun _ => 0))) :: r
def w8b (E : ab_E) (a N0 k : Nat) : va_W := (a, .inr (8, [.ref (N0), .ref (N0 + 5), .ref (N0 + 17), .ref (N0 + 29), .ref (N0 + 33), .ref (N0 + 37), .ref (N0 + 41), .ref (N0 + 45), .ref (N0 + 49), .int 0, .int 0, .ref (N0 + 114), .ref (N0 + 115), .ref (N0 + 116), .null, .null])) :: (s8b E N0 ++ m8 E N0 k k (mS8 E N0 k))
def w8c (E : ab_E) (a N0 k : Nat) : va_W := (a, .inr (8, [.ref (N0), .ref (N0 + 5), .ref (N0 + 17), .ref (N0 + 29), .ref (N0 + 33), .ref (N0 + 37), .ref (N0 + 41), .ref (N0 + 45), .ref (N0 + 49), .int 0, .int 0, .ref (N0 + 114), .ref (N0 + 115), .ref (N0 + 116), .null, .null])) :: (s8b E N0 ++ m8 E N0 (k + 1) k (mS8 E N0 k ++ nW5 E (N0 + 117 + 8 * k) (N0 + 117 + 8 * k + 1)))
theorem w8b_len (E : ab_E) (a N0 k : Nat) : (w8b E a N0 k).length = 118 + 8 * k := by
  unfold w8b m8
  rw [List.length_cons, List.length_append, s8b_len, List.length_cons, List.length_cons, List.length_cons, mS8_len]
  omega
theorem w8c_len (E : ab_E) (a N0 k : Nat) : (w8c E a N0 k).length = 122 + 8 * k := by
  unfold w8c m8
  rw [List.length_cons, List.length_append, s8b_len, List.length_cons, List.length_cons, List.length_cons, List.length_append, mS8_len]
  show 114 + (8 * k + 4 + 1 + 1 + 1) + 1 = _
  omega
def nW8 (E : ab_E) (a N0 : Nat) : va_W := (a, .inr (8, [.ref (N0), .ref (N0 + 5), .ref (N0 + 17), .ref (N0 + 29), .ref (N0 + 33), .ref (N0 + 37), .ref (N0 + 41), .ref (N0 + 45), .ref (N0 + 49), .int 0, .int 0, .ref (N0 + 114), .ref (N0 + 115), .ref (N0 + 116), .ref (N0 + 149), .ref (N0 + 153)])) :: (s8b E N0 ++ m8 E N0 4 4 (mS8 E N0 4 ++ (nW3 E (N0 + 149) (N0 + 149 + 1) ++ nW0 E (N0 + 153) (N0 + 153 + 1))))
theorem nf8 : ∀ j, j < (ab_fs 8).length → defaultValue (ab_tt 8 j) = vp_V ([.null, .null, .null, .null, .null, .null, .null, .null, .null, .int 0, .int 0, .null, .null, .null, .null, .null] : List Value) j := fun j hj => match j, hj with
  | 0, _ => rfl
  | 1, _ => rfl
  | 2, _ => rfl
  | 3, _ => rfl
  | 4, _ => rfl
  | 5, _ => rfl
  | 6, _ => rfl
  | 7, _ => rfl
  | 8, _ => rfl
  | 9, _ => rfl
  | 10, _ => rfl
  | 11, _ => rfl
  | 12, _ => rfl
  | 13, _ => rfl
  | 14, _ => rfl
  | 15, _ => rfl
  | n + 16, h => absurd h (by show ¬ (n + 16 < 16); omega)
theorem nl8e {E : ab_E} {a N0 : Nat} {L : List (Nat × Value)} (hL : L = [(1, .int (nI 4)), (0, .ref a)]) : mg_G XX8 8 cX9_init { frames := 3, cells := 156, slots := 9852, locals := 140 } 2 E a N0 (N0 + 156) 156 9852 (nW8 E a N0) 206 L [] (w8b E a N0 4) (N0 + 149) 149 8028 := by
  subst hL
  refine mg_al0 (pc2 := 207) (x := a) (by decide +kernel) rfl 1 rfl ?_
  refine mg_new (ci := 3) (fs := [.null, .null, .null, .int 0]) (idx := 68) (pc2 := 210) (by decide +kernel) (by decide) (by decide +kernel) (by decide +kernel) (by decide +kernel) nf3 ⟨Nat.le_of_ble_eq_true rfl, Nat.le_of_ble_eq_true rfl⟩ rfl ?_
  refine mg_dup (pc2 := 211) (by decide +kernel) rfl rfl ?_
  refine mg_call (k' := 3) (idx := 70) (pc2 := 214) nC3 (by decide +kernel) (by decide +kernel) (by decide +kernel) rfl ⟨by decide, by decide⟩ (by decide +kernel) (Or.inr (by unfold ab_ln'; decide +kernel)) (by decide +kernel) (Nat.le_of_ble_eq_true rfl) ⟨by decide, by decide⟩ ⟨Nat.le_of_ble_eq_true rfl, Nat.le_of_ble_eq_true rfl⟩ rfl ?_
  refine mg_put (idx := 71) (pc2 := 217) (by decide +kernel) (by decide) 0 rfl 14 (by decide) (by decide +kernel) rfl rfl rfl rfl (by show 14 < 16; decide) rfl ?_
  refine mg_eq (ws' := (a, .inr (8, [.ref (N0), .ref (N0 + 5), .ref (N0 + 17), .ref (N0 + 29), .ref (N0 + 33), .ref (N0 + 37), .ref (N0 + 41), .ref (N0 + 45), .ref (N0 + 49), .int 0, .int 0, .ref (N0 + 114), .ref (N0 + 115), .ref (N0 + 116), .ref (N0 + 149), .null])) :: (s8b E N0 ++ m8 E N0 4 4 (mS8 E N0 4 ++ nW3 E (N0 + 149) (N0 + 149 + 1)))) (n' := N0 + 153) (cells' := 153) (slots' := 8050) (by unfold w8b m8; simp only [List.cons_append, List.append_assoc, List.set_cons_zero]; rfl) rfl rfl rfl ?_
  refine mg_al0 (pc2 := 218) (x := a) (by decide +kernel) rfl 1 rfl ?_
  refine mg_new (ci := 0) (fs := [.int 0, .int 0, .null, .null]) (idx := 75) (pc2 := 221) (by decide +kernel) (by decide) (by decide +kernel) (by decide +kernel) (by decide +kernel) nf0 ⟨Nat.le_of_ble_eq_true rfl, Nat.le_of_ble_eq_true rfl⟩ rfl ?_
  refine mg_dup (pc2 := 222) (by decide +kernel) rfl rfl ?_
  refine mg_call (k' := 2) (idx := 77) (pc2 := 225) nC0 (by decide +kernel) (by decide +kernel) (by decide +kernel) rfl ⟨by decide, by decide⟩ (by decide +kernel) (Or.inr (by unfold ab_ln'; decide +kernel)) (by decide +kernel) (Nat.le_of_ble_eq_true rfl) ⟨by decide, by decide⟩ ⟨Nat.le_of_ble_eq_true rfl, Nat.le_of_ble_eq_true rfl⟩ rfl ?_
  refine mg_put (idx := 78) (pc2 := 228) (by decide +kernel) (by decide) 0 rfl 15 (by decide) (by decide +kernel) rfl rfl rfl rfl (by show 15 < 16; decide) rfl ?_
  exact mg_vret (st := []) (by decide +kernel) rfl rfl rfl (by unfold nW8 m8; simp only [List.cons_append, List.append_assoc, List.set_cons_zero]; rfl)
theorem nl8b {E : ab_E} {a N0 : Nat} : ∀ d k, k + d = 4 → mg_G XX8 8 cX9_init { frames := 3, cells := 156, slots := 9852, locals := 140 } 2 E a N0 (N0 + 156) 156 9852 (nW8 E a N0) 156 [(1, .int (nI k)), (0, .ref a)] [] (w8b E a N0 k) (N0 + 117 + 8 * k) (117 + 8 * k) (7816 + 53 * k) := by
  intro d
  induction d with
  | zero =>
    intro k hk
    have ek : k = 4 := by omega
    subst ek
    refine mg_il1 (pc2 := 157) (by decide +kernel) rfl 0 rfl ?_
    refine mg_al0 (pc2 := 158) (x := a) (by decide +kernel) rfl 1 rfl ?_
    refine mg_get (idx := 57) (pc2 := 161) (by decide +kernel) (by decide) 0 rfl 11 (by decide) (by decide +kernel) rfl rfl rfl ?_
    refine mg_alen (e := 4) (v := 4) (pc2 := 162) (by decide +kernel) rfl 115 (gx_get (n := 114) (s8b_len E N0)) (by decide) rfl ?_
    refine mg_ige1 (tgt := 206) (off := 44) (by decide +kernel) (by decide) (by decide +kernel) ?_
    exact nl8e rfl
  | succ d ih =>
    intro k hk
    have hk4 : k < 4 := by omega
    refine mg_il1 (pc2 := 157) (by decide +kernel) rfl 0 rfl ?_
    refine mg_al0 (pc2 := 158) (x := a) (by decide +kernel) rfl 1 rfl ?_
    refine mg_get (idx := 57) (pc2 := 161) (by decide +kernel) (by decide) 0 rfl 11 (by decide) (by decide +kernel) rfl rfl rfl ?_
    refine mg_alen (e := 4) (v := 4) (pc2 := 162) (by decide +kernel) rfl 115 (gx_get (n := 114) (s8b_len E N0)) (by decide) rfl ?_
    refine mg_ige0 (tgt := 206) (off := 44) (pc2 := 165) (by decide +kernel) (by decide) (show nI k < nI 4 from (nI_ltI (by omega) (by decide)).mpr (by omega)) rfl ?_
    refine mg_il1 (pc2 := 166) (by decide +kernel) rfl 0 rfl ?_
    refine mg_al0 (pc2 := 167) (x := a) (by decide +kernel) rfl 1 rfl ?_
    refine mg_get (idx := 60) (pc2 := 170) (by decide +kernel) (by decide) 0 rfl 12 (by decide) (by decide +kernel) rfl rfl rfl ?_
    refine mg_alen (e := 5) (v := 4) (pc2 := 171) (by decide +kernel) rfl 116 (gx_get2 (n := 114) (s8b_len E N0)) (by decide) rfl ?_
    refine mg_ige0 (tgt := 206) (off := 35) (pc2 := 174) (by decide +kernel) (by decide) (show nI k < nI 4 from (nI_ltI (by omega) (by decide)).mpr (by omega)) rfl ?_
    refine mg_al0 (pc2 := 175) (x := a) (by decide +kernel) rfl 1 rfl ?_
    refine mg_get (idx := 57) (pc2 := 178) (by decide +kernel) (by decide) 0 rfl 11 (by decide) (by decide +kernel) rfl rfl rfl ?_
    refine mg_il1 (pc2 := 179) (by decide +kernel) rfl 0 rfl ?_
    refine mg_new (ci := 5) (fs := [.null, .null, .null, .long 0, .int 0]) (idx := 36) (pc2 := 182) (by decide +kernel) (by decide) (by decide +kernel) (by decide +kernel) (by decide +kernel) nf5 ⟨by show 117 + 8 * k + 1 ≤ 156; omega, by show 7816 + 53 * k + 5 ≤ 9852; omega⟩ rfl ?_
    refine mg_dup (pc2 := 183) (by decide +kernel) rfl rfl ?_
    refine mg_call (k' := 3) (idx := 38) (pc2 := 186) nC5 (by decide +kernel) (by decide +kernel) (by decide +kernel) rfl ⟨by decide, by decide⟩ (by decide +kernel) (Or.inr (by unfold ab_ln'; decide +kernel)) (by decide +kernel) (Nat.le_of_ble_eq_true rfl) ⟨by decide, by decide⟩ ⟨by show 117 + 8 * k + 1 + 3 ≤ 156; omega, by show 7816 + 53 * k + 5 + 20 ≤ 9852; omega⟩ rfl ?_
    refine mg_ast (qe := 4) (ci := 5) (r := ("SoulRaffle$Standing", ab_TT 5, 5)) (vs := [.ref (N0 + 117 + 8 * k + 1), .ref (N0 + 117 + 8 * k + 1 + 1), .ref (N0 + 117 + 8 * k + 1 + 2), .long 0, .int 0]) (pc2 := 187) (by decide +kernel) rfl (by decide) rfl 115 (gx_getA (n := 114) (s8b_len E N0)) (w8b E a N0 k).length gx_last rfl (vp_in_nI hk4 (by decide)) ?_
    refine mg_eq (ws' := w8c E a N0 k) (n' := N0 + 121 + 8 * k) (cells' := 117 + 8 * k + 4) (slots' := 7816 + 53 * k + 25) (by rw [qfn_up (show k < 100 by omega)]; exact gx_setA (n := 114) (s8b_len E N0)) (by show N0 + 117 + 8 * k + 1 + 3 = _; omega) (by show 117 + 8 * k + 1 + 3 = _; omega) (by show 7816 + 53 * k + 5 + 20 = _; omega) ?_
    refine mg_al0 (pc2 := 188) (x := a) (by decide +kernel) rfl 1 rfl ?_
    refine mg_get (idx := 60) (pc2 := 191) (by decide +kernel) (by decide) 0 rfl 12 (by decide) (by decide +kernel) rfl rfl rfl ?_
    refine mg_il1 (pc2 := 192) (by decide +kernel) rfl 0 rfl ?_
    refine mg_new (ci := 4) (fs := [.null, .null, .null, .int 0]) (idx := 46) (pc2 := 195) (by decide +kernel) (by decide) (by decide +kernel) (by decide +kernel) (by decide +kernel) nf4 ⟨by show 117 + 8 * k + 4 + 1 ≤ 156; omega, by show 7816 + 53 * k + 25 + 4 ≤ 9852; omega⟩ rfl ?_
    refine mg_dup (pc2 := 196) (by decide +kernel) rfl rfl ?_
    refine mg_call (k' := 3) (idx := 48) (pc2 := 199) nC4 (by decide +kernel) (by decide +kernel) (by decide +kernel) rfl ⟨by decide, by decide⟩ (by decide +kernel) (Or.inr (by unfold ab_ln'; decide +kernel)) (by decide +kernel) (Nat.le_of_ble_eq_true rfl) ⟨by decide, by decide⟩ ⟨by show 117 + 8 * k + 4 + 1 + 3 ≤ 156; omega, by show 7816 + 53 * k + 25 + 4 + 24 ≤ 9852; omega⟩ rfl ?_
    refine mg_ast (qe := 5) (ci := 4) (r := ("SoulRaffle$Seen", ab_TT 4, 4)) (vs := [.ref (N0 + 121 + 8 * k + 1), .ref (N0 + 121 + 8 * k + 1 + 1), .ref (N0 + 121 + 8 * k + 1 + 2), .int 0]) (pc2 := 200) (by decide +kernel) rfl (by decide) rfl 116 (gx_getA2 (n := 114) (s8b_len E N0)) (w8c E a N0 k).length gx_last rfl (vp_in_nI hk4 (by decide)) ?_
    refine mg_inc (pc2 := 203) (v := nI (k + 1)) (L' := [(1, .int (nI (k + 1))), (0, .ref a)]) (by decide +kernel) rfl (by decide) 0 rfl (nI_1 k) rfl ?_
    refine mg_goto (off := -47) (tgt := 156) (by decide +kernel) (by decide) ?_
    refine mg_eq (ws' := w8b E a N0 (k + 1)) ?_ (by show N0 + 121 + 8 * k + 1 + 3 = _; omega) (by show 117 + 8 * k + 4 + 1 + 3 = _; omega) (by show 7816 + 53 * k + 25 + 4 + 24 = _; omega) (ih (k + 1) (by omega))
    rw [qfn_up (show k < 100 by omega)]
    refine (gx_setA2 (n := 114) (s8b_len E N0)).trans ?_
    show _ = (a, _) :: (s8b E N0 ++ m8 E N0 (k + 1) (k + 1) (mS8 E N0 k ++ (nW5 E (N0 + 117 + 8 * k) (N0 + 117 + 8 * k + 1) ++ nW4 E (N0 + 121 + 8 * k) (N0 + 121 + 8 * k + 1))))
    rw [← List.append_assoc (mS8 E N0 k)]
    rfl
theorem nl8m {E : ab_E} {a N0 : Nat} {L : List (Nat × Value)} (hL : L = [(1, .int (nI 16)), (0, .ref a)]) : mg_G XX8 8 cX9_init { frames := 3, cells := 156, slots := 9852, locals := 140 } 2 E a N0 (N0 + 156) 156 9852 (nW8 E a N0) 131 L [] (w8a E a N0 16) (N0 + 114) 114 7804 := by
  subst hL
  refine mg_al0 (pc2 := 132) (x := a) (by decide +kernel) rfl 1 rfl ?_
  refine mg_ic (v := 4) (x := 4) (pc2 := 133) (by decide +kernel) (by decide +kernel) rfl ?_
  refine mg_anew (C := "SoulRaffle$Standing") (q := 4) (idx := 36) (N' := 4) (pc2 := 136) (by decide +kernel) rfl (by decide) rfl (by decide +kernel) (fun _ h => h.1) (by decide +kernel) (by decide +kernel) (Nat.le_of_ble_eq_true rfl) ⟨Nat.le_of_ble_eq_true rfl, Nat.le_of_ble_eq_true rfl⟩ ?_
  refine mg_put (idx := 57) (pc2 := 139) (by decide +kernel) (by decide) 0 rfl 11 (by decide) (by decide +kernel) rfl rfl rfl rfl (by show 11 < 16; decide) rfl ?_
  refine mg_al0 (pc2 := 140) (x := a) (by decide +kernel) rfl 1 rfl ?_
  refine mg_ic (v := 4) (x := 4) (pc2 := 141) (by decide +kernel) (by decide +kernel) rfl ?_
  refine mg_anew (C := "SoulRaffle$Seen") (q := 5) (idx := 46) (N' := 4) (pc2 := 144) (by decide +kernel) rfl (by decide) rfl (by decide +kernel) (fun _ h => h.2) (by decide +kernel) (by decide +kernel) (Nat.le_of_ble_eq_true rfl) ⟨Nat.le_of_ble_eq_true rfl, Nat.le_of_ble_eq_true rfl⟩ ?_
  refine mg_put (idx := 60) (pc2 := 147) (by decide +kernel) (by decide) 0 rfl 12 (by decide) (by decide +kernel) rfl rfl rfl rfl (by show 12 < 16; decide) rfl ?_
  refine mg_al0 (pc2 := 148) (x := a) (by decide +kernel) rfl 1 rfl ?_
  refine mg_ic (v := 4) (x := 4) (pc2 := 149) (by decide +kernel) (by decide +kernel) rfl ?_
  refine mg_arr (N' := 4) (a0 := (4, .inl (fun _ => 0))) (pc2 := 151) (by decide +kernel) 3 (by decide) rfl (by decide +kernel) (nz3 4) (by decide +kernel) (by decide +kernel) (Nat.le_of_ble_eq_true rfl) ⟨Nat.le_of_ble_eq_true rfl, Nat.le_of_ble_eq_true rfl⟩ rfl ?_
  refine mg_put (idx := 64) (pc2 := 154) (by decide +kernel) (by decide) 0 rfl 13 (by decide) (by decide +kernel) rfl rfl rfl rfl (by show 13 < 16; decide) rfl ?_
  refine mg_ic (v := 0) (x := 0) (pc2 := 155) (by decide +kernel) (by decide +kernel) rfl ?_
  refine mg_is1 (pc2 := 156) (L' := [(1, .int (nI 0)), (0, .ref a)]) (by decide +kernel) rfl (by decide) rfl ?_
  refine mg_eq (ws' := w8b E a N0 0) (n' := N0 + 117 + 8 * 0) (cells' := 117 + 8 * 0) (slots' := 7816 + 53 * 0) ?_ rfl rfl rfl (nl8b 4 0 rfl)
  unfold w8a w8b m8 s8b
  rw [qfn_0, qfn_0]
  simp only [List.cons_append, List.append_assoc, List.set_cons_zero]
  rfl
theorem nl8a {E : ab_E} {a N0 : Nat} : ∀ d k, k + d = 16 → mg_G XX8 8 cX9_init { frames := 3, cells := 156, slots := 9852, locals := 140 } 2 E a N0 (N0 + 156) 156 9852 (nW8 E a N0) 103 [(1, .int (nI k)), (0, .ref a)] [] (w8a E a N0 k) (N0 + 50 + 4 * k) (50 + 4 * k) (7404 + 25 * k) := by
  intro d
  induction d with
  | zero =>
    intro k hk
    have ek : k = 16 := by omega
    subst ek
    refine mg_il1 (pc2 := 104) (by decide +kernel) rfl 0 rfl ?_
    refine mg_al0 (pc2 := 105) (x := a) (by decide +kernel) rfl 1 rfl ?_
    refine mg_get (idx := 53) (pc2 := 108) (by decide +kernel) (by decide) 0 rfl 8 (by decide) (by decide +kernel) rfl rfl rfl ?_
    refine mg_alen (e := 4) (v := 16) (pc2 := 109) (by decide +kernel) rfl 50 (gx_get (n := 49) (s8_len E N0)) (by decide) rfl ?_
    refine mg_ige1 (tgt := 131) (off := 22) (by decide +kernel) (by decide) (by decide +kernel) ?_
    exact nl8m rfl
  | succ d ih =>
    intro k hk
    have hk16 : k < 16 := by omega
    refine mg_il1 (pc2 := 104) (by decide +kernel) rfl 0 rfl ?_
    refine mg_al0 (pc2 := 105) (x := a) (by decide +kernel) rfl 1 rfl ?_
    refine mg_get (idx := 53) (pc2 := 108) (by decide +kernel) (by decide) 0 rfl 8 (by decide) (by decide +kernel) rfl rfl rfl ?_
    refine mg_alen (e := 4) (v := 16) (pc2 := 109) (by decide +kernel) rfl 50 (gx_get (n := 49) (s8_len E N0)) (by decide) rfl ?_
    refine mg_ige0 (tgt := 131) (off := 22) (pc2 := 112) (by decide +kernel) (by decide) (show nI k < nI 16 from (nI_ltI (by omega) (by decide)).mpr (by omega)) rfl ?_
    refine mg_al0 (pc2 := 113) (x := a) (by decide +kernel) rfl 1 rfl ?_
    refine mg_get (idx := 53) (pc2 := 116) (by decide +kernel) (by decide) 0 rfl 8 (by decide) (by decide +kernel) rfl rfl rfl ?_
    refine mg_il1 (pc2 := 117) (by decide +kernel) rfl 0 rfl ?_
    refine mg_new (ci := 5) (fs := [.null, .null, .null, .long 0, .int 0]) (idx := 36) (pc2 := 120) (by decide +kernel) (by decide) (by decide +kernel) (by decide +kernel) (by decide +kernel) nf5 ⟨by show 50 + 4 * k + 1 ≤ 156; omega, by show 7404 + 25 * k + 5 ≤ 9852; omega⟩ rfl ?_
    refine mg_dup (pc2 := 121) (by decide +kernel) rfl rfl ?_
    refine mg_call (k' := 3) (idx := 38) (pc2 := 124) nC5 (by decide +kernel) (by decide +kernel) (by decide +kernel) rfl ⟨by decide, by decide⟩ (by decide +kernel) (Or.inr (by unfold ab_ln'; decide +kernel)) (by decide +kernel) (Nat.le_of_ble_eq_true rfl) ⟨by decide, by decide⟩ ⟨by show 50 + 4 * k + 1 + 3 ≤ 156; omega, by show 7404 + 25 * k + 5 + 20 ≤ 9852; omega⟩ rfl ?_
    refine mg_ast (qe := 4) (ci := 5) (r := ("SoulRaffle$Standing", ab_TT 5, 5)) (vs := [.ref (N0 + 50 + 4 * k + 1), .ref (N0 + 50 + 4 * k + 1 + 1), .ref (N0 + 50 + 4 * k + 1 + 2), .long 0, .int 0]) (pc2 := 125) (by decide +kernel) rfl (by decide) rfl 50 (gx_getA (n := 49) (s8_len E N0)) (w8a E a N0 k).length gx_last rfl (vp_in_nI hk16 (by decide)) ?_
    refine mg_inc (pc2 := 128) (v := nI (k + 1)) (L' := [(1, .int (nI (k + 1))), (0, .ref a)]) (by decide +kernel) rfl (by decide) 0 rfl (nI_1 k) rfl ?_
    refine mg_goto (off := -25) (tgt := 103) (by decide +kernel) (by decide) ?_
    refine mg_eq (ws' := w8a E a N0 (k + 1)) ?_ (by show N0 + 50 + 4 * k + 1 + 3 = _; omega) (by show 50 + 4 * k + 1 + 3 = _; omega) (by show 7404 + 25 * k + 5 + 20 = _; omega) (ih (k + 1) (by omega))
    rw [qfn_up (show k < 100 by omega)]
    exact gx_setA (n := 49) (s8_len E N0)
theorem nC8 : mg_C (fun _ _ _ => XX8) yX9_init cX9_init 2 { frames := 3, cells := 156, slots := 9852, locals := 140 } 8 [.null, .null, .null, .null, .null, .null, .null, .null, .null, .int 0, .int 0, .null, .null, .null, .null, .null] 156 nW8 := by
  refine mg_entry (own := 8) (by decide +kernel) rfl rfl (by decide) (fun E a N0 hlt => ?_)
  refine mg_al0 (pc2 := 1) (x := a) (by decide +kernel) rfl 0 rfl ?_
  refine mg_obj (idx := 1) (pc2 := 4) (by decide +kernel) ⟨by decide +kernel, by decide +kernel, by decide +kernel⟩ ⟨by decide, by decide⟩ rfl ?_
  refine mg_al0 (pc2 := 5) (x := a) (by decide +kernel) rfl 0 rfl ?_
  refine mg_new (ci := 6) (fs := [.null, .int 0, .null, .null, .null, .int 0, .int 0, .int 0, .int 0, .long 0, .int 0]) (idx := 7) (pc2 := 8) (by decide +kernel) (by decide) (by decide +kernel) (by decide +kernel) (by decide +kernel) nf6 ⟨Nat.le_of_ble_eq_true rfl, Nat.le_of_ble_eq_true rfl⟩ rfl ?_
  refine mg_dup (pc2 := 9) (by decide +kernel) rfl rfl ?_
  refine mg_call (k' := 4) (idx := 9) (pc2 := 12) nC6 (by decide +kernel) (by decide +kernel) (by decide +kernel) rfl ⟨by decide, by decide⟩ (by decide +kernel) (Or.inr (by unfold ab_ln'; decide +kernel)) (by decide +kernel) (Nat.le_of_ble_eq_true rfl) ⟨by decide, by decide⟩ ⟨Nat.le_of_ble_eq_true rfl, Nat.le_of_ble_eq_true rfl⟩ rfl ?_
  refine mg_put (idx := 10) (pc2 := 15) (by decide +kernel) (by decide) 0 rfl 0 (by decide) (by decide +kernel) rfl rfl rfl rfl (by show 0 < 16; decide) rfl ?_
  refine mg_eq (ws' := (a, .inr (8, [.ref (N0), .null, .null, .null, .null, .null, .null, .null, .null, .int 0, .int 0, .null, .null, .null, .null, .null])) :: s8_1 E N0) (n' := N0 + 5) (cells' := 5) (slots' := 4014) gx_put rfl rfl rfl ?_
  refine mg_al0 (pc2 := 16) (x := a) (by decide +kernel) rfl 0 rfl ?_
  refine mg_new (ci := 2) (fs := [.int 0, .int 0, .null, .null, .null, .null, .null, .null, .null, .int 0, .int 0, .int 0, .null, .null]) (idx := 16) (pc2 := 19) (by decide +kernel) (by decide) (by decide +kernel) (by decide +kernel) (by decide +kernel) nf2 ⟨Nat.le_of_ble_eq_true rfl, Nat.le_of_ble_eq_true rfl⟩ rfl ?_
  refine mg_dup (pc2 := 20) (by decide +kernel) rfl rfl ?_
  refine mg_call (k' := 11) (idx := 18) (pc2 := 23) nC2 (by decide +kernel) (by decide +kernel) (by decide +kernel) rfl ⟨by decide, by decide⟩ (by decide +kernel) (Or.inr (by unfold ab_ln'; decide +kernel)) (by decide +kernel) (Nat.le_of_ble_eq_true rfl) ⟨by decide, by decide⟩ ⟨Nat.le_of_ble_eq_true rfl, Nat.le_of_ble_eq_true rfl⟩ rfl ?_
  refine mg_putN (idx := 19) (pc2 := 26) (by decide +kernel) (by decide) 0 rfl 1 (by decide) (by decide +kernel) rfl rfl rfl rfl (by show 1 < 16; decide) rfl ?_
  refine mg_eq (ws' := (a, .inr (8, [.ref (N0), .ref (N0 + 5), .null, .null, .null, .null, .null, .null, .null, .int 0, .int 0, .null, .null, .null, .null, .null])) :: s8_2 E N0) (n' := N0 + 17) (cells' := 17) (slots' := 5538) gx_put rfl rfl rfl ?_
  refine mg_al0 (pc2 := 27) (x := a) (by decide +kernel) rfl 0 rfl ?_
  refine mg_new (ci := 2) (fs := [.int 0, .int 0, .null, .null, .null, .null, .null, .null, .null, .int 0, .int 0, .int 0, .null, .null]) (idx := 16) (pc2 := 30) (by decide +kernel) (by decide) (by decide +kernel) (by decide +kernel) (by decide +kernel) nf2 ⟨Nat.le_of_ble_eq_true rfl, Nat.le_of_ble_eq_true rfl⟩ rfl ?_
  refine mg_dup (pc2 := 31) (by decide +kernel) rfl rfl ?_
  refine mg_call (k' := 11) (idx := 18) (pc2 := 34) nC2 (by decide +kernel) (by decide +kernel) (by decide +kernel) rfl ⟨by decide, by decide⟩ (by decide +kernel) (Or.inr (by unfold ab_ln'; decide +kernel)) (by decide +kernel) (Nat.le_of_ble_eq_true rfl) ⟨by decide, by decide⟩ ⟨Nat.le_of_ble_eq_true rfl, Nat.le_of_ble_eq_true rfl⟩ rfl ?_
  refine mg_putN (idx := 23) (pc2 := 37) (by decide +kernel) (by decide) 0 rfl 2 (by decide) (by decide +kernel) rfl rfl rfl rfl (by show 2 < 16; decide) rfl ?_
  refine mg_eq (ws' := (a, .inr (8, [.ref (N0), .ref (N0 + 5), .ref (N0 + 17), .null, .null, .null, .null, .null, .null, .int 0, .int 0, .null, .null, .null, .null, .null])) :: s8_3 E N0) (n' := N0 + 29) (cells' := 29) (slots' := 7062) gx_put rfl rfl rfl ?_
  refine mg_al0 (pc2 := 38) (x := a) (by decide +kernel) rfl 0 rfl ?_
  refine mg_new (ci := 7) (fs := [.int 0, .null, .null, .null]) (idx := 26) (pc2 := 41) (by decide +kernel) (by decide) (by decide +kernel) (by decide +kernel) (by decide +kernel) nf7 ⟨Nat.le_of_ble_eq_true rfl, Nat.le_of_ble_eq_true rfl⟩ rfl ?_
  refine mg_dup (pc2 := 42) (by decide +kernel) rfl rfl ?_
  refine mg_call (k' := 3) (idx := 28) (pc2 := 45) nC7 (by decide +kernel) (by decide +kernel) (by decide +kernel) rfl ⟨by decide, by decide⟩ (by decide +kernel) (Or.inr (by unfold ab_ln'; decide +kernel)) (by decide +kernel) (Nat.le_of_ble_eq_true rfl) ⟨by decide, by decide⟩ ⟨Nat.le_of_ble_eq_true rfl, Nat.le_of_ble_eq_true rfl⟩ rfl ?_
  refine mg_putN (idx := 29) (pc2 := 48) (by decide +kernel) (by decide) 0 rfl 3 (by decide) (by decide +kernel) rfl rfl rfl rfl (by show 3 < 16; decide) rfl ?_
  refine mg_eq (ws' := (a, .inr (8, [.ref (N0), .ref (N0 + 5), .ref (N0 + 17), .ref (N0 + 29), .null, .null, .null, .null, .null, .int 0, .int 0, .null, .null, .null, .null, .null])) :: s8_4 E N0) (n' := N0 + 33) (cells' := 33) (slots' := 7186) gx_put rfl rfl rfl ?_
  refine mg_al0 (pc2 := 49) (x := a) (by decide +kernel) rfl 0 rfl ?_
  refine mg_new (ci := 7) (fs := [.int 0, .null, .null, .null]) (idx := 26) (pc2 := 52) (by decide +kernel) (by decide) (by decide +kernel) (by decide +kernel) (by decide +kernel) nf7 ⟨Nat.le_of_ble_eq_true rfl, Nat.le_of_ble_eq_true rfl⟩ rfl ?_
  refine mg_dup (pc2 := 53) (by decide +kernel) rfl rfl ?_
  refine mg_call (k' := 3) (idx := 28) (pc2 := 56) nC7 (by decide +kernel) (by decide +kernel) (by decide +kernel) rfl ⟨by decide, by decide⟩ (by decide +kernel) (Or.inr (by unfold ab_ln'; decide +kernel)) (by decide +kernel) (Nat.le_of_ble_eq_true rfl) ⟨by decide, by decide⟩ ⟨Nat.le_of_ble_eq_true rfl, Nat.le_of_ble_eq_true rfl⟩ rfl ?_
  refine mg_putN (idx := 33) (pc2 := 59) (by decide +kernel) (by decide) 0 rfl 4 (by decide) (by decide +kernel) rfl rfl rfl rfl (by show 4 < 16; decide) rfl ?_
  refine mg_eq (ws' := (a, .inr (8, [.ref (N0), .ref (N0 + 5), .ref (N0 + 17), .ref (N0 + 29), .ref (N0 + 33), .null, .null, .null, .null, .int 0, .int 0, .null, .null, .null, .null, .null])) :: s8_5 E N0) (n' := N0 + 37) (cells' := 37) (slots' := 7310) gx_put rfl rfl rfl ?_
  refine mg_al0 (pc2 := 60) (x := a) (by decide +kernel) rfl 0 rfl ?_
  refine mg_new (ci := 5) (fs := [.null, .null, .null, .long 0, .int 0]) (idx := 36) (pc2 := 63) (by decide +kernel) (by decide) (by decide +kernel) (by decide +kernel) (by decide +kernel) nf5 ⟨Nat.le_of_ble_eq_true rfl, Nat.le_of_ble_eq_true rfl⟩ rfl ?_
  refine mg_dup (pc2 := 64) (by decide +kernel) rfl rfl ?_
  refine mg_call (k' := 3) (idx := 38) (pc2 := 67) nC5 (by decide +kernel) (by decide +kernel) (by decide +kernel) rfl ⟨by decide, by decide⟩ (by decide +kernel) (Or.inr (by unfold ab_ln'; decide +kernel)) (by decide +kernel) (Nat.le_of_ble_eq_true rfl) ⟨by decide, by decide⟩ ⟨Nat.le_of_ble_eq_true rfl, Nat.le_of_ble_eq_true rfl⟩ rfl ?_
  refine mg_put (idx := 39) (pc2 := 70) (by decide +kernel) (by decide) 0 rfl 5 (by decide) (by decide +kernel) rfl rfl rfl rfl (by show 5 < 16; decide) rfl ?_
  refine mg_eq (ws' := (a, .inr (8, [.ref (N0), .ref (N0 + 5), .ref (N0 + 17), .ref (N0 + 29), .ref (N0 + 33), .ref (N0 + 37), .null, .null, .null, .int 0, .int 0, .null, .null, .null, .null, .null])) :: s8_6 E N0) (n' := N0 + 41) (cells' := 41) (slots' := 7335) gx_put rfl rfl rfl ?_
  refine mg_al0 (pc2 := 71) (x := a) (by decide +kernel) rfl 0 rfl ?_
  refine mg_new (ci := 5) (fs := [.null, .null, .null, .long 0, .int 0]) (idx := 36) (pc2 := 74) (by decide +kernel) (by decide) (by decide +kernel) (by decide +kernel) (by decide +kernel) nf5 ⟨Nat.le_of_ble_eq_true rfl, Nat.le_of_ble_eq_true rfl⟩ rfl ?_
  refine mg_dup (pc2 := 75) (by decide +kernel) rfl rfl ?_
  refine mg_call (k' := 3) (idx := 38) (pc2 := 78) nC5 (by decide +kernel) (by decide +kernel) (by decide +kernel) rfl ⟨by decide, by decide⟩ (by decide +kernel) (Or.inr (by unfold ab_ln'; decide +kernel)) (by decide +kernel) (Nat.le_of_ble_eq_true rfl) ⟨by decide, by decide⟩ ⟨Nat.le_of_ble_eq_true rfl, Nat.le_of_ble_eq_true rfl⟩ rfl ?_
  refine mg_put (idx := 43) (pc2 := 81) (by decide +kernel) (by decide) 0 rfl 6 (by decide) (by decide +kernel) rfl rfl rfl rfl (by show 6 < 16; decide) rfl ?_
  refine mg_eq (ws' := (a, .inr (8, [.ref (N0), .ref (N0 + 5), .ref (N0 + 17), .ref (N0 + 29), .ref (N0 + 33), .ref (N0 + 37), .ref (N0 + 41), .null, .null, .int 0, .int 0, .null, .null, .null, .null, .null])) :: s8_7 E N0) (n' := N0 + 45) (cells' := 45) (slots' := 7360) gx_put rfl rfl rfl ?_
  refine mg_al0 (pc2 := 82) (x := a) (by decide +kernel) rfl 0 rfl ?_
  refine mg_new (ci := 4) (fs := [.null, .null, .null, .int 0]) (idx := 46) (pc2 := 85) (by decide +kernel) (by decide) (by decide +kernel) (by decide +kernel) (by decide +kernel) nf4 ⟨Nat.le_of_ble_eq_true rfl, Nat.le_of_ble_eq_true rfl⟩ rfl ?_
  refine mg_dup (pc2 := 86) (by decide +kernel) rfl rfl ?_
  refine mg_call (k' := 3) (idx := 48) (pc2 := 89) nC4 (by decide +kernel) (by decide +kernel) (by decide +kernel) rfl ⟨by decide, by decide⟩ (by decide +kernel) (Or.inr (by unfold ab_ln'; decide +kernel)) (by decide +kernel) (Nat.le_of_ble_eq_true rfl) ⟨by decide, by decide⟩ ⟨Nat.le_of_ble_eq_true rfl, Nat.le_of_ble_eq_true rfl⟩ rfl ?_
  refine mg_put (idx := 49) (pc2 := 92) (by decide +kernel) (by decide) 0 rfl 7 (by decide) (by decide +kernel) rfl rfl rfl rfl (by show 7 < 16; decide) rfl ?_
  refine mg_eq (ws' := (a, .inr (8, [.ref (N0), .ref (N0 + 5), .ref (N0 + 17), .ref (N0 + 29), .ref (N0 + 33), .ref (N0 + 37), .ref (N0 + 41), .ref (N0 + 45), .null, .int 0, .int 0, .null, .null, .null, .null, .null])) :: s8_8 E N0) (n' := N0 + 49) (cells' := 49) (slots' := 7388) gx_put rfl rfl rfl ?_
  refine mg_al0 (pc2 := 93) (x := a) (by decide +kernel) rfl 0 rfl ?_
  refine mg_bi (w := 16) (x := 16) (pc2 := 95) (by decide +kernel) (by decide +kernel) rfl ?_
  refine mg_anew (C := "SoulRaffle$Standing") (q := 4) (idx := 36) (N' := 16) (pc2 := 98) (by decide +kernel) rfl (by decide) rfl (by decide +kernel) (fun _ h => h.1) (by decide +kernel) (by decide +kernel) (Nat.le_of_ble_eq_true rfl) ⟨Nat.le_of_ble_eq_true rfl, Nat.le_of_ble_eq_true rfl⟩ ?_
  refine mg_put (idx := 53) (pc2 := 101) (by decide +kernel) (by decide) 0 rfl 8 (by decide) (by decide +kernel) rfl rfl rfl rfl (by show 8 < 16; decide) rfl ?_
  refine mg_ic (v := 0) (x := 0) (pc2 := 102) (by decide +kernel) (by decide +kernel) rfl ?_
  refine mg_is1 (pc2 := 103) (L' := [(1, .int (nI 0)), (0, .ref a)]) (by decide +kernel) rfl (by decide) rfl ?_
  refine mg_eq (ws' := w8a E a N0 0) (n' := N0 + 50 + 4 * 0) (cells' := 50 + 4 * 0) (slots' := 7404 + 25 * 0) ?_ rfl rfl rfl (nl8a 16 0 rfl)
  unfold w8a
  rw [qfn_0]
  simp only [List.cons_append, List.append_assoc, List.set_cons_zero]
  rfl
