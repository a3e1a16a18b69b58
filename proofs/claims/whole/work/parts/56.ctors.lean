/-! constructors (wip/gen/ctor.py) -/
theorem nz0 (n : Nat) : ∀ cA : ClassId, vp_cell cA (n, .inl (fun _ => 0)) = arrV cA n (fun _ => defaultValue (newarray.typeOf .int)) := fun _ => rfl
theorem nz1 (n : Nat) : ∀ cA : ClassId, vp_cell cA (n, .inr (.inl (fun _ => 0))) = arrV cA n (fun _ => defaultValue (newarray.typeOf .long)) := fun _ => rfl
theorem nz2 (n : Nat) : ∀ cA : ClassId, vp_cell cA (n, .inl (fun _ => 0)) = arrV cA n (fun _ => defaultValue (newarray.typeOf .char)) := fun _ => rfl
theorem nz3 (n : Nat) : ∀ cA : ClassId, vp_cell cA (n, .inl (fun _ => 0)) = arrV cA n (fun _ => defaultValue (newarray.typeOf .boolean)) := fun _ => rfl
theorem nf1 : ∀ j, j < (ab_fs 1).length → defaultValue (ab_tt 1 j) = vp_V ([.null, .int 0, .null, .int 0] : List Value) j := fun j hj => match j, hj with
  | 0, _ => rfl
  | 1, _ => rfl
  | 2, _ => rfl
  | 3, _ => rfl
  | n + 4, h => absurd h (by show ¬ (n + 4 < 4); omega)
def nW1 (E : ab_E) (a N0 : Nat) : va_W := [(a, .inr (1, [.ref (N0), .int 0, .ref (N0 + 1), .int 0]))] ++ ([(N0, .inl (ab_cA E 0, (1000, .inl (fun _ => 0))))] ++ ([(N0 + 1, .inl (ab_cA E 0, (32, .inl (fun _ => 0))))]))
theorem nC1 : nw_C yX1_init cX1_init 1 { frames := 1, cells := 2, slots := 1032, locals := 40 } 1 [.null, .int 0, .null, .int 0] 2 nW1 := by
  refine nw_entry (own := 1) (by decide +kernel) rfl rfl (by decide) (fun E a N0 hlt => ?_)
  refine ng_al0 (pc2 := 1) (x := a) (by decide +kernel) rfl 0 rfl ?_
  refine ng_obj (idx := 3) (pc2 := 4) (by decide +kernel) ⟨by decide +kernel, by decide +kernel, by decide +kernel⟩ ⟨by decide, by decide⟩ rfl ?_
  refine ng_al0 (pc2 := 5) (x := a) (by decide +kernel) rfl 0 rfl ?_
  refine ng_si (w := 1000) (x := 1000) (pc2 := 8) (by decide +kernel) (by decide +kernel) rfl ?_
  refine ng_arr (N' := 1000) (a0 := (1000, .inl (fun _ => 0))) (pc2 := 10) (by decide +kernel) 0 (by decide) rfl (by decide +kernel) (nz0 1000) (by decide +kernel) (by decide +kernel) (Nat.le_of_ble_eq_true rfl) ⟨Nat.le_of_ble_eq_true rfl, Nat.le_of_ble_eq_true rfl⟩ rfl ?_
  refine ng_put (idx := 9) (pc2 := 13) (by decide +kernel) (by decide) 0 rfl 0 (by decide) (by decide +kernel) rfl rfl rfl rfl (by show 0 < 4; decide) rfl ?_
  refine ng_al0 (pc2 := 14) (x := a) (by decide +kernel) rfl 0 rfl ?_
  refine ng_bi (w := 32) (x := 32) (pc2 := 16) (by decide +kernel) (by decide +kernel) rfl ?_
  refine ng_arr (N' := 32) (a0 := (32, .inl (fun _ => 0))) (pc2 := 18) (by decide +kernel) 0 (by decide) rfl (by decide +kernel) (nz0 32) (by decide +kernel) (by decide +kernel) (Nat.le_of_ble_eq_true rfl) ⟨Nat.le_of_ble_eq_true rfl, Nat.le_of_ble_eq_true rfl⟩ rfl ?_
  refine ng_put (idx := 15) (pc2 := 21) (by decide +kernel) (by decide) 0 rfl 2 (by decide) (by decide +kernel) rfl rfl rfl rfl (by show 2 < 4; decide) rfl ?_
  exact ng_vret (by decide +kernel) rfl rfl rfl rfl
theorem nf6 : ∀ j, j < (ab_fs 6).length → defaultValue (ab_tt 6 j) = vp_V ([.null, .int 0, .null, .null, .null, .int 0, .int 0, .int 0, .int 0, .long 0, .int 0] : List Value) j := fun j hj => match j, hj with
  | 0, _ => rfl
  | 1, _ => rfl
  | 2, _ => rfl
  | 3, _ => rfl
  | 4, _ => rfl
  | 5, _ => rfl
  | 6, _ => rfl
  | 7, _ => rfl
  | 8, _ => rfl
  | 9, _ => rfl
  | 10, _ => rfl
  | n + 11, h => absurd h (by show ¬ (n + 11 < 11); omega)
def nW6 (E : ab_E) (a N0 : Nat) : va_W := [(a, .inr (6, [.ref (N0), .int 0, .ref (N0 + 1), .ref (N0 + 2), .ref (N0 + 3), .int 0, .int 0, .int 0, .int 0, .long 0, .int 0]))] ++ ([(N0, .inl (ab_cA E 2, (1000, .inl (fun _ => 0))))] ++ ([(N0 + 1, .inl (ab_cA E 0, (1001, .inl (fun _ => 0))))] ++ ([(N0 + 2, .inl (ab_cA E 0, (1001, .inl (fun _ => 0))))] ++ ([(N0 + 3, .inl (ab_cA E 1, (1001, .inr (.inl (fun _ => 0)))))]))))
theorem nC6 : nw_C yX6_init cX6_init 1 { frames := 1, cells := 4, slots := 4003, locals := 40 } 6 [.null, .int 0, .null, .null, .null, .int 0, .int 0, .int 0, .int 0, .long 0, .int 0] 4 nW6 := by
  refine nw_entry (own := 6) (by decide +kernel) rfl rfl (by decide) (fun E a N0 hlt => ?_)
  refine ng_al0 (pc2 := 1) (x := a) (by decide +kernel) rfl 0 rfl ?_
  refine ng_obj (idx := 3) (pc2 := 4) (by decide +kernel) ⟨by decide +kernel, by decide +kernel, by decide +kernel⟩ ⟨by decide, by decide⟩ rfl ?_
  refine ng_al0 (pc2 := 5) (x := a) (by decide +kernel) rfl 0 rfl ?_
  refine ng_si (w := 1000) (x := 1000) (pc2 := 8) (by decide +kernel) (by decide +kernel) rfl ?_
  refine ng_arr (N' := 1000) (a0 := (1000, .inl (fun _ => 0))) (pc2 := 10) (by decide +kernel) 2 (by decide) rfl (by decide +kernel) (nz2 1000) (by decide +kernel) (by decide +kernel) (Nat.le_of_ble_eq_true rfl) ⟨Nat.le_of_ble_eq_true rfl, Nat.le_of_ble_eq_true rfl⟩ rfl ?_
  refine ng_put (idx := 9) (pc2 := 13) (by decide +kernel) (by decide) 0 rfl 0 (by decide) (by decide +kernel) rfl rfl rfl rfl (by show 0 < 11; decide) rfl ?_
  refine ng_al0 (pc2 := 14) (x := a) (by decide +kernel) rfl 0 rfl ?_
  refine ng_si (w := 1001) (x := 1001) (pc2 := 17) (by decide +kernel) (by decide +kernel) rfl ?_
  refine ng_arr (N' := 1001) (a0 := (1001, .inl (fun _ => 0))) (pc2 := 19) (by decide +kernel) 0 (by decide) rfl (by decide +kernel) (nz0 1001) (by decide +kernel) (by decide +kernel) (Nat.le_of_ble_eq_true rfl) ⟨Nat.le_of_ble_eq_true rfl, Nat.le_of_ble_eq_true rfl⟩ rfl ?_
  refine ng_put (idx := 15) (pc2 := 22) (by decide +kernel) (by decide) 0 rfl 2 (by decide) (by decide +kernel) rfl rfl rfl rfl (by show 2 < 11; decide) rfl ?_
  refine ng_al0 (pc2 := 23) (x := a) (by decide +kernel) rfl 0 rfl ?_
  refine ng_si (w := 1001) (x := 1001) (pc2 := 26) (by decide +kernel) (by decide +kernel) rfl ?_
  refine ng_arr (N' := 1001) (a0 := (1001, .inl (fun _ => 0))) (pc2 := 28) (by decide +kernel) 0 (by decide) rfl (by decide +kernel) (nz0 1001) (by decide +kernel) (by decide +kernel) (Nat.le_of_ble_eq_true rfl) ⟨Nat.le_of_ble_eq_true rfl, Nat.le_of_ble_eq_true rfl⟩ rfl ?_
  refine ng_put (idx := 19) (pc2 := 31) (by decide +kernel) (by decide) 0 rfl 3 (by decide) (by decide +kernel) rfl rfl rfl rfl (by show 3 < 11; decide) rfl ?_
  refine ng_al0 (pc2 := 32) (x := a) (by decide +kernel) rfl 0 rfl ?_
  refine ng_si (w := 1001) (x := 1001) (pc2 := 35) (by decide +kernel) (by decide +kernel) rfl ?_
  refine ng_arr (N' := 1001) (a0 := (1001, .inr (.inl (fun _ => 0)))) (pc2 := 37) (by decide +kernel) 1 (by decide) rfl (by decide +kernel) (nz1 1001) (by decide +kernel) (by decide +kernel) (Nat.le_of_ble_eq_true rfl) ⟨Nat.le_of_ble_eq_true rfl, Nat.le_of_ble_eq_true rfl⟩ rfl ?_
  refine ng_put (idx := 22) (pc2 := 40) (by decide +kernel) (by decide) 0 rfl 4 (by decide) (by decide +kernel) rfl rfl rfl rfl (by show 4 < 11; decide) rfl ?_
  exact ng_vret (by decide +kernel) rfl rfl rfl rfl
theorem nf7 : ∀ j, j < (ab_fs 7).length → defaultValue (ab_tt 7 j) = vp_V ([.int 0, .null, .null, .null] : List Value) j := fun j hj => match j, hj with
  | 0, _ => rfl
  | 1, _ => rfl
  | 2, _ => rfl
  | 3, _ => rfl
  | n + 4, h => absurd h (by show ¬ (n + 4 < 4); omega)
def nW7 (E : ab_E) (a N0 : Nat) : va_W := [(a, .inr (7, [.int 0, .ref (N0), .ref (N0 + 1), .ref (N0 + 2)]))] ++ ([(N0, .inl (ab_cA E 0, (40, .inl (fun _ => 0))))] ++ ([(N0 + 1, .inl (ab_cA E 0, (40, .inl (fun _ => 0))))] ++ ([(N0 + 2, .inl (ab_cA E 0, (40, .inl (fun _ => 0))))])))
theorem nC7 : nw_C yX8_init cX8_init 1 { frames := 1, cells := 3, slots := 120, locals := 40 } 7 [.int 0, .null, .null, .null] 3 nW7 := by
  refine nw_entry (own := 7) (by decide +kernel) rfl rfl (by decide) (fun E a N0 hlt => ?_)
  refine ng_al0 (pc2 := 1) (x := a) (by decide +kernel) rfl 0 rfl ?_
  refine ng_obj (idx := 3) (pc2 := 4) (by decide +kernel) ⟨by decide +kernel, by decide +kernel, by decide +kernel⟩ ⟨by decide, by decide⟩ rfl ?_
  refine ng_al0 (pc2 := 5) (x := a) (by decide +kernel) rfl 0 rfl ?_
  refine ng_bi (w := 40) (x := 40) (pc2 := 7) (by decide +kernel) (by decide +kernel) rfl ?_
  refine ng_arr (N' := 40) (a0 := (40, .inl (fun _ => 0))) (pc2 := 9) (by decide +kernel) 0 (by decide) rfl (by decide +kernel) (nz0 40) (by decide +kernel) (by decide +kernel) (Nat.le_of_ble_eq_true rfl) ⟨Nat.le_of_ble_eq_true rfl, Nat.le_of_ble_eq_true rfl⟩ rfl ?_
  refine ng_put (idx := 9) (pc2 := 12) (by decide +kernel) (by decide) 0 rfl 1 (by decide) (by decide +kernel) rfl rfl rfl rfl (by show 1 < 4; decide) rfl ?_
  refine ng_al0 (pc2 := 13) (x := a) (by decide +kernel) rfl 0 rfl ?_
  refine ng_bi (w := 40) (x := 40) (pc2 := 15) (by decide +kernel) (by decide +kernel) rfl ?_
  refine ng_arr (N' := 40) (a0 := (40, .inl (fun _ => 0))) (pc2 := 17) (by decide +kernel) 0 (by decide) rfl (by decide +kernel) (nz0 40) (by decide +kernel) (by decide +kernel) (Nat.le_of_ble_eq_true rfl) ⟨Nat.le_of_ble_eq_true rfl, Nat.le_of_ble_eq_true rfl⟩ rfl ?_
  refine ng_put (idx := 15) (pc2 := 20) (by decide +kernel) (by decide) 0 rfl 2 (by decide) (by decide +kernel) rfl rfl rfl rfl (by show 2 < 4; decide) rfl ?_
  refine ng_al0 (pc2 := 21) (x := a) (by decide +kernel) rfl 0 rfl ?_
  refine ng_bi (w := 40) (x := 40) (pc2 := 23) (by decide +kernel) (by decide +kernel) rfl ?_
  refine ng_arr (N' := 40) (a0 := (40, .inl (fun _ => 0))) (pc2 := 25) (by decide +kernel) 0 (by decide) rfl (by decide +kernel) (nz0 40) (by decide +kernel) (by decide +kernel) (Nat.le_of_ble_eq_true rfl) ⟨Nat.le_of_ble_eq_true rfl, Nat.le_of_ble_eq_true rfl⟩ rfl ?_
  refine ng_put (idx := 18) (pc2 := 28) (by decide +kernel) (by decide) 0 rfl 3 (by decide) (by decide +kernel) rfl rfl rfl rfl (by show 3 < 4; decide) rfl ?_
  exact ng_vret (by decide +kernel) rfl rfl rfl rfl
theorem nf3 : ∀ j, j < (ab_fs 3).length → defaultValue (ab_tt 3 j) = vp_V ([.null, .null, .null, .int 0] : List Value) j := fun j hj => match j, hj with
  | 0, _ => rfl
  | 1, _ => rfl
  | 2, _ => rfl
  | 3, _ => rfl
  | n + 4, h => absurd h (by show ¬ (n + 4 < 4); omega)
def nW3 (E : ab_E) (a N0 : Nat) : va_W := [(a, .inr (3, [.ref (N0), .ref (N0 + 1), .ref (N0 + 2), .int 0]))] ++ ([(N0, .inl (ab_cA E 0, (6, .inl (fun _ => 0))))] ++ ([(N0 + 1, .inl (ab_cA E 0, (6, .inl (fun _ => 0))))] ++ ([(N0 + 2, .inl (ab_cA E 0, (6, .inl (fun _ => 0))))])))
theorem nC3 : nw_C yX3_init cX3_init 1 { frames := 1, cells := 3, slots := 18, locals := 40 } 3 [.null, .null, .null, .int 0] 3 nW3 := by
  refine nw_entry (own := 3) (by decide +kernel) rfl rfl (by decide) (fun E a N0 hlt => ?_)
  refine ng_al0 (pc2 := 1) (x := a) (by decide +kernel) rfl 0 rfl ?_
  refine ng_obj (idx := 3) (pc2 := 4) (by decide +kernel) ⟨by decide +kernel, by decide +kernel, by decide +kernel⟩ ⟨by decide, by decide⟩ rfl ?_
  refine ng_al0 (pc2 := 5) (x := a) (by decide +kernel) rfl 0 rfl ?_
  refine ng_bi (w := 6) (x := 6) (pc2 := 7) (by decide +kernel) (by decide +kernel) rfl ?_
  refine ng_arr (N' := 6) (a0 := (6, .inl (fun _ => 0))) (pc2 := 9) (by decide +kernel) 0 (by decide) rfl (by decide +kernel) (nz0 6) (by decide +kernel) (by decide +kernel) (Nat.le_of_ble_eq_true rfl) ⟨Nat.le_of_ble_eq_true rfl, Nat.le_of_ble_eq_true rfl⟩ rfl ?_
  refine ng_put (idx := 9) (pc2 := 12) (by decide +kernel) (by decide) 0 rfl 0 (by decide) (by decide +kernel) rfl rfl rfl rfl (by show 0 < 4; decide) rfl ?_
  refine ng_al0 (pc2 := 13) (x := a) (by decide +kernel) rfl 0 rfl ?_
  refine ng_bi (w := 6) (x := 6) (pc2 := 15) (by decide +kernel) (by decide +kernel) rfl ?_
  refine ng_arr (N' := 6) (a0 := (6, .inl (fun _ => 0))) (pc2 := 17) (by decide +kernel) 0 (by decide) rfl (by decide +kernel) (nz0 6) (by decide +kernel) (by decide +kernel) (Nat.le_of_ble_eq_true rfl) ⟨Nat.le_of_ble_eq_true rfl, Nat.le_of_ble_eq_true rfl⟩ rfl ?_
  refine ng_put (idx := 15) (pc2 := 20) (by decide +kernel) (by decide) 0 rfl 1 (by decide) (by decide +kernel) rfl rfl rfl rfl (by show 1 < 4; decide) rfl ?_
  refine ng_al0 (pc2 := 21) (x := a) (by decide +kernel) rfl 0 rfl ?_
  refine ng_bi (w := 6) (x := 6) (pc2 := 23) (by decide +kernel) (by decide +kernel) rfl ?_
  refine ng_arr (N' := 6) (a0 := (6, .inl (fun _ => 0))) (pc2 := 25) (by decide +kernel) 0 (by decide) rfl (by decide +kernel) (nz0 6) (by decide +kernel) (by decide +kernel) (Nat.le_of_ble_eq_true rfl) ⟨Nat.le_of_ble_eq_true rfl, Nat.le_of_ble_eq_true rfl⟩ rfl ?_
  refine ng_put (idx := 18) (pc2 := 28) (by decide +kernel) (by decide) 0 rfl 2 (by decide) (by decide +kernel) rfl rfl rfl rfl (by show 2 < 4; decide) rfl ?_
  exact ng_vret (by decide +kernel) rfl rfl rfl rfl
theorem nf0 : ∀ j, j < (ab_fs 0).length → defaultValue (ab_tt 0 j) = vp_V ([.int 0, .int 0, .null, .null] : List Value) j := fun j hj => match j, hj with
  | 0, _ => rfl
  | 1, _ => rfl
  | 2, _ => rfl
  | 3, _ => rfl
  | n + 4, h => absurd h (by show ¬ (n + 4 < 4); omega)
def nW0 (E : ab_E) (a N0 : Nat) : va_W := [(a, .inr (0, [.int 0, .int 0, .ref (N0), .ref (N0 + 1)]))] ++ ([(N0, .inl (ab_cA E 0, (6, .inl (fun _ => 0))))] ++ ([(N0 + 1, .inl (ab_cA E 0, (1792, .inl (fun _ => 0))))]))
theorem nC0 : nw_C yX0_init cX0_init 1 { frames := 1, cells := 2, slots := 1798, locals := 40 } 0 [.int 0, .int 0, .null, .null] 2 nW0 := by
  refine nw_entry (own := 0) (by decide +kernel) rfl rfl (by decide) (fun E a N0 hlt => ?_)
  refine ng_al0 (pc2 := 1) (x := a) (by decide +kernel) rfl 0 rfl ?_
  refine ng_obj (idx := 3) (pc2 := 4) (by decide +kernel) ⟨by decide +kernel, by decide +kernel, by decide +kernel⟩ ⟨by decide, by decide⟩ rfl ?_
  refine ng_al0 (pc2 := 5) (x := a) (by decide +kernel) rfl 0 rfl ?_
  refine ng_bi (w := 6) (x := 6) (pc2 := 7) (by decide +kernel) (by decide +kernel) rfl ?_
  refine ng_arr (N' := 6) (a0 := (6, .inl (fun _ => 0))) (pc2 := 9) (by decide +kernel) 0 (by decide) rfl (by decide +kernel) (nz0 6) (by decide +kernel) (by decide +kernel) (Nat.le_of_ble_eq_true rfl) ⟨Nat.le_of_ble_eq_true rfl, Nat.le_of_ble_eq_true rfl⟩ rfl ?_
  refine ng_put (idx := 9) (pc2 := 12) (by decide +kernel) (by decide) 0 rfl 2 (by decide) (by decide +kernel) rfl rfl rfl rfl (by show 2 < 4; decide) rfl ?_
  refine ng_al0 (pc2 := 13) (x := a) (by decide +kernel) rfl 0 rfl ?_
  refine ng_si (w := 1792) (x := 1792) (pc2 := 16) (by decide +kernel) (by decide +kernel) rfl ?_
  refine ng_arr (N' := 1792) (a0 := (1792, .inl (fun _ => 0))) (pc2 := 18) (by decide +kernel) 0 (by decide) rfl (by decide +kernel) (nz0 1792) (by decide +kernel) (by decide +kernel) (Nat.le_of_ble_eq_true rfl) ⟨Nat.le_of_ble_eq_true rfl, Nat.le_of_ble_eq_true rfl⟩ rfl ?_
  refine ng_put (idx := 15) (pc2 := 21) (by decide +kernel) (by decide) 0 rfl 3 (by decide) (by decide +kernel) rfl rfl rfl rfl (by show 3 < 4; decide) rfl ?_
  exact ng_vret (by decide +kernel) rfl rfl rfl rfl
theorem nf4 : ∀ j, j < (ab_fs 4).length → defaultValue (ab_tt 4 j) = vp_V ([.null, .null, .null, .int 0] : List Value) j := fun j hj => match j, hj with
  | 0, _ => rfl
  | 1, _ => rfl
  | 2, _ => rfl
  | 3, _ => rfl
  | n + 4, h => absurd h (by show ¬ (n + 4 < 4); omega)
def nW4 (E : ab_E) (a N0 : Nat) : va_W := [(a, .inr (4, [.ref (N0), .ref (N0 + 1), .ref (N0 + 2), .int 0]))] ++ ([(N0, .inl (ab_cA E 0, (8, .inl (fun _ => 0))))] ++ ([(N0 + 1, .inl (ab_cA E 0, (8, .inl (fun _ => 0))))] ++ ([(N0 + 2, .inl (ab_cA E 3, (8, .inl (fun _ => 0))))])))
theorem nC4 : nw_C yX4_init cX4_init 1 { frames := 1, cells := 3, slots := 24, locals := 40 } 4 [.null, .null, .null, .int 0] 3 nW4 := by
  refine nw_entry (own := 4) (by decide +kernel) rfl rfl (by decide) (fun E a N0 hlt => ?_)
  refine ng_al0 (pc2 := 1) (x := a) (by decide +kernel) rfl 0 rfl ?_
  refine ng_obj (idx := 3) (pc2 := 4) (by decide +kernel) ⟨by decide +kernel, by decide +kernel, by decide +kernel⟩ ⟨by decide, by decide⟩ rfl ?_
  refine ng_al0 (pc2 := 5) (x := a) (by decide +kernel) rfl 0 rfl ?_
  refine ng_bi (w := 8) (x := 8) (pc2 := 7) (by decide +kernel) (by decide +kernel) rfl ?_
  refine ng_arr (N' := 8) (a0 := (8, .inl (fun _ => 0))) (pc2 := 9) (by decide +kernel) 0 (by decide) rfl (by decide +kernel) (nz0 8) (by decide +kernel) (by decide +kernel) (Nat.le_of_ble_eq_true rfl) ⟨Nat.le_of_ble_eq_true rfl, Nat.le_of_ble_eq_true rfl⟩ rfl ?_
  refine ng_put (idx := 9) (pc2 := 12) (by decide +kernel) (by decide) 0 rfl 0 (by decide) (by decide +kernel) rfl rfl rfl rfl (by show 0 < 4; decide) rfl ?_
  refine ng_al0 (pc2 := 13) (x := a) (by decide +kernel) rfl 0 rfl ?_
  refine ng_bi (w := 8) (x := 8) (pc2 := 15) (by decide +kernel) (by decide +kernel) rfl ?_
  refine ng_arr (N' := 8) (a0 := (8, .inl (fun _ => 0))) (pc2 := 17) (by decide +kernel) 0 (by decide) rfl (by decide +kernel) (nz0 8) (by decide +kernel) (by decide +kernel) (Nat.le_of_ble_eq_true rfl) ⟨Nat.le_of_ble_eq_true rfl, Nat.le_of_ble_eq_true rfl⟩ rfl ?_
  refine ng_put (idx := 15) (pc2 := 20) (by decide +kernel) (by decide) 0 rfl 1 (by decide) (by decide +kernel) rfl rfl rfl rfl (by show 1 < 4; decide) rfl ?_
  refine ng_al0 (pc2 := 21) (x := a) (by decide +kernel) rfl 0 rfl ?_
  refine ng_bi (w := 8) (x := 8) (pc2 := 23) (by decide +kernel) (by decide +kernel) rfl ?_
  refine ng_arr (N' := 8) (a0 := (8, .inl (fun _ => 0))) (pc2 := 25) (by decide +kernel) 3 (by decide) rfl (by decide +kernel) (nz3 8) (by decide +kernel) (by decide +kernel) (Nat.le_of_ble_eq_true rfl) ⟨Nat.le_of_ble_eq_true rfl, Nat.le_of_ble_eq_true rfl⟩ rfl ?_
  refine ng_put (idx := 18) (pc2 := 28) (by decide +kernel) (by decide) 0 rfl 2 (by decide) (by decide +kernel) rfl rfl rfl rfl (by show 2 < 4; decide) rfl ?_
  exact ng_vret (by decide +kernel) rfl rfl rfl rfl
theorem nf2 : ∀ j, j < (ab_fs 2).length → defaultValue (ab_tt 2 j) = vp_V ([.int 0, .int 0, .null, .null, .null, .null, .null, .null, .null, .int 0, .int 0, .int 0, .null, .null] : List Value) j := fun j hj => match j, hj with
  | 0, _ => rfl
  | 1, _ => rfl
  | 2, _ => rfl
  | 3, _ => rfl
  | 4, _ => rfl
  | 5, _ => rfl
  | 6, _ => rfl
  | 7, _ => rfl
  | 8, _ => rfl
  | 9, _ => rfl
  | 10, _ => rfl
  | 11, _ => rfl
  | 12, _ => rfl
  | 13, _ => rfl
  | n + 14, h => absurd h (by show ¬ (n + 14 < 14); omega)
def nW2 (E : ab_E) (a N0 : Nat) : va_W := [(a, .inr (2, [.int 0, .int 0, .ref (N0), .ref (N0 + 1), .ref (N0 + 2), .ref (N0 + 3), .ref (N0 + 4), .ref (N0 + 5), .ref (N0 + 6), .int 0, .int 0, .int 0, .ref (N0 + 7), .ref (N0 + 10)]))] ++ ([(N0, .inl (ab_cA E 1, (6, .inr (.inl (fun _ => 0)))))] ++ ([(N0 + 1, .inl (ab_cA E 1, (8, .inr (.inl (fun _ => 0)))))] ++ ([(N0 + 2, .inl (ab_cA E 0, (6, .inl (fun _ => 0))))] ++ ([(N0 + 3, .inl (ab_cA E 0, (6, .inl (fun _ => 0))))] ++ ([(N0 + 4, .inl (ab_cA E 0, (8, .inl (fun _ => 0))))] ++ ([(N0 + 5, .inl (ab_cA E 0, (8, .inl (fun _ => 0))))] ++ ([(N0 + 6, .inl (ab_cA E 0, (48, .inl (fun _ => 0))))] ++ (nW1 E (N0 + 7) (N0 + 8) ++ ([(N0 + 10, .inl (ab_cA E 0, (384, .inl (fun _ => 0))))])))))))))
theorem nC2 : nw_C yX2_init cX2_init 1 { frames := 2, cells := 11, slots := 1510, locals := 80 } 2 [.int 0, .int 0, .null, .null, .null, .null, .null, .null, .null, .int 0, .int 0, .int 0, .null, .null] 11 nW2 := by
  refine nw_entry (own := 2) (by decide +kernel) rfl rfl (by decide) (fun E a N0 hlt => ?_)
  refine ng_al0 (pc2 := 1) (x := a) (by decide +kernel) rfl 0 rfl ?_
  refine ng_obj (idx := 3) (pc2 := 4) (by decide +kernel) ⟨by decide +kernel, by decide +kernel, by decide +kernel⟩ ⟨by decide, by decide⟩ rfl ?_
  refine ng_al0 (pc2 := 5) (x := a) (by decide +kernel) rfl 0 rfl ?_
  refine ng_bi (w := 6) (x := 6) (pc2 := 7) (by decide +kernel) (by decide +kernel) rfl ?_
  refine ng_arr (N' := 6) (a0 := (6, .inr (.inl (fun _ => 0)))) (pc2 := 9) (by decide +kernel) 1 (by decide) rfl (by decide +kernel) (nz1 6) (by decide +kernel) (by decide +kernel) (Nat.le_of_ble_eq_true rfl) ⟨Nat.le_of_ble_eq_true rfl, Nat.le_of_ble_eq_true rfl⟩ rfl ?_
  refine ng_put (idx := 9) (pc2 := 12) (by decide +kernel) (by decide) 0 rfl 2 (by decide) (by decide +kernel) rfl rfl rfl rfl (by show 2 < 14; decide) rfl ?_
  refine ng_al0 (pc2 := 13) (x := a) (by decide +kernel) rfl 0 rfl ?_
  refine ng_bi (w := 8) (x := 8) (pc2 := 15) (by decide +kernel) (by decide +kernel) rfl ?_
  refine ng_arr (N' := 8) (a0 := (8, .inr (.inl (fun _ => 0)))) (pc2 := 17) (by decide +kernel) 1 (by decide) rfl (by decide +kernel) (nz1 8) (by decide +kernel) (by decide +kernel) (Nat.le_of_ble_eq_true rfl) ⟨Nat.le_of_ble_eq_true rfl, Nat.le_of_ble_eq_true rfl⟩ rfl ?_
  refine ng_put (idx := 15) (pc2 := 20) (by decide +kernel) (by decide) 0 rfl 3 (by decide) (by decide +kernel) rfl rfl rfl rfl (by show 3 < 14; decide) rfl ?_
  refine ng_al0 (pc2 := 21) (x := a) (by decide +kernel) rfl 0 rfl ?_
  refine ng_bi (w := 6) (x := 6) (pc2 := 23) (by decide +kernel) (by decide +kernel) rfl ?_
  refine ng_arr (N' := 6) (a0 := (6, .inl (fun _ => 0))) (pc2 := 25) (by decide +kernel) 0 (by decide) rfl (by decide +kernel) (nz0 6) (by decide +kernel) (by decide +kernel) (Nat.le_of_ble_eq_true rfl) ⟨Nat.le_of_ble_eq_true rfl, Nat.le_of_ble_eq_true rfl⟩ rfl ?_
  refine ng_put (idx := 18) (pc2 := 28) (by decide +kernel) (by decide) 0 rfl 4 (by decide) (by decide +kernel) rfl rfl rfl rfl (by show 4 < 14; decide) rfl ?_
  refine ng_al0 (pc2 := 29) (x := a) (by decide +kernel) rfl 0 rfl ?_
  refine ng_bi (w := 6) (x := 6) (pc2 := 31) (by decide +kernel) (by decide +kernel) rfl ?_
  refine ng_arr (N' := 6) (a0 := (6, .inl (fun _ => 0))) (pc2 := 33) (by decide +kernel) 0 (by decide) rfl (by decide +kernel) (nz0 6) (by decide +kernel) (by decide +kernel) (Nat.le_of_ble_eq_true rfl) ⟨Nat.le_of_ble_eq_true rfl, Nat.le_of_ble_eq_true rfl⟩ rfl ?_
  refine ng_put (idx := 22) (pc2 := 36) (by decide +kernel) (by decide) 0 rfl 5 (by decide) (by decide +kernel) rfl rfl rfl rfl (by show 5 < 14; decide) rfl ?_
  refine ng_al0 (pc2 := 37) (x := a) (by decide +kernel) rfl 0 rfl ?_
  refine ng_bi (w := 8) (x := 8) (pc2 := 39) (by decide +kernel) (by decide +kernel) rfl ?_
  refine ng_arr (N' := 8) (a0 := (8, .inl (fun _ => 0))) (pc2 := 41) (by decide +kernel) 0 (by decide) rfl (by decide +kernel) (nz0 8) (by decide +kernel) (by decide +kernel) (Nat.le_of_ble_eq_true rfl) ⟨Nat.le_of_ble_eq_true rfl, Nat.le_of_ble_eq_true rfl⟩ rfl ?_
  refine ng_put (idx := 25) (pc2 := 44) (by decide +kernel) (by decide) 0 rfl 6 (by decide) (by decide +kernel) rfl rfl rfl rfl (by show 6 < 14; decide) rfl ?_
  refine ng_al0 (pc2 := 45) (x := a) (by decide +kernel) rfl 0 rfl ?_
  refine ng_bi (w := 8) (x := 8) (pc2 := 47) (by decide +kernel) (by decide +kernel) rfl ?_
  refine ng_arr (N' := 8) (a0 := (8, .inl (fun _ => 0))) (pc2 := 49) (by decide +kernel) 0 (by decide) rfl (by decide +kernel) (nz0 8) (by decide +kernel) (by decide +kernel) (Nat.le_of_ble_eq_true rfl) ⟨Nat.le_of_ble_eq_true rfl, Nat.le_of_ble_eq_true rfl⟩ rfl ?_
  refine ng_put (idx := 28) (pc2 := 52) (by decide +kernel) (by decide) 0 rfl 7 (by decide) (by decide +kernel) rfl rfl rfl rfl (by show 7 < 14; decide) rfl ?_
  refine ng_al0 (pc2 := 53) (x := a) (by decide +kernel) rfl 0 rfl ?_
  refine ng_bi (w := 48) (x := 48) (pc2 := 55) (by decide +kernel) (by decide +kernel) rfl ?_
  refine ng_arr (N' := 48) (a0 := (48, .inl (fun _ => 0))) (pc2 := 57) (by decide +kernel) 0 (by decide) rfl (by decide +kernel) (nz0 48) (by decide +kernel) (by decide +kernel) (Nat.le_of_ble_eq_true rfl) ⟨Nat.le_of_ble_eq_true rfl, Nat.le_of_ble_eq_true rfl⟩ rfl ?_
  refine ng_put (idx := 31) (pc2 := 60) (by decide +kernel) (by decide) 0 rfl 8 (by decide) (by decide +kernel) rfl rfl rfl rfl (by show 8 < 14; decide) rfl ?_
  refine ng_al0 (pc2 := 61) (x := a) (by decide +kernel) rfl 0 rfl ?_
  refine ng_new (ci := 1) (fs := [.null, .int 0, .null, .int 0]) (idx := 34) (pc2 := 64) (by decide +kernel) (by decide) (by decide +kernel) (by decide +kernel) (by decide +kernel) nf1 ⟨Nat.le_of_ble_eq_true rfl, Nat.le_of_ble_eq_true rfl⟩ rfl ?_
  refine ng_dup (pc2 := 65) (by decide +kernel) rfl rfl ?_
  refine ng_call (k' := 2) (idx := 36) (pc2 := 68) nC1 (by decide +kernel) (by decide +kernel) (by decide +kernel) rfl ⟨by decide, by decide⟩ (by decide +kernel) (Or.inr (by unfold ab_ln'; decide +kernel)) (by decide +kernel) (Nat.le_of_ble_eq_true rfl) ⟨by decide, by decide⟩ ⟨Nat.le_of_ble_eq_true rfl, Nat.le_of_ble_eq_true rfl⟩ rfl ?_
  refine ng_put (idx := 37) (pc2 := 71) (by decide +kernel) (by decide) 0 rfl 12 (by decide) (by decide +kernel) rfl rfl rfl rfl (by show 12 < 14; decide) rfl ?_
  refine ng_al0 (pc2 := 72) (x := a) (by decide +kernel) rfl 0 rfl ?_
  refine ng_si (w := 384) (x := 384) (pc2 := 75) (by decide +kernel) (by decide +kernel) rfl ?_
  refine ng_arr (N' := 384) (a0 := (384, .inl (fun _ => 0))) (pc2 := 77) (by decide +kernel) 0 (by decide) rfl (by decide +kernel) (nz0 384) (by decide +kernel) (by decide +kernel) (Nat.le_of_ble_eq_true rfl) ⟨Nat.le_of_ble_eq_true rfl, Nat.le_of_ble_eq_true rfl⟩ rfl ?_
  refine ng_put (idx := 41) (pc2 := 80) (by decide +kernel) (by decide) 0 rfl 13 (by decide) (by decide +kernel) rfl rfl rfl rfl (by show 13 < 14; decide) rfl ?_
  exact ng_vret (by decide +kernel) rfl rfl rfl rfl
