/-! constructors (wip/gen/ctor.py) -/
theorem nz0 (n : Nat) : ∀ cA : ClassId, vp_cell cA (n, .inl (fun _ => 0)) = arrV cA n (fun _ => defaultValue (newarray.typeOf .int)) := fun _ => rfl
theorem nz1 (n : Nat) : ∀ cA : ClassId, vp_cell cA (n, .inr (.inl (fun _ => 0))) = arrV cA n (fun _ => defaultValue (newarray.typeOf .long)) := fun _ => rfl
theorem nz2 (n : Nat) : ∀ cA : ClassId, vp_cell cA (n, .inl (fun _ => 0)) = arrV cA n (fun _ => defaultValue (newarray.typeOf .char)) := fun _ => rfl
theorem nz3 (n : Nat) : ∀ cA : ClassId, vp_cell cA (n, .inl (fun _ => 0)) = arrV cA n (fun _ => defaultValue (newarray.typeOf .boolean)) := fun _ => rfl
theorem nf1 : ∀ j, j < (ab_fs 1).length → defaultValue (ab_tt 1 j) = vp_V ([.null, .int 0, .null, .int 0] : List Value) j := fun j hj => match j, hj with
  | 0, _ => rfl
  | 1, _ => rfl
  | 2, _ => rfl
  | 3, _ => rfl
  | n + 4, h => absurd h (by show ¬ (n + 4 < 4); omega)
def nW1 (E : ab_E) (a N0 : Nat) : va_W := [(a, .inr (1, [.ref (N0), .int 0, .ref (N0 + 1), .int 0])), (N0, .inl (ab_cA E 0, (1000, .inl (fun _ => 0)))), (N0 + 1, .inl (ab_cA E 0, (32, .inl (fun _ => 0))))]
theorem nC1 : nw_C yX1_init cX1_init 1 { frames := 1, cells := 2, slots := 1032, locals := 40 } 1 [.null, .int 0, .null, .int 0] 2 nW1 := by
  refine nw_entry (own := 1) (by decide +kernel) rfl rfl (by decide) (fun E a N0 hlt => ?_)
  refine ng_al0 (pc2 := 1) (x := a) (by decide +kernel) rfl 0 rfl ?_
  refine ng_obj (idx := 3) (pc2 := 4) (by decide +kernel) ⟨by decide +kernel, by decide +kernel, by decide +kernel⟩ ⟨by decide, by decide⟩ rfl ?_
  refine ng_al0 (pc2 := 5) (x := a) (by decide +kernel) rfl 0 rfl ?_
  refine ng_si (w := 1000) (x := 1000) (pc2 := 8) (by decide +kernel) (by decide +kernel) rfl ?_
  refine ng_arr (N' := 1000) (a0 := (1000, .inl (fun _ => 0))) (pc2 := 10) (by decide +kernel) 0 (by decide) rfl (by decide +kernel) (nz0 1000) (by decide +kernel) (by decide +kernel) (Nat.le_of_ble_eq_true rfl) ⟨Nat.le_of_ble_eq_true rfl, Nat.le_of_ble_eq_true rfl⟩ rfl ?_
  refine ng_put (idx := 9) (pc2 := 13) (by decide +kernel) (by decide) 0 rfl 0 (by decide) (by decide +kernel) rfl rfl rfl rfl (by show 0 < 4; decide) rfl ?_
  refine ng_al0 (pc2 := 14) (x := a) (by decide +kernel) rfl 0 rfl ?_
  refine ng_bi (w := 32) (x := 32) (pc2 := 16) (by decide +kernel) (by decide +kernel) rfl ?_
  refine ng_arr (N' := 32) (a0 := (32, .inl (fun _ => 0))) (pc2 := 18) (by decide +kernel) 0 (by decide) rfl (by decide +kernel) (nz0 32) (by decide +kernel) (by decide +kernel) (Nat.le_of_ble_eq_true rfl) ⟨Nat.le_of_ble_eq_true rfl, Nat.le_of_ble_eq_true rfl⟩ rfl ?_
  refine ng_put (idx := 15) (pc2 := 21) (by decide +kernel) (by decide) 0 rfl 2 (by decide) (by decide +kernel) rfl rfl rfl rfl (by show 2 < 4; decide) rfl ?_
  exact ng_vret (by decide +kernel) rfl rfl rfl rfl
