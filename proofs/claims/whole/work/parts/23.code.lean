/-! methods, printed by program out of the listing: function, walk, contract -/
def fX2_hasPerson (o0 : Nat) (v1 : Int32) (u : ab_S) : Option (Int32 × ab_S) :=
  bif decide (v1 < 0) then (
    ab_gd [ab_b1 0] (some (0, u)))
  else (
    bif decide (v1 < (u.1 o0 0)) then (
      ab_gd [ab_b1 1] (some (1, u)))
    else (
      ab_gd [ab_b1 0] (some (0, u))))
theorem tX2_hasPerson (o0 : Nat) (v1 : Int32) (u : ab_S) : ab_G 0 2 cX2_hasPerson (some .boolean) 0 0 [some (vR (kO 2) o0), some (vI v1)] [] u wI (fX2_hasPerson o0 v1 u) := by
  rw [fX2_hasPerson]
  refine g_seg0 (pc' := 1) (L' := [some (vR (kO 2) o0), some (vI v1)]) (st' := [vI v1]) (u1 := u) [(oL 0 1, 1)] (by decide +kernel) rfl rfl ?_
  refine g_zlt (off := 15) (tgt := 16) (pc2 := 4) (by decide +kernel) (by decide) rfl ?_ ?_
  · refine g_seg0 (pc' := 17) (L' := [some (vR (kO 2) o0), some (vI v1)]) (st' := [vI 0]) (u1 := u) [(oC 0, 1)] (by decide +kernel) rfl rfl ?_
    exact g_zret (by decide +kernel) rfl
  · refine g_seg0 (pc' := 9) (L' := [some (vR (kO 2) o0), some (vI v1)]) (st' := [vI (u.1 o0 0), vI v1]) (u1 := u) [(oL 0 1, 1), (oL 2 0, 1), (oP (.getfield 63), 3)] (by decide +kernel) rfl rfl ?_
    refine g_ige (off := 7) (tgt := 16) (pc2 := 12) (by decide +kernel) (by decide) rfl ?_ ?_
    · refine g_seg0 (pc' := 17) (L' := [some (vR (kO 2) o0), some (vI v1)]) (st' := [vI 0]) (u1 := u) [(oC 0, 1)] (by decide +kernel) rfl rfl ?_
      exact g_zret (by decide +kernel) rfl
    · refine g_seg0 (pc' := 13) (L' := [some (vR (kO 2) o0), some (vI v1)]) (st' := [vI 1]) (u1 := u) [(oC 1, 1)] (by decide +kernel) rfl rfl ?_
      refine g_goto (off := 4) (tgt := 17) (by decide +kernel) (by decide) ?_
      exact g_zret (by decide +kernel) rfl
theorem CX2_hasPerson (o0 : Nat) (v1 : Int32) (u : ab_S) : ab_C 0 yX2_hasPerson cX2_hasPerson 2 (some .boolean) 0 [vR (kO 2) o0, vI v1] u wI (fX2_hasPerson o0 v1 u) := ab_entry (by decide +kernel) rfl (by decide) (by decide) (fun _ => Nat.le_of_ble_eq_true rfl) rfl (tX2_hasPerson o0 v1 u)
def fX5_bitsOf_4 (o0 : Nat) : Nat → Int32 → Int32 → Int32 → ab_S → Option (Int32 × ab_S)
  | 0, _, _, _, _ => none
  | n + 1, v1, v2, v3, u =>
  bif decide (v3 < 8) then (
    ab_gd [ab_ix v3 8] (
      bif decide ((u.1 (o0 + 1) (nc v3)) = v1) then (
        (fX5_bitsOf_4 o0 n) v1 (v2 ||| ((1 : Int32) <<< (v3 &&& 31))) (v3 + 1) u)
      else (
        (fX5_bitsOf_4 o0 n) v1 v2 (v3 + 1) u)))
  else (
    some (v2, u))
theorem tX5_bitsOf_4 (o0 : Nat) : ∀ (n : Nat) (v1 : Int32) (v2 : Int32) (v3 : Int32) (u : ab_S), ab_G 0 5 cX5_bitsOf (some .int) 0 4 [some (vR (kO 5) o0), some (vI v1), some (vI v2), some (vI v3)] [] u wI (fX5_bitsOf_4 o0 n v1 v2 v3 u) := by
  intro n
  induction n with
  | zero => intros; exact g_none
  | succ n ih =>
    intro v1 v2 v3 u
    rw [fX5_bitsOf_4]
    refine g_seg0 (pc' := 10) (L' := [some (vR (kO 5) o0), some (vI v1), some (vI v2), some (vI v3)]) (st' := [vI 8, vI v3]) (u1 := u) [(oL 0 3, 1), (oL 2 0, 1), (oP (.getfield 9), 3), (oP .arraylength, 1)] (by decide +kernel) rfl rfl ?_
    refine g_ige (off := 25) (tgt := 35) (pc2 := 13) (by decide +kernel) (by decide) rfl ?_ ?_
    · refine g_seg0 (pc' := 36) (L' := [some (vR (kO 5) o0), some (vI v1), some (vI v2), some (vI v3)]) (st' := [vI v2]) (u1 := u) [(oL 0 2, 1)] (by decide +kernel) rfl rfl ?_
      exact g_iret (by decide +kernel) rfl
    · refine g_seg (pc' := 20) (L' := [some (vR (kO 5) o0), some (vI v1), some (vI v2), some (vI v3)]) (st' := [vI v1, vI (u.1 (o0 + 1) (nc v3))]) (u1 := u) [(oL 2 0, 1), (oP (.getfield 9), 3), (oL 0 3, 1), (oP .iaload, 1), (oL 0 1, 1)] (by decide +kernel) rfl rfl ?_
      refine g_ine (off := 9) (tgt := 29) (pc2 := 23) (by decide +kernel) (by decide) rfl ?_ ?_
      · refine g_seg0 (pc' := 32) (L' := [some (vR (kO 5) o0), some (vI v1), some (vI v2), some (vI (v3 + 1))]) (st' := []) (u1 := u) [(oN 3 1, 3)] (by decide +kernel) rfl rfl ?_
        refine g_goto (off := (-28)) (tgt := 4) (by decide +kernel) (by decide) ?_
        exact ih v1 v2 (v3 + 1) u
      · refine g_seg0 (pc' := 32) (L' := [some (vR (kO 5) o0), some (vI v1), some (vI (v2 ||| ((1 : Int32) <<< (v3 &&& 31)))), some (vI (v3 + 1))]) (st' := []) (u1 := u) [(oL 0 2, 1), (oC 1, 1), (oL 0 3, 1), (oP .ishl, 1), (oP .ior, 1), (oL 3 2, 1), (oN 3 1, 3)] (by decide +kernel) rfl rfl ?_
        refine g_goto (off := (-28)) (tgt := 4) (by decide +kernel) (by decide) ?_
        exact ih v1 (v2 ||| ((1 : Int32) <<< (v3 &&& 31))) (v3 + 1) u
def fX5_bitsOf (o0 : Nat) (v1 : Int32) (u : ab_S) : Option (Int32 × ab_S) :=
  fX5_bitsOf_4 o0 fu v1 0 0 u
theorem tX5_bitsOf (o0 : Nat) (v1 : Int32) (u : ab_S) : ab_G 0 5 cX5_bitsOf (some .int) 0 0 [some (vR (kO 5) o0), some (vI v1), none, none] [] u wI (fX5_bitsOf o0 v1 u) := by
  rw [fX5_bitsOf]
  refine g_seg0 (pc' := 4) (L' := [some (vR (kO 5) o0), some (vI v1), some (vI 0), some (vI 0)]) (st' := []) (u1 := u) [(oC 0, 1), (oL 3 2, 1), (oC 0, 1), (oL 3 3, 1)] (by decide +kernel) rfl rfl ?_
  exact tX5_bitsOf_4 o0 fu v1 0 0 u
theorem CX5_bitsOf (o0 : Nat) (v1 : Int32) (u : ab_S) : ab_C 0 yX5_bitsOf cX5_bitsOf 4 (some .int) 0 [vR (kO 5) o0, vI v1] u wI (fX5_bitsOf o0 v1 u) := ab_entry (by decide +kernel) rfl (by decide) (by decide) (fun _ => Nat.le_of_ble_eq_true rfl) rfl (tX5_bitsOf o0 v1 u)
def fX2_kindOf (o0 : Nat) (v1 : Int32) (u : ab_S) : Option (Int32 × ab_S) :=
  (fX9_at 6 (o0 + 3) v1 u).bind fun q1 =>
    some (q1.1, q1.2)
theorem tX2_kindOf (o0 : Nat) (v1 : Int32) (u : ab_S) : ab_G 0 2 cX2_kindOf (some .int) 1 0 [some (vR (kO 2) o0), some (vI v1)] [] u wI (fX2_kindOf o0 v1 u) := by
  rw [fX2_kindOf]
  refine g_seg0 (pc' := 5) (L' := [some (vR (kO 2) o0), some (vI v1)]) (st' := [vI v1, vR (kA 0 6) (o0 + 3)]) (u1 := u) [(oL 2 0, 1), (oP (.getfield 18), 3), (oL 0 1, 1)] (by decide +kernel) rfl rfl ?_
  refine g_callS (k := 224) (pc2 := 8) (st := []) (CX9_at 6 (o0 + 3) v1 u) miX9_at msX9_at lk2_224 wI_ok (by decide +kernel) rfl (Nat.le_of_ble_eq_true rfl) (by decide) rfl (fun q1 hq1 => ?_)
  exact g_iret (by decide +kernel) rfl
theorem CX2_kindOf (o0 : Nat) (v1 : Int32) (u : ab_S) : ab_C 0 yX2_kindOf cX2_kindOf 2 (some .int) 1 [vR (kO 2) o0, vI v1] u wI (fX2_kindOf o0 v1 u) := ab_entry (by decide +kernel) rfl (by decide) (by decide) (fun _ => Nat.le_of_ble_eq_true rfl) rfl (tX2_kindOf o0 v1 u)
def fX5_ticketsOf (o0 : Nat) (v1 : Int32) (u : ab_S) : Option (Int32 × ab_S) :=
  (fX9_at 6 (o0 + 3) v1 u).bind fun q1 =>
    some (q1.1, q1.2)
theorem tX5_ticketsOf (o0 : Nat) (v1 : Int32) (u : ab_S) : ab_G 0 5 cX5_ticketsOf (some .int) 1 0 [some (vR (kO 5) o0), some (vI v1)] [] u wI (fX5_ticketsOf o0 v1 u) := by
  rw [fX5_ticketsOf]
  refine g_seg0 (pc' := 5) (L' := [some (vR (kO 5) o0), some (vI v1)]) (st' := [vI v1, vR (kA 0 6) (o0 + 3)]) (u1 := u) [(oL 2 0, 1), (oP (.getfield 18), 3), (oL 0 1, 1)] (by decide +kernel) rfl rfl ?_
  refine g_callS (k := 34) (pc2 := 8) (st := []) (CX9_at 6 (o0 + 3) v1 u) miX9_at msX9_at lk5_34 wI_ok (by decide +kernel) rfl (Nat.le_of_ble_eq_true rfl) (by decide) rfl (fun q1 hq1 => ?_)
  exact g_iret (by decide +kernel) rfl
theorem CX5_ticketsOf (o0 : Nat) (v1 : Int32) (u : ab_S) : ab_C 0 yX5_ticketsOf cX5_ticketsOf 2 (some .int) 1 [vR (kO 5) o0, vI v1] u wI (fX5_ticketsOf o0 v1 u) := ab_entry (by decide +kernel) rfl (by decide) (by decide) (fun _ => Nat.le_of_ble_eq_true rfl) rfl (tX5_ticketsOf o0 v1 u)
def fX9_person (v1 : Int32) (v2 : Int32) (u : ab_S) : Option (Int32 × ab_S) :=
  (fX2_hasPerson (u.2.2 0) v1 u).bind fun q1 =>
    bif decide (q1.1 = 0) then (
      some ((-1), q1.2))
    else (
      ab_sw v2 [
      (0,
        (fX2_kindOf (q1.2.2.2 0) v1 q1.2).bind fun q2 =>
          some (q2.1, q2.2)),
      (1,
        (fX5_shillingsOf 38 v1 q1.2).bind fun q3 =>
          some (q3.1, q3.2)),
      (2,
        (fX5_ticketsOf 38 v1 q1.2).bind fun q4 =>
          some (q4.1, q4.2)),
      (3,
        (fX5_bitsOf 38 v1 q1.2).bind fun q5 =>
          some (q5.1, q5.2))] (
        some ((-1), q1.2)))
theorem tX9_person (v1 : Int32) (v2 : Int32) (u : ab_S) : ab_G 0 8 cX9_person (some .int) 2 0 [some (vR (kO 8) 0), some (vI v1), some (vI v2)] [] u wI (fX9_person v1 v2 u) := by
  rw [fX9_person]
  refine g_seg0 (pc' := 5) (L' := [some (vR (kO 8) 0), some (vI v1), some (vI v2)]) (st' := [vI v1, vR (kO 2) (u.2.2 0)]) (u1 := u) [(oL 2 0, 1), (oP (.getfield 19), 3), (oL 0 1, 1)] (by decide +kernel) rfl rfl ?_
  refine g_callV (k := 120) (pc2 := 8) (st := []) (CX2_hasPerson (u.2.2 0) v1 u) miX2_hasPerson mvX2_hasPerson rfl (by decide) lk8_120 wI_ok (by decide +kernel) rfl (Nat.le_of_ble_eq_true rfl) (by decide) rfl (fun q1 hq1 => ?_)
  refine g_zne (off := 5) (tgt := 13) (pc2 := 11) (by decide +kernel) (by decide) rfl ?_ ?_
  · refine g_seg0 (pc' := 14) (L' := [some (vR (kO 8) 0), some (vI v1), some (vI v2)]) (st' := [vI v2]) (u1 := q1.2) [(oL 0 2, 1)] (by decide +kernel) rfl rfl ?_
    refine g_sw0 ?_
    refine g_sw1 (dflt := 66) (lo := 0) (hi := 3) (offs := #[30, 39, 48, 57]) (len := 30) (k := 0) (t := 44) (by decide +kernel) (by decide +kernel) ?_ ?_
    · refine g_seg0 (pc' := 49) (L' := [some (vR (kO 8) 0), some (vI v1), some (vI v2)]) (st' := [vI v1, vR (kO 2) (q1.2.2.2 0)]) (u1 := q1.2) [(oL 2 0, 1), (oP (.getfield 19), 3), (oL 0 1, 1)] (by decide +kernel) rfl rfl ?_
      refine g_callV (k := 124) (pc2 := 52) (st := []) (CX2_kindOf (q1.2.2.2 0) v1 q1.2) miX2_kindOf mvX2_kindOf rfl (by decide) lk8_124 wI_ok (by decide +kernel) rfl (Nat.le_of_ble_eq_true rfl) (by decide) rfl (fun q2 hq2 => ?_)
      exact g_iret (by decide +kernel) rfl
    refine g_sw1 (dflt := 66) (lo := 0) (hi := 3) (offs := #[30, 39, 48, 57]) (len := 30) (k := 1) (t := 53) (by decide +kernel) (by decide +kernel) ?_ ?_
    · refine g_seg0 (pc' := 58) (L' := [some (vR (kO 8) 0), some (vI v1), some (vI v2)]) (st' := [vI v1, vR (kO 5) 38]) (u1 := q1.2) [(oL 2 0, 1), (oP (.getfield 39), 3), (oL 0 1, 1)] (by decide +kernel) rfl rfl ?_
      refine g_callV (k := 128) (pc2 := 61) (st := []) (CX5_shillingsOf 38 v1 q1.2) miX5_shillingsOf mvX5_shillingsOf rfl (by decide) lk8_128 wI_ok (by decide +kernel) rfl (Nat.le_of_ble_eq_true rfl) (by decide) rfl (fun q3 hq3 => ?_)
      exact g_iret (by decide +kernel) rfl
    refine g_sw1 (dflt := 66) (lo := 0) (hi := 3) (offs := #[30, 39, 48, 57]) (len := 30) (k := 2) (t := 62) (by decide +kernel) (by decide +kernel) ?_ ?_
    · refine g_seg0 (pc' := 67) (L' := [some (vR (kO 8) 0), some (vI v1), some (vI v2)]) (st' := [vI v1, vR (kO 5) 38]) (u1 := q1.2) [(oL 2 0, 1), (oP (.getfield 39), 3), (oL 0 1, 1)] (by decide +kernel) rfl rfl ?_
      refine g_callV (k := 131) (pc2 := 70) (st := []) (CX5_ticketsOf 38 v1 q1.2) miX5_ticketsOf mvX5_ticketsOf rfl (by decide) lk8_131 wI_ok (by decide +kernel) rfl (Nat.le_of_ble_eq_true rfl) (by decide) rfl (fun q4 hq4 => ?_)
      exact g_iret (by decide +kernel) rfl
    refine g_sw1 (dflt := 66) (lo := 0) (hi := 3) (offs := #[30, 39, 48, 57]) (len := 30) (k := 3) (t := 71) (by decide +kernel) (by decide +kernel) ?_ ?_
    · refine g_seg0 (pc' := 76) (L' := [some (vR (kO 8) 0), some (vI v1), some (vI v2)]) (st' := [vI v1, vR (kO 5) 38]) (u1 := q1.2) [(oL 2 0, 1), (oP (.getfield 39), 3), (oL 0 1, 1)] (by decide +kernel) rfl rfl ?_
      refine g_callV (k := 134) (pc2 := 79) (st := []) (CX5_bitsOf 38 v1 q1.2) miX5_bitsOf mvX5_bitsOf rfl (by decide) lk8_134 wI_ok (by decide +kernel) rfl (Nat.le_of_ble_eq_true rfl) (by decide) rfl (fun q5 hq5 => ?_)
      exact g_iret (by decide +kernel) rfl
    refine g_swd (dflt := 66) (lo := 0) (hi := 3) (offs := #[30, 39, 48, 57]) (len := 30) (tgd := 80) (by decide +kernel) (by decide) (by decide +kernel) ?_
    refine g_seg0 (pc' := 81) (L' := [some (vR (kO 8) 0), some (vI v1), some (vI v2)]) (st' := [vI (-1)]) (u1 := q1.2) [(oC (-1), 1)] (by decide +kernel) rfl rfl ?_
    exact g_iret (by decide +kernel) rfl
  · refine g_seg0 (pc' := 12) (L' := [some (vR (kO 8) 0), some (vI v1), some (vI v2)]) (st' := [vI (-1)]) (u1 := q1.2) [(oC (-1), 1)] (by decide +kernel) rfl rfl ?_
    exact g_iret (by decide +kernel) rfl
theorem CX9_person (v1 : Int32) (v2 : Int32) (u : ab_S) : ab_C 0 yX9_person cX9_person 3 (some .int) 2 [vR (kO 8) 0, vI v1, vI v2] u wI (fX9_person v1 v2 u) := ab_entry (by decide +kernel) rfl (by decide) (by decide) (fun _ => Nat.le_of_ble_eq_true rfl) rfl (tX9_person v1 v2 u)
def fX2_hasGood (o0 : Nat) (v1 : Int32) (u : ab_S) : Option (Int32 × ab_S) :=
  bif decide (v1 < 0) then (
    ab_gd [ab_b1 0] (some (0, u)))
  else (
    bif decide (v1 < (u.1 o0 1)) then (
      ab_gd [ab_b1 1] (some (1, u)))
    else (
      ab_gd [ab_b1 0] (some (0, u))))
theorem tX2_hasGood (o0 : Nat) (v1 : Int32) (u : ab_S) : ab_G 0 2 cX2_hasGood (some .boolean) 0 0 [some (vR (kO 2) o0), some (vI v1)] [] u wI (fX2_hasGood o0 v1 u) := by
  rw [fX2_hasGood]
  refine g_seg0 (pc' := 1) (L' := [some (vR (kO 2) o0), some (vI v1)]) (st' := [vI v1]) (u1 := u) [(oL 0 1, 1)] (by decide +kernel) rfl rfl ?_
  refine g_zlt (off := 15) (tgt := 16) (pc2 := 4) (by decide +kernel) (by decide) rfl ?_ ?_
  · refine g_seg0 (pc' := 17) (L' := [some (vR (kO 2) o0), some (vI v1)]) (st' := [vI 0]) (u1 := u) [(oC 0, 1)] (by decide +kernel) rfl rfl ?_
    exact g_zret (by decide +kernel) rfl
  · refine g_seg0 (pc' := 9) (L' := [some (vR (kO 2) o0), some (vI v1)]) (st' := [vI (u.1 o0 1), vI v1]) (u1 := u) [(oL 0 1, 1), (oL 2 0, 1), (oP (.getfield 66), 3)] (by decide +kernel) rfl rfl ?_
    refine g_ige (off := 7) (tgt := 16) (pc2 := 12) (by decide +kernel) (by decide) rfl ?_ ?_
    · refine g_seg0 (pc' := 17) (L' := [some (vR (kO 2) o0), some (vI v1)]) (st' := [vI 0]) (u1 := u) [(oC 0, 1)] (by decide +kernel) rfl rfl ?_
      exact g_zret (by decide +kernel) rfl
    · refine g_seg0 (pc' := 13) (L' := [some (vR (kO 2) o0), some (vI v1)]) (st' := [vI 1]) (u1 := u) [(oC 1, 1)] (by decide +kernel) rfl rfl ?_
      refine g_goto (off := 4) (tgt := 17) (by decide +kernel) (by decide) ?_
      exact g_zret (by decide +kernel) rfl
theorem CX2_hasGood (o0 : Nat) (v1 : Int32) (u : ab_S) : ab_C 0 yX2_hasGood cX2_hasGood 2 (some .boolean) 0 [vR (kO 2) o0, vI v1] u wI (fX2_hasGood o0 v1 u) := ab_entry (by decide +kernel) rfl (by decide) (by decide) (fun _ => Nat.le_of_ble_eq_true rfl) rfl (tX2_hasGood o0 v1 u)
def fX5_holderOf (o0 : Nat) (v1 : Int32) (u : ab_S) : Option (Int32 × ab_S) :=
  bif decide (v1 < 0) then (
    some ((-1), u))
  else (
    bif decide (v1 < 8) then (
      ab_gd [ab_ix v1 8] (
        some ((u.1 (o0 + 1) (nc v1)), u)))
    else (
      some ((-1), u)))
theorem tX5_holderOf (o0 : Nat) (v1 : Int32) (u : ab_S) : ab_G 0 5 cX5_holderOf (some .int) 0 0 [some (vR (kO 5) o0), some (vI v1)] [] u wI (fX5_holderOf o0 v1 u) := by
  rw [fX5_holderOf]
  refine g_seg0 (pc' := 1) (L' := [some (vR (kO 5) o0), some (vI v1)]) (st' := [vI v1]) (u1 := u) [(oL 0 1, 1)] (by decide +kernel) rfl rfl ?_
  refine g_zlt (off := 21) (tgt := 22) (pc2 := 4) (by decide +kernel) (by decide) rfl ?_ ?_
  · refine g_seg0 (pc' := 23) (L' := [some (vR (kO 5) o0), some (vI v1)]) (st' := [vI (-1)]) (u1 := u) [(oC (-1), 1)] (by decide +kernel) rfl rfl ?_
    exact g_iret (by decide +kernel) rfl
  · refine g_seg0 (pc' := 10) (L' := [some (vR (kO 5) o0), some (vI v1)]) (st' := [vI 8, vI v1]) (u1 := u) [(oL 0 1, 1), (oL 2 0, 1), (oP (.getfield 9), 3), (oP .arraylength, 1)] (by decide +kernel) rfl rfl ?_
    refine g_ige (off := 12) (tgt := 22) (pc2 := 13) (by decide +kernel) (by decide) rfl ?_ ?_
    · refine g_seg0 (pc' := 23) (L' := [some (vR (kO 5) o0), some (vI v1)]) (st' := [vI (-1)]) (u1 := u) [(oC (-1), 1)] (by decide +kernel) rfl rfl ?_
      exact g_iret (by decide +kernel) rfl
    · refine g_seg (pc' := 19) (L' := [some (vR (kO 5) o0), some (vI v1)]) (st' := [vI (u.1 (o0 + 1) (nc v1))]) (u1 := u) [(oL 2 0, 1), (oP (.getfield 9), 3), (oL 0 1, 1), (oP .iaload, 1)] (by decide +kernel) rfl rfl ?_
      refine g_goto (off := 4) (tgt := 23) (by decide +kernel) (by decide) ?_
      exact g_iret (by decide +kernel) rfl
theorem CX5_holderOf (o0 : Nat) (v1 : Int32) (u : ab_S) : ab_C 0 yX5_holderOf cX5_holderOf 2 (some .int) 0 [vR (kO 5) o0, vI v1] u wI (fX5_holderOf o0 v1 u) := ab_entry (by decide +kernel) rfl (by decide) (by decide) (fun _ => Nat.le_of_ble_eq_true rfl) rfl (tX5_holderOf o0 v1 u)
def fX9_good (v1 : Int32) (v2 : Int32) (u : ab_S) : Option (Int32 × ab_S) :=
  (fX2_hasGood (u.2.2 0) v1 u).bind fun q1 =>
    bif decide (q1.1 = 0) then (
      some ((-2), q1.2))
    else (
      ab_sw v2 [
      (0,
        (fX2_worthOf (q1.2.2.2 0) v1 q1.2).bind fun q2 =>
          some (q2.1, q2.2)),
      (1,
        (fX2_ownerOf (q1.2.2.2 0) v1 q1.2).bind fun q3 =>
          some (q3.1, q3.2)),
      (2,
        (fX5_holderOf 38 v1 q1.2).bind fun q4 =>
          some (q4.1, q4.2))] (
        some ((-2), q1.2)))
theorem tX9_good (v1 : Int32) (v2 : Int32) (u : ab_S) : ab_G 0 8 cX9_good (some .int) 2 0 [some (vR (kO 8) 0), some (vI v1), some (vI v2)] [] u wI (fX9_good v1 v2 u) := by
  rw [fX9_good]
  refine g_seg0 (pc' := 5) (L' := [some (vR (kO 8) 0), some (vI v1), some (vI v2)]) (st' := [vI v1, vR (kO 2) (u.2.2 0)]) (u1 := u) [(oL 2 0, 1), (oP (.getfield 19), 3), (oL 0 1, 1)] (by decide +kernel) rfl rfl ?_
  refine g_callV (k := 137) (pc2 := 8) (st := []) (CX2_hasGood (u.2.2 0) v1 u) miX2_hasGood mvX2_hasGood rfl (by decide) lk8_137 wI_ok (by decide +kernel) rfl (Nat.le_of_ble_eq_true rfl) (by decide) rfl (fun q1 hq1 => ?_)
  refine g_zne (off := 6) (tgt := 14) (pc2 := 11) (by decide +kernel) (by decide) rfl ?_ ?_
  · refine g_seg0 (pc' := 15) (L' := [some (vR (kO 8) 0), some (vI v1), some (vI v2)]) (st' := [vI v2]) (u1 := q1.2) [(oL 0 2, 1)] (by decide +kernel) rfl rfl ?_
    refine g_sw0 ?_
    refine g_sw1 (dflt := 52) (lo := 0) (hi := 2) (offs := #[25, 34, 43]) (len := 25) (k := 0) (t := 40) (by decide +kernel) (by decide +kernel) ?_ ?_
    · refine g_seg0 (pc' := 45) (L' := [some (vR (kO 8) 0), some (vI v1), some (vI v2)]) (st' := [vI v1, vR (kO 2) (q1.2.2.2 0)]) (u1 := q1.2) [(oL 2 0, 1), (oP (.getfield 19), 3), (oL 0 1, 1)] (by decide +kernel) rfl rfl ?_
      refine g_callV (k := 140) (pc2 := 48) (st := []) (CX2_worthOf (q1.2.2.2 0) v1 q1.2) miX2_worthOf mvX2_worthOf rfl (by decide) lk8_140 wI_ok (by decide +kernel) rfl (Nat.le_of_ble_eq_true rfl) (by decide) rfl (fun q2 hq2 => ?_)
      exact g_iret (by decide +kernel) rfl
    refine g_sw1 (dflt := 52) (lo := 0) (hi := 2) (offs := #[25, 34, 43]) (len := 25) (k := 1) (t := 49) (by decide +kernel) (by decide +kernel) ?_ ?_
    · refine g_seg0 (pc' := 54) (L' := [some (vR (kO 8) 0), some (vI v1), some (vI v2)]) (st' := [vI v1, vR (kO 2) (q1.2.2.2 0)]) (u1 := q1.2) [(oL 2 0, 1), (oP (.getfield 19), 3), (oL 0 1, 1)] (by decide +kernel) rfl rfl ?_
      refine g_callV (k := 143) (pc2 := 57) (st := []) (CX2_ownerOf (q1.2.2.2 0) v1 q1.2) miX2_ownerOf mvX2_ownerOf rfl (by decide) lk8_143 wI_ok (by decide +kernel) rfl (Nat.le_of_ble_eq_true rfl) (by decide) rfl (fun q3 hq3 => ?_)
      exact g_iret (by decide +kernel) rfl
    refine g_sw1 (dflt := 52) (lo := 0) (hi := 2) (offs := #[25, 34, 43]) (len := 25) (k := 2) (t := 58) (by decide +kernel) (by decide +kernel) ?_ ?_
    · refine g_seg0 (pc' := 63) (L' := [some (vR (kO 8) 0), some (vI v1), some (vI v2)]) (st' := [vI v1, vR (kO 5) 38]) (u1 := q1.2) [(oL 2 0, 1), (oP (.getfield 39), 3), (oL 0 1, 1)] (by decide +kernel) rfl rfl ?_
      refine g_callV (k := 146) (pc2 := 66) (st := []) (CX5_holderOf 38 v1 q1.2) miX5_holderOf mvX5_holderOf rfl (by decide) lk8_146 wI_ok (by decide +kernel) rfl (Nat.le_of_ble_eq_true rfl) (by decide) rfl (fun q4 hq4 => ?_)
      exact g_iret (by decide +kernel) rfl
    refine g_swd (dflt := 52) (lo := 0) (hi := 2) (offs := #[25, 34, 43]) (len := 25) (tgd := 67) (by decide +kernel) (by decide) (by decide +kernel) ?_
    refine g_seg0 (pc' := 69) (L' := [some (vR (kO 8) 0), some (vI v1), some (vI v2)]) (st' := [vI (-2)]) (u1 := q1.2) [(oC (-2), 2)] (by decide +kernel) rfl rfl ?_
    exact g_iret (by decide +kernel) rfl
  · refine g_seg0 (pc' := 13) (L' := [some (vR (kO 8) 0), some (vI v1), some (vI v2)]) (st' := [vI (-2)]) (u1 := q1.2) [(oC (-2), 2)] (by decide +kernel) rfl rfl ?_
    exact g_iret (by decide +kernel) rfl
theorem CX9_good (v1 : Int32) (v2 : Int32) (u : ab_S) : ab_C 0 yX9_good cX9_good 3 (some .int) 2 [vR (kO 8) 0, vI v1, vI v2] u wI (fX9_good v1 v2 u) := ab_entry (by decide +kernel) rfl (by decide) (by decide) (fun _ => Nat.le_of_ble_eq_true rfl) rfl (tX9_good v1 v2 u)
def fX2_fitBy (o0 : Nat) (v1 : Int32) (v2 : Int32) (v3 : Int32) (u : ab_S) : Option (Int32 × ab_S) :=
  (fX2_fitIndex v1 v2 v3 u).bind fun q1 =>
    (fX9_at 384 (o0 + 11) q1.1 q1.2).bind fun q2 =>
      some (q2.1, q2.2)
theorem tX2_fitBy (o0 : Nat) (v1 : Int32) (v2 : Int32) (v3 : Int32) (u : ab_S) : ab_G 0 2 cX2_fitBy (some .int) 1 0 [some (vR (kO 2) o0), some (vI v1), some (vI v2), some (vI v3)] [] u wI (fX2_fitBy o0 v1 v2 v3 u) := by
  rw [fX2_fitBy]
  refine g_seg0 (pc' := 7) (L' := [some (vR (kO 2) o0), some (vI v1), some (vI v2), some (vI v3)]) (st' := [vI v3, vI v2, vI v1, vR (kA 0 384) (o0 + 11)]) (u1 := u) [(oL 2 0, 1), (oP (.getfield 41), 3), (oL 0 1, 1), (oL 0 2, 1), (oL 0 3, 1)] (by decide +kernel) rfl rfl ?_
  refine g_callS (k := 212) (pc2 := 10) (st := [vR (kA 0 384) (o0 + 11)]) (CX2_fitIndex v1 v2 v3 u) miX2_fitIndex msX2_fitIndex lk2_212 wI_ok (by decide +kernel) rfl (Nat.le_of_ble_eq_true rfl) (by decide) rfl (fun q1 hq1 => ?_)
  refine g_callS (k := 224) (pc2 := 13) (st := []) (CX9_at 384 (o0 + 11) q1.1 q1.2) miX9_at msX9_at lk2_224 wI_ok (by decide +kernel) rfl (Nat.le_of_ble_eq_true rfl) (by decide) rfl (fun q2 hq2 => ?_)
  exact g_iret (by decide +kernel) rfl
theorem CX2_fitBy (o0 : Nat) (v1 : Int32) (v2 : Int32) (v3 : Int32) (u : ab_S) : ab_C 0 yX2_fitBy cX2_fitBy 4 (some .int) 1 [vR (kO 2) o0, vI v1, vI v2, vI v3] u wI (fX2_fitBy o0 v1 v2 v3 u) := ab_entry (by decide +kernel) rfl (by decide) (by decide) (fun _ => Nat.le_of_ble_eq_true rfl) rfl (tX2_fitBy o0 v1 v2 v3 u)
def fJ6_bitCount_0f7a4 (v0 : Int32) (u : ab_S) : Option (Int32 × ab_S) :=
  some (((((((((v0 - (((Int32.toUInt32 v0 >>> (Int32.toUInt32 1 &&& Int32.toUInt32 31)).toInt32) &&& 1431655765)) &&& 858993459) + (((Int32.toUInt32 (v0 - (((Int32.toUInt32 v0 >>> (Int32.toUInt32 1 &&& Int32.toUInt32 31)).toInt32) &&& 1431655765)) >>> (Int32.toUInt32 2 &&& Int32.toUInt32 31)).toInt32) &&& 858993459)) + ((Int32.toUInt32 (((v0 - (((Int32.toUInt32 v0 >>> (Int32.toUInt32 1 &&& Int32.toUInt32 31)).toInt32) &&& 1431655765)) &&& 858993459) + (((Int32.toUInt32 (v0 - (((Int32.toUInt32 v0 >>> (Int32.toUInt32 1 &&& Int32.toUInt32 31)).toInt32) &&& 1431655765)) >>> (Int32.toUInt32 2 &&& Int32.toUInt32 31)).toInt32) &&& 858993459)) >>> (Int32.toUInt32 4 &&& Int32.toUInt32 31)).toInt32)) &&& 252645135) + ((Int32.toUInt32 (((((v0 - (((Int32.toUInt32 v0 >>> (Int32.toUInt32 1 &&& Int32.toUInt32 31)).toInt32) &&& 1431655765)) &&& 858993459) + (((Int32.toUInt32 (v0 - (((Int32.toUInt32 v0 >>> (Int32.toUInt32 1 &&& Int32.toUInt32 31)).toInt32) &&& 1431655765)) >>> (Int32.toUInt32 2 &&& Int32.toUInt32 31)).toInt32) &&& 858993459)) + ((Int32.toUInt32 (((v0 - (((Int32.toUInt32 v0 >>> (Int32.toUInt32 1 &&& Int32.toUInt32 31)).toInt32) &&& 1431655765)) &&& 858993459) + (((Int32.toUInt32 (v0 - (((Int32.toUInt32 v0 >>> (Int32.toUInt32 1 &&& Int32.toUInt32 31)).toInt32) &&& 1431655765)) >>> (Int32.toUInt32 2 &&& Int32.toUInt32 31)).toInt32) &&& 858993459)) >>> (Int32.toUInt32 4 &&& Int32.toUInt32 31)).toInt32)) &&& 252645135) >>> (Int32.toUInt32 8 &&& Int32.toUInt32 31)).toInt32)) + ((Int32.toUInt32 ((((((v0 - (((Int32.toUInt32 v0 >>> (Int32.toUInt32 1 &&& Int32.toUInt32 31)).toInt32) &&& 1431655765)) &&& 858993459) + (((Int32.toUInt32 (v0 - (((Int32.toUInt32 v0 >>> (Int32.toUInt32 1 &&& Int32.toUInt32 31)).toInt32) &&& 1431655765)) >>> (Int32.toUInt32 2 &&& Int32.toUInt32 31)).toInt32) &&& 858993459)) + ((Int32.toUInt32 (((v0 - (((Int32.toUInt32 v0 >>> (Int32.toUInt32 1 &&& Int32.toUInt32 31)).toInt32) &&& 1431655765)) &&& 858993459) + (((Int32.toUInt32 (v0 - (((Int32.toUInt32 v0 >>> (Int32.toUInt32 1 &&& Int32.toUInt32 31)).toInt32) &&& 1431655765)) >>> (Int32.toUInt32 2 &&& Int32.toUInt32 31)).toInt32) &&& 858993459)) >>> (Int32.toUInt32 4 &&& Int32.toUInt32 31)).toInt32)) &&& 252645135) + ((Int32.toUInt32 (((((v0 - (((Int32.toUInt32 v0 >>> (Int32.toUInt32 1 &&& Int32.toUInt32 31)).toInt32) &&& 1431655765)) &&& 858993459) + (((Int32.toUInt32 (v0 - (((Int32.toUInt32 v0 >>> (Int32.toUInt32 1 &&& Int32.toUInt32 31)).toInt32) &&& 1431655765)) >>> (Int32.toUInt32 2 &&& Int32.toUInt32 31)).toInt32) &&& 858993459)) + ((Int32.toUInt32 (((v0 - (((Int32.toUInt32 v0 >>> (Int32.toUInt32 1 &&& Int32.toUInt32 31)).toInt32) &&& 1431655765)) &&& 858993459) + (((Int32.toUInt32 (v0 - (((Int32.toUInt32 v0 >>> (Int32.toUInt32 1 &&& Int32.toUInt32 31)).toInt32) &&& 1431655765)) >>> (Int32.toUInt32 2 &&& Int32.toUInt32 31)).toInt32) &&& 858993459)) >>> (Int32.toUInt32 4 &&& Int32.toUInt32 31)).toInt32)) &&& 252645135) >>> (Int32.toUInt32 8 &&& Int32.toUInt32 31)).toInt32)) >>> (Int32.toUInt32 16 &&& Int32.toUInt32 31)).toInt32)) &&& 63), u)
theorem tJ6_bitCount_0f7a4 (v0 : Int32) (u : ab_S) : ab_G 0 11 cJ6_bitCount_0f7a4 (some .int) 0 0 [some (vI v0)] [] u wI (fJ6_bitCount_0f7a4 v0 u) := by
  rw [fJ6_bitCount_0f7a4]
  refine g_seg0 (pc' := 52) (L' := [some (vI (((((((v0 - (((Int32.toUInt32 v0 >>> (Int32.toUInt32 1 &&& Int32.toUInt32 31)).toInt32) &&& 1431655765)) &&& 858993459) + (((Int32.toUInt32 (v0 - (((Int32.toUInt32 v0 >>> (Int32.toUInt32 1 &&& Int32.toUInt32 31)).toInt32) &&& 1431655765)) >>> (Int32.toUInt32 2 &&& Int32.toUInt32 31)).toInt32) &&& 858993459)) + ((Int32.toUInt32 (((v0 - (((Int32.toUInt32 v0 >>> (Int32.toUInt32 1 &&& Int32.toUInt32 31)).toInt32) &&& 1431655765)) &&& 858993459) + (((Int32.toUInt32 (v0 - (((Int32.toUInt32 v0 >>> (Int32.toUInt32 1 &&& Int32.toUInt32 31)).toInt32) &&& 1431655765)) >>> (Int32.toUInt32 2 &&& Int32.toUInt32 31)).toInt32) &&& 858993459)) >>> (Int32.toUInt32 4 &&& Int32.toUInt32 31)).toInt32)) &&& 252645135) + ((Int32.toUInt32 (((((v0 - (((Int32.toUInt32 v0 >>> (Int32.toUInt32 1 &&& Int32.toUInt32 31)).toInt32) &&& 1431655765)) &&& 858993459) + (((Int32.toUInt32 (v0 - (((Int32.toUInt32 v0 >>> (Int32.toUInt32 1 &&& Int32.toUInt32 31)).toInt32) &&& 1431655765)) >>> (Int32.toUInt32 2 &&& Int32.toUInt32 31)).toInt32) &&& 858993459)) + ((Int32.toUInt32 (((v0 - (((Int32.toUInt32 v0 >>> (Int32.toUInt32 1 &&& Int32.toUInt32 31)).toInt32) &&& 1431655765)) &&& 858993459) + (((Int32.toUInt32 (v0 - (((Int32.toUInt32 v0 >>> (Int32.toUInt32 1 &&& Int32.toUInt32 31)).toInt32) &&& 1431655765)) >>> (Int32.toUInt32 2 &&& Int32.toUInt32 31)).toInt32) &&& 858993459)) >>> (Int32.toUInt32 4 &&& Int32.toUInt32 31)).toInt32)) &&& 252645135) >>> (Int32.toUInt32 8 &&& Int32.toUInt32 31)).toInt32)) + ((Int32.toUInt32 ((((((v0 - (((Int32.toUInt32 v0 >>> (Int32.toUInt32 1 &&& Int32.toUInt32 31)).toInt32) &&& 1431655765)) &&& 858993459) + (((Int32.toUInt32 (v0 - (((Int32.toUInt32 v0 >>> (Int32.toUInt32 1 &&& Int32.toUInt32 31)).toInt32) &&& 1431655765)) >>> (Int32.toUInt32 2 &&& Int32.toUInt32 31)).toInt32) &&& 858993459)) + ((Int32.toUInt32 (((v0 - (((Int32.toUInt32 v0 >>> (Int32.toUInt32 1 &&& Int32.toUInt32 31)).toInt32) &&& 1431655765)) &&& 858993459) + (((Int32.toUInt32 (v0 - (((Int32.toUInt32 v0 >>> (Int32.toUInt32 1 &&& Int32.toUInt32 31)).toInt32) &&& 1431655765)) >>> (Int32.toUInt32 2 &&& Int32.toUInt32 31)).toInt32) &&& 858993459)) >>> (Int32.toUInt32 4 &&& Int32.toUInt32 31)).toInt32)) &&& 252645135) + ((Int32.toUInt32 (((((v0 - (((Int32.toUInt32 v0 >>> (Int32.toUInt32 1 &&& Int32.toUInt32 31)).toInt32) &&& 1431655765)) &&& 858993459) + (((Int32.toUInt32 (v0 - (((Int32.toUInt32 v0 >>> (Int32.toUInt32 1 &&& Int32.toUInt32 31)).toInt32) &&& 1431655765)) >>> (Int32.toUInt32 2 &&& Int32.toUInt32 31)).toInt32) &&& 858993459)) + ((Int32.toUInt32 (((v0 - (((Int32.toUInt32 v0 >>> (Int32.toUInt32 1 &&& Int32.toUInt32 31)).toInt32) &&& 1431655765)) &&& 858993459) + (((Int32.toUInt32 (v0 - (((Int32.toUInt32 v0 >>> (Int32.toUInt32 1 &&& Int32.toUInt32 31)).toInt32) &&& 1431655765)) >>> (Int32.toUInt32 2 &&& Int32.toUInt32 31)).toInt32) &&& 858993459)) >>> (Int32.toUInt32 4 &&& Int32.toUInt32 31)).toInt32)) &&& 252645135) >>> (Int32.toUInt32 8 &&& Int32.toUInt32 31)).toInt32)) >>> (Int32.toUInt32 16 &&& Int32.toUInt32 31)).toInt32)))]) (st' := [vI ((((((((v0 - (((Int32.toUInt32 v0 >>> (Int32.toUInt32 1 &&& Int32.toUInt32 31)).toInt32) &&& 1431655765)) &&& 858993459) + (((Int32.toUInt32 (v0 - (((Int32.toUInt32 v0 >>> (Int32.toUInt32 1 &&& Int32.toUInt32 31)).toInt32) &&& 1431655765)) >>> (Int32.toUInt32 2 &&& Int32.toUInt32 31)).toInt32) &&& 858993459)) + ((Int32.toUInt32 (((v0 - (((Int32.toUInt32 v0 >>> (Int32.toUInt32 1 &&& Int32.toUInt32 31)).toInt32) &&& 1431655765)) &&& 858993459) + (((Int32.toUInt32 (v0 - (((Int32.toUInt32 v0 >>> (Int32.toUInt32 1 &&& Int32.toUInt32 31)).toInt32) &&& 1431655765)) >>> (Int32.toUInt32 2 &&& Int32.toUInt32 31)).toInt32) &&& 858993459)) >>> (Int32.toUInt32 4 &&& Int32.toUInt32 31)).toInt32)) &&& 252645135) + ((Int32.toUInt32 (((((v0 - (((Int32.toUInt32 v0 >>> (Int32.toUInt32 1 &&& Int32.toUInt32 31)).toInt32) &&& 1431655765)) &&& 858993459) + (((Int32.toUInt32 (v0 - (((Int32.toUInt32 v0 >>> (Int32.toUInt32 1 &&& Int32.toUInt32 31)).toInt32) &&& 1431655765)) >>> (Int32.toUInt32 2 &&& Int32.toUInt32 31)).toInt32) &&& 858993459)) + ((Int32.toUInt32 (((v0 - (((Int32.toUInt32 v0 >>> (Int32.toUInt32 1 &&& Int32.toUInt32 31)).toInt32) &&& 1431655765)) &&& 858993459) + (((Int32.toUInt32 (v0 - (((Int32.toUInt32 v0 >>> (Int32.toUInt32 1 &&& Int32.toUInt32 31)).toInt32) &&& 1431655765)) >>> (Int32.toUInt32 2 &&& Int32.toUInt32 31)).toInt32) &&& 858993459)) >>> (Int32.toUInt32 4 &&& Int32.toUInt32 31)).toInt32)) &&& 252645135) >>> (Int32.toUInt32 8 &&& Int32.toUInt32 31)).toInt32)) + ((Int32.toUInt32 ((((((v0 - (((Int32.toUInt32 v0 >>> (Int32.toUInt32 1 &&& Int32.toUInt32 31)).toInt32) &&& 1431655765)) &&& 858993459) + (((Int32.toUInt32 (v0 - (((Int32.toUInt32 v0 >>> (Int32.toUInt32 1 &&& Int32.toUInt32 31)).toInt32) &&& 1431655765)) >>> (Int32.toUInt32 2 &&& Int32.toUInt32 31)).toInt32) &&& 858993459)) + ((Int32.toUInt32 (((v0 - (((Int32.toUInt32 v0 >>> (Int32.toUInt32 1 &&& Int32.toUInt32 31)).toInt32) &&& 1431655765)) &&& 858993459) + (((Int32.toUInt32 (v0 - (((Int32.toUInt32 v0 >>> (Int32.toUInt32 1 &&& Int32.toUInt32 31)).toInt32) &&& 1431655765)) >>> (Int32.toUInt32 2 &&& Int32.toUInt32 31)).toInt32) &&& 858993459)) >>> (Int32.toUInt32 4 &&& Int32.toUInt32 31)).toInt32)) &&& 252645135) + ((Int32.toUInt32 (((((v0 - (((Int32.toUInt32 v0 >>> (Int32.toUInt32 1 &&& Int32.toUInt32 31)).toInt32) &&& 1431655765)) &&& 858993459) + (((Int32.toUInt32 (v0 - (((Int32.toUInt32 v0 >>> (Int32.toUInt32 1 &&& Int32.toUInt32 31)).toInt32) &&& 1431655765)) >>> (Int32.toUInt32 2 &&& Int32.toUInt32 31)).toInt32) &&& 858993459)) + ((Int32.toUInt32 (((v0 - (((Int32.toUInt32 v0 >>> (Int32.toUInt32 1 &&& Int32.toUInt32 31)).toInt32) &&& 1431655765)) &&& 858993459) + (((Int32.toUInt32 (v0 - (((Int32.toUInt32 v0 >>> (Int32.toUInt32 1 &&& Int32.toUInt32 31)).toInt32) &&& 1431655765)) >>> (Int32.toUInt32 2 &&& Int32.toUInt32 31)).toInt32) &&& 858993459)) >>> (Int32.toUInt32 4 &&& Int32.toUInt32 31)).toInt32)) &&& 252645135) >>> (Int32.toUInt32 8 &&& Int32.toUInt32 31)).toInt32)) >>> (Int32.toUInt32 16 &&& Int32.toUInt32 31)).toInt32)) &&& 63)]) (u1 := u) [(oL 0 0, 1), (oL 0 0, 1), (oC 1, 1), (oP .iushr, 1), (oC 1431655765, 3), (oP .iand, 1), (oP .isub, 1), (oL 3 0, 1), (oL 0 0, 1), (oC 858993459, 3), (oP .iand, 1), (oL 0 0, 1), (oC 2, 1), (oP .iushr, 1), (oC 858993459, 3), (oP .iand, 1), (oP .iadd, 1), (oL 3 0, 1), (oL 0 0, 1), (oL 0 0, 1), (oC 4, 1), (oP .iushr, 1), (oP .iadd, 1), (oC 252645135, 3), (oP .iand, 1), (oL 3 0, 1), (oL 0 0, 1), (oL 0 0, 1), (oC 8, 2), (oP .iushr, 1), (oP .iadd, 1), (oL 3 0, 1), (oL 0 0, 1), (oL 0 0, 1), (oC 16, 2), (oP .iushr, 1), (oP .iadd, 1), (oL 3 0, 1), (oL 0 0, 1), (oC 63, 2), (oP .iand, 1)] (by decide +kernel) rfl rfl ?_
  exact g_iret (by decide +kernel) rfl
theorem CJ6_bitCount_0f7a4 (v0 : Int32) (u : ab_S) : ab_C 0 yJ6_bitCount_0f7a4 cJ6_bitCount_0f7a4 1 (some .int) 0 [vI v0] u wI (fJ6_bitCount_0f7a4 v0 u) := ab_entry (by decide +kernel) rfl (by decide) (by decide) (fun _ => Nat.le_of_ble_eq_true rfl) rfl (tJ6_bitCount_0f7a4 v0 u)
def fX5_fitOf (o0 : Nat) (o1 : Nat) (v2 : Int32) (v3 : Int32) (u : ab_S) : Option (Int32 × ab_S) :=
  (fX5_bitsOf o0 v2 u).bind fun q1 =>
    (fJ6_bitCount_0f7a4 (q1.1 &&& (((1 : Int32) <<< (v3 &&& 31)) ^^^ (-1))) q1.2).bind fun q2 =>
      (fX2_fitBy o1 v2 v3 q2.1 q2.2).bind fun q3 =>
        some (q3.1, q3.2)
theorem tX5_fitOf (o0 : Nat) (o1 : Nat) (v2 : Int32) (v3 : Int32) (u : ab_S) : ab_G 0 5 cX5_fitOf (some .int) 2 0 [some (vR (kO 5) o0), some (vR (kO 2) o1), some (vI v2), some (vI v3), none] [] u wI (fX5_fitOf o0 o1 v2 v3 u) := by
  rw [fX5_fitOf]
  refine g_seg0 (pc' := 2) (L' := [some (vR (kO 5) o0), some (vR (kO 2) o1), some (vI v2), some (vI v3), none]) (st' := [vI v2, vR (kO 5) o0]) (u1 := u) [(oL 2 0, 1), (oL 0 2, 1)] (by decide +kernel) rfl rfl ?_
  refine g_callV (k := 60) (pc2 := 5) (st := []) (CX5_bitsOf o0 v2 u) miX5_bitsOf mvX5_bitsOf rfl (by decide) lk5_60 wI_ok (by decide +kernel) rfl (Nat.le_of_ble_eq_true rfl) (by decide) rfl (fun q1 hq1 => ?_)
  refine g_seg0 (pc' := 18) (L' := [some (vR (kO 5) o0), some (vR (kO 2) o1), some (vI v2), some (vI v3), some (vI (q1.1 &&& (((1 : Int32) <<< (v3 &&& 31)) ^^^ (-1))))]) (st' := [vI (q1.1 &&& (((1 : Int32) <<< (v3 &&& 31)) ^^^ (-1))), vI v3, vI v2, vR (kO 2) o1]) (u1 := q1.2) [(oC 1, 1), (oL 0 3, 1), (oP .ishl, 1), (oC (-1), 1), (oP .ixor, 1), (oP .iand, 1), (oL 3 4, 2), (oL 2 1, 1), (oL 0 2, 1), (oL 0 3, 1), (oL 0 4, 2)] (by decide +kernel) rfl rfl ?_
  refine g_callS (k := 73) (pc2 := 21) (st := [vI v3, vI v2, vR (kO 2) o1]) (CJ6_bitCount_0f7a4 (q1.1 &&& (((1 : Int32) <<< (v3 &&& 31)) ^^^ (-1))) q1.2) miJ6_bitCount_0f7a4 msJ6_bitCount_0f7a4 lk5_73 wI_ok (by decide +kernel) rfl (Nat.le_of_ble_eq_true rfl) (by decide) rfl (fun q2 hq2 => ?_)
  refine g_callV (k := 78) (pc2 := 24) (st := []) (CX2_fitBy o1 v2 v3 q2.1 q2.2) miX2_fitBy mvX2_fitBy rfl (by decide) lk5_78 wI_ok (by decide +kernel) rfl (Nat.le_of_ble_eq_true rfl) (by decide) rfl (fun q3 hq3 => ?_)
  exact g_iret (by decide +kernel) rfl
theorem CX5_fitOf (o0 : Nat) (o1 : Nat) (v2 : Int32) (v3 : Int32) (u : ab_S) : ab_C 0 yX5_fitOf cX5_fitOf 5 (some .int) 2 [vR (kO 5) o0, vR (kO 2) o1, vI v2, vI v3] u wI (fX5_fitOf o0 o1 v2 v3 u) := ab_entry (by decide +kernel) rfl (by decide) (by decide) (fun _ => Nat.le_of_ble_eq_true rfl) rfl (tX5_fitOf o0 o1 v2 v3 u)
def fX9_fit (v1 : Int32) (v2 : Int32) (u : ab_S) : Option (Int32 × ab_S) :=
  (fX2_hasPerson (u.2.2 0) v1 u).bind fun q1 =>
    bif decide (q1.1 = 0) then (
      some ((-1), q1.2))
    else (
      (fX2_hasGood (q1.2.2.2 0) v2 q1.2).bind fun q2 =>
        bif decide (q2.1 = 0) then (
          some ((-1), q2.2))
        else (
          (fX5_fitOf 38 (q2.2.2.2 0) v1 v2 q2.2).bind fun q3 =>
            some (q3.1, q3.2)))
theorem tX9_fit (v1 : Int32) (v2 : Int32) (u : ab_S) : ab_G 0 8 cX9_fit (some .int) 3 0 [some (vR (kO 8) 0), some (vI v1), some (vI v2)] [] u wI (fX9_fit v1 v2 u) := by
  rw [fX9_fit]
  refine g_seg0 (pc' := 5) (L' := [some (vR (kO 8) 0), some (vI v1), some (vI v2)]) (st' := [vI v1, vR (kO 2) (u.2.2 0)]) (u1 := u) [(oL 2 0, 1), (oP (.getfield 19), 3), (oL 0 1, 1)] (by decide +kernel) rfl rfl ?_
  refine g_callV (k := 120) (pc2 := 8) (st := []) (CX2_hasPerson (u.2.2 0) v1 u) miX2_hasPerson mvX2_hasPerson rfl (by decide) lk8_120 wI_ok (by decide +kernel) rfl (Nat.le_of_ble_eq_true rfl) (by decide) rfl (fun q1 hq1 => ?_)
  refine g_zeq (off := 14) (tgt := 22) (pc2 := 11) (by decide +kernel) (by decide) rfl ?_ ?_
  · refine g_seg0 (pc' := 23) (L' := [some (vR (kO 8) 0), some (vI v1), some (vI v2)]) (st' := [vI (-1)]) (u1 := q1.2) [(oC (-1), 1)] (by decide +kernel) rfl rfl ?_
    exact g_iret (by decide +kernel) rfl
  · refine g_seg0 (pc' := 16) (L' := [some (vR (kO 8) 0), some (vI v1), some (vI v2)]) (st' := [vI v2, vR (kO 2) (q1.2.2.2 0)]) (u1 := q1.2) [(oL 2 0, 1), (oP (.getfield 19), 3), (oL 0 2, 1)] (by decide +kernel) rfl rfl ?_
    refine g_callV (k := 137) (pc2 := 19) (st := []) (CX2_hasGood (q1.2.2.2 0) v2 q1.2) miX2_hasGood mvX2_hasGood rfl (by decide) lk8_137 wI_ok (by decide +kernel) rfl (Nat.le_of_ble_eq_true rfl) (by decide) rfl (fun q2 hq2 => ?_)
    refine g_zne (off := 5) (tgt := 24) (pc2 := 22) (by decide +kernel) (by decide) rfl ?_ ?_
    · refine g_seg0 (pc' := 34) (L' := [some (vR (kO 8) 0), some (vI v1), some (vI v2)]) (st' := [vI v2, vI v1, vR (kO 2) (q2.2.2.2 0), vR (kO 5) 38]) (u1 := q2.2) [(oL 2 0, 1), (oP (.getfield 39), 3), (oL 2 0, 1), (oP (.getfield 19), 3), (oL 0 1, 1), (oL 0 2, 1)] (by decide +kernel) rfl rfl ?_
      refine g_callV (k := 149) (pc2 := 37) (st := []) (CX5_fitOf 38 (q2.2.2.2 0) v1 v2 q2.2) miX5_fitOf mvX5_fitOf rfl (by decide) lk8_149 wI_ok (by decide +kernel) rfl (Nat.le_of_ble_eq_true rfl) (by decide) rfl (fun q3 hq3 => ?_)
      exact g_iret (by decide +kernel) rfl
    · refine g_seg0 (pc' := 23) (L' := [some (vR (kO 8) 0), some (vI v1), some (vI v2)]) (st' := [vI (-1)]) (u1 := q2.2) [(oC (-1), 1)] (by decide +kernel) rfl rfl ?_
      exact g_iret (by decide +kernel) rfl
theorem CX9_fit (v1 : Int32) (v2 : Int32) (u : ab_S) : ab_C 0 yX9_fit cX9_fit 3 (some .int) 3 [vR (kO 8) 0, vI v1, vI v2] u wI (fX9_fit v1 v2 u) := ab_entry (by decide +kernel) rfl (by decide) (by decide) (fun _ => Nat.le_of_ble_eq_true rfl) rfl (tX9_fit v1 v2 u)
def fX5_takeTicket (o0 : Nat) (v1 : Int32) (u : ab_S) : Option (Unit × ab_S) :=
  (fX5_shillingsOf o0 v1 u).bind fun q1 =>
    (fX9_put 6 (o0 + 2) v1 (q1.1 - 1) q1.2).bind fun q2 =>
      (fX5_ticketsOf o0 v1 q2.2).bind fun q3 =>
        (fX9_put 6 (o0 + 3) v1 (q3.1 + 1) q3.2).bind fun q4 =>
          some ((), q4.2)
theorem tX5_takeTicket (o0 : Nat) (v1 : Int32) (u : ab_S) : ab_G 0 5 cX5_takeTicket none 2 0 [some (vR (kO 5) o0), some (vI v1)] [] u wV (fX5_takeTicket o0 v1 u) := by
  rw [fX5_takeTicket]
  refine g_seg0 (pc' := 7) (L' := [some (vR (kO 5) o0), some (vI v1)]) (st' := [vI v1, vR (kO 5) o0, vI v1, vR (kA 0 6) (o0 + 2)]) (u1 := u) [(oL 2 0, 1), (oP (.getfield 15), 3), (oL 0 1, 1), (oL 2 0, 1), (oL 0 1, 1)] (by decide +kernel) rfl rfl ?_
  refine g_callV (k := 90) (pc2 := 10) (st := [vI v1, vR (kA 0 6) (o0 + 2)]) (CX5_shillingsOf o0 v1 u) miX5_shillingsOf mvX5_shillingsOf rfl (by decide) lk5_90 wI_ok (by decide +kernel) rfl (Nat.le_of_ble_eq_true rfl) (by decide) rfl (fun q1 hq1 => ?_)
  refine g_seg0 (pc' := 12) (L' := [some (vR (kO 5) o0), some (vI v1)]) (st' := [vI (q1.1 - 1), vI v1, vR (kA 0 6) (o0 + 2)]) (u1 := q1.2) [(oC 1, 1), (oP .isub, 1)] (by decide +kernel) rfl rfl ?_
  refine g_callS (k := 21) (pc2 := 15) (st := []) (CX9_put 6 (o0 + 2) v1 (q1.1 - 1) q1.2) miX9_put msX9_put lk5_21 wV_ok (by decide +kernel) rfl (Nat.le_of_ble_eq_true rfl) (by decide) rfl (fun q2 hq2 => ?_)
  refine g_seg0 (pc' := 22) (L' := [some (vR (kO 5) o0), some (vI v1)]) (st' := [vI v1, vR (kO 5) o0, vI v1, vR (kA 0 6) (o0 + 3)]) (u1 := q2.2) [(oL 2 0, 1), (oP (.getfield 18), 3), (oL 0 1, 1), (oL 2 0, 1), (oL 0 1, 1)] (by decide +kernel) rfl rfl ?_
  refine g_callV (k := 93) (pc2 := 25) (st := [vI v1, vR (kA 0 6) (o0 + 3)]) (CX5_ticketsOf o0 v1 q2.2) miX5_ticketsOf mvX5_ticketsOf rfl (by decide) lk5_93 wI_ok (by decide +kernel) rfl (Nat.le_of_ble_eq_true rfl) (by decide) rfl (fun q3 hq3 => ?_)
  refine g_seg0 (pc' := 27) (L' := [some (vR (kO 5) o0), some (vI v1)]) (st' := [vI (q3.1 + 1), vI v1, vR (kA 0 6) (o0 + 3)]) (u1 := q3.2) [(oC 1, 1), (oP .iadd, 1)] (by decide +kernel) rfl rfl ?_
  refine g_callS (k := 21) (pc2 := 30) (st := []) (CX9_put 6 (o0 + 3) v1 (q3.1 + 1) q3.2) miX9_put msX9_put lk5_21 wV_ok (by decide +kernel) rfl (Nat.le_of_ble_eq_true rfl) (by decide) rfl (fun q4 hq4 => ?_)
  exact g_vret (by decide +kernel) rfl
theorem CX5_takeTicket (o0 : Nat) (v1 : Int32) (u : ab_S) : ab_C 0 yX5_takeTicket cX5_takeTicket 2 none 2 [vR (kO 5) o0, vI v1] u wV (fX5_takeTicket o0 v1 u) := ab_entry (by decide +kernel) rfl (by decide) (by decide) (fun _ => Nat.le_of_ble_eq_true rfl) rfl (tX5_takeTicket o0 v1 u)
def fX9_copy_2 (n0 : Nat) (o0 : Nat) (n1 : Nat) (o1 : Nat) : Nat → Int32 → ab_S → Option (Unit × ab_S)
  | 0, _, _ => none
  | n + 1, v2, u =>
  bif decide (v2 < (Int32.ofNat n0)) then (
    bif decide (v2 < (Int32.ofNat n1)) then (
      ab_gd [ab_ix v2 n0, ab_ix v2 n1] (
        (fX9_copy_2 n0 o0 n1 o1 n) (v2 + 1) (sI u o1 (nc v2) (u.1 o0 (nc v2)))))
    else (
      some ((), u)))
  else (
    some ((), u))
theorem tX9_copy_2 (n0 : Nat) (o0 : Nat) (n1 : Nat) (o1 : Nat) : ∀ (n : Nat) (v2 : Int32) (u : ab_S), ab_G 0 8 cX9_copy none 0 2 [some (vR (kA 0 n0) o0), some (vR (kA 0 n1) o1), some (vI v2)] [] u wV (fX9_copy_2 n0 o0 n1 o1 n v2 u) := by
  intro n
  induction n with
  | zero => intros; exact g_none
  | succ n ih =>
    intro v2 u
    rw [fX9_copy_2]
    refine g_seg0 (pc' := 5) (L' := [some (vR (kA 0 n0) o0), some (vR (kA 0 n1) o1), some (vI v2)]) (st' := [vI (Int32.ofNat n0), vI v2]) (u1 := u) [(oL 0 2, 1), (oL 2 0, 1), (oP .arraylength, 1)] (by decide +kernel) rfl rfl ?_
    refine g_ige (off := 21) (tgt := 26) (pc2 := 8) (by decide +kernel) (by decide) rfl ?_ ?_
    · exact g_vret (by decide +kernel) rfl
    · refine g_seg0 (pc' := 11) (L' := [some (vR (kA 0 n0) o0), some (vR (kA 0 n1) o1), some (vI v2)]) (st' := [vI (Int32.ofNat n1), vI v2]) (u1 := u) [(oL 0 2, 1), (oL 2 1, 1), (oP .arraylength, 1)] (by decide +kernel) rfl rfl ?_
      refine g_ige (off := 15) (tgt := 26) (pc2 := 14) (by decide +kernel) (by decide) rfl ?_ ?_
      · exact g_vret (by decide +kernel) rfl
      · refine g_seg (pc' := 23) (L' := [some (vR (kA 0 n0) o0), some (vR (kA 0 n1) o1), some (vI (v2 + 1))]) (st' := []) (u1 := (sI u o1 (nc v2) (u.1 o0 (nc v2)))) [(oL 2 1, 1), (oL 0 2, 1), (oL 2 0, 1), (oL 0 2, 1), (oP .iaload, 1), (oP .iastore, 1), (oN 2 1, 3)] (by decide +kernel) rfl rfl ?_
        refine g_goto (off := (-21)) (tgt := 2) (by decide +kernel) (by decide) ?_
        exact ih (v2 + 1) (sI u o1 (nc v2) (u.1 o0 (nc v2)))
def fX9_copy (n0 : Nat) (o0 : Nat) (n1 : Nat) (o1 : Nat) (u : ab_S) : Option (Unit × ab_S) :=
  fX9_copy_2 n0 o0 n1 o1 fu 0 u
theorem tX9_copy (n0 : Nat) (o0 : Nat) (n1 : Nat) (o1 : Nat) (u : ab_S) : ab_G 0 8 cX9_copy none 0 0 [some (vR (kA 0 n0) o0), some (vR (kA 0 n1) o1), none] [] u wV (fX9_copy n0 o0 n1 o1 u) := by
  rw [fX9_copy]
  refine g_seg0 (pc' := 2) (L' := [some (vR (kA 0 n0) o0), some (vR (kA 0 n1) o1), some (vI 0)]) (st' := []) (u1 := u) [(oC 0, 1), (oL 3 2, 1)] (by decide +kernel) rfl rfl ?_
  exact tX9_copy_2 n0 o0 n1 o1 fu 0 u
theorem CX9_copy (n0 : Nat) (o0 : Nat) (n1 : Nat) (o1 : Nat) (u : ab_S) : ab_C 0 yX9_copy cX9_copy 3 none 0 [vR (kA 0 n0) o0, vR (kA 0 n1) o1] u wV (fX9_copy n0 o0 n1 o1 u) := ab_entry (by decide +kernel) rfl (by decide) (by decide) (fun _ => Nat.le_of_ble_eq_true rfl) rfl (tX9_copy n0 o0 n1 o1 u)
def fX5_copyOf (o0 : Nat) (o1 : Nat) (u : ab_S) : Option (Unit × ab_S) :=
  (fX9_copy 8 (o1 + 1) 8 (o0 + 1) u).bind fun q1 =>
    (fX9_copy 6 (o1 + 2) 6 (o0 + 2) q1.2).bind fun q2 =>
      (fX9_copy 6 (o1 + 3) 6 (o0 + 3) q2.2).bind fun q3 =>
        some ((), (sI (sJ q3.2 o0 3 (q3.2.2.1 o1 3)) o0 4 ((sJ q3.2 o0 3 (q3.2.2.1 o1 3)).1 o1 4)))
theorem tX5_copyOf (o0 : Nat) (o1 : Nat) (u : ab_S) : ab_G 0 5 cX5_copyOf none 1 0 [some (vR (kO 5) o0), some (vR (kO 5) o1)] [] u wV (fX5_copyOf o0 o1 u) := by
  rw [fX5_copyOf]
  refine g_seg0 (pc' := 8) (L' := [some (vR (kO 5) o0), some (vR (kO 5) o1)]) (st' := [vR (kA 0 8) (o0 + 1), vR (kA 0 8) (o1 + 1)]) (u1 := u) [(oL 2 1, 1), (oP (.getfield 9), 3), (oL 2 0, 1), (oP (.getfield 9), 3)] (by decide +kernel) rfl rfl ?_
  refine g_callS (k := 48) (pc2 := 11) (st := []) (CX9_copy 8 (o1 + 1) 8 (o0 + 1) u) miX9_copy msX9_copy lk5_48 wV_ok (by decide +kernel) rfl (Nat.le_of_ble_eq_true rfl) (by decide) rfl (fun q1 hq1 => ?_)
  refine g_seg0 (pc' := 19) (L' := [some (vR (kO 5) o0), some (vR (kO 5) o1)]) (st' := [vR (kA 0 6) (o0 + 2), vR (kA 0 6) (o1 + 2)]) (u1 := q1.2) [(oL 2 1, 1), (oP (.getfield 15), 3), (oL 2 0, 1), (oP (.getfield 15), 3)] (by decide +kernel) rfl rfl ?_
  refine g_callS (k := 48) (pc2 := 22) (st := []) (CX9_copy 6 (o1 + 2) 6 (o0 + 2) q1.2) miX9_copy msX9_copy lk5_48 wV_ok (by decide +kernel) rfl (Nat.le_of_ble_eq_true rfl) (by decide) rfl (fun q2 hq2 => ?_)
  refine g_seg0 (pc' := 30) (L' := [some (vR (kO 5) o0), some (vR (kO 5) o1)]) (st' := [vR (kA 0 6) (o0 + 3), vR (kA 0 6) (o1 + 3)]) (u1 := q2.2) [(oL 2 1, 1), (oP (.getfield 18), 3), (oL 2 0, 1), (oP (.getfield 18), 3)] (by decide +kernel) rfl rfl ?_
  refine g_callS (k := 48) (pc2 := 33) (st := []) (CX9_copy 6 (o1 + 3) 6 (o0 + 3) q2.2) miX9_copy msX9_copy lk5_48 wV_ok (by decide +kernel) rfl (Nat.le_of_ble_eq_true rfl) (by decide) rfl (fun q3 hq3 => ?_)
  refine g_seg0 (pc' := 49) (L' := [some (vR (kO 5) o0), some (vR (kO 5) o1)]) (st' := []) (u1 := (sI (sJ q3.2 o0 3 (q3.2.2.1 o1 3)) o0 4 ((sJ q3.2 o0 3 (q3.2.2.1 o1 3)).1 o1 4))) [(oL 2 0, 1), (oL 2 1, 1), (oP (.getfield 41), 3), (oP (.putfield 41), 3), (oL 2 0, 1), (oL 2 1, 1), (oP (.getfield 45), 3), (oP (.putfield 45), 3)] (by decide +kernel) rfl rfl ?_
  exact g_vret (by decide +kernel) rfl
theorem CX5_copyOf (o0 : Nat) (o1 : Nat) (u : ab_S) : ab_C 0 yX5_copyOf cX5_copyOf 2 none 1 [vR (kO 5) o0, vR (kO 5) o1] u wV (fX5_copyOf o0 o1 u) := ab_entry (by decide +kernel) rfl (by decide) (by decide) (fun _ => Nat.le_of_ble_eq_true rfl) rfl (tX5_copyOf o0 o1 u)
def fX9_remember_47 (u : ab_S) : Option (Unit × ab_S) :=
  none
theorem tX9_remember_47 (u : ab_S) : ab_G 0 8 cX9_remember none 2 47 [none, none, none] [] u wV (fX9_remember_47 u) := by
  rw [fX9_remember_47]
  exact g_none
def fX9_remember_24 (s0 : Int32) (u : ab_S) : Option (Unit × ab_S) :=
  bif decide (s0 < 0) then (
    fX9_remember_47 u)
  else (
    bif decide (s0 < 16) then (
      ab_gd [ab_ix s0 16] (
        (fX5_copyOf (51 + 4 * nc s0) 38 u).bind fun q1 =>
          some ((), (sI (sI q1.2 0 9 s0) 0 10 (if 16 < (((sI q1.2 0 9 s0).1 0 10) + 1) then 16 else (((sI q1.2 0 9 s0).1 0 10) + 1))))))
    else (
      fX9_remember_47 u))
theorem tX9_remember_24 (s0 : Int32) (u : ab_S) : ab_G 0 8 cX9_remember none 2 24 [some (vR (kO 8) 0), none, none] [vI s0] u wV (fX9_remember_24 s0 u) := by
  rw [fX9_remember_24]
  refine g_seg0 (pc' := 26) (L' := [some (vR (kO 8) 0), some (vI s0), none]) (st' := [vI s0]) (u1 := u) [(oL 3 1, 1), (oL 0 1, 1)] (by decide +kernel) rfl rfl ?_
  refine g_zlt (off := 21) (tgt := 47) (pc2 := 29) (by decide +kernel) (by decide) rfl ?_ ?_
  · exact g_jump [false, false, false] rfl (tX9_remember_47 u)
  · refine g_seg0 (pc' := 35) (L' := [some (vR (kO 8) 0), some (vI s0), none]) (st' := [vI 16, vI s0]) (u1 := u) [(oL 0 1, 1), (oL 2 0, 1), (oP (.getfield 53), 3), (oP .arraylength, 1)] (by decide +kernel) rfl rfl ?_
    refine g_ige (off := 12) (tgt := 47) (pc2 := 38) (by decide +kernel) (by decide) rfl ?_ ?_
    · exact g_jump [false, false, false] rfl (tX9_remember_47 u)
    · refine g_seg (pc' := 44) (L' := [some (vR (kO 8) 0), some (vI s0), none]) (st' := [vR (kO 5) (51 + 4 * nc s0)]) (u1 := u) [(oL 2 0, 1), (oP (.getfield 53), 3), (oL 0 1, 1), (oP .aaload, 1)] (by decide +kernel) rfl rfl ?_
      refine g_goto (off := 4) (tgt := 48) (by decide +kernel) (by decide) ?_
      refine g_seg0 (pc' := 50) (L' := [some (vR (kO 8) 0), some (vI s0), some (vR (kO 5) (51 + 4 * nc s0))]) (st' := [vR (kO 5) (51 + 4 * nc s0)]) (u1 := u) [(oL 5 2, 1), (oL 2 2, 1)] (by decide +kernel) rfl rfl ?_
      refine g_ifnull (off := 34) (pc2 := 53) (by decide +kernel) rfl ?_
      refine g_seg0 (pc' := 58) (L' := [some (vR (kO 8) 0), some (vI s0), some (vR (kO 5) (51 + 4 * nc s0))]) (st' := [vR (kO 5) 38, vR (kO 5) (51 + 4 * nc s0)]) (u1 := u) [(oL 2 2, 1), (oL 2 0, 1), (oP (.getfield 39), 3)] (by decide +kernel) rfl rfl ?_
      refine g_callV (k := 181) (pc2 := 61) (st := []) (CX5_copyOf (51 + 4 * nc s0) 38 u) miX5_copyOf mvX5_copyOf rfl (by decide) lk8_181 wV_ok (by decide +kernel) rfl (Nat.le_of_ble_eq_true rfl) (by decide) rfl (fun q1 hq1 => ?_)
      refine g_seg0 (pc' := 78) (L' := [some (vR (kO 8) 0), some (vI s0), some (vR (kO 5) (51 + 4 * nc s0))]) (st' := [vI 16, vI (((sI q1.2 0 9 s0).1 0 10) + 1), vR (kO 8) 0]) (u1 := (sI q1.2 0 9 s0)) [(oL 2 0, 1), (oL 0 1, 1), (oP (.putfield 178), 3), (oL 2 0, 1), (oL 2 0, 1), (oP (.getfield 110), 3), (oC 1, 1), (oP .iadd, 1), (oL 2 0, 1), (oP (.getfield 53), 3), (oP .arraylength, 1)] (by decide +kernel) rfl rfl ?_
      refine g_min (k := 185) (pc2 := 81) (st := [vR (kO 8) 0]) lm8_185 (by decide +kernel) (Nat.le_of_ble_eq_true rfl) (by decide) rfl ?_
      refine g_seg0 (pc' := 84) (L' := [some (vR (kO 8) 0), some (vI s0), some (vR (kO 5) (51 + 4 * nc s0))]) (st' := []) (u1 := (sI (sI q1.2 0 9 s0) 0 10 (if 16 < (((sI q1.2 0 9 s0).1 0 10) + 1) then 16 else (((sI q1.2 0 9 s0).1 0 10) + 1)))) [(oP (.putfield 110), 3)] (by decide +kernel) rfl rfl ?_
      exact g_vret (by decide +kernel) rfl
def fX9_remember (u : ab_S) : Option (Unit × ab_S) :=
  bif decide (((u.1 0 9) + 1) < 16) then (
    fX9_remember_24 ((u.1 0 9) + 1) u)
  else (
    fX9_remember_24 0 u)
theorem tX9_remember (u : ab_S) : ab_G 0 8 cX9_remember none 2 0 [some (vR (kO 8) 0), none, none] [] u wV (fX9_remember u) := by
  rw [fX9_remember]
  refine g_seg0 (pc' := 11) (L' := [some (vR (kO 8) 0), none, none]) (st' := [vI 16, vI ((u.1 0 9) + 1)]) (u1 := u) [(oL 2 0, 1), (oP (.getfield 178), 3), (oC 1, 1), (oP .iadd, 1), (oL 2 0, 1), (oP (.getfield 53), 3), (oP .arraylength, 1)] (by decide +kernel) rfl rfl ?_
  refine g_ige (off := 12) (tgt := 23) (pc2 := 14) (by decide +kernel) (by decide) rfl ?_ ?_
  · refine g_seg0 (pc' := 24) (L' := [some (vR (kO 8) 0), none, none]) (st' := [vI 0]) (u1 := u) [(oC 0, 1)] (by decide +kernel) rfl rfl ?_
    exact tX9_remember_24 0 u
  · refine g_seg0 (pc' := 20) (L' := [some (vR (kO 8) 0), none, none]) (st' := [vI ((u.1 0 9) + 1)]) (u1 := u) [(oL 2 0, 1), (oP (.getfield 178), 3), (oC 1, 1), (oP .iadd, 1)] (by decide +kernel) rfl rfl ?_
    refine g_goto (off := 4) (tgt := 24) (by decide +kernel) (by decide) ?_
    exact tX9_remember_24 ((u.1 0 9) + 1) u
theorem CX9_remember (u : ab_S) : ab_C 0 yX9_remember cX9_remember 3 none 2 [vR (kO 8) 0] u wV (fX9_remember u) := ab_entry (by decide +kernel) rfl (by decide) (by decide) (fun _ => Nat.le_of_ble_eq_true rfl) rfl (tX9_remember u)
def fX5_canBuy (o0 : Nat) (v1 : Int32) (u : ab_S) : Option (Int32 × ab_S) :=
  (fX5_shillingsOf o0 v1 u).bind fun q1 =>
    bif decide (q1.1 ≤ 0) then (
      ab_gd [ab_b1 0] (some (0, q1.2)))
    else (
      (fX5_ticketsOf o0 v1 q1.2).bind fun q2 =>
        bif decide (q2.1 < 9) then (
          ab_gd [ab_b1 1] (some (1, q2.2)))
        else (
          ab_gd [ab_b1 0] (some (0, q2.2))))
theorem tX5_canBuy (o0 : Nat) (v1 : Int32) (u : ab_S) : ab_G 0 5 cX5_canBuy (some .boolean) 2 0 [some (vR (kO 5) o0), some (vI v1)] [] u wI (fX5_canBuy o0 v1 u) := by
  rw [fX5_canBuy]
  refine g_seg0 (pc' := 2) (L' := [some (vR (kO 5) o0), some (vI v1)]) (st' := [vI v1, vR (kO 5) o0]) (u1 := u) [(oL 2 0, 1), (oL 0 1, 1)] (by decide +kernel) rfl rfl ?_
  refine g_callV (k := 90) (pc2 := 5) (st := []) (CX5_shillingsOf o0 v1 u) miX5_shillingsOf mvX5_shillingsOf rfl (by decide) lk5_90 wI_ok (by decide +kernel) rfl (Nat.le_of_ble_eq_true rfl) (by decide) rfl (fun q1 hq1 => ?_)
  refine g_zle (off := 17) (tgt := 22) (pc2 := 8) (by decide +kernel) (by decide) rfl ?_ ?_
  · refine g_seg0 (pc' := 23) (L' := [some (vR (kO 5) o0), some (vI v1)]) (st' := [vI 0]) (u1 := q1.2) [(oC 0, 1)] (by decide +kernel) rfl rfl ?_
    exact g_zret (by decide +kernel) rfl
  · refine g_seg0 (pc' := 10) (L' := [some (vR (kO 5) o0), some (vI v1)]) (st' := [vI v1, vR (kO 5) o0]) (u1 := q1.2) [(oL 2 0, 1), (oL 0 1, 1)] (by decide +kernel) rfl rfl ?_
    refine g_callV (k := 93) (pc2 := 13) (st := []) (CX5_ticketsOf o0 v1 q1.2) miX5_ticketsOf mvX5_ticketsOf rfl (by decide) lk5_93 wI_ok (by decide +kernel) rfl (Nat.le_of_ble_eq_true rfl) (by decide) rfl (fun q2 hq2 => ?_)
    refine g_seg0 (pc' := 15) (L' := [some (vR (kO 5) o0), some (vI v1)]) (st' := [vI 9, vI (q2.1)]) (u1 := q2.2) [(oC 9, 2)] (by decide +kernel) rfl rfl ?_
    refine g_ige (off := 7) (tgt := 22) (pc2 := 18) (by decide +kernel) (by decide) rfl ?_ ?_
    · refine g_seg0 (pc' := 23) (L' := [some (vR (kO 5) o0), some (vI v1)]) (st' := [vI 0]) (u1 := q2.2) [(oC 0, 1)] (by decide +kernel) rfl rfl ?_
      exact g_zret (by decide +kernel) rfl
    · refine g_seg0 (pc' := 19) (L' := [some (vR (kO 5) o0), some (vI v1)]) (st' := [vI 1]) (u1 := q2.2) [(oC 1, 1)] (by decide +kernel) rfl rfl ?_
      refine g_goto (off := 4) (tgt := 23) (by decide +kernel) (by decide) ?_
      exact g_zret (by decide +kernel) rfl
theorem CX5_canBuy (o0 : Nat) (v1 : Int32) (u : ab_S) : ab_C 0 yX5_canBuy cX5_canBuy 2 (some .boolean) 2 [vR (kO 5) o0, vI v1] u wI (fX5_canBuy o0 v1 u) := ab_entry (by decide +kernel) rfl (by decide) (by decide) (fun _ => Nat.le_of_ble_eq_true rfl) rfl (tX5_canBuy o0 v1 u)
def fX9_buy (v1 : Int32) (u : ab_S) : Option (Int32 × ab_S) :=
  (fX2_hasPerson (u.2.2 0) v1 u).bind fun q1 =>
    bif decide (q1.1 = 0) then (
      some ((-1), q1.2))
    else (
      (fX5_canBuy 38 v1 q1.2).bind fun q2 =>
        bif decide (q2.1 = 0) then (
          some ((-1), q2.2))
        else (
          (fX9_remember q2.2).bind fun q3 =>
            (fX5_takeTicket 38 v1 q3.2).bind fun q4 =>
              (fX5_ticketsOf 38 v1 q4.2).bind fun q5 =>
                some (q5.1, q5.2)))
theorem tX9_buy (v1 : Int32) (u : ab_S) : ab_G 0 8 cX9_buy (some .int) 3 0 [some (vR (kO 8) 0), some (vI v1)] [] u wI (fX9_buy v1 u) := by
  rw [fX9_buy]
  refine g_seg0 (pc' := 5) (L' := [some (vR (kO 8) 0), some (vI v1)]) (st' := [vI v1, vR (kO 2) (u.2.2 0)]) (u1 := u) [(oL 2 0, 1), (oP (.getfield 19), 3), (oL 0 1, 1)] (by decide +kernel) rfl rfl ?_
  refine g_callV (k := 120) (pc2 := 8) (st := []) (CX2_hasPerson (u.2.2 0) v1 u) miX2_hasPerson mvX2_hasPerson rfl (by decide) lk8_120 wI_ok (by decide +kernel) rfl (Nat.le_of_ble_eq_true rfl) (by decide) rfl (fun q1 hq1 => ?_)
  refine g_zeq (off := 14) (tgt := 22) (pc2 := 11) (by decide +kernel) (by decide) rfl ?_ ?_
  · refine g_seg0 (pc' := 23) (L' := [some (vR (kO 8) 0), some (vI v1)]) (st' := [vI (-1)]) (u1 := q1.2) [(oC (-1), 1)] (by decide +kernel) rfl rfl ?_
    exact g_iret (by decide +kernel) rfl
  · refine g_seg0 (pc' := 16) (L' := [some (vR (kO 8) 0), some (vI v1)]) (st' := [vI v1, vR (kO 5) 38]) (u1 := q1.2) [(oL 2 0, 1), (oP (.getfield 39), 3), (oL 0 1, 1)] (by decide +kernel) rfl rfl ?_
    refine g_callV (k := 153) (pc2 := 19) (st := []) (CX5_canBuy 38 v1 q1.2) miX5_canBuy mvX5_canBuy rfl (by decide) lk8_153 wI_ok (by decide +kernel) rfl (Nat.le_of_ble_eq_true rfl) (by decide) rfl (fun q2 hq2 => ?_)
    refine g_zne (off := 5) (tgt := 24) (pc2 := 22) (by decide +kernel) (by decide) rfl ?_ ?_
    · refine g_seg0 (pc' := 25) (L' := [some (vR (kO 8) 0), some (vI v1)]) (st' := [vR (kO 8) 0]) (u1 := q2.2) [(oL 2 0, 1)] (by decide +kernel) rfl rfl ?_
      refine g_callV (k := 156) (pc2 := 28) (st := []) (CX9_remember q2.2) miX9_remember mvX9_remember rfl (by decide) lk8_156 wV_ok (by decide +kernel) rfl (Nat.le_of_ble_eq_true rfl) (by decide) rfl (fun q3 hq3 => ?_)
      refine g_seg0 (pc' := 33) (L' := [some (vR (kO 8) 0), some (vI v1)]) (st' := [vI v1, vR (kO 5) 38]) (u1 := q3.2) [(oL 2 0, 1), (oP (.getfield 39), 3), (oL 0 1, 1)] (by decide +kernel) rfl rfl ?_
      refine g_callV (k := 159) (pc2 := 36) (st := []) (CX5_takeTicket 38 v1 q3.2) miX5_takeTicket mvX5_takeTicket rfl (by decide) lk8_159 wV_ok (by decide +kernel) rfl (Nat.le_of_ble_eq_true rfl) (by decide) rfl (fun q4 hq4 => ?_)
      refine g_seg0 (pc' := 41) (L' := [some (vR (kO 8) 0), some (vI v1)]) (st' := [vI v1, vR (kO 5) 38]) (u1 := q4.2) [(oL 2 0, 1), (oP (.getfield 39), 3), (oL 0 1, 1)] (by decide +kernel) rfl rfl ?_
      refine g_callV (k := 131) (pc2 := 44) (st := []) (CX5_ticketsOf 38 v1 q4.2) miX5_ticketsOf mvX5_ticketsOf rfl (by decide) lk8_131 wI_ok (by decide +kernel) rfl (Nat.le_of_ble_eq_true rfl) (by decide) rfl (fun q5 hq5 => ?_)
      exact g_iret (by decide +kernel) rfl
    · refine g_seg0 (pc' := 23) (L' := [some (vR (kO 8) 0), some (vI v1)]) (st' := [vI (-1)]) (u1 := q2.2) [(oC (-1), 1)] (by decide +kernel) rfl rfl ?_
      exact g_iret (by decide +kernel) rfl
theorem CX9_buy (v1 : Int32) (u : ab_S) : ab_C 0 yX9_buy cX9_buy 2 (some .int) 3 [vR (kO 8) 0, vI v1] u wI (fX9_buy v1 u) := ab_entry (by decide +kernel) rfl (by decide) (by decide) (fun _ => Nat.le_of_ble_eq_true rfl) rfl (tX9_buy v1 u)
def fX5_gainsBy (o0 : Nat) (o1 : Nat) (v2 : Int32) (v3 : Int32) (v4 : Int32) (u : ab_S) : Option (Int32 × ab_S) :=
  (fX5_bitsOf o0 v2 u).bind fun q1 =>
    (fJ6_bitCount_0f7a4 q1.1 q1.2).bind fun q2 =>
      (fX2_fitBy o1 v2 v4 (q2.1 - 1) q2.2).bind fun q3 =>
        (fX2_fitBy o1 v2 v3 (q2.1 - 1) q3.2).bind fun q4 =>
          bif decide (q3.1 ≤ q4.1) then (
            ab_gd [ab_b1 0] (some (0, q4.2)))
          else (
            ab_gd [ab_b1 1] (some (1, q4.2)))
theorem tX5_gainsBy (o0 : Nat) (o1 : Nat) (v2 : Int32) (v3 : Int32) (v4 : Int32) (u : ab_S) : ab_G 0 5 cX5_gainsBy (some .boolean) 2 0 [some (vR (kO 5) o0), some (vR (kO 2) o1), some (vI v2), some (vI v3), some (vI v4), none] [] u wI (fX5_gainsBy o0 o1 v2 v3 v4 u) := by
  rw [fX5_gainsBy]
  refine g_seg0 (pc' := 2) (L' := [some (vR (kO 5) o0), some (vR (kO 2) o1), some (vI v2), some (vI v3), some (vI v4), none]) (st' := [vI v2, vR (kO 5) o0]) (u1 := u) [(oL 2 0, 1), (oL 0 2, 1)] (by decide +kernel) rfl rfl ?_
  refine g_callV (k := 60) (pc2 := 5) (st := []) (CX5_bitsOf o0 v2 u) miX5_bitsOf mvX5_bitsOf rfl (by decide) lk5_60 wI_ok (by decide +kernel) rfl (Nat.le_of_ble_eq_true rfl) (by decide) rfl (fun q1 hq1 => ?_)
  refine g_callS (k := 73) (pc2 := 8) (st := []) (CJ6_bitCount_0f7a4 q1.1 q1.2) miJ6_bitCount_0f7a4 msJ6_bitCount_0f7a4 lk5_73 wI_ok (by decide +kernel) rfl (Nat.le_of_ble_eq_true rfl) (by decide) rfl (fun q2 hq2 => ?_)
  refine g_seg0 (pc' := 18) (L' := [some (vR (kO 5) o0), some (vR (kO 2) o1), some (vI v2), some (vI v3), some (vI v4), some (vI (q2.1 - 1))]) (st' := [vI (q2.1 - 1), vI v4, vI v2, vR (kO 2) o1]) (u1 := q2.2) [(oC 1, 1), (oP .isub, 1), (oL 3 5, 2), (oL 2 1, 1), (oL 0 2, 1), (oL 0 4, 2), (oL 0 5, 2)] (by decide +kernel) rfl rfl ?_
  refine g_callV (k := 78) (pc2 := 21) (st := []) (CX2_fitBy o1 v2 v4 (q2.1 - 1) q2.2) miX2_fitBy mvX2_fitBy rfl (by decide) lk5_78 wI_ok (by decide +kernel) rfl (Nat.le_of_ble_eq_true rfl) (by decide) rfl (fun q3 hq3 => ?_)
  refine g_seg0 (pc' := 26) (L' := [some (vR (kO 5) o0), some (vR (kO 2) o1), some (vI v2), some (vI v3), some (vI v4), some (vI (q2.1 - 1))]) (st' := [vI (q2.1 - 1), vI v3, vI v2, vR (kO 2) o1, vI (q3.1)]) (u1 := q3.2) [(oL 2 1, 1), (oL 0 2, 1), (oL 0 3, 1), (oL 0 5, 2)] (by decide +kernel) rfl rfl ?_
  refine g_callV (k := 78) (pc2 := 29) (st := [vI (q3.1)]) (CX2_fitBy o1 v2 v3 (q2.1 - 1) q3.2) miX2_fitBy mvX2_fitBy rfl (by decide) lk5_78 wI_ok (by decide +kernel) rfl (Nat.le_of_ble_eq_true rfl) (by decide) rfl (fun q4 hq4 => ?_)
  refine g_ile (off := 7) (tgt := 36) (pc2 := 32) (by decide +kernel) (by decide) rfl ?_ ?_
  · refine g_seg0 (pc' := 37) (L' := [some (vR (kO 5) o0), some (vR (kO 2) o1), some (vI v2), some (vI v3), some (vI v4), some (vI (q2.1 - 1))]) (st' := [vI 0]) (u1 := q4.2) [(oC 0, 1)] (by decide +kernel) rfl rfl ?_
    exact g_zret (by decide +kernel) rfl
  · refine g_seg0 (pc' := 33) (L' := [some (vR (kO 5) o0), some (vR (kO 2) o1), some (vI v2), some (vI v3), some (vI v4), some (vI (q2.1 - 1))]) (st' := [vI 1]) (u1 := q4.2) [(oC 1, 1)] (by decide +kernel) rfl rfl ?_
    refine g_goto (off := 4) (tgt := 37) (by decide +kernel) (by decide) ?_
    exact g_zret (by decide +kernel) rfl
theorem CX5_gainsBy (o0 : Nat) (o1 : Nat) (v2 : Int32) (v3 : Int32) (v4 : Int32) (u : ab_S) : ab_C 0 yX5_gainsBy cX5_gainsBy 6 (some .boolean) 2 [vR (kO 5) o0, vR (kO 2) o1, vI v2, vI v3, vI v4] u wI (fX5_gainsBy o0 o1 v2 v3 v4 u) := ab_entry (by decide +kernel) rfl (by decide) (by decide) (fun _ => Nat.le_of_ble_eq_true rfl) rfl (tX5_gainsBy o0 o1 v2 v3 v4 u)
def fX5_canTrade (o0 : Nat) (o1 : Nat) (v2 : Int32) (v3 : Int32) (u : ab_S) : Option (Int32 × ab_S) :=
  (fX5_holderOf o0 v2 u).bind fun q1 =>
    (fX5_holderOf o0 v3 q1.2).bind fun q2 =>
      bif decide (q1.1 = (-1)) then (
        ab_gd [ab_b1 0] (some (0, q2.2)))
      else (
        bif decide (q2.1 = (-1)) then (
          ab_gd [ab_b1 0] (some (0, q2.2)))
        else (
          bif decide (q1.1 = q2.1) then (
            ab_gd [ab_b1 0] (some (0, q2.2)))
          else (
            (fX5_gainsBy o0 o1 q1.1 v2 v3 q2.2).bind fun q3 =>
              bif decide (q3.1 = 0) then (
                ab_gd [ab_b1 0] (some (0, q3.2)))
              else (
                (fX5_gainsBy o0 o1 q2.1 v3 v2 q3.2).bind fun q4 =>
                  bif decide (q4.1 = 0) then (
                    ab_gd [ab_b1 0] (some (0, q4.2)))
                  else (
                    ab_gd [ab_b1 1] (some (1, q4.2)))))))
theorem tX5_canTrade (o0 : Nat) (o1 : Nat) (v2 : Int32) (v3 : Int32) (u : ab_S) : ab_G 0 5 cX5_canTrade (some .boolean) 3 0 [some (vR (kO 5) o0), some (vR (kO 2) o1), some (vI v2), some (vI v3), none, none] [] u wI (fX5_canTrade o0 o1 v2 v3 u) := by
  rw [fX5_canTrade]
  refine g_seg0 (pc' := 2) (L' := [some (vR (kO 5) o0), some (vR (kO 2) o1), some (vI v2), some (vI v3), none, none]) (st' := [vI v2, vR (kO 5) o0]) (u1 := u) [(oL 2 0, 1), (oL 0 2, 1)] (by decide +kernel) rfl rfl ?_
  refine g_callV (k := 67) (pc2 := 5) (st := []) (CX5_holderOf o0 v2 u) miX5_holderOf mvX5_holderOf rfl (by decide) lk5_67 wI_ok (by decide +kernel) rfl (Nat.le_of_ble_eq_true rfl) (by decide) rfl (fun q1 hq1 => ?_)
  refine g_seg0 (pc' := 9) (L' := [some (vR (kO 5) o0), some (vR (kO 2) o1), some (vI v2), some (vI v3), some (vI (q1.1)), none]) (st' := [vI v3, vR (kO 5) o0]) (u1 := q1.2) [(oL 3 4, 2), (oL 2 0, 1), (oL 0 3, 1)] (by decide +kernel) rfl rfl ?_
  refine g_callV (k := 67) (pc2 := 12) (st := []) (CX5_holderOf o0 v3 q1.2) miX5_holderOf mvX5_holderOf rfl (by decide) lk5_67 wI_ok (by decide +kernel) rfl (Nat.le_of_ble_eq_true rfl) (by decide) rfl (fun q2 hq2 => ?_)
  refine g_seg0 (pc' := 17) (L' := [some (vR (kO 5) o0), some (vR (kO 2) o1), some (vI v2), some (vI v3), some (vI (q1.1)), some (vI (q2.1))]) (st' := [vI (-1), vI (q1.1)]) (u1 := q2.2) [(oL 3 5, 2), (oL 0 4, 2), (oC (-1), 1)] (by decide +kernel) rfl rfl ?_
  refine g_ieq (off := 44) (tgt := 61) (pc2 := 20) (by decide +kernel) (by decide) rfl ?_ ?_
  · refine g_seg0 (pc' := 62) (L' := [some (vR (kO 5) o0), some (vR (kO 2) o1), some (vI v2), some (vI v3), some (vI (q1.1)), some (vI (q2.1))]) (st' := [vI 0]) (u1 := q2.2) [(oC 0, 1)] (by decide +kernel) rfl rfl ?_
    exact g_zret (by decide +kernel) rfl
  · refine g_seg0 (pc' := 23) (L' := [some (vR (kO 5) o0), some (vR (kO 2) o1), some (vI v2), some (vI v3), some (vI (q1.1)), some (vI (q2.1))]) (st' := [vI (-1), vI (q2.1)]) (u1 := q2.2) [(oL 0 5, 2), (oC (-1), 1)] (by decide +kernel) rfl rfl ?_
    refine g_ieq (off := 38) (tgt := 61) (pc2 := 26) (by decide +kernel) (by decide) rfl ?_ ?_
    · refine g_seg0 (pc' := 62) (L' := [some (vR (kO 5) o0), some (vR (kO 2) o1), some (vI v2), some (vI v3), some (vI (q1.1)), some (vI (q2.1))]) (st' := [vI 0]) (u1 := q2.2) [(oC 0, 1)] (by decide +kernel) rfl rfl ?_
      exact g_zret (by decide +kernel) rfl
    · refine g_seg0 (pc' := 30) (L' := [some (vR (kO 5) o0), some (vR (kO 2) o1), some (vI v2), some (vI v3), some (vI (q1.1)), some (vI (q2.1))]) (st' := [vI (q2.1), vI (q1.1)]) (u1 := q2.2) [(oL 0 4, 2), (oL 0 5, 2)] (by decide +kernel) rfl rfl ?_
      refine g_ieq (off := 31) (tgt := 61) (pc2 := 33) (by decide +kernel) (by decide) rfl ?_ ?_
      · refine g_seg0 (pc' := 62) (L' := [some (vR (kO 5) o0), some (vR (kO 2) o1), some (vI v2), some (vI v3), some (vI (q1.1)), some (vI (q2.1))]) (st' := [vI 0]) (u1 := q2.2) [(oC 0, 1)] (by decide +kernel) rfl rfl ?_
        exact g_zret (by decide +kernel) rfl
      · refine g_seg0 (pc' := 39) (L' := [some (vR (kO 5) o0), some (vR (kO 2) o1), some (vI v2), some (vI v3), some (vI (q1.1)), some (vI (q2.1))]) (st' := [vI v3, vI v2, vI (q1.1), vR (kO 2) o1, vR (kO 5) o0]) (u1 := q2.2) [(oL 2 0, 1), (oL 2 1, 1), (oL 0 4, 2), (oL 0 2, 1), (oL 0 3, 1)] (by decide +kernel) rfl rfl ?_
        refine g_callV (k := 96) (pc2 := 42) (st := []) (CX5_gainsBy o0 o1 q1.1 v2 v3 q2.2) miX5_gainsBy mvX5_gainsBy rfl (by decide) lk5_96 wI_ok (by decide +kernel) rfl (Nat.le_of_ble_eq_true rfl) (by decide) rfl (fun q3 hq3 => ?_)
        refine g_zeq (off := 19) (tgt := 61) (pc2 := 45) (by decide +kernel) (by decide) rfl ?_ ?_
        · refine g_seg0 (pc' := 62) (L' := [some (vR (kO 5) o0), some (vR (kO 2) o1), some (vI v2), some (vI v3), some (vI (q1.1)), some (vI (q2.1))]) (st' := [vI 0]) (u1 := q3.2) [(oC 0, 1)] (by decide +kernel) rfl rfl ?_
          exact g_zret (by decide +kernel) rfl
        · refine g_seg0 (pc' := 51) (L' := [some (vR (kO 5) o0), some (vR (kO 2) o1), some (vI v2), some (vI v3), some (vI (q1.1)), some (vI (q2.1))]) (st' := [vI v2, vI v3, vI (q2.1), vR (kO 2) o1, vR (kO 5) o0]) (u1 := q3.2) [(oL 2 0, 1), (oL 2 1, 1), (oL 0 5, 2), (oL 0 3, 1), (oL 0 2, 1)] (by decide +kernel) rfl rfl ?_
          refine g_callV (k := 96) (pc2 := 54) (st := []) (CX5_gainsBy o0 o1 q2.1 v3 v2 q3.2) miX5_gainsBy mvX5_gainsBy rfl (by decide) lk5_96 wI_ok (by decide +kernel) rfl (Nat.le_of_ble_eq_true rfl) (by decide) rfl (fun q4 hq4 => ?_)
          refine g_zeq (off := 7) (tgt := 61) (pc2 := 57) (by decide +kernel) (by decide) rfl ?_ ?_
          · refine g_seg0 (pc' := 62) (L' := [some (vR (kO 5) o0), some (vR (kO 2) o1), some (vI v2), some (vI v3), some (vI (q1.1)), some (vI (q2.1))]) (st' := [vI 0]) (u1 := q4.2) [(oC 0, 1)] (by decide +kernel) rfl rfl ?_
            exact g_zret (by decide +kernel) rfl
          · refine g_seg0 (pc' := 58) (L' := [some (vR (kO 5) o0), some (vR (kO 2) o1), some (vI v2), some (vI v3), some (vI (q1.1)), some (vI (q2.1))]) (st' := [vI 1]) (u1 := q4.2) [(oC 1, 1)] (by decide +kernel) rfl rfl ?_
            refine g_goto (off := 4) (tgt := 62) (by decide +kernel) (by decide) ?_
            exact g_zret (by decide +kernel) rfl
theorem CX5_canTrade (o0 : Nat) (o1 : Nat) (v2 : Int32) (v3 : Int32) (u : ab_S) : ab_C 0 yX5_canTrade cX5_canTrade 6 (some .boolean) 3 [vR (kO 5) o0, vR (kO 2) o1, vI v2, vI v3] u wI (fX5_canTrade o0 o1 v2 v3 u) := ab_entry (by decide +kernel) rfl (by decide) (by decide) (fun _ => Nat.le_of_ble_eq_true rfl) rfl (tX5_canTrade o0 o1 v2 v3 u)
def fX5_place (o0 : Nat) (v1 : Int32) (v2 : Int32) (u : ab_S) : Option (Unit × ab_S) :=
  (fX9_put 8 (o0 + 1) v1 v2 u).bind fun q1 =>
    some ((), q1.2)
theorem tX5_place (o0 : Nat) (v1 : Int32) (v2 : Int32) (u : ab_S) : ab_G 0 5 cX5_place none 1 0 [some (vR (kO 5) o0), some (vI v1), some (vI v2)] [] u wV (fX5_place o0 v1 v2 u) := by
  rw [fX5_place]
  refine g_seg0 (pc' := 6) (L' := [some (vR (kO 5) o0), some (vI v1), some (vI v2)]) (st' := [vI v2, vI v1, vR (kA 0 8) (o0 + 1)]) (u1 := u) [(oL 2 0, 1), (oP (.getfield 9), 3), (oL 0 1, 1), (oL 0 2, 1)] (by decide +kernel) rfl rfl ?_
  refine g_callS (k := 21) (pc2 := 9) (st := []) (CX9_put 8 (o0 + 1) v1 v2 u) miX9_put msX9_put lk5_21 wV_ok (by decide +kernel) rfl (Nat.le_of_ble_eq_true rfl) (by decide) rfl (fun q1 hq1 => ?_)
  exact g_vret (by decide +kernel) rfl
theorem CX5_place (o0 : Nat) (v1 : Int32) (v2 : Int32) (u : ab_S) : ab_C 0 yX5_place cX5_place 3 none 1 [vR (kO 5) o0, vI v1, vI v2] u wV (fX5_place o0 v1 v2 u) := ab_entry (by decide +kernel) rfl (by decide) (by decide) (fun _ => Nat.le_of_ble_eq_true rfl) rfl (tX5_place o0 v1 v2 u)
def fX5_trade (o0 : Nat) (v1 : Int32) (v2 : Int32) (u : ab_S) : Option (Unit × ab_S) :=
  (fX5_holderOf o0 v1 u).bind fun q1 =>
    (fX5_holderOf o0 v2 q1.2).bind fun q2 =>
      (fX5_place o0 v1 q2.1 q2.2).bind fun q3 =>
        (fX5_place o0 v2 q1.1 q3.2).bind fun q4 =>
          some ((), q4.2)
theorem tX5_trade (o0 : Nat) (v1 : Int32) (v2 : Int32) (u : ab_S) : ab_G 0 5 cX5_trade none 2 0 [some (vR (kO 5) o0), some (vI v1), some (vI v2), none] [] u wV (fX5_trade o0 v1 v2 u) := by
  rw [fX5_trade]
  refine g_seg0 (pc' := 2) (L' := [some (vR (kO 5) o0), some (vI v1), some (vI v2), none]) (st' := [vI v1, vR (kO 5) o0]) (u1 := u) [(oL 2 0, 1), (oL 0 1, 1)] (by decide +kernel) rfl rfl ?_
  refine g_callV (k := 67) (pc2 := 5) (st := []) (CX5_holderOf o0 v1 u) miX5_holderOf mvX5_holderOf rfl (by decide) lk5_67 wI_ok (by decide +kernel) rfl (Nat.le_of_ble_eq_true rfl) (by decide) rfl (fun q1 hq1 => ?_)
  refine g_seg0 (pc' := 10) (L' := [some (vR (kO 5) o0), some (vI v1), some (vI v2), some (vI (q1.1))]) (st' := [vI v2, vR (kO 5) o0, vI v1, vR (kO 5) o0]) (u1 := q1.2) [(oL 3 3, 1), (oL 2 0, 1), (oL 0 1, 1), (oL 2 0, 1), (oL 0 2, 1)] (by decide +kernel) rfl rfl ?_
  refine g_callV (k := 67) (pc2 := 13) (st := [vI v1, vR (kO 5) o0]) (CX5_holderOf o0 v2 q1.2) miX5_holderOf mvX5_holderOf rfl (by decide) lk5_67 wI_ok (by decide +kernel) rfl (Nat.le_of_ble_eq_true rfl) (by decide) rfl (fun q2 hq2 => ?_)
  refine g_callV (k := 100) (pc2 := 16) (st := []) (CX5_place o0 v1 q2.1 q2.2) miX5_place mvX5_place rfl (by decide) lk5_100 wV_ok (by decide +kernel) rfl (Nat.le_of_ble_eq_true rfl) (by decide) rfl (fun q3 hq3 => ?_)
  refine g_seg0 (pc' := 19) (L' := [some (vR (kO 5) o0), some (vI v1), some (vI v2), some (vI (q1.1))]) (st' := [vI (q1.1), vI v2, vR (kO 5) o0]) (u1 := q3.2) [(oL 2 0, 1), (oL 0 2, 1), (oL 0 3, 1)] (by decide +kernel) rfl rfl ?_
  refine g_callV (k := 100) (pc2 := 22) (st := []) (CX5_place o0 v2 q1.1 q3.2) miX5_place mvX5_place rfl (by decide) lk5_100 wV_ok (by decide +kernel) rfl (Nat.le_of_ble_eq_true rfl) (by decide) rfl (fun q4 hq4 => ?_)
  exact g_vret (by decide +kernel) rfl
theorem CX5_trade (o0 : Nat) (v1 : Int32) (v2 : Int32) (u : ab_S) : ab_C 0 yX5_trade cX5_trade 4 none 2 [vR (kO 5) o0, vI v1, vI v2] u wV (fX5_trade o0 v1 v2 u) := ab_entry (by decide +kernel) rfl (by decide) (by decide) (fun _ => Nat.le_of_ble_eq_true rfl) rfl (tX5_trade o0 v1 v2 u)
def fX9_swap (v1 : Int32) (v2 : Int32) (u : ab_S) : Option (Int32 × ab_S) :=
  (fX2_hasGood (u.2.2 0) v1 u).bind fun q1 =>
    bif decide (q1.1 = 0) then (
      ab_gd [ab_b1 0] (some (0, q1.2)))
    else (
      (fX2_hasGood (q1.2.2.2 0) v2 q1.2).bind fun q2 =>
        bif decide (q2.1 = 0) then (
          ab_gd [ab_b1 0] (some (0, q2.2)))
        else (
          (fX5_canTrade 38 (q2.2.2.2 0) v1 v2 q2.2).bind fun q3 =>
            bif decide (q3.1 = 0) then (
              ab_gd [ab_b1 0] (some (0, q3.2)))
            else (
              (fX9_remember q3.2).bind fun q4 =>
                (fX5_trade 38 v1 v2 q4.2).bind fun q5 =>
                  ab_gd [ab_b1 1] (some (1, q5.2)))))
theorem tX9_swap (v1 : Int32) (v2 : Int32) (u : ab_S) : ab_G 0 8 cX9_swap (some .boolean) 4 0 [some (vR (kO 8) 0), some (vI v1), some (vI v2)] [] u wI (fX9_swap v1 v2 u) := by
  rw [fX9_swap]
  refine g_seg0 (pc' := 5) (L' := [some (vR (kO 8) 0), some (vI v1), some (vI v2)]) (st' := [vI v1, vR (kO 2) (u.2.2 0)]) (u1 := u) [(oL 2 0, 1), (oP (.getfield 19), 3), (oL 0 1, 1)] (by decide +kernel) rfl rfl ?_
  refine g_callV (k := 137) (pc2 := 8) (st := []) (CX2_hasGood (u.2.2 0) v1 u) miX2_hasGood mvX2_hasGood rfl (by decide) lk8_137 wI_ok (by decide +kernel) rfl (Nat.le_of_ble_eq_true rfl) (by decide) rfl (fun q1 hq1 => ?_)
  refine g_zeq (off := 30) (tgt := 38) (pc2 := 11) (by decide +kernel) (by decide) rfl ?_ ?_
  · refine g_seg0 (pc' := 39) (L' := [some (vR (kO 8) 0), some (vI v1), some (vI v2)]) (st' := [vI 0]) (u1 := q1.2) [(oC 0, 1)] (by decide +kernel) rfl rfl ?_
    exact g_zret (by decide +kernel) rfl
  · refine g_seg0 (pc' := 16) (L' := [some (vR (kO 8) 0), some (vI v1), some (vI v2)]) (st' := [vI v2, vR (kO 2) (q1.2.2.2 0)]) (u1 := q1.2) [(oL 2 0, 1), (oP (.getfield 19), 3), (oL 0 2, 1)] (by decide +kernel) rfl rfl ?_
    refine g_callV (k := 137) (pc2 := 19) (st := []) (CX2_hasGood (q1.2.2.2 0) v2 q1.2) miX2_hasGood mvX2_hasGood rfl (by decide) lk8_137 wI_ok (by decide +kernel) rfl (Nat.le_of_ble_eq_true rfl) (by decide) rfl (fun q2 hq2 => ?_)
    refine g_zeq (off := 19) (tgt := 38) (pc2 := 22) (by decide +kernel) (by decide) rfl ?_ ?_
    · refine g_seg0 (pc' := 39) (L' := [some (vR (kO 8) 0), some (vI v1), some (vI v2)]) (st' := [vI 0]) (u1 := q2.2) [(oC 0, 1)] (by decide +kernel) rfl rfl ?_
      exact g_zret (by decide +kernel) rfl
    · refine g_seg0 (pc' := 32) (L' := [some (vR (kO 8) 0), some (vI v1), some (vI v2)]) (st' := [vI v2, vI v1, vR (kO 2) (q2.2.2.2 0), vR (kO 5) 38]) (u1 := q2.2) [(oL 2 0, 1), (oP (.getfield 39), 3), (oL 2 0, 1), (oP (.getfield 19), 3), (oL 0 1, 1), (oL 0 2, 1)] (by decide +kernel) rfl rfl ?_
      refine g_callV (k := 163) (pc2 := 35) (st := []) (CX5_canTrade 38 (q2.2.2.2 0) v1 v2 q2.2) miX5_canTrade mvX5_canTrade rfl (by decide) lk8_163 wI_ok (by decide +kernel) rfl (Nat.le_of_ble_eq_true rfl) (by decide) rfl (fun q3 hq3 => ?_)
      refine g_zne (off := 5) (tgt := 40) (pc2 := 38) (by decide +kernel) (by decide) rfl ?_ ?_
      · refine g_seg0 (pc' := 41) (L' := [some (vR (kO 8) 0), some (vI v1), some (vI v2)]) (st' := [vR (kO 8) 0]) (u1 := q3.2) [(oL 2 0, 1)] (by decide +kernel) rfl rfl ?_
        refine g_callV (k := 156) (pc2 := 44) (st := []) (CX9_remember q3.2) miX9_remember mvX9_remember rfl (by decide) lk8_156 wV_ok (by decide +kernel) rfl (Nat.le_of_ble_eq_true rfl) (by decide) rfl (fun q4 hq4 => ?_)
        refine g_seg0 (pc' := 50) (L' := [some (vR (kO 8) 0), some (vI v1), some (vI v2)]) (st' := [vI v2, vI v1, vR (kO 5) 38]) (u1 := q4.2) [(oL 2 0, 1), (oP (.getfield 39), 3), (oL 0 1, 1), (oL 0 2, 1)] (by decide +kernel) rfl rfl ?_
        refine g_callV (k := 167) (pc2 := 53) (st := []) (CX5_trade 38 v1 v2 q4.2) miX5_trade mvX5_trade rfl (by decide) lk8_167 wV_ok (by decide +kernel) rfl (Nat.le_of_ble_eq_true rfl) (by decide) rfl (fun q5 hq5 => ?_)
        refine g_seg0 (pc' := 54) (L' := [some (vR (kO 8) 0), some (vI v1), some (vI v2)]) (st' := [vI 1]) (u1 := q5.2) [(oC 1, 1)] (by decide +kernel) rfl rfl ?_
        exact g_zret (by decide +kernel) rfl
      · refine g_seg0 (pc' := 39) (L' := [some (vR (kO 8) 0), some (vI v1), some (vI v2)]) (st' := [vI 0]) (u1 := q3.2) [(oC 0, 1)] (by decide +kernel) rfl rfl ?_
        exact g_zret (by decide +kernel) rfl
theorem CX9_swap (v1 : Int32) (v2 : Int32) (u : ab_S) : ab_C 0 yX9_swap cX9_swap 3 (some .boolean) 4 [vR (kO 8) 0, vI v1, vI v2] u wI (fX9_swap v1 v2 u) := ab_entry (by decide +kernel) rfl (by decide) (by decide) (fun _ => Nat.le_of_ble_eq_true rfl) rfl (tX9_swap v1 v2 u)
def fX9_bring (v1 : Int32) (u : ab_S) : Option (Int32 × ab_S) :=
  (fX2_hasGood (u.2.2 0) v1 u).bind fun q1 =>
    bif decide (q1.1 = 0) then (
      some ((-1), q1.2))
    else (
      (fX5_holderOf 38 v1 q1.2).bind fun q2 =>
        bif decide (q2.1 = (-1)) then (
          some ((-1), q2.2))
        else (
          (fX9_remember q2.2).bind fun q3 =>
            (fX5_holderOf 38 v1 q3.2).bind fun q4 =>
              (fX5_place 38 v1 (-1) q4.2).bind fun q5 =>
                some (q4.1, q5.2)))
theorem tX9_bring (v1 : Int32) (u : ab_S) : ab_G 0 8 cX9_bring (some .int) 3 0 [some (vR (kO 8) 0), some (vI v1), none] [] u wI (fX9_bring v1 u) := by
  rw [fX9_bring]
  refine g_seg0 (pc' := 5) (L' := [some (vR (kO 8) 0), some (vI v1), none]) (st' := [vI v1, vR (kO 2) (u.2.2 0)]) (u1 := u) [(oL 2 0, 1), (oP (.getfield 19), 3), (oL 0 1, 1)] (by decide +kernel) rfl rfl ?_
  refine g_callV (k := 137) (pc2 := 8) (st := []) (CX2_hasGood (u.2.2 0) v1 u) miX2_hasGood mvX2_hasGood rfl (by decide) lk8_137 wI_ok (by decide +kernel) rfl (Nat.le_of_ble_eq_true rfl) (by decide) rfl (fun q1 hq1 => ?_)
  refine g_zeq (off := 15) (tgt := 23) (pc2 := 11) (by decide +kernel) (by decide) rfl ?_ ?_
  · refine g_seg0 (pc' := 24) (L' := [some (vR (kO 8) 0), some (vI v1), none]) (st' := [vI (-1)]) (u1 := q1.2) [(oC (-1), 1)] (by decide +kernel) rfl rfl ?_
    exact g_iret (by decide +kernel) rfl
  · refine g_seg0 (pc' := 16) (L' := [some (vR (kO 8) 0), some (vI v1), none]) (st' := [vI v1, vR (kO 5) 38]) (u1 := q1.2) [(oL 2 0, 1), (oP (.getfield 39), 3), (oL 0 1, 1)] (by decide +kernel) rfl rfl ?_
    refine g_callV (k := 146) (pc2 := 19) (st := []) (CX5_holderOf 38 v1 q1.2) miX5_holderOf mvX5_holderOf rfl (by decide) lk8_146 wI_ok (by decide +kernel) rfl (Nat.le_of_ble_eq_true rfl) (by decide) rfl (fun q2 hq2 => ?_)
    refine g_seg0 (pc' := 20) (L' := [some (vR (kO 8) 0), some (vI v1), none]) (st' := [vI (-1), vI (q2.1)]) (u1 := q2.2) [(oC (-1), 1)] (by decide +kernel) rfl rfl ?_
    refine g_ine (off := 5) (tgt := 25) (pc2 := 23) (by decide +kernel) (by decide) rfl ?_ ?_
    · refine g_seg0 (pc' := 26) (L' := [some (vR (kO 8) 0), some (vI v1), none]) (st' := [vR (kO 8) 0]) (u1 := q2.2) [(oL 2 0, 1)] (by decide +kernel) rfl rfl ?_
      refine g_callV (k := 156) (pc2 := 29) (st := []) (CX9_remember q2.2) miX9_remember mvX9_remember rfl (by decide) lk8_156 wV_ok (by decide +kernel) rfl (Nat.le_of_ble_eq_true rfl) (by decide) rfl (fun q3 hq3 => ?_)
      refine g_seg0 (pc' := 34) (L' := [some (vR (kO 8) 0), some (vI v1), none]) (st' := [vI v1, vR (kO 5) 38]) (u1 := q3.2) [(oL 2 0, 1), (oP (.getfield 39), 3), (oL 0 1, 1)] (by decide +kernel) rfl rfl ?_
      refine g_callV (k := 146) (pc2 := 37) (st := []) (CX5_holderOf 38 v1 q3.2) miX5_holderOf mvX5_holderOf rfl (by decide) lk8_146 wI_ok (by decide +kernel) rfl (Nat.le_of_ble_eq_true rfl) (by decide) rfl (fun q4 hq4 => ?_)
      refine g_seg0 (pc' := 44) (L' := [some (vR (kO 8) 0), some (vI v1), some (vI (q4.1))]) (st' := [vI (-1), vI v1, vR (kO 5) 38]) (u1 := q4.2) [(oL 3 2, 1), (oL 2 0, 1), (oP (.getfield 39), 3), (oL 0 1, 1), (oC (-1), 1)] (by decide +kernel) rfl rfl ?_
      refine g_callV (k := 171) (pc2 := 47) (st := []) (CX5_place 38 v1 (-1) q4.2) miX5_place mvX5_place rfl (by decide) lk8_171 wV_ok (by decide +kernel) rfl (Nat.le_of_ble_eq_true rfl) (by decide) rfl (fun q5 hq5 => ?_)
      refine g_seg0 (pc' := 48) (L' := [some (vR (kO 8) 0), some (vI v1), some (vI (q4.1))]) (st' := [vI (q4.1)]) (u1 := q5.2) [(oL 0 2, 1)] (by decide +kernel) rfl rfl ?_
      exact g_iret (by decide +kernel) rfl
    · refine g_seg0 (pc' := 24) (L' := [some (vR (kO 8) 0), some (vI v1), none]) (st' := [vI (-1)]) (u1 := q2.2) [(oC (-1), 1)] (by decide +kernel) rfl rfl ?_
      exact g_iret (by decide +kernel) rfl
theorem CX9_bring (v1 : Int32) (u : ab_S) : ab_C 0 yX9_bring cX9_bring 3 (some .int) 3 [vR (kO 8) 0, vI v1] u wI (fX9_bring v1 u) := ab_entry (by decide +kernel) rfl (by decide) (by decide) (fun _ => Nat.le_of_ble_eq_true rfl) rfl (tX9_bring v1 u)
def fX5_holderOfTicket_4 (o0 : Nat) : Nat → Int32 → Int32 → Int32 → ab_S → Option (Int32 × ab_S)
  | 0, _, _, _, _ => none
  | n + 1, v1, v2, v3, u =>
  bif decide (v3 < 6) then (
    ab_gd [ab_ix v3 6] (
      bif decide (v1 < (v2 + (u.1 (o0 + 3) (nc v3)))) then (
        some (v3, u))
      else (
        (fX5_holderOfTicket_4 o0 n) v1 (v2 + (u.1 (o0 + 3) (nc v3))) (v3 + 1) u)))
  else (
    some ((-1), u))
theorem tX5_holderOfTicket_4 (o0 : Nat) : ∀ (n : Nat) (v1 : Int32) (v2 : Int32) (v3 : Int32) (u : ab_S), ab_G 0 5 cX5_holderOfTicket (some .int) 0 4 [some (vR (kO 5) o0), some (vI v1), some (vI v2), some (vI v3)] [] u wI (fX5_holderOfTicket_4 o0 n v1 v2 v3 u) := by
  intro n
  induction n with
  | zero => intros; exact g_none
  | succ n ih =>
    intro v1 v2 v3 u
    rw [fX5_holderOfTicket_4]
    refine g_seg0 (pc' := 10) (L' := [some (vR (kO 5) o0), some (vI v1), some (vI v2), some (vI v3)]) (st' := [vI 6, vI v3]) (u1 := u) [(oL 0 3, 1), (oL 2 0, 1), (oP (.getfield 18), 3), (oP .arraylength, 1)] (by decide +kernel) rfl rfl ?_
    refine g_ige (off := 25) (tgt := 35) (pc2 := 13) (by decide +kernel) (by decide) rfl ?_ ?_
    · refine g_seg0 (pc' := 36) (L' := [some (vR (kO 5) o0), some (vI v1), some (vI v2), some (vI v3)]) (st' := [vI (-1)]) (u1 := u) [(oC (-1), 1)] (by decide +kernel) rfl rfl ?_
      exact g_iret (by decide +kernel) rfl
    · refine g_seg (pc' := 24) (L' := [some (vR (kO 5) o0), some (vI v1), some (vI (v2 + (u.1 (o0 + 3) (nc v3)))), some (vI v3)]) (st' := [vI (v2 + (u.1 (o0 + 3) (nc v3))), vI v1]) (u1 := u) [(oL 0 2, 1), (oL 2 0, 1), (oP (.getfield 18), 3), (oL 0 3, 1), (oP .iaload, 1), (oP .iadd, 1), (oL 3 2, 1), (oL 0 1, 1), (oL 0 2, 1)] (by decide +kernel) rfl rfl ?_
      refine g_ige (off := 5) (tgt := 29) (pc2 := 27) (by decide +kernel) (by decide) rfl ?_ ?_
      · refine g_seg0 (pc' := 32) (L' := [some (vR (kO 5) o0), some (vI v1), some (vI (v2 + (u.1 (o0 + 3) (nc v3)))), some (vI (v3 + 1))]) (st' := []) (u1 := u) [(oN 3 1, 3)] (by decide +kernel) rfl rfl ?_
        refine g_goto (off := (-28)) (tgt := 4) (by decide +kernel) (by decide) ?_
        exact ih v1 (v2 + (u.1 (o0 + 3) (nc v3))) (v3 + 1) u
      · refine g_seg0 (pc' := 28) (L' := [some (vR (kO 5) o0), some (vI v1), some (vI (v2 + (u.1 (o0 + 3) (nc v3)))), some (vI v3)]) (st' := [vI v3]) (u1 := u) [(oL 0 3, 1)] (by decide +kernel) rfl rfl ?_
        exact g_iret (by decide +kernel) rfl
def fX5_holderOfTicket (o0 : Nat) (v1 : Int32) (u : ab_S) : Option (Int32 × ab_S) :=
  fX5_holderOfTicket_4 o0 fu v1 0 0 u
theorem tX5_holderOfTicket (o0 : Nat) (v1 : Int32) (u : ab_S) : ab_G 0 5 cX5_holderOfTicket (some .int) 0 0 [some (vR (kO 5) o0), some (vI v1), none, none] [] u wI (fX5_holderOfTicket o0 v1 u) := by
  rw [fX5_holderOfTicket]
  refine g_seg0 (pc' := 4) (L' := [some (vR (kO 5) o0), some (vI v1), some (vI 0), some (vI 0)]) (st' := []) (u1 := u) [(oC 0, 1), (oL 3 2, 1), (oC 0, 1), (oL 3 3, 1)] (by decide +kernel) rfl rfl ?_
  exact tX5_holderOfTicket_4 o0 fu v1 0 0 u
theorem CX5_holderOfTicket (o0 : Nat) (v1 : Int32) (u : ab_S) : ab_C 0 yX5_holderOfTicket cX5_holderOfTicket 4 (some .int) 0 [vR (kO 5) o0, vI v1] u wI (fX5_holderOfTicket o0 v1 u) := ab_entry (by decide +kernel) rfl (by decide) (by decide) (fun _ => Nat.le_of_ble_eq_true rfl) rfl (tX5_holderOfTicket o0 v1 u)
def fX5_draw (o0 : Nat) (v1 : Int32) (u : ab_S) : Option (Int32 × ab_S) :=
  ab_gd [decide (¬ 2147483648 = 0)] (
    bif decide (v1 ≤ 0) then (
      some (0, (sJ u o0 3 ((((u.2.1 o0 3) * 1103515245) + 12345) - (((u.2.1 o0 3) * 1103515245) + 12345) / 2147483648 * 2147483648))))
    else (
      ab_gd [decide (¬ 65536 = 0), decide (¬ (Int32.toInt64 v1) = 0)] (
        some ((Int64.toInt32 ((((sJ u o0 3 ((((u.2.1 o0 3) * 1103515245) + 12345) - (((u.2.1 o0 3) * 1103515245) + 12345) / 2147483648 * 2147483648)).2.1 o0 3) / 65536) - (((sJ u o0 3 ((((u.2.1 o0 3) * 1103515245) + 12345) - (((u.2.1 o0 3) * 1103515245) + 12345) / 2147483648 * 2147483648)).2.1 o0 3) / 65536) / (Int32.toInt64 v1) * (Int32.toInt64 v1))), (sJ u o0 3 ((((u.2.1 o0 3) * 1103515245) + 12345) - (((u.2.1 o0 3) * 1103515245) + 12345) / 2147483648 * 2147483648))))))
theorem tX5_draw (o0 : Nat) (v1 : Int32) (u : ab_S) : ab_G 0 5 cX5_draw (some .int) 0 0 [some (vR (kO 5) o0), some (vI v1)] [] u wI (fX5_draw o0 v1 u) := by
  rw [fX5_draw]
  refine g_seg (pc' := 21) (L' := [some (vR (kO 5) o0), some (vI v1)]) (st' := [vI v1]) (u1 := (sJ u o0 3 ((((u.2.1 o0 3) * 1103515245) + 12345) - (((u.2.1 o0 3) * 1103515245) + 12345) / 2147483648 * 2147483648))) [(oL 2 0, 1), (oL 2 0, 1), (oP (.getfield 41), 3), (oD 1103515245, 3), (oP .lmul, 1), (oD 12345, 3), (oP .ladd, 1), (oD 2147483648, 3), (oP .lrem, 1), (oP (.putfield 41), 3), (oL 0 1, 1)] (by decide +kernel) rfl rfl ?_
  refine g_zle (off := 18) (tgt := 39) (pc2 := 24) (by decide +kernel) (by decide) rfl ?_ ?_
  · refine g_seg0 (pc' := 40) (L' := [some (vR (kO 5) o0), some (vI v1)]) (st' := [vI 0]) (u1 := (sJ u o0 3 ((((u.2.1 o0 3) * 1103515245) + 12345) - (((u.2.1 o0 3) * 1103515245) + 12345) / 2147483648 * 2147483648))) [(oC 0, 1)] (by decide +kernel) rfl rfl ?_
    exact g_iret (by decide +kernel) rfl
  · refine g_seg (pc' := 36) (L' := [some (vR (kO 5) o0), some (vI v1)]) (st' := [vI (Int64.toInt32 ((((sJ u o0 3 ((((u.2.1 o0 3) * 1103515245) + 12345) - (((u.2.1 o0 3) * 1103515245) + 12345) / 2147483648 * 2147483648)).2.1 o0 3) / 65536) - (((sJ u o0 3 ((((u.2.1 o0 3) * 1103515245) + 12345) - (((u.2.1 o0 3) * 1103515245) + 12345) / 2147483648 * 2147483648)).2.1 o0 3) / 65536) / (Int32.toInt64 v1) * (Int32.toInt64 v1)))]) (u1 := (sJ u o0 3 ((((u.2.1 o0 3) * 1103515245) + 12345) - (((u.2.1 o0 3) * 1103515245) + 12345) / 2147483648 * 2147483648))) [(oL 2 0, 1), (oP (.getfield 41), 3), (oD 65536, 3), (oP .ldiv, 1), (oL 0 1, 1), (oP .i2l, 1), (oP .lrem, 1), (oP .l2i, 1)] (by decide +kernel) rfl rfl ?_
    refine g_goto (off := 4) (tgt := 40) (by decide +kernel) (by decide) ?_
    exact g_iret (by decide +kernel) rfl
theorem CX5_draw (o0 : Nat) (v1 : Int32) (u : ab_S) : ab_C 0 yX5_draw cX5_draw 2 (some .int) 0 [vR (kO 5) o0, vI v1] u wI (fX5_draw o0 v1 u) := ab_entry (by decide +kernel) rfl (by decide) (by decide) (fun _ => Nat.le_of_ble_eq_true rfl) rfl (tX5_draw o0 v1 u)
def fX9_sum_10 (n0 : Nat) (o0 : Nat) : Nat → Int32 → Int32 → Int32 → ab_S → Option (Int32 × ab_S)
  | 0, _, _, _, _ => none
  | n + 1, v1, v3, v4, u =>
  bif decide (v4 < v3) then (
    ab_gd [ab_ix v4 n0] (
      (fX9_sum_10 n0 o0 n) (v1 + (u.1 o0 (nc v4))) v3 (v4 + 1) u))
  else (
    some (v1, u))
theorem tX9_sum_10 (n0 : Nat) (o0 : Nat) : ∀ (n : Nat) (v1 : Int32) (v3 : Int32) (v4 : Int32) (u : ab_S), ab_G 0 8 cX9_sum (some .int) 0 10 [none, some (vI v1), some (vR (kA 0 n0) o0), some (vI v3), some (vI v4), none] [] u wI (fX9_sum_10 n0 o0 n v1 v3 v4 u) := by
  intro n
  induction n with
  | zero => intros; exact g_none
  | succ n ih =>
    intro v1 v3 v4 u
    rw [fX9_sum_10]
    refine g_seg0 (pc' := 13) (L' := [none, some (vI v1), some (vR (kA 0 n0) o0), some (vI v3), some (vI v4), none]) (st' := [vI v3, vI v4]) (u1 := u) [(oL 0 4, 2), (oL 0 3, 1)] (by decide +kernel) rfl rfl ?_
    refine g_ige (off := 20) (tgt := 33) (pc2 := 16) (by decide +kernel) (by decide) rfl ?_ ?_
    · refine g_seg0 (pc' := 34) (L' := [none, some (vI v1), some (vR (kA 0 n0) o0), some (vI v3), some (vI v4), none]) (st' := [vI v1]) (u1 := u) [(oL 0 1, 1)] (by decide +kernel) rfl rfl ?_
      exact g_iret (by decide +kernel) rfl
    · refine g_seg (pc' := 30) (L' := [none, some (vI (v1 + (u.1 o0 (nc v4)))), some (vR (kA 0 n0) o0), some (vI v3), some (vI (v4 + 1)), some (vI (u.1 o0 (nc v4)))]) (st' := []) (u1 := u) [(oL 2 2, 1), (oL 0 4, 2), (oP .iaload, 1), (oL 3 5, 2), (oL 0 1, 1), (oL 0 5, 2), (oP .iadd, 1), (oL 3 1, 1), (oN 4 1, 3)] (by decide +kernel) rfl rfl ?_
      refine g_goto (off := (-20)) (tgt := 10) (by decide +kernel) (by decide) ?_
      exact g_jump [false, true, true, true, true, false] rfl (ih (v1 + (u.1 o0 (nc v4))) v3 (v4 + 1) u)
def fX9_sum (n0 : Nat) (o0 : Nat) (u : ab_S) : Option (Int32 × ab_S) :=
  fX9_sum_10 n0 o0 fu 0 (Int32.ofNat n0) 0 u
theorem tX9_sum (n0 : Nat) (o0 : Nat) (u : ab_S) : ab_G 0 8 cX9_sum (some .int) 0 0 [some (vR (kA 0 n0) o0), none, none, none, none, none] [] u wI (fX9_sum n0 o0 u) := by
  rw [fX9_sum]
  refine g_seg0 (pc' := 10) (L' := [some (vR (kA 0 n0) o0), some (vI 0), some (vR (kA 0 n0) o0), some (vI (Int32.ofNat n0)), some (vI 0), none]) (st' := []) (u1 := u) [(oC 0, 1), (oL 3 1, 1), (oL 2 0, 1), (oL 5 2, 1), (oL 2 2, 1), (oP .arraylength, 1), (oL 3 3, 1), (oC 0, 1), (oL 3 4, 2)] (by decide +kernel) rfl rfl ?_
  exact g_jump [false, true, true, true, true, false] rfl (tX9_sum_10 n0 o0 fu 0 (Int32.ofNat n0) 0 u)
theorem CX9_sum (n0 : Nat) (o0 : Nat) (u : ab_S) : ab_C 0 yX9_sum cX9_sum 6 (some .int) 0 [vR (kA 0 n0) o0] u wI (fX9_sum n0 o0 u) := ab_entry (by decide +kernel) rfl (by decide) (by decide) (fun _ => Nat.le_of_ble_eq_true rfl) rfl (tX9_sum n0 o0 u)
def fX5_allTickets (o0 : Nat) (u : ab_S) : Option (Int32 × ab_S) :=
  (fX9_sum 6 (o0 + 3) u).bind fun q1 =>
    some (q1.1, q1.2)
theorem tX5_allTickets (o0 : Nat) (u : ab_S) : ab_G 0 5 cX5_allTickets (some .int) 1 0 [some (vR (kO 5) o0)] [] u wI (fX5_allTickets o0 u) := by
  rw [fX5_allTickets]
  refine g_seg0 (pc' := 4) (L' := [some (vR (kO 5) o0)]) (st' := [vR (kA 0 6) (o0 + 3)]) (u1 := u) [(oL 2 0, 1), (oP (.getfield 18), 3)] (by decide +kernel) rfl rfl ?_
  refine g_callS (k := 52) (pc2 := 7) (st := []) (CX9_sum 6 (o0 + 3) u) miX9_sum msX9_sum lk5_52 wI_ok (by decide +kernel) rfl (Nat.le_of_ble_eq_true rfl) (by decide) rfl (fun q1 hq1 => ?_)
  exact g_iret (by decide +kernel) rfl
theorem CX5_allTickets (o0 : Nat) (u : ab_S) : ab_C 0 yX5_allTickets cX5_allTickets 1 (some .int) 1 [vR (kO 5) o0] u wI (fX5_allTickets o0 u) := ab_entry (by decide +kernel) rfl (by decide) (by decide) (fun _ => Nat.le_of_ble_eq_true rfl) rfl (tX5_allTickets o0 u)
def fX5_raffle_7 (o0 : Nat) (o1 : Nat) : Nat → Int32 → Int32 → ab_S → Option (Int32 × ab_S)
  | 0, _, _, _ => none
  | n + 1, v2, v3, u =>
  bif decide (v3 < (u.1 o1 1)) then (
    bif decide (v2 ≤ 0) then (
      some ((-1), u))
    else (
      (fX5_holderOf o0 v3 u).bind fun q1 =>
        bif decide (q1.1 = (-1)) then (
          (fX5_draw o0 v2 q1.2).bind fun q2 =>
            (fX5_holderOfTicket o0 q2.1 q2.2).bind fun q3 =>
              (fX5_place o0 v3 q3.1 q3.2).bind fun q4 =>
                some (q3.1, q4.2))
        else (
          (fX5_raffle_7 o0 o1 n) v2 (v3 + 1) q1.2)))
  else (
    some ((-1), u))
theorem tX5_raffle_7 (o0 : Nat) (o1 : Nat) : ∀ (n : Nat) (v2 : Int32) (v3 : Int32) (u : ab_S), ab_G 0 5 cX5_raffle (some .int) 2 7 [some (vR (kO 5) o0), some (vR (kO 2) o1), some (vI v2), some (vI v3), none] [] u wI (fX5_raffle_7 o0 o1 n v2 v3 u) := by
  intro n
  induction n with
  | zero => intros; exact g_none
  | succ n ih =>
    intro v2 v3 u
    rw [fX5_raffle_7]
    refine g_seg0 (pc' := 12) (L' := [some (vR (kO 5) o0), some (vR (kO 2) o1), some (vI v2), some (vI v3), none]) (st' := [vI (u.1 o1 1), vI v3]) (u1 := u) [(oL 0 3, 1), (oL 2 1, 1), (oP (.getfield 64), 3)] (by decide +kernel) rfl rfl ?_
    refine g_ige (off := 43) (tgt := 55) (pc2 := 15) (by decide +kernel) (by decide) rfl ?_ ?_
    · refine g_seg0 (pc' := 56) (L' := [some (vR (kO 5) o0), some (vR (kO 2) o1), some (vI v2), some (vI v3), none]) (st' := [vI (-1)]) (u1 := u) [(oC (-1), 1)] (by decide +kernel) rfl rfl ?_
      exact g_iret (by decide +kernel) rfl
    · refine g_seg0 (pc' := 16) (L' := [some (vR (kO 5) o0), some (vR (kO 2) o1), some (vI v2), some (vI v3), none]) (st' := [vI v2]) (u1 := u) [(oL 0 2, 1)] (by decide +kernel) rfl rfl ?_
      refine g_zle (off := 39) (tgt := 55) (pc2 := 19) (by decide +kernel) (by decide) rfl ?_ ?_
      · refine g_seg0 (pc' := 56) (L' := [some (vR (kO 5) o0), some (vR (kO 2) o1), some (vI v2), some (vI v3), none]) (st' := [vI (-1)]) (u1 := u) [(oC (-1), 1)] (by decide +kernel) rfl rfl ?_
        exact g_iret (by decide +kernel) rfl
      · refine g_seg0 (pc' := 21) (L' := [some (vR (kO 5) o0), some (vR (kO 2) o1), some (vI v2), some (vI v3), none]) (st' := [vI v3, vR (kO 5) o0]) (u1 := u) [(oL 2 0, 1), (oL 0 3, 1)] (by decide +kernel) rfl rfl ?_
        refine g_callV (k := 67) (pc2 := 24) (st := []) (CX5_holderOf o0 v3 u) miX5_holderOf mvX5_holderOf rfl (by decide) lk5_67 wI_ok (by decide +kernel) rfl (Nat.le_of_ble_eq_true rfl) (by decide) rfl (fun q1 hq1 => ?_)
        refine g_seg0 (pc' := 25) (L' := [some (vR (kO 5) o0), some (vR (kO 2) o1), some (vI v2), some (vI v3), none]) (st' := [vI (-1), vI (q1.1)]) (u1 := q1.2) [(oC (-1), 1)] (by decide +kernel) rfl rfl ?_
        refine g_ine (off := 24) (tgt := 49) (pc2 := 28) (by decide +kernel) (by decide) rfl ?_ ?_
        · refine g_seg0 (pc' := 52) (L' := [some (vR (kO 5) o0), some (vR (kO 2) o1), some (vI v2), some (vI (v3 + 1)), none]) (st' := []) (u1 := q1.2) [(oN 3 1, 3)] (by decide +kernel) rfl rfl ?_
          refine g_goto (off := (-45)) (tgt := 7) (by decide +kernel) (by decide) ?_
          exact ih v2 (v3 + 1) q1.2
        · refine g_seg0 (pc' := 31) (L' := [some (vR (kO 5) o0), some (vR (kO 2) o1), some (vI v2), some (vI v3), none]) (st' := [vI v2, vR (kO 5) o0, vR (kO 5) o0]) (u1 := q1.2) [(oL 2 0, 1), (oL 2 0, 1), (oL 0 2, 1)] (by decide +kernel) rfl rfl ?_
          refine g_callV (k := 132) (pc2 := 34) (st := [vR (kO 5) o0]) (CX5_draw o0 v2 q1.2) miX5_draw mvX5_draw rfl (by decide) lk5_132 wI_ok (by decide +kernel) rfl (Nat.le_of_ble_eq_true rfl) (by decide) rfl (fun q2 hq2 => ?_)
          refine g_callV (k := 135) (pc2 := 37) (st := []) (CX5_holderOfTicket o0 q2.1 q2.2) miX5_holderOfTicket mvX5_holderOfTicket rfl (by decide) lk5_135 wI_ok (by decide +kernel) rfl (Nat.le_of_ble_eq_true rfl) (by decide) rfl (fun q3 hq3 => ?_)
          refine g_seg0 (pc' := 43) (L' := [some (vR (kO 5) o0), some (vR (kO 2) o1), some (vI v2), some (vI v3), some (vI (q3.1))]) (st' := [vI (q3.1), vI v3, vR (kO 5) o0]) (u1 := q3.2) [(oL 3 4, 2), (oL 2 0, 1), (oL 0 3, 1), (oL 0 4, 2)] (by decide +kernel) rfl rfl ?_
          refine g_callV (k := 100) (pc2 := 46) (st := []) (CX5_place o0 v3 q3.1 q3.2) miX5_place mvX5_place rfl (by decide) lk5_100 wV_ok (by decide +kernel) rfl (Nat.le_of_ble_eq_true rfl) (by decide) rfl (fun q4 hq4 => ?_)
          refine g_seg0 (pc' := 48) (L' := [some (vR (kO 5) o0), some (vR (kO 2) o1), some (vI v2), some (vI v3), some (vI (q3.1))]) (st' := [vI (q3.1)]) (u1 := q4.2) [(oL 0 4, 2)] (by decide +kernel) rfl rfl ?_
          exact g_iret (by decide +kernel) rfl
def fX5_raffle (o0 : Nat) (o1 : Nat) (u : ab_S) : Option (Int32 × ab_S) :=
  (fX5_allTickets o0 u).bind fun q5 =>
    fX5_raffle_7 o0 o1 fu q5.1 0 q5.2
theorem tX5_raffle (o0 : Nat) (o1 : Nat) (u : ab_S) : ab_G 0 5 cX5_raffle (some .int) 2 0 [some (vR (kO 5) o0), some (vR (kO 2) o1), none, none, none] [] u wI (fX5_raffle o0 o1 u) := by
  rw [fX5_raffle]
  refine g_seg0 (pc' := 1) (L' := [some (vR (kO 5) o0), some (vR (kO 2) o1), none, none, none]) (st' := [vR (kO 5) o0]) (u1 := u) [(oL 2 0, 1)] (by decide +kernel) rfl rfl ?_
  refine g_callV (k := 129) (pc2 := 4) (st := []) (CX5_allTickets o0 u) miX5_allTickets mvX5_allTickets rfl (by decide) lk5_129 wI_ok (by decide +kernel) rfl (Nat.le_of_ble_eq_true rfl) (by decide) rfl (fun q5 hq5 => ?_)
  refine g_seg0 (pc' := 7) (L' := [some (vR (kO 5) o0), some (vR (kO 2) o1), some (vI (q5.1)), some (vI 0), none]) (st' := []) (u1 := q5.2) [(oL 3 2, 1), (oC 0, 1), (oL 3 3, 1)] (by decide +kernel) rfl rfl ?_
  exact tX5_raffle_7 o0 o1 fu q5.1 0 q5.2
theorem CX5_raffle (o0 : Nat) (o1 : Nat) (u : ab_S) : ab_C 0 yX5_raffle cX5_raffle 5 (some .int) 2 [vR (kO 5) o0, vR (kO 2) o1] u wI (fX5_raffle o0 o1 u) := ab_entry (by decide +kernel) rfl (by decide) (by decide) (fun _ => Nat.le_of_ble_eq_true rfl) rfl (tX5_raffle o0 o1 u)
def fX2_allGoods (o0 : Nat) (u : ab_S) : Option (Int32 × ab_S) :=
  some ((((1 : Int32) <<< ((u.1 o0 1) &&& 31)) - 1), u)
theorem tX2_allGoods (o0 : Nat) (u : ab_S) : ab_G 0 2 cX2_allGoods (some .int) 0 0 [some (vR (kO 2) o0)] [] u wI (fX2_allGoods o0 u) := by
  rw [fX2_allGoods]
  refine g_seg0 (pc' := 8) (L' := [some (vR (kO 2) o0)]) (st' := [vI (((1 : Int32) <<< ((u.1 o0 1) &&& 31)) - 1)]) (u1 := u) [(oC 1, 1), (oL 2 0, 1), (oP (.getfield 66), 3), (oP .ishl, 1), (oC 1, 1), (oP .isub, 1)] (by decide +kernel) rfl rfl ?_
  exact g_iret (by decide +kernel) rfl
theorem CX2_allGoods (o0 : Nat) (u : ab_S) : ab_C 0 yX2_allGoods cX2_allGoods 1 (some .int) 0 [vR (kO 2) o0] u wI (fX2_allGoods o0 u) := ab_entry (by decide +kernel) rfl (by decide) (by decide) (fun _ => Nat.le_of_ble_eq_true rfl) rfl (tX2_allGoods o0 u)
def fX5_heldBits (o0 : Nat) (o1 : Nat) (u : ab_S) : Option (Int32 × ab_S) :=
  (fX2_allGoods o1 u).bind fun q1 =>
    (fX5_bitsOf o0 (-1) q1.2).bind fun q2 =>
      some ((q1.1 &&& (q2.1 ^^^ (-1))), q2.2)
theorem tX5_heldBits (o0 : Nat) (o1 : Nat) (u : ab_S) : ab_G 0 5 cX5_heldBits (some .int) 1 0 [some (vR (kO 5) o0), some (vR (kO 2) o1)] [] u wI (fX5_heldBits o0 o1 u) := by
  rw [fX5_heldBits]
  refine g_seg0 (pc' := 1) (L' := [some (vR (kO 5) o0), some (vR (kO 2) o1)]) (st' := [vR (kO 2) o1]) (u1 := u) [(oL 2 1, 1)] (by decide +kernel) rfl rfl ?_
  refine g_callV (k := 56) (pc2 := 4) (st := []) (CX2_allGoods o1 u) miX2_allGoods mvX2_allGoods rfl (by decide) lk5_56 wI_ok (by decide +kernel) rfl (Nat.le_of_ble_eq_true rfl) (by decide) rfl (fun q1 hq1 => ?_)
  refine g_seg0 (pc' := 6) (L' := [some (vR (kO 5) o0), some (vR (kO 2) o1)]) (st' := [vI (-1), vR (kO 5) o0, vI (q1.1)]) (u1 := q1.2) [(oL 2 0, 1), (oC (-1), 1)] (by decide +kernel) rfl rfl ?_
  refine g_callV (k := 60) (pc2 := 9) (st := [vI (q1.1)]) (CX5_bitsOf o0 (-1) q1.2) miX5_bitsOf mvX5_bitsOf rfl (by decide) lk5_60 wI_ok (by decide +kernel) rfl (Nat.le_of_ble_eq_true rfl) (by decide) rfl (fun q2 hq2 => ?_)
  refine g_seg0 (pc' := 12) (L' := [some (vR (kO 5) o0), some (vR (kO 2) o1)]) (st' := [vI (q1.1 &&& (q2.1 ^^^ (-1)))]) (u1 := q2.2) [(oC (-1), 1), (oP .ixor, 1), (oP .iand, 1)] (by decide +kernel) rfl rfl ?_
  exact g_iret (by decide +kernel) rfl
theorem CX5_heldBits (o0 : Nat) (o1 : Nat) (u : ab_S) : ab_C 0 yX5_heldBits cX5_heldBits 2 (some .int) 1 [vR (kO 5) o0, vR (kO 2) o1] u wI (fX5_heldBits o0 o1 u) := ab_entry (by decide +kernel) rfl (by decide) (by decide) (fun _ => Nat.le_of_ble_eq_true rfl) rfl (tX5_heldBits o0 o1 u)
def fX5_settle (o0 : Nat) (o1 : Nat) (v2 : Int32) (u : ab_S) : Option (Unit × ab_S) :=
  (fX5_holderOf o0 v2 u).bind fun q1 =>
    (fX2_ownerOf o1 v2 q1.2).bind fun q2 =>
      (fX2_kindOf o1 q1.1 q2.2).bind fun q3 =>
        ab_sw q3.1 [
        (1,
          (fX5_fitOf o0 o1 q1.1 v2 q3.2).bind fun q4 =>
            bif decide (q4.1 < 5) then (
              (fX5_place o0 v2 (-1) q4.2).bind fun q5 =>
                some ((), q5.2))
            else (
              some ((), q4.2))),
        (2,
          (fX5_place o0 v2 q2.1 q3.2).bind fun q6 =>
            some ((), q6.2)),
        (3,
          bif decide (q1.1 = q2.1) then (
            some ((), q3.2))
          else (
            (fX5_place o0 v2 (-1) q3.2).bind fun q7 =>
              some ((), q7.2)))] (
          some ((), q3.2))
theorem tX5_settle (o0 : Nat) (o1 : Nat) (v2 : Int32) (u : ab_S) : ab_G 0 5 cX5_settle none 3 0 [some (vR (kO 5) o0), some (vR (kO 2) o1), some (vI v2), none, none] [] u wV (fX5_settle o0 o1 v2 u) := by
  rw [fX5_settle]
  refine g_seg0 (pc' := 2) (L' := [some (vR (kO 5) o0), some (vR (kO 2) o1), some (vI v2), none, none]) (st' := [vI v2, vR (kO 5) o0]) (u1 := u) [(oL 2 0, 1), (oL 0 2, 1)] (by decide +kernel) rfl rfl ?_
  refine g_callV (k := 67) (pc2 := 5) (st := []) (CX5_holderOf o0 v2 u) miX5_holderOf mvX5_holderOf rfl (by decide) lk5_67 wI_ok (by decide +kernel) rfl (Nat.le_of_ble_eq_true rfl) (by decide) rfl (fun q1 hq1 => ?_)
  refine g_seg0 (pc' := 8) (L' := [some (vR (kO 5) o0), some (vR (kO 2) o1), some (vI v2), some (vI (q1.1)), none]) (st' := [vI v2, vR (kO 2) o1]) (u1 := q1.2) [(oL 3 3, 1), (oL 2 1, 1), (oL 0 2, 1)] (by decide +kernel) rfl rfl ?_
  refine g_callV (k := 70) (pc2 := 11) (st := []) (CX2_ownerOf o1 v2 q1.2) miX2_ownerOf mvX2_ownerOf rfl (by decide) lk5_70 wI_ok (by decide +kernel) rfl (Nat.le_of_ble_eq_true rfl) (by decide) rfl (fun q2 hq2 => ?_)
  refine g_seg0 (pc' := 15) (L' := [some (vR (kO 5) o0), some (vR (kO 2) o1), some (vI v2), some (vI (q1.1)), some (vI (q2.1))]) (st' := [vI (q1.1), vR (kO 2) o1]) (u1 := q2.2) [(oL 3 4, 2), (oL 2 1, 1), (oL 0 3, 1)] (by decide +kernel) rfl rfl ?_
  refine g_callV (k := 138) (pc2 := 18) (st := []) (CX2_kindOf o1 q1.1 q2.2) miX2_kindOf mvX2_kindOf rfl (by decide) lk5_138 wI_ok (by decide +kernel) rfl (Nat.le_of_ble_eq_true rfl) (by decide) rfl (fun q3 hq3 => ?_)
  refine g_sw0 ?_
  refine g_sw1 (dflt := 71) (lo := 1) (hi := 3) (offs := #[26, 46, 56]) (len := 26) (k := 1) (t := 44) (by decide +kernel) (by decide +kernel) ?_ ?_
  · refine g_seg0 (pc' := 48) (L' := [some (vR (kO 5) o0), some (vR (kO 2) o1), some (vI v2), some (vI (q1.1)), some (vI (q2.1))]) (st' := [vI v2, vI (q1.1), vR (kO 2) o1, vR (kO 5) o0]) (u1 := q3.2) [(oL 2 0, 1), (oL 2 1, 1), (oL 0 3, 1), (oL 0 2, 1)] (by decide +kernel) rfl rfl ?_
    refine g_callV (k := 141) (pc2 := 51) (st := []) (CX5_fitOf o0 o1 q1.1 v2 q3.2) miX5_fitOf mvX5_fitOf rfl (by decide) lk5_141 wI_ok (by decide +kernel) rfl (Nat.le_of_ble_eq_true rfl) (by decide) rfl (fun q4 hq4 => ?_)
    refine g_seg0 (pc' := 52) (L' := [some (vR (kO 5) o0), some (vR (kO 2) o1), some (vI v2), some (vI (q1.1)), some (vI (q2.1))]) (st' := [vI 5, vI (q4.1)]) (u1 := q4.2) [(oC 5, 1)] (by decide +kernel) rfl rfl ?_
    refine g_ige (off := 37) (tgt := 89) (pc2 := 55) (by decide +kernel) (by decide) rfl ?_ ?_
    · exact g_vret (by decide +kernel) rfl
    · refine g_seg0 (pc' := 58) (L' := [some (vR (kO 5) o0), some (vR (kO 2) o1), some (vI v2), some (vI (q1.1)), some (vI (q2.1))]) (st' := [vI (-1), vI v2, vR (kO 5) o0]) (u1 := q4.2) [(oL 2 0, 1), (oL 0 2, 1), (oC (-1), 1)] (by decide +kernel) rfl rfl ?_
      refine g_callV (k := 100) (pc2 := 61) (st := []) (CX5_place o0 v2 (-1) q4.2) miX5_place mvX5_place rfl (by decide) lk5_100 wV_ok (by decide +kernel) rfl (Nat.le_of_ble_eq_true rfl) (by decide) rfl (fun q5 hq5 => ?_)
      refine g_goto (off := 28) (tgt := 89) (by decide +kernel) (by decide) ?_
      exact g_vret (by decide +kernel) rfl
  refine g_sw1 (dflt := 71) (lo := 1) (hi := 3) (offs := #[26, 46, 56]) (len := 26) (k := 2) (t := 64) (by decide +kernel) (by decide +kernel) ?_ ?_
  · refine g_seg0 (pc' := 68) (L' := [some (vR (kO 5) o0), some (vR (kO 2) o1), some (vI v2), some (vI (q1.1)), some (vI (q2.1))]) (st' := [vI (q2.1), vI v2, vR (kO 5) o0]) (u1 := q3.2) [(oL 2 0, 1), (oL 0 2, 1), (oL 0 4, 2)] (by decide +kernel) rfl rfl ?_
    refine g_callV (k := 100) (pc2 := 71) (st := []) (CX5_place o0 v2 q2.1 q3.2) miX5_place mvX5_place rfl (by decide) lk5_100 wV_ok (by decide +kernel) rfl (Nat.le_of_ble_eq_true rfl) (by decide) rfl (fun q6 hq6 => ?_)
    refine g_goto (off := 18) (tgt := 89) (by decide +kernel) (by decide) ?_
    exact g_vret (by decide +kernel) rfl
  refine g_sw1 (dflt := 71) (lo := 1) (hi := 3) (offs := #[26, 46, 56]) (len := 26) (k := 3) (t := 74) (by decide +kernel) (by decide +kernel) ?_ ?_
  · refine g_seg0 (pc' := 77) (L' := [some (vR (kO 5) o0), some (vR (kO 2) o1), some (vI v2), some (vI (q1.1)), some (vI (q2.1))]) (st' := [vI (q2.1), vI (q1.1)]) (u1 := q3.2) [(oL 0 3, 1), (oL 0 4, 2)] (by decide +kernel) rfl rfl ?_
    refine g_ieq (off := 12) (tgt := 89) (pc2 := 80) (by decide +kernel) (by decide) rfl ?_ ?_
    · exact g_vret (by decide +kernel) rfl
    · refine g_seg0 (pc' := 83) (L' := [some (vR (kO 5) o0), some (vR (kO 2) o1), some (vI v2), some (vI (q1.1)), some (vI (q2.1))]) (st' := [vI (-1), vI v2, vR (kO 5) o0]) (u1 := q3.2) [(oL 2 0, 1), (oL 0 2, 1), (oC (-1), 1)] (by decide +kernel) rfl rfl ?_
      refine g_callV (k := 100) (pc2 := 86) (st := []) (CX5_place o0 v2 (-1) q3.2) miX5_place mvX5_place rfl (by decide) lk5_100 wV_ok (by decide +kernel) rfl (Nat.le_of_ble_eq_true rfl) (by decide) rfl (fun q7 hq7 => ?_)
      refine g_goto (off := 3) (tgt := 89) (by decide +kernel) (by decide) ?_
      exact g_vret (by decide +kernel) rfl
  refine g_swd (dflt := 71) (lo := 1) (hi := 3) (offs := #[26, 46, 56]) (len := 26) (tgd := 89) (by decide +kernel) (by decide) (by decide +kernel) ?_
  exact g_vret (by decide +kernel) rfl
theorem CX5_settle (o0 : Nat) (o1 : Nat) (v2 : Int32) (u : ab_S) : ab_C 0 yX5_settle cX5_settle 5 none 3 [vR (kO 5) o0, vR (kO 2) o1, vI v2] u wV (fX5_settle o0 o1 v2 u) := ab_entry (by decide +kernel) rfl (by decide) (by decide) (fun _ => Nat.le_of_ble_eq_true rfl) rfl (tX5_settle o0 o1 v2 u)
