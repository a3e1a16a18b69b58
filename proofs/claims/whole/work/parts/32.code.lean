/-! methods, printed by program out of the listing: function, walk, contract -/
def fX10_where_32 : Nat → Int32 → Int32 → Int32 → ab_S → Option (Int32 × ab_S)
  | 0, _, _, _, _ => none
  | n + 1, v1, v2, v3, u =>
  bif decide (v3 < v2) then (
    (fX10_passes 987 u).bind fun q1 =>
      (fX10_where_32 n) v1 v2 (v3 + 1) q1.2)
  else (
    ab_gd [ab_ix (989 + v1) 1081] (
      some ((u.1 16 (nc (989 + v1))), u)))
theorem tX10_where_32 : ∀ (n : Nat) (v1 : Int32) (v2 : Int32) (v3 : Int32) (u : ab_S), ab_G 1 9 cX10_where (some .int) 6 32 [some (vR (kO 9) 0), some (vI v1), some (vI v2), some (vI v3)] [] u wI (fX10_where_32 n v1 v2 v3 u) := by
  intro n
  induction n with
  | zero => intros; exact g_none
  | succ n ih =>
    intro v1 v2 v3 u
    rw [fX10_where_32]
    refine g_seg0 (pc' := 34) (L' := [some (vR (kO 9) 0), some (vI v1), some (vI v2), some (vI v3)]) (st' := [vI v2, vI v3]) (u1 := u) [(oL 0 3, 1), (oL 0 2, 1)] (by decide +kernel) rfl rfl ?_
    refine g_ige (off := 17) (tgt := 51) (pc2 := 37) (by decide +kernel) (by decide) rfl ?_ ?_
    · refine g_seg (pc' := 61) (L' := [some (vR (kO 9) 0), some (vI v1), some (vI v2), some (vI v3)]) (st' := [vI (u.1 16 (nc (989 + v1)))]) (u1 := u) [(oL 2 0, 1), (oP (.getfield 113), 3), (oC 989, 3), (oL 0 1, 1), (oP .iadd, 1), (oP .iaload, 1)] (by decide +kernel) rfl rfl ?_
      exact g_iret (by decide +kernel) rfl
    · refine g_seg0 (pc' := 41) (L' := [some (vR (kO 9) 0), some (vI v1), some (vI v2), some (vI v3)]) (st' := [vI 987, vR (kO 9) 0]) (u1 := u) [(oL 2 0, 1), (oC 987, 3)] (by decide +kernel) rfl rfl ?_
      refine g_callV (k := 364) (pc2 := 44) (st := []) (CX10_passes 987 u) miX10_passes mvX10_passes rfl (by decide) lk9_364 wI_ok (by decide +kernel) rfl (Nat.le_of_ble_eq_true rfl) (by decide) rfl (fun q1 hq1 => ?_)
      refine g_seg0 (pc' := 48) (L' := [some (vR (kO 9) 0), some (vI v1), some (vI v2), some (vI (v3 + 1))]) (st' := []) (u1 := q1.2) [(oP .pop, 1), (oN 3 1, 3)] (by decide +kernel) rfl rfl ?_
      refine g_goto (off := (-16)) (tgt := 32) (by decide +kernel) (by decide) ?_
      exact ih v1 v2 (v3 + 1) q1.2
def fX10_where (v1 : Int32) (v2 : Int32) (u : ab_S) : Option (Int32 × ab_S) :=
  (fX10_isGood v1 (sI u 0 0 0)).bind fun q2 =>
    bif decide (q2.1 = 0) then (
      some ((-2), q2.2))
    else (
      (fX10_within v2 0 60 q2.2).bind fun q3 =>
        bif decide (q3.1 = 0) then (
          some ((-2), q3.2))
        else (
          (fX10_triesNow q3.2).bind fun q4 =>
            fX10_where_32 fu v1 v2 0 q4.2))
theorem tX10_where (v1 : Int32) (v2 : Int32) (u : ab_S) : ab_G 1 9 cX10_where (some .int) 6 0 [some (vR (kO 9) 0), some (vI v1), some (vI v2), none] [] u wI (fX10_where v1 v2 u) := by
  rw [fX10_where]
  refine g_seg0 (pc' := 7) (L' := [some (vR (kO 9) 0), some (vI v1), some (vI v2), none]) (st' := [vI v1, vR (kO 9) 0]) (u1 := (sI u 0 0 0)) [(oL 2 0, 1), (oC 0, 1), (oP (.putfield 1), 3), (oL 2 0, 1), (oL 0 1, 1)] (by decide +kernel) rfl rfl ?_
  refine g_callV (k := 345) (pc2 := 10) (st := []) (CX10_isGood v1 (sI u 0 0 0)) miX10_isGood mvX10_isGood rfl (by decide) lk9_345 wI_ok (by decide +kernel) rfl (Nat.le_of_ble_eq_true rfl) (by decide) rfl (fun q2 hq2 => ?_)
  refine g_zeq (off := 13) (tgt := 23) (pc2 := 13) (by decide +kernel) (by decide) rfl ?_ ?_
  · refine g_seg0 (pc' := 25) (L' := [some (vR (kO 9) 0), some (vI v1), some (vI v2), none]) (st' := [vI (-2)]) (u1 := q2.2) [(oC (-2), 2)] (by decide +kernel) rfl rfl ?_
    exact g_iret (by decide +kernel) rfl
  · refine g_seg0 (pc' := 17) (L' := [some (vR (kO 9) 0), some (vI v1), some (vI v2), none]) (st' := [vI 60, vI 0, vI v2]) (u1 := q2.2) [(oL 0 2, 1), (oC 0, 1), (oC 60, 2)] (by decide +kernel) rfl rfl ?_
    refine g_callS (k := 207) (pc2 := 20) (st := []) (CX10_within v2 0 60 q2.2) miX10_within msX10_within lk9_207 wI_ok (by decide +kernel) rfl (Nat.le_of_ble_eq_true rfl) (by decide) rfl (fun q3 hq3 => ?_)
    refine g_zne (off := 6) (tgt := 26) (pc2 := 23) (by decide +kernel) (by decide) rfl ?_ ?_
    · refine g_seg0 (pc' := 27) (L' := [some (vR (kO 9) 0), some (vI v1), some (vI v2), none]) (st' := [vR (kO 9) 0]) (u1 := q3.2) [(oL 2 0, 1)] (by decide +kernel) rfl rfl ?_
      refine g_callV (k := 370) (pc2 := 30) (st := []) (CX10_triesNow q3.2) miX10_triesNow mvX10_triesNow rfl (by decide) lk9_370 wV_ok (by decide +kernel) rfl (Nat.le_of_ble_eq_true rfl) (by decide) rfl (fun q4 hq4 => ?_)
      refine g_seg0 (pc' := 32) (L' := [some (vR (kO 9) 0), some (vI v1), some (vI v2), some (vI 0)]) (st' := []) (u1 := q4.2) [(oC 0, 1), (oL 3 3, 1)] (by decide +kernel) rfl rfl ?_
      exact tX10_where_32 fu v1 v2 0 q4.2
    · refine g_seg0 (pc' := 25) (L' := [some (vR (kO 9) 0), some (vI v1), some (vI v2), none]) (st' := [vI (-2)]) (u1 := q3.2) [(oC (-2), 2)] (by decide +kernel) rfl rfl ?_
      exact g_iret (by decide +kernel) rfl
theorem CX10_where (v1 : Int32) (v2 : Int32) (u : ab_S) : ab_C 1 yX10_where cX10_where 4 (some .int) 6 [vR (kO 9) 0, vI v1, vI v2] u wI (fX10_where v1 v2 u) := ab_entry (by decide +kernel) rfl (by decide) (by decide) (fun _ => Nat.le_of_ble_eq_true rfl) rfl (tX10_where v1 v2 u)
def fX10_has_11 : Nat → Int32 → Int32 → Int32 → ab_S → Option (Int32 × ab_S)
  | 0, _, _, _, _ => none
  | n + 1, v1, v2, v3, u =>
  bif decide (v3 ≤ 60) then (
    (fX10_isPerson v1 u).bind fun q1 =>
      bif decide (q1.1 = 0) then (
        some ((-1), q1.2))
      else (
        (fX10_isGood v2 q1.2).bind fun q2 =>
          bif decide (q2.1 = 0) then (
            some ((-1), q2.2))
          else (
            ab_gd [ab_ix (989 + v2) 1081] (
              bif decide ((q2.2.1 16 (nc (989 + v2))) = v1) then (
                some (v3, q2.2))
              else (
                (fX10_passes 987 q2.2).bind fun q3 =>
                  (fX10_has_11 n) v1 v2 (v3 + 1) q3.2)))))
  else (
    some ((-1), u))
theorem tX10_has_11 : ∀ (n : Nat) (v1 : Int32) (v2 : Int32) (v3 : Int32) (u : ab_S), ab_G 1 9 cX10_has (some .int) 6 11 [some (vR (kO 9) 0), some (vI v1), some (vI v2), some (vI v3)] [] u wI (fX10_has_11 n v1 v2 v3 u) := by
  intro n
  induction n with
  | zero => intros; exact g_none
  | succ n ih =>
    intro v1 v2 v3 u
    rw [fX10_has_11]
    refine g_seg0 (pc' := 14) (L' := [some (vR (kO 9) 0), some (vI v1), some (vI v2), some (vI v3)]) (st' := [vI 60, vI v3]) (u1 := u) [(oL 0 3, 1), (oC 60, 2)] (by decide +kernel) rfl rfl ?_
    refine g_igt (off := 49) (tgt := 63) (pc2 := 17) (by decide +kernel) (by decide) rfl ?_ ?_
    · refine g_seg0 (pc' := 64) (L' := [some (vR (kO 9) 0), some (vI v1), some (vI v2), some (vI v3)]) (st' := [vI (-1)]) (u1 := u) [(oC (-1), 1)] (by decide +kernel) rfl rfl ?_
      exact g_iret (by decide +kernel) rfl
    · refine g_seg0 (pc' := 19) (L' := [some (vR (kO 9) 0), some (vI v1), some (vI v2), some (vI v3)]) (st' := [vI v1, vR (kO 9) 0]) (u1 := u) [(oL 2 0, 1), (oL 0 1, 1)] (by decide +kernel) rfl rfl ?_
      refine g_callV (k := 342) (pc2 := 22) (st := []) (CX10_isPerson v1 u) miX10_isPerson mvX10_isPerson rfl (by decide) lk9_342 wI_ok (by decide +kernel) rfl (Nat.le_of_ble_eq_true rfl) (by decide) rfl (fun q1 hq1 => ?_)
      refine g_zeq (off := 41) (tgt := 63) (pc2 := 25) (by decide +kernel) (by decide) rfl ?_ ?_
      · refine g_seg0 (pc' := 64) (L' := [some (vR (kO 9) 0), some (vI v1), some (vI v2), some (vI v3)]) (st' := [vI (-1)]) (u1 := q1.2) [(oC (-1), 1)] (by decide +kernel) rfl rfl ?_
        exact g_iret (by decide +kernel) rfl
      · refine g_seg0 (pc' := 27) (L' := [some (vR (kO 9) 0), some (vI v1), some (vI v2), some (vI v3)]) (st' := [vI v2, vR (kO 9) 0]) (u1 := q1.2) [(oL 2 0, 1), (oL 0 2, 1)] (by decide +kernel) rfl rfl ?_
        refine g_callV (k := 345) (pc2 := 30) (st := []) (CX10_isGood v2 q1.2) miX10_isGood mvX10_isGood rfl (by decide) lk9_345 wI_ok (by decide +kernel) rfl (Nat.le_of_ble_eq_true rfl) (by decide) rfl (fun q2 hq2 => ?_)
        refine g_zeq (off := 33) (tgt := 63) (pc2 := 33) (by decide +kernel) (by decide) rfl ?_ ?_
        · refine g_seg0 (pc' := 64) (L' := [some (vR (kO 9) 0), some (vI v1), some (vI v2), some (vI v3)]) (st' := [vI (-1)]) (u1 := q2.2) [(oC (-1), 1)] (by decide +kernel) rfl rfl ?_
          exact g_iret (by decide +kernel) rfl
        · refine g_seg (pc' := 44) (L' := [some (vR (kO 9) 0), some (vI v1), some (vI v2), some (vI v3)]) (st' := [vI v1, vI (q2.2.1 16 (nc (989 + v2)))]) (u1 := q2.2) [(oL 2 0, 1), (oP (.getfield 113), 3), (oC 989, 3), (oL 0 2, 1), (oP .iadd, 1), (oP .iaload, 1), (oL 0 1, 1)] (by decide +kernel) rfl rfl ?_
          refine g_ine (off := 5) (tgt := 49) (pc2 := 47) (by decide +kernel) (by decide) rfl ?_ ?_
          · refine g_seg0 (pc' := 53) (L' := [some (vR (kO 9) 0), some (vI v1), some (vI v2), some (vI v3)]) (st' := [vI 987, vR (kO 9) 0]) (u1 := q2.2) [(oL 2 0, 1), (oC 987, 3)] (by decide +kernel) rfl rfl ?_
            refine g_callV (k := 364) (pc2 := 56) (st := []) (CX10_passes 987 q2.2) miX10_passes mvX10_passes rfl (by decide) lk9_364 wI_ok (by decide +kernel) rfl (Nat.le_of_ble_eq_true rfl) (by decide) rfl (fun q3 hq3 => ?_)
            refine g_seg0 (pc' := 60) (L' := [some (vR (kO 9) 0), some (vI v1), some (vI v2), some (vI (v3 + 1))]) (st' := []) (u1 := q3.2) [(oP .pop, 1), (oN 3 1, 3)] (by decide +kernel) rfl rfl ?_
            refine g_goto (off := (-49)) (tgt := 11) (by decide +kernel) (by decide) ?_
            exact ih v1 v2 (v3 + 1) q3.2
          · refine g_seg0 (pc' := 48) (L' := [some (vR (kO 9) 0), some (vI v1), some (vI v2), some (vI v3)]) (st' := [vI v3]) (u1 := q2.2) [(oL 0 3, 1)] (by decide +kernel) rfl rfl ?_
            exact g_iret (by decide +kernel) rfl
def fX10_has (v1 : Int32) (v2 : Int32) (u : ab_S) : Option (Int32 × ab_S) :=
  (fX10_triesNow (sI u 0 0 0)).bind fun q4 =>
    fX10_has_11 fu v1 v2 0 q4.2
theorem tX10_has (v1 : Int32) (v2 : Int32) (u : ab_S) : ab_G 1 9 cX10_has (some .int) 6 0 [some (vR (kO 9) 0), some (vI v1), some (vI v2), none] [] u wI (fX10_has v1 v2 u) := by
  rw [fX10_has]
  refine g_seg0 (pc' := 6) (L' := [some (vR (kO 9) 0), some (vI v1), some (vI v2), none]) (st' := [vR (kO 9) 0]) (u1 := (sI u 0 0 0)) [(oL 2 0, 1), (oC 0, 1), (oP (.putfield 1), 3), (oL 2 0, 1)] (by decide +kernel) rfl rfl ?_
  refine g_callV (k := 370) (pc2 := 9) (st := []) (CX10_triesNow (sI u 0 0 0)) miX10_triesNow mvX10_triesNow rfl (by decide) lk9_370 wV_ok (by decide +kernel) rfl (Nat.le_of_ble_eq_true rfl) (by decide) rfl (fun q4 hq4 => ?_)
  refine g_seg0 (pc' := 11) (L' := [some (vR (kO 9) 0), some (vI v1), some (vI v2), some (vI 0)]) (st' := []) (u1 := q4.2) [(oC 0, 1), (oL 3 3, 1)] (by decide +kernel) rfl rfl ?_
  exact tX10_has_11 fu v1 v2 0 q4.2
theorem CX10_has (v1 : Int32) (v2 : Int32) (u : ab_S) : ab_C 1 yX10_has cX10_has 4 (some .int) 6 [vR (kO 9) 0, vI v1, vI v2] u wI (fX10_has v1 v2 u) := ab_entry (by decide +kernel) rfl (by decide) (by decide) (fun _ => Nat.le_of_ble_eq_true rfl) rfl (tX10_has v1 v2 u)
def fX10_home_11 : Nat → Int32 → ab_S → Option (Int32 × ab_S)
  | 0, _, _ => none
  | n + 1, v1, u =>
  bif decide (v1 ≤ 60) then (
    (fX10_rightsOf 987 u).bind fun q1 =>
      (fX10_goods q1.2).bind fun q2 =>
        bif decide (q1.1 = (((1 : Int32) <<< (q2.1 &&& 31)) - 1)) then (
          some (v1, q2.2))
        else (
          (fX10_passes 987 q2.2).bind fun q3 =>
            (fX10_home_11 n) (v1 + 1) q3.2))
  else (
    some ((-1), u))
theorem tX10_home_11 : ∀ (n : Nat) (v1 : Int32) (u : ab_S), ab_G 1 9 cX10_home (some .int) 6 11 [some (vR (kO 9) 0), some (vI v1)] [] u wI (fX10_home_11 n v1 u) := by
  intro n
  induction n with
  | zero => intros; exact g_none
  | succ n ih =>
    intro v1 u
    rw [fX10_home_11]
    refine g_seg0 (pc' := 14) (L' := [some (vR (kO 9) 0), some (vI v1)]) (st' := [vI 60, vI v1]) (u1 := u) [(oL 0 1, 1), (oC 60, 2)] (by decide +kernel) rfl rfl ?_
    refine g_igt (off := 37) (tgt := 51) (pc2 := 17) (by decide +kernel) (by decide) rfl ?_ ?_
    · refine g_seg0 (pc' := 52) (L' := [some (vR (kO 9) 0), some (vI v1)]) (st' := [vI (-1)]) (u1 := u) [(oC (-1), 1)] (by decide +kernel) rfl rfl ?_
      exact g_iret (by decide +kernel) rfl
    · refine g_seg0 (pc' := 21) (L' := [some (vR (kO 9) 0), some (vI v1)]) (st' := [vI 987, vR (kO 9) 0]) (u1 := u) [(oL 2 0, 1), (oC 987, 3)] (by decide +kernel) rfl rfl ?_
      refine g_callV (k := 367) (pc2 := 24) (st := []) (CX10_rightsOf 987 u) miX10_rightsOf mvX10_rightsOf rfl (by decide) lk9_367 wI_ok (by decide +kernel) rfl (Nat.le_of_ble_eq_true rfl) (by decide) rfl (fun q1 hq1 => ?_)
      refine g_seg0 (pc' := 26) (L' := [some (vR (kO 9) 0), some (vI v1)]) (st' := [vR (kO 9) 0, vI 1, vI (q1.1)]) (u1 := q1.2) [(oC 1, 1), (oL 2 0, 1)] (by decide +kernel) rfl rfl ?_
      refine g_callV (k := 291) (pc2 := 29) (st := [vI 1, vI (q1.1)]) (CX10_goods q1.2) miX10_goods mvX10_goods rfl (by decide) lk9_291 wI_ok (by decide +kernel) rfl (Nat.le_of_ble_eq_true rfl) (by decide) rfl (fun q2 hq2 => ?_)
      refine g_seg0 (pc' := 32) (L' := [some (vR (kO 9) 0), some (vI v1)]) (st' := [vI (((1 : Int32) <<< (q2.1 &&& 31)) - 1), vI (q1.1)]) (u1 := q2.2) [(oP .ishl, 1), (oC 1, 1), (oP .isub, 1)] (by decide +kernel) rfl rfl ?_
      refine g_ine (off := 5) (tgt := 37) (pc2 := 35) (by decide +kernel) (by decide) rfl ?_ ?_
      · refine g_seg0 (pc' := 41) (L' := [some (vR (kO 9) 0), some (vI v1)]) (st' := [vI 987, vR (kO 9) 0]) (u1 := q2.2) [(oL 2 0, 1), (oC 987, 3)] (by decide +kernel) rfl rfl ?_
        refine g_callV (k := 364) (pc2 := 44) (st := []) (CX10_passes 987 q2.2) miX10_passes mvX10_passes rfl (by decide) lk9_364 wI_ok (by decide +kernel) rfl (Nat.le_of_ble_eq_true rfl) (by decide) rfl (fun q3 hq3 => ?_)
        refine g_seg0 (pc' := 48) (L' := [some (vR (kO 9) 0), some (vI (v1 + 1))]) (st' := []) (u1 := q3.2) [(oP .pop, 1), (oN 1 1, 3)] (by decide +kernel) rfl rfl ?_
        refine g_goto (off := (-37)) (tgt := 11) (by decide +kernel) (by decide) ?_
        exact ih (v1 + 1) q3.2
      · refine g_seg0 (pc' := 36) (L' := [some (vR (kO 9) 0), some (vI v1)]) (st' := [vI v1]) (u1 := q2.2) [(oL 0 1, 1)] (by decide +kernel) rfl rfl ?_
        exact g_iret (by decide +kernel) rfl
def fX10_home (u : ab_S) : Option (Int32 × ab_S) :=
  (fX10_triesNow (sI u 0 0 0)).bind fun q4 =>
    fX10_home_11 fu 0 q4.2
theorem tX10_home (u : ab_S) : ab_G 1 9 cX10_home (some .int) 6 0 [some (vR (kO 9) 0), none] [] u wI (fX10_home u) := by
  rw [fX10_home]
  refine g_seg0 (pc' := 6) (L' := [some (vR (kO 9) 0), none]) (st' := [vR (kO 9) 0]) (u1 := (sI u 0 0 0)) [(oL 2 0, 1), (oC 0, 1), (oP (.putfield 1), 3), (oL 2 0, 1)] (by decide +kernel) rfl rfl ?_
  refine g_callV (k := 370) (pc2 := 9) (st := []) (CX10_triesNow (sI u 0 0 0)) miX10_triesNow mvX10_triesNow rfl (by decide) lk9_370 wV_ok (by decide +kernel) rfl (Nat.le_of_ble_eq_true rfl) (by decide) rfl (fun q4 hq4 => ?_)
  refine g_seg0 (pc' := 11) (L' := [some (vR (kO 9) 0), some (vI 0)]) (st' := []) (u1 := q4.2) [(oC 0, 1), (oL 3 1, 1)] (by decide +kernel) rfl rfl ?_
  exact tX10_home_11 fu 0 q4.2
theorem CX10_home (u : ab_S) : ab_C 1 yX10_home cX10_home 2 (some .int) 6 [vR (kO 9) 0] u wI (fX10_home u) := ab_entry (by decide +kernel) rfl (by decide) (by decide) (fun _ => Nat.le_of_ble_eq_true rfl) rfl (tX10_home u)
def fX10_empty_11 : Nat → Int32 → ab_S → Option (Int32 × ab_S)
  | 0, _, _ => none
  | n + 1, v1, u =>
  bif decide (v1 ≤ 60) then (
    (fX10_heldBy 987 (-1) u).bind fun q1 =>
      bif decide (q1.1 = 0) then (
        some (v1, q1.2))
      else (
        (fX10_passes 987 q1.2).bind fun q2 =>
          (fX10_empty_11 n) (v1 + 1) q2.2))
  else (
    some ((-1), u))
theorem tX10_empty_11 : ∀ (n : Nat) (v1 : Int32) (u : ab_S), ab_G 1 9 cX10_empty (some .int) 6 11 [some (vR (kO 9) 0), some (vI v1)] [] u wI (fX10_empty_11 n v1 u) := by
  intro n
  induction n with
  | zero => intros; exact g_none
  | succ n ih =>
    intro v1 u
    rw [fX10_empty_11]
    refine g_seg0 (pc' := 14) (L' := [some (vR (kO 9) 0), some (vI v1)]) (st' := [vI 60, vI v1]) (u1 := u) [(oL 0 1, 1), (oC 60, 2)] (by decide +kernel) rfl rfl ?_
    refine g_igt (off := 30) (tgt := 44) (pc2 := 17) (by decide +kernel) (by decide) rfl ?_ ?_
    · refine g_seg0 (pc' := 45) (L' := [some (vR (kO 9) 0), some (vI v1)]) (st' := [vI (-1)]) (u1 := u) [(oC (-1), 1)] (by decide +kernel) rfl rfl ?_
      exact g_iret (by decide +kernel) rfl
    · refine g_seg0 (pc' := 22) (L' := [some (vR (kO 9) 0), some (vI v1)]) (st' := [vI (-1), vI 987, vR (kO 9) 0]) (u1 := u) [(oL 2 0, 1), (oC 987, 3), (oC (-1), 1)] (by decide +kernel) rfl rfl ?_
      refine g_callV (k := 300) (pc2 := 25) (st := []) (CX10_heldBy 987 (-1) u) miX10_heldBy mvX10_heldBy rfl (by decide) lk9_300 wI_ok (by decide +kernel) rfl (Nat.le_of_ble_eq_true rfl) (by decide) rfl (fun q1 hq1 => ?_)
      refine g_zne (off := 5) (tgt := 30) (pc2 := 28) (by decide +kernel) (by decide) rfl ?_ ?_
      · refine g_seg0 (pc' := 34) (L' := [some (vR (kO 9) 0), some (vI v1)]) (st' := [vI 987, vR (kO 9) 0]) (u1 := q1.2) [(oL 2 0, 1), (oC 987, 3)] (by decide +kernel) rfl rfl ?_
        refine g_callV (k := 364) (pc2 := 37) (st := []) (CX10_passes 987 q1.2) miX10_passes mvX10_passes rfl (by decide) lk9_364 wI_ok (by decide +kernel) rfl (Nat.le_of_ble_eq_true rfl) (by decide) rfl (fun q2 hq2 => ?_)
        refine g_seg0 (pc' := 41) (L' := [some (vR (kO 9) 0), some (vI (v1 + 1))]) (st' := []) (u1 := q2.2) [(oP .pop, 1), (oN 1 1, 3)] (by decide +kernel) rfl rfl ?_
        refine g_goto (off := (-30)) (tgt := 11) (by decide +kernel) (by decide) ?_
        exact ih (v1 + 1) q2.2
      · refine g_seg0 (pc' := 29) (L' := [some (vR (kO 9) 0), some (vI v1)]) (st' := [vI v1]) (u1 := q1.2) [(oL 0 1, 1)] (by decide +kernel) rfl rfl ?_
        exact g_iret (by decide +kernel) rfl
def fX10_empty (u : ab_S) : Option (Int32 × ab_S) :=
  (fX10_triesNow (sI u 0 0 0)).bind fun q3 =>
    fX10_empty_11 fu 0 q3.2
theorem tX10_empty (u : ab_S) : ab_G 1 9 cX10_empty (some .int) 6 0 [some (vR (kO 9) 0), none] [] u wI (fX10_empty u) := by
  rw [fX10_empty]
  refine g_seg0 (pc' := 6) (L' := [some (vR (kO 9) 0), none]) (st' := [vR (kO 9) 0]) (u1 := (sI u 0 0 0)) [(oL 2 0, 1), (oC 0, 1), (oP (.putfield 1), 3), (oL 2 0, 1)] (by decide +kernel) rfl rfl ?_
  refine g_callV (k := 370) (pc2 := 9) (st := []) (CX10_triesNow (sI u 0 0 0)) miX10_triesNow mvX10_triesNow rfl (by decide) lk9_370 wV_ok (by decide +kernel) rfl (Nat.le_of_ble_eq_true rfl) (by decide) rfl (fun q3 hq3 => ?_)
  refine g_seg0 (pc' := 11) (L' := [some (vR (kO 9) 0), some (vI 0)]) (st' := []) (u1 := q3.2) [(oC 0, 1), (oL 3 1, 1)] (by decide +kernel) rfl rfl ?_
  exact tX10_empty_11 fu 0 q3.2
theorem CX10_empty (u : ab_S) : ab_C 1 yX10_empty cX10_empty 2 (some .int) 6 [vR (kO 9) 0] u wI (fX10_empty u) := ab_entry (by decide +kernel) rfl (by decide) (by decide) (fun _ => Nat.le_of_ble_eq_true rfl) rfl (tX10_empty u)
def fX10_won_34 : Nat → Int32 → Int32 → Int32 → Int32 → ab_S → Option (Int32 × ab_S)
  | 0, _, _, _, _, _ => none
  | n + 1, v1, v2, v3, v4, u =>
  bif decide (v4 < v2) then (
    (fX10_passes 987 u).bind fun q1 =>
      bif decide (q1.1 = v1) then (
        (fX10_won_34 n) v1 v2 (v3 + 1) (v4 + 1) q1.2)
      else (
        (fX10_won_34 n) v1 v2 (v3 + 0) (v4 + 1) q1.2))
  else (
    some (v3, u))
theorem tX10_won_34 : ∀ (n : Nat) (v1 : Int32) (v2 : Int32) (v3 : Int32) (v4 : Int32) (u : ab_S), ab_G 1 9 cX10_won (some .int) 6 34 [some (vR (kO 9) 0), some (vI v1), some (vI v2), some (vI v3), some (vI v4)] [] u wI (fX10_won_34 n v1 v2 v3 v4 u) := by
  intro n
  induction n with
  | zero => intros; exact g_none
  | succ n ih =>
    intro v1 v2 v3 v4 u
    rw [fX10_won_34]
    refine g_seg0 (pc' := 37) (L' := [some (vR (kO 9) 0), some (vI v1), some (vI v2), some (vI v3), some (vI v4)]) (st' := [vI v2, vI v4]) (u1 := u) [(oL 0 4, 2), (oL 0 2, 1)] (by decide +kernel) rfl rfl ?_
    refine g_ige (off := 28) (tgt := 65) (pc2 := 40) (by decide +kernel) (by decide) rfl ?_ ?_
    · refine g_seg0 (pc' := 66) (L' := [some (vR (kO 9) 0), some (vI v1), some (vI v2), some (vI v3), some (vI v4)]) (st' := [vI v3]) (u1 := u) [(oL 0 3, 1)] (by decide +kernel) rfl rfl ?_
      exact g_iret (by decide +kernel) rfl
    · refine g_seg0 (pc' := 45) (L' := [some (vR (kO 9) 0), some (vI v1), some (vI v2), some (vI v3), some (vI v4)]) (st' := [vI 987, vR (kO 9) 0, vI v3]) (u1 := u) [(oL 0 3, 1), (oL 2 0, 1), (oC 987, 3)] (by decide +kernel) rfl rfl ?_
      refine g_callV (k := 364) (pc2 := 48) (st := [vI v3]) (CX10_passes 987 u) miX10_passes mvX10_passes rfl (by decide) lk9_364 wI_ok (by decide +kernel) rfl (Nat.le_of_ble_eq_true rfl) (by decide) rfl (fun q1 hq1 => ?_)
      refine g_seg0 (pc' := 49) (L' := [some (vR (kO 9) 0), some (vI v1), some (vI v2), some (vI v3), some (vI v4)]) (st' := [vI v1, vI (q1.1), vI v3]) (u1 := q1.2) [(oL 0 1, 1)] (by decide +kernel) rfl rfl ?_
      refine g_ine (off := 7) (tgt := 56) (pc2 := 52) (by decide +kernel) (by decide) rfl ?_ ?_
      · refine g_seg0 (pc' := 62) (L' := [some (vR (kO 9) 0), some (vI v1), some (vI v2), some (vI (v3 + 0)), some (vI (v4 + 1))]) (st' := []) (u1 := q1.2) [(oC 0, 1), (oP .iadd, 1), (oL 3 3, 1), (oN 4 1, 3)] (by decide +kernel) rfl rfl ?_
        refine g_goto (off := (-28)) (tgt := 34) (by decide +kernel) (by decide) ?_
        exact ih v1 v2 (v3 + 0) (v4 + 1) q1.2
      · refine g_seg0 (pc' := 53) (L' := [some (vR (kO 9) 0), some (vI v1), some (vI v2), some (vI v3), some (vI v4)]) (st' := [vI 1, vI v3]) (u1 := q1.2) [(oC 1, 1)] (by decide +kernel) rfl rfl ?_
        refine g_goto (off := 4) (tgt := 57) (by decide +kernel) (by decide) ?_
        refine g_seg0 (pc' := 62) (L' := [some (vR (kO 9) 0), some (vI v1), some (vI v2), some (vI (v3 + 1)), some (vI (v4 + 1))]) (st' := []) (u1 := q1.2) [(oP .iadd, 1), (oL 3 3, 1), (oN 4 1, 3)] (by decide +kernel) rfl rfl ?_
        refine g_goto (off := (-28)) (tgt := 34) (by decide +kernel) (by decide) ?_
        exact ih v1 v2 (v3 + 1) (v4 + 1) q1.2
def fX10_won (v1 : Int32) (v2 : Int32) (u : ab_S) : Option (Int32 × ab_S) :=
  (fX10_isPerson v1 (sI u 0 0 0)).bind fun q2 =>
    bif decide (q2.1 = 0) then (
      some ((-1), q2.2))
    else (
      (fX10_within v2 1 60 q2.2).bind fun q3 =>
        bif decide (q3.1 = 0) then (
          some ((-1), q3.2))
        else (
          (fX10_triesNow q3.2).bind fun q4 =>
            fX10_won_34 fu v1 v2 0 0 q4.2))
theorem tX10_won (v1 : Int32) (v2 : Int32) (u : ab_S) : ab_G 1 9 cX10_won (some .int) 6 0 [some (vR (kO 9) 0), some (vI v1), some (vI v2), none, none] [] u wI (fX10_won v1 v2 u) := by
  rw [fX10_won]
  refine g_seg0 (pc' := 7) (L' := [some (vR (kO 9) 0), some (vI v1), some (vI v2), none, none]) (st' := [vI v1, vR (kO 9) 0]) (u1 := (sI u 0 0 0)) [(oL 2 0, 1), (oC 0, 1), (oP (.putfield 1), 3), (oL 2 0, 1), (oL 0 1, 1)] (by decide +kernel) rfl rfl ?_
  refine g_callV (k := 342) (pc2 := 10) (st := []) (CX10_isPerson v1 (sI u 0 0 0)) miX10_isPerson mvX10_isPerson rfl (by decide) lk9_342 wI_ok (by decide +kernel) rfl (Nat.le_of_ble_eq_true rfl) (by decide) rfl (fun q2 hq2 => ?_)
  refine g_zeq (off := 13) (tgt := 23) (pc2 := 13) (by decide +kernel) (by decide) rfl ?_ ?_
  · refine g_seg0 (pc' := 24) (L' := [some (vR (kO 9) 0), some (vI v1), some (vI v2), none, none]) (st' := [vI (-1)]) (u1 := q2.2) [(oC (-1), 1)] (by decide +kernel) rfl rfl ?_
    exact g_iret (by decide +kernel) rfl
  · refine g_seg0 (pc' := 17) (L' := [some (vR (kO 9) 0), some (vI v1), some (vI v2), none, none]) (st' := [vI 60, vI 1, vI v2]) (u1 := q2.2) [(oL 0 2, 1), (oC 1, 1), (oC 60, 2)] (by decide +kernel) rfl rfl ?_
    refine g_callS (k := 207) (pc2 := 20) (st := []) (CX10_within v2 1 60 q2.2) miX10_within msX10_within lk9_207 wI_ok (by decide +kernel) rfl (Nat.le_of_ble_eq_true rfl) (by decide) rfl (fun q3 hq3 => ?_)
    refine g_zne (off := 5) (tgt := 25) (pc2 := 23) (by decide +kernel) (by decide) rfl ?_ ?_
    · refine g_seg0 (pc' := 26) (L' := [some (vR (kO 9) 0), some (vI v1), some (vI v2), none, none]) (st' := [vR (kO 9) 0]) (u1 := q3.2) [(oL 2 0, 1)] (by decide +kernel) rfl rfl ?_
      refine g_callV (k := 370) (pc2 := 29) (st := []) (CX10_triesNow q3.2) miX10_triesNow mvX10_triesNow rfl (by decide) lk9_370 wV_ok (by decide +kernel) rfl (Nat.le_of_ble_eq_true rfl) (by decide) rfl (fun q4 hq4 => ?_)
      refine g_seg0 (pc' := 34) (L' := [some (vR (kO 9) 0), some (vI v1), some (vI v2), some (vI 0), some (vI 0)]) (st' := []) (u1 := q4.2) [(oC 0, 1), (oL 3 3, 1), (oC 0, 1), (oL 3 4, 2)] (by decide +kernel) rfl rfl ?_
      exact tX10_won_34 fu v1 v2 0 0 q4.2
    · refine g_seg0 (pc' := 24) (L' := [some (vR (kO 9) 0), some (vI v1), some (vI v2), none, none]) (st' := [vI (-1)]) (u1 := q3.2) [(oC (-1), 1)] (by decide +kernel) rfl rfl ?_
      exact g_iret (by decide +kernel) rfl
theorem CX10_won (v1 : Int32) (v2 : Int32) (u : ab_S) : ab_C 1 yX10_won cX10_won 5 (some .int) 6 [vR (kO 9) 0, vI v1, vI v2] u wI (fX10_won v1 v2 u) := ab_entry (by decide +kernel) rfl (by decide) (by decide) (fun _ => Nat.le_of_ble_eq_true rfl) rfl (tX10_won v1 v2 u)
def fX10_streak_76 (k37 : Int32 → Int32 → Int32 → Int32 → Int32 → ab_S → Option (Int32 × ab_S)) (v1 : Int32) (v2 : Int32) (v3 : Int32) (v5 : Int32) (s0 : Int32) (u : ab_S) : Option (Int32 × ab_S) :=
  bif decide (s0 ≤ v3) then (
    k37 v1 v2 v3 s0 (v5 + 1) u)
  else (
    k37 v1 v2 s0 s0 (v5 + 1) u)
theorem tX10_streak_76 (k37 : Int32 → Int32 → Int32 → Int32 → Int32 → ab_S → Option (Int32 × ab_S)) (hk37 : ∀ (v1 : Int32) (v2 : Int32) (v3 : Int32) (v4 : Int32) (v5 : Int32) (u : ab_S), ab_G 1 9 cX10_streak (some .int) 6 37 [some (vR (kO 9) 0), some (vI v1), some (vI v2), some (vI v3), some (vI v4), some (vI v5), none] [] u wI (k37 v1 v2 v3 v4 v5 u)) (v1 : Int32) (v2 : Int32) (v3 : Int32) (v5 : Int32) (s0 : Int32) (u : ab_S) : ab_G 1 9 cX10_streak (some .int) 6 76 [some (vR (kO 9) 0), some (vI v1), some (vI v2), some (vI v3), none, some (vI v5), none] [vI s0] u wI (fX10_streak_76 k37 v1 v2 v3 v5 s0 u) := by
  rw [fX10_streak_76]
  refine g_seg0 (pc' := 81) (L' := [some (vR (kO 9) 0), some (vI v1), some (vI v2), some (vI v3), some (vI s0), some (vI v5), none]) (st' := [vI v3, vI s0]) (u1 := u) [(oL 3 4, 2), (oL 0 4, 2), (oL 0 3, 1)] (by decide +kernel) rfl rfl ?_
  refine g_ile (off := 8) (tgt := 89) (pc2 := 84) (by decide +kernel) (by decide) rfl ?_ ?_
  · refine g_seg0 (pc' := 94) (L' := [some (vR (kO 9) 0), some (vI v1), some (vI v2), some (vI v3), some (vI s0), some (vI (v5 + 1)), none]) (st' := []) (u1 := u) [(oL 0 3, 1), (oL 3 3, 1), (oN 5 1, 3)] (by decide +kernel) rfl rfl ?_
    refine g_goto (off := (-57)) (tgt := 37) (by decide +kernel) (by decide) ?_
    exact hk37 v1 v2 v3 s0 (v5 + 1) u
  · refine g_seg0 (pc' := 86) (L' := [some (vR (kO 9) 0), some (vI v1), some (vI v2), some (vI v3), some (vI s0), some (vI v5), none]) (st' := [vI s0]) (u1 := u) [(oL 0 4, 2)] (by decide +kernel) rfl rfl ?_
    refine g_goto (off := 4) (tgt := 90) (by decide +kernel) (by decide) ?_
    refine g_seg0 (pc' := 94) (L' := [some (vR (kO 9) 0), some (vI v1), some (vI v2), some (vI s0), some (vI s0), some (vI (v5 + 1)), none]) (st' := []) (u1 := u) [(oL 3 3, 1), (oN 5 1, 3)] (by decide +kernel) rfl rfl ?_
    refine g_goto (off := (-57)) (tgt := 37) (by decide +kernel) (by decide) ?_
    exact hk37 v1 v2 s0 s0 (v5 + 1) u
def fX10_streak_37 : Nat → Int32 → Int32 → Int32 → Int32 → Int32 → ab_S → Option (Int32 × ab_S)
  | 0, _, _, _, _, _, _ => none
  | n + 1, v1, v2, v3, v4, v5, u =>
  bif decide (v5 < v2) then (
    (fX10_passes 987 u).bind fun q1 =>
      bif decide (q1.1 = v1) then (
        fX10_streak_76 (fX10_streak_37 n) v1 v2 v3 v5 (v4 + 1) q1.2)
      else (
        bif decide (q1.1 < 0) then (
          fX10_streak_76 (fX10_streak_37 n) v1 v2 v3 v5 v4 q1.2)
        else (
          fX10_streak_76 (fX10_streak_37 n) v1 v2 v3 v5 0 q1.2)))
  else (
    some (v3, u))
theorem tX10_streak_37 : ∀ (n : Nat) (v1 : Int32) (v2 : Int32) (v3 : Int32) (v4 : Int32) (v5 : Int32) (u : ab_S), ab_G 1 9 cX10_streak (some .int) 6 37 [some (vR (kO 9) 0), some (vI v1), some (vI v2), some (vI v3), some (vI v4), some (vI v5), none] [] u wI (fX10_streak_37 n v1 v2 v3 v4 v5 u) := by
  intro n
  induction n with
  | zero => intros; exact g_none
  | succ n ih =>
    intro v1 v2 v3 v4 v5 u
    rw [fX10_streak_37]
    refine g_seg0 (pc' := 40) (L' := [some (vR (kO 9) 0), some (vI v1), some (vI v2), some (vI v3), some (vI v4), some (vI v5), none]) (st' := [vI v2, vI v5]) (u1 := u) [(oL 0 5, 2), (oL 0 2, 1)] (by decide +kernel) rfl rfl ?_
    refine g_ige (off := 57) (tgt := 97) (pc2 := 43) (by decide +kernel) (by decide) rfl ?_ ?_
    · refine g_seg0 (pc' := 98) (L' := [some (vR (kO 9) 0), some (vI v1), some (vI v2), some (vI v3), some (vI v4), some (vI v5), none]) (st' := [vI v3]) (u1 := u) [(oL 0 3, 1)] (by decide +kernel) rfl rfl ?_
      exact g_iret (by decide +kernel) rfl
    · refine g_seg0 (pc' := 47) (L' := [some (vR (kO 9) 0), some (vI v1), some (vI v2), some (vI v3), some (vI v4), some (vI v5), none]) (st' := [vI 987, vR (kO 9) 0]) (u1 := u) [(oL 2 0, 1), (oC 987, 3)] (by decide +kernel) rfl rfl ?_
      refine g_callV (k := 364) (pc2 := 50) (st := []) (CX10_passes 987 u) miX10_passes mvX10_passes rfl (by decide) lk9_364 wI_ok (by decide +kernel) rfl (Nat.le_of_ble_eq_true rfl) (by decide) rfl (fun q1 hq1 => ?_)
      refine g_seg0 (pc' := 55) (L' := [some (vR (kO 9) 0), some (vI v1), some (vI v2), some (vI v3), some (vI v4), some (vI v5), some (vI (q1.1))]) (st' := [vI v1, vI (q1.1)]) (u1 := q1.2) [(oL 3 6, 2), (oL 0 6, 2), (oL 0 1, 1)] (by decide +kernel) rfl rfl ?_
      refine g_ine (off := 10) (tgt := 65) (pc2 := 58) (by decide +kernel) (by decide) rfl ?_ ?_
      · refine g_seg0 (pc' := 67) (L' := [some (vR (kO 9) 0), some (vI v1), some (vI v2), some (vI v3), some (vI v4), some (vI v5), some (vI (q1.1))]) (st' := [vI (q1.1)]) (u1 := q1.2) [(oL 0 6, 2)] (by decide +kernel) rfl rfl ?_
        refine g_zge (off := 8) (tgt := 75) (pc2 := 70) (by decide +kernel) (by decide) rfl ?_ ?_
        · refine g_seg0 (pc' := 76) (L' := [some (vR (kO 9) 0), some (vI v1), some (vI v2), some (vI v3), some (vI v4), some (vI v5), some (vI (q1.1))]) (st' := [vI 0]) (u1 := q1.2) [(oC 0, 1)] (by decide +kernel) rfl rfl ?_
          exact g_jump [true, true, true, true, false, true, false] rfl (tX10_streak_76 (fX10_streak_37 n) ih v1 v2 v3 v5 0 q1.2)
        · refine g_seg0 (pc' := 72) (L' := [some (vR (kO 9) 0), some (vI v1), some (vI v2), some (vI v3), some (vI v4), some (vI v5), some (vI (q1.1))]) (st' := [vI v4]) (u1 := q1.2) [(oL 0 4, 2)] (by decide +kernel) rfl rfl ?_
          refine g_goto (off := 4) (tgt := 76) (by decide +kernel) (by decide) ?_
          exact g_jump [true, true, true, true, false, true, false] rfl (tX10_streak_76 (fX10_streak_37 n) ih v1 v2 v3 v5 v4 q1.2)
      · refine g_seg0 (pc' := 62) (L' := [some (vR (kO 9) 0), some (vI v1), some (vI v2), some (vI v3), some (vI v4), some (vI v5), some (vI (q1.1))]) (st' := [vI (v4 + 1)]) (u1 := q1.2) [(oL 0 4, 2), (oC 1, 1), (oP .iadd, 1)] (by decide +kernel) rfl rfl ?_
        refine g_goto (off := 14) (tgt := 76) (by decide +kernel) (by decide) ?_
        exact g_jump [true, true, true, true, false, true, false] rfl (tX10_streak_76 (fX10_streak_37 n) ih v1 v2 v3 v5 (v4 + 1) q1.2)
def fX10_streak (v1 : Int32) (v2 : Int32) (u : ab_S) : Option (Int32 × ab_S) :=
  (fX10_isPerson v1 (sI u 0 0 0)).bind fun q2 =>
    bif decide (q2.1 = 0) then (
      some ((-1), q2.2))
    else (
      (fX10_within v2 1 60 q2.2).bind fun q3 =>
        bif decide (q3.1 = 0) then (
          some ((-1), q3.2))
        else (
          (fX10_triesNow q3.2).bind fun q4 =>
            fX10_streak_37 fu v1 v2 0 0 0 q4.2))
theorem tX10_streak (v1 : Int32) (v2 : Int32) (u : ab_S) : ab_G 1 9 cX10_streak (some .int) 6 0 [some (vR (kO 9) 0), some (vI v1), some (vI v2), none, none, none, none] [] u wI (fX10_streak v1 v2 u) := by
  rw [fX10_streak]
  refine g_seg0 (pc' := 7) (L' := [some (vR (kO 9) 0), some (vI v1), some (vI v2), none, none, none, none]) (st' := [vI v1, vR (kO 9) 0]) (u1 := (sI u 0 0 0)) [(oL 2 0, 1), (oC 0, 1), (oP (.putfield 1), 3), (oL 2 0, 1), (oL 0 1, 1)] (by decide +kernel) rfl rfl ?_
  refine g_callV (k := 342) (pc2 := 10) (st := []) (CX10_isPerson v1 (sI u 0 0 0)) miX10_isPerson mvX10_isPerson rfl (by decide) lk9_342 wI_ok (by decide +kernel) rfl (Nat.le_of_ble_eq_true rfl) (by decide) rfl (fun q2 hq2 => ?_)
  refine g_zeq (off := 13) (tgt := 23) (pc2 := 13) (by decide +kernel) (by decide) rfl ?_ ?_
  · refine g_seg0 (pc' := 24) (L' := [some (vR (kO 9) 0), some (vI v1), some (vI v2), none, none, none, none]) (st' := [vI (-1)]) (u1 := q2.2) [(oC (-1), 1)] (by decide +kernel) rfl rfl ?_
    exact g_iret (by decide +kernel) rfl
  · refine g_seg0 (pc' := 17) (L' := [some (vR (kO 9) 0), some (vI v1), some (vI v2), none, none, none, none]) (st' := [vI 60, vI 1, vI v2]) (u1 := q2.2) [(oL 0 2, 1), (oC 1, 1), (oC 60, 2)] (by decide +kernel) rfl rfl ?_
    refine g_callS (k := 207) (pc2 := 20) (st := []) (CX10_within v2 1 60 q2.2) miX10_within msX10_within lk9_207 wI_ok (by decide +kernel) rfl (Nat.le_of_ble_eq_true rfl) (by decide) rfl (fun q3 hq3 => ?_)
    refine g_zne (off := 5) (tgt := 25) (pc2 := 23) (by decide +kernel) (by decide) rfl ?_ ?_
    · refine g_seg0 (pc' := 26) (L' := [some (vR (kO 9) 0), some (vI v1), some (vI v2), none, none, none, none]) (st' := [vR (kO 9) 0]) (u1 := q3.2) [(oL 2 0, 1)] (by decide +kernel) rfl rfl ?_
      refine g_callV (k := 370) (pc2 := 29) (st := []) (CX10_triesNow q3.2) miX10_triesNow mvX10_triesNow rfl (by decide) lk9_370 wV_ok (by decide +kernel) rfl (Nat.le_of_ble_eq_true rfl) (by decide) rfl (fun q4 hq4 => ?_)
      refine g_seg0 (pc' := 37) (L' := [some (vR (kO 9) 0), some (vI v1), some (vI v2), some (vI 0), some (vI 0), some (vI 0), none]) (st' := []) (u1 := q4.2) [(oC 0, 1), (oL 3 3, 1), (oC 0, 1), (oL 3 4, 2), (oC 0, 1), (oL 3 5, 2)] (by decide +kernel) rfl rfl ?_
      exact tX10_streak_37 fu v1 v2 0 0 0 q4.2
    · refine g_seg0 (pc' := 24) (L' := [some (vR (kO 9) 0), some (vI v1), some (vI v2), none, none, none, none]) (st' := [vI (-1)]) (u1 := q3.2) [(oC (-1), 1)] (by decide +kernel) rfl rfl ?_
      exact g_iret (by decide +kernel) rfl
theorem CX10_streak (v1 : Int32) (v2 : Int32) (u : ab_S) : ab_C 1 yX10_streak cX10_streak 7 (some .int) 6 [vR (kO 9) 0, vI v1, vI v2] u wI (fX10_streak v1 v2 u) := ab_entry (by decide +kernel) rfl (by decide) (by decide) (fun _ => Nat.le_of_ble_eq_true rfl) rfl (tX10_streak v1 v2 u)
def fX10_moves_11 : Nat → Int32 → Int32 → ab_S → Option (Int32 × ab_S)
  | 0, _, _, _ => none
  | n + 1, v1, v2, u =>
  bif decide (v2 ≤ 60) then (
    (fX10_isGood v1 u).bind fun q1 =>
      bif decide (q1.1 = 0) then (
        some ((-1), q1.2))
      else (
        (fX10_passes 987 q1.2).bind fun q2 =>
          ab_gd [ab_ix (989 + v1) 1081, ab_ix (2 + v1) 1081] (
            bif decide ((q2.2.1 16 (nc (989 + v1))) = (q2.2.1 16 (nc (2 + v1)))) then (
              (fX10_moves_11 n) v1 (v2 + 1) q2.2)
            else (
              some (v2, q2.2)))))
  else (
    some ((-1), u))
theorem tX10_moves_11 : ∀ (n : Nat) (v1 : Int32) (v2 : Int32) (u : ab_S), ab_G 1 9 cX10_moves (some .int) 6 11 [some (vR (kO 9) 0), some (vI v1), some (vI v2)] [] u wI (fX10_moves_11 n v1 v2 u) := by
  intro n
  induction n with
  | zero => intros; exact g_none
  | succ n ih =>
    intro v1 v2 u
    rw [fX10_moves_11]
    refine g_seg0 (pc' := 14) (L' := [some (vR (kO 9) 0), some (vI v1), some (vI v2)]) (st' := [vI 60, vI v2]) (u1 := u) [(oL 0 2, 1), (oC 60, 2)] (by decide +kernel) rfl rfl ?_
    refine g_igt (off := 48) (tgt := 62) (pc2 := 17) (by decide +kernel) (by decide) rfl ?_ ?_
    · refine g_seg0 (pc' := 63) (L' := [some (vR (kO 9) 0), some (vI v1), some (vI v2)]) (st' := [vI (-1)]) (u1 := u) [(oC (-1), 1)] (by decide +kernel) rfl rfl ?_
      exact g_iret (by decide +kernel) rfl
    · refine g_seg0 (pc' := 19) (L' := [some (vR (kO 9) 0), some (vI v1), some (vI v2)]) (st' := [vI v1, vR (kO 9) 0]) (u1 := u) [(oL 2 0, 1), (oL 0 1, 1)] (by decide +kernel) rfl rfl ?_
      refine g_callV (k := 345) (pc2 := 22) (st := []) (CX10_isGood v1 u) miX10_isGood mvX10_isGood rfl (by decide) lk9_345 wI_ok (by decide +kernel) rfl (Nat.le_of_ble_eq_true rfl) (by decide) rfl (fun q1 hq1 => ?_)
      refine g_zeq (off := 40) (tgt := 62) (pc2 := 25) (by decide +kernel) (by decide) rfl ?_ ?_
      · refine g_seg0 (pc' := 63) (L' := [some (vR (kO 9) 0), some (vI v1), some (vI v2)]) (st' := [vI (-1)]) (u1 := q1.2) [(oC (-1), 1)] (by decide +kernel) rfl rfl ?_
        exact g_iret (by decide +kernel) rfl
      · refine g_seg0 (pc' := 29) (L' := [some (vR (kO 9) 0), some (vI v1), some (vI v2)]) (st' := [vI 987, vR (kO 9) 0]) (u1 := q1.2) [(oL 2 0, 1), (oC 987, 3)] (by decide +kernel) rfl rfl ?_
        refine g_callV (k := 364) (pc2 := 32) (st := []) (CX10_passes 987 q1.2) miX10_passes mvX10_passes rfl (by decide) lk9_364 wI_ok (by decide +kernel) rfl (Nat.le_of_ble_eq_true rfl) (by decide) rfl (fun q2 hq2 => ?_)
        refine g_seg (pc' := 51) (L' := [some (vR (kO 9) 0), some (vI v1), some (vI v2)]) (st' := [vI (q2.2.1 16 (nc (2 + v1))), vI (q2.2.1 16 (nc (989 + v1)))]) (u1 := q2.2) [(oP .pop, 1), (oL 2 0, 1), (oP (.getfield 113), 3), (oC 989, 3), (oL 0 1, 1), (oP .iadd, 1), (oP .iaload, 1), (oL 2 0, 1), (oP (.getfield 113), 3), (oC 2, 1), (oL 0 1, 1), (oP .iadd, 1), (oP .iaload, 1)] (by decide +kernel) rfl rfl ?_
        refine g_ieq (off := 5) (tgt := 56) (pc2 := 54) (by decide +kernel) (by decide) rfl ?_ ?_
        · refine g_seg0 (pc' := 59) (L' := [some (vR (kO 9) 0), some (vI v1), some (vI (v2 + 1))]) (st' := []) (u1 := q2.2) [(oN 2 1, 3)] (by decide +kernel) rfl rfl ?_
          refine g_goto (off := (-48)) (tgt := 11) (by decide +kernel) (by decide) ?_
          exact ih v1 (v2 + 1) q2.2
        · refine g_seg0 (pc' := 55) (L' := [some (vR (kO 9) 0), some (vI v1), some (vI v2)]) (st' := [vI v2]) (u1 := q2.2) [(oL 0 2, 1)] (by decide +kernel) rfl rfl ?_
          exact g_iret (by decide +kernel) rfl
def fX10_moves (v1 : Int32) (u : ab_S) : Option (Int32 × ab_S) :=
  (fX10_triesNow (sI u 0 0 0)).bind fun q3 =>
    fX10_moves_11 fu v1 1 q3.2
theorem tX10_moves (v1 : Int32) (u : ab_S) : ab_G 1 9 cX10_moves (some .int) 6 0 [some (vR (kO 9) 0), some (vI v1), none] [] u wI (fX10_moves v1 u) := by
  rw [fX10_moves]
  refine g_seg0 (pc' := 6) (L' := [some (vR (kO 9) 0), some (vI v1), none]) (st' := [vR (kO 9) 0]) (u1 := (sI u 0 0 0)) [(oL 2 0, 1), (oC 0, 1), (oP (.putfield 1), 3), (oL 2 0, 1)] (by decide +kernel) rfl rfl ?_
  refine g_callV (k := 370) (pc2 := 9) (st := []) (CX10_triesNow (sI u 0 0 0)) miX10_triesNow mvX10_triesNow rfl (by decide) lk9_370 wV_ok (by decide +kernel) rfl (Nat.le_of_ble_eq_true rfl) (by decide) rfl (fun q3 hq3 => ?_)
  refine g_seg0 (pc' := 11) (L' := [some (vR (kO 9) 0), some (vI v1), some (vI 1)]) (st' := []) (u1 := q3.2) [(oC 1, 1), (oL 3 2, 1)] (by decide +kernel) rfl rfl ?_
  exact tX10_moves_11 fu v1 1 q3.2
theorem CX10_moves (v1 : Int32) (u : ab_S) : ab_C 1 yX10_moves cX10_moves 3 (some .int) 6 [vR (kO 9) 0, vI v1] u wI (fX10_moves v1 u) := ab_entry (by decide +kernel) rfl (by decide) (by decide) (fun _ => Nat.le_of_ble_eq_true rfl) rfl (tX10_moves v1 u)
def fX10_rights (u : ab_S) : Option (Int32 × ab_S) :=
  (fX10_rightsOf 0 (sI u 0 0 0)).bind fun q1 =>
    some (q1.1, q1.2)
theorem tX10_rights (u : ab_S) : ab_G 1 9 cX10_rights (some .int) 2 0 [some (vR (kO 9) 0)] [] u wI (fX10_rights u) := by
  rw [fX10_rights]
  refine g_seg0 (pc' := 7) (L' := [some (vR (kO 9) 0)]) (st' := [vI 0, vR (kO 9) 0]) (u1 := (sI u 0 0 0)) [(oL 2 0, 1), (oC 0, 1), (oP (.putfield 1), 3), (oL 2 0, 1), (oC 0, 1)] (by decide +kernel) rfl rfl ?_
  refine g_callV (k := 367) (pc2 := 10) (st := []) (CX10_rightsOf 0 (sI u 0 0 0)) miX10_rightsOf mvX10_rightsOf rfl (by decide) lk9_367 wI_ok (by decide +kernel) rfl (Nat.le_of_ble_eq_true rfl) (by decide) rfl (fun q1 hq1 => ?_)
  exact g_iret (by decide +kernel) rfl
theorem CX10_rights (u : ab_S) : ab_C 1 yX10_rights cX10_rights 1 (some .int) 2 [vR (kO 9) 0] u wI (fX10_rights u) := ab_entry (by decide +kernel) rfl (by decide) (by decide) (fun _ => Nat.le_of_ble_eq_true rfl) rfl (tX10_rights u)
def fX10_joy (v1 : Int32) (u : ab_S) : Option (Int32 × ab_S) :=
  (fX10_isPerson v1 (sI u 0 0 0)).bind fun q1 =>
    bif decide (q1.1 = 0) then (
      some ((-1), q1.2))
    else (
      (fX10_joyOf 0 v1 q1.2).bind fun q2 =>
        some (q2.1, q2.2))
theorem tX10_joy (v1 : Int32) (u : ab_S) : ab_G 1 9 cX10_joy (some .int) 5 0 [some (vR (kO 9) 0), some (vI v1)] [] u wI (fX10_joy v1 u) := by
  rw [fX10_joy]
  refine g_seg0 (pc' := 7) (L' := [some (vR (kO 9) 0), some (vI v1)]) (st' := [vI v1, vR (kO 9) 0]) (u1 := (sI u 0 0 0)) [(oL 2 0, 1), (oC 0, 1), (oP (.putfield 1), 3), (oL 2 0, 1), (oL 0 1, 1)] (by decide +kernel) rfl rfl ?_
  refine g_callV (k := 342) (pc2 := 10) (st := []) (CX10_isPerson v1 (sI u 0 0 0)) miX10_isPerson mvX10_isPerson rfl (by decide) lk9_342 wI_ok (by decide +kernel) rfl (Nat.le_of_ble_eq_true rfl) (by decide) rfl (fun q1 hq1 => ?_)
  refine g_zeq (off := 12) (tgt := 22) (pc2 := 13) (by decide +kernel) (by decide) rfl ?_ ?_
  · refine g_seg0 (pc' := 23) (L' := [some (vR (kO 9) 0), some (vI v1)]) (st' := [vI (-1)]) (u1 := q1.2) [(oC (-1), 1)] (by decide +kernel) rfl rfl ?_
    exact g_iret (by decide +kernel) rfl
  · refine g_seg0 (pc' := 16) (L' := [some (vR (kO 9) 0), some (vI v1)]) (st' := [vI v1, vI 0, vR (kO 9) 0]) (u1 := q1.2) [(oL 2 0, 1), (oC 0, 1), (oL 0 1, 1)] (by decide +kernel) rfl rfl ?_
    refine g_callV (k := 312) (pc2 := 19) (st := []) (CX10_joyOf 0 v1 q1.2) miX10_joyOf mvX10_joyOf rfl (by decide) lk9_312 wI_ok (by decide +kernel) rfl (Nat.le_of_ble_eq_true rfl) (by decide) rfl (fun q2 hq2 => ?_)
    refine g_goto (off := 4) (tgt := 23) (by decide +kernel) (by decide) ?_
    exact g_iret (by decide +kernel) rfl
theorem CX10_joy (v1 : Int32) (u : ab_S) : ab_C 1 yX10_joy cX10_joy 2 (some .int) 5 [vR (kO 9) 0, vI v1] u wI (fX10_joy v1 u) := ab_entry (by decide +kernel) rfl (by decide) (by decide) (fun _ => Nat.le_of_ble_eq_true rfl) rfl (tX10_joy v1 u)
def fX10_envy_19 : Nat → Int32 → Int32 → Int32 → ab_S → Option (Int32 × ab_S)
  | 0, _, _, _, _ => none
  | n + 1, v1, v2, v3, u =>
  (fX10_persons u).bind fun q1 =>
    bif decide (v3 < q1.1) then (
      (fX10_heldBy 0 v3 q1.2).bind fun q2 =>
        bif decide (v3 = v1) then (
          (fX10_envy_19 n) v1 (v2 ||| 0) (v3 + 1) q2.2)
        else (
          (fX10_bits q2.1 q2.2).bind fun q3 =>
            (fX10_fitOfAll v1 q2.1 (q3.1 - 1) q3.2).bind fun q4 =>
              (fX10_joyOf 0 v1 q4.2).bind fun q5 =>
                bif decide (q4.1 ≤ q5.1) then (
                  (fX10_envy_19 n) v1 (v2 ||| 0) (v3 + 1) q5.2)
                else (
                  (fX10_envy_19 n) v1 (v2 ||| ((1 : Int32) <<< (v3 &&& 31))) (v3 + 1) q5.2)))
    else (
      some (v2, q1.2))
theorem tX10_envy_19 : ∀ (n : Nat) (v1 : Int32) (v2 : Int32) (v3 : Int32) (u : ab_S), ab_G 1 9 cX10_envy (some .int) 5 19 [some (vR (kO 9) 0), some (vI v1), some (vI v2), some (vI v3), none] [] u wI (fX10_envy_19 n v1 v2 v3 u) := by
  intro n
  induction n with
  | zero => intros; exact g_none
  | succ n ih =>
    intro v1 v2 v3 u
    rw [fX10_envy_19]
    refine g_seg0 (pc' := 21) (L' := [some (vR (kO 9) 0), some (vI v1), some (vI v2), some (vI v3), none]) (st' := [vR (kO 9) 0, vI v3]) (u1 := u) [(oL 0 3, 1), (oL 2 0, 1)] (by decide +kernel) rfl rfl ?_
    refine g_callV (k := 275) (pc2 := 24) (st := [vI v3]) (CX10_persons u) miX10_persons mvX10_persons rfl (by decide) lk9_275 wI_ok (by decide +kernel) rfl (Nat.le_of_ble_eq_true rfl) (by decide) rfl (fun q1 hq1 => ?_)
    refine g_ige (off := 55) (tgt := 79) (pc2 := 27) (by decide +kernel) (by decide) rfl ?_ ?_
    · refine g_seg0 (pc' := 80) (L' := [some (vR (kO 9) 0), some (vI v1), some (vI v2), some (vI v3), none]) (st' := [vI v2]) (u1 := q1.2) [(oL 0 2, 1)] (by decide +kernel) rfl rfl ?_
      exact g_iret (by decide +kernel) rfl
    · refine g_seg0 (pc' := 30) (L' := [some (vR (kO 9) 0), some (vI v1), some (vI v2), some (vI v3), none]) (st' := [vI v3, vI 0, vR (kO 9) 0]) (u1 := q1.2) [(oL 2 0, 1), (oC 0, 1), (oL 0 3, 1)] (by decide +kernel) rfl rfl ?_
      refine g_callV (k := 300) (pc2 := 33) (st := []) (CX10_heldBy 0 v3 q1.2) miX10_heldBy mvX10_heldBy rfl (by decide) lk9_300 wI_ok (by decide +kernel) rfl (Nat.le_of_ble_eq_true rfl) (by decide) rfl (fun q2 hq2 => ?_)
      refine g_seg0 (pc' := 38) (L' := [some (vR (kO 9) 0), some (vI v1), some (vI v2), some (vI v3), some (vI (q2.1))]) (st' := [vI v1, vI v3, vI v2]) (u1 := q2.2) [(oL 3 4, 2), (oL 0 2, 1), (oL 0 3, 1), (oL 0 1, 1)] (by decide +kernel) rfl rfl ?_
      refine g_ieq (off := 32) (tgt := 70) (pc2 := 41) (by decide +kernel) (by decide) rfl ?_ ?_
      · refine g_seg0 (pc' := 76) (L' := [some (vR (kO 9) 0), some (vI v1), some (vI (v2 ||| 0)), some (vI (v3 + 1)), some (vI (q2.1))]) (st' := []) (u1 := q2.2) [(oC 0, 1), (oP .ior, 1), (oL 3 2, 1), (oN 3 1, 3)] (by decide +kernel) rfl rfl ?_
        refine g_goto (off := (-57)) (tgt := 19) (by decide +kernel) (by decide) ?_
        exact g_jump [true, true, true, true, false] rfl (ih v1 (v2 ||| 0) (v3 + 1) q2.2)
      · refine g_seg0 (pc' := 47) (L' := [some (vR (kO 9) 0), some (vI v1), some (vI v2), some (vI v3), some (vI (q2.1))]) (st' := [vI (q2.1), vI (q2.1), vI v1, vR (kO 9) 0, vI v2]) (u1 := q2.2) [(oL 2 0, 1), (oL 0 1, 1), (oL 0 4, 2), (oL 0 4, 2)] (by decide +kernel) rfl rfl ?_
        refine g_callS (k := 303) (pc2 := 50) (st := [vI (q2.1), vI v1, vR (kO 9) 0, vI v2]) (CX10_bits q2.1 q2.2) miX10_bits msX10_bits lk9_303 wI_ok (by decide +kernel) rfl (Nat.le_of_ble_eq_true rfl) (by decide) rfl (fun q3 hq3 => ?_)
        refine g_seg0 (pc' := 52) (L' := [some (vR (kO 9) 0), some (vI v1), some (vI v2), some (vI v3), some (vI (q2.1))]) (st' := [vI (q3.1 - 1), vI (q2.1), vI v1, vR (kO 9) 0, vI v2]) (u1 := q3.2) [(oC 1, 1), (oP .isub, 1)] (by decide +kernel) rfl rfl ?_
        refine g_callV (k := 309) (pc2 := 55) (st := [vI v2]) (CX10_fitOfAll v1 q2.1 (q3.1 - 1) q3.2) miX10_fitOfAll mvX10_fitOfAll rfl (by decide) lk9_309 wI_ok (by decide +kernel) rfl (Nat.le_of_ble_eq_true rfl) (by decide) rfl (fun q4 hq4 => ?_)
        refine g_seg0 (pc' := 58) (L' := [some (vR (kO 9) 0), some (vI v1), some (vI v2), some (vI v3), some (vI (q2.1))]) (st' := [vI v1, vI 0, vR (kO 9) 0, vI (q4.1), vI v2]) (u1 := q4.2) [(oL 2 0, 1), (oC 0, 1), (oL 0 1, 1)] (by decide +kernel) rfl rfl ?_
        refine g_callV (k := 312) (pc2 := 61) (st := [vI (q4.1), vI v2]) (CX10_joyOf 0 v1 q4.2) miX10_joyOf mvX10_joyOf rfl (by decide) lk9_312 wI_ok (by decide +kernel) rfl (Nat.le_of_ble_eq_true rfl) (by decide) rfl (fun q5 hq5 => ?_)
        refine g_ile (off := 9) (tgt := 70) (pc2 := 64) (by decide +kernel) (by decide) rfl ?_ ?_
        · refine g_seg0 (pc' := 76) (L' := [some (vR (kO 9) 0), some (vI v1), some (vI (v2 ||| 0)), some (vI (v3 + 1)), some (vI (q2.1))]) (st' := []) (u1 := q5.2) [(oC 0, 1), (oP .ior, 1), (oL 3 2, 1), (oN 3 1, 3)] (by decide +kernel) rfl rfl ?_
          refine g_goto (off := (-57)) (tgt := 19) (by decide +kernel) (by decide) ?_
          exact g_jump [true, true, true, true, false] rfl (ih v1 (v2 ||| 0) (v3 + 1) q5.2)
        · refine g_seg0 (pc' := 67) (L' := [some (vR (kO 9) 0), some (vI v1), some (vI v2), some (vI v3), some (vI (q2.1))]) (st' := [vI ((1 : Int32) <<< (v3 &&& 31)), vI v2]) (u1 := q5.2) [(oC 1, 1), (oL 0 3, 1), (oP .ishl, 1)] (by decide +kernel) rfl rfl ?_
          refine g_goto (off := 4) (tgt := 71) (by decide +kernel) (by decide) ?_
          refine g_seg0 (pc' := 76) (L' := [some (vR (kO 9) 0), some (vI v1), some (vI (v2 ||| ((1 : Int32) <<< (v3 &&& 31)))), some (vI (v3 + 1)), some (vI (q2.1))]) (st' := []) (u1 := q5.2) [(oP .ior, 1), (oL 3 2, 1), (oN 3 1, 3)] (by decide +kernel) rfl rfl ?_
          refine g_goto (off := (-57)) (tgt := 19) (by decide +kernel) (by decide) ?_
          exact g_jump [true, true, true, true, false] rfl (ih v1 (v2 ||| ((1 : Int32) <<< (v3 &&& 31))) (v3 + 1) q5.2)
def fX10_envy (v1 : Int32) (u : ab_S) : Option (Int32 × ab_S) :=
  (fX10_isPerson v1 (sI u 0 0 0)).bind fun q6 =>
    bif decide (q6.1 = 0) then (
      some ((-1), q6.2))
    else (
      fX10_envy_19 fu v1 0 0 q6.2)
theorem tX10_envy (v1 : Int32) (u : ab_S) : ab_G 1 9 cX10_envy (some .int) 5 0 [some (vR (kO 9) 0), some (vI v1), none, none, none] [] u wI (fX10_envy v1 u) := by
  rw [fX10_envy]
  refine g_seg0 (pc' := 7) (L' := [some (vR (kO 9) 0), some (vI v1), none, none, none]) (st' := [vI v1, vR (kO 9) 0]) (u1 := (sI u 0 0 0)) [(oL 2 0, 1), (oC 0, 1), (oP (.putfield 1), 3), (oL 2 0, 1), (oL 0 1, 1)] (by decide +kernel) rfl rfl ?_
  refine g_callV (k := 342) (pc2 := 10) (st := []) (CX10_isPerson v1 (sI u 0 0 0)) miX10_isPerson mvX10_isPerson rfl (by decide) lk9_342 wI_ok (by decide +kernel) rfl (Nat.le_of_ble_eq_true rfl) (by decide) rfl (fun q6 hq6 => ?_)
  refine g_zne (off := 5) (tgt := 15) (pc2 := 13) (by decide +kernel) (by decide) rfl ?_ ?_
  · refine g_seg0 (pc' := 19) (L' := [some (vR (kO 9) 0), some (vI v1), some (vI 0), some (vI 0), none]) (st' := []) (u1 := q6.2) [(oC 0, 1), (oL 3 2, 1), (oC 0, 1), (oL 3 3, 1)] (by decide +kernel) rfl rfl ?_
    exact tX10_envy_19 fu v1 0 0 q6.2
  · refine g_seg0 (pc' := 14) (L' := [some (vR (kO 9) 0), some (vI v1), none, none, none]) (st' := [vI (-1)]) (u1 := q6.2) [(oC (-1), 1)] (by decide +kernel) rfl rfl ?_
    exact g_iret (by decide +kernel) rfl
theorem CX10_envy (v1 : Int32) (u : ab_S) : ab_C 1 yX10_envy cX10_envy 5 (some .int) 5 [vR (kO 9) 0, vI v1] u wI (fX10_envy v1 u) := ab_entry (by decide +kernel) rfl (by decide) (by decide) (fun _ => Nat.le_of_ble_eq_true rfl) rfl (tX10_envy v1 u)
def fX10_offers_68 (k12 : Int32 → Int32 → Int32 → Int32 → ab_S → Option (Int32 × ab_S)) (k27 : Int32 → Int32 → Int32 → Int32 → Int32 → ab_S → Option (Int32 × ab_S)) (v1 : Int32) (v2 : Int32) (v4 : Int32) (v5 : Int32) (v6 : Int32) (s0 : Int32) (u : ab_S) : Option (Int32 × ab_S) :=
  bif decide (v6 = 0) then (
    k27 v1 (v2 + 0) s0 v4 (v5 + 1) u)
  else (
    k27 v1 (v2 + 1) s0 v4 (v5 + 1) u)
theorem tX10_offers_68 (k12 : Int32 → Int32 → Int32 → Int32 → ab_S → Option (Int32 × ab_S)) (k27 : Int32 → Int32 → Int32 → Int32 → Int32 → ab_S → Option (Int32 × ab_S)) (hk12 : ∀ (v1 : Int32) (v2 : Int32) (v3 : Int32) (v4 : Int32) (u : ab_S), ab_G 1 9 cX10_offers (some .int) 5 12 [some (vR (kO 9) 0), some (vI v1), some (vI v2), some (vI v3), some (vI v4), none, none] [] u wI (k12 v1 v2 v3 v4 u)) (hk27 : ∀ (v1 : Int32) (v2 : Int32) (v3 : Int32) (v4 : Int32) (v5 : Int32) (u : ab_S), ab_G 1 9 cX10_offers (some .int) 5 27 [some (vR (kO 9) 0), some (vI v1), some (vI v2), some (vI v3), some (vI v4), some (vI v5), none] [] u wI (k27 v1 v2 v3 v4 v5 u)) (v1 : Int32) (v2 : Int32) (v4 : Int32) (v5 : Int32) (v6 : Int32) (s0 : Int32) (u : ab_S) : ab_G 1 9 cX10_offers (some .int) 5 68 [some (vR (kO 9) 0), some (vI v1), some (vI v2), none, some (vI v4), some (vI v5), some (vI v6)] [vI s0] u wI (fX10_offers_68 k12 k27 v1 v2 v4 v5 v6 s0 u) := by
  rw [fX10_offers_68]
  refine g_seg0 (pc' := 72) (L' := [some (vR (kO 9) 0), some (vI v1), some (vI v2), some (vI s0), some (vI v4), some (vI v5), some (vI v6)]) (st' := [vI v6, vI v2]) (u1 := u) [(oL 3 3, 1), (oL 0 2, 1), (oL 0 6, 2)] (by decide +kernel) rfl rfl ?_
  refine g_zeq (off := 7) (tgt := 79) (pc2 := 75) (by decide +kernel) (by decide) rfl ?_ ?_
  · refine g_seg0 (pc' := 85) (L' := [some (vR (kO 9) 0), some (vI v1), some (vI (v2 + 0)), some (vI s0), some (vI v4), some (vI (v5 + 1)), some (vI v6)]) (st' := []) (u1 := u) [(oC 0, 1), (oP .iadd, 1), (oL 3 2, 1), (oN 5 1, 3)] (by decide +kernel) rfl rfl ?_
    refine g_goto (off := (-58)) (tgt := 27) (by decide +kernel) (by decide) ?_
    exact g_jump [true, true, true, true, true, true, false] rfl (hk27 v1 (v2 + 0) s0 v4 (v5 + 1) u)
  · refine g_seg0 (pc' := 76) (L' := [some (vR (kO 9) 0), some (vI v1), some (vI v2), some (vI s0), some (vI v4), some (vI v5), some (vI v6)]) (st' := [vI 1, vI v2]) (u1 := u) [(oC 1, 1)] (by decide +kernel) rfl rfl ?_
    refine g_goto (off := 4) (tgt := 80) (by decide +kernel) (by decide) ?_
    refine g_seg0 (pc' := 85) (L' := [some (vR (kO 9) 0), some (vI v1), some (vI (v2 + 1)), some (vI s0), some (vI v4), some (vI (v5 + 1)), some (vI v6)]) (st' := []) (u1 := u) [(oP .iadd, 1), (oL 3 2, 1), (oN 5 1, 3)] (by decide +kernel) rfl rfl ?_
    refine g_goto (off := (-58)) (tgt := 27) (by decide +kernel) (by decide) ?_
    exact g_jump [true, true, true, true, true, true, false] rfl (hk27 v1 (v2 + 1) s0 v4 (v5 + 1) u)
def fX10_offers_27 (k12 : Int32 → Int32 → Int32 → Int32 → ab_S → Option (Int32 × ab_S)) : Nat → Int32 → Int32 → Int32 → Int32 → Int32 → ab_S → Option (Int32 × ab_S)
  | 0, _, _, _, _, _, _ => none
  | n + 1, v1, v2, v3, v4, v5, u =>
  (fX10_goods u).bind fun q1 =>
    bif decide (v5 < q1.1) then (
      (fX10_maySwap 0 v4 v5 q1.2).bind fun q2 =>
        bif decide (q2.1 = 0) then (
          fX10_offers_68 k12 (fX10_offers_27 k12 n) v1 v2 v4 v5 q2.1 v3 q2.2)
        else (
          bif decide (v3 < 0) then (
            fX10_offers_68 k12 (fX10_offers_27 k12 n) v1 v2 v4 v5 q2.1 ((8 * v4) + v5) q2.2)
          else (
            fX10_offers_68 k12 (fX10_offers_27 k12 n) v1 v2 v4 v5 q2.1 v3 q2.2)))
    else (
      k12 v1 v2 v3 (v4 + 1) q1.2)
theorem tX10_offers_27 (k12 : Int32 → Int32 → Int32 → Int32 → ab_S → Option (Int32 × ab_S)) (hk12 : ∀ (v1 : Int32) (v2 : Int32) (v3 : Int32) (v4 : Int32) (u : ab_S), ab_G 1 9 cX10_offers (some .int) 5 12 [some (vR (kO 9) 0), some (vI v1), some (vI v2), some (vI v3), some (vI v4), none, none] [] u wI (k12 v1 v2 v3 v4 u)) : ∀ (n : Nat) (v1 : Int32) (v2 : Int32) (v3 : Int32) (v4 : Int32) (v5 : Int32) (u : ab_S), ab_G 1 9 cX10_offers (some .int) 5 27 [some (vR (kO 9) 0), some (vI v1), some (vI v2), some (vI v3), some (vI v4), some (vI v5), none] [] u wI (fX10_offers_27 k12 n v1 v2 v3 v4 v5 u) := by
  intro n
  induction n with
  | zero => intros; exact g_none
  | succ n ih =>
    intro v1 v2 v3 v4 v5 u
    rw [fX10_offers_27]
    refine g_seg0 (pc' := 30) (L' := [some (vR (kO 9) 0), some (vI v1), some (vI v2), some (vI v3), some (vI v4), some (vI v5), none]) (st' := [vR (kO 9) 0, vI v5]) (u1 := u) [(oL 0 5, 2), (oL 2 0, 1)] (by decide +kernel) rfl rfl ?_
    refine g_callV (k := 291) (pc2 := 33) (st := [vI v5]) (CX10_goods u) miX10_goods mvX10_goods rfl (by decide) lk9_291 wI_ok (by decide +kernel) rfl (Nat.le_of_ble_eq_true rfl) (by decide) rfl (fun q1 hq1 => ?_)
    refine g_ige (off := 55) (tgt := 88) (pc2 := 36) (by decide +kernel) (by decide) rfl ?_ ?_
    · refine g_seg0 (pc' := 91) (L' := [some (vR (kO 9) 0), some (vI v1), some (vI v2), some (vI v3), some (vI (v4 + 1)), some (vI v5), none]) (st' := []) (u1 := q1.2) [(oN 4 1, 3)] (by decide +kernel) rfl rfl ?_
      refine g_goto (off := (-79)) (tgt := 12) (by decide +kernel) (by decide) ?_
      exact g_jump [true, true, true, true, true, false, false] rfl (hk12 v1 v2 v3 (v4 + 1) q1.2)
    · refine g_seg0 (pc' := 42) (L' := [some (vR (kO 9) 0), some (vI v1), some (vI v2), some (vI v3), some (vI v4), some (vI v5), none]) (st' := [vI v5, vI v4, vI 0, vR (kO 9) 0]) (u1 := q1.2) [(oL 2 0, 1), (oC 0, 1), (oL 0 4, 2), (oL 0 5, 2)] (by decide +kernel) rfl rfl ?_
      refine g_callV (k := 358) (pc2 := 45) (st := []) (CX10_maySwap 0 v4 v5 q1.2) miX10_maySwap mvX10_maySwap rfl (by decide) lk9_358 wI_ok (by decide +kernel) rfl (Nat.le_of_ble_eq_true rfl) (by decide) rfl (fun q2 hq2 => ?_)
      refine g_seg0 (pc' := 49) (L' := [some (vR (kO 9) 0), some (vI v1), some (vI v2), some (vI v3), some (vI v4), some (vI v5), some (vI (q2.1))]) (st' := [vI (q2.1)]) (u1 := q2.2) [(oL 3 6, 2), (oL 0 6, 2)] (by decide +kernel) rfl rfl ?_
      refine g_zeq (off := 18) (tgt := 67) (pc2 := 52) (by decide +kernel) (by decide) rfl ?_ ?_
      · refine g_seg0 (pc' := 68) (L' := [some (vR (kO 9) 0), some (vI v1), some (vI v2), some (vI v3), some (vI v4), some (vI v5), some (vI (q2.1))]) (st' := [vI v3]) (u1 := q2.2) [(oL 0 3, 1)] (by decide +kernel) rfl rfl ?_
        exact g_jump [true, true, true, false, true, true, true] rfl (tX10_offers_68 k12 (fX10_offers_27 k12 n) hk12 ih v1 v2 v4 v5 q2.1 v3 q2.2)
      · refine g_seg0 (pc' := 53) (L' := [some (vR (kO 9) 0), some (vI v1), some (vI v2), some (vI v3), some (vI v4), some (vI v5), some (vI (q2.1))]) (st' := [vI v3]) (u1 := q2.2) [(oL 0 3, 1)] (by decide +kernel) rfl rfl ?_
        refine g_zge (off := 14) (tgt := 67) (pc2 := 56) (by decide +kernel) (by decide) rfl ?_ ?_
        · refine g_seg0 (pc' := 68) (L' := [some (vR (kO 9) 0), some (vI v1), some (vI v2), some (vI v3), some (vI v4), some (vI v5), some (vI (q2.1))]) (st' := [vI v3]) (u1 := q2.2) [(oL 0 3, 1)] (by decide +kernel) rfl rfl ?_
          exact g_jump [true, true, true, false, true, true, true] rfl (tX10_offers_68 k12 (fX10_offers_27 k12 n) hk12 ih v1 v2 v4 v5 q2.1 v3 q2.2)
        · refine g_seg0 (pc' := 64) (L' := [some (vR (kO 9) 0), some (vI v1), some (vI v2), some (vI v3), some (vI v4), some (vI v5), some (vI (q2.1))]) (st' := [vI ((8 * v4) + v5)]) (u1 := q2.2) [(oC 8, 2), (oL 0 4, 2), (oP .imul, 1), (oL 0 5, 2), (oP .iadd, 1)] (by decide +kernel) rfl rfl ?_
          refine g_goto (off := 4) (tgt := 68) (by decide +kernel) (by decide) ?_
          exact g_jump [true, true, true, false, true, true, true] rfl (tX10_offers_68 k12 (fX10_offers_27 k12 n) hk12 ih v1 v2 v4 v5 q2.1 ((8 * v4) + v5) q2.2)
def fX10_offers_12 : Nat → Int32 → Int32 → Int32 → Int32 → ab_S → Option (Int32 × ab_S)
  | 0, _, _, _, _, _ => none
  | n + 1, v1, v2, v3, v4, u =>
  (fX10_goods u).bind fun q3 =>
    bif decide (v4 < q3.1) then (
      fX10_offers_27 (fX10_offers_12 n) fu v1 v2 v3 v4 (v4 + 1) q3.2)
    else (
      bif decide (v1 = 0) then (
        some (v2, q3.2))
      else (
        bif decide (v1 = 1) then (
          some (v3, q3.2))
        else (
          some ((-1), q3.2))))
theorem tX10_offers_12 : ∀ (n : Nat) (v1 : Int32) (v2 : Int32) (v3 : Int32) (v4 : Int32) (u : ab_S), ab_G 1 9 cX10_offers (some .int) 5 12 [some (vR (kO 9) 0), some (vI v1), some (vI v2), some (vI v3), some (vI v4), none, none] [] u wI (fX10_offers_12 n v1 v2 v3 v4 u) := by
  intro n
  induction n with
  | zero => intros; exact g_none
  | succ n ih =>
    intro v1 v2 v3 v4 u
    rw [fX10_offers_12]
    refine g_seg0 (pc' := 15) (L' := [some (vR (kO 9) 0), some (vI v1), some (vI v2), some (vI v3), some (vI v4), none, none]) (st' := [vR (kO 9) 0, vI v4]) (u1 := u) [(oL 0 4, 2), (oL 2 0, 1)] (by decide +kernel) rfl rfl ?_
    refine g_callV (k := 291) (pc2 := 18) (st := [vI v4]) (CX10_goods u) miX10_goods mvX10_goods rfl (by decide) lk9_291 wI_ok (by decide +kernel) rfl (Nat.le_of_ble_eq_true rfl) (by decide) rfl (fun q3 hq3 => ?_)
    refine g_ige (off := 76) (tgt := 94) (pc2 := 21) (by decide +kernel) (by decide) rfl ?_ ?_
    · refine g_seg0 (pc' := 95) (L' := [some (vR (kO 9) 0), some (vI v1), some (vI v2), some (vI v3), some (vI v4), none, none]) (st' := [vI v1]) (u1 := q3.2) [(oL 0 1, 1)] (by decide +kernel) rfl rfl ?_
      refine g_zne (off := 7) (tgt := 102) (pc2 := 98) (by decide +kernel) (by decide) rfl ?_ ?_
      · refine g_seg0 (pc' := 104) (L' := [some (vR (kO 9) 0), some (vI v1), some (vI v2), some (vI v3), some (vI v4), none, none]) (st' := [vI 1, vI v1]) (u1 := q3.2) [(oL 0 1, 1), (oC 1, 1)] (by decide +kernel) rfl rfl ?_
        refine g_ine (off := 7) (tgt := 111) (pc2 := 107) (by decide +kernel) (by decide) rfl ?_ ?_
        · refine g_seg0 (pc' := 112) (L' := [some (vR (kO 9) 0), some (vI v1), some (vI v2), some (vI v3), some (vI v4), none, none]) (st' := [vI (-1)]) (u1 := q3.2) [(oC (-1), 1)] (by decide +kernel) rfl rfl ?_
          exact g_iret (by decide +kernel) rfl
        · refine g_seg0 (pc' := 108) (L' := [some (vR (kO 9) 0), some (vI v1), some (vI v2), some (vI v3), some (vI v4), none, none]) (st' := [vI v3]) (u1 := q3.2) [(oL 0 3, 1)] (by decide +kernel) rfl rfl ?_
          refine g_goto (off := 4) (tgt := 112) (by decide +kernel) (by decide) ?_
          exact g_iret (by decide +kernel) rfl
      · refine g_seg0 (pc' := 99) (L' := [some (vR (kO 9) 0), some (vI v1), some (vI v2), some (vI v3), some (vI v4), none, none]) (st' := [vI v2]) (u1 := q3.2) [(oL 0 2, 1)] (by decide +kernel) rfl rfl ?_
        refine g_goto (off := 13) (tgt := 112) (by decide +kernel) (by decide) ?_
        exact g_iret (by decide +kernel) rfl
    · refine g_seg0 (pc' := 27) (L' := [some (vR (kO 9) 0), some (vI v1), some (vI v2), some (vI v3), some (vI v4), some (vI (v4 + 1)), none]) (st' := []) (u1 := q3.2) [(oL 0 4, 2), (oC 1, 1), (oP .iadd, 1), (oL 3 5, 2)] (by decide +kernel) rfl rfl ?_
      exact tX10_offers_27 (fX10_offers_12 n) ih fu v1 v2 v3 v4 (v4 + 1) q3.2
def fX10_offers (v1 : Int32) (u : ab_S) : Option (Int32 × ab_S) :=
  fX10_offers_12 fu v1 0 (-1) 0 (sI u 0 0 0)
theorem tX10_offers (v1 : Int32) (u : ab_S) : ab_G 1 9 cX10_offers (some .int) 5 0 [some (vR (kO 9) 0), some (vI v1), none, none, none, none, none] [] u wI (fX10_offers v1 u) := by
  rw [fX10_offers]
  refine g_seg0 (pc' := 12) (L' := [some (vR (kO 9) 0), some (vI v1), some (vI 0), some (vI (-1)), some (vI 0), none, none]) (st' := []) (u1 := (sI u 0 0 0)) [(oL 2 0, 1), (oC 0, 1), (oP (.putfield 1), 3), (oC 0, 1), (oL 3 2, 1), (oC (-1), 1), (oL 3 3, 1), (oC 0, 1), (oL 3 4, 2)] (by decide +kernel) rfl rfl ?_
  exact tX10_offers_12 fu v1 0 (-1) 0 (sI u 0 0 0)
theorem CX10_offers (v1 : Int32) (u : ab_S) : ab_C 1 yX10_offers cX10_offers 7 (some .int) 5 [vR (kO 9) 0, vI v1] u wI (fX10_offers v1 u) := ab_entry (by decide +kernel) rfl (by decide) (by decide) (fun _ => Nat.le_of_ble_eq_true rfl) rfl (tX10_offers v1 u)
def fX10_wantOf_70 (k9 : Int32 → Int32 → Int32 → Int32 → Int32 → Int32 → ab_S → Option (Int32 × ab_S)) (v1 : Int32) (v2 : Int32) (v3 : Int32) (v5 : Int32) (v6 : Int32) (v7 : Int32) (s0 : Int32) (u : ab_S) : Option (Int32 × ab_S) :=
  bif decide (v7 ≤ v5) then (
    k9 v1 v2 v3 s0 v5 (v6 + 1) u)
  else (
    k9 v1 v2 v3 s0 v7 (v6 + 1) u)
theorem tX10_wantOf_70 (k9 : Int32 → Int32 → Int32 → Int32 → Int32 → Int32 → ab_S → Option (Int32 × ab_S)) (hk9 : ∀ (v1 : Int32) (v2 : Int32) (v3 : Int32) (v4 : Int32) (v5 : Int32) (v6 : Int32) (u : ab_S), ab_G 1 9 cX10_wantOf (some .int) 4 9 [some (vR (kO 9) 0), some (vI v1), some (vI v2), some (vI v3), some (vI v4), some (vI v5), some (vI v6), none] [] u wI (k9 v1 v2 v3 v4 v5 v6 u)) (v1 : Int32) (v2 : Int32) (v3 : Int32) (v5 : Int32) (v6 : Int32) (v7 : Int32) (s0 : Int32) (u : ab_S) : ab_G 1 9 cX10_wantOf (some .int) 4 70 [some (vR (kO 9) 0), some (vI v1), some (vI v2), some (vI v3), none, some (vI v5), some (vI v6), some (vI v7)] [vI s0] u wI (fX10_wantOf_70 k9 v1 v2 v3 v5 v6 v7 s0 u) := by
  rw [fX10_wantOf_70]
  refine g_seg0 (pc' := 76) (L' := [some (vR (kO 9) 0), some (vI v1), some (vI v2), some (vI v3), some (vI s0), some (vI v5), some (vI v6), some (vI v7)]) (st' := [vI v5, vI v7]) (u1 := u) [(oL 3 4, 2), (oL 0 7, 2), (oL 0 5, 2)] (by decide +kernel) rfl rfl ?_
  refine g_ile (off := 8) (tgt := 84) (pc2 := 79) (by decide +kernel) (by decide) rfl ?_ ?_
  · refine g_seg0 (pc' := 91) (L' := [some (vR (kO 9) 0), some (vI v1), some (vI v2), some (vI v3), some (vI s0), some (vI v5), some (vI (v6 + 1)), some (vI v7)]) (st' := []) (u1 := u) [(oL 0 5, 2), (oL 3 5, 2), (oN 6 1, 3)] (by decide +kernel) rfl rfl ?_
    refine g_goto (off := (-82)) (tgt := 9) (by decide +kernel) (by decide) ?_
    exact g_jump [true, true, true, true, true, true, true, false] rfl (hk9 v1 v2 v3 s0 v5 (v6 + 1) u)
  · refine g_seg0 (pc' := 81) (L' := [some (vR (kO 9) 0), some (vI v1), some (vI v2), some (vI v3), some (vI s0), some (vI v5), some (vI v6), some (vI v7)]) (st' := [vI v7]) (u1 := u) [(oL 0 7, 2)] (by decide +kernel) rfl rfl ?_
    refine g_goto (off := 5) (tgt := 86) (by decide +kernel) (by decide) ?_
    refine g_seg0 (pc' := 91) (L' := [some (vR (kO 9) 0), some (vI v1), some (vI v2), some (vI v3), some (vI s0), some (vI v7), some (vI (v6 + 1)), some (vI v7)]) (st' := []) (u1 := u) [(oL 3 5, 2), (oN 6 1, 3)] (by decide +kernel) rfl rfl ?_
    refine g_goto (off := (-82)) (tgt := 9) (by decide +kernel) (by decide) ?_
    exact g_jump [true, true, true, true, true, true, true, false] rfl (hk9 v1 v2 v3 s0 v7 (v6 + 1) u)
def fX10_wantOf_54 (k9 : Int32 → Int32 → Int32 → Int32 → Int32 → Int32 → ab_S → Option (Int32 × ab_S)) (v1 : Int32) (v2 : Int32) (v3 : Int32) (v4 : Int32) (v5 : Int32) (v6 : Int32) (s0 : Int32) (u : ab_S) : Option (Int32 × ab_S) :=
  bif decide (s0 ≤ v5) then (
    fX10_wantOf_70 k9 v1 v2 v3 v5 v6 s0 v4 u)
  else (
    fX10_wantOf_70 k9 v1 v2 v3 v5 v6 s0 v6 u)
theorem tX10_wantOf_54 (k9 : Int32 → Int32 → Int32 → Int32 → Int32 → Int32 → ab_S → Option (Int32 × ab_S)) (hk9 : ∀ (v1 : Int32) (v2 : Int32) (v3 : Int32) (v4 : Int32) (v5 : Int32) (v6 : Int32) (u : ab_S), ab_G 1 9 cX10_wantOf (some .int) 4 9 [some (vR (kO 9) 0), some (vI v1), some (vI v2), some (vI v3), some (vI v4), some (vI v5), some (vI v6), none] [] u wI (k9 v1 v2 v3 v4 v5 v6 u)) (v1 : Int32) (v2 : Int32) (v3 : Int32) (v4 : Int32) (v5 : Int32) (v6 : Int32) (s0 : Int32) (u : ab_S) : ab_G 1 9 cX10_wantOf (some .int) 4 54 [some (vR (kO 9) 0), some (vI v1), some (vI v2), some (vI v3), some (vI v4), some (vI v5), some (vI v6), none] [vI s0] u wI (fX10_wantOf_54 k9 v1 v2 v3 v4 v5 v6 s0 u) := by
  rw [fX10_wantOf_54]
  refine g_seg0 (pc' := 60) (L' := [some (vR (kO 9) 0), some (vI v1), some (vI v2), some (vI v3), some (vI v4), some (vI v5), some (vI v6), some (vI s0)]) (st' := [vI v5, vI s0]) (u1 := u) [(oL 3 7, 2), (oL 0 7, 2), (oL 0 5, 2)] (by decide +kernel) rfl rfl ?_
  refine g_ile (off := 8) (tgt := 68) (pc2 := 63) (by decide +kernel) (by decide) rfl ?_ ?_
  · refine g_seg0 (pc' := 70) (L' := [some (vR (kO 9) 0), some (vI v1), some (vI v2), some (vI v3), some (vI v4), some (vI v5), some (vI v6), some (vI s0)]) (st' := [vI v4]) (u1 := u) [(oL 0 4, 2)] (by decide +kernel) rfl rfl ?_
    exact g_jump [true, true, true, true, false, true, true, true] rfl (tX10_wantOf_70 k9 hk9 v1 v2 v3 v5 v6 s0 v4 u)
  · refine g_seg0 (pc' := 65) (L' := [some (vR (kO 9) 0), some (vI v1), some (vI v2), some (vI v3), some (vI v4), some (vI v5), some (vI v6), some (vI s0)]) (st' := [vI v6]) (u1 := u) [(oL 0 6, 2)] (by decide +kernel) rfl rfl ?_
    refine g_goto (off := 5) (tgt := 70) (by decide +kernel) (by decide) ?_
    exact g_jump [true, true, true, true, false, true, true, true] rfl (tX10_wantOf_70 k9 hk9 v1 v2 v3 v5 v6 s0 v6 u)
def fX10_wantOf_9 : Nat → Int32 → Int32 → Int32 → Int32 → Int32 → Int32 → ab_S → Option (Int32 × ab_S)
  | 0, _, _, _, _, _, _, _ => none
  | n + 1, v1, v2, v3, v4, v5, v6, u =>
  (fX10_goods u).bind fun q1 =>
    bif decide (v6 < q1.1) then (
      bif decide (((v2 >>> (v6 &&& 31)) &&& 1) = 0) then (
        fX10_wantOf_54 (fX10_wantOf_9 n) v1 v2 v3 v4 v5 v6 (-1) q1.2)
      else (
        bif decide (v3 < 0) then (
          (fX10_fitOf 0 v1 v6 q1.2).bind fun q3 =>
            fX10_wantOf_54 (fX10_wantOf_9 n) v1 v2 v3 v4 v5 v6 q3.1 q3.2)
        else (
          (fX10_fitBy v1 v6 v3 q1.2).bind fun q2 =>
            fX10_wantOf_54 (fX10_wantOf_9 n) v1 v2 v3 v4 v5 v6 q2.1 q2.2)))
    else (
      some (v4, q1.2))
theorem tX10_wantOf_9 : ∀ (n : Nat) (v1 : Int32) (v2 : Int32) (v3 : Int32) (v4 : Int32) (v5 : Int32) (v6 : Int32) (u : ab_S), ab_G 1 9 cX10_wantOf (some .int) 4 9 [some (vR (kO 9) 0), some (vI v1), some (vI v2), some (vI v3), some (vI v4), some (vI v5), some (vI v6), none] [] u wI (fX10_wantOf_9 n v1 v2 v3 v4 v5 v6 u) := by
  intro n
  induction n with
  | zero => intros; exact g_none
  | succ n ih =>
    intro v1 v2 v3 v4 v5 v6 u
    rw [fX10_wantOf_9]
    refine g_seg0 (pc' := 12) (L' := [some (vR (kO 9) 0), some (vI v1), some (vI v2), some (vI v3), some (vI v4), some (vI v5), some (vI v6), none]) (st' := [vR (kO 9) 0, vI v6]) (u1 := u) [(oL 0 6, 2), (oL 2 0, 1)] (by decide +kernel) rfl rfl ?_
    refine g_callV (k := 291) (pc2 := 15) (st := [vI v6]) (CX10_goods u) miX10_goods mvX10_goods rfl (by decide) lk9_291 wI_ok (by decide +kernel) rfl (Nat.le_of_ble_eq_true rfl) (by decide) rfl (fun q1 hq1 => ?_)
    refine g_ige (off := 79) (tgt := 94) (pc2 := 18) (by decide +kernel) (by decide) rfl ?_ ?_
    · refine g_seg0 (pc' := 96) (L' := [some (vR (kO 9) 0), some (vI v1), some (vI v2), some (vI v3), some (vI v4), some (vI v5), some (vI v6), none]) (st' := [vI v4]) (u1 := q1.2) [(oL 0 4, 2)] (by decide +kernel) rfl rfl ?_
      exact g_iret (by decide +kernel) rfl
    · refine g_seg0 (pc' := 24) (L' := [some (vR (kO 9) 0), some (vI v1), some (vI v2), some (vI v3), some (vI v4), some (vI v5), some (vI v6), none]) (st' := [vI ((v2 >>> (v6 &&& 31)) &&& 1)]) (u1 := q1.2) [(oL 0 2, 1), (oL 0 6, 2), (oP .ishr, 1), (oC 1, 1), (oP .iand, 1)] (by decide +kernel) rfl rfl ?_
      refine g_zne (off := 7) (tgt := 31) (pc2 := 27) (by decide +kernel) (by decide) rfl ?_ ?_
      · refine g_seg0 (pc' := 32) (L' := [some (vR (kO 9) 0), some (vI v1), some (vI v2), some (vI v3), some (vI v4), some (vI v5), some (vI v6), none]) (st' := [vI v3]) (u1 := q1.2) [(oL 0 3, 1)] (by decide +kernel) rfl rfl ?_
        refine g_zge (off := 14) (tgt := 46) (pc2 := 35) (by decide +kernel) (by decide) rfl ?_ ?_
        · refine g_seg0 (pc' := 51) (L' := [some (vR (kO 9) 0), some (vI v1), some (vI v2), some (vI v3), some (vI v4), some (vI v5), some (vI v6), none]) (st' := [vI v3, vI v6, vI v1, vR (kO 9) 0]) (u1 := q1.2) [(oL 2 0, 1), (oL 0 1, 1), (oL 0 6, 2), (oL 0 3, 1)] (by decide +kernel) rfl rfl ?_
          refine g_callV (k := 306) (pc2 := 54) (st := []) (CX10_fitBy v1 v6 v3 q1.2) miX10_fitBy mvX10_fitBy rfl (by decide) lk9_306 wI_ok (by decide +kernel) rfl (Nat.le_of_ble_eq_true rfl) (by decide) rfl (fun q2 hq2 => ?_)
          exact tX10_wantOf_54 (fX10_wantOf_9 n) ih v1 v2 v3 v4 v5 v6 q2.1 q2.2
        · refine g_seg0 (pc' := 40) (L' := [some (vR (kO 9) 0), some (vI v1), some (vI v2), some (vI v3), some (vI v4), some (vI v5), some (vI v6), none]) (st' := [vI v6, vI v1, vI 0, vR (kO 9) 0]) (u1 := q1.2) [(oL 2 0, 1), (oC 0, 1), (oL 0 1, 1), (oL 0 6, 2)] (by decide +kernel) rfl rfl ?_
          refine g_callV (k := 327) (pc2 := 43) (st := []) (CX10_fitOf 0 v1 v6 q1.2) miX10_fitOf mvX10_fitOf rfl (by decide) lk9_327 wI_ok (by decide +kernel) rfl (Nat.le_of_ble_eq_true rfl) (by decide) rfl (fun q3 hq3 => ?_)
          refine g_goto (off := 11) (tgt := 54) (by decide +kernel) (by decide) ?_
          exact tX10_wantOf_54 (fX10_wantOf_9 n) ih v1 v2 v3 v4 v5 v6 q3.1 q3.2
      · refine g_seg0 (pc' := 28) (L' := [some (vR (kO 9) 0), some (vI v1), some (vI v2), some (vI v3), some (vI v4), some (vI v5), some (vI v6), none]) (st' := [vI (-1)]) (u1 := q1.2) [(oC (-1), 1)] (by decide +kernel) rfl rfl ?_
        refine g_goto (off := 26) (tgt := 54) (by decide +kernel) (by decide) ?_
        exact tX10_wantOf_54 (fX10_wantOf_9 n) ih v1 v2 v3 v4 v5 v6 (-1) q1.2
def fX10_wantOf (v1 : Int32) (v2 : Int32) (v3 : Int32) (u : ab_S) : Option (Int32 × ab_S) :=
  fX10_wantOf_9 fu v1 v2 v3 (-1) (-1) 0 u
theorem tX10_wantOf (v1 : Int32) (v2 : Int32) (v3 : Int32) (u : ab_S) : ab_G 1 9 cX10_wantOf (some .int) 4 0 [some (vR (kO 9) 0), some (vI v1), some (vI v2), some (vI v3), none, none, none, none] [] u wI (fX10_wantOf v1 v2 v3 u) := by
  rw [fX10_wantOf]
  refine g_seg0 (pc' := 9) (L' := [some (vR (kO 9) 0), some (vI v1), some (vI v2), some (vI v3), some (vI (-1)), some (vI (-1)), some (vI 0), none]) (st' := []) (u1 := u) [(oC (-1), 1), (oL 3 4, 2), (oC (-1), 1), (oL 3 5, 2), (oC 0, 1), (oL 3 6, 2)] (by decide +kernel) rfl rfl ?_
  exact tX10_wantOf_9 fu v1 v2 v3 (-1) (-1) 0 u
theorem CX10_wantOf (v1 : Int32) (v2 : Int32) (v3 : Int32) (u : ab_S) : ab_C 1 yX10_wantOf cX10_wantOf 8 (some .int) 4 [vR (kO 9) 0, vI v1, vI v2, vI v3] u wI (fX10_wantOf v1 v2 v3 u) := ab_entry (by decide +kernel) rfl (by decide) (by decide) (fun _ => Nat.le_of_ble_eq_true rfl) rfl (tX10_wantOf v1 v2 v3 u)
def fX10_allGoods (u : ab_S) : Option (Int32 × ab_S) :=
  (fX10_goods u).bind fun q1 =>
    some ((((1 : Int32) <<< (q1.1 &&& 31)) - 1), q1.2)
theorem tX10_allGoods (u : ab_S) : ab_G 1 9 cX10_allGoods (some .int) 1 0 [some (vR (kO 9) 0)] [] u wI (fX10_allGoods u) := by
  rw [fX10_allGoods]
  refine g_seg0 (pc' := 2) (L' := [some (vR (kO 9) 0)]) (st' := [vR (kO 9) 0, vI 1]) (u1 := u) [(oC 1, 1), (oL 2 0, 1)] (by decide +kernel) rfl rfl ?_
  refine g_callV (k := 291) (pc2 := 5) (st := [vI 1]) (CX10_goods u) miX10_goods mvX10_goods rfl (by decide) lk9_291 wI_ok (by decide +kernel) rfl (Nat.le_of_ble_eq_true rfl) (by decide) rfl (fun q1 hq1 => ?_)
  refine g_seg0 (pc' := 8) (L' := [some (vR (kO 9) 0)]) (st' := [vI (((1 : Int32) <<< (q1.1 &&& 31)) - 1)]) (u1 := q1.2) [(oP .ishl, 1), (oC 1, 1), (oP .isub, 1)] (by decide +kernel) rfl rfl ?_
  exact g_iret (by decide +kernel) rfl
theorem CX10_allGoods (u : ab_S) : ab_C 1 yX10_allGoods cX10_allGoods 1 (some .int) 1 [vR (kO 9) 0] u wI (fX10_allGoods u) := ab_entry (by decide +kernel) rfl (by decide) (by decide) (fun _ => Nat.le_of_ble_eq_true rfl) rfl (tX10_allGoods u)
def fX10_want (v1 : Int32) (u : ab_S) : Option (Int32 × ab_S) :=
  (fX10_isPerson v1 (sI u 0 0 0)).bind fun q1 =>
    bif decide (q1.1 = 0) then (
      some ((-1), q1.2))
    else (
      (fX10_allGoods q1.2).bind fun q2 =>
        (fX10_wantOf v1 q2.1 (-1) q2.2).bind fun q3 =>
          some (q3.1, q3.2))
theorem tX10_want (v1 : Int32) (u : ab_S) : ab_G 1 9 cX10_want (some .int) 5 0 [some (vR (kO 9) 0), some (vI v1)] [] u wI (fX10_want v1 u) := by
  rw [fX10_want]
  refine g_seg0 (pc' := 7) (L' := [some (vR (kO 9) 0), some (vI v1)]) (st' := [vI v1, vR (kO 9) 0]) (u1 := (sI u 0 0 0)) [(oL 2 0, 1), (oC 0, 1), (oP (.putfield 1), 3), (oL 2 0, 1), (oL 0 1, 1)] (by decide +kernel) rfl rfl ?_
  refine g_callV (k := 342) (pc2 := 10) (st := []) (CX10_isPerson v1 (sI u 0 0 0)) miX10_isPerson mvX10_isPerson rfl (by decide) lk9_342 wI_ok (by decide +kernel) rfl (Nat.le_of_ble_eq_true rfl) (by decide) rfl (fun q1 hq1 => ?_)
  refine g_zeq (off := 16) (tgt := 26) (pc2 := 13) (by decide +kernel) (by decide) rfl ?_ ?_
  · refine g_seg0 (pc' := 27) (L' := [some (vR (kO 9) 0), some (vI v1)]) (st' := [vI (-1)]) (u1 := q1.2) [(oC (-1), 1)] (by decide +kernel) rfl rfl ?_
    exact g_iret (by decide +kernel) rfl
  · refine g_seg0 (pc' := 16) (L' := [some (vR (kO 9) 0), some (vI v1)]) (st' := [vR (kO 9) 0, vI v1, vR (kO 9) 0]) (u1 := q1.2) [(oL 2 0, 1), (oL 0 1, 1), (oL 2 0, 1)] (by decide +kernel) rfl rfl ?_
    refine g_callV (k := 373) (pc2 := 19) (st := [vI v1, vR (kO 9) 0]) (CX10_allGoods q1.2) miX10_allGoods mvX10_allGoods rfl (by decide) lk9_373 wI_ok (by decide +kernel) rfl (Nat.le_of_ble_eq_true rfl) (by decide) rfl (fun q2 hq2 => ?_)
    refine g_seg0 (pc' := 20) (L' := [some (vR (kO 9) 0), some (vI v1)]) (st' := [vI (-1), vI (q2.1), vI v1, vR (kO 9) 0]) (u1 := q2.2) [(oC (-1), 1)] (by decide +kernel) rfl rfl ?_
    refine g_callV (k := 376) (pc2 := 23) (st := []) (CX10_wantOf v1 q2.1 (-1) q2.2) miX10_wantOf mvX10_wantOf rfl (by decide) lk9_376 wI_ok (by decide +kernel) rfl (Nat.le_of_ble_eq_true rfl) (by decide) rfl (fun q3 hq3 => ?_)
    refine g_goto (off := 4) (tgt := 27) (by decide +kernel) (by decide) ?_
    exact g_iret (by decide +kernel) rfl
theorem CX10_want (v1 : Int32) (u : ab_S) : ab_C 1 yX10_want cX10_want 2 (some .int) 5 [vR (kO 9) 0, vI v1] u wI (fX10_want v1 u) := ab_entry (by decide +kernel) rfl (by decide) (by decide) (fun _ => Nat.le_of_ble_eq_true rfl) rfl (tX10_want v1 u)
def fX10_fansOf_4 : Nat → Int32 → Int32 → Int32 → ab_S → Option (Int32 × ab_S)
  | 0, _, _, _, _ => none
  | n + 1, v1, v2, v3, u =>
  (fX10_persons u).bind fun q1 =>
    bif decide (v3 < q1.1) then (
      (fX10_fitOf 0 v3 v1 q1.2).bind fun q2 =>
        (fX10_allGoods q2.2).bind fun q3 =>
          (fX10_wantOf v3 q3.1 (-1) q3.2).bind fun q4 =>
            (fX10_fitOf 0 v3 q4.1 q4.2).bind fun q5 =>
              bif decide (q2.1 = q5.1) then (
                (fX10_fansOf_4 n) v1 (v2 ||| ((1 : Int32) <<< (v3 &&& 31))) (v3 + 1) q5.2)
              else (
                (fX10_fansOf_4 n) v1 (v2 ||| 0) (v3 + 1) q5.2))
    else (
      some (v2, q1.2))
theorem tX10_fansOf_4 : ∀ (n : Nat) (v1 : Int32) (v2 : Int32) (v3 : Int32) (u : ab_S), ab_G 1 9 cX10_fansOf (some .int) 5 4 [some (vR (kO 9) 0), some (vI v1), some (vI v2), some (vI v3)] [] u wI (fX10_fansOf_4 n v1 v2 v3 u) := by
  intro n
  induction n with
  | zero => intros; exact g_none
  | succ n ih =>
    intro v1 v2 v3 u
    rw [fX10_fansOf_4]
    refine g_seg0 (pc' := 6) (L' := [some (vR (kO 9) 0), some (vI v1), some (vI v2), some (vI v3)]) (st' := [vR (kO 9) 0, vI v3]) (u1 := u) [(oL 0 3, 1), (oL 2 0, 1)] (by decide +kernel) rfl rfl ?_
    refine g_callV (k := 275) (pc2 := 9) (st := [vI v3]) (CX10_persons u) miX10_persons mvX10_persons rfl (by decide) lk9_275 wI_ok (by decide +kernel) rfl (Nat.le_of_ble_eq_true rfl) (by decide) rfl (fun q1 hq1 => ?_)
    refine g_ige (off := 45) (tgt := 54) (pc2 := 12) (by decide +kernel) (by decide) rfl ?_ ?_
    · refine g_seg0 (pc' := 55) (L' := [some (vR (kO 9) 0), some (vI v1), some (vI v2), some (vI v3)]) (st' := [vI v2]) (u1 := q1.2) [(oL 0 2, 1)] (by decide +kernel) rfl rfl ?_
      exact g_iret (by decide +kernel) rfl
    · refine g_seg0 (pc' := 17) (L' := [some (vR (kO 9) 0), some (vI v1), some (vI v2), some (vI v3)]) (st' := [vI v1, vI v3, vI 0, vR (kO 9) 0, vI v2]) (u1 := q1.2) [(oL 0 2, 1), (oL 2 0, 1), (oC 0, 1), (oL 0 3, 1), (oL 0 1, 1)] (by decide +kernel) rfl rfl ?_
      refine g_callV (k := 327) (pc2 := 20) (st := [vI v2]) (CX10_fitOf 0 v3 v1 q1.2) miX10_fitOf mvX10_fitOf rfl (by decide) lk9_327 wI_ok (by decide +kernel) rfl (Nat.le_of_ble_eq_true rfl) (by decide) rfl (fun q2 hq2 => ?_)
      refine g_seg0 (pc' := 26) (L' := [some (vR (kO 9) 0), some (vI v1), some (vI v2), some (vI v3)]) (st' := [vR (kO 9) 0, vI v3, vR (kO 9) 0, vI v3, vI 0, vR (kO 9) 0, vI (q2.1), vI v2]) (u1 := q2.2) [(oL 2 0, 1), (oC 0, 1), (oL 0 3, 1), (oL 2 0, 1), (oL 0 3, 1), (oL 2 0, 1)] (by decide +kernel) rfl rfl ?_
      refine g_callV (k := 373) (pc2 := 29) (st := [vI v3, vR (kO 9) 0, vI v3, vI 0, vR (kO 9) 0, vI (q2.1), vI v2]) (CX10_allGoods q2.2) miX10_allGoods mvX10_allGoods rfl (by decide) lk9_373 wI_ok (by decide +kernel) rfl (Nat.le_of_ble_eq_true rfl) (by decide) rfl (fun q3 hq3 => ?_)
      refine g_seg0 (pc' := 30) (L' := [some (vR (kO 9) 0), some (vI v1), some (vI v2), some (vI v3)]) (st' := [vI (-1), vI (q3.1), vI v3, vR (kO 9) 0, vI v3, vI 0, vR (kO 9) 0, vI (q2.1), vI v2]) (u1 := q3.2) [(oC (-1), 1)] (by decide +kernel) rfl rfl ?_
      refine g_callV (k := 376) (pc2 := 33) (st := [vI v3, vI 0, vR (kO 9) 0, vI (q2.1), vI v2]) (CX10_wantOf v3 q3.1 (-1) q3.2) miX10_wantOf mvX10_wantOf rfl (by decide) lk9_376 wI_ok (by decide +kernel) rfl (Nat.le_of_ble_eq_true rfl) (by decide) rfl (fun q4 hq4 => ?_)
      refine g_callV (k := 327) (pc2 := 36) (st := [vI (q2.1), vI v2]) (CX10_fitOf 0 v3 q4.1 q4.2) miX10_fitOf mvX10_fitOf rfl (by decide) lk9_327 wI_ok (by decide +kernel) rfl (Nat.le_of_ble_eq_true rfl) (by decide) rfl (fun q5 hq5 => ?_)
      refine g_ine (off := 9) (tgt := 45) (pc2 := 39) (by decide +kernel) (by decide) rfl ?_ ?_
      · refine g_seg0 (pc' := 51) (L' := [some (vR (kO 9) 0), some (vI v1), some (vI (v2 ||| 0)), some (vI (v3 + 1))]) (st' := []) (u1 := q5.2) [(oC 0, 1), (oP .ior, 1), (oL 3 2, 1), (oN 3 1, 3)] (by decide +kernel) rfl rfl ?_
        refine g_goto (off := (-47)) (tgt := 4) (by decide +kernel) (by decide) ?_
        exact ih v1 (v2 ||| 0) (v3 + 1) q5.2
      · refine g_seg0 (pc' := 42) (L' := [some (vR (kO 9) 0), some (vI v1), some (vI v2), some (vI v3)]) (st' := [vI ((1 : Int32) <<< (v3 &&& 31)), vI v2]) (u1 := q5.2) [(oC 1, 1), (oL 0 3, 1), (oP .ishl, 1)] (by decide +kernel) rfl rfl ?_
        refine g_goto (off := 4) (tgt := 46) (by decide +kernel) (by decide) ?_
        refine g_seg0 (pc' := 51) (L' := [some (vR (kO 9) 0), some (vI v1), some (vI (v2 ||| ((1 : Int32) <<< (v3 &&& 31)))), some (vI (v3 + 1))]) (st' := []) (u1 := q5.2) [(oP .ior, 1), (oL 3 2, 1), (oN 3 1, 3)] (by decide +kernel) rfl rfl ?_
        refine g_goto (off := (-47)) (tgt := 4) (by decide +kernel) (by decide) ?_
        exact ih v1 (v2 ||| ((1 : Int32) <<< (v3 &&& 31))) (v3 + 1) q5.2
def fX10_fansOf (v1 : Int32) (u : ab_S) : Option (Int32 × ab_S) :=
  fX10_fansOf_4 fu v1 0 0 u
theorem tX10_fansOf (v1 : Int32) (u : ab_S) : ab_G 1 9 cX10_fansOf (some .int) 5 0 [some (vR (kO 9) 0), some (vI v1), none, none] [] u wI (fX10_fansOf v1 u) := by
  rw [fX10_fansOf]
  refine g_seg0 (pc' := 4) (L' := [some (vR (kO 9) 0), some (vI v1), some (vI 0), some (vI 0)]) (st' := []) (u1 := u) [(oC 0, 1), (oL 3 2, 1), (oC 0, 1), (oL 3 3, 1)] (by decide +kernel) rfl rfl ?_
  exact tX10_fansOf_4 fu v1 0 0 u
theorem CX10_fansOf (v1 : Int32) (u : ab_S) : ab_C 1 yX10_fansOf cX10_fansOf 4 (some .int) 5 [vR (kO 9) 0, vI v1] u wI (fX10_fansOf v1 u) := ab_entry (by decide +kernel) rfl (by decide) (by decide) (fun _ => Nat.le_of_ble_eq_true rfl) rfl (tX10_fansOf v1 u)
def fX10_fans (v1 : Int32) (u : ab_S) : Option (Int32 × ab_S) :=
  (fX10_isGood v1 (sI u 0 0 0)).bind fun q1 =>
    bif decide (q1.1 = 0) then (
      some ((-1), q1.2))
    else (
      (fX10_fansOf v1 q1.2).bind fun q2 =>
        some (q2.1, q2.2))
theorem tX10_fans (v1 : Int32) (u : ab_S) : ab_G 1 9 cX10_fans (some .int) 6 0 [some (vR (kO 9) 0), some (vI v1)] [] u wI (fX10_fans v1 u) := by
  rw [fX10_fans]
  refine g_seg0 (pc' := 7) (L' := [some (vR (kO 9) 0), some (vI v1)]) (st' := [vI v1, vR (kO 9) 0]) (u1 := (sI u 0 0 0)) [(oL 2 0, 1), (oC 0, 1), (oP (.putfield 1), 3), (oL 2 0, 1), (oL 0 1, 1)] (by decide +kernel) rfl rfl ?_
  refine g_callV (k := 345) (pc2 := 10) (st := []) (CX10_isGood v1 (sI u 0 0 0)) miX10_isGood mvX10_isGood rfl (by decide) lk9_345 wI_ok (by decide +kernel) rfl (Nat.le_of_ble_eq_true rfl) (by decide) rfl (fun q1 hq1 => ?_)
  refine g_zeq (off := 11) (tgt := 21) (pc2 := 13) (by decide +kernel) (by decide) rfl ?_ ?_
  · refine g_seg0 (pc' := 22) (L' := [some (vR (kO 9) 0), some (vI v1)]) (st' := [vI (-1)]) (u1 := q1.2) [(oC (-1), 1)] (by decide +kernel) rfl rfl ?_
    exact g_iret (by decide +kernel) rfl
  · refine g_seg0 (pc' := 15) (L' := [some (vR (kO 9) 0), some (vI v1)]) (st' := [vI v1, vR (kO 9) 0]) (u1 := q1.2) [(oL 2 0, 1), (oL 0 1, 1)] (by decide +kernel) rfl rfl ?_
    refine g_callV (k := 379) (pc2 := 18) (st := []) (CX10_fansOf v1 q1.2) miX10_fansOf mvX10_fansOf rfl (by decide) lk9_379 wI_ok (by decide +kernel) rfl (Nat.le_of_ble_eq_true rfl) (by decide) rfl (fun q2 hq2 => ?_)
    refine g_goto (off := 4) (tgt := 22) (by decide +kernel) (by decide) ?_
    exact g_iret (by decide +kernel) rfl
theorem CX10_fans (v1 : Int32) (u : ab_S) : ab_C 1 yX10_fans cX10_fans 2 (some .int) 6 [vR (kO 9) 0, vI v1] u wI (fX10_fans v1 u) := ab_entry (by decide +kernel) rfl (by decide) (by decide) (fun _ => Nat.le_of_ble_eq_true rfl) rfl (tX10_fans v1 u)
def fX10_dull_9 : Nat → Int32 → Int32 → ab_S → Option (Int32 × ab_S)
  | 0, _, _, _ => none
  | n + 1, v1, v2, u =>
  (fX10_goods u).bind fun q1 =>
    bif decide (v2 < q1.1) then (
      (fX10_fansOf v2 q1.2).bind fun q2 =>
        bif decide (q2.1 = 0) then (
          (fX10_dull_9 n) (v1 ||| ((1 : Int32) <<< (v2 &&& 31))) (v2 + 1) q2.2)
        else (
          (fX10_dull_9 n) (v1 ||| 0) (v2 + 1) q2.2))
    else (
      some (v1, q1.2))
theorem tX10_dull_9 : ∀ (n : Nat) (v1 : Int32) (v2 : Int32) (u : ab_S), ab_G 1 9 cX10_dull (some .int) 6 9 [some (vR (kO 9) 0), some (vI v1), some (vI v2)] [] u wI (fX10_dull_9 n v1 v2 u) := by
  intro n
  induction n with
  | zero => intros; exact g_none
  | succ n ih =>
    intro v1 v2 u
    rw [fX10_dull_9]
    refine g_seg0 (pc' := 11) (L' := [some (vR (kO 9) 0), some (vI v1), some (vI v2)]) (st' := [vR (kO 9) 0, vI v2]) (u1 := u) [(oL 0 2, 1), (oL 2 0, 1)] (by decide +kernel) rfl rfl ?_
    refine g_callV (k := 291) (pc2 := 14) (st := [vI v2]) (CX10_goods u) miX10_goods mvX10_goods rfl (by decide) lk9_291 wI_ok (by decide +kernel) rfl (Nat.le_of_ble_eq_true rfl) (by decide) rfl (fun q1 hq1 => ?_)
    refine g_ige (off := 27) (tgt := 41) (pc2 := 17) (by decide +kernel) (by decide) rfl ?_ ?_
    · refine g_seg0 (pc' := 42) (L' := [some (vR (kO 9) 0), some (vI v1), some (vI v2)]) (st' := [vI v1]) (u1 := q1.2) [(oL 0 1, 1)] (by decide +kernel) rfl rfl ?_
      exact g_iret (by decide +kernel) rfl
    · refine g_seg0 (pc' := 20) (L' := [some (vR (kO 9) 0), some (vI v1), some (vI v2)]) (st' := [vI v2, vR (kO 9) 0, vI v1]) (u1 := q1.2) [(oL 0 1, 1), (oL 2 0, 1), (oL 0 2, 1)] (by decide +kernel) rfl rfl ?_
      refine g_callV (k := 379) (pc2 := 23) (st := [vI v1]) (CX10_fansOf v2 q1.2) miX10_fansOf mvX10_fansOf rfl (by decide) lk9_379 wI_ok (by decide +kernel) rfl (Nat.le_of_ble_eq_true rfl) (by decide) rfl (fun q2 hq2 => ?_)
      refine g_zne (off := 9) (tgt := 32) (pc2 := 26) (by decide +kernel) (by decide) rfl ?_ ?_
      · refine g_seg0 (pc' := 38) (L' := [some (vR (kO 9) 0), some (vI (v1 ||| 0)), some (vI (v2 + 1))]) (st' := []) (u1 := q2.2) [(oC 0, 1), (oP .ior, 1), (oL 3 1, 1), (oN 2 1, 3)] (by decide +kernel) rfl rfl ?_
        refine g_goto (off := (-29)) (tgt := 9) (by decide +kernel) (by decide) ?_
        exact ih (v1 ||| 0) (v2 + 1) q2.2
      · refine g_seg0 (pc' := 29) (L' := [some (vR (kO 9) 0), some (vI v1), some (vI v2)]) (st' := [vI ((1 : Int32) <<< (v2 &&& 31)), vI v1]) (u1 := q2.2) [(oC 1, 1), (oL 0 2, 1), (oP .ishl, 1)] (by decide +kernel) rfl rfl ?_
        refine g_goto (off := 4) (tgt := 33) (by decide +kernel) (by decide) ?_
        refine g_seg0 (pc' := 38) (L' := [some (vR (kO 9) 0), some (vI (v1 ||| ((1 : Int32) <<< (v2 &&& 31)))), some (vI (v2 + 1))]) (st' := []) (u1 := q2.2) [(oP .ior, 1), (oL 3 1, 1), (oN 2 1, 3)] (by decide +kernel) rfl rfl ?_
        refine g_goto (off := (-29)) (tgt := 9) (by decide +kernel) (by decide) ?_
        exact ih (v1 ||| ((1 : Int32) <<< (v2 &&& 31))) (v2 + 1) q2.2
def fX10_dull (u : ab_S) : Option (Int32 × ab_S) :=
  fX10_dull_9 fu 0 0 (sI u 0 0 0)
theorem tX10_dull (u : ab_S) : ab_G 1 9 cX10_dull (some .int) 6 0 [some (vR (kO 9) 0), none, none] [] u wI (fX10_dull u) := by
  rw [fX10_dull]
  refine g_seg0 (pc' := 9) (L' := [some (vR (kO 9) 0), some (vI 0), some (vI 0)]) (st' := []) (u1 := (sI u 0 0 0)) [(oL 2 0, 1), (oC 0, 1), (oP (.putfield 1), 3), (oC 0, 1), (oL 3 1, 1), (oC 0, 1), (oL 3 2, 1)] (by decide +kernel) rfl rfl ?_
  exact tX10_dull_9 fu 0 0 (sI u 0 0 0)
theorem CX10_dull (u : ab_S) : ab_C 1 yX10_dull cX10_dull 3 (some .int) 6 [vR (kO 9) 0] u wI (fX10_dull u) := ab_entry (by decide +kernel) rfl (by decide) (by decide) (fun _ => Nat.le_of_ble_eq_true rfl) rfl (tX10_dull u)
def fX10_least_87 (k11 : Int32 → Int32 → Int32 → ab_S → Option (Int32 × ab_S)) (v2 : Int32) (v3 : Int32) (v4 : Int32) (v5 : Int32) (s0 : Int32) (u : ab_S) : Option (Int32 × ab_S) :=
  bif decide (v5 = 0) then (
    k11 s0 v2 (v3 + 1) u)
  else (
    k11 s0 v4 (v3 + 1) u)
theorem tX10_least_87 (k11 : Int32 → Int32 → Int32 → ab_S → Option (Int32 × ab_S)) (hk11 : ∀ (v1 : Int32) (v2 : Int32) (v3 : Int32) (u : ab_S), ab_G 1 9 cX10_least (some .int) 4 11 [some (vR (kO 9) 0), some (vI v1), some (vI v2), some (vI v3), none, none] [] u wI (k11 v1 v2 v3 u)) (v2 : Int32) (v3 : Int32) (v4 : Int32) (v5 : Int32) (s0 : Int32) (u : ab_S) : ab_G 1 9 cX10_least (some .int) 4 87 [some (vR (kO 9) 0), none, some (vI v2), some (vI v3), some (vI v4), some (vI v5)] [vI s0] u wI (fX10_least_87 k11 v2 v3 v4 v5 s0 u) := by
  rw [fX10_least_87]
  refine g_seg0 (pc' := 90) (L' := [some (vR (kO 9) 0), some (vI s0), some (vI v2), some (vI v3), some (vI v4), some (vI v5)]) (st' := [vI v5]) (u1 := u) [(oL 3 1, 1), (oL 0 5, 2)] (by decide +kernel) rfl rfl ?_
  refine g_zeq (off := 8) (tgt := 98) (pc2 := 93) (by decide +kernel) (by decide) rfl ?_ ?_
  · refine g_seg0 (pc' := 103) (L' := [some (vR (kO 9) 0), some (vI s0), some (vI v2), some (vI (v3 + 1)), some (vI v4), some (vI v5)]) (st' := []) (u1 := u) [(oL 0 2, 1), (oL 3 2, 1), (oN 3 1, 3)] (by decide +kernel) rfl rfl ?_
    refine g_goto (off := (-92)) (tgt := 11) (by decide +kernel) (by decide) ?_
    exact g_jump [true, true, true, true, false, false] rfl (hk11 s0 v2 (v3 + 1) u)
  · refine g_seg0 (pc' := 95) (L' := [some (vR (kO 9) 0), some (vI s0), some (vI v2), some (vI v3), some (vI v4), some (vI v5)]) (st' := [vI v4]) (u1 := u) [(oL 0 4, 2)] (by decide +kernel) rfl rfl ?_
    refine g_goto (off := 4) (tgt := 99) (by decide +kernel) (by decide) ?_
    refine g_seg0 (pc' := 103) (L' := [some (vR (kO 9) 0), some (vI s0), some (vI v4), some (vI (v3 + 1)), some (vI v4), some (vI v5)]) (st' := []) (u1 := u) [(oL 3 2, 1), (oN 3 1, 3)] (by decide +kernel) rfl rfl ?_
    refine g_goto (off := (-92)) (tgt := 11) (by decide +kernel) (by decide) ?_
    exact g_jump [true, true, true, true, false, false] rfl (hk11 s0 v4 (v3 + 1) u)
def fX10_least_75 (k11 : Int32 → Int32 → Int32 → ab_S → Option (Int32 × ab_S)) (v1 : Int32) (v2 : Int32) (v3 : Int32) (v4 : Int32) (s0 : Int32) (u : ab_S) : Option (Int32 × ab_S) :=
  bif decide (s0 = 0) then (
    fX10_least_87 k11 v2 v3 v4 s0 v1 u)
  else (
    fX10_least_87 k11 v2 v3 v4 s0 v3 u)
theorem tX10_least_75 (k11 : Int32 → Int32 → Int32 → ab_S → Option (Int32 × ab_S)) (hk11 : ∀ (v1 : Int32) (v2 : Int32) (v3 : Int32) (u : ab_S), ab_G 1 9 cX10_least (some .int) 4 11 [some (vR (kO 9) 0), some (vI v1), some (vI v2), some (vI v3), none, none] [] u wI (k11 v1 v2 v3 u)) (v1 : Int32) (v2 : Int32) (v3 : Int32) (v4 : Int32) (s0 : Int32) (u : ab_S) : ab_G 1 9 cX10_least (some .int) 4 75 [some (vR (kO 9) 0), some (vI v1), some (vI v2), some (vI v3), some (vI v4), none] [vI s0] u wI (fX10_least_75 k11 v1 v2 v3 v4 s0 u) := by
  rw [fX10_least_75]
  refine g_seg0 (pc' := 79) (L' := [some (vR (kO 9) 0), some (vI v1), some (vI v2), some (vI v3), some (vI v4), some (vI s0)]) (st' := [vI s0]) (u1 := u) [(oL 3 5, 2), (oL 0 5, 2)] (by decide +kernel) rfl rfl ?_
  refine g_zeq (off := 7) (tgt := 86) (pc2 := 82) (by decide +kernel) (by decide) rfl ?_ ?_
  · refine g_seg0 (pc' := 87) (L' := [some (vR (kO 9) 0), some (vI v1), some (vI v2), some (vI v3), some (vI v4), some (vI s0)]) (st' := [vI v1]) (u1 := u) [(oL 0 1, 1)] (by decide +kernel) rfl rfl ?_
    exact g_jump [true, false, true, true, true, true] rfl (tX10_least_87 k11 hk11 v2 v3 v4 s0 v1 u)
  · refine g_seg0 (pc' := 83) (L' := [some (vR (kO 9) 0), some (vI v1), some (vI v2), some (vI v3), some (vI v4), some (vI s0)]) (st' := [vI v3]) (u1 := u) [(oL 0 3, 1)] (by decide +kernel) rfl rfl ?_
    refine g_goto (off := 4) (tgt := 87) (by decide +kernel) (by decide) ?_
    exact g_jump [true, false, true, true, true, true] rfl (tX10_least_87 k11 hk11 v2 v3 v4 s0 v3 u)
def fX10_least_32 (k11 : Int32 → Int32 → Int32 → ab_S → Option (Int32 × ab_S)) : Nat → Int32 → Int32 → Int32 → Int32 → Int32 → ab_S → Option (Int32 × ab_S)
  | 0, _, _, _, _, _, _ => none
  | n + 1, v1, v2, v3, v4, v5, u =>
  (fX10_persons u).bind fun q1 =>
    bif decide (v5 < q1.1) then (
      (fX10_fitOf 0 v5 v3 q1.2).bind fun q2 =>
        (fX10_least_32 k11 n) v1 v2 v3 (v4 + q2.1) (v5 + 1) q2.2)
    else (
      bif decide (v1 < 0) then (
        fX10_least_75 k11 v1 v2 v3 v4 1 q1.2)
      else (
        bif decide (v4 < v2) then (
          fX10_least_75 k11 v1 v2 v3 v4 1 q1.2)
        else (
          fX10_least_75 k11 v1 v2 v3 v4 0 q1.2)))
theorem tX10_least_32 (k11 : Int32 → Int32 → Int32 → ab_S → Option (Int32 × ab_S)) (hk11 : ∀ (v1 : Int32) (v2 : Int32) (v3 : Int32) (u : ab_S), ab_G 1 9 cX10_least (some .int) 4 11 [some (vR (kO 9) 0), some (vI v1), some (vI v2), some (vI v3), none, none] [] u wI (k11 v1 v2 v3 u)) : ∀ (n : Nat) (v1 : Int32) (v2 : Int32) (v3 : Int32) (v4 : Int32) (v5 : Int32) (u : ab_S), ab_G 1 9 cX10_least (some .int) 4 32 [some (vR (kO 9) 0), some (vI v1), some (vI v2), some (vI v3), some (vI v4), some (vI v5)] [] u wI (fX10_least_32 k11 n v1 v2 v3 v4 v5 u) := by
  intro n
  induction n with
  | zero => intros; exact g_none
  | succ n ih =>
    intro v1 v2 v3 v4 v5 u
    rw [fX10_least_32]
    refine g_seg0 (pc' := 35) (L' := [some (vR (kO 9) 0), some (vI v1), some (vI v2), some (vI v3), some (vI v4), some (vI v5)]) (st' := [vR (kO 9) 0, vI v5]) (u1 := u) [(oL 0 5, 2), (oL 2 0, 1)] (by decide +kernel) rfl rfl ?_
    refine g_callV (k := 275) (pc2 := 38) (st := [vI v5]) (CX10_persons u) miX10_persons mvX10_persons rfl (by decide) lk9_275 wI_ok (by decide +kernel) rfl (Nat.le_of_ble_eq_true rfl) (by decide) rfl (fun q1 hq1 => ?_)
    refine g_ige (off := 22) (tgt := 60) (pc2 := 41) (by decide +kernel) (by decide) rfl ?_ ?_
    · refine g_seg0 (pc' := 61) (L' := [some (vR (kO 9) 0), some (vI v1), some (vI v2), some (vI v3), some (vI v4), some (vI v5)]) (st' := [vI v1]) (u1 := q1.2) [(oL 0 1, 1)] (by decide +kernel) rfl rfl ?_
      refine g_zlt (off := 9) (tgt := 70) (pc2 := 64) (by decide +kernel) (by decide) rfl ?_ ?_
      · refine g_seg0 (pc' := 71) (L' := [some (vR (kO 9) 0), some (vI v1), some (vI v2), some (vI v3), some (vI v4), some (vI v5)]) (st' := [vI 1]) (u1 := q1.2) [(oC 1, 1)] (by decide +kernel) rfl rfl ?_
        refine g_goto (off := 4) (tgt := 75) (by decide +kernel) (by decide) ?_
        exact g_jump [true, true, true, true, true, false] rfl (tX10_least_75 k11 hk11 v1 v2 v3 v4 1 q1.2)
      · refine g_seg0 (pc' := 67) (L' := [some (vR (kO 9) 0), some (vI v1), some (vI v2), some (vI v3), some (vI v4), some (vI v5)]) (st' := [vI v2, vI v4]) (u1 := q1.2) [(oL 0 4, 2), (oL 0 2, 1)] (by decide +kernel) rfl rfl ?_
        refine g_ige (off := 7) (tgt := 74) (pc2 := 70) (by decide +kernel) (by decide) rfl ?_ ?_
        · refine g_seg0 (pc' := 75) (L' := [some (vR (kO 9) 0), some (vI v1), some (vI v2), some (vI v3), some (vI v4), some (vI v5)]) (st' := [vI 0]) (u1 := q1.2) [(oC 0, 1)] (by decide +kernel) rfl rfl ?_
          exact g_jump [true, true, true, true, true, false] rfl (tX10_least_75 k11 hk11 v1 v2 v3 v4 0 q1.2)
        · refine g_seg0 (pc' := 71) (L' := [some (vR (kO 9) 0), some (vI v1), some (vI v2), some (vI v3), some (vI v4), some (vI v5)]) (st' := [vI 1]) (u1 := q1.2) [(oC 1, 1)] (by decide +kernel) rfl rfl ?_
          refine g_goto (off := 4) (tgt := 75) (by decide +kernel) (by decide) ?_
          exact g_jump [true, true, true, true, true, false] rfl (tX10_least_75 k11 hk11 v1 v2 v3 v4 1 q1.2)
    · refine g_seg0 (pc' := 48) (L' := [some (vR (kO 9) 0), some (vI v1), some (vI v2), some (vI v3), some (vI v4), some (vI v5)]) (st' := [vI v3, vI v5, vI 0, vR (kO 9) 0, vI v4]) (u1 := q1.2) [(oL 0 4, 2), (oL 2 0, 1), (oC 0, 1), (oL 0 5, 2), (oL 0 3, 1)] (by decide +kernel) rfl rfl ?_
      refine g_callV (k := 327) (pc2 := 51) (st := [vI v4]) (CX10_fitOf 0 v5 v3 q1.2) miX10_fitOf mvX10_fitOf rfl (by decide) lk9_327 wI_ok (by decide +kernel) rfl (Nat.le_of_ble_eq_true rfl) (by decide) rfl (fun q2 hq2 => ?_)
      refine g_seg0 (pc' := 57) (L' := [some (vR (kO 9) 0), some (vI v1), some (vI v2), some (vI v3), some (vI (v4 + q2.1)), some (vI (v5 + 1))]) (st' := []) (u1 := q2.2) [(oP .iadd, 1), (oL 3 4, 2), (oN 5 1, 3)] (by decide +kernel) rfl rfl ?_
      refine g_goto (off := (-25)) (tgt := 32) (by decide +kernel) (by decide) ?_
      exact ih v1 v2 v3 (v4 + q2.1) (v5 + 1) q2.2
def fX10_least_11 : Nat → Int32 → Int32 → Int32 → ab_S → Option (Int32 × ab_S)
  | 0, _, _, _, _ => none
  | n + 1, v1, v2, v3, u =>
  (fX10_goods u).bind fun q3 =>
    bif decide (v3 < q3.1) then (
      (fX10_persons q3.2).bind fun q4 =>
        bif decide (q4.1 ≤ 0) then (
          some (v1, q4.2))
        else (
          fX10_least_32 (fX10_least_11 n) fu v1 v2 v3 0 0 q4.2))
    else (
      some (v1, q3.2))
theorem tX10_least_11 : ∀ (n : Nat) (v1 : Int32) (v2 : Int32) (v3 : Int32) (u : ab_S), ab_G 1 9 cX10_least (some .int) 4 11 [some (vR (kO 9) 0), some (vI v1), some (vI v2), some (vI v3), none, none] [] u wI (fX10_least_11 n v1 v2 v3 u) := by
  intro n
  induction n with
  | zero => intros; exact g_none
  | succ n ih =>
    intro v1 v2 v3 u
    rw [fX10_least_11]
    refine g_seg0 (pc' := 13) (L' := [some (vR (kO 9) 0), some (vI v1), some (vI v2), some (vI v3), none, none]) (st' := [vR (kO 9) 0, vI v3]) (u1 := u) [(oL 0 3, 1), (oL 2 0, 1)] (by decide +kernel) rfl rfl ?_
    refine g_callV (k := 291) (pc2 := 16) (st := [vI v3]) (CX10_goods u) miX10_goods mvX10_goods rfl (by decide) lk9_291 wI_ok (by decide +kernel) rfl (Nat.le_of_ble_eq_true rfl) (by decide) rfl (fun q3 hq3 => ?_)
    refine g_ige (off := 90) (tgt := 106) (pc2 := 19) (by decide +kernel) (by decide) rfl ?_ ?_
    · refine g_seg0 (pc' := 107) (L' := [some (vR (kO 9) 0), some (vI v1), some (vI v2), some (vI v3), none, none]) (st' := [vI v1]) (u1 := q3.2) [(oL 0 1, 1)] (by decide +kernel) rfl rfl ?_
      exact g_iret (by decide +kernel) rfl
    · refine g_seg0 (pc' := 20) (L' := [some (vR (kO 9) 0), some (vI v1), some (vI v2), some (vI v3), none, none]) (st' := [vR (kO 9) 0]) (u1 := q3.2) [(oL 2 0, 1)] (by decide +kernel) rfl rfl ?_
      refine g_callV (k := 275) (pc2 := 23) (st := []) (CX10_persons q3.2) miX10_persons mvX10_persons rfl (by decide) lk9_275 wI_ok (by decide +kernel) rfl (Nat.le_of_ble_eq_true rfl) (by decide) rfl (fun q4 hq4 => ?_)
      refine g_zle (off := 83) (tgt := 106) (pc2 := 26) (by decide +kernel) (by decide) rfl ?_ ?_
      · refine g_seg0 (pc' := 107) (L' := [some (vR (kO 9) 0), some (vI v1), some (vI v2), some (vI v3), none, none]) (st' := [vI v1]) (u1 := q4.2) [(oL 0 1, 1)] (by decide +kernel) rfl rfl ?_
        exact g_iret (by decide +kernel) rfl
      · refine g_seg0 (pc' := 32) (L' := [some (vR (kO 9) 0), some (vI v1), some (vI v2), some (vI v3), some (vI 0), some (vI 0)]) (st' := []) (u1 := q4.2) [(oC 0, 1), (oL 3 4, 2), (oC 0, 1), (oL 3 5, 2)] (by decide +kernel) rfl rfl ?_
        exact tX10_least_32 (fX10_least_11 n) ih fu v1 v2 v3 0 0 q4.2
def fX10_least (u : ab_S) : Option (Int32 × ab_S) :=
  fX10_least_11 fu (-1) 0 0 (sI u 0 0 0)
theorem tX10_least (u : ab_S) : ab_G 1 9 cX10_least (some .int) 4 0 [some (vR (kO 9) 0), none, none, none, none, none] [] u wI (fX10_least u) := by
  rw [fX10_least]
  refine g_seg0 (pc' := 11) (L' := [some (vR (kO 9) 0), some (vI (-1)), some (vI 0), some (vI 0), none, none]) (st' := []) (u1 := (sI u 0 0 0)) [(oL 2 0, 1), (oC 0, 1), (oP (.putfield 1), 3), (oC (-1), 1), (oL 3 1, 1), (oC 0, 1), (oL 3 2, 1), (oC 0, 1), (oL 3 3, 1)] (by decide +kernel) rfl rfl ?_
  exact tX10_least_11 fu (-1) 0 0 (sI u 0 0 0)
theorem CX10_least (u : ab_S) : ab_C 1 yX10_least cX10_least 6 (some .int) 4 [vR (kO 9) 0] u wI (fX10_least u) := ab_entry (by decide +kernel) rfl (by decide) (by decide) (fun _ => Nat.le_of_ble_eq_true rfl) rfl (tX10_least u)
def fX10_ownerIn_2 : Nat → Int32 → Int32 → ab_S → Option (Int32 × ab_S)
  | 0, _, _, _ => none
  | n + 1, v1, v2, u =>
  ab_gd [ab_ix v2 6] (
    bif decide ((u.1 18 (nc v2)) = v1) then (
      some (v2, u))
    else (
      (fX10_ownerIn_2 n) v1 (v2 + 1) u))
theorem tX10_ownerIn_2 : ∀ (n : Nat) (v1 : Int32) (v2 : Int32) (u : ab_S), ab_G 1 9 cX10_ownerIn (some .int) 0 2 [some (vR (kO 9) 0), some (vI v1), some (vI v2)] [] u wI (fX10_ownerIn_2 n v1 v2 u) := by
  intro n
  induction n with
  | zero => intros; exact g_none
  | succ n ih =>
    intro v1 v2 u
    rw [fX10_ownerIn_2]
    refine g_seg (pc' := 9) (L' := [some (vR (kO 9) 0), some (vI v1), some (vI v2)]) (st' := [vI v1, vI (u.1 18 (nc v2))]) (u1 := u) [(oL 2 0, 1), (oP (.getfield 120), 3), (oL 0 2, 1), (oP .iaload, 1), (oL 0 1, 1)] (by decide +kernel) rfl rfl ?_
    refine g_ieq (off := 9) (tgt := 18) (pc2 := 12) (by decide +kernel) (by decide) rfl ?_ ?_
    · refine g_seg0 (pc' := 19) (L' := [some (vR (kO 9) 0), some (vI v1), some (vI v2)]) (st' := [vI v2]) (u1 := u) [(oL 0 2, 1)] (by decide +kernel) rfl rfl ?_
      exact g_iret (by decide +kernel) rfl
    · refine g_seg0 (pc' := 15) (L' := [some (vR (kO 9) 0), some (vI v1), some (vI (v2 + 1))]) (st' := []) (u1 := u) [(oN 2 1, 3)] (by decide +kernel) rfl rfl ?_
      refine g_goto (off := (-13)) (tgt := 2) (by decide +kernel) (by decide) ?_
      exact ih v1 (v2 + 1) u
def fX10_ownerIn (v1 : Int32) (u : ab_S) : Option (Int32 × ab_S) :=
  fX10_ownerIn_2 fu v1 0 u
theorem tX10_ownerIn (v1 : Int32) (u : ab_S) : ab_G 1 9 cX10_ownerIn (some .int) 0 0 [some (vR (kO 9) 0), some (vI v1), none] [] u wI (fX10_ownerIn v1 u) := by
  rw [fX10_ownerIn]
  refine g_seg0 (pc' := 2) (L' := [some (vR (kO 9) 0), some (vI v1), some (vI 0)]) (st' := []) (u1 := u) [(oC 0, 1), (oL 3 2, 1)] (by decide +kernel) rfl rfl ?_
  exact tX10_ownerIn_2 fu v1 0 u
theorem CX10_ownerIn (v1 : Int32) (u : ab_S) : ab_C 1 yX10_ownerIn cX10_ownerIn 3 (some .int) 0 [vR (kO 9) 0, vI v1] u wI (fX10_ownerIn v1 u) := ab_entry (by decide +kernel) rfl (by decide) (by decide) (fun _ => Nat.le_of_ble_eq_true rfl) rfl (tX10_ownerIn v1 u)
