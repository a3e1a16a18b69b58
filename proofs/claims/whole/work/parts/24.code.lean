/-! methods, printed by program out of the listing: function, walk, contract -/
def fX5_passQuarter_50 (o0 : Nat) (o1 : Nat) : Nat → Int32 → Int32 → ab_S → Option (Int32 × ab_S)
  | 0, _, _, _ => none
  | n + 1, v3, v4, u =>
  bif decide (v4 < (u.1 o1 0)) then (
    (fX5_shillingsOf o0 v4 u).bind fun q1 =>
      (fX9_put 6 (o0 + 2) v4 (if (q1.1 + 1) < 50 then (q1.1 + 1) else 50) q1.2).bind fun q2 =>
        (fX5_passQuarter_50 o0 o1 n) v3 (v4 + 1) q2.2)
  else (
    some (v3, (sI u o0 4 ((u.1 o0 4) + 1))))
theorem tX5_passQuarter_50 (o0 : Nat) (o1 : Nat) : ∀ (n : Nat) (v3 : Int32) (v4 : Int32) (u : ab_S), ab_G 0 5 cX5_passQuarter (some .int) 4 50 [some (vR (kO 5) o0), some (vR (kO 2) o1), none, some (vI v3), some (vI v4)] [] u wI (fX5_passQuarter_50 o0 o1 n v3 v4 u) := by
  intro n
  induction n with
  | zero => intros; exact g_none
  | succ n ih =>
    intro v3 v4 u
    rw [fX5_passQuarter_50]
    refine g_seg0 (pc' := 56) (L' := [some (vR (kO 5) o0), some (vR (kO 2) o1), none, some (vI v3), some (vI v4)]) (st' := [vI (u.1 o1 0), vI v4]) (u1 := u) [(oL 0 4, 2), (oL 2 1, 1), (oP (.getfield 25), 3)] (by decide +kernel) rfl rfl ?_
    refine g_ige (off := 31) (tgt := 87) (pc2 := 59) (by decide +kernel) (by decide) rfl ?_ ?_
    · refine g_seg0 (pc' := 98) (L' := [some (vR (kO 5) o0), some (vR (kO 2) o1), none, some (vI v3), some (vI v4)]) (st' := [vI v3]) (u1 := (sI u o0 4 ((u.1 o0 4) + 1))) [(oL 2 0, 1), (oP .dup, 1), (oP (.getfield 45), 3), (oC 1, 1), (oP .iadd, 1), (oP (.putfield 45), 3), (oL 0 3, 1)] (by decide +kernel) rfl rfl ?_
      exact g_iret (by decide +kernel) rfl
    · refine g_seg0 (pc' := 70) (L' := [some (vR (kO 5) o0), some (vR (kO 2) o1), none, some (vI v3), some (vI v4)]) (st' := [vI v4, vR (kO 5) o0, vI 50, vI v4, vR (kA 0 6) (o0 + 2)]) (u1 := u) [(oL 2 0, 1), (oP (.getfield 15), 3), (oL 0 4, 2), (oC 50, 2), (oL 2 0, 1), (oL 0 4, 2)] (by decide +kernel) rfl rfl ?_
      refine g_callV (k := 90) (pc2 := 73) (st := [vI 50, vI v4, vR (kA 0 6) (o0 + 2)]) (CX5_shillingsOf o0 v4 u) miX5_shillingsOf mvX5_shillingsOf rfl (by decide) lk5_90 wI_ok (by decide +kernel) rfl (Nat.le_of_ble_eq_true rfl) (by decide) rfl (fun q1 hq1 => ?_)
      refine g_seg0 (pc' := 75) (L' := [some (vR (kO 5) o0), some (vR (kO 2) o1), none, some (vI v3), some (vI v4)]) (st' := [vI (q1.1 + 1), vI 50, vI v4, vR (kA 0 6) (o0 + 2)]) (u1 := q1.2) [(oC 1, 1), (oP .iadd, 1)] (by decide +kernel) rfl rfl ?_
      refine g_min (k := 123) (pc2 := 78) (st := [vI v4, vR (kA 0 6) (o0 + 2)]) lm5_123 (by decide +kernel) (Nat.le_of_ble_eq_true rfl) (by decide) rfl ?_
      refine g_callS (k := 21) (pc2 := 81) (st := []) (CX9_put 6 (o0 + 2) v4 (if (q1.1 + 1) < 50 then (q1.1 + 1) else 50) q1.2) miX9_put msX9_put lk5_21 wV_ok (by decide +kernel) rfl (Nat.le_of_ble_eq_true rfl) (by decide) rfl (fun q2 hq2 => ?_)
      refine g_seg0 (pc' := 84) (L' := [some (vR (kO 5) o0), some (vR (kO 2) o1), none, some (vI v3), some (vI (v4 + 1))]) (st' := []) (u1 := q2.2) [(oN 4 1, 3)] (by decide +kernel) rfl rfl ?_
      refine g_goto (off := (-34)) (tgt := 50) (by decide +kernel) (by decide) ?_
      exact ih v3 (v4 + 1) q2.2
def fX5_passQuarter_15 (o0 : Nat) (o1 : Nat) : Nat → Int32 → Int32 → Int32 → ab_S → Option (Int32 × ab_S)
  | 0, _, _, _, _ => none
  | n + 1, v2, v3, v4, u =>
  bif decide (v4 < (u.1 o1 1)) then (
    bif decide (((v2 >>> (v4 &&& 31)) &&& 1) = 1) then (
      (fX5_settle o0 o1 v4 u).bind fun q3 =>
        (fX5_passQuarter_15 o0 o1 n) v2 v3 (v4 + 1) q3.2)
    else (
      (fX5_passQuarter_15 o0 o1 n) v2 v3 (v4 + 1) u))
  else (
    fX5_passQuarter_50 o0 o1 fu v3 0 u)
theorem tX5_passQuarter_15 (o0 : Nat) (o1 : Nat) : ∀ (n : Nat) (v2 : Int32) (v3 : Int32) (v4 : Int32) (u : ab_S), ab_G 0 5 cX5_passQuarter (some .int) 4 15 [some (vR (kO 5) o0), some (vR (kO 2) o1), some (vI v2), some (vI v3), some (vI v4)] [] u wI (fX5_passQuarter_15 o0 o1 n v2 v3 v4 u) := by
  intro n
  induction n with
  | zero => intros; exact g_none
  | succ n ih =>
    intro v2 v3 v4 u
    rw [fX5_passQuarter_15]
    refine g_seg0 (pc' := 21) (L' := [some (vR (kO 5) o0), some (vR (kO 2) o1), some (vI v2), some (vI v3), some (vI v4)]) (st' := [vI (u.1 o1 1), vI v4]) (u1 := u) [(oL 0 4, 2), (oL 2 1, 1), (oP (.getfield 64), 3)] (by decide +kernel) rfl rfl ?_
    refine g_ige (off := 26) (tgt := 47) (pc2 := 24) (by decide +kernel) (by decide) rfl ?_ ?_
    · refine g_seg0 (pc' := 50) (L' := [some (vR (kO 5) o0), some (vR (kO 2) o1), some (vI v2), some (vI v3), some (vI 0)]) (st' := []) (u1 := u) [(oC 0, 1), (oL 3 4, 2)] (by decide +kernel) rfl rfl ?_
      exact g_jump [true, true, false, true, true] rfl (tX5_passQuarter_50 o0 o1 fu v3 0 u)
    · refine g_seg0 (pc' := 31) (L' := [some (vR (kO 5) o0), some (vR (kO 2) o1), some (vI v2), some (vI v3), some (vI v4)]) (st' := [vI 1, vI ((v2 >>> (v4 &&& 31)) &&& 1)]) (u1 := u) [(oL 0 2, 1), (oL 0 4, 2), (oP .ishr, 1), (oC 1, 1), (oP .iand, 1), (oC 1, 1)] (by decide +kernel) rfl rfl ?_
      refine g_ine (off := 10) (tgt := 41) (pc2 := 34) (by decide +kernel) (by decide) rfl ?_ ?_
      · refine g_seg0 (pc' := 44) (L' := [some (vR (kO 5) o0), some (vR (kO 2) o1), some (vI v2), some (vI v3), some (vI (v4 + 1))]) (st' := []) (u1 := u) [(oN 4 1, 3)] (by decide +kernel) rfl rfl ?_
        refine g_goto (off := (-29)) (tgt := 15) (by decide +kernel) (by decide) ?_
        exact ih v2 v3 (v4 + 1) u
      · refine g_seg0 (pc' := 38) (L' := [some (vR (kO 5) o0), some (vR (kO 2) o1), some (vI v2), some (vI v3), some (vI v4)]) (st' := [vI v4, vR (kO 2) o1, vR (kO 5) o0]) (u1 := u) [(oL 2 0, 1), (oL 2 1, 1), (oL 0 4, 2)] (by decide +kernel) rfl rfl ?_
        refine g_callV (k := 119) (pc2 := 41) (st := []) (CX5_settle o0 o1 v4 u) miX5_settle mvX5_settle rfl (by decide) lk5_119 wV_ok (by decide +kernel) rfl (Nat.le_of_ble_eq_true rfl) (by decide) rfl (fun q3 hq3 => ?_)
        refine g_seg0 (pc' := 44) (L' := [some (vR (kO 5) o0), some (vR (kO 2) o1), some (vI v2), some (vI v3), some (vI (v4 + 1))]) (st' := []) (u1 := q3.2) [(oN 4 1, 3)] (by decide +kernel) rfl rfl ?_
        refine g_goto (off := (-29)) (tgt := 15) (by decide +kernel) (by decide) ?_
        exact ih v2 v3 (v4 + 1) q3.2
def fX5_passQuarter (o0 : Nat) (o1 : Nat) (u : ab_S) : Option (Int32 × ab_S) :=
  (fX5_heldBits o0 o1 u).bind fun q4 =>
    (fX5_raffle o0 o1 q4.2).bind fun q5 =>
      fX5_passQuarter_15 o0 o1 fu q4.1 q5.1 0 q5.2
theorem tX5_passQuarter (o0 : Nat) (o1 : Nat) (u : ab_S) : ab_G 0 5 cX5_passQuarter (some .int) 4 0 [some (vR (kO 5) o0), some (vR (kO 2) o1), none, none, none] [] u wI (fX5_passQuarter o0 o1 u) := by
  rw [fX5_passQuarter]
  refine g_seg0 (pc' := 2) (L' := [some (vR (kO 5) o0), some (vR (kO 2) o1), none, none, none]) (st' := [vR (kO 2) o1, vR (kO 5) o0]) (u1 := u) [(oL 2 0, 1), (oL 2 1, 1)] (by decide +kernel) rfl rfl ?_
  refine g_callV (k := 112) (pc2 := 5) (st := []) (CX5_heldBits o0 o1 u) miX5_heldBits mvX5_heldBits rfl (by decide) lk5_112 wI_ok (by decide +kernel) rfl (Nat.le_of_ble_eq_true rfl) (by decide) rfl (fun q4 hq4 => ?_)
  refine g_seg0 (pc' := 8) (L' := [some (vR (kO 5) o0), some (vR (kO 2) o1), some (vI (q4.1)), none, none]) (st' := [vR (kO 2) o1, vR (kO 5) o0]) (u1 := q4.2) [(oL 3 2, 1), (oL 2 0, 1), (oL 2 1, 1)] (by decide +kernel) rfl rfl ?_
  refine g_callV (k := 116) (pc2 := 11) (st := []) (CX5_raffle o0 o1 q4.2) miX5_raffle mvX5_raffle rfl (by decide) lk5_116 wI_ok (by decide +kernel) rfl (Nat.le_of_ble_eq_true rfl) (by decide) rfl (fun q5 hq5 => ?_)
  refine g_seg0 (pc' := 15) (L' := [some (vR (kO 5) o0), some (vR (kO 2) o1), some (vI (q4.1)), some (vI (q5.1)), some (vI 0)]) (st' := []) (u1 := q5.2) [(oL 3 3, 1), (oC 0, 1), (oL 3 4, 2)] (by decide +kernel) rfl rfl ?_
  exact tX5_passQuarter_15 o0 o1 fu q4.1 q5.1 0 q5.2
theorem CX5_passQuarter (o0 : Nat) (o1 : Nat) (u : ab_S) : ab_C 0 yX5_passQuarter cX5_passQuarter 5 (some .int) 4 [vR (kO 5) o0, vR (kO 2) o1] u wI (fX5_passQuarter o0 o1 u) := ab_entry (by decide +kernel) rfl (by decide) (by decide) (fun _ => Nat.le_of_ble_eq_true rfl) rfl (tX5_passQuarter o0 o1 u)
def fX9_quarter (u : ab_S) : Option (Int32 × ab_S) :=
  (fX9_remember u).bind fun q1 =>
    (fX5_passQuarter 38 (q1.2.2.2 0) q1.2).bind fun q2 =>
      some (q2.1, q2.2)
theorem tX9_quarter (u : ab_S) : ab_G 0 8 cX9_quarter (some .int) 5 0 [some (vR (kO 8) 0)] [] u wI (fX9_quarter u) := by
  rw [fX9_quarter]
  refine g_seg0 (pc' := 1) (L' := [some (vR (kO 8) 0)]) (st' := [vR (kO 8) 0]) (u1 := u) [(oL 2 0, 1)] (by decide +kernel) rfl rfl ?_
  refine g_callV (k := 156) (pc2 := 4) (st := []) (CX9_remember u) miX9_remember mvX9_remember rfl (by decide) lk8_156 wV_ok (by decide +kernel) rfl (Nat.le_of_ble_eq_true rfl) (by decide) rfl (fun q1 hq1 => ?_)
  refine g_seg0 (pc' := 12) (L' := [some (vR (kO 8) 0)]) (st' := [vR (kO 2) (q1.2.2.2 0), vR (kO 5) 38]) (u1 := q1.2) [(oL 2 0, 1), (oP (.getfield 39), 3), (oL 2 0, 1), (oP (.getfield 19), 3)] (by decide +kernel) rfl rfl ?_
  refine g_callV (k := 174) (pc2 := 15) (st := []) (CX5_passQuarter 38 (q1.2.2.2 0) q1.2) miX5_passQuarter mvX5_passQuarter rfl (by decide) lk8_174 wI_ok (by decide +kernel) rfl (Nat.le_of_ble_eq_true rfl) (by decide) rfl (fun q2 hq2 => ?_)
  exact g_iret (by decide +kernel) rfl
theorem CX9_quarter (u : ab_S) : ab_C 0 yX9_quarter cX9_quarter 1 (some .int) 5 [vR (kO 8) 0] u wI (fX9_quarter u) := ab_entry (by decide +kernel) rfl (by decide) (by decide) (fun _ => Nat.le_of_ble_eq_true rfl) rfl (tX9_quarter u)
def fX9_undo_76 (s1 : Int32) (u : ab_S) : Option (Int32 × ab_S) :=
  ab_gd [ab_b1 1] (some (1, (sI (sI u 0 9 s1) 0 10 (((sI u 0 9 s1).1 0 10) - 1))))
theorem tX9_undo_76 (s1 : Int32) (u : ab_S) : ab_G 0 8 cX9_undo (some .boolean) 2 76 [some (vR (kO 8) 0), none] [vI s1, vR (kO 8) 0] u wI (fX9_undo_76 s1 u) := by
  rw [fX9_undo_76]
  refine g_seg0 (pc' := 90) (L' := [some (vR (kO 8) 0), none]) (st' := [vI 1]) (u1 := (sI (sI u 0 9 s1) 0 10 (((sI u 0 9 s1).1 0 10) - 1))) [(oP (.putfield 178), 3), (oL 2 0, 1), (oP .dup, 1), (oP (.getfield 110), 3), (oC 1, 1), (oP .isub, 1), (oP (.putfield 110), 3), (oC 1, 1)] (by decide +kernel) rfl rfl ?_
  exact g_zret (by decide +kernel) rfl
def fX9_undo (u : ab_S) : Option (Int32 × ab_S) :=
  bif decide ((u.1 0 10) ≤ 0) then (
    ab_gd [ab_b1 0] (some (0, u)))
  else (
    bif decide ((u.1 0 9) < 0) then (
      ab_gd [ab_b1 0] (some (0, u)))
    else (
      bif decide ((u.1 0 9) < 16) then (
        ab_gd [ab_ix (u.1 0 9) 16] (
          (fX5_copyOf 38 (51 + 4 * nc (u.1 0 9)) u).bind fun q1 =>
            bif decide ((q1.2.1 0 9) ≤ 0) then (
              fX9_undo_76 (16 - 1) q1.2)
            else (
              fX9_undo_76 ((q1.2.1 0 9) - 1) q1.2)))
      else (
        ab_gd [ab_b1 0] (some (0, u)))))
theorem tX9_undo (u : ab_S) : ab_G 0 8 cX9_undo (some .boolean) 2 0 [some (vR (kO 8) 0), none] [] u wI (fX9_undo u) := by
  rw [fX9_undo]
  refine g_seg0 (pc' := 4) (L' := [some (vR (kO 8) 0), none]) (st' := [vI (u.1 0 10)]) (u1 := u) [(oL 2 0, 1), (oP (.getfield 110), 3)] (by decide +kernel) rfl rfl ?_
  refine g_zle (off := 22) (tgt := 26) (pc2 := 7) (by decide +kernel) (by decide) rfl ?_ ?_
  · refine g_seg0 (pc' := 27) (L' := [some (vR (kO 8) 0), none]) (st' := [vI 0]) (u1 := u) [(oC 0, 1)] (by decide +kernel) rfl rfl ?_
    exact g_zret (by decide +kernel) rfl
  · refine g_seg0 (pc' := 11) (L' := [some (vR (kO 8) 0), none]) (st' := [vI (u.1 0 9)]) (u1 := u) [(oL 2 0, 1), (oP (.getfield 178), 3)] (by decide +kernel) rfl rfl ?_
    refine g_zlt (off := 15) (tgt := 26) (pc2 := 14) (by decide +kernel) (by decide) rfl ?_ ?_
    · refine g_seg0 (pc' := 27) (L' := [some (vR (kO 8) 0), none]) (st' := [vI 0]) (u1 := u) [(oC 0, 1)] (by decide +kernel) rfl rfl ?_
      exact g_zret (by decide +kernel) rfl
    · refine g_seg0 (pc' := 23) (L' := [some (vR (kO 8) 0), none]) (st' := [vI 16, vI (u.1 0 9)]) (u1 := u) [(oL 2 0, 1), (oP (.getfield 178), 3), (oL 2 0, 1), (oP (.getfield 53), 3), (oP .arraylength, 1)] (by decide +kernel) rfl rfl ?_
      refine g_ilt (off := 5) (tgt := 28) (pc2 := 26) (by decide +kernel) (by decide) rfl ?_ ?_
      · refine g_seg (pc' := 39) (L' := [some (vR (kO 8) 0), some (vR (kO 5) (51 + 4 * nc (u.1 0 9)))]) (st' := [vR (kO 5) (51 + 4 * nc (u.1 0 9))]) (u1 := u) [(oL 2 0, 1), (oP (.getfield 53), 3), (oL 2 0, 1), (oP (.getfield 178), 3), (oP .aaload, 1), (oL 5 1, 1), (oL 2 1, 1)] (by decide +kernel) rfl rfl ?_
        refine g_ifnonnull (off := 5) (tgt := 44) (by decide +kernel) (by decide) ?_
        refine g_seg0 (pc' := 49) (L' := [some (vR (kO 8) 0), some (vR (kO 5) (51 + 4 * nc (u.1 0 9)))]) (st' := [vR (kO 5) (51 + 4 * nc (u.1 0 9)), vR (kO 5) 38]) (u1 := u) [(oL 2 0, 1), (oP (.getfield 39), 3), (oL 2 1, 1)] (by decide +kernel) rfl rfl ?_
        refine g_callV (k := 181) (pc2 := 52) (st := []) (CX5_copyOf 38 (51 + 4 * nc (u.1 0 9)) u) miX5_copyOf mvX5_copyOf rfl (by decide) lk8_181 wV_ok (by decide +kernel) rfl (Nat.le_of_ble_eq_true rfl) (by decide) rfl (fun q1 hq1 => ?_)
        refine g_seg0 (pc' := 57) (L' := [some (vR (kO 8) 0), some (vR (kO 5) (51 + 4 * nc (u.1 0 9)))]) (st' := [vI (q1.2.1 0 9), vR (kO 8) 0]) (u1 := q1.2) [(oL 2 0, 1), (oL 2 0, 1), (oP (.getfield 178), 3)] (by decide +kernel) rfl rfl ?_
        refine g_zle (off := 12) (tgt := 69) (pc2 := 60) (by decide +kernel) (by decide) rfl ?_ ?_
        · refine g_seg0 (pc' := 76) (L' := [some (vR (kO 8) 0), some (vR (kO 5) (51 + 4 * nc (u.1 0 9)))]) (st' := [vI (16 - 1), vR (kO 8) 0]) (u1 := q1.2) [(oL 2 0, 1), (oP (.getfield 53), 3), (oP .arraylength, 1), (oC 1, 1), (oP .isub, 1)] (by decide +kernel) rfl rfl ?_
          exact g_jump [true, false] rfl (tX9_undo_76 (16 - 1) q1.2)
        · refine g_seg0 (pc' := 66) (L' := [some (vR (kO 8) 0), some (vR (kO 5) (51 + 4 * nc (u.1 0 9)))]) (st' := [vI ((q1.2.1 0 9) - 1), vR (kO 8) 0]) (u1 := q1.2) [(oL 2 0, 1), (oP (.getfield 178), 3), (oC 1, 1), (oP .isub, 1)] (by decide +kernel) rfl rfl ?_
          refine g_goto (off := 10) (tgt := 76) (by decide +kernel) (by decide) ?_
          exact g_jump [true, false] rfl (tX9_undo_76 ((q1.2.1 0 9) - 1) q1.2)
      · refine g_seg0 (pc' := 27) (L' := [some (vR (kO 8) 0), none]) (st' := [vI 0]) (u1 := u) [(oC 0, 1)] (by decide +kernel) rfl rfl ?_
        exact g_zret (by decide +kernel) rfl
theorem CX9_undo (u : ab_S) : ab_C 0 yX9_undo cX9_undo 2 (some .boolean) 2 [vR (kO 8) 0] u wI (fX9_undo u) := ab_entry (by decide +kernel) rfl (by decide) (by decide) (fun _ => Nat.le_of_ble_eq_true rfl) rfl (tX9_undo u)
def fX5_rightBits_4 (o0 : Nat) (o1 : Nat) : Nat → Int32 → Int32 → ab_S → Option (Int32 × ab_S)
  | 0, _, _, _ => none
  | n + 1, v2, v3, u =>
  bif decide (v3 < (u.1 o1 1)) then (
    (fX5_holderOf o0 v3 u).bind fun q1 =>
      (fX2_ownerOf o1 v3 q1.2).bind fun q2 =>
        bif decide (q1.1 = q2.1) then (
          (fX5_rightBits_4 o0 o1 n) (v2 ||| ((1 : Int32) <<< (v3 &&& 31))) (v3 + 1) q2.2)
        else (
          (fX5_rightBits_4 o0 o1 n) v2 (v3 + 1) q2.2))
  else (
    some (v2, u))
theorem tX5_rightBits_4 (o0 : Nat) (o1 : Nat) : ∀ (n : Nat) (v2 : Int32) (v3 : Int32) (u : ab_S), ab_G 0 5 cX5_rightBits (some .int) 2 4 [some (vR (kO 5) o0), some (vR (kO 2) o1), some (vI v2), some (vI v3)] [] u wI (fX5_rightBits_4 o0 o1 n v2 v3 u) := by
  intro n
  induction n with
  | zero => intros; exact g_none
  | succ n ih =>
    intro v2 v3 u
    rw [fX5_rightBits_4]
    refine g_seg0 (pc' := 9) (L' := [some (vR (kO 5) o0), some (vR (kO 2) o1), some (vI v2), some (vI v3)]) (st' := [vI (u.1 o1 1), vI v3]) (u1 := u) [(oL 0 3, 1), (oL 2 1, 1), (oP (.getfield 64), 3)] (by decide +kernel) rfl rfl ?_
    refine g_ige (off := 28) (tgt := 37) (pc2 := 12) (by decide +kernel) (by decide) rfl ?_ ?_
    · refine g_seg0 (pc' := 38) (L' := [some (vR (kO 5) o0), some (vR (kO 2) o1), some (vI v2), some (vI v3)]) (st' := [vI v2]) (u1 := u) [(oL 0 2, 1)] (by decide +kernel) rfl rfl ?_
      exact g_iret (by decide +kernel) rfl
    · refine g_seg0 (pc' := 14) (L' := [some (vR (kO 5) o0), some (vR (kO 2) o1), some (vI v2), some (vI v3)]) (st' := [vI v3, vR (kO 5) o0]) (u1 := u) [(oL 2 0, 1), (oL 0 3, 1)] (by decide +kernel) rfl rfl ?_
      refine g_callV (k := 67) (pc2 := 17) (st := []) (CX5_holderOf o0 v3 u) miX5_holderOf mvX5_holderOf rfl (by decide) lk5_67 wI_ok (by decide +kernel) rfl (Nat.le_of_ble_eq_true rfl) (by decide) rfl (fun q1 hq1 => ?_)
      refine g_seg0 (pc' := 19) (L' := [some (vR (kO 5) o0), some (vR (kO 2) o1), some (vI v2), some (vI v3)]) (st' := [vI v3, vR (kO 2) o1, vI (q1.1)]) (u1 := q1.2) [(oL 2 1, 1), (oL 0 3, 1)] (by decide +kernel) rfl rfl ?_
      refine g_callV (k := 70) (pc2 := 22) (st := [vI (q1.1)]) (CX2_ownerOf o1 v3 q1.2) miX2_ownerOf mvX2_ownerOf rfl (by decide) lk5_70 wI_ok (by decide +kernel) rfl (Nat.le_of_ble_eq_true rfl) (by decide) rfl (fun q2 hq2 => ?_)
      refine g_ine (off := 9) (tgt := 31) (pc2 := 25) (by decide +kernel) (by decide) rfl ?_ ?_
      · refine g_seg0 (pc' := 34) (L' := [some (vR (kO 5) o0), some (vR (kO 2) o1), some (vI v2), some (vI (v3 + 1))]) (st' := []) (u1 := q2.2) [(oN 3 1, 3)] (by decide +kernel) rfl rfl ?_
        refine g_goto (off := (-30)) (tgt := 4) (by decide +kernel) (by decide) ?_
        exact ih v2 (v3 + 1) q2.2
      · refine g_seg0 (pc' := 34) (L' := [some (vR (kO 5) o0), some (vR (kO 2) o1), some (vI (v2 ||| ((1 : Int32) <<< (v3 &&& 31)))), some (vI (v3 + 1))]) (st' := []) (u1 := q2.2) [(oL 0 2, 1), (oC 1, 1), (oL 0 3, 1), (oP .ishl, 1), (oP .ior, 1), (oL 3 2, 1), (oN 3 1, 3)] (by decide +kernel) rfl rfl ?_
        refine g_goto (off := (-30)) (tgt := 4) (by decide +kernel) (by decide) ?_
        exact ih (v2 ||| ((1 : Int32) <<< (v3 &&& 31))) (v3 + 1) q2.2
def fX5_rightBits (o0 : Nat) (o1 : Nat) (u : ab_S) : Option (Int32 × ab_S) :=
  fX5_rightBits_4 o0 o1 fu 0 0 u
theorem tX5_rightBits (o0 : Nat) (o1 : Nat) (u : ab_S) : ab_G 0 5 cX5_rightBits (some .int) 2 0 [some (vR (kO 5) o0), some (vR (kO 2) o1), none, none] [] u wI (fX5_rightBits o0 o1 u) := by
  rw [fX5_rightBits]
  refine g_seg0 (pc' := 4) (L' := [some (vR (kO 5) o0), some (vR (kO 2) o1), some (vI 0), some (vI 0)]) (st' := []) (u1 := u) [(oC 0, 1), (oL 3 2, 1), (oC 0, 1), (oL 3 3, 1)] (by decide +kernel) rfl rfl ?_
  exact tX5_rightBits_4 o0 o1 fu 0 0 u
theorem CX5_rightBits (o0 : Nat) (o1 : Nat) (u : ab_S) : ab_C 0 yX5_rightBits cX5_rightBits 4 (some .int) 2 [vR (kO 5) o0, vR (kO 2) o1] u wI (fX5_rightBits o0 o1 u) := ab_entry (by decide +kernel) rfl (by decide) (by decide) (fun _ => Nat.le_of_ble_eq_true rfl) rfl (tX5_rightBits o0 o1 u)
def fX8_doLine_120 (o0 : Nat) (o2 : Nat) (o3 : Nat) (v4 : Int32) (s0 : Int32) (u : ab_S) : Option (Int32 × ab_S) :=
  (fX5_place o3 v4 (-1) u).bind fun q1 =>
    ab_gd [ab_b1 s0] (some (s0, q1.2))
theorem tX8_doLine_120 (o0 : Nat) (o2 : Nat) (o3 : Nat) (v4 : Int32) (s0 : Int32) (u : ab_S) : ab_G 0 7 cX8_doLine (some .boolean) 5 120 [none, none, none, some (vR (kO 5) o3), some (vI v4), none, none] [vI s0] u wI (fX8_doLine_120 o0 o2 o3 v4 s0 u) := by
  rw [fX8_doLine_120]
  refine g_seg0 (pc' := 126) (L' := [none, none, none, some (vR (kO 5) o3), some (vI v4), none, some (vI s0)]) (st' := [vI (-1), vI v4, vR (kO 5) o3]) (u1 := u) [(oL 3 6, 2), (oL 2 3, 1), (oL 0 4, 2), (oC (-1), 1)] (by decide +kernel) rfl rfl ?_
  refine g_callV (k := 134) (pc2 := 129) (st := []) (CX5_place o3 v4 (-1) u) miX5_place mvX5_place rfl (by decide) lk7_134 wV_ok (by decide +kernel) rfl (Nat.le_of_ble_eq_true rfl) (by decide) rfl (fun q1 hq1 => ?_)
  refine g_goto (off := 9) (tgt := 138) (by decide +kernel) (by decide) ?_
  refine g_seg0 (pc' := 140) (L' := [none, none, none, some (vR (kO 5) o3), some (vI v4), none, some (vI s0)]) (st' := [vI s0]) (u1 := q1.2) [(oL 0 6, 2)] (by decide +kernel) rfl rfl ?_
  exact g_zret (by decide +kernel) rfl
def fX8_doLine (o0 : Nat) (o2 : Nat) (o3 : Nat) (v1 : Int32) (u : ab_S) : Option (Int32 × ab_S) :=
  (fX9_at 40 (o0 + 2) v1 u).bind fun q2 =>
    (fX9_at 40 (o0 + 3) v1 q2.2).bind fun q3 =>
      (fX9_at 40 (o0 + 1) v1 q3.2).bind fun q4 =>
        ab_sw q4.1 [
        (1,
          (fX5_canBuy o3 q2.1 q4.2).bind fun q5 =>
            bif decide (q5.1 = 0) then (
              ab_gd [ab_b1 q5.1] (some (q5.1, q5.2)))
            else (
              (fX5_takeTicket o3 q2.1 q5.2).bind fun q6 =>
                ab_gd [ab_b1 q5.1] (some (q5.1, q6.2)))),
        (2,
          (fX5_canTrade o3 o2 q2.1 q3.1 q4.2).bind fun q7 =>
            bif decide (q7.1 = 0) then (
              ab_gd [ab_b1 q7.1] (some (q7.1, q7.2)))
            else (
              (fX5_trade o3 q2.1 q3.1 q7.2).bind fun q8 =>
                ab_gd [ab_b1 q7.1] (some (q7.1, q8.2)))),
        (3,
          (fX5_holderOf o3 q2.1 q4.2).bind fun q9 =>
            bif decide (q9.1 = (-1)) then (
              fX8_doLine_120 o0 o2 o3 q2.1 0 q9.2)
            else (
              fX8_doLine_120 o0 o2 o3 q2.1 1 q9.2))] (
          (fX5_passQuarter o3 o2 q4.2).bind fun q10 =>
            ab_gd [ab_b1 1] (some (1, q10.2)))
theorem tX8_doLine (o0 : Nat) (o2 : Nat) (o3 : Nat) (v1 : Int32) (u : ab_S) : ab_G 0 7 cX8_doLine (some .boolean) 5 0 [some (vR (kO 7) o0), some (vI v1), some (vR (kO 2) o2), some (vR (kO 5) o3), none, none, none] [] u wI (fX8_doLine o0 o2 o3 v1 u) := by
  rw [fX8_doLine]
  refine g_seg0 (pc' := 5) (L' := [some (vR (kO 7) o0), some (vI v1), some (vR (kO 2) o2), some (vR (kO 5) o3), none, none, none]) (st' := [vI v1, vR (kA 0 40) (o0 + 2)]) (u1 := u) [(oL 2 0, 1), (oP (.getfield 15), 3), (oL 0 1, 1)] (by decide +kernel) rfl rfl ?_
  refine g_callS (k := 109) (pc2 := 8) (st := []) (CX9_at 40 (o0 + 2) v1 u) miX9_at msX9_at lk7_109 wI_ok (by decide +kernel) rfl (Nat.le_of_ble_eq_true rfl) (by decide) rfl (fun q2 hq2 => ?_)
  refine g_seg0 (pc' := 15) (L' := [some (vR (kO 7) o0), some (vI v1), some (vR (kO 2) o2), some (vR (kO 5) o3), some (vI (q2.1)), none, none]) (st' := [vI v1, vR (kA 0 40) (o0 + 3)]) (u1 := q2.2) [(oL 3 4, 2), (oL 2 0, 1), (oP (.getfield 18), 3), (oL 0 1, 1)] (by decide +kernel) rfl rfl ?_
  refine g_callS (k := 109) (pc2 := 18) (st := []) (CX9_at 40 (o0 + 3) v1 q2.2) miX9_at msX9_at lk7_109 wI_ok (by decide +kernel) rfl (Nat.le_of_ble_eq_true rfl) (by decide) rfl (fun q3 hq3 => ?_)
  refine g_seg0 (pc' := 28) (L' := [some (vR (kO 7) o0), some (vI v1), some (vR (kO 2) o2), some (vR (kO 5) o3), some (vI (q2.1)), some (vI (q3.1)), some (vI 1)]) (st' := [vI v1, vR (kA 0 40) (o0 + 1)]) (u1 := q3.2) [(oL 3 5, 2), (oC 1, 1), (oL 3 6, 2), (oL 2 0, 1), (oP (.getfield 9), 3), (oL 0 1, 1)] (by decide +kernel) rfl rfl ?_
  refine g_callS (k := 109) (pc2 := 31) (st := []) (CX9_at 40 (o0 + 1) v1 q3.2) miX9_at msX9_at lk7_109 wI_ok (by decide +kernel) rfl (Nat.le_of_ble_eq_true rfl) (by decide) rfl (fun q4 hq4 => ?_)
  refine g_sw0 ?_
  refine g_sw1 (dflt := 101) (lo := 1) (hi := 3) (offs := #[25, 47, 74]) (len := 25) (k := 1) (t := 56) (by decide +kernel) (by decide +kernel) ?_ ?_
  · refine g_seg0 (pc' := 59) (L' := [some (vR (kO 7) o0), some (vI v1), some (vR (kO 2) o2), some (vR (kO 5) o3), some (vI (q2.1)), some (vI (q3.1)), some (vI 1)]) (st' := [vI (q2.1), vR (kO 5) o3]) (u1 := q4.2) [(oL 2 3, 1), (oL 0 4, 2)] (by decide +kernel) rfl rfl ?_
    refine g_callV (k := 113) (pc2 := 62) (st := []) (CX5_canBuy o3 q2.1 q4.2) miX5_canBuy mvX5_canBuy rfl (by decide) lk7_113 wI_ok (by decide +kernel) rfl (Nat.le_of_ble_eq_true rfl) (by decide) rfl (fun q5 hq5 => ?_)
    refine g_seg0 (pc' := 66) (L' := [some (vR (kO 7) o0), some (vI v1), some (vR (kO 2) o2), some (vR (kO 5) o3), some (vI (q2.1)), some (vI (q3.1)), some (vI (q5.1))]) (st' := [vI (q5.1)]) (u1 := q5.2) [(oL 3 6, 2), (oL 0 6, 2)] (by decide +kernel) rfl rfl ?_
    refine g_zeq (off := 72) (tgt := 138) (pc2 := 69) (by decide +kernel) (by decide) rfl ?_ ?_
    · refine g_seg0 (pc' := 140) (L' := [some (vR (kO 7) o0), some (vI v1), some (vR (kO 2) o2), some (vR (kO 5) o3), some (vI (q2.1)), some (vI (q3.1)), some (vI (q5.1))]) (st' := [vI (q5.1)]) (u1 := q5.2) [(oL 0 6, 2)] (by decide +kernel) rfl rfl ?_
      exact g_zret (by decide +kernel) rfl
    · refine g_seg0 (pc' := 72) (L' := [some (vR (kO 7) o0), some (vI v1), some (vR (kO 2) o2), some (vR (kO 5) o3), some (vI (q2.1)), some (vI (q3.1)), some (vI (q5.1))]) (st' := [vI (q2.1), vR (kO 5) o3]) (u1 := q5.2) [(oL 2 3, 1), (oL 0 4, 2)] (by decide +kernel) rfl rfl ?_
      refine g_callV (k := 118) (pc2 := 75) (st := []) (CX5_takeTicket o3 q2.1 q5.2) miX5_takeTicket mvX5_takeTicket rfl (by decide) lk7_118 wV_ok (by decide +kernel) rfl (Nat.le_of_ble_eq_true rfl) (by decide) rfl (fun q6 hq6 => ?_)
      refine g_goto (off := 63) (tgt := 138) (by decide +kernel) (by decide) ?_
      refine g_seg0 (pc' := 140) (L' := [some (vR (kO 7) o0), some (vI v1), some (vR (kO 2) o2), some (vR (kO 5) o3), some (vI (q2.1)), some (vI (q3.1)), some (vI (q5.1))]) (st' := [vI (q5.1)]) (u1 := q6.2) [(oL 0 6, 2)] (by decide +kernel) rfl rfl ?_
      exact g_zret (by decide +kernel) rfl
  refine g_sw1 (dflt := 101) (lo := 1) (hi := 3) (offs := #[25, 47, 74]) (len := 25) (k := 2) (t := 78) (by decide +kernel) (by decide +kernel) ?_ ?_
  · refine g_seg0 (pc' := 84) (L' := [some (vR (kO 7) o0), some (vI v1), some (vR (kO 2) o2), some (vR (kO 5) o3), some (vI (q2.1)), some (vI (q3.1)), some (vI 1)]) (st' := [vI (q3.1), vI (q2.1), vR (kO 2) o2, vR (kO 5) o3]) (u1 := q4.2) [(oL 2 3, 1), (oL 2 2, 1), (oL 0 4, 2), (oL 0 5, 2)] (by decide +kernel) rfl rfl ?_
    refine g_callV (k := 122) (pc2 := 87) (st := []) (CX5_canTrade o3 o2 q2.1 q3.1 q4.2) miX5_canTrade mvX5_canTrade rfl (by decide) lk7_122 wI_ok (by decide +kernel) rfl (Nat.le_of_ble_eq_true rfl) (by decide) rfl (fun q7 hq7 => ?_)
    refine g_seg0 (pc' := 91) (L' := [some (vR (kO 7) o0), some (vI v1), some (vR (kO 2) o2), some (vR (kO 5) o3), some (vI (q2.1)), some (vI (q3.1)), some (vI (q7.1))]) (st' := [vI (q7.1)]) (u1 := q7.2) [(oL 3 6, 2), (oL 0 6, 2)] (by decide +kernel) rfl rfl ?_
    refine g_zeq (off := 47) (tgt := 138) (pc2 := 94) (by decide +kernel) (by decide) rfl ?_ ?_
    · refine g_seg0 (pc' := 140) (L' := [some (vR (kO 7) o0), some (vI v1), some (vR (kO 2) o2), some (vR (kO 5) o3), some (vI (q2.1)), some (vI (q3.1)), some (vI (q7.1))]) (st' := [vI (q7.1)]) (u1 := q7.2) [(oL 0 6, 2)] (by decide +kernel) rfl rfl ?_
      exact g_zret (by decide +kernel) rfl
    · refine g_seg0 (pc' := 99) (L' := [some (vR (kO 7) o0), some (vI v1), some (vR (kO 2) o2), some (vR (kO 5) o3), some (vI (q2.1)), some (vI (q3.1)), some (vI (q7.1))]) (st' := [vI (q3.1), vI (q2.1), vR (kO 5) o3]) (u1 := q7.2) [(oL 2 3, 1), (oL 0 4, 2), (oL 0 5, 2)] (by decide +kernel) rfl rfl ?_
      refine g_callV (k := 126) (pc2 := 102) (st := []) (CX5_trade o3 q2.1 q3.1 q7.2) miX5_trade mvX5_trade rfl (by decide) lk7_126 wV_ok (by decide +kernel) rfl (Nat.le_of_ble_eq_true rfl) (by decide) rfl (fun q8 hq8 => ?_)
      refine g_goto (off := 36) (tgt := 138) (by decide +kernel) (by decide) ?_
      refine g_seg0 (pc' := 140) (L' := [some (vR (kO 7) o0), some (vI v1), some (vR (kO 2) o2), some (vR (kO 5) o3), some (vI (q2.1)), some (vI (q3.1)), some (vI (q7.1))]) (st' := [vI (q7.1)]) (u1 := q8.2) [(oL 0 6, 2)] (by decide +kernel) rfl rfl ?_
      exact g_zret (by decide +kernel) rfl
  refine g_sw1 (dflt := 101) (lo := 1) (hi := 3) (offs := #[25, 47, 74]) (len := 25) (k := 3) (t := 105) (by decide +kernel) (by decide +kernel) ?_ ?_
  · refine g_seg0 (pc' := 108) (L' := [some (vR (kO 7) o0), some (vI v1), some (vR (kO 2) o2), some (vR (kO 5) o3), some (vI (q2.1)), some (vI (q3.1)), some (vI 1)]) (st' := [vI (q2.1), vR (kO 5) o3]) (u1 := q4.2) [(oL 2 3, 1), (oL 0 4, 2)] (by decide +kernel) rfl rfl ?_
    refine g_callV (k := 130) (pc2 := 111) (st := []) (CX5_holderOf o3 q2.1 q4.2) miX5_holderOf mvX5_holderOf rfl (by decide) lk7_130 wI_ok (by decide +kernel) rfl (Nat.le_of_ble_eq_true rfl) (by decide) rfl (fun q9 hq9 => ?_)
    refine g_seg0 (pc' := 112) (L' := [some (vR (kO 7) o0), some (vI v1), some (vR (kO 2) o2), some (vR (kO 5) o3), some (vI (q2.1)), some (vI (q3.1)), some (vI 1)]) (st' := [vI (-1), vI (q9.1)]) (u1 := q9.2) [(oC (-1), 1)] (by decide +kernel) rfl rfl ?_
    refine g_ieq (off := 7) (tgt := 119) (pc2 := 115) (by decide +kernel) (by decide) rfl ?_ ?_
    · refine g_seg0 (pc' := 120) (L' := [some (vR (kO 7) o0), some (vI v1), some (vR (kO 2) o2), some (vR (kO 5) o3), some (vI (q2.1)), some (vI (q3.1)), some (vI 1)]) (st' := [vI 0]) (u1 := q9.2) [(oC 0, 1)] (by decide +kernel) rfl rfl ?_
      exact g_jump [false, false, false, true, true, false, false] rfl (tX8_doLine_120 o0 o2 o3 q2.1 0 q9.2)
    · refine g_seg0 (pc' := 116) (L' := [some (vR (kO 7) o0), some (vI v1), some (vR (kO 2) o2), some (vR (kO 5) o3), some (vI (q2.1)), some (vI (q3.1)), some (vI 1)]) (st' := [vI 1]) (u1 := q9.2) [(oC 1, 1)] (by decide +kernel) rfl rfl ?_
      refine g_goto (off := 4) (tgt := 120) (by decide +kernel) (by decide) ?_
      exact g_jump [false, false, false, true, true, false, false] rfl (tX8_doLine_120 o0 o2 o3 q2.1 1 q9.2)
  refine g_swd (dflt := 101) (lo := 1) (hi := 3) (offs := #[25, 47, 74]) (len := 25) (tgd := 132) (by decide +kernel) (by decide) (by decide +kernel) ?_
  refine g_seg0 (pc' := 134) (L' := [some (vR (kO 7) o0), some (vI v1), some (vR (kO 2) o2), some (vR (kO 5) o3), some (vI (q2.1)), some (vI (q3.1)), some (vI 1)]) (st' := [vR (kO 2) o2, vR (kO 5) o3]) (u1 := q4.2) [(oL 2 3, 1), (oL 2 2, 1)] (by decide +kernel) rfl rfl ?_
  refine g_callV (k := 137) (pc2 := 137) (st := []) (CX5_passQuarter o3 o2 q4.2) miX5_passQuarter mvX5_passQuarter rfl (by decide) lk7_137 wI_ok (by decide +kernel) rfl (Nat.le_of_ble_eq_true rfl) (by decide) rfl (fun q10 hq10 => ?_)
  refine g_seg0 (pc' := 140) (L' := [some (vR (kO 7) o0), some (vI v1), some (vR (kO 2) o2), some (vR (kO 5) o3), some (vI (q2.1)), some (vI (q3.1)), some (vI 1)]) (st' := [vI 1]) (u1 := q10.2) [(oP .pop, 1), (oL 0 6, 2)] (by decide +kernel) rfl rfl ?_
  exact g_zret (by decide +kernel) rfl
theorem CX8_doLine (o0 : Nat) (v1 : Int32) (o2 : Nat) (o3 : Nat) (u : ab_S) : ab_C 0 yX8_doLine cX8_doLine 7 (some .boolean) 5 [vR (kO 7) o0, vI v1, vR (kO 2) o2, vR (kO 5) o3] u wI (fX8_doLine o0 o2 o3 v1 u) := ab_entry (by decide +kernel) rfl (by decide) (by decide) (fun _ => Nat.le_of_ble_eq_true rfl) rfl (tX8_doLine o0 o2 o3 v1 u)
def fX9_judged_70 (k30 : Int32 → Int32 → Int32 → Int32 → ab_S → Option (Int32 × ab_S)) (v1 : Int32) (v2 : Int32) (v3 : Int32) (v4 : Int32) (u : ab_S) : Option (Int32 × ab_S) :=
  bif decide (v3 = (-1)) then (
    (fX5_rightBits 42 (u.2.2 0) u).bind fun q1 =>
      bif decide (q1.1 = 0) then (
        k30 v1 v2 v3 (v4 + 1) q1.2)
      else (
        k30 v1 v2 v4 (v4 + 1) q1.2))
  else (
    k30 v1 v2 v3 (v4 + 1) u)
theorem tX9_judged_70 (k30 : Int32 → Int32 → Int32 → Int32 → ab_S → Option (Int32 × ab_S)) (hk30 : ∀ (v1 : Int32) (v2 : Int32) (v3 : Int32) (v4 : Int32) (u : ab_S), ab_G 0 8 cX9_judged (some .int) 6 30 [some (vR (kO 8) 0), some (vI v1), some (vI v2), some (vI v3), some (vI v4)] [] u wI (k30 v1 v2 v3 v4 u)) (v1 : Int32) (v2 : Int32) (v3 : Int32) (v4 : Int32) (u : ab_S) : ab_G 0 8 cX9_judged (some .int) 6 70 [some (vR (kO 8) 0), some (vI v1), some (vI v2), some (vI v3), some (vI v4)] [] u wI (fX9_judged_70 k30 v1 v2 v3 v4 u) := by
  rw [fX9_judged_70]
  refine g_seg0 (pc' := 72) (L' := [some (vR (kO 8) 0), some (vI v1), some (vI v2), some (vI v3), some (vI v4)]) (st' := [vI (-1), vI v3]) (u1 := u) [(oL 0 3, 1), (oC (-1), 1)] (by decide +kernel) rfl rfl ?_
  refine g_ine (off := 20) (tgt := 92) (pc2 := 75) (by decide +kernel) (by decide) rfl ?_ ?_
  · refine g_seg0 (pc' := 95) (L' := [some (vR (kO 8) 0), some (vI v1), some (vI v2), some (vI v3), some (vI (v4 + 1))]) (st' := []) (u1 := u) [(oN 4 1, 3)] (by decide +kernel) rfl rfl ?_
    refine g_goto (off := (-65)) (tgt := 30) (by decide +kernel) (by decide) ?_
    exact hk30 v1 v2 v3 (v4 + 1) u
  · refine g_seg0 (pc' := 83) (L' := [some (vR (kO 8) 0), some (vI v1), some (vI v2), some (vI v3), some (vI v4)]) (st' := [vR (kO 2) (u.2.2 0), vR (kO 5) 42]) (u1 := u) [(oL 2 0, 1), (oP (.getfield 43), 3), (oL 2 0, 1), (oP (.getfield 19), 3)] (by decide +kernel) rfl rfl ?_
    refine g_callV (k := 195) (pc2 := 86) (st := []) (CX5_rightBits 42 (u.2.2 0) u) miX5_rightBits mvX5_rightBits rfl (by decide) lk8_195 wI_ok (by decide +kernel) rfl (Nat.le_of_ble_eq_true rfl) (by decide) rfl (fun q1 hq1 => ?_)
    refine g_zeq (off := 6) (tgt := 92) (pc2 := 89) (by decide +kernel) (by decide) rfl ?_ ?_
    · refine g_seg0 (pc' := 95) (L' := [some (vR (kO 8) 0), some (vI v1), some (vI v2), some (vI v3), some (vI (v4 + 1))]) (st' := []) (u1 := q1.2) [(oN 4 1, 3)] (by decide +kernel) rfl rfl ?_
      refine g_goto (off := (-65)) (tgt := 30) (by decide +kernel) (by decide) ?_
      exact hk30 v1 v2 v3 (v4 + 1) q1.2
    · refine g_seg0 (pc' := 95) (L' := [some (vR (kO 8) 0), some (vI v1), some (vI v2), some (vI v4), some (vI (v4 + 1))]) (st' := []) (u1 := q1.2) [(oL 0 4, 2), (oL 3 3, 1), (oN 4 1, 3)] (by decide +kernel) rfl rfl ?_
      refine g_goto (off := (-65)) (tgt := 30) (by decide +kernel) (by decide) ?_
      exact hk30 v1 v2 v4 (v4 + 1) q1.2
def fX9_judged_30 : Nat → Int32 → Int32 → Int32 → Int32 → ab_S → Option (Int32 × ab_S)
  | 0, _, _, _, _, _ => none
  | n + 1, v1, v2, v3, v4, u =>
  bif decide (v4 < (u.1 (u.2.2 2) 0)) then (
    (fX8_doLine (u.2.2 2) (u.2.2 0) 42 v4 u).bind fun q4 =>
      bif decide (q4.1 = 0) then (
        bif decide (v2 = (-1)) then (
          fX9_judged_70 (fX9_judged_30 n) v1 v4 v3 v4 q4.2)
        else (
          fX9_judged_70 (fX9_judged_30 n) v1 v2 v3 v4 q4.2))
      else (
        fX9_judged_70 (fX9_judged_30 n) v1 v2 v3 v4 q4.2))
  else (
    bif decide (v1 = 0) then (
      some (v2, u))
    else (
      bif decide (v1 = 1) then (
        some (v3, u))
      else (
        (fX5_rightBits 42 (u.2.2 0) u).bind fun q2 =>
          (fJ6_bitCount_0f7a4 q2.1 q2.2).bind fun q3 =>
            some (q3.1, q3.2))))
theorem tX9_judged_30 : ∀ (n : Nat) (v1 : Int32) (v2 : Int32) (v3 : Int32) (v4 : Int32) (u : ab_S), ab_G 0 8 cX9_judged (some .int) 6 30 [some (vR (kO 8) 0), some (vI v1), some (vI v2), some (vI v3), some (vI v4)] [] u wI (fX9_judged_30 n v1 v2 v3 v4 u) := by
  intro n
  induction n with
  | zero => intros; exact g_none
  | succ n ih =>
    intro v1 v2 v3 v4 u
    rw [fX9_judged_30]
    refine g_seg0 (pc' := 39) (L' := [some (vR (kO 8) 0), some (vI v1), some (vI v2), some (vI v3), some (vI v4)]) (st' := [vI (u.1 (u.2.2 2) 0), vI v4]) (u1 := u) [(oL 0 4, 2), (oL 2 0, 1), (oP (.getfield 29), 3), (oP (.getfield 104), 3)] (by decide +kernel) rfl rfl ?_
    refine g_ige (off := 59) (tgt := 98) (pc2 := 42) (by decide +kernel) (by decide) rfl ?_ ?_
    · refine g_seg0 (pc' := 99) (L' := [some (vR (kO 8) 0), some (vI v1), some (vI v2), some (vI v3), some (vI v4)]) (st' := [vI v1]) (u1 := u) [(oL 0 1, 1)] (by decide +kernel) rfl rfl ?_
      refine g_zne (off := 5) (tgt := 104) (pc2 := 102) (by decide +kernel) (by decide) rfl ?_ ?_
      · refine g_seg0 (pc' := 106) (L' := [some (vR (kO 8) 0), some (vI v1), some (vI v2), some (vI v3), some (vI v4)]) (st' := [vI 1, vI v1]) (u1 := u) [(oL 0 1, 1), (oC 1, 1)] (by decide +kernel) rfl rfl ?_
        refine g_ine (off := 7) (tgt := 113) (pc2 := 109) (by decide +kernel) (by decide) rfl ?_ ?_
        · refine g_seg0 (pc' := 121) (L' := [some (vR (kO 8) 0), some (vI v1), some (vI v2), some (vI v3), some (vI v4)]) (st' := [vR (kO 2) (u.2.2 0), vR (kO 5) 42]) (u1 := u) [(oL 2 0, 1), (oP (.getfield 43), 3), (oL 2 0, 1), (oP (.getfield 19), 3)] (by decide +kernel) rfl rfl ?_
          refine g_callV (k := 195) (pc2 := 124) (st := []) (CX5_rightBits 42 (u.2.2 0) u) miX5_rightBits mvX5_rightBits rfl (by decide) lk8_195 wI_ok (by decide +kernel) rfl (Nat.le_of_ble_eq_true rfl) (by decide) rfl (fun q2 hq2 => ?_)
          refine g_callS (k := 198) (pc2 := 127) (st := []) (CJ6_bitCount_0f7a4 q2.1 q2.2) miJ6_bitCount_0f7a4 msJ6_bitCount_0f7a4 lk8_198 wI_ok (by decide +kernel) rfl (Nat.le_of_ble_eq_true rfl) (by decide) rfl (fun q3 hq3 => ?_)
          exact g_iret (by decide +kernel) rfl
        · refine g_seg0 (pc' := 110) (L' := [some (vR (kO 8) 0), some (vI v1), some (vI v2), some (vI v3), some (vI v4)]) (st' := [vI v3]) (u1 := u) [(oL 0 3, 1)] (by decide +kernel) rfl rfl ?_
          refine g_goto (off := 17) (tgt := 127) (by decide +kernel) (by decide) ?_
          exact g_iret (by decide +kernel) rfl
      · refine g_seg0 (pc' := 103) (L' := [some (vR (kO 8) 0), some (vI v1), some (vI v2), some (vI v3), some (vI v4)]) (st' := [vI v2]) (u1 := u) [(oL 0 2, 1)] (by decide +kernel) rfl rfl ?_
        exact g_iret (by decide +kernel) rfl
    · refine g_seg0 (pc' := 56) (L' := [some (vR (kO 8) 0), some (vI v1), some (vI v2), some (vI v3), some (vI v4)]) (st' := [vR (kO 5) 42, vR (kO 2) (u.2.2 0), vI v4, vR (kO 7) (u.2.2 2)]) (u1 := u) [(oL 2 0, 1), (oP (.getfield 29), 3), (oL 0 4, 2), (oL 2 0, 1), (oP (.getfield 19), 3), (oL 2 0, 1), (oP (.getfield 43), 3)] (by decide +kernel) rfl rfl ?_
      refine g_callV (k := 191) (pc2 := 59) (st := []) (CX8_doLine (u.2.2 2) v4 (u.2.2 0) 42 u) miX8_doLine mvX8_doLine rfl (by decide) lk8_191 wI_ok (by decide +kernel) rfl (Nat.le_of_ble_eq_true rfl) (by decide) rfl (fun q4 hq4 => ?_)
      refine g_zne (off := 11) (tgt := 70) (pc2 := 62) (by decide +kernel) (by decide) rfl ?_ ?_
      · exact tX9_judged_70 (fX9_judged_30 n) ih v1 v2 v3 v4 q4.2
      · refine g_seg0 (pc' := 64) (L' := [some (vR (kO 8) 0), some (vI v1), some (vI v2), some (vI v3), some (vI v4)]) (st' := [vI (-1), vI v2]) (u1 := q4.2) [(oL 0 2, 1), (oC (-1), 1)] (by decide +kernel) rfl rfl ?_
        refine g_ine (off := 6) (tgt := 70) (pc2 := 67) (by decide +kernel) (by decide) rfl ?_ ?_
        · exact tX9_judged_70 (fX9_judged_30 n) ih v1 v2 v3 v4 q4.2
        · refine g_seg0 (pc' := 70) (L' := [some (vR (kO 8) 0), some (vI v1), some (vI v4), some (vI v3), some (vI v4)]) (st' := []) (u1 := q4.2) [(oL 0 4, 2), (oL 3 2, 1)] (by decide +kernel) rfl rfl ?_
          exact tX9_judged_70 (fX9_judged_30 n) ih v1 v4 v3 v4 q4.2
def fX9_judged (v1 : Int32) (u : ab_S) : Option (Int32 × ab_S) :=
  bif decide (v1 < 0) then (
    some ((-2), u))
  else (
    bif decide (v1 ≤ 2) then (
      (fX5_startOf 42 (u.2.2 0) u).bind fun q5 =>
        fX9_judged_30 fu v1 (-1) (-1) 0 q5.2)
    else (
      some ((-2), u)))
theorem tX9_judged (v1 : Int32) (u : ab_S) : ab_G 0 8 cX9_judged (some .int) 6 0 [some (vR (kO 8) 0), some (vI v1), none, none, none] [] u wI (fX9_judged v1 u) := by
  rw [fX9_judged]
  refine g_seg0 (pc' := 1) (L' := [some (vR (kO 8) 0), some (vI v1), none, none, none]) (st' := [vI v1]) (u1 := u) [(oL 0 1, 1)] (by decide +kernel) rfl rfl ?_
  refine g_zlt (off := 8) (tgt := 9) (pc2 := 4) (by decide +kernel) (by decide) rfl ?_ ?_
  · refine g_seg0 (pc' := 11) (L' := [some (vR (kO 8) 0), some (vI v1), none, none, none]) (st' := [vI (-2)]) (u1 := u) [(oC (-2), 2)] (by decide +kernel) rfl rfl ?_
    exact g_iret (by decide +kernel) rfl
  · refine g_seg0 (pc' := 6) (L' := [some (vR (kO 8) 0), some (vI v1), none, none, none]) (st' := [vI 2, vI v1]) (u1 := u) [(oL 0 1, 1), (oC 2, 1)] (by decide +kernel) rfl rfl ?_
    refine g_ile (off := 6) (tgt := 12) (pc2 := 9) (by decide +kernel) (by decide) rfl ?_ ?_
    · refine g_seg0 (pc' := 20) (L' := [some (vR (kO 8) 0), some (vI v1), none, none, none]) (st' := [vR (kO 2) (u.2.2 0), vR (kO 5) 42]) (u1 := u) [(oL 2 0, 1), (oP (.getfield 43), 3), (oL 2 0, 1), (oP (.getfield 19), 3)] (by decide +kernel) rfl rfl ?_
      refine g_callV (k := 100) (pc2 := 23) (st := []) (CX5_startOf 42 (u.2.2 0) u) miX5_startOf mvX5_startOf rfl (by decide) lk8_100 wV_ok (by decide +kernel) rfl (Nat.le_of_ble_eq_true rfl) (by decide) rfl (fun q5 hq5 => ?_)
      refine g_seg0 (pc' := 30) (L' := [some (vR (kO 8) 0), some (vI v1), some (vI (-1)), some (vI (-1)), some (vI 0)]) (st' := []) (u1 := q5.2) [(oC (-1), 1), (oL 3 2, 1), (oC (-1), 1), (oL 3 3, 1), (oC 0, 1), (oL 3 4, 2)] (by decide +kernel) rfl rfl ?_
      exact tX9_judged_30 fu v1 (-1) (-1) 0 q5.2
    · refine g_seg0 (pc' := 11) (L' := [some (vR (kO 8) 0), some (vI v1), none, none, none]) (st' := [vI (-2)]) (u1 := u) [(oC (-2), 2)] (by decide +kernel) rfl rfl ?_
      exact g_iret (by decide +kernel) rfl
theorem CX9_judged (v1 : Int32) (u : ab_S) : ab_C 0 yX9_judged cX9_judged 5 (some .int) 6 [vR (kO 8) 0, vI v1] u wI (fX9_judged v1 u) := ab_entry (by decide +kernel) rfl (by decide) (by decide) (fun _ => Nat.le_of_ble_eq_true rfl) rfl (tX9_judged v1 u)
def fX9_winner_28 : Nat → Int32 → Int32 → Int32 → ab_S → Option (Int32 × ab_S)
  | 0, _, _, _, _ => none
  | n + 1, v1, v2, v3, u =>
  bif decide (v3 < v1) then (
    (fX5_passQuarter 42 (u.2.2 0) u).bind fun q1 =>
      (fX9_winner_28 n) v1 q1.1 (v3 + 1) q1.2)
  else (
    some (v2, u))
theorem tX9_winner_28 : ∀ (n : Nat) (v1 : Int32) (v2 : Int32) (v3 : Int32) (u : ab_S), ab_G 0 8 cX9_winner (some .int) 5 28 [some (vR (kO 8) 0), some (vI v1), some (vI v2), some (vI v3)] [] u wI (fX9_winner_28 n v1 v2 v3 u) := by
  intro n
  induction n with
  | zero => intros; exact g_none
  | succ n ih =>
    intro v1 v2 v3 u
    rw [fX9_winner_28]
    refine g_seg0 (pc' := 30) (L' := [some (vR (kO 8) 0), some (vI v1), some (vI v2), some (vI v3)]) (st' := [vI v1, vI v3]) (u1 := u) [(oL 0 3, 1), (oL 0 1, 1)] (by decide +kernel) rfl rfl ?_
    refine g_ige (off := 21) (tgt := 51) (pc2 := 33) (by decide +kernel) (by decide) rfl ?_ ?_
    · refine g_seg0 (pc' := 52) (L' := [some (vR (kO 8) 0), some (vI v1), some (vI v2), some (vI v3)]) (st' := [vI v2]) (u1 := u) [(oL 0 2, 1)] (by decide +kernel) rfl rfl ?_
      exact g_iret (by decide +kernel) rfl
    · refine g_seg0 (pc' := 41) (L' := [some (vR (kO 8) 0), some (vI v1), some (vI v2), some (vI v3)]) (st' := [vR (kO 2) (u.2.2 0), vR (kO 5) 42]) (u1 := u) [(oL 2 0, 1), (oP (.getfield 43), 3), (oL 2 0, 1), (oP (.getfield 19), 3)] (by decide +kernel) rfl rfl ?_
      refine g_callV (k := 174) (pc2 := 44) (st := []) (CX5_passQuarter 42 (u.2.2 0) u) miX5_passQuarter mvX5_passQuarter rfl (by decide) lk8_174 wI_ok (by decide +kernel) rfl (Nat.le_of_ble_eq_true rfl) (by decide) rfl (fun q1 hq1 => ?_)
      refine g_seg0 (pc' := 48) (L' := [some (vR (kO 8) 0), some (vI v1), some (vI (q1.1)), some (vI (v3 + 1))]) (st' := []) (u1 := q1.2) [(oL 3 2, 1), (oN 3 1, 3)] (by decide +kernel) rfl rfl ?_
      refine g_goto (off := (-20)) (tgt := 28) (by decide +kernel) (by decide) ?_
      exact ih v1 q1.1 (v3 + 1) q1.2
def fX9_winner (v1 : Int32) (u : ab_S) : Option (Int32 × ab_S) :=
  bif decide (v1 < 1) then (
    some ((-1), u))
  else (
    bif decide (v1 ≤ 60) then (
      (fX5_copyOf 42 38 u).bind fun q2 =>
        fX9_winner_28 fu v1 (-1) 0 q2.2)
    else (
      some ((-1), u)))
theorem tX9_winner (v1 : Int32) (u : ab_S) : ab_G 0 8 cX9_winner (some .int) 5 0 [some (vR (kO 8) 0), some (vI v1), none, none] [] u wI (fX9_winner v1 u) := by
  rw [fX9_winner]
  refine g_seg0 (pc' := 2) (L' := [some (vR (kO 8) 0), some (vI v1), none, none]) (st' := [vI 1, vI v1]) (u1 := u) [(oL 0 1, 1), (oC 1, 1)] (by decide +kernel) rfl rfl ?_
  refine g_ilt (off := 9) (tgt := 11) (pc2 := 5) (by decide +kernel) (by decide) rfl ?_ ?_
  · refine g_seg0 (pc' := 12) (L' := [some (vR (kO 8) 0), some (vI v1), none, none]) (st' := [vI (-1)]) (u1 := u) [(oC (-1), 1)] (by decide +kernel) rfl rfl ?_
    exact g_iret (by decide +kernel) rfl
  · refine g_seg0 (pc' := 8) (L' := [some (vR (kO 8) 0), some (vI v1), none, none]) (st' := [vI 60, vI v1]) (u1 := u) [(oL 0 1, 1), (oC 60, 2)] (by decide +kernel) rfl rfl ?_
    refine g_ile (off := 5) (tgt := 13) (pc2 := 11) (by decide +kernel) (by decide) rfl ?_ ?_
    · refine g_seg0 (pc' := 21) (L' := [some (vR (kO 8) 0), some (vI v1), none, none]) (st' := [vR (kO 5) 38, vR (kO 5) 42]) (u1 := u) [(oL 2 0, 1), (oP (.getfield 43), 3), (oL 2 0, 1), (oP (.getfield 39), 3)] (by decide +kernel) rfl rfl ?_
      refine g_callV (k := 181) (pc2 := 24) (st := []) (CX5_copyOf 42 38 u) miX5_copyOf mvX5_copyOf rfl (by decide) lk8_181 wV_ok (by decide +kernel) rfl (Nat.le_of_ble_eq_true rfl) (by decide) rfl (fun q2 hq2 => ?_)
      refine g_seg0 (pc' := 28) (L' := [some (vR (kO 8) 0), some (vI v1), some (vI (-1)), some (vI 0)]) (st' := []) (u1 := q2.2) [(oC (-1), 1), (oL 3 2, 1), (oC 0, 1), (oL 3 3, 1)] (by decide +kernel) rfl rfl ?_
      exact tX9_winner_28 fu v1 (-1) 0 q2.2
    · refine g_seg0 (pc' := 12) (L' := [some (vR (kO 8) 0), some (vI v1), none, none]) (st' := [vI (-1)]) (u1 := u) [(oC (-1), 1)] (by decide +kernel) rfl rfl ?_
      exact g_iret (by decide +kernel) rfl
theorem CX9_winner (v1 : Int32) (u : ab_S) : ab_C 0 yX9_winner cX9_winner 4 (some .int) 5 [vR (kO 8) 0, vI v1] u wI (fX9_winner v1 u) := ab_entry (by decide +kernel) rfl (by decide) (by decide) (fun _ => Nat.le_of_ble_eq_true rfl) rfl (tX9_winner v1 u)
def fX9_where_37 : Nat → Int32 → Int32 → Int32 → ab_S → Option (Int32 × ab_S)
  | 0, _, _, _, _ => none
  | n + 1, v1, v2, v3, u =>
  bif decide (v3 < v2) then (
    (fX5_passQuarter 42 (u.2.2 0) u).bind fun q2 =>
      (fX9_where_37 n) v1 v2 (v3 + 1) q2.2)
  else (
    (fX5_holderOf 42 v1 u).bind fun q1 =>
      some (q1.1, q1.2))
theorem tX9_where_37 : ∀ (n : Nat) (v1 : Int32) (v2 : Int32) (v3 : Int32) (u : ab_S), ab_G 0 8 cX9_where (some .int) 5 37 [some (vR (kO 8) 0), some (vI v1), some (vI v2), some (vI v3)] [] u wI (fX9_where_37 n v1 v2 v3 u) := by
  intro n
  induction n with
  | zero => intros; exact g_none
  | succ n ih =>
    intro v1 v2 v3 u
    rw [fX9_where_37]
    refine g_seg0 (pc' := 39) (L' := [some (vR (kO 8) 0), some (vI v1), some (vI v2), some (vI v3)]) (st' := [vI v2, vI v3]) (u1 := u) [(oL 0 3, 1), (oL 0 2, 1)] (by decide +kernel) rfl rfl ?_
    refine g_ige (off := 21) (tgt := 60) (pc2 := 42) (by decide +kernel) (by decide) rfl ?_ ?_
    · refine g_seg0 (pc' := 65) (L' := [some (vR (kO 8) 0), some (vI v1), some (vI v2), some (vI v3)]) (st' := [vI v1, vR (kO 5) 42]) (u1 := u) [(oL 2 0, 1), (oP (.getfield 43), 3), (oL 0 1, 1)] (by decide +kernel) rfl rfl ?_
      refine g_callV (k := 146) (pc2 := 68) (st := []) (CX5_holderOf 42 v1 u) miX5_holderOf mvX5_holderOf rfl (by decide) lk8_146 wI_ok (by decide +kernel) rfl (Nat.le_of_ble_eq_true rfl) (by decide) rfl (fun q1 hq1 => ?_)
      exact g_iret (by decide +kernel) rfl
    · refine g_seg0 (pc' := 50) (L' := [some (vR (kO 8) 0), some (vI v1), some (vI v2), some (vI v3)]) (st' := [vR (kO 2) (u.2.2 0), vR (kO 5) 42]) (u1 := u) [(oL 2 0, 1), (oP (.getfield 43), 3), (oL 2 0, 1), (oP (.getfield 19), 3)] (by decide +kernel) rfl rfl ?_
      refine g_callV (k := 174) (pc2 := 53) (st := []) (CX5_passQuarter 42 (u.2.2 0) u) miX5_passQuarter mvX5_passQuarter rfl (by decide) lk8_174 wI_ok (by decide +kernel) rfl (Nat.le_of_ble_eq_true rfl) (by decide) rfl (fun q2 hq2 => ?_)
      refine g_seg0 (pc' := 57) (L' := [some (vR (kO 8) 0), some (vI v1), some (vI v2), some (vI (v3 + 1))]) (st' := []) (u1 := q2.2) [(oP .pop, 1), (oN 3 1, 3)] (by decide +kernel) rfl rfl ?_
      refine g_goto (off := (-20)) (tgt := 37) (by decide +kernel) (by decide) ?_
      exact ih v1 v2 (v3 + 1) q2.2
def fX9_where (v1 : Int32) (v2 : Int32) (u : ab_S) : Option (Int32 × ab_S) :=
  (fX2_hasGood (u.2.2 0) v1 u).bind fun q3 =>
    bif decide (q3.1 = 0) then (
      some ((-2), q3.2))
    else (
      bif decide (v2 < 0) then (
        some ((-2), q3.2))
      else (
        bif decide (v2 ≤ 60) then (
          (fX5_copyOf 42 38 q3.2).bind fun q4 =>
            fX9_where_37 fu v1 v2 0 q4.2)
        else (
          some ((-2), q3.2))))
theorem tX9_where (v1 : Int32) (v2 : Int32) (u : ab_S) : ab_G 0 8 cX9_where (some .int) 5 0 [some (vR (kO 8) 0), some (vI v1), some (vI v2), none] [] u wI (fX9_where v1 v2 u) := by
  rw [fX9_where]
  refine g_seg0 (pc' := 5) (L' := [some (vR (kO 8) 0), some (vI v1), some (vI v2), none]) (st' := [vI v1, vR (kO 2) (u.2.2 0)]) (u1 := u) [(oL 2 0, 1), (oP (.getfield 19), 3), (oL 0 1, 1)] (by decide +kernel) rfl rfl ?_
  refine g_callV (k := 137) (pc2 := 8) (st := []) (CX2_hasGood (u.2.2 0) v1 u) miX2_hasGood mvX2_hasGood rfl (by decide) lk8_137 wI_ok (by decide +kernel) rfl (Nat.le_of_ble_eq_true rfl) (by decide) rfl (fun q3 hq3 => ?_)
  refine g_zeq (off := 13) (tgt := 21) (pc2 := 11) (by decide +kernel) (by decide) rfl ?_ ?_
  · refine g_seg0 (pc' := 23) (L' := [some (vR (kO 8) 0), some (vI v1), some (vI v2), none]) (st' := [vI (-2)]) (u1 := q3.2) [(oC (-2), 2)] (by decide +kernel) rfl rfl ?_
    exact g_iret (by decide +kernel) rfl
  · refine g_seg0 (pc' := 12) (L' := [some (vR (kO 8) 0), some (vI v1), some (vI v2), none]) (st' := [vI v2]) (u1 := q3.2) [(oL 0 2, 1)] (by decide +kernel) rfl rfl ?_
    refine g_zlt (off := 9) (tgt := 21) (pc2 := 15) (by decide +kernel) (by decide) rfl ?_ ?_
    · refine g_seg0 (pc' := 23) (L' := [some (vR (kO 8) 0), some (vI v1), some (vI v2), none]) (st' := [vI (-2)]) (u1 := q3.2) [(oC (-2), 2)] (by decide +kernel) rfl rfl ?_
      exact g_iret (by decide +kernel) rfl
    · refine g_seg0 (pc' := 18) (L' := [some (vR (kO 8) 0), some (vI v1), some (vI v2), none]) (st' := [vI 60, vI v2]) (u1 := q3.2) [(oL 0 2, 1), (oC 60, 2)] (by decide +kernel) rfl rfl ?_
      refine g_ile (off := 6) (tgt := 24) (pc2 := 21) (by decide +kernel) (by decide) rfl ?_ ?_
      · refine g_seg0 (pc' := 32) (L' := [some (vR (kO 8) 0), some (vI v1), some (vI v2), none]) (st' := [vR (kO 5) 38, vR (kO 5) 42]) (u1 := q3.2) [(oL 2 0, 1), (oP (.getfield 43), 3), (oL 2 0, 1), (oP (.getfield 39), 3)] (by decide +kernel) rfl rfl ?_
        refine g_callV (k := 181) (pc2 := 35) (st := []) (CX5_copyOf 42 38 q3.2) miX5_copyOf mvX5_copyOf rfl (by decide) lk8_181 wV_ok (by decide +kernel) rfl (Nat.le_of_ble_eq_true rfl) (by decide) rfl (fun q4 hq4 => ?_)
        refine g_seg0 (pc' := 37) (L' := [some (vR (kO 8) 0), some (vI v1), some (vI v2), some (vI 0)]) (st' := []) (u1 := q4.2) [(oC 0, 1), (oL 3 3, 1)] (by decide +kernel) rfl rfl ?_
        exact tX9_where_37 fu v1 v2 0 q4.2
      · refine g_seg0 (pc' := 23) (L' := [some (vR (kO 8) 0), some (vI v1), some (vI v2), none]) (st' := [vI (-2)]) (u1 := q3.2) [(oC (-2), 2)] (by decide +kernel) rfl rfl ?_
        exact g_iret (by decide +kernel) rfl
theorem CX9_where (v1 : Int32) (v2 : Int32) (u : ab_S) : ab_C 0 yX9_where cX9_where 4 (some .int) 5 [vR (kO 8) 0, vI v1, vI v2] u wI (fX9_where v1 v2 u) := ab_entry (by decide +kernel) rfl (by decide) (by decide) (fun _ => Nat.le_of_ble_eq_true rfl) rfl (tX9_where v1 v2 u)
def fX9_has_37 : Nat → Int32 → Int32 → Int32 → ab_S → Option (Int32 × ab_S)
  | 0, _, _, _, _ => none
  | n + 1, v1, v2, v3, u =>
  bif decide (v3 ≤ 60) then (
    (fX5_holderOf 42 v2 u).bind fun q1 =>
      bif decide (q1.1 = v1) then (
        some (v3, q1.2))
      else (
        (fX5_passQuarter 42 (q1.2.2.2 0) q1.2).bind fun q2 =>
          (fX9_has_37 n) v1 v2 (v3 + 1) q2.2))
  else (
    some ((-1), u))
theorem tX9_has_37 : ∀ (n : Nat) (v1 : Int32) (v2 : Int32) (v3 : Int32) (u : ab_S), ab_G 0 8 cX9_has (some .int) 5 37 [some (vR (kO 8) 0), some (vI v1), some (vI v2), some (vI v3)] [] u wI (fX9_has_37 n v1 v2 v3 u) := by
  intro n
  induction n with
  | zero => intros; exact g_none
  | succ n ih =>
    intro v1 v2 v3 u
    rw [fX9_has_37]
    refine g_seg0 (pc' := 40) (L' := [some (vR (kO 8) 0), some (vI v1), some (vI v2), some (vI v3)]) (st' := [vI 60, vI v3]) (u1 := u) [(oL 0 3, 1), (oC 60, 2)] (by decide +kernel) rfl rfl ?_
    refine g_igt (off := 35) (tgt := 75) (pc2 := 43) (by decide +kernel) (by decide) rfl ?_ ?_
    · refine g_seg0 (pc' := 76) (L' := [some (vR (kO 8) 0), some (vI v1), some (vI v2), some (vI v3)]) (st' := [vI (-1)]) (u1 := u) [(oC (-1), 1)] (by decide +kernel) rfl rfl ?_
      exact g_iret (by decide +kernel) rfl
    · refine g_seg0 (pc' := 48) (L' := [some (vR (kO 8) 0), some (vI v1), some (vI v2), some (vI v3)]) (st' := [vI v2, vR (kO 5) 42]) (u1 := u) [(oL 2 0, 1), (oP (.getfield 43), 3), (oL 0 2, 1)] (by decide +kernel) rfl rfl ?_
      refine g_callV (k := 146) (pc2 := 51) (st := []) (CX5_holderOf 42 v2 u) miX5_holderOf mvX5_holderOf rfl (by decide) lk8_146 wI_ok (by decide +kernel) rfl (Nat.le_of_ble_eq_true rfl) (by decide) rfl (fun q1 hq1 => ?_)
      refine g_seg0 (pc' := 52) (L' := [some (vR (kO 8) 0), some (vI v1), some (vI v2), some (vI v3)]) (st' := [vI v1, vI (q1.1)]) (u1 := q1.2) [(oL 0 1, 1)] (by decide +kernel) rfl rfl ?_
      refine g_ine (off := 5) (tgt := 57) (pc2 := 55) (by decide +kernel) (by decide) rfl ?_ ?_
      · refine g_seg0 (pc' := 65) (L' := [some (vR (kO 8) 0), some (vI v1), some (vI v2), some (vI v3)]) (st' := [vR (kO 2) (q1.2.2.2 0), vR (kO 5) 42]) (u1 := q1.2) [(oL 2 0, 1), (oP (.getfield 43), 3), (oL 2 0, 1), (oP (.getfield 19), 3)] (by decide +kernel) rfl rfl ?_
        refine g_callV (k := 174) (pc2 := 68) (st := []) (CX5_passQuarter 42 (q1.2.2.2 0) q1.2) miX5_passQuarter mvX5_passQuarter rfl (by decide) lk8_174 wI_ok (by decide +kernel) rfl (Nat.le_of_ble_eq_true rfl) (by decide) rfl (fun q2 hq2 => ?_)
        refine g_seg0 (pc' := 72) (L' := [some (vR (kO 8) 0), some (vI v1), some (vI v2), some (vI (v3 + 1))]) (st' := []) (u1 := q2.2) [(oP .pop, 1), (oN 3 1, 3)] (by decide +kernel) rfl rfl ?_
        refine g_goto (off := (-35)) (tgt := 37) (by decide +kernel) (by decide) ?_
        exact ih v1 v2 (v3 + 1) q2.2
      · refine g_seg0 (pc' := 56) (L' := [some (vR (kO 8) 0), some (vI v1), some (vI v2), some (vI v3)]) (st' := [vI v3]) (u1 := q1.2) [(oL 0 3, 1)] (by decide +kernel) rfl rfl ?_
        exact g_iret (by decide +kernel) rfl
def fX9_has (v1 : Int32) (v2 : Int32) (u : ab_S) : Option (Int32 × ab_S) :=
  (fX2_hasPerson (u.2.2 0) v1 u).bind fun q3 =>
    bif decide (q3.1 = 0) then (
      some ((-1), q3.2))
    else (
      (fX2_hasGood (q3.2.2.2 0) v2 q3.2).bind fun q4 =>
        bif decide (q4.1 = 0) then (
          some ((-1), q4.2))
        else (
          (fX5_copyOf 42 38 q4.2).bind fun q5 =>
            fX9_has_37 fu v1 v2 0 q5.2))
theorem tX9_has (v1 : Int32) (v2 : Int32) (u : ab_S) : ab_G 0 8 cX9_has (some .int) 5 0 [some (vR (kO 8) 0), some (vI v1), some (vI v2), none] [] u wI (fX9_has v1 v2 u) := by
  rw [fX9_has]
  refine g_seg0 (pc' := 5) (L' := [some (vR (kO 8) 0), some (vI v1), some (vI v2), none]) (st' := [vI v1, vR (kO 2) (u.2.2 0)]) (u1 := u) [(oL 2 0, 1), (oP (.getfield 19), 3), (oL 0 1, 1)] (by decide +kernel) rfl rfl ?_
  refine g_callV (k := 120) (pc2 := 8) (st := []) (CX2_hasPerson (u.2.2 0) v1 u) miX2_hasPerson mvX2_hasPerson rfl (by decide) lk8_120 wI_ok (by decide +kernel) rfl (Nat.le_of_ble_eq_true rfl) (by decide) rfl (fun q3 hq3 => ?_)
  refine g_zeq (off := 14) (tgt := 22) (pc2 := 11) (by decide +kernel) (by decide) rfl ?_ ?_
  · refine g_seg0 (pc' := 23) (L' := [some (vR (kO 8) 0), some (vI v1), some (vI v2), none]) (st' := [vI (-1)]) (u1 := q3.2) [(oC (-1), 1)] (by decide +kernel) rfl rfl ?_
    exact g_iret (by decide +kernel) rfl
  · refine g_seg0 (pc' := 16) (L' := [some (vR (kO 8) 0), some (vI v1), some (vI v2), none]) (st' := [vI v2, vR (kO 2) (q3.2.2.2 0)]) (u1 := q3.2) [(oL 2 0, 1), (oP (.getfield 19), 3), (oL 0 2, 1)] (by decide +kernel) rfl rfl ?_
    refine g_callV (k := 137) (pc2 := 19) (st := []) (CX2_hasGood (q3.2.2.2 0) v2 q3.2) miX2_hasGood mvX2_hasGood rfl (by decide) lk8_137 wI_ok (by decide +kernel) rfl (Nat.le_of_ble_eq_true rfl) (by decide) rfl (fun q4 hq4 => ?_)
    refine g_zne (off := 5) (tgt := 24) (pc2 := 22) (by decide +kernel) (by decide) rfl ?_ ?_
    · refine g_seg0 (pc' := 32) (L' := [some (vR (kO 8) 0), some (vI v1), some (vI v2), none]) (st' := [vR (kO 5) 38, vR (kO 5) 42]) (u1 := q4.2) [(oL 2 0, 1), (oP (.getfield 43), 3), (oL 2 0, 1), (oP (.getfield 39), 3)] (by decide +kernel) rfl rfl ?_
      refine g_callV (k := 181) (pc2 := 35) (st := []) (CX5_copyOf 42 38 q4.2) miX5_copyOf mvX5_copyOf rfl (by decide) lk8_181 wV_ok (by decide +kernel) rfl (Nat.le_of_ble_eq_true rfl) (by decide) rfl (fun q5 hq5 => ?_)
      refine g_seg0 (pc' := 37) (L' := [some (vR (kO 8) 0), some (vI v1), some (vI v2), some (vI 0)]) (st' := []) (u1 := q5.2) [(oC 0, 1), (oL 3 3, 1)] (by decide +kernel) rfl rfl ?_
      exact tX9_has_37 fu v1 v2 0 q5.2
    · refine g_seg0 (pc' := 23) (L' := [some (vR (kO 8) 0), some (vI v1), some (vI v2), none]) (st' := [vI (-1)]) (u1 := q4.2) [(oC (-1), 1)] (by decide +kernel) rfl rfl ?_
      exact g_iret (by decide +kernel) rfl
theorem CX9_has (v1 : Int32) (v2 : Int32) (u : ab_S) : ab_C 0 yX9_has cX9_has 4 (some .int) 5 [vR (kO 8) 0, vI v1, vI v2] u wI (fX9_has v1 v2 u) := ab_entry (by decide +kernel) rfl (by decide) (by decide) (fun _ => Nat.le_of_ble_eq_true rfl) rfl (tX9_has v1 v2 u)
def fX9_home_13 : Nat → Int32 → ab_S → Option (Int32 × ab_S)
  | 0, _, _ => none
  | n + 1, v1, u =>
  bif decide (v1 ≤ 60) then (
    (fX5_rightBits 42 (u.2.2 0) u).bind fun q1 =>
      (fX2_allGoods (q1.2.2.2 0) q1.2).bind fun q2 =>
        bif decide (q1.1 = q2.1) then (
          some (v1, q2.2))
        else (
          (fX5_passQuarter 42 (q2.2.2.2 0) q2.2).bind fun q3 =>
            (fX9_home_13 n) (v1 + 1) q3.2))
  else (
    some ((-1), u))
theorem tX9_home_13 : ∀ (n : Nat) (v1 : Int32) (u : ab_S), ab_G 0 8 cX9_home (some .int) 5 13 [some (vR (kO 8) 0), some (vI v1)] [] u wI (fX9_home_13 n v1 u) := by
  intro n
  induction n with
  | zero => intros; exact g_none
  | succ n ih =>
    intro v1 u
    rw [fX9_home_13]
    refine g_seg0 (pc' := 16) (L' := [some (vR (kO 8) 0), some (vI v1)]) (st' := [vI 60, vI v1]) (u1 := u) [(oL 0 1, 1), (oC 60, 2)] (by decide +kernel) rfl rfl ?_
    refine g_igt (off := 44) (tgt := 60) (pc2 := 19) (by decide +kernel) (by decide) rfl ?_ ?_
    · refine g_seg0 (pc' := 61) (L' := [some (vR (kO 8) 0), some (vI v1)]) (st' := [vI (-1)]) (u1 := u) [(oC (-1), 1)] (by decide +kernel) rfl rfl ?_
      exact g_iret (by decide +kernel) rfl
    · refine g_seg0 (pc' := 27) (L' := [some (vR (kO 8) 0), some (vI v1)]) (st' := [vR (kO 2) (u.2.2 0), vR (kO 5) 42]) (u1 := u) [(oL 2 0, 1), (oP (.getfield 43), 3), (oL 2 0, 1), (oP (.getfield 19), 3)] (by decide +kernel) rfl rfl ?_
      refine g_callV (k := 195) (pc2 := 30) (st := []) (CX5_rightBits 42 (u.2.2 0) u) miX5_rightBits mvX5_rightBits rfl (by decide) lk8_195 wI_ok (by decide +kernel) rfl (Nat.le_of_ble_eq_true rfl) (by decide) rfl (fun q1 hq1 => ?_)
      refine g_seg0 (pc' := 34) (L' := [some (vR (kO 8) 0), some (vI v1)]) (st' := [vR (kO 2) (q1.2.2.2 0), vI (q1.1)]) (u1 := q1.2) [(oL 2 0, 1), (oP (.getfield 19), 3)] (by decide +kernel) rfl rfl ?_
      refine g_callV (k := 203) (pc2 := 37) (st := [vI (q1.1)]) (CX2_allGoods (q1.2.2.2 0) q1.2) miX2_allGoods mvX2_allGoods rfl (by decide) lk8_203 wI_ok (by decide +kernel) rfl (Nat.le_of_ble_eq_true rfl) (by decide) rfl (fun q2 hq2 => ?_)
      refine g_ine (off := 5) (tgt := 42) (pc2 := 40) (by decide +kernel) (by decide) rfl ?_ ?_
      · refine g_seg0 (pc' := 50) (L' := [some (vR (kO 8) 0), some (vI v1)]) (st' := [vR (kO 2) (q2.2.2.2 0), vR (kO 5) 42]) (u1 := q2.2) [(oL 2 0, 1), (oP (.getfield 43), 3), (oL 2 0, 1), (oP (.getfield 19), 3)] (by decide +kernel) rfl rfl ?_
        refine g_callV (k := 174) (pc2 := 53) (st := []) (CX5_passQuarter 42 (q2.2.2.2 0) q2.2) miX5_passQuarter mvX5_passQuarter rfl (by decide) lk8_174 wI_ok (by decide +kernel) rfl (Nat.le_of_ble_eq_true rfl) (by decide) rfl (fun q3 hq3 => ?_)
        refine g_seg0 (pc' := 57) (L' := [some (vR (kO 8) 0), some (vI (v1 + 1))]) (st' := []) (u1 := q3.2) [(oP .pop, 1), (oN 1 1, 3)] (by decide +kernel) rfl rfl ?_
        refine g_goto (off := (-44)) (tgt := 13) (by decide +kernel) (by decide) ?_
        exact ih (v1 + 1) q3.2
      · refine g_seg0 (pc' := 41) (L' := [some (vR (kO 8) 0), some (vI v1)]) (st' := [vI v1]) (u1 := q2.2) [(oL 0 1, 1)] (by decide +kernel) rfl rfl ?_
        exact g_iret (by decide +kernel) rfl
def fX9_home (u : ab_S) : Option (Int32 × ab_S) :=
  (fX5_copyOf 42 38 u).bind fun q4 =>
    fX9_home_13 fu 0 q4.2
theorem tX9_home (u : ab_S) : ab_G 0 8 cX9_home (some .int) 5 0 [some (vR (kO 8) 0), none] [] u wI (fX9_home u) := by
  rw [fX9_home]
  refine g_seg0 (pc' := 8) (L' := [some (vR (kO 8) 0), none]) (st' := [vR (kO 5) 38, vR (kO 5) 42]) (u1 := u) [(oL 2 0, 1), (oP (.getfield 43), 3), (oL 2 0, 1), (oP (.getfield 39), 3)] (by decide +kernel) rfl rfl ?_
  refine g_callV (k := 181) (pc2 := 11) (st := []) (CX5_copyOf 42 38 u) miX5_copyOf mvX5_copyOf rfl (by decide) lk8_181 wV_ok (by decide +kernel) rfl (Nat.le_of_ble_eq_true rfl) (by decide) rfl (fun q4 hq4 => ?_)
  refine g_seg0 (pc' := 13) (L' := [some (vR (kO 8) 0), some (vI 0)]) (st' := []) (u1 := q4.2) [(oC 0, 1), (oL 3 1, 1)] (by decide +kernel) rfl rfl ?_
  exact tX9_home_13 fu 0 q4.2
theorem CX9_home (u : ab_S) : ab_C 0 yX9_home cX9_home 2 (some .int) 5 [vR (kO 8) 0] u wI (fX9_home u) := ab_entry (by decide +kernel) rfl (by decide) (by decide) (fun _ => Nat.le_of_ble_eq_true rfl) rfl (tX9_home u)
def fX9_empty_13 : Nat → Int32 → ab_S → Option (Int32 × ab_S)
  | 0, _, _ => none
  | n + 1, v1, u =>
  bif decide (v1 ≤ 60) then (
    (fX5_heldBits 42 (u.2.2 0) u).bind fun q1 =>
      (fX2_allGoods (q1.2.2.2 0) q1.2).bind fun q2 =>
        bif decide (q1.1 = q2.1) then (
          some (v1, q2.2))
        else (
          (fX5_passQuarter 42 (q2.2.2.2 0) q2.2).bind fun q3 =>
            (fX9_empty_13 n) (v1 + 1) q3.2))
  else (
    some ((-1), u))
theorem tX9_empty_13 : ∀ (n : Nat) (v1 : Int32) (u : ab_S), ab_G 0 8 cX9_empty (some .int) 5 13 [some (vR (kO 8) 0), some (vI v1)] [] u wI (fX9_empty_13 n v1 u) := by
  intro n
  induction n with
  | zero => intros; exact g_none
  | succ n ih =>
    intro v1 u
    rw [fX9_empty_13]
    refine g_seg0 (pc' := 16) (L' := [some (vR (kO 8) 0), some (vI v1)]) (st' := [vI 60, vI v1]) (u1 := u) [(oL 0 1, 1), (oC 60, 2)] (by decide +kernel) rfl rfl ?_
    refine g_igt (off := 44) (tgt := 60) (pc2 := 19) (by decide +kernel) (by decide) rfl ?_ ?_
    · refine g_seg0 (pc' := 61) (L' := [some (vR (kO 8) 0), some (vI v1)]) (st' := [vI (-1)]) (u1 := u) [(oC (-1), 1)] (by decide +kernel) rfl rfl ?_
      exact g_iret (by decide +kernel) rfl
    · refine g_seg0 (pc' := 27) (L' := [some (vR (kO 8) 0), some (vI v1)]) (st' := [vR (kO 2) (u.2.2 0), vR (kO 5) 42]) (u1 := u) [(oL 2 0, 1), (oP (.getfield 43), 3), (oL 2 0, 1), (oP (.getfield 19), 3)] (by decide +kernel) rfl rfl ?_
      refine g_callV (k := 207) (pc2 := 30) (st := []) (CX5_heldBits 42 (u.2.2 0) u) miX5_heldBits mvX5_heldBits rfl (by decide) lk8_207 wI_ok (by decide +kernel) rfl (Nat.le_of_ble_eq_true rfl) (by decide) rfl (fun q1 hq1 => ?_)
      refine g_seg0 (pc' := 34) (L' := [some (vR (kO 8) 0), some (vI v1)]) (st' := [vR (kO 2) (q1.2.2.2 0), vI (q1.1)]) (u1 := q1.2) [(oL 2 0, 1), (oP (.getfield 19), 3)] (by decide +kernel) rfl rfl ?_
      refine g_callV (k := 203) (pc2 := 37) (st := [vI (q1.1)]) (CX2_allGoods (q1.2.2.2 0) q1.2) miX2_allGoods mvX2_allGoods rfl (by decide) lk8_203 wI_ok (by decide +kernel) rfl (Nat.le_of_ble_eq_true rfl) (by decide) rfl (fun q2 hq2 => ?_)
      refine g_ine (off := 5) (tgt := 42) (pc2 := 40) (by decide +kernel) (by decide) rfl ?_ ?_
      · refine g_seg0 (pc' := 50) (L' := [some (vR (kO 8) 0), some (vI v1)]) (st' := [vR (kO 2) (q2.2.2.2 0), vR (kO 5) 42]) (u1 := q2.2) [(oL 2 0, 1), (oP (.getfield 43), 3), (oL 2 0, 1), (oP (.getfield 19), 3)] (by decide +kernel) rfl rfl ?_
        refine g_callV (k := 174) (pc2 := 53) (st := []) (CX5_passQuarter 42 (q2.2.2.2 0) q2.2) miX5_passQuarter mvX5_passQuarter rfl (by decide) lk8_174 wI_ok (by decide +kernel) rfl (Nat.le_of_ble_eq_true rfl) (by decide) rfl (fun q3 hq3 => ?_)
        refine g_seg0 (pc' := 57) (L' := [some (vR (kO 8) 0), some (vI (v1 + 1))]) (st' := []) (u1 := q3.2) [(oP .pop, 1), (oN 1 1, 3)] (by decide +kernel) rfl rfl ?_
        refine g_goto (off := (-44)) (tgt := 13) (by decide +kernel) (by decide) ?_
        exact ih (v1 + 1) q3.2
      · refine g_seg0 (pc' := 41) (L' := [some (vR (kO 8) 0), some (vI v1)]) (st' := [vI v1]) (u1 := q2.2) [(oL 0 1, 1)] (by decide +kernel) rfl rfl ?_
        exact g_iret (by decide +kernel) rfl
def fX9_empty (u : ab_S) : Option (Int32 × ab_S) :=
  (fX5_copyOf 42 38 u).bind fun q4 =>
    fX9_empty_13 fu 0 q4.2
theorem tX9_empty (u : ab_S) : ab_G 0 8 cX9_empty (some .int) 5 0 [some (vR (kO 8) 0), none] [] u wI (fX9_empty u) := by
  rw [fX9_empty]
  refine g_seg0 (pc' := 8) (L' := [some (vR (kO 8) 0), none]) (st' := [vR (kO 5) 38, vR (kO 5) 42]) (u1 := u) [(oL 2 0, 1), (oP (.getfield 43), 3), (oL 2 0, 1), (oP (.getfield 39), 3)] (by decide +kernel) rfl rfl ?_
  refine g_callV (k := 181) (pc2 := 11) (st := []) (CX5_copyOf 42 38 u) miX5_copyOf mvX5_copyOf rfl (by decide) lk8_181 wV_ok (by decide +kernel) rfl (Nat.le_of_ble_eq_true rfl) (by decide) rfl (fun q4 hq4 => ?_)
  refine g_seg0 (pc' := 13) (L' := [some (vR (kO 8) 0), some (vI 0)]) (st' := []) (u1 := q4.2) [(oC 0, 1), (oL 3 1, 1)] (by decide +kernel) rfl rfl ?_
  exact tX9_empty_13 fu 0 q4.2
theorem CX9_empty (u : ab_S) : ab_C 0 yX9_empty cX9_empty 2 (some .int) 5 [vR (kO 8) 0] u wI (fX9_empty u) := ab_entry (by decide +kernel) rfl (by decide) (by decide) (fun _ => Nat.le_of_ble_eq_true rfl) rfl (tX9_empty u)
def fX9_won_40 : Nat → Int32 → Int32 → Int32 → Int32 → ab_S → Option (Int32 × ab_S)
  | 0, _, _, _, _, _ => none
  | n + 1, v1, v2, v3, v4, u =>
  bif decide (v4 < v2) then (
    (fX5_passQuarter 42 (u.2.2 0) u).bind fun q1 =>
      bif decide (q1.1 = v1) then (
        (fX9_won_40 n) v1 v2 (v3 + 1) (v4 + 1) q1.2)
      else (
        (fX9_won_40 n) v1 v2 v3 (v4 + 1) q1.2))
  else (
    some (v3, u))
theorem tX9_won_40 : ∀ (n : Nat) (v1 : Int32) (v2 : Int32) (v3 : Int32) (v4 : Int32) (u : ab_S), ab_G 0 8 cX9_won (some .int) 5 40 [some (vR (kO 8) 0), some (vI v1), some (vI v2), some (vI v3), some (vI v4)] [] u wI (fX9_won_40 n v1 v2 v3 v4 u) := by
  intro n
  induction n with
  | zero => intros; exact g_none
  | succ n ih =>
    intro v1 v2 v3 v4 u
    rw [fX9_won_40]
    refine g_seg0 (pc' := 43) (L' := [some (vR (kO 8) 0), some (vI v1), some (vI v2), some (vI v3), some (vI v4)]) (st' := [vI v2, vI v4]) (u1 := u) [(oL 0 4, 2), (oL 0 2, 1)] (by decide +kernel) rfl rfl ?_
    refine g_ige (off := 27) (tgt := 70) (pc2 := 46) (by decide +kernel) (by decide) rfl ?_ ?_
    · refine g_seg0 (pc' := 71) (L' := [some (vR (kO 8) 0), some (vI v1), some (vI v2), some (vI v3), some (vI v4)]) (st' := [vI v3]) (u1 := u) [(oL 0 3, 1)] (by decide +kernel) rfl rfl ?_
      exact g_iret (by decide +kernel) rfl
    · refine g_seg0 (pc' := 54) (L' := [some (vR (kO 8) 0), some (vI v1), some (vI v2), some (vI v3), some (vI v4)]) (st' := [vR (kO 2) (u.2.2 0), vR (kO 5) 42]) (u1 := u) [(oL 2 0, 1), (oP (.getfield 43), 3), (oL 2 0, 1), (oP (.getfield 19), 3)] (by decide +kernel) rfl rfl ?_
      refine g_callV (k := 174) (pc2 := 57) (st := []) (CX5_passQuarter 42 (u.2.2 0) u) miX5_passQuarter mvX5_passQuarter rfl (by decide) lk8_174 wI_ok (by decide +kernel) rfl (Nat.le_of_ble_eq_true rfl) (by decide) rfl (fun q1 hq1 => ?_)
      refine g_seg0 (pc' := 58) (L' := [some (vR (kO 8) 0), some (vI v1), some (vI v2), some (vI v3), some (vI v4)]) (st' := [vI v1, vI (q1.1)]) (u1 := q1.2) [(oL 0 1, 1)] (by decide +kernel) rfl rfl ?_
      refine g_ine (off := 6) (tgt := 64) (pc2 := 61) (by decide +kernel) (by decide) rfl ?_ ?_
      · refine g_seg0 (pc' := 67) (L' := [some (vR (kO 8) 0), some (vI v1), some (vI v2), some (vI v3), some (vI (v4 + 1))]) (st' := []) (u1 := q1.2) [(oN 4 1, 3)] (by decide +kernel) rfl rfl ?_
        refine g_goto (off := (-27)) (tgt := 40) (by decide +kernel) (by decide) ?_
        exact ih v1 v2 v3 (v4 + 1) q1.2
      · refine g_seg0 (pc' := 67) (L' := [some (vR (kO 8) 0), some (vI v1), some (vI v2), some (vI (v3 + 1)), some (vI (v4 + 1))]) (st' := []) (u1 := q1.2) [(oN 3 1, 3), (oN 4 1, 3)] (by decide +kernel) rfl rfl ?_
        refine g_goto (off := (-27)) (tgt := 40) (by decide +kernel) (by decide) ?_
        exact ih v1 v2 (v3 + 1) (v4 + 1) q1.2
def fX9_won (v1 : Int32) (v2 : Int32) (u : ab_S) : Option (Int32 × ab_S) :=
  (fX2_hasPerson (u.2.2 0) v1 u).bind fun q2 =>
    bif decide (q2.1 = 0) then (
      some ((-1), q2.2))
    else (
      bif decide (v2 < 1) then (
        some ((-1), q2.2))
      else (
        bif decide (v2 ≤ 60) then (
          (fX5_copyOf 42 38 q2.2).bind fun q3 =>
            fX9_won_40 fu v1 v2 0 0 q3.2)
        else (
          some ((-1), q2.2))))
theorem tX9_won (v1 : Int32) (v2 : Int32) (u : ab_S) : ab_G 0 8 cX9_won (some .int) 5 0 [some (vR (kO 8) 0), some (vI v1), some (vI v2), none, none] [] u wI (fX9_won v1 v2 u) := by
  rw [fX9_won]
  refine g_seg0 (pc' := 5) (L' := [some (vR (kO 8) 0), some (vI v1), some (vI v2), none, none]) (st' := [vI v1, vR (kO 2) (u.2.2 0)]) (u1 := u) [(oL 2 0, 1), (oP (.getfield 19), 3), (oL 0 1, 1)] (by decide +kernel) rfl rfl ?_
  refine g_callV (k := 120) (pc2 := 8) (st := []) (CX2_hasPerson (u.2.2 0) v1 u) miX2_hasPerson mvX2_hasPerson rfl (by decide) lk8_120 wI_ok (by decide +kernel) rfl (Nat.le_of_ble_eq_true rfl) (by decide) rfl (fun q2 hq2 => ?_)
  refine g_zeq (off := 14) (tgt := 22) (pc2 := 11) (by decide +kernel) (by decide) rfl ?_ ?_
  · refine g_seg0 (pc' := 23) (L' := [some (vR (kO 8) 0), some (vI v1), some (vI v2), none, none]) (st' := [vI (-1)]) (u1 := q2.2) [(oC (-1), 1)] (by decide +kernel) rfl rfl ?_
    exact g_iret (by decide +kernel) rfl
  · refine g_seg0 (pc' := 13) (L' := [some (vR (kO 8) 0), some (vI v1), some (vI v2), none, none]) (st' := [vI 1, vI v2]) (u1 := q2.2) [(oL 0 2, 1), (oC 1, 1)] (by decide +kernel) rfl rfl ?_
    refine g_ilt (off := 9) (tgt := 22) (pc2 := 16) (by decide +kernel) (by decide) rfl ?_ ?_
    · refine g_seg0 (pc' := 23) (L' := [some (vR (kO 8) 0), some (vI v1), some (vI v2), none, none]) (st' := [vI (-1)]) (u1 := q2.2) [(oC (-1), 1)] (by decide +kernel) rfl rfl ?_
      exact g_iret (by decide +kernel) rfl
    · refine g_seg0 (pc' := 19) (L' := [some (vR (kO 8) 0), some (vI v1), some (vI v2), none, none]) (st' := [vI 60, vI v2]) (u1 := q2.2) [(oL 0 2, 1), (oC 60, 2)] (by decide +kernel) rfl rfl ?_
      refine g_ile (off := 5) (tgt := 24) (pc2 := 22) (by decide +kernel) (by decide) rfl ?_ ?_
      · refine g_seg0 (pc' := 32) (L' := [some (vR (kO 8) 0), some (vI v1), some (vI v2), none, none]) (st' := [vR (kO 5) 38, vR (kO 5) 42]) (u1 := q2.2) [(oL 2 0, 1), (oP (.getfield 43), 3), (oL 2 0, 1), (oP (.getfield 39), 3)] (by decide +kernel) rfl rfl ?_
        refine g_callV (k := 181) (pc2 := 35) (st := []) (CX5_copyOf 42 38 q2.2) miX5_copyOf mvX5_copyOf rfl (by decide) lk8_181 wV_ok (by decide +kernel) rfl (Nat.le_of_ble_eq_true rfl) (by decide) rfl (fun q3 hq3 => ?_)
        refine g_seg0 (pc' := 40) (L' := [some (vR (kO 8) 0), some (vI v1), some (vI v2), some (vI 0), some (vI 0)]) (st' := []) (u1 := q3.2) [(oC 0, 1), (oL 3 3, 1), (oC 0, 1), (oL 3 4, 2)] (by decide +kernel) rfl rfl ?_
        exact tX9_won_40 fu v1 v2 0 0 q3.2
      · refine g_seg0 (pc' := 23) (L' := [some (vR (kO 8) 0), some (vI v1), some (vI v2), none, none]) (st' := [vI (-1)]) (u1 := q2.2) [(oC (-1), 1)] (by decide +kernel) rfl rfl ?_
        exact g_iret (by decide +kernel) rfl
theorem CX9_won (v1 : Int32) (v2 : Int32) (u : ab_S) : ab_C 0 yX9_won cX9_won 5 (some .int) 5 [vR (kO 8) 0, vI v1, vI v2] u wI (fX9_won v1 v2 u) := ab_entry (by decide +kernel) rfl (by decide) (by decide) (fun _ => Nat.le_of_ble_eq_true rfl) rfl (tX9_won v1 v2 u)
def fX9_streak_82 (k43 : Int32 → Int32 → Int32 → Int32 → Int32 → ab_S → Option (Int32 × ab_S)) (v1 : Int32) (v2 : Int32) (v3 : Int32) (v5 : Int32) (s0 : Int32) (u : ab_S) : Option (Int32 × ab_S) :=
  k43 v1 v2 (if v3 < s0 then s0 else v3) s0 (v5 + 1) u
theorem tX9_streak_82 (k43 : Int32 → Int32 → Int32 → Int32 → Int32 → ab_S → Option (Int32 × ab_S)) (hk43 : ∀ (v1 : Int32) (v2 : Int32) (v3 : Int32) (v4 : Int32) (v5 : Int32) (u : ab_S), ab_G 0 8 cX9_streak (some .int) 5 43 [some (vR (kO 8) 0), some (vI v1), some (vI v2), some (vI v3), some (vI v4), some (vI v5), none] [] u wI (k43 v1 v2 v3 v4 v5 u)) (v1 : Int32) (v2 : Int32) (v3 : Int32) (v5 : Int32) (s0 : Int32) (u : ab_S) : ab_G 0 8 cX9_streak (some .int) 5 82 [some (vR (kO 8) 0), some (vI v1), some (vI v2), some (vI v3), none, some (vI v5), none] [vI s0] u wI (fX9_streak_82 k43 v1 v2 v3 v5 s0 u) := by
  rw [fX9_streak_82]
  refine g_seg0 (pc' := 87) (L' := [some (vR (kO 8) 0), some (vI v1), some (vI v2), some (vI v3), some (vI s0), some (vI v5), none]) (st' := [vI s0, vI v3]) (u1 := u) [(oL 3 4, 2), (oL 0 3, 1), (oL 0 4, 2)] (by decide +kernel) rfl rfl ?_
  refine g_max (k := 210) (pc2 := 90) (st := []) lm8_210 (by decide +kernel) (Nat.le_of_ble_eq_true rfl) (by decide) rfl ?_
  refine g_seg0 (pc' := 94) (L' := [some (vR (kO 8) 0), some (vI v1), some (vI v2), some (vI (if v3 < s0 then s0 else v3)), some (vI s0), some (vI (v5 + 1)), none]) (st' := []) (u1 := u) [(oL 3 3, 1), (oN 5 1, 3)] (by decide +kernel) rfl rfl ?_
  refine g_goto (off := (-51)) (tgt := 43) (by decide +kernel) (by decide) ?_
  exact hk43 v1 v2 (if v3 < s0 then s0 else v3) s0 (v5 + 1) u
def fX9_streak_43 : Nat → Int32 → Int32 → Int32 → Int32 → Int32 → ab_S → Option (Int32 × ab_S)
  | 0, _, _, _, _, _, _ => none
  | n + 1, v1, v2, v3, v4, v5, u =>
  bif decide (v5 < v2) then (
    (fX5_passQuarter 42 (u.2.2 0) u).bind fun q1 =>
      bif decide (q1.1 = (-1)) then (
        (fX9_streak_43 n) v1 v2 v3 v4 (v5 + 1) q1.2)
      else (
        bif decide (q1.1 = v1) then (
          fX9_streak_82 (fX9_streak_43 n) v1 v2 v3 v5 (v4 + 1) q1.2)
        else (
          fX9_streak_82 (fX9_streak_43 n) v1 v2 v3 v5 0 q1.2)))
  else (
    some (v3, u))
theorem tX9_streak_43 : ∀ (n : Nat) (v1 : Int32) (v2 : Int32) (v3 : Int32) (v4 : Int32) (v5 : Int32) (u : ab_S), ab_G 0 8 cX9_streak (some .int) 5 43 [some (vR (kO 8) 0), some (vI v1), some (vI v2), some (vI v3), some (vI v4), some (vI v5), none] [] u wI (fX9_streak_43 n v1 v2 v3 v4 v5 u) := by
  intro n
  induction n with
  | zero => intros; exact g_none
  | succ n ih =>
    intro v1 v2 v3 v4 v5 u
    rw [fX9_streak_43]
    refine g_seg0 (pc' := 46) (L' := [some (vR (kO 8) 0), some (vI v1), some (vI v2), some (vI v3), some (vI v4), some (vI v5), none]) (st' := [vI v2, vI v5]) (u1 := u) [(oL 0 5, 2), (oL 0 2, 1)] (by decide +kernel) rfl rfl ?_
    refine g_ige (off := 51) (tgt := 97) (pc2 := 49) (by decide +kernel) (by decide) rfl ?_ ?_
    · refine g_seg0 (pc' := 98) (L' := [some (vR (kO 8) 0), some (vI v1), some (vI v2), some (vI v3), some (vI v4), some (vI v5), none]) (st' := [vI v3]) (u1 := u) [(oL 0 3, 1)] (by decide +kernel) rfl rfl ?_
      exact g_iret (by decide +kernel) rfl
    · refine g_seg0 (pc' := 57) (L' := [some (vR (kO 8) 0), some (vI v1), some (vI v2), some (vI v3), some (vI v4), some (vI v5), none]) (st' := [vR (kO 2) (u.2.2 0), vR (kO 5) 42]) (u1 := u) [(oL 2 0, 1), (oP (.getfield 43), 3), (oL 2 0, 1), (oP (.getfield 19), 3)] (by decide +kernel) rfl rfl ?_
      refine g_callV (k := 174) (pc2 := 60) (st := []) (CX5_passQuarter 42 (u.2.2 0) u) miX5_passQuarter mvX5_passQuarter rfl (by decide) lk8_174 wI_ok (by decide +kernel) rfl (Nat.le_of_ble_eq_true rfl) (by decide) rfl (fun q1 hq1 => ?_)
      refine g_seg0 (pc' := 65) (L' := [some (vR (kO 8) 0), some (vI v1), some (vI v2), some (vI v3), some (vI v4), some (vI v5), some (vI (q1.1))]) (st' := [vI (-1), vI (q1.1)]) (u1 := q1.2) [(oL 3 6, 2), (oL 0 6, 2), (oC (-1), 1)] (by decide +kernel) rfl rfl ?_
      refine g_ieq (off := 26) (tgt := 91) (pc2 := 68) (by decide +kernel) (by decide) rfl ?_ ?_
      · refine g_seg0 (pc' := 94) (L' := [some (vR (kO 8) 0), some (vI v1), some (vI v2), some (vI v3), some (vI v4), some (vI (v5 + 1)), some (vI (q1.1))]) (st' := []) (u1 := q1.2) [(oN 5 1, 3)] (by decide +kernel) rfl rfl ?_
        refine g_goto (off := (-51)) (tgt := 43) (by decide +kernel) (by decide) ?_
        exact g_jump [true, true, true, true, true, true, false] rfl (ih v1 v2 v3 v4 (v5 + 1) q1.2)
      · refine g_seg0 (pc' := 71) (L' := [some (vR (kO 8) 0), some (vI v1), some (vI v2), some (vI v3), some (vI v4), some (vI v5), some (vI (q1.1))]) (st' := [vI v1, vI (q1.1)]) (u1 := q1.2) [(oL 0 6, 2), (oL 0 1, 1)] (by decide +kernel) rfl rfl ?_
        refine g_ine (off := 10) (tgt := 81) (pc2 := 74) (by decide +kernel) (by decide) rfl ?_ ?_
        · refine g_seg0 (pc' := 82) (L' := [some (vR (kO 8) 0), some (vI v1), some (vI v2), some (vI v3), some (vI v4), some (vI v5), some (vI (q1.1))]) (st' := [vI 0]) (u1 := q1.2) [(oC 0, 1)] (by decide +kernel) rfl rfl ?_
          exact g_jump [true, true, true, true, false, true, false] rfl (tX9_streak_82 (fX9_streak_43 n) ih v1 v2 v3 v5 0 q1.2)
        · refine g_seg0 (pc' := 78) (L' := [some (vR (kO 8) 0), some (vI v1), some (vI v2), some (vI v3), some (vI v4), some (vI v5), some (vI (q1.1))]) (st' := [vI (v4 + 1)]) (u1 := q1.2) [(oL 0 4, 2), (oC 1, 1), (oP .iadd, 1)] (by decide +kernel) rfl rfl ?_
          refine g_goto (off := 4) (tgt := 82) (by decide +kernel) (by decide) ?_
          exact g_jump [true, true, true, true, false, true, false] rfl (tX9_streak_82 (fX9_streak_43 n) ih v1 v2 v3 v5 (v4 + 1) q1.2)
def fX9_streak (v1 : Int32) (v2 : Int32) (u : ab_S) : Option (Int32 × ab_S) :=
  (fX2_hasPerson (u.2.2 0) v1 u).bind fun q2 =>
    bif decide (q2.1 = 0) then (
      some ((-1), q2.2))
    else (
      bif decide (v2 < 1) then (
        some ((-1), q2.2))
      else (
        bif decide (v2 ≤ 60) then (
          (fX5_copyOf 42 38 q2.2).bind fun q3 =>
            fX9_streak_43 fu v1 v2 0 0 0 q3.2)
        else (
          some ((-1), q2.2))))
theorem tX9_streak (v1 : Int32) (v2 : Int32) (u : ab_S) : ab_G 0 8 cX9_streak (some .int) 5 0 [some (vR (kO 8) 0), some (vI v1), some (vI v2), none, none, none, none] [] u wI (fX9_streak v1 v2 u) := by
  rw [fX9_streak]
  refine g_seg0 (pc' := 5) (L' := [some (vR (kO 8) 0), some (vI v1), some (vI v2), none, none, none, none]) (st' := [vI v1, vR (kO 2) (u.2.2 0)]) (u1 := u) [(oL 2 0, 1), (oP (.getfield 19), 3), (oL 0 1, 1)] (by decide +kernel) rfl rfl ?_
  refine g_callV (k := 120) (pc2 := 8) (st := []) (CX2_hasPerson (u.2.2 0) v1 u) miX2_hasPerson mvX2_hasPerson rfl (by decide) lk8_120 wI_ok (by decide +kernel) rfl (Nat.le_of_ble_eq_true rfl) (by decide) rfl (fun q2 hq2 => ?_)
  refine g_zeq (off := 14) (tgt := 22) (pc2 := 11) (by decide +kernel) (by decide) rfl ?_ ?_
  · refine g_seg0 (pc' := 23) (L' := [some (vR (kO 8) 0), some (vI v1), some (vI v2), none, none, none, none]) (st' := [vI (-1)]) (u1 := q2.2) [(oC (-1), 1)] (by decide +kernel) rfl rfl ?_
    exact g_iret (by decide +kernel) rfl
  · refine g_seg0 (pc' := 13) (L' := [some (vR (kO 8) 0), some (vI v1), some (vI v2), none, none, none, none]) (st' := [vI 1, vI v2]) (u1 := q2.2) [(oL 0 2, 1), (oC 1, 1)] (by decide +kernel) rfl rfl ?_
    refine g_ilt (off := 9) (tgt := 22) (pc2 := 16) (by decide +kernel) (by decide) rfl ?_ ?_
    · refine g_seg0 (pc' := 23) (L' := [some (vR (kO 8) 0), some (vI v1), some (vI v2), none, none, none, none]) (st' := [vI (-1)]) (u1 := q2.2) [(oC (-1), 1)] (by decide +kernel) rfl rfl ?_
      exact g_iret (by decide +kernel) rfl
    · refine g_seg0 (pc' := 19) (L' := [some (vR (kO 8) 0), some (vI v1), some (vI v2), none, none, none, none]) (st' := [vI 60, vI v2]) (u1 := q2.2) [(oL 0 2, 1), (oC 60, 2)] (by decide +kernel) rfl rfl ?_
      refine g_ile (off := 5) (tgt := 24) (pc2 := 22) (by decide +kernel) (by decide) rfl ?_ ?_
      · refine g_seg0 (pc' := 32) (L' := [some (vR (kO 8) 0), some (vI v1), some (vI v2), none, none, none, none]) (st' := [vR (kO 5) 38, vR (kO 5) 42]) (u1 := q2.2) [(oL 2 0, 1), (oP (.getfield 43), 3), (oL 2 0, 1), (oP (.getfield 39), 3)] (by decide +kernel) rfl rfl ?_
        refine g_callV (k := 181) (pc2 := 35) (st := []) (CX5_copyOf 42 38 q2.2) miX5_copyOf mvX5_copyOf rfl (by decide) lk8_181 wV_ok (by decide +kernel) rfl (Nat.le_of_ble_eq_true rfl) (by decide) rfl (fun q3 hq3 => ?_)
        refine g_seg0 (pc' := 43) (L' := [some (vR (kO 8) 0), some (vI v1), some (vI v2), some (vI 0), some (vI 0), some (vI 0), none]) (st' := []) (u1 := q3.2) [(oC 0, 1), (oL 3 3, 1), (oC 0, 1), (oL 3 4, 2), (oC 0, 1), (oL 3 5, 2)] (by decide +kernel) rfl rfl ?_
        exact tX9_streak_43 fu v1 v2 0 0 0 q3.2
      · refine g_seg0 (pc' := 23) (L' := [some (vR (kO 8) 0), some (vI v1), some (vI v2), none, none, none, none]) (st' := [vI (-1)]) (u1 := q2.2) [(oC (-1), 1)] (by decide +kernel) rfl rfl ?_
        exact g_iret (by decide +kernel) rfl
theorem CX9_streak (v1 : Int32) (v2 : Int32) (u : ab_S) : ab_C 0 yX9_streak cX9_streak 7 (some .int) 5 [vR (kO 8) 0, vI v1, vI v2] u wI (fX9_streak v1 v2 u) := ab_entry (by decide +kernel) rfl (by decide) (by decide) (fun _ => Nat.le_of_ble_eq_true rfl) rfl (tX9_streak v1 v2 u)
def fX9_moves_26 : Nat → Int32 → Int32 → ab_S → Option (Int32 × ab_S)
  | 0, _, _, _ => none
  | n + 1, v1, v2, u =>
  bif decide (v2 ≤ 60) then (
    (fX5_passQuarter 42 (u.2.2 0) u).bind fun q1 =>
      (fX5_holderOf 42 v1 q1.2).bind fun q2 =>
        (fX5_holderOf 38 v1 q2.2).bind fun q3 =>
          bif decide (q2.1 = q3.1) then (
            (fX9_moves_26 n) v1 (v2 + 1) q3.2)
          else (
            some (v2, q3.2)))
  else (
    some ((-1), u))
theorem tX9_moves_26 : ∀ (n : Nat) (v1 : Int32) (v2 : Int32) (u : ab_S), ab_G 0 8 cX9_moves (some .int) 5 26 [some (vR (kO 8) 0), some (vI v1), some (vI v2)] [] u wI (fX9_moves_26 n v1 v2 u) := by
  intro n
  induction n with
  | zero => intros; exact g_none
  | succ n ih =>
    intro v1 v2 u
    rw [fX9_moves_26]
    refine g_seg0 (pc' := 29) (L' := [some (vR (kO 8) 0), some (vI v1), some (vI v2)]) (st' := [vI 60, vI v2]) (u1 := u) [(oL 0 2, 1), (oC 60, 2)] (by decide +kernel) rfl rfl ?_
    refine g_igt (off := 42) (tgt := 71) (pc2 := 32) (by decide +kernel) (by decide) rfl ?_ ?_
    · refine g_seg0 (pc' := 72) (L' := [some (vR (kO 8) 0), some (vI v1), some (vI v2)]) (st' := [vI (-1)]) (u1 := u) [(oC (-1), 1)] (by decide +kernel) rfl rfl ?_
      exact g_iret (by decide +kernel) rfl
    · refine g_seg0 (pc' := 40) (L' := [some (vR (kO 8) 0), some (vI v1), some (vI v2)]) (st' := [vR (kO 2) (u.2.2 0), vR (kO 5) 42]) (u1 := u) [(oL 2 0, 1), (oP (.getfield 43), 3), (oL 2 0, 1), (oP (.getfield 19), 3)] (by decide +kernel) rfl rfl ?_
      refine g_callV (k := 174) (pc2 := 43) (st := []) (CX5_passQuarter 42 (u.2.2 0) u) miX5_passQuarter mvX5_passQuarter rfl (by decide) lk8_174 wI_ok (by decide +kernel) rfl (Nat.le_of_ble_eq_true rfl) (by decide) rfl (fun q1 hq1 => ?_)
      refine g_seg0 (pc' := 49) (L' := [some (vR (kO 8) 0), some (vI v1), some (vI v2)]) (st' := [vI v1, vR (kO 5) 42]) (u1 := q1.2) [(oP .pop, 1), (oL 2 0, 1), (oP (.getfield 43), 3), (oL 0 1, 1)] (by decide +kernel) rfl rfl ?_
      refine g_callV (k := 146) (pc2 := 52) (st := []) (CX5_holderOf 42 v1 q1.2) miX5_holderOf mvX5_holderOf rfl (by decide) lk8_146 wI_ok (by decide +kernel) rfl (Nat.le_of_ble_eq_true rfl) (by decide) rfl (fun q2 hq2 => ?_)
      refine g_seg0 (pc' := 57) (L' := [some (vR (kO 8) 0), some (vI v1), some (vI v2)]) (st' := [vI v1, vR (kO 5) 38, vI (q2.1)]) (u1 := q2.2) [(oL 2 0, 1), (oP (.getfield 39), 3), (oL 0 1, 1)] (by decide +kernel) rfl rfl ?_
      refine g_callV (k := 146) (pc2 := 60) (st := [vI (q2.1)]) (CX5_holderOf 38 v1 q2.2) miX5_holderOf mvX5_holderOf rfl (by decide) lk8_146 wI_ok (by decide +kernel) rfl (Nat.le_of_ble_eq_true rfl) (by decide) rfl (fun q3 hq3 => ?_)
      refine g_ieq (off := 5) (tgt := 65) (pc2 := 63) (by decide +kernel) (by decide) rfl ?_ ?_
      · refine g_seg0 (pc' := 68) (L' := [some (vR (kO 8) 0), some (vI v1), some (vI (v2 + 1))]) (st' := []) (u1 := q3.2) [(oN 2 1, 3)] (by decide +kernel) rfl rfl ?_
        refine g_goto (off := (-42)) (tgt := 26) (by decide +kernel) (by decide) ?_
        exact ih v1 (v2 + 1) q3.2
      · refine g_seg0 (pc' := 64) (L' := [some (vR (kO 8) 0), some (vI v1), some (vI v2)]) (st' := [vI v2]) (u1 := q3.2) [(oL 0 2, 1)] (by decide +kernel) rfl rfl ?_
        exact g_iret (by decide +kernel) rfl
def fX9_moves (v1 : Int32) (u : ab_S) : Option (Int32 × ab_S) :=
  (fX2_hasGood (u.2.2 0) v1 u).bind fun q4 =>
    bif decide (q4.1 = 0) then (
      some ((-1), q4.2))
    else (
      (fX5_copyOf 42 38 q4.2).bind fun q5 =>
        fX9_moves_26 fu v1 1 q5.2)
theorem tX9_moves (v1 : Int32) (u : ab_S) : ab_G 0 8 cX9_moves (some .int) 5 0 [some (vR (kO 8) 0), some (vI v1), none] [] u wI (fX9_moves v1 u) := by
  rw [fX9_moves]
  refine g_seg0 (pc' := 5) (L' := [some (vR (kO 8) 0), some (vI v1), none]) (st' := [vI v1, vR (kO 2) (u.2.2 0)]) (u1 := u) [(oL 2 0, 1), (oP (.getfield 19), 3), (oL 0 1, 1)] (by decide +kernel) rfl rfl ?_
  refine g_callV (k := 137) (pc2 := 8) (st := []) (CX2_hasGood (u.2.2 0) v1 u) miX2_hasGood mvX2_hasGood rfl (by decide) lk8_137 wI_ok (by decide +kernel) rfl (Nat.le_of_ble_eq_true rfl) (by decide) rfl (fun q4 hq4 => ?_)
  refine g_zne (off := 5) (tgt := 13) (pc2 := 11) (by decide +kernel) (by decide) rfl ?_ ?_
  · refine g_seg0 (pc' := 21) (L' := [some (vR (kO 8) 0), some (vI v1), none]) (st' := [vR (kO 5) 38, vR (kO 5) 42]) (u1 := q4.2) [(oL 2 0, 1), (oP (.getfield 43), 3), (oL 2 0, 1), (oP (.getfield 39), 3)] (by decide +kernel) rfl rfl ?_
    refine g_callV (k := 181) (pc2 := 24) (st := []) (CX5_copyOf 42 38 q4.2) miX5_copyOf mvX5_copyOf rfl (by decide) lk8_181 wV_ok (by decide +kernel) rfl (Nat.le_of_ble_eq_true rfl) (by decide) rfl (fun q5 hq5 => ?_)
    refine g_seg0 (pc' := 26) (L' := [some (vR (kO 8) 0), some (vI v1), some (vI 1)]) (st' := []) (u1 := q5.2) [(oC 1, 1), (oL 3 2, 1)] (by decide +kernel) rfl rfl ?_
    exact tX9_moves_26 fu v1 1 q5.2
  · refine g_seg0 (pc' := 12) (L' := [some (vR (kO 8) 0), some (vI v1), none]) (st' := [vI (-1)]) (u1 := q4.2) [(oC (-1), 1)] (by decide +kernel) rfl rfl ?_
    exact g_iret (by decide +kernel) rfl
theorem CX9_moves (v1 : Int32) (u : ab_S) : ab_C 0 yX9_moves cX9_moves 3 (some .int) 5 [vR (kO 8) 0, vI v1] u wI (fX9_moves v1 u) := ab_entry (by decide +kernel) rfl (by decide) (by decide) (fun _ => Nat.le_of_ble_eq_true rfl) rfl (tX9_moves v1 u)
def fX9_least_23 (k6 : Int32 → Int32 → Int32 → ab_S → Option (Int32 × ab_S)) : Nat → Int32 → Int32 → Int32 → Int32 → Int32 → ab_S → Option (Int32 × ab_S)
  | 0, _, _, _, _, _, _ => none
  | n + 1, v1, v2, v3, v4, v5, u =>
  bif decide (v5 < (u.1 (u.2.2 0) 0)) then (
    (fX5_fitOf 38 (u.2.2 0) v5 v3 u).bind fun q1 =>
      (fX9_least_23 k6 n) v1 v2 v3 (v4 + q1.1) (v5 + 1) q1.2)
  else (
    bif decide (v1 = (-1)) then (
      k6 v3 v4 (v3 + 1) u)
    else (
      bif decide (v4 < v2) then (
        k6 v3 v4 (v3 + 1) u)
      else (
        k6 v1 v2 (v3 + 1) u)))
theorem tX9_least_23 (k6 : Int32 → Int32 → Int32 → ab_S → Option (Int32 × ab_S)) (hk6 : ∀ (v1 : Int32) (v2 : Int32) (v3 : Int32) (u : ab_S), ab_G 0 8 cX9_least (some .int) 3 6 [some (vR (kO 8) 0), some (vI v1), some (vI v2), some (vI v3), none, none] [] u wI (k6 v1 v2 v3 u)) : ∀ (n : Nat) (v1 : Int32) (v2 : Int32) (v3 : Int32) (v4 : Int32) (v5 : Int32) (u : ab_S), ab_G 0 8 cX9_least (some .int) 3 23 [some (vR (kO 8) 0), some (vI v1), some (vI v2), some (vI v3), some (vI v4), some (vI v5)] [] u wI (fX9_least_23 k6 n v1 v2 v3 v4 v5 u) := by
  intro n
  induction n with
  | zero => intros; exact g_none
  | succ n ih =>
    intro v1 v2 v3 v4 v5 u
    rw [fX9_least_23]
    refine g_seg0 (pc' := 32) (L' := [some (vR (kO 8) 0), some (vI v1), some (vI v2), some (vI v3), some (vI v4), some (vI v5)]) (st' := [vI (u.1 (u.2.2 0) 0), vI v5]) (u1 := u) [(oL 0 5, 2), (oL 2 0, 1), (oP (.getfield 19), 3), (oP (.getfield 216), 3)] (by decide +kernel) rfl rfl ?_
    refine g_ige (off := 28) (tgt := 60) (pc2 := 35) (by decide +kernel) (by decide) rfl ?_ ?_
    · refine g_seg0 (pc' := 62) (L' := [some (vR (kO 8) 0), some (vI v1), some (vI v2), some (vI v3), some (vI v4), some (vI v5)]) (st' := [vI (-1), vI v1]) (u1 := u) [(oL 0 1, 1), (oC (-1), 1)] (by decide +kernel) rfl rfl ?_
      refine g_ieq (off := 9) (tgt := 71) (pc2 := 65) (by decide +kernel) (by decide) rfl ?_ ?_
      · refine g_seg0 (pc' := 79) (L' := [some (vR (kO 8) 0), some (vI v3), some (vI v4), some (vI (v3 + 1)), some (vI v4), some (vI v5)]) (st' := []) (u1 := u) [(oL 0 3, 1), (oL 3 1, 1), (oL 0 4, 2), (oL 3 2, 1), (oN 3 1, 3)] (by decide +kernel) rfl rfl ?_
        refine g_goto (off := (-73)) (tgt := 6) (by decide +kernel) (by decide) ?_
        exact g_jump [true, true, true, true, false, false] rfl (hk6 v3 v4 (v3 + 1) u)
      · refine g_seg0 (pc' := 68) (L' := [some (vR (kO 8) 0), some (vI v1), some (vI v2), some (vI v3), some (vI v4), some (vI v5)]) (st' := [vI v2, vI v4]) (u1 := u) [(oL 0 4, 2), (oL 0 2, 1)] (by decide +kernel) rfl rfl ?_
        refine g_ige (off := 8) (tgt := 76) (pc2 := 71) (by decide +kernel) (by decide) rfl ?_ ?_
        · refine g_seg0 (pc' := 79) (L' := [some (vR (kO 8) 0), some (vI v1), some (vI v2), some (vI (v3 + 1)), some (vI v4), some (vI v5)]) (st' := []) (u1 := u) [(oN 3 1, 3)] (by decide +kernel) rfl rfl ?_
          refine g_goto (off := (-73)) (tgt := 6) (by decide +kernel) (by decide) ?_
          exact g_jump [true, true, true, true, false, false] rfl (hk6 v1 v2 (v3 + 1) u)
        · refine g_seg0 (pc' := 79) (L' := [some (vR (kO 8) 0), some (vI v3), some (vI v4), some (vI (v3 + 1)), some (vI v4), some (vI v5)]) (st' := []) (u1 := u) [(oL 0 3, 1), (oL 3 1, 1), (oL 0 4, 2), (oL 3 2, 1), (oN 3 1, 3)] (by decide +kernel) rfl rfl ?_
          refine g_goto (off := (-73)) (tgt := 6) (by decide +kernel) (by decide) ?_
          exact g_jump [true, true, true, true, false, false] rfl (hk6 v3 v4 (v3 + 1) u)
    · refine g_seg0 (pc' := 48) (L' := [some (vR (kO 8) 0), some (vI v1), some (vI v2), some (vI v3), some (vI v4), some (vI v5)]) (st' := [vI v3, vI v5, vR (kO 2) (u.2.2 0), vR (kO 5) 38, vI v4]) (u1 := u) [(oL 0 4, 2), (oL 2 0, 1), (oP (.getfield 39), 3), (oL 2 0, 1), (oP (.getfield 19), 3), (oL 0 5, 2), (oL 0 3, 1)] (by decide +kernel) rfl rfl ?_
      refine g_callV (k := 149) (pc2 := 51) (st := [vI v4]) (CX5_fitOf 38 (u.2.2 0) v5 v3 u) miX5_fitOf mvX5_fitOf rfl (by decide) lk8_149 wI_ok (by decide +kernel) rfl (Nat.le_of_ble_eq_true rfl) (by decide) rfl (fun q1 hq1 => ?_)
      refine g_seg0 (pc' := 57) (L' := [some (vR (kO 8) 0), some (vI v1), some (vI v2), some (vI v3), some (vI (v4 + q1.1)), some (vI (v5 + 1))]) (st' := []) (u1 := q1.2) [(oP .iadd, 1), (oL 3 4, 2), (oN 5 1, 3)] (by decide +kernel) rfl rfl ?_
      refine g_goto (off := (-34)) (tgt := 23) (by decide +kernel) (by decide) ?_
      exact ih v1 v2 v3 (v4 + q1.1) (v5 + 1) q1.2
def fX9_least_6 : Nat → Int32 → Int32 → Int32 → ab_S → Option (Int32 × ab_S)
  | 0, _, _, _, _ => none
  | n + 1, v1, v2, v3, u =>
  bif decide (v3 < (u.1 (u.2.2 0) 1)) then (
    fX9_least_23 (fX9_least_6 n) fu v1 v2 v3 0 0 u)
  else (
    some (v1, u))
theorem tX9_least_6 : ∀ (n : Nat) (v1 : Int32) (v2 : Int32) (v3 : Int32) (u : ab_S), ab_G 0 8 cX9_least (some .int) 3 6 [some (vR (kO 8) 0), some (vI v1), some (vI v2), some (vI v3), none, none] [] u wI (fX9_least_6 n v1 v2 v3 u) := by
  intro n
  induction n with
  | zero => intros; exact g_none
  | succ n ih =>
    intro v1 v2 v3 u
    rw [fX9_least_6]
    refine g_seg0 (pc' := 14) (L' := [some (vR (kO 8) 0), some (vI v1), some (vI v2), some (vI v3), none, none]) (st' := [vI (u.1 (u.2.2 0) 1), vI v3]) (u1 := u) [(oL 0 3, 1), (oL 2 0, 1), (oP (.getfield 19), 3), (oP (.getfield 213), 3)] (by decide +kernel) rfl rfl ?_
    refine g_ige (off := 68) (tgt := 82) (pc2 := 17) (by decide +kernel) (by decide) rfl ?_ ?_
    · refine g_seg0 (pc' := 83) (L' := [some (vR (kO 8) 0), some (vI v1), some (vI v2), some (vI v3), none, none]) (st' := [vI v1]) (u1 := u) [(oL 0 1, 1)] (by decide +kernel) rfl rfl ?_
      exact g_iret (by decide +kernel) rfl
    · refine g_seg0 (pc' := 23) (L' := [some (vR (kO 8) 0), some (vI v1), some (vI v2), some (vI v3), some (vI 0), some (vI 0)]) (st' := []) (u1 := u) [(oC 0, 1), (oL 3 4, 2), (oC 0, 1), (oL 3 5, 2)] (by decide +kernel) rfl rfl ?_
      exact tX9_least_23 (fX9_least_6 n) ih fu v1 v2 v3 0 0 u
def fX9_least (u : ab_S) : Option (Int32 × ab_S) :=
  fX9_least_6 fu (-1) 0 0 u
theorem tX9_least (u : ab_S) : ab_G 0 8 cX9_least (some .int) 3 0 [some (vR (kO 8) 0), none, none, none, none, none] [] u wI (fX9_least u) := by
  rw [fX9_least]
  refine g_seg0 (pc' := 6) (L' := [some (vR (kO 8) 0), some (vI (-1)), some (vI 0), some (vI 0), none, none]) (st' := []) (u1 := u) [(oC (-1), 1), (oL 3 1, 1), (oC 0, 1), (oL 3 2, 1), (oC 0, 1), (oL 3 3, 1)] (by decide +kernel) rfl rfl ?_
  exact tX9_least_6 fu (-1) 0 0 u
theorem CX9_least (u : ab_S) : ab_C 0 yX9_least cX9_least 6 (some .int) 3 [vR (kO 8) 0] u wI (fX9_least u) := ab_entry (by decide +kernel) rfl (by decide) (by decide) (fun _ => Nat.le_of_ble_eq_true rfl) rfl (tX9_least u)
def fX9_rights (u : ab_S) : Option (Int32 × ab_S) :=
  (fX5_rightBits 38 (u.2.2 0) u).bind fun q1 =>
    some (q1.1, q1.2)
theorem tX9_rights (u : ab_S) : ab_G 0 8 cX9_rights (some .int) 3 0 [some (vR (kO 8) 0)] [] u wI (fX9_rights u) := by
  rw [fX9_rights]
  refine g_seg0 (pc' := 8) (L' := [some (vR (kO 8) 0)]) (st' := [vR (kO 2) (u.2.2 0), vR (kO 5) 38]) (u1 := u) [(oL 2 0, 1), (oP (.getfield 39), 3), (oL 2 0, 1), (oP (.getfield 19), 3)] (by decide +kernel) rfl rfl ?_
  refine g_callV (k := 195) (pc2 := 11) (st := []) (CX5_rightBits 38 (u.2.2 0) u) miX5_rightBits mvX5_rightBits rfl (by decide) lk8_195 wI_ok (by decide +kernel) rfl (Nat.le_of_ble_eq_true rfl) (by decide) rfl (fun q1 hq1 => ?_)
  exact g_iret (by decide +kernel) rfl
theorem CX9_rights (u : ab_S) : ab_C 0 yX9_rights cX9_rights 1 (some .int) 3 [vR (kO 8) 0] u wI (fX9_rights u) := ab_entry (by decide +kernel) rfl (by decide) (by decide) (fun _ => Nat.le_of_ble_eq_true rfl) rfl (tX9_rights u)
def fX5_fitOfAll_22 (o0 : Nat) (o1 : Nat) : Nat → Int32 → Int32 → Int32 → Int32 → Int32 → ab_S → Option (Int32 × ab_S)
  | 0, _, _, _, _, _, _ => none
  | n + 1, v2, v4, v5, v6, v7, u =>
  bif decide (v7 < (u.1 o1 1)) then (
    bif decide (((v4 >>> (v7 &&& 31)) &&& 1) = 1) then (
      (fX2_fitBy o1 v2 v7 v5 u).bind fun q1 =>
        (fX5_fitOfAll_22 o0 o1 n) v2 v4 v5 (v6 + q1.1) (v7 + 1) q1.2)
    else (
      (fX5_fitOfAll_22 o0 o1 n) v2 v4 v5 v6 (v7 + 1) u))
  else (
    some (v6, u))
theorem tX5_fitOfAll_22 (o0 : Nat) (o1 : Nat) : ∀ (n : Nat) (v2 : Int32) (v4 : Int32) (v5 : Int32) (v6 : Int32) (v7 : Int32) (u : ab_S), ab_G 0 5 cX5_fitOfAll (some .int) 2 22 [none, some (vR (kO 2) o1), some (vI v2), none, some (vI v4), some (vI v5), some (vI v6), some (vI v7)] [] u wI (fX5_fitOfAll_22 o0 o1 n v2 v4 v5 v6 v7 u) := by
  intro n
  induction n with
  | zero => intros; exact g_none
  | succ n ih =>
    intro v2 v4 v5 v6 v7 u
    rw [fX5_fitOfAll_22]
    refine g_seg0 (pc' := 28) (L' := [none, some (vR (kO 2) o1), some (vI v2), none, some (vI v4), some (vI v5), some (vI v6), some (vI v7)]) (st' := [vI (u.1 o1 1), vI v7]) (u1 := u) [(oL 0 7, 2), (oL 2 1, 1), (oP (.getfield 64), 3)] (by decide +kernel) rfl rfl ?_
    refine g_ige (off := 34) (tgt := 62) (pc2 := 31) (by decide +kernel) (by decide) rfl ?_ ?_
    · refine g_seg0 (pc' := 64) (L' := [none, some (vR (kO 2) o1), some (vI v2), none, some (vI v4), some (vI v5), some (vI v6), some (vI v7)]) (st' := [vI v6]) (u1 := u) [(oL 0 6, 2)] (by decide +kernel) rfl rfl ?_
      exact g_iret (by decide +kernel) rfl
    · refine g_seg0 (pc' := 39) (L' := [none, some (vR (kO 2) o1), some (vI v2), none, some (vI v4), some (vI v5), some (vI v6), some (vI v7)]) (st' := [vI 1, vI ((v4 >>> (v7 &&& 31)) &&& 1)]) (u1 := u) [(oL 0 4, 2), (oL 0 7, 2), (oP .ishr, 1), (oC 1, 1), (oP .iand, 1), (oC 1, 1)] (by decide +kernel) rfl rfl ?_
      refine g_ine (off := 17) (tgt := 56) (pc2 := 42) (by decide +kernel) (by decide) rfl ?_ ?_
      · refine g_seg0 (pc' := 59) (L' := [none, some (vR (kO 2) o1), some (vI v2), none, some (vI v4), some (vI v5), some (vI v6), some (vI (v7 + 1))]) (st' := []) (u1 := u) [(oN 7 1, 3)] (by decide +kernel) rfl rfl ?_
        refine g_goto (off := (-37)) (tgt := 22) (by decide +kernel) (by decide) ?_
        exact ih v2 v4 v5 v6 (v7 + 1) u
      · refine g_seg0 (pc' := 50) (L' := [none, some (vR (kO 2) o1), some (vI v2), none, some (vI v4), some (vI v5), some (vI v6), some (vI v7)]) (st' := [vI v5, vI v7, vI v2, vR (kO 2) o1, vI v6]) (u1 := u) [(oL 0 6, 2), (oL 2 1, 1), (oL 0 2, 1), (oL 0 7, 2), (oL 0 5, 2)] (by decide +kernel) rfl rfl ?_
        refine g_callV (k := 78) (pc2 := 53) (st := [vI v6]) (CX2_fitBy o1 v2 v7 v5 u) miX2_fitBy mvX2_fitBy rfl (by decide) lk5_78 wI_ok (by decide +kernel) rfl (Nat.le_of_ble_eq_true rfl) (by decide) rfl (fun q1 hq1 => ?_)
        refine g_seg0 (pc' := 59) (L' := [none, some (vR (kO 2) o1), some (vI v2), none, some (vI v4), some (vI v5), some (vI (v6 + q1.1)), some (vI (v7 + 1))]) (st' := []) (u1 := q1.2) [(oP .iadd, 1), (oL 3 6, 2), (oN 7 1, 3)] (by decide +kernel) rfl rfl ?_
        refine g_goto (off := (-37)) (tgt := 22) (by decide +kernel) (by decide) ?_
        exact ih v2 v4 v5 (v6 + q1.1) (v7 + 1) q1.2
def fX5_fitOfAll (o0 : Nat) (o1 : Nat) (v2 : Int32) (v3 : Int32) (u : ab_S) : Option (Int32 × ab_S) :=
  (fX5_bitsOf o0 v3 u).bind fun q2 =>
    (fJ6_bitCount_0f7a4 q2.1 q2.2).bind fun q3 =>
      fX5_fitOfAll_22 o0 o1 fu v2 q2.1 (q3.1 - 1) 0 0 q3.2
theorem tX5_fitOfAll (o0 : Nat) (o1 : Nat) (v2 : Int32) (v3 : Int32) (u : ab_S) : ab_G 0 5 cX5_fitOfAll (some .int) 2 0 [some (vR (kO 5) o0), some (vR (kO 2) o1), some (vI v2), some (vI v3), none, none, none, none] [] u wI (fX5_fitOfAll o0 o1 v2 v3 u) := by
  rw [fX5_fitOfAll]
  refine g_seg0 (pc' := 2) (L' := [some (vR (kO 5) o0), some (vR (kO 2) o1), some (vI v2), some (vI v3), none, none, none, none]) (st' := [vI v3, vR (kO 5) o0]) (u1 := u) [(oL 2 0, 1), (oL 0 3, 1)] (by decide +kernel) rfl rfl ?_
  refine g_callV (k := 60) (pc2 := 5) (st := []) (CX5_bitsOf o0 v3 u) miX5_bitsOf mvX5_bitsOf rfl (by decide) lk5_60 wI_ok (by decide +kernel) rfl (Nat.le_of_ble_eq_true rfl) (by decide) rfl (fun q2 hq2 => ?_)
  refine g_seg0 (pc' := 9) (L' := [some (vR (kO 5) o0), some (vR (kO 2) o1), some (vI v2), some (vI v3), some (vI (q2.1)), none, none, none]) (st' := [vI (q2.1)]) (u1 := q2.2) [(oL 3 4, 2), (oL 0 4, 2)] (by decide +kernel) rfl rfl ?_
  refine g_callS (k := 73) (pc2 := 12) (st := []) (CJ6_bitCount_0f7a4 q2.1 q2.2) miJ6_bitCount_0f7a4 msJ6_bitCount_0f7a4 lk5_73 wI_ok (by decide +kernel) rfl (Nat.le_of_ble_eq_true rfl) (by decide) rfl (fun q3 hq3 => ?_)
  refine g_seg0 (pc' := 22) (L' := [some (vR (kO 5) o0), some (vR (kO 2) o1), some (vI v2), some (vI v3), some (vI (q2.1)), some (vI (q3.1 - 1)), some (vI 0), some (vI 0)]) (st' := []) (u1 := q3.2) [(oC 1, 1), (oP .isub, 1), (oL 3 5, 2), (oC 0, 1), (oL 3 6, 2), (oC 0, 1), (oL 3 7, 2)] (by decide +kernel) rfl rfl ?_
  exact g_jump [false, true, true, false, true, true, true, true] rfl (tX5_fitOfAll_22 o0 o1 fu v2 q2.1 (q3.1 - 1) 0 0 q3.2)
theorem CX5_fitOfAll (o0 : Nat) (o1 : Nat) (v2 : Int32) (v3 : Int32) (u : ab_S) : ab_C 0 yX5_fitOfAll cX5_fitOfAll 8 (some .int) 2 [vR (kO 5) o0, vR (kO 2) o1, vI v2, vI v3] u wI (fX5_fitOfAll o0 o1 v2 v3 u) := ab_entry (by decide +kernel) rfl (by decide) (by decide) (fun _ => Nat.le_of_ble_eq_true rfl) rfl (tX5_fitOfAll o0 o1 v2 v3 u)
def fX5_joyOf (o0 : Nat) (o1 : Nat) (v2 : Int32) (u : ab_S) : Option (Int32 × ab_S) :=
  (fX5_fitOfAll o0 o1 v2 v2 u).bind fun q1 =>
    some (q1.1, q1.2)
theorem tX5_joyOf (o0 : Nat) (o1 : Nat) (v2 : Int32) (u : ab_S) : ab_G 0 5 cX5_joyOf (some .int) 3 0 [some (vR (kO 5) o0), some (vR (kO 2) o1), some (vI v2)] [] u wI (fX5_joyOf o0 o1 v2 u) := by
  rw [fX5_joyOf]
  refine g_seg0 (pc' := 4) (L' := [some (vR (kO 5) o0), some (vR (kO 2) o1), some (vI v2)]) (st' := [vI v2, vI v2, vR (kO 2) o1, vR (kO 5) o0]) (u1 := u) [(oL 2 0, 1), (oL 2 1, 1), (oL 0 2, 1), (oL 0 2, 1)] (by decide +kernel) rfl rfl ?_
  refine g_callV (k := 82) (pc2 := 7) (st := []) (CX5_fitOfAll o0 o1 v2 v2 u) miX5_fitOfAll mvX5_fitOfAll rfl (by decide) lk5_82 wI_ok (by decide +kernel) rfl (Nat.le_of_ble_eq_true rfl) (by decide) rfl (fun q1 hq1 => ?_)
  exact g_iret (by decide +kernel) rfl
theorem CX5_joyOf (o0 : Nat) (o1 : Nat) (v2 : Int32) (u : ab_S) : ab_C 0 yX5_joyOf cX5_joyOf 3 (some .int) 3 [vR (kO 5) o0, vR (kO 2) o1, vI v2] u wI (fX5_joyOf o0 o1 v2 u) := ab_entry (by decide +kernel) rfl (by decide) (by decide) (fun _ => Nat.le_of_ble_eq_true rfl) rfl (tX5_joyOf o0 o1 v2 u)
def fX9_joy (v1 : Int32) (u : ab_S) : Option (Int32 × ab_S) :=
  (fX2_hasPerson (u.2.2 0) v1 u).bind fun q1 =>
    bif decide (q1.1 = 0) then (
      some ((-1), q1.2))
    else (
      (fX5_joyOf 38 (q1.2.2.2 0) v1 q1.2).bind fun q2 =>
        some (q2.1, q2.2))
theorem tX9_joy (v1 : Int32) (u : ab_S) : ab_G 0 8 cX9_joy (some .int) 4 0 [some (vR (kO 8) 0), some (vI v1)] [] u wI (fX9_joy v1 u) := by
  rw [fX9_joy]
  refine g_seg0 (pc' := 5) (L' := [some (vR (kO 8) 0), some (vI v1)]) (st' := [vI v1, vR (kO 2) (u.2.2 0)]) (u1 := u) [(oL 2 0, 1), (oP (.getfield 19), 3), (oL 0 1, 1)] (by decide +kernel) rfl rfl ?_
  refine g_callV (k := 120) (pc2 := 8) (st := []) (CX2_hasPerson (u.2.2 0) v1 u) miX2_hasPerson mvX2_hasPerson rfl (by decide) lk8_120 wI_ok (by decide +kernel) rfl (Nat.le_of_ble_eq_true rfl) (by decide) rfl (fun q1 hq1 => ?_)
  refine g_zeq (off := 18) (tgt := 26) (pc2 := 11) (by decide +kernel) (by decide) rfl ?_ ?_
  · refine g_seg0 (pc' := 27) (L' := [some (vR (kO 8) 0), some (vI v1)]) (st' := [vI (-1)]) (u1 := q1.2) [(oC (-1), 1)] (by decide +kernel) rfl rfl ?_
    exact g_iret (by decide +kernel) rfl
  · refine g_seg0 (pc' := 20) (L' := [some (vR (kO 8) 0), some (vI v1)]) (st' := [vI v1, vR (kO 2) (q1.2.2.2 0), vR (kO 5) 38]) (u1 := q1.2) [(oL 2 0, 1), (oP (.getfield 39), 3), (oL 2 0, 1), (oP (.getfield 19), 3), (oL 0 1, 1)] (by decide +kernel) rfl rfl ?_
    refine g_callV (k := 219) (pc2 := 23) (st := []) (CX5_joyOf 38 (q1.2.2.2 0) v1 q1.2) miX5_joyOf mvX5_joyOf rfl (by decide) lk8_219 wI_ok (by decide +kernel) rfl (Nat.le_of_ble_eq_true rfl) (by decide) rfl (fun q2 hq2 => ?_)
    refine g_goto (off := 4) (tgt := 27) (by decide +kernel) (by decide) ?_
    exact g_iret (by decide +kernel) rfl
theorem CX9_joy (v1 : Int32) (u : ab_S) : ab_C 0 yX9_joy cX9_joy 2 (some .int) 4 [vR (kO 8) 0, vI v1] u wI (fX9_joy v1 u) := ab_entry (by decide +kernel) rfl (by decide) (by decide) (fun _ => Nat.le_of_ble_eq_true rfl) rfl (tX9_joy v1 u)
