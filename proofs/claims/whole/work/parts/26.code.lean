/-! methods, printed by program out of the listing: function, walk, contract -/
def fX0_giveOut_22 (o1 : Nat) : Nat → Int32 → Int32 → ab_S → Option (Unit × ab_S)
  | 0, _, _, _ => none
  | n + 1, v2, v3, u =>
  bif decide (v3 < (u.1 o1 0)) then (
    (fX0_firstBest o1 v3 v2 u).bind fun q1 =>
      (fX9_put 6 155 v3 q1.1 q1.2).bind fun q2 =>
        bif decide (q1.1 = (-1)) then (
          (fX0_giveOut_22 o1 n) (v2 ||| 0) (v3 + 1) q2.2)
        else (
          (fX0_giveOut_22 o1 n) (v2 ||| ((1 : Int32) <<< (q1.1 &&& 31))) (v3 + 1) q2.2))
  else (
    ab_gd [ab_b1 1] (
      some ((), (sI u 154 0 1))))
theorem tX0_giveOut_22 (o1 : Nat) : ∀ (n : Nat) (v2 : Int32) (v3 : Int32) (u : ab_S), ab_G 0 0 cX0_giveOut none 5 22 [some (vR (kO 0) 154), some (vR (kO 2) o1), some (vI v2), some (vI v3), none] [] u wV (fX0_giveOut_22 o1 n v2 v3 u) := by
  intro n
  induction n with
  | zero => intros; exact g_none
  | succ n ih =>
    intro v2 v3 u
    rw [fX0_giveOut_22]
    refine g_seg0 (pc' := 27) (L' := [some (vR (kO 0) 154), some (vR (kO 2) o1), some (vI v2), some (vI v3), none]) (st' := [vI (u.1 o1 0), vI v3]) (u1 := u) [(oL 0 3, 1), (oL 2 1, 1), (oP (.getfield 30), 3)] (by decide +kernel) rfl rfl ?_
    refine g_ige (off := 45) (tgt := 72) (pc2 := 30) (by decide +kernel) (by decide) rfl ?_ ?_
    · refine g_seg (pc' := 77) (L' := [some (vR (kO 0) 154), some (vR (kO 2) o1), some (vI v2), some (vI v3), none]) (st' := []) (u1 := (sI u 154 0 1)) [(oL 2 0, 1), (oC 1, 1), (oP (.putfield 18), 3)] (by decide +kernel) rfl rfl ?_
      exact g_vret (by decide +kernel) rfl
    · refine g_seg0 (pc' := 34) (L' := [some (vR (kO 0) 154), some (vR (kO 2) o1), some (vI v2), some (vI v3), none]) (st' := [vI v2, vI v3, vR (kO 2) o1, vR (kO 0) 154]) (u1 := u) [(oL 2 0, 1), (oL 2 1, 1), (oL 0 3, 1), (oL 0 2, 1)] (by decide +kernel) rfl rfl ?_
      refine g_callV (k := 35) (pc2 := 37) (st := []) (CX0_firstBest o1 v3 v2 u) miX0_firstBest mvX0_firstBest rfl (by decide) lk0_35 wI_ok (by decide +kernel) rfl (Nat.le_of_ble_eq_true rfl) (by decide) rfl (fun q1 hq1 => ?_)
      refine g_seg0 (pc' := 46) (L' := [some (vR (kO 0) 154), some (vR (kO 2) o1), some (vI v2), some (vI v3), some (vI (q1.1))]) (st' := [vI (q1.1), vI v3, vR (kA 0 6) 155]) (u1 := q1.2) [(oL 3 4, 2), (oL 2 0, 1), (oP (.getfield 9), 3), (oL 0 3, 1), (oL 0 4, 2)] (by decide +kernel) rfl rfl ?_
      refine g_callS (k := 39) (pc2 := 49) (st := []) (CX9_put 6 155 v3 q1.1 q1.2) miX9_put msX9_put lk0_39 wV_ok (by decide +kernel) rfl (Nat.le_of_ble_eq_true rfl) (by decide) rfl (fun q2 hq2 => ?_)
      refine g_seg0 (pc' := 53) (L' := [some (vR (kO 0) 154), some (vR (kO 2) o1), some (vI v2), some (vI v3), some (vI (q1.1))]) (st' := [vI (-1), vI (q1.1), vI v2]) (u1 := q2.2) [(oL 0 2, 1), (oL 0 4, 2), (oC (-1), 1)] (by decide +kernel) rfl rfl ?_
      refine g_ine (off := 7) (tgt := 60) (pc2 := 56) (by decide +kernel) (by decide) rfl ?_ ?_
      · refine g_seg0 (pc' := 69) (L' := [some (vR (kO 0) 154), some (vR (kO 2) o1), some (vI (v2 ||| ((1 : Int32) <<< (q1.1 &&& 31)))), some (vI (v3 + 1)), some (vI (q1.1))]) (st' := []) (u1 := q2.2) [(oC 1, 1), (oL 0 4, 2), (oP .ishl, 1), (oP .ior, 1), (oL 3 2, 1), (oN 3 1, 3)] (by decide +kernel) rfl rfl ?_
        refine g_goto (off := (-47)) (tgt := 22) (by decide +kernel) (by decide) ?_
        exact g_jump [true, true, true, true, false] rfl (ih (v2 ||| ((1 : Int32) <<< (q1.1 &&& 31))) (v3 + 1) q2.2)
      · refine g_seg0 (pc' := 57) (L' := [some (vR (kO 0) 154), some (vR (kO 2) o1), some (vI v2), some (vI v3), some (vI (q1.1))]) (st' := [vI 0, vI v2]) (u1 := q2.2) [(oC 0, 1)] (by decide +kernel) rfl rfl ?_
        refine g_goto (off := 7) (tgt := 64) (by decide +kernel) (by decide) ?_
        refine g_seg0 (pc' := 69) (L' := [some (vR (kO 0) 154), some (vR (kO 2) o1), some (vI (v2 ||| 0)), some (vI (v3 + 1)), some (vI (q1.1))]) (st' := []) (u1 := q2.2) [(oP .ior, 1), (oL 3 2, 1), (oN 3 1, 3)] (by decide +kernel) rfl rfl ?_
        refine g_goto (off := (-47)) (tgt := 22) (by decide +kernel) (by decide) ?_
        exact g_jump [true, true, true, true, false] rfl (ih (v2 ||| 0) (v3 + 1) q2.2)
def fX0_giveOut (o1 : Nat) (u : ab_S) : Option (Unit × ab_S) :=
  bif decide ((u.1 154 0) = 0) then (
    (fX0_mostWithout o1 (-1) u).bind fun q3 =>
      fX0_giveOut_22 o1 fu 0 0 (sI q3.2 154 1 q3.1))
  else (
    some ((), u))
theorem tX0_giveOut (o1 : Nat) (u : ab_S) : ab_G 0 0 cX0_giveOut none 5 0 [some (vR (kO 0) 154), some (vR (kO 2) o1), none, none, none] [] u wV (fX0_giveOut o1 u) := by
  rw [fX0_giveOut]
  refine g_seg0 (pc' := 4) (L' := [some (vR (kO 0) 154), some (vR (kO 2) o1), none, none, none]) (st' := [vI (u.1 154 0)]) (u1 := u) [(oL 2 0, 1), (oP (.getfield 18), 3)] (by decide +kernel) rfl rfl ?_
  refine g_zeq (off := 4) (tgt := 8) (pc2 := 7) (by decide +kernel) (by decide) rfl ?_ ?_
  · refine g_seg0 (pc' := 12) (L' := [some (vR (kO 0) 154), some (vR (kO 2) o1), none, none, none]) (st' := [vI (-1), vR (kO 2) o1, vR (kO 0) 154, vR (kO 0) 154]) (u1 := u) [(oL 2 0, 1), (oL 2 0, 1), (oL 2 1, 1), (oC (-1), 1)] (by decide +kernel) rfl rfl ?_
    refine g_callV (k := 22) (pc2 := 15) (st := [vR (kO 0) 154]) (CX0_mostWithout o1 (-1) u) miX0_mostWithout mvX0_mostWithout rfl (by decide) lk0_22 wI_ok (by decide +kernel) rfl (Nat.le_of_ble_eq_true rfl) (by decide) rfl (fun q3 hq3 => ?_)
    refine g_seg0 (pc' := 22) (L' := [some (vR (kO 0) 154), some (vR (kO 2) o1), some (vI 0), some (vI 0), none]) (st' := []) (u1 := (sI q3.2 154 1 q3.1)) [(oP (.putfield 26), 3), (oC 0, 1), (oL 3 2, 1), (oC 0, 1), (oL 3 3, 1)] (by decide +kernel) rfl rfl ?_
    exact tX0_giveOut_22 o1 fu 0 0 (sI q3.2 154 1 q3.1)
  · exact g_vret (by decide +kernel) rfl
theorem CX0_giveOut (o1 : Nat) (u : ab_S) : ab_C 0 yX0_giveOut cX0_giveOut 5 none 5 [vR (kO 0) 154, vR (kO 2) o1] u wV (fX0_giveOut o1 u) := ab_entry (by decide +kernel) rfl (by decide) (by decide) (fun _ => Nat.le_of_ble_eq_true rfl) rfl (tX0_giveOut o1 u)
def fX0_givenTo (v1 : Int32) (u : ab_S) : Option (Int32 × ab_S) :=
  bif decide (v1 < 0) then (
    some ((-1), u))
  else (
    bif decide (v1 < 6) then (
      ab_gd [ab_ix v1 6] (
        some ((u.1 155 (nc v1)), u)))
    else (
      some ((-1), u)))
theorem tX0_givenTo (v1 : Int32) (u : ab_S) : ab_G 0 0 cX0_givenTo (some .int) 0 0 [some (vR (kO 0) 154), some (vI v1)] [] u wI (fX0_givenTo v1 u) := by
  rw [fX0_givenTo]
  refine g_seg0 (pc' := 1) (L' := [some (vR (kO 0) 154), some (vI v1)]) (st' := [vI v1]) (u1 := u) [(oL 0 1, 1)] (by decide +kernel) rfl rfl ?_
  refine g_zlt (off := 21) (tgt := 22) (pc2 := 4) (by decide +kernel) (by decide) rfl ?_ ?_
  · refine g_seg0 (pc' := 23) (L' := [some (vR (kO 0) 154), some (vI v1)]) (st' := [vI (-1)]) (u1 := u) [(oC (-1), 1)] (by decide +kernel) rfl rfl ?_
    exact g_iret (by decide +kernel) rfl
  · refine g_seg0 (pc' := 10) (L' := [some (vR (kO 0) 154), some (vI v1)]) (st' := [vI 6, vI v1]) (u1 := u) [(oL 0 1, 1), (oL 2 0, 1), (oP (.getfield 9), 3), (oP .arraylength, 1)] (by decide +kernel) rfl rfl ?_
    refine g_ige (off := 12) (tgt := 22) (pc2 := 13) (by decide +kernel) (by decide) rfl ?_ ?_
    · refine g_seg0 (pc' := 23) (L' := [some (vR (kO 0) 154), some (vI v1)]) (st' := [vI (-1)]) (u1 := u) [(oC (-1), 1)] (by decide +kernel) rfl rfl ?_
      exact g_iret (by decide +kernel) rfl
    · refine g_seg (pc' := 19) (L' := [some (vR (kO 0) 154), some (vI v1)]) (st' := [vI (u.1 155 (nc v1))]) (u1 := u) [(oL 2 0, 1), (oP (.getfield 9), 3), (oL 0 1, 1), (oP .iaload, 1)] (by decide +kernel) rfl rfl ?_
      refine g_goto (off := 4) (tgt := 23) (by decide +kernel) (by decide) ?_
      exact g_iret (by decide +kernel) rfl
theorem CX0_givenTo (v1 : Int32) (u : ab_S) : ab_C 0 yX0_givenTo cX0_givenTo 2 (some .int) 0 [vR (kO 0) 154, vI v1] u wI (fX0_givenTo v1 u) := ab_entry (by decide +kernel) rfl (by decide) (by decide) (fun _ => Nat.le_of_ble_eq_true rfl) rfl (tX0_givenTo v1 u)
def fX9_best_19 (v1 : Int32) (u : ab_S) : Option (Int32 × ab_S) :=
  (fX0_giveOut (u.2.2 0) u).bind fun q1 =>
    bif decide (v1 = (-1)) then (
      some ((q1.2.1 154 1), q1.2))
    else (
      (fX0_givenTo v1 q1.2).bind fun q2 =>
        some (q2.1, q2.2))
theorem tX9_best_19 (v1 : Int32) (u : ab_S) : ab_G 0 8 cX9_best (some .int) 6 19 [some (vR (kO 8) 0), some (vI v1)] [] u wI (fX9_best_19 v1 u) := by
  rw [fX9_best_19]
  refine g_seg0 (pc' := 27) (L' := [some (vR (kO 8) 0), some (vI v1)]) (st' := [vR (kO 2) (u.2.2 0), vR (kO 0) 154]) (u1 := u) [(oL 2 0, 1), (oP (.getfield 78), 3), (oL 2 0, 1), (oP (.getfield 19), 3)] (by decide +kernel) rfl rfl ?_
  refine g_callV (k := 242) (pc2 := 30) (st := []) (CX0_giveOut (u.2.2 0) u) miX0_giveOut mvX0_giveOut rfl (by decide) lk8_242 wV_ok (by decide +kernel) rfl (Nat.le_of_ble_eq_true rfl) (by decide) rfl (fun q1 hq1 => ?_)
  refine g_seg0 (pc' := 32) (L' := [some (vR (kO 8) 0), some (vI v1)]) (st' := [vI (-1), vI v1]) (u1 := q1.2) [(oL 0 1, 1), (oC (-1), 1)] (by decide +kernel) rfl rfl ?_
  refine g_ine (off := 13) (tgt := 45) (pc2 := 35) (by decide +kernel) (by decide) rfl ?_ ?_
  · refine g_seg0 (pc' := 50) (L' := [some (vR (kO 8) 0), some (vI v1)]) (st' := [vI v1, vR (kO 0) 154]) (u1 := q1.2) [(oL 2 0, 1), (oP (.getfield 78), 3), (oL 0 1, 1)] (by decide +kernel) rfl rfl ?_
    refine g_callV (k := 248) (pc2 := 53) (st := []) (CX0_givenTo v1 q1.2) miX0_givenTo mvX0_givenTo rfl (by decide) lk8_248 wI_ok (by decide +kernel) rfl (Nat.le_of_ble_eq_true rfl) (by decide) rfl (fun q2 hq2 => ?_)
    exact g_iret (by decide +kernel) rfl
  · refine g_seg0 (pc' := 42) (L' := [some (vR (kO 8) 0), some (vI v1)]) (st' := [vI (q1.2.1 154 1)]) (u1 := q1.2) [(oL 2 0, 1), (oP (.getfield 78), 3), (oP (.getfield 245), 3)] (by decide +kernel) rfl rfl ?_
    refine g_goto (off := 11) (tgt := 53) (by decide +kernel) (by decide) ?_
    exact g_iret (by decide +kernel) rfl
def fX9_best (v1 : Int32) (u : ab_S) : Option (Int32 × ab_S) :=
  bif decide (v1 = (-1)) then (
    fX9_best_19 v1 u)
  else (
    (fX2_hasPerson (u.2.2 0) v1 u).bind fun q3 =>
      bif decide (q3.1 = 0) then (
        some ((-2), q3.2))
      else (
        fX9_best_19 v1 q3.2))
theorem tX9_best (v1 : Int32) (u : ab_S) : ab_G 0 8 cX9_best (some .int) 6 0 [some (vR (kO 8) 0), some (vI v1)] [] u wI (fX9_best v1 u) := by
  rw [fX9_best]
  refine g_seg0 (pc' := 2) (L' := [some (vR (kO 8) 0), some (vI v1)]) (st' := [vI (-1), vI v1]) (u1 := u) [(oL 0 1, 1), (oC (-1), 1)] (by decide +kernel) rfl rfl ?_
  refine g_ieq (off := 17) (tgt := 19) (pc2 := 5) (by decide +kernel) (by decide) rfl ?_ ?_
  · exact tX9_best_19 v1 u
  · refine g_seg0 (pc' := 10) (L' := [some (vR (kO 8) 0), some (vI v1)]) (st' := [vI v1, vR (kO 2) (u.2.2 0)]) (u1 := u) [(oL 2 0, 1), (oP (.getfield 19), 3), (oL 0 1, 1)] (by decide +kernel) rfl rfl ?_
    refine g_callV (k := 120) (pc2 := 13) (st := []) (CX2_hasPerson (u.2.2 0) v1 u) miX2_hasPerson mvX2_hasPerson rfl (by decide) lk8_120 wI_ok (by decide +kernel) rfl (Nat.le_of_ble_eq_true rfl) (by decide) rfl (fun q3 hq3 => ?_)
    refine g_zne (off := 6) (tgt := 19) (pc2 := 16) (by decide +kernel) (by decide) rfl ?_ ?_
    · exact tX9_best_19 v1 q3.2
    · refine g_seg0 (pc' := 18) (L' := [some (vR (kO 8) 0), some (vI v1)]) (st' := [vI (-2)]) (u1 := q3.2) [(oC (-2), 2)] (by decide +kernel) rfl rfl ?_
      exact g_iret (by decide +kernel) rfl
theorem CX9_best (v1 : Int32) (u : ab_S) : ab_C 0 yX9_best cX9_best 2 (some .int) 6 [vR (kO 8) 0, vI v1] u wI (fX9_best v1 u) := ab_entry (by decide +kernel) rfl (by decide) (by decide) (fun _ => Nat.le_of_ble_eq_true rfl) rfl (tX9_best v1 u)
def fX9_owes_52 (v1 : Int32) (s0 : Int32) (u : ab_S) : Option (Int32 × ab_S) :=
  (fX0_mostWithout (u.2.2 0) v1 u).bind fun q1 =>
    some ((q1.1 - ((q1.2.1 154 1) - s0)), q1.2)
theorem tX9_owes_52 (v1 : Int32) (s0 : Int32) (u : ab_S) : ab_G 0 8 cX9_owes (some .int) 6 52 [some (vR (kO 8) 0), some (vI v1), none, none] [vI s0] u wI (fX9_owes_52 v1 s0 u) := by
  rw [fX9_owes_52]
  refine g_seg0 (pc' := 62) (L' := [some (vR (kO 8) 0), some (vI v1), none, some (vI s0)]) (st' := [vI v1, vR (kO 2) (u.2.2 0), vR (kO 0) 154]) (u1 := u) [(oL 3 3, 1), (oL 2 0, 1), (oP (.getfield 78), 3), (oL 2 0, 1), (oP (.getfield 19), 3), (oL 0 1, 1)] (by decide +kernel) rfl rfl ?_
  refine g_callV (k := 255) (pc2 := 65) (st := []) (CX0_mostWithout (u.2.2 0) v1 u) miX0_mostWithout mvX0_mostWithout rfl (by decide) lk8_255 wI_ok (by decide +kernel) rfl (Nat.le_of_ble_eq_true rfl) (by decide) rfl (fun q1 hq1 => ?_)
  refine g_seg0 (pc' := 75) (L' := [some (vR (kO 8) 0), some (vI v1), none, some (vI s0)]) (st' := [vI (q1.1 - ((q1.2.1 154 1) - s0))]) (u1 := q1.2) [(oL 2 0, 1), (oP (.getfield 78), 3), (oP (.getfield 245), 3), (oL 0 3, 1), (oP .isub, 1), (oP .isub, 1)] (by decide +kernel) rfl rfl ?_
  exact g_iret (by decide +kernel) rfl
def fX9_owes (v1 : Int32) (u : ab_S) : Option (Int32 × ab_S) :=
  (fX2_hasPerson (u.2.2 0) v1 u).bind fun q2 =>
    bif decide (q2.1 = 0) then (
      some ((-1), q2.2))
    else (
      (fX0_giveOut (q2.2.2.2 0) q2.2).bind fun q3 =>
        (fX0_givenTo v1 q3.2).bind fun q4 =>
          bif decide (q4.1 = (-1)) then (
            fX9_owes_52 v1 0 q4.2)
          else (
            (fX2_fitBy (q4.2.2.2 0) v1 q4.1 0 q4.2).bind fun q5 =>
              fX9_owes_52 v1 q5.1 q5.2))
theorem tX9_owes (v1 : Int32) (u : ab_S) : ab_G 0 8 cX9_owes (some .int) 6 0 [some (vR (kO 8) 0), some (vI v1), none, none] [] u wI (fX9_owes v1 u) := by
  rw [fX9_owes]
  refine g_seg0 (pc' := 5) (L' := [some (vR (kO 8) 0), some (vI v1), none, none]) (st' := [vI v1, vR (kO 2) (u.2.2 0)]) (u1 := u) [(oL 2 0, 1), (oP (.getfield 19), 3), (oL 0 1, 1)] (by decide +kernel) rfl rfl ?_
  refine g_callV (k := 120) (pc2 := 8) (st := []) (CX2_hasPerson (u.2.2 0) v1 u) miX2_hasPerson mvX2_hasPerson rfl (by decide) lk8_120 wI_ok (by decide +kernel) rfl (Nat.le_of_ble_eq_true rfl) (by decide) rfl (fun q2 hq2 => ?_)
  refine g_zne (off := 5) (tgt := 13) (pc2 := 11) (by decide +kernel) (by decide) rfl ?_ ?_
  · refine g_seg0 (pc' := 21) (L' := [some (vR (kO 8) 0), some (vI v1), none, none]) (st' := [vR (kO 2) (q2.2.2.2 0), vR (kO 0) 154]) (u1 := q2.2) [(oL 2 0, 1), (oP (.getfield 78), 3), (oL 2 0, 1), (oP (.getfield 19), 3)] (by decide +kernel) rfl rfl ?_
    refine g_callV (k := 242) (pc2 := 24) (st := []) (CX0_giveOut (q2.2.2.2 0) q2.2) miX0_giveOut mvX0_giveOut rfl (by decide) lk8_242 wV_ok (by decide +kernel) rfl (Nat.le_of_ble_eq_true rfl) (by decide) rfl (fun q3 hq3 => ?_)
    refine g_seg0 (pc' := 29) (L' := [some (vR (kO 8) 0), some (vI v1), none, none]) (st' := [vI v1, vR (kO 0) 154]) (u1 := q3.2) [(oL 2 0, 1), (oP (.getfield 78), 3), (oL 0 1, 1)] (by decide +kernel) rfl rfl ?_
    refine g_callV (k := 248) (pc2 := 32) (st := []) (CX0_givenTo v1 q3.2) miX0_givenTo mvX0_givenTo rfl (by decide) lk8_248 wI_ok (by decide +kernel) rfl (Nat.le_of_ble_eq_true rfl) (by decide) rfl (fun q4 hq4 => ?_)
    refine g_seg0 (pc' := 35) (L' := [some (vR (kO 8) 0), some (vI v1), some (vI (q4.1)), none]) (st' := [vI (-1), vI (q4.1)]) (u1 := q4.2) [(oL 3 2, 1), (oL 0 2, 1), (oC (-1), 1)] (by decide +kernel) rfl rfl ?_
    refine g_ine (off := 7) (tgt := 42) (pc2 := 38) (by decide +kernel) (by decide) rfl ?_ ?_
    · refine g_seg0 (pc' := 49) (L' := [some (vR (kO 8) 0), some (vI v1), some (vI (q4.1)), none]) (st' := [vI 0, vI (q4.1), vI v1, vR (kO 2) (q4.2.2.2 0)]) (u1 := q4.2) [(oL 2 0, 1), (oP (.getfield 19), 3), (oL 0 1, 1), (oL 0 2, 1), (oC 0, 1)] (by decide +kernel) rfl rfl ?_
      refine g_callV (k := 251) (pc2 := 52) (st := []) (CX2_fitBy (q4.2.2.2 0) v1 q4.1 0 q4.2) miX2_fitBy mvX2_fitBy rfl (by decide) lk8_251 wI_ok (by decide +kernel) rfl (Nat.le_of_ble_eq_true rfl) (by decide) rfl (fun q5 hq5 => ?_)
      exact g_jump [true, true, false, false] rfl (tX9_owes_52 v1 q5.1 q5.2)
    · refine g_seg0 (pc' := 39) (L' := [some (vR (kO 8) 0), some (vI v1), some (vI (q4.1)), none]) (st' := [vI 0]) (u1 := q4.2) [(oC 0, 1)] (by decide +kernel) rfl rfl ?_
      refine g_goto (off := 13) (tgt := 52) (by decide +kernel) (by decide) ?_
      exact g_jump [true, true, false, false] rfl (tX9_owes_52 v1 0 q4.2)
  · refine g_seg0 (pc' := 12) (L' := [some (vR (kO 8) 0), some (vI v1), none, none]) (st' := [vI (-1)]) (u1 := q2.2) [(oC (-1), 1)] (by decide +kernel) rfl rfl ?_
    exact g_iret (by decide +kernel) rfl
theorem CX9_owes (v1 : Int32) (u : ab_S) : ab_C 0 yX9_owes cX9_owes 4 (some .int) 6 [vR (kO 8) 0, vI v1] u wI (fX9_owes v1 u) := ab_entry (by decide +kernel) rfl (by decide) (by decide) (fun _ => Nat.le_of_ble_eq_true rfl) rfl (tX9_owes v1 u)
def fX9_spare_21 : Nat → Int32 → Int32 → ab_S → Option (Int32 × ab_S)
  | 0, _, _, _ => none
  | n + 1, v1, v2, u =>
  bif decide (v2 < (u.1 (u.2.2 0) 0)) then (
    (fX0_givenTo v2 u).bind fun q1 =>
      bif decide (q1.1 = (-1)) then (
        (fX9_spare_21 n) v1 (v2 + 1) q1.2)
      else (
        (fX9_spare_21 n) (v1 &&& (((1 : Int32) <<< (q1.1 &&& 31)) ^^^ (-1))) (v2 + 1) q1.2))
  else (
    some (v1, u))
theorem tX9_spare_21 : ∀ (n : Nat) (v1 : Int32) (v2 : Int32) (u : ab_S), ab_G 0 8 cX9_spare (some .int) 6 21 [some (vR (kO 8) 0), some (vI v1), some (vI v2), none] [] u wI (fX9_spare_21 n v1 v2 u) := by
  intro n
  induction n with
  | zero => intros; exact g_none
  | succ n ih =>
    intro v1 v2 u
    rw [fX9_spare_21]
    refine g_seg0 (pc' := 29) (L' := [some (vR (kO 8) 0), some (vI v1), some (vI v2), none]) (st' := [vI (u.1 (u.2.2 0) 0), vI v2]) (u1 := u) [(oL 0 2, 1), (oL 2 0, 1), (oP (.getfield 19), 3), (oP (.getfield 216), 3)] (by decide +kernel) rfl rfl ?_
    refine g_ige (off := 31) (tgt := 60) (pc2 := 32) (by decide +kernel) (by decide) rfl ?_ ?_
    · refine g_seg0 (pc' := 61) (L' := [some (vR (kO 8) 0), some (vI v1), some (vI v2), none]) (st' := [vI v1]) (u1 := u) [(oL 0 1, 1)] (by decide +kernel) rfl rfl ?_
      exact g_iret (by decide +kernel) rfl
    · refine g_seg0 (pc' := 37) (L' := [some (vR (kO 8) 0), some (vI v1), some (vI v2), none]) (st' := [vI v2, vR (kO 0) 154]) (u1 := u) [(oL 2 0, 1), (oP (.getfield 78), 3), (oL 0 2, 1)] (by decide +kernel) rfl rfl ?_
      refine g_callV (k := 248) (pc2 := 40) (st := []) (CX0_givenTo v2 u) miX0_givenTo mvX0_givenTo rfl (by decide) lk8_248 wI_ok (by decide +kernel) rfl (Nat.le_of_ble_eq_true rfl) (by decide) rfl (fun q1 hq1 => ?_)
      refine g_seg0 (pc' := 43) (L' := [some (vR (kO 8) 0), some (vI v1), some (vI v2), some (vI (q1.1))]) (st' := [vI (-1), vI (q1.1)]) (u1 := q1.2) [(oL 3 3, 1), (oL 0 3, 1), (oC (-1), 1)] (by decide +kernel) rfl rfl ?_
      refine g_ieq (off := 11) (tgt := 54) (pc2 := 46) (by decide +kernel) (by decide) rfl ?_ ?_
      · refine g_seg0 (pc' := 57) (L' := [some (vR (kO 8) 0), some (vI v1), some (vI (v2 + 1)), some (vI (q1.1))]) (st' := []) (u1 := q1.2) [(oN 2 1, 3)] (by decide +kernel) rfl rfl ?_
        refine g_goto (off := (-36)) (tgt := 21) (by decide +kernel) (by decide) ?_
        exact g_jump [true, true, true, false] rfl (ih v1 (v2 + 1) q1.2)
      · refine g_seg0 (pc' := 57) (L' := [some (vR (kO 8) 0), some (vI (v1 &&& (((1 : Int32) <<< (q1.1 &&& 31)) ^^^ (-1)))), some (vI (v2 + 1)), some (vI (q1.1))]) (st' := []) (u1 := q1.2) [(oL 0 1, 1), (oC 1, 1), (oL 0 3, 1), (oP .ishl, 1), (oC (-1), 1), (oP .ixor, 1), (oP .iand, 1), (oL 3 1, 1), (oN 2 1, 3)] (by decide +kernel) rfl rfl ?_
        refine g_goto (off := (-36)) (tgt := 21) (by decide +kernel) (by decide) ?_
        exact g_jump [true, true, true, false] rfl (ih (v1 &&& (((1 : Int32) <<< (q1.1 &&& 31)) ^^^ (-1))) (v2 + 1) q1.2)
def fX9_spare (u : ab_S) : Option (Int32 × ab_S) :=
  (fX0_giveOut (u.2.2 0) u).bind fun q2 =>
    (fX2_allGoods (q2.2.2.2 0) q2.2).bind fun q3 =>
      fX9_spare_21 fu q3.1 0 q3.2
theorem tX9_spare (u : ab_S) : ab_G 0 8 cX9_spare (some .int) 6 0 [some (vR (kO 8) 0), none, none, none] [] u wI (fX9_spare u) := by
  rw [fX9_spare]
  refine g_seg0 (pc' := 8) (L' := [some (vR (kO 8) 0), none, none, none]) (st' := [vR (kO 2) (u.2.2 0), vR (kO 0) 154]) (u1 := u) [(oL 2 0, 1), (oP (.getfield 78), 3), (oL 2 0, 1), (oP (.getfield 19), 3)] (by decide +kernel) rfl rfl ?_
  refine g_callV (k := 242) (pc2 := 11) (st := []) (CX0_giveOut (u.2.2 0) u) miX0_giveOut mvX0_giveOut rfl (by decide) lk8_242 wV_ok (by decide +kernel) rfl (Nat.le_of_ble_eq_true rfl) (by decide) rfl (fun q2 hq2 => ?_)
  refine g_seg0 (pc' := 15) (L' := [some (vR (kO 8) 0), none, none, none]) (st' := [vR (kO 2) (q2.2.2.2 0)]) (u1 := q2.2) [(oL 2 0, 1), (oP (.getfield 19), 3)] (by decide +kernel) rfl rfl ?_
  refine g_callV (k := 203) (pc2 := 18) (st := []) (CX2_allGoods (q2.2.2.2 0) q2.2) miX2_allGoods mvX2_allGoods rfl (by decide) lk8_203 wI_ok (by decide +kernel) rfl (Nat.le_of_ble_eq_true rfl) (by decide) rfl (fun q3 hq3 => ?_)
  refine g_seg0 (pc' := 21) (L' := [some (vR (kO 8) 0), some (vI (q3.1)), some (vI 0), none]) (st' := []) (u1 := q3.2) [(oL 3 1, 1), (oC 0, 1), (oL 3 2, 1)] (by decide +kernel) rfl rfl ?_
  exact tX9_spare_21 fu q3.1 0 q3.2
theorem CX9_spare (u : ab_S) : ab_C 0 yX9_spare cX9_spare 4 (some .int) 6 [vR (kO 8) 0] u wI (fX9_spare u) := ab_entry (by decide +kernel) rfl (by decide) (by decide) (fun _ => Nat.le_of_ble_eq_true rfl) rfl (tX9_spare u)
def fX9_odds_61 : Nat → Int32 → Int64 → Int64 → Int64 → Int64 → Int32 → ab_S → Option (Int32 × ab_S)
  | 0, _, _, _, _, _, _, _ => none
  | n + 1, v2, v3, v5, v7, v9, v11, u =>
  bif decide (v11 < v2) then (
    (fX9_odds_61 n) v2 v3 v5 (v7 * v3) (v9 * v5) (v11 + 1) u)
  else (
    bif decide (v7 ≤ 0) then (
      some ((-1), u))
    else (
      ab_gd [decide (¬ v7 = 0)] (
        some ((Int64.toInt32 (((v7 - v9) * 1000000) / v7)), u))))
theorem tX9_odds_61 : ∀ (n : Nat) (v2 : Int32) (v3 : Int64) (v5 : Int64) (v7 : Int64) (v9 : Int64) (v11 : Int32) (u : ab_S), ab_G 0 8 cX9_odds (some .int) 2 61 [none, none, some (vI v2), some (vL v3), none, some (vL v5), none, some (vL v7), none, some (vL v9), none, some (vI v11)] [] u wI (fX9_odds_61 n v2 v3 v5 v7 v9 v11 u) := by
  intro n
  induction n with
  | zero => intros; exact g_none
  | succ n ih =>
    intro v2 v3 v5 v7 v9 v11 u
    rw [fX9_odds_61]
    refine g_seg0 (pc' := 64) (L' := [none, none, some (vI v2), some (vL v3), none, some (vL v5), none, some (vL v7), none, some (vL v9), none, some (vI v11)]) (st' := [vI v2, vI v11]) (u1 := u) [(oL 0 11, 2), (oL 0 2, 1)] (by decide +kernel) rfl rfl ?_
    refine g_ige (off := 22) (tgt := 86) (pc2 := 67) (by decide +kernel) (by decide) rfl ?_ ?_
    · refine g_seg0 (pc' := 89) (L' := [none, none, some (vI v2), some (vL v3), none, some (vL v5), none, some (vL v7), none, some (vL v9), none, some (vI v11)]) (st' := [vL 0, vL v7]) (u1 := u) [(oL 1 7, 2), (oD 0, 1)] (by decide +kernel) rfl rfl ?_
      refine g_lle (off := 19) (tgt := 109) (pc1 := 90) (pc2 := 93) (by decide +kernel) rfl (by decide +kernel) (by decide) rfl ?_ ?_
      · refine g_seg0 (pc' := 110) (L' := [none, none, some (vI v2), some (vL v3), none, some (vL v5), none, some (vL v7), none, some (vL v9), none, some (vI v11)]) (st' := [vI (-1)]) (u1 := u) [(oC (-1), 1)] (by decide +kernel) rfl rfl ?_
        exact g_iret (by decide +kernel) rfl
      · refine g_seg (pc' := 106) (L' := [none, none, some (vI v2), some (vL v3), none, some (vL v5), none, some (vL v7), none, some (vL v9), none, some (vI v11)]) (st' := [vI (Int64.toInt32 (((v7 - v9) * 1000000) / v7))]) (u1 := u) [(oL 1 7, 2), (oL 1 9, 2), (oP .lsub, 1), (oD 1000000, 3), (oP .lmul, 1), (oL 1 7, 2), (oP .ldiv, 1), (oP .l2i, 1)] (by decide +kernel) rfl rfl ?_
        refine g_goto (off := 4) (tgt := 110) (by decide +kernel) (by decide) ?_
        exact g_iret (by decide +kernel) rfl
    · refine g_seg0 (pc' := 83) (L' := [none, none, some (vI v2), some (vL v3), none, some (vL v5), none, some (vL (v7 * v3)), none, some (vL (v9 * v5)), none, some (vI (v11 + 1))]) (st' := []) (u1 := u) [(oL 1 7, 2), (oL 1 3, 1), (oP .lmul, 1), (oL 4 7, 2), (oL 1 9, 2), (oL 1 5, 2), (oP .lmul, 1), (oL 4 9, 2), (oN 11 1, 3)] (by decide +kernel) rfl rfl ?_
      refine g_goto (off := (-22)) (tgt := 61) (by decide +kernel) (by decide) ?_
      exact ih v2 v3 v5 (v7 * v3) (v9 * v5) (v11 + 1) u
def fX9_odds (v1 : Int32) (v2 : Int32) (u : ab_S) : Option (Int32 × ab_S) :=
  (fX5_allTickets 38 u).bind fun q1 =>
    (fX2_hasPerson (q1.2.2.2 0) v1 q1.2).bind fun q2 =>
      bif decide (q2.1 = 0) then (
        some ((-1), q2.2))
      else (
        bif decide (v2 < 1) then (
          some ((-1), q2.2))
        else (
          bif decide (v2 ≤ 6) then (
            bif decide ((Int32.toInt64 q1.1) ≤ 0) then (
              some ((-1), q2.2))
            else (
              (fX5_ticketsOf 38 v1 q2.2).bind fun q3 =>
                fX9_odds_61 fu v2 (Int32.toInt64 q1.1) ((Int32.toInt64 q1.1) - (Int32.toInt64 q3.1)) 1 1 0 q3.2))
          else (
            some ((-1), q2.2))))
theorem tX9_odds (v1 : Int32) (v2 : Int32) (u : ab_S) : ab_G 0 8 cX9_odds (some .int) 2 0 [some (vR (kO 8) 0), some (vI v1), some (vI v2), none, none, none, none, none, none, none, none, none] [] u wI (fX9_odds v1 v2 u) := by
  rw [fX9_odds]
  refine g_seg0 (pc' := 4) (L' := [some (vR (kO 8) 0), some (vI v1), some (vI v2), none, none, none, none, none, none, none, none, none]) (st' := [vR (kO 5) 38]) (u1 := u) [(oL 2 0, 1), (oP (.getfield 39), 3)] (by decide +kernel) rfl rfl ?_
  refine g_callV (k := 258) (pc2 := 7) (st := []) (CX5_allTickets 38 u) miX5_allTickets mvX5_allTickets rfl (by decide) lk8_258 wI_ok (by decide +kernel) rfl (Nat.le_of_ble_eq_true rfl) (by decide) rfl (fun q1 hq1 => ?_)
  refine g_seg0 (pc' := 14) (L' := [some (vR (kO 8) 0), some (vI v1), some (vI v2), some (vL (Int32.toInt64 q1.1)), none, none, none, none, none, none, none, none]) (st' := [vI v1, vR (kO 2) (q1.2.2.2 0)]) (u1 := q1.2) [(oP .i2l, 1), (oL 4 3, 1), (oL 2 0, 1), (oP (.getfield 19), 3), (oL 0 1, 1)] (by decide +kernel) rfl rfl ?_
  refine g_callV (k := 120) (pc2 := 17) (st := []) (CX2_hasPerson (q1.2.2.2 0) v1 q1.2) miX2_hasPerson mvX2_hasPerson rfl (by decide) lk8_120 wI_ok (by decide +kernel) rfl (Nat.le_of_ble_eq_true rfl) (by decide) rfl (fun q2 hq2 => ?_)
  refine g_zeq (off := 20) (tgt := 37) (pc2 := 20) (by decide +kernel) (by decide) rfl ?_ ?_
  · refine g_seg0 (pc' := 38) (L' := [some (vR (kO 8) 0), some (vI v1), some (vI v2), some (vL (Int32.toInt64 q1.1)), none, none, none, none, none, none, none, none]) (st' := [vI (-1)]) (u1 := q2.2) [(oC (-1), 1)] (by decide +kernel) rfl rfl ?_
    exact g_iret (by decide +kernel) rfl
  · refine g_seg0 (pc' := 22) (L' := [some (vR (kO 8) 0), some (vI v1), some (vI v2), some (vL (Int32.toInt64 q1.1)), none, none, none, none, none, none, none, none]) (st' := [vI 1, vI v2]) (u1 := q2.2) [(oL 0 2, 1), (oC 1, 1)] (by decide +kernel) rfl rfl ?_
    refine g_ilt (off := 15) (tgt := 37) (pc2 := 25) (by decide +kernel) (by decide) rfl ?_ ?_
    · refine g_seg0 (pc' := 38) (L' := [some (vR (kO 8) 0), some (vI v1), some (vI v2), some (vL (Int32.toInt64 q1.1)), none, none, none, none, none, none, none, none]) (st' := [vI (-1)]) (u1 := q2.2) [(oC (-1), 1)] (by decide +kernel) rfl rfl ?_
      exact g_iret (by decide +kernel) rfl
    · refine g_seg0 (pc' := 28) (L' := [some (vR (kO 8) 0), some (vI v1), some (vI v2), some (vL (Int32.toInt64 q1.1)), none, none, none, none, none, none, none, none]) (st' := [vI 6, vI v2]) (u1 := q2.2) [(oL 0 2, 1), (oC 6, 2)] (by decide +kernel) rfl rfl ?_
      refine g_igt (off := 9) (tgt := 37) (pc2 := 31) (by decide +kernel) (by decide) rfl ?_ ?_
      · refine g_seg0 (pc' := 38) (L' := [some (vR (kO 8) 0), some (vI v1), some (vI v2), some (vL (Int32.toInt64 q1.1)), none, none, none, none, none, none, none, none]) (st' := [vI (-1)]) (u1 := q2.2) [(oC (-1), 1)] (by decide +kernel) rfl rfl ?_
        exact g_iret (by decide +kernel) rfl
      · refine g_seg0 (pc' := 33) (L' := [some (vR (kO 8) 0), some (vI v1), some (vI v2), some (vL (Int32.toInt64 q1.1)), none, none, none, none, none, none, none, none]) (st' := [vL 0, vL (Int32.toInt64 q1.1)]) (u1 := q2.2) [(oL 1 3, 1), (oD 0, 1)] (by decide +kernel) rfl rfl ?_
        refine g_lgt (off := 5) (tgt := 39) (pc1 := 34) (pc2 := 37) (by decide +kernel) rfl (by decide +kernel) (by decide) rfl ?_ ?_
        · refine g_seg0 (pc' := 45) (L' := [some (vR (kO 8) 0), some (vI v1), some (vI v2), some (vL (Int32.toInt64 q1.1)), none, none, none, none, none, none, none, none]) (st' := [vI v1, vR (kO 5) 38, vL (Int32.toInt64 q1.1)]) (u1 := q2.2) [(oL 1 3, 1), (oL 2 0, 1), (oP (.getfield 39), 3), (oL 0 1, 1)] (by decide +kernel) rfl rfl ?_
          refine g_callV (k := 131) (pc2 := 48) (st := [vL (Int32.toInt64 q1.1)]) (CX5_ticketsOf 38 v1 q2.2) miX5_ticketsOf mvX5_ticketsOf rfl (by decide) lk8_131 wI_ok (by decide +kernel) rfl (Nat.le_of_ble_eq_true rfl) (by decide) rfl (fun q3 hq3 => ?_)
          refine g_seg0 (pc' := 61) (L' := [some (vR (kO 8) 0), some (vI v1), some (vI v2), some (vL (Int32.toInt64 q1.1)), none, some (vL ((Int32.toInt64 q1.1) - (Int32.toInt64 q3.1))), none, some (vL 1), none, some (vL 1), none, some (vI 0)]) (st' := []) (u1 := q3.2) [(oP .i2l, 1), (oP .lsub, 1), (oL 4 5, 2), (oD 1, 1), (oL 4 7, 2), (oD 1, 1), (oL 4 9, 2), (oC 0, 1), (oL 3 11, 2)] (by decide +kernel) rfl rfl ?_
          exact g_jump [false, false, true, true, false, true, false, true, false, true, false, true] rfl (tX9_odds_61 fu v2 (Int32.toInt64 q1.1) ((Int32.toInt64 q1.1) - (Int32.toInt64 q3.1)) 1 1 0 q3.2)
        · refine g_seg0 (pc' := 38) (L' := [some (vR (kO 8) 0), some (vI v1), some (vI v2), some (vL (Int32.toInt64 q1.1)), none, none, none, none, none, none, none, none]) (st' := [vI (-1)]) (u1 := q2.2) [(oC (-1), 1)] (by decide +kernel) rfl rfl ?_
          exact g_iret (by decide +kernel) rfl
theorem CX9_odds (v1 : Int32) (v2 : Int32) (u : ab_S) : ab_C 0 yX9_odds cX9_odds 12 (some .int) 2 [vR (kO 8) 0, vI v1, vI v2] u wI (fX9_odds v1 v2 u) := ab_entry (by decide +kernel) rfl (by decide) (by decide) (fun _ => Nat.le_of_ble_eq_true rfl) rfl (tX9_odds v1 v2 u)
def fX9_enough_44 : Nat → Int32 → Int32 → Int32 → ab_S → Option (Int32 × ab_S)
  | 0, _, _, _, _ => none
  | n + 1, v2, v3, v4, u =>
  bif decide (v4 ≤ 99) then (
    bif decide ((100 * v4) < (v2 * (v4 + v3))) then (
      (fX9_enough_44 n) v2 v3 (v4 + 1) u)
    else (
      some (v4, u)))
  else (
    some ((-1), u))
theorem tX9_enough_44 : ∀ (n : Nat) (v2 : Int32) (v3 : Int32) (v4 : Int32) (u : ab_S), ab_G 0 8 cX9_enough (some .int) 2 44 [none, none, some (vI v2), some (vI v3), some (vI v4)] [] u wI (fX9_enough_44 n v2 v3 v4 u) := by
  intro n
  induction n with
  | zero => intros; exact g_none
  | succ n ih =>
    intro v2 v3 v4 u
    rw [fX9_enough_44]
    refine g_seg0 (pc' := 48) (L' := [none, none, some (vI v2), some (vI v3), some (vI v4)]) (st' := [vI 99, vI v4]) (u1 := u) [(oL 0 4, 2), (oC 99, 2)] (by decide +kernel) rfl rfl ?_
    refine g_igt (off := 26) (tgt := 74) (pc2 := 51) (by decide +kernel) (by decide) rfl ?_ ?_
    · refine g_seg0 (pc' := 75) (L' := [none, none, some (vI v2), some (vI v3), some (vI v4)]) (st' := [vI (-1)]) (u1 := u) [(oC (-1), 1)] (by decide +kernel) rfl rfl ?_
      exact g_iret (by decide +kernel) rfl
    · refine g_seg0 (pc' := 62) (L' := [none, none, some (vI v2), some (vI v3), some (vI v4)]) (st' := [vI (v2 * (v4 + v3)), vI (100 * v4)]) (u1 := u) [(oC 100, 2), (oL 0 4, 2), (oP .imul, 1), (oL 0 2, 1), (oL 0 4, 2), (oL 0 3, 1), (oP .iadd, 1), (oP .imul, 1)] (by decide +kernel) rfl rfl ?_
      refine g_ilt (off := 6) (tgt := 68) (pc2 := 65) (by decide +kernel) (by decide) rfl ?_ ?_
      · refine g_seg0 (pc' := 71) (L' := [none, none, some (vI v2), some (vI v3), some (vI (v4 + 1))]) (st' := []) (u1 := u) [(oN 4 1, 3)] (by decide +kernel) rfl rfl ?_
        refine g_goto (off := (-27)) (tgt := 44) (by decide +kernel) (by decide) ?_
        exact ih v2 v3 (v4 + 1) u
      · refine g_seg0 (pc' := 67) (L' := [none, none, some (vI v2), some (vI v3), some (vI v4)]) (st' := [vI v4]) (u1 := u) [(oL 0 4, 2)] (by decide +kernel) rfl rfl ?_
        exact g_iret (by decide +kernel) rfl
def fX9_enough (v1 : Int32) (v2 : Int32) (u : ab_S) : Option (Int32 × ab_S) :=
  (fX2_hasPerson (u.2.2 0) v1 u).bind fun q1 =>
    bif decide (q1.1 = 0) then (
      some ((-1), q1.2))
    else (
      bif decide (v2 < 1) then (
        some ((-1), q1.2))
      else (
        bif decide (v2 ≤ 99) then (
          (fX5_allTickets 38 q1.2).bind fun q2 =>
            (fX5_ticketsOf 38 v1 q2.2).bind fun q3 =>
              fX9_enough_44 fu v2 (q2.1 - q3.1) 1 q3.2)
        else (
          some ((-1), q1.2))))
theorem tX9_enough (v1 : Int32) (v2 : Int32) (u : ab_S) : ab_G 0 8 cX9_enough (some .int) 2 0 [some (vR (kO 8) 0), some (vI v1), some (vI v2), none, none] [] u wI (fX9_enough v1 v2 u) := by
  rw [fX9_enough]
  refine g_seg0 (pc' := 5) (L' := [some (vR (kO 8) 0), some (vI v1), some (vI v2), none, none]) (st' := [vI v1, vR (kO 2) (u.2.2 0)]) (u1 := u) [(oL 2 0, 1), (oP (.getfield 19), 3), (oL 0 1, 1)] (by decide +kernel) rfl rfl ?_
  refine g_callV (k := 120) (pc2 := 8) (st := []) (CX2_hasPerson (u.2.2 0) v1 u) miX2_hasPerson mvX2_hasPerson rfl (by decide) lk8_120 wI_ok (by decide +kernel) rfl (Nat.le_of_ble_eq_true rfl) (by decide) rfl (fun q1 hq1 => ?_)
  refine g_zeq (off := 14) (tgt := 22) (pc2 := 11) (by decide +kernel) (by decide) rfl ?_ ?_
  · refine g_seg0 (pc' := 23) (L' := [some (vR (kO 8) 0), some (vI v1), some (vI v2), none, none]) (st' := [vI (-1)]) (u1 := q1.2) [(oC (-1), 1)] (by decide +kernel) rfl rfl ?_
    exact g_iret (by decide +kernel) rfl
  · refine g_seg0 (pc' := 13) (L' := [some (vR (kO 8) 0), some (vI v1), some (vI v2), none, none]) (st' := [vI 1, vI v2]) (u1 := q1.2) [(oL 0 2, 1), (oC 1, 1)] (by decide +kernel) rfl rfl ?_
    refine g_ilt (off := 9) (tgt := 22) (pc2 := 16) (by decide +kernel) (by decide) rfl ?_ ?_
    · refine g_seg0 (pc' := 23) (L' := [some (vR (kO 8) 0), some (vI v1), some (vI v2), none, none]) (st' := [vI (-1)]) (u1 := q1.2) [(oC (-1), 1)] (by decide +kernel) rfl rfl ?_
      exact g_iret (by decide +kernel) rfl
    · refine g_seg0 (pc' := 19) (L' := [some (vR (kO 8) 0), some (vI v1), some (vI v2), none, none]) (st' := [vI 99, vI v2]) (u1 := q1.2) [(oL 0 2, 1), (oC 99, 2)] (by decide +kernel) rfl rfl ?_
      refine g_ile (off := 5) (tgt := 24) (pc2 := 22) (by decide +kernel) (by decide) rfl ?_ ?_
      · refine g_seg0 (pc' := 28) (L' := [some (vR (kO 8) 0), some (vI v1), some (vI v2), none, none]) (st' := [vR (kO 5) 38]) (u1 := q1.2) [(oL 2 0, 1), (oP (.getfield 39), 3)] (by decide +kernel) rfl rfl ?_
        refine g_callV (k := 258) (pc2 := 31) (st := []) (CX5_allTickets 38 q1.2) miX5_allTickets mvX5_allTickets rfl (by decide) lk8_258 wI_ok (by decide +kernel) rfl (Nat.le_of_ble_eq_true rfl) (by decide) rfl (fun q2 hq2 => ?_)
        refine g_seg0 (pc' := 36) (L' := [some (vR (kO 8) 0), some (vI v1), some (vI v2), none, none]) (st' := [vI v1, vR (kO 5) 38, vI (q2.1)]) (u1 := q2.2) [(oL 2 0, 1), (oP (.getfield 39), 3), (oL 0 1, 1)] (by decide +kernel) rfl rfl ?_
        refine g_callV (k := 131) (pc2 := 39) (st := [vI (q2.1)]) (CX5_ticketsOf 38 v1 q2.2) miX5_ticketsOf mvX5_ticketsOf rfl (by decide) lk8_131 wI_ok (by decide +kernel) rfl (Nat.le_of_ble_eq_true rfl) (by decide) rfl (fun q3 hq3 => ?_)
        refine g_seg0 (pc' := 44) (L' := [some (vR (kO 8) 0), some (vI v1), some (vI v2), some (vI (q2.1 - q3.1)), some (vI 1)]) (st' := []) (u1 := q3.2) [(oP .isub, 1), (oL 3 3, 1), (oC 1, 1), (oL 3 4, 2)] (by decide +kernel) rfl rfl ?_
        exact g_jump [false, false, true, true, true] rfl (tX9_enough_44 fu v2 (q2.1 - q3.1) 1 q3.2)
      · refine g_seg0 (pc' := 23) (L' := [some (vR (kO 8) 0), some (vI v1), some (vI v2), none, none]) (st' := [vI (-1)]) (u1 := q1.2) [(oC (-1), 1)] (by decide +kernel) rfl rfl ?_
        exact g_iret (by decide +kernel) rfl
theorem CX9_enough (v1 : Int32) (v2 : Int32) (u : ab_S) : ab_C 0 yX9_enough cX9_enough 5 (some .int) 2 [vR (kO 8) 0, vI v1, vI v2] u wI (fX9_enough v1 v2 u) := ab_entry (by decide +kernel) rfl (by decide) (by decide) (fun _ => Nat.le_of_ble_eq_true rfl) rfl (tX9_enough v1 v2 u)
def fX9_run_54 : Nat → Int64 → Int64 → Int64 → Int32 → ab_S → Option (Int32 × ab_S)
  | 0, _, _, _, _, _ => none
  | n + 1, v2, v4, v6, v8, u =>
  bif decide (v8 ≤ 99) then (
    bif decide (v2 ≤ 0) then (
      some ((-1), u))
    else (
      ab_gd [decide (¬ v2 = 0)] (
        bif decide (((v6 * v4) / v2) ≤ 500000) then (
          some (v8, u))
        else (
          (fX9_run_54 n) v2 v4 ((v6 * v4) / v2) (v8 + 1) u))))
  else (
    some ((-1), u))
theorem tX9_run_54 : ∀ (n : Nat) (v2 : Int64) (v4 : Int64) (v6 : Int64) (v8 : Int32) (u : ab_S), ab_G 0 8 cX9_run (some .int) 2 54 [none, none, some (vL v2), none, some (vL v4), none, some (vL v6), none, some (vI v8)] [] u wI (fX9_run_54 n v2 v4 v6 v8 u) := by
  intro n
  induction n with
  | zero => intros; exact g_none
  | succ n ih =>
    intro v2 v4 v6 v8 u
    rw [fX9_run_54]
    refine g_seg0 (pc' := 58) (L' := [none, none, some (vL v2), none, some (vL v4), none, some (vL v6), none, some (vI v8)]) (st' := [vI 99, vI v8]) (u1 := u) [(oL 0 8, 2), (oC 99, 2)] (by decide +kernel) rfl rfl ?_
    refine g_igt (off := 36) (tgt := 94) (pc2 := 61) (by decide +kernel) (by decide) rfl ?_ ?_
    · refine g_seg0 (pc' := 95) (L' := [none, none, some (vL v2), none, some (vL v4), none, some (vL v6), none, some (vI v8)]) (st' := [vI (-1)]) (u1 := u) [(oC (-1), 1)] (by decide +kernel) rfl rfl ?_
      exact g_iret (by decide +kernel) rfl
    · refine g_seg0 (pc' := 63) (L' := [none, none, some (vL v2), none, some (vL v4), none, some (vL v6), none, some (vI v8)]) (st' := [vL 0, vL v2]) (u1 := u) [(oL 1 2, 1), (oD 0, 1)] (by decide +kernel) rfl rfl ?_
      refine g_lle (off := 30) (tgt := 94) (pc1 := 64) (pc2 := 67) (by decide +kernel) rfl (by decide +kernel) (by decide) rfl ?_ ?_
      · refine g_seg0 (pc' := 95) (L' := [none, none, some (vL v2), none, some (vL v4), none, some (vL v6), none, some (vI v8)]) (st' := [vI (-1)]) (u1 := u) [(oC (-1), 1)] (by decide +kernel) rfl rfl ?_
        exact g_iret (by decide +kernel) rfl
      · refine g_seg (pc' := 81) (L' := [none, none, some (vL v2), none, some (vL v4), none, some (vL ((v6 * v4) / v2)), none, some (vI v8)]) (st' := [vL 500000, vL ((v6 * v4) / v2)]) (u1 := u) [(oL 1 6, 2), (oL 1 4, 2), (oP .lmul, 1), (oL 1 2, 1), (oP .ldiv, 1), (oL 4 6, 2), (oL 1 6, 2), (oD 500000, 3)] (by decide +kernel) rfl rfl ?_
        refine g_lgt (off := 6) (tgt := 88) (pc1 := 82) (pc2 := 85) (by decide +kernel) rfl (by decide +kernel) (by decide) rfl ?_ ?_
        · refine g_seg0 (pc' := 91) (L' := [none, none, some (vL v2), none, some (vL v4), none, some (vL ((v6 * v4) / v2)), none, some (vI (v8 + 1))]) (st' := []) (u1 := u) [(oN 8 1, 3)] (by decide +kernel) rfl rfl ?_
          refine g_goto (off := (-37)) (tgt := 54) (by decide +kernel) (by decide) ?_
          exact ih v2 v4 ((v6 * v4) / v2) (v8 + 1) u
        · refine g_seg0 (pc' := 87) (L' := [none, none, some (vL v2), none, some (vL v4), none, some (vL ((v6 * v4) / v2)), none, some (vI v8)]) (st' := [vI v8]) (u1 := u) [(oL 0 8, 2)] (by decide +kernel) rfl rfl ?_
          exact g_iret (by decide +kernel) rfl
def fX9_run (v1 : Int32) (u : ab_S) : Option (Int32 × ab_S) :=
  (fX2_hasPerson (u.2.2 0) v1 u).bind fun q1 =>
    bif decide (q1.1 = 0) then (
      some ((-1), q1.2))
    else (
      (fX5_ticketsOf 38 v1 q1.2).bind fun q2 =>
        bif decide (q2.1 ≤ 0) then (
          some ((-1), q2.2))
        else (
          (fX5_allTickets 38 q2.2).bind fun q3 =>
            (fX5_ticketsOf 38 v1 q3.2).bind fun q4 =>
              fX9_run_54 fu (Int32.toInt64 q3.1) ((Int32.toInt64 q3.1) - (Int32.toInt64 q4.1)) 1000000 1 q4.2))
theorem tX9_run (v1 : Int32) (u : ab_S) : ab_G 0 8 cX9_run (some .int) 2 0 [some (vR (kO 8) 0), some (vI v1), none, none, none, none, none, none, none] [] u wI (fX9_run v1 u) := by
  rw [fX9_run]
  refine g_seg0 (pc' := 5) (L' := [some (vR (kO 8) 0), some (vI v1), none, none, none, none, none, none, none]) (st' := [vI v1, vR (kO 2) (u.2.2 0)]) (u1 := u) [(oL 2 0, 1), (oP (.getfield 19), 3), (oL 0 1, 1)] (by decide +kernel) rfl rfl ?_
  refine g_callV (k := 120) (pc2 := 8) (st := []) (CX2_hasPerson (u.2.2 0) v1 u) miX2_hasPerson mvX2_hasPerson rfl (by decide) lk8_120 wI_ok (by decide +kernel) rfl (Nat.le_of_ble_eq_true rfl) (by decide) rfl (fun q1 hq1 => ?_)
  refine g_zeq (off := 14) (tgt := 22) (pc2 := 11) (by decide +kernel) (by decide) rfl ?_ ?_
  · refine g_seg0 (pc' := 23) (L' := [some (vR (kO 8) 0), some (vI v1), none, none, none, none, none, none, none]) (st' := [vI (-1)]) (u1 := q1.2) [(oC (-1), 1)] (by decide +kernel) rfl rfl ?_
    exact g_iret (by decide +kernel) rfl
  · refine g_seg0 (pc' := 16) (L' := [some (vR (kO 8) 0), some (vI v1), none, none, none, none, none, none, none]) (st' := [vI v1, vR (kO 5) 38]) (u1 := q1.2) [(oL 2 0, 1), (oP (.getfield 39), 3), (oL 0 1, 1)] (by decide +kernel) rfl rfl ?_
    refine g_callV (k := 131) (pc2 := 19) (st := []) (CX5_ticketsOf 38 v1 q1.2) miX5_ticketsOf mvX5_ticketsOf rfl (by decide) lk8_131 wI_ok (by decide +kernel) rfl (Nat.le_of_ble_eq_true rfl) (by decide) rfl (fun q2 hq2 => ?_)
    refine g_zgt (off := 5) (tgt := 24) (pc2 := 22) (by decide +kernel) (by decide) rfl ?_ ?_
    · refine g_seg0 (pc' := 28) (L' := [some (vR (kO 8) 0), some (vI v1), none, none, none, none, none, none, none]) (st' := [vR (kO 5) 38]) (u1 := q2.2) [(oL 2 0, 1), (oP (.getfield 39), 3)] (by decide +kernel) rfl rfl ?_
      refine g_callV (k := 258) (pc2 := 31) (st := []) (CX5_allTickets 38 q2.2) miX5_allTickets mvX5_allTickets rfl (by decide) lk8_258 wI_ok (by decide +kernel) rfl (Nat.le_of_ble_eq_true rfl) (by decide) rfl (fun q3 hq3 => ?_)
      refine g_seg0 (pc' := 39) (L' := [some (vR (kO 8) 0), some (vI v1), some (vL (Int32.toInt64 q3.1)), none, none, none, none, none, none]) (st' := [vI v1, vR (kO 5) 38, vL (Int32.toInt64 q3.1)]) (u1 := q3.2) [(oP .i2l, 1), (oL 4 2, 1), (oL 1 2, 1), (oL 2 0, 1), (oP (.getfield 39), 3), (oL 0 1, 1)] (by decide +kernel) rfl rfl ?_
      refine g_callV (k := 131) (pc2 := 42) (st := [vL (Int32.toInt64 q3.1)]) (CX5_ticketsOf 38 v1 q3.2) miX5_ticketsOf mvX5_ticketsOf rfl (by decide) lk8_131 wI_ok (by decide +kernel) rfl (Nat.le_of_ble_eq_true rfl) (by decide) rfl (fun q4 hq4 => ?_)
      refine g_seg0 (pc' := 54) (L' := [some (vR (kO 8) 0), some (vI v1), some (vL (Int32.toInt64 q3.1)), none, some (vL ((Int32.toInt64 q3.1) - (Int32.toInt64 q4.1))), none, some (vL 1000000), none, some (vI 1)]) (st' := []) (u1 := q4.2) [(oP .i2l, 1), (oP .lsub, 1), (oL 4 4, 2), (oD 1000000, 3), (oL 4 6, 2), (oC 1, 1), (oL 3 8, 2)] (by decide +kernel) rfl rfl ?_
      exact g_jump [false, false, true, false, true, false, true, false, true] rfl (tX9_run_54 fu (Int32.toInt64 q3.1) ((Int32.toInt64 q3.1) - (Int32.toInt64 q4.1)) 1000000 1 q4.2)
    · refine g_seg0 (pc' := 23) (L' := [some (vR (kO 8) 0), some (vI v1), none, none, none, none, none, none, none]) (st' := [vI (-1)]) (u1 := q2.2) [(oC (-1), 1)] (by decide +kernel) rfl rfl ?_
      exact g_iret (by decide +kernel) rfl
theorem CX9_run (v1 : Int32) (u : ab_S) : ab_C 0 yX9_run cX9_run 9 (some .int) 2 [vR (kO 8) 0, vI v1] u wI (fX9_run v1 u) := ab_entry (by decide +kernel) rfl (by decide) (by decide) (fun _ => Nat.le_of_ble_eq_true rfl) rfl (tX9_run v1 u)
def fX4_add (o0 : Nat) (v1 : Int32) (v2 : Int32) (v3 : Int32) (u : ab_S) : Option (Int32 × ab_S) :=
  bif decide ((u.1 o0 3) < 0) then (
    ab_gd [ab_b1 0] (some (0, u)))
  else (
    bif decide ((u.1 o0 3) < 8) then (
      (fX9_put 8 (o0 + 1) (u.1 o0 3) v1 u).bind fun q1 =>
        (fX9_put 8 (o0 + 2) (q1.2.1 o0 3) v2 q1.2).bind fun q2 =>
          ab_gd [ab_ix (q2.2.1 o0 3) 8, ab_b1 v3] (
            ab_gd [ab_b1 1] (some (1, (sI (sI q2.2 (o0 + 3) (nc (q2.2.1 o0 3)) v3) o0 3 (((sI q2.2 (o0 + 3) (nc (q2.2.1 o0 3)) v3).1 o0 3) + 1))))))
    else (
      ab_gd [ab_b1 0] (some (0, u))))
theorem tX4_add (o0 : Nat) (v1 : Int32) (v2 : Int32) (v3 : Int32) (u : ab_S) : ab_G 0 4 cX4_add (some .boolean) 1 0 [some (vR (kO 4) o0), some (vI v1), some (vI v2), some (vI v3)] [] u wI (fX4_add o0 v1 v2 v3 u) := by
  rw [fX4_add]
  refine g_seg0 (pc' := 4) (L' := [some (vR (kO 4) o0), some (vI v1), some (vI v2), some (vI v3)]) (st' := [vI (u.1 o0 3)]) (u1 := u) [(oL 2 0, 1), (oP (.getfield 22), 3)] (by decide +kernel) rfl rfl ?_
  refine g_zlt (off := 15) (tgt := 19) (pc2 := 7) (by decide +kernel) (by decide) rfl ?_ ?_
  · refine g_seg0 (pc' := 20) (L' := [some (vR (kO 4) o0), some (vI v1), some (vI v2), some (vI v3)]) (st' := [vI 0]) (u1 := u) [(oC 0, 1)] (by decide +kernel) rfl rfl ?_
    exact g_zret (by decide +kernel) rfl
  · refine g_seg0 (pc' := 16) (L' := [some (vR (kO 4) o0), some (vI v1), some (vI v2), some (vI v3)]) (st' := [vI 8, vI (u.1 o0 3)]) (u1 := u) [(oL 2 0, 1), (oP (.getfield 22), 3), (oL 2 0, 1), (oP (.getfield 18), 3), (oP .arraylength, 1)] (by decide +kernel) rfl rfl ?_
    refine g_ilt (off := 5) (tgt := 21) (pc2 := 19) (by decide +kernel) (by decide) rfl ?_ ?_
    · refine g_seg0 (pc' := 30) (L' := [some (vR (kO 4) o0), some (vI v1), some (vI v2), some (vI v3)]) (st' := [vI v1, vI (u.1 o0 3), vR (kA 0 8) (o0 + 1)]) (u1 := u) [(oL 2 0, 1), (oP (.getfield 9), 3), (oL 2 0, 1), (oP (.getfield 22), 3), (oL 0 1, 1)] (by decide +kernel) rfl rfl ?_
      refine g_callS (k := 26) (pc2 := 33) (st := []) (CX9_put 8 (o0 + 1) (u.1 o0 3) v1 u) miX9_put msX9_put lk4_26 wV_ok (by decide +kernel) rfl (Nat.le_of_ble_eq_true rfl) (by decide) rfl (fun q1 hq1 => ?_)
      refine g_seg0 (pc' := 42) (L' := [some (vR (kO 4) o0), some (vI v1), some (vI v2), some (vI v3)]) (st' := [vI v2, vI (q1.2.1 o0 3), vR (kA 0 8) (o0 + 2)]) (u1 := q1.2) [(oL 2 0, 1), (oP (.getfield 15), 3), (oL 2 0, 1), (oP (.getfield 22), 3), (oL 0 2, 1)] (by decide +kernel) rfl rfl ?_
      refine g_callS (k := 26) (pc2 := 45) (st := []) (CX9_put 8 (o0 + 2) (q1.2.1 o0 3) v2 q1.2) miX9_put msX9_put lk4_26 wV_ok (by decide +kernel) rfl (Nat.le_of_ble_eq_true rfl) (by decide) rfl (fun q2 hq2 => ?_)
      refine g_seg (pc' := 66) (L' := [some (vR (kO 4) o0), some (vI v1), some (vI v2), some (vI v3)]) (st' := [vI 1]) (u1 := (sI (sI q2.2 (o0 + 3) (nc (q2.2.1 o0 3)) v3) o0 3 (((sI q2.2 (o0 + 3) (nc (q2.2.1 o0 3)) v3).1 o0 3) + 1))) [(oL 2 0, 1), (oP (.getfield 18), 3), (oL 2 0, 1), (oP (.getfield 22), 3), (oL 0 3, 1), (oP .bastore, 1), (oL 2 0, 1), (oP .dup, 1), (oP (.getfield 22), 3), (oC 1, 1), (oP .iadd, 1), (oP (.putfield 22), 3), (oC 1, 1)] (by decide +kernel) rfl rfl ?_
      exact g_zret (by decide +kernel) rfl
    · refine g_seg0 (pc' := 20) (L' := [some (vR (kO 4) o0), some (vI v1), some (vI v2), some (vI v3)]) (st' := [vI 0]) (u1 := u) [(oC 0, 1)] (by decide +kernel) rfl rfl ?_
      exact g_zret (by decide +kernel) rfl
theorem CX4_add (o0 : Nat) (v1 : Int32) (v2 : Int32) (v3 : Int32) (u : ab_S) : ab_C 0 yX4_add cX4_add 4 (some .boolean) 1 [vR (kO 4) o0, vI v1, vI v2, vI v3] u wI (fX4_add o0 v1 v2 v3 u) := ab_entry (by decide +kernel) rfl (by decide) (by decide) (fun _ => Nat.le_of_ble_eq_true rfl) rfl (tX4_add o0 v1 v2 v3 u)
def fX9_see (v1 : Int32) (v2 : Int32) (v3 : Int32) (u : ab_S) : Option (Int32 × ab_S) :=
  (fX2_hasGood (u.2.2 0) v1 u).bind fun q1 =>
    bif decide (q1.1 = 0) then (
      ab_gd [ab_b1 0] (some (0, q1.2)))
    else (
      bif decide (v2 < 0) then (
        ab_gd [ab_b1 0] (some (0, q1.2)))
      else (
        bif decide (v2 ≤ 99) then (
          (fX4_add 46 v1 v2 v3 q1.2).bind fun q2 =>
            ab_gd [ab_b1 q2.1] (some (q2.1, q2.2)))
        else (
          ab_gd [ab_b1 0] (some (0, q1.2)))))
theorem tX9_see (v1 : Int32) (v2 : Int32) (v3 : Int32) (u : ab_S) : ab_G 0 8 cX9_see (some .boolean) 2 0 [some (vR (kO 8) 0), some (vI v1), some (vI v2), some (vI v3)] [] u wI (fX9_see v1 v2 v3 u) := by
  rw [fX9_see]
  refine g_seg0 (pc' := 5) (L' := [some (vR (kO 8) 0), some (vI v1), some (vI v2), some (vI v3)]) (st' := [vI v1, vR (kO 2) (u.2.2 0)]) (u1 := u) [(oL 2 0, 1), (oP (.getfield 19), 3), (oL 0 1, 1)] (by decide +kernel) rfl rfl ?_
  refine g_callV (k := 137) (pc2 := 8) (st := []) (CX2_hasGood (u.2.2 0) v1 u) miX2_hasGood mvX2_hasGood rfl (by decide) lk8_137 wI_ok (by decide +kernel) rfl (Nat.le_of_ble_eq_true rfl) (by decide) rfl (fun q1 hq1 => ?_)
  refine g_zeq (off := 13) (tgt := 21) (pc2 := 11) (by decide +kernel) (by decide) rfl ?_ ?_
  · refine g_seg0 (pc' := 22) (L' := [some (vR (kO 8) 0), some (vI v1), some (vI v2), some (vI v3)]) (st' := [vI 0]) (u1 := q1.2) [(oC 0, 1)] (by decide +kernel) rfl rfl ?_
    exact g_zret (by decide +kernel) rfl
  · refine g_seg0 (pc' := 12) (L' := [some (vR (kO 8) 0), some (vI v1), some (vI v2), some (vI v3)]) (st' := [vI v2]) (u1 := q1.2) [(oL 0 2, 1)] (by decide +kernel) rfl rfl ?_
    refine g_zlt (off := 9) (tgt := 21) (pc2 := 15) (by decide +kernel) (by decide) rfl ?_ ?_
    · refine g_seg0 (pc' := 22) (L' := [some (vR (kO 8) 0), some (vI v1), some (vI v2), some (vI v3)]) (st' := [vI 0]) (u1 := q1.2) [(oC 0, 1)] (by decide +kernel) rfl rfl ?_
      exact g_zret (by decide +kernel) rfl
    · refine g_seg0 (pc' := 18) (L' := [some (vR (kO 8) 0), some (vI v1), some (vI v2), some (vI v3)]) (st' := [vI 99, vI v2]) (u1 := q1.2) [(oL 0 2, 1), (oC 99, 2)] (by decide +kernel) rfl rfl ?_
      refine g_ile (off := 5) (tgt := 23) (pc2 := 21) (by decide +kernel) (by decide) rfl ?_ ?_
      · refine g_seg0 (pc' := 30) (L' := [some (vR (kO 8) 0), some (vI v1), some (vI v2), some (vI v3)]) (st' := [vI v3, vI v2, vI v1, vR (kO 4) 46]) (u1 := q1.2) [(oL 2 0, 1), (oP (.getfield 49), 3), (oL 0 1, 1), (oL 0 2, 1), (oL 0 3, 1)] (by decide +kernel) rfl rfl ?_
        refine g_callV (k := 265) (pc2 := 33) (st := []) (CX4_add 46 v1 v2 v3 q1.2) miX4_add mvX4_add rfl (by decide) lk8_265 wI_ok (by decide +kernel) rfl (Nat.le_of_ble_eq_true rfl) (by decide) rfl (fun q2 hq2 => ?_)
        exact g_zret (by decide +kernel) rfl
      · refine g_seg0 (pc' := 22) (L' := [some (vR (kO 8) 0), some (vI v1), some (vI v2), some (vI v3)]) (st' := [vI 0]) (u1 := q1.2) [(oC 0, 1)] (by decide +kernel) rfl rfl ?_
        exact g_zret (by decide +kernel) rfl
theorem CX9_see (v1 : Int32) (v2 : Int32) (v3 : Int32) (u : ab_S) : ab_C 0 yX9_see cX9_see 4 (some .boolean) 2 [vR (kO 8) 0, vI v1, vI v2, vI v3] u wI (fX9_see v1 v2 v3 u) := ab_entry (by decide +kernel) rfl (by decide) (by decide) (fun _ => Nat.le_of_ble_eq_true rfl) rfl (tX9_see v1 v2 v3 u)
def fX4_allIsSo_49 (o0 : Nat) (o1 : Nat) (k2 : Int32 → Int32 → ab_S → Option (Int32 × ab_S)) (v2 : Int32) (v3 : Int32) (s0 : Int32) (u : ab_S) : Option (Int32 × ab_S) :=
  ab_gd [ab_ix v3 8] (
    bif decide (s0 = (u.1 (o0 + 3) (nc v3))) then (
      k2 v2 (v3 + 1) u)
    else (
      ab_gd [ab_b1 0] (some (0, u))))
theorem tX4_allIsSo_49 (o0 : Nat) (o1 : Nat) (k2 : Int32 → Int32 → ab_S → Option (Int32 × ab_S)) (hk2 : ∀ (v2 : Int32) (v3 : Int32) (u : ab_S), ab_G 0 4 cX4_allIsSo (some .boolean) 2 2 [some (vR (kO 4) o0), some (vR (kO 2) o1), some (vI v2), some (vI v3), none] [] u wI (k2 v2 v3 u)) (v2 : Int32) (v3 : Int32) (s0 : Int32) (u : ab_S) : ab_G 0 4 cX4_allIsSo (some .boolean) 2 49 [some (vR (kO 4) o0), some (vR (kO 2) o1), some (vI v2), some (vI v3), none] [vI s0] u wI (fX4_allIsSo_49 o0 o1 k2 v2 v3 s0 u) := by
  rw [fX4_allIsSo_49]
  refine g_seg (pc' := 59) (L' := [some (vR (kO 4) o0), some (vR (kO 2) o1), some (vI v2), some (vI v3), some (vI s0)]) (st' := [vI (u.1 (o0 + 3) (nc v3)), vI s0]) (u1 := u) [(oL 3 4, 2), (oL 0 4, 2), (oL 2 0, 1), (oP (.getfield 18), 3), (oL 0 3, 1), (oP .baload, 1)] (by decide +kernel) rfl rfl ?_
  refine g_ieq (off := 5) (tgt := 64) (pc2 := 62) (by decide +kernel) (by decide) rfl ?_ ?_
  · refine g_seg0 (pc' := 67) (L' := [some (vR (kO 4) o0), some (vR (kO 2) o1), some (vI v2), some (vI (v3 + 1)), some (vI s0)]) (st' := []) (u1 := u) [(oN 3 1, 3)] (by decide +kernel) rfl rfl ?_
    refine g_goto (off := (-65)) (tgt := 2) (by decide +kernel) (by decide) ?_
    exact g_jump [true, true, true, true, false] rfl (hk2 v2 (v3 + 1) u)
  · refine g_seg0 (pc' := 63) (L' := [some (vR (kO 4) o0), some (vR (kO 2) o1), some (vI v2), some (vI v3), some (vI s0)]) (st' := [vI 0]) (u1 := u) [(oC 0, 1)] (by decide +kernel) rfl rfl ?_
    exact g_zret (by decide +kernel) rfl
def fX4_allIsSo_2 (o0 : Nat) (o1 : Nat) : Nat → Int32 → Int32 → ab_S → Option (Int32 × ab_S)
  | 0, _, _, _ => none
  | n + 1, v2, v3, u =>
  bif decide (v3 < (u.1 o0 3)) then (
    bif decide (v3 < 8) then (
      (fX9_at 8 (o0 + 1) v3 u).bind fun q1 =>
        (fX2_fitBy o1 v2 q1.1 0 q1.2).bind fun q2 =>
          (fX9_at 8 (o0 + 2) v3 q2.2).bind fun q3 =>
            bif decide (q2.1 < q3.1) then (
              fX4_allIsSo_49 o0 o1 (fX4_allIsSo_2 o0 o1 n) v2 v3 0 q3.2)
            else (
              fX4_allIsSo_49 o0 o1 (fX4_allIsSo_2 o0 o1 n) v2 v3 1 q3.2))
    else (
      ab_gd [ab_b1 1] (some (1, u))))
  else (
    ab_gd [ab_b1 1] (some (1, u)))
theorem tX4_allIsSo_2 (o0 : Nat) (o1 : Nat) : ∀ (n : Nat) (v2 : Int32) (v3 : Int32) (u : ab_S), ab_G 0 4 cX4_allIsSo (some .boolean) 2 2 [some (vR (kO 4) o0), some (vR (kO 2) o1), some (vI v2), some (vI v3), none] [] u wI (fX4_allIsSo_2 o0 o1 n v2 v3 u) := by
  intro n
  induction n with
  | zero => intros; exact g_none
  | succ n ih =>
    intro v2 v3 u
    rw [fX4_allIsSo_2]
    refine g_seg0 (pc' := 7) (L' := [some (vR (kO 4) o0), some (vR (kO 2) o1), some (vI v2), some (vI v3), none]) (st' := [vI (u.1 o0 3), vI v3]) (u1 := u) [(oL 0 3, 1), (oL 2 0, 1), (oP (.getfield 22), 3)] (by decide +kernel) rfl rfl ?_
    refine g_ige (off := 63) (tgt := 70) (pc2 := 10) (by decide +kernel) (by decide) rfl ?_ ?_
    · refine g_seg0 (pc' := 71) (L' := [some (vR (kO 4) o0), some (vR (kO 2) o1), some (vI v2), some (vI v3), none]) (st' := [vI 1]) (u1 := u) [(oC 1, 1)] (by decide +kernel) rfl rfl ?_
      exact g_zret (by decide +kernel) rfl
    · refine g_seg0 (pc' := 16) (L' := [some (vR (kO 4) o0), some (vR (kO 2) o1), some (vI v2), some (vI v3), none]) (st' := [vI 8, vI v3]) (u1 := u) [(oL 0 3, 1), (oL 2 0, 1), (oP (.getfield 18), 3), (oP .arraylength, 1)] (by decide +kernel) rfl rfl ?_
      refine g_ige (off := 54) (tgt := 70) (pc2 := 19) (by decide +kernel) (by decide) rfl ?_ ?_
      · refine g_seg0 (pc' := 71) (L' := [some (vR (kO 4) o0), some (vR (kO 2) o1), some (vI v2), some (vI v3), none]) (st' := [vI 1]) (u1 := u) [(oC 1, 1)] (by decide +kernel) rfl rfl ?_
        exact g_zret (by decide +kernel) rfl
      · refine g_seg0 (pc' := 26) (L' := [some (vR (kO 4) o0), some (vR (kO 2) o1), some (vI v2), some (vI v3), none]) (st' := [vI v3, vR (kA 0 8) (o0 + 1), vI v2, vR (kO 2) o1]) (u1 := u) [(oL 2 1, 1), (oL 0 2, 1), (oL 2 0, 1), (oP (.getfield 9), 3), (oL 0 3, 1)] (by decide +kernel) rfl rfl ?_
        refine g_callS (k := 43) (pc2 := 29) (st := [vI v2, vR (kO 2) o1]) (CX9_at 8 (o0 + 1) v3 u) miX9_at msX9_at lk4_43 wI_ok (by decide +kernel) rfl (Nat.le_of_ble_eq_true rfl) (by decide) rfl (fun q1 hq1 => ?_)
        refine g_seg0 (pc' := 30) (L' := [some (vR (kO 4) o0), some (vR (kO 2) o1), some (vI v2), some (vI v3), none]) (st' := [vI 0, vI (q1.1), vI v2, vR (kO 2) o1]) (u1 := q1.2) [(oC 0, 1)] (by decide +kernel) rfl rfl ?_
        refine g_callV (k := 47) (pc2 := 33) (st := []) (CX2_fitBy o1 v2 q1.1 0 q1.2) miX2_fitBy mvX2_fitBy rfl (by decide) lk4_47 wI_ok (by decide +kernel) rfl (Nat.le_of_ble_eq_true rfl) (by decide) rfl (fun q2 hq2 => ?_)
        refine g_seg0 (pc' := 38) (L' := [some (vR (kO 4) o0), some (vR (kO 2) o1), some (vI v2), some (vI v3), none]) (st' := [vI v3, vR (kA 0 8) (o0 + 2), vI (q2.1)]) (u1 := q2.2) [(oL 2 0, 1), (oP (.getfield 15), 3), (oL 0 3, 1)] (by decide +kernel) rfl rfl ?_
        refine g_callS (k := 43) (pc2 := 41) (st := [vI (q2.1)]) (CX9_at 8 (o0 + 2) v3 q2.2) miX9_at msX9_at lk4_43 wI_ok (by decide +kernel) rfl (Nat.le_of_ble_eq_true rfl) (by decide) rfl (fun q3 hq3 => ?_)
        refine g_ilt (off := 7) (tgt := 48) (pc2 := 44) (by decide +kernel) (by decide) rfl ?_ ?_
        · refine g_seg0 (pc' := 49) (L' := [some (vR (kO 4) o0), some (vR (kO 2) o1), some (vI v2), some (vI v3), none]) (st' := [vI 0]) (u1 := q3.2) [(oC 0, 1)] (by decide +kernel) rfl rfl ?_
          exact tX4_allIsSo_49 o0 o1 (fX4_allIsSo_2 o0 o1 n) ih v2 v3 0 q3.2
        · refine g_seg0 (pc' := 45) (L' := [some (vR (kO 4) o0), some (vR (kO 2) o1), some (vI v2), some (vI v3), none]) (st' := [vI 1]) (u1 := q3.2) [(oC 1, 1)] (by decide +kernel) rfl rfl ?_
          refine g_goto (off := 4) (tgt := 49) (by decide +kernel) (by decide) ?_
          exact tX4_allIsSo_49 o0 o1 (fX4_allIsSo_2 o0 o1 n) ih v2 v3 1 q3.2
def fX4_allIsSo (o0 : Nat) (o1 : Nat) (v2 : Int32) (u : ab_S) : Option (Int32 × ab_S) :=
  fX4_allIsSo_2 o0 o1 fu v2 0 u
theorem tX4_allIsSo (o0 : Nat) (o1 : Nat) (v2 : Int32) (u : ab_S) : ab_G 0 4 cX4_allIsSo (some .boolean) 2 0 [some (vR (kO 4) o0), some (vR (kO 2) o1), some (vI v2), none, none] [] u wI (fX4_allIsSo o0 o1 v2 u) := by
  rw [fX4_allIsSo]
  refine g_seg0 (pc' := 2) (L' := [some (vR (kO 4) o0), some (vR (kO 2) o1), some (vI v2), some (vI 0), none]) (st' := []) (u1 := u) [(oC 0, 1), (oL 3 3, 1)] (by decide +kernel) rfl rfl ?_
  exact tX4_allIsSo_2 o0 o1 fu v2 0 u
theorem CX4_allIsSo (o0 : Nat) (o1 : Nat) (v2 : Int32) (u : ab_S) : ab_C 0 yX4_allIsSo cX4_allIsSo 5 (some .boolean) 2 [vR (kO 4) o0, vR (kO 2) o1, vI v2] u wI (fX4_allIsSo o0 o1 v2 u) := ab_entry (by decide +kernel) rfl (by decide) (by decide) (fun _ => Nat.le_of_ble_eq_true rfl) rfl (tX4_allIsSo o0 o1 v2 u)
def fX4_whoBits_4 (o0 : Nat) (o1 : Nat) : Nat → Int32 → Int32 → ab_S → Option (Int32 × ab_S)
  | 0, _, _, _ => none
  | n + 1, v2, v3, u =>
  bif decide (v3 < (u.1 o1 0)) then (
    (fX4_allIsSo o0 o1 v3 u).bind fun q1 =>
      bif decide (q1.1 = 0) then (
        (fX4_whoBits_4 o0 o1 n) v2 (v3 + 1) q1.2)
      else (
        (fX4_whoBits_4 o0 o1 n) (v2 ||| ((1 : Int32) <<< (v3 &&& 31))) (v3 + 1) q1.2))
  else (
    some (v2, u))
theorem tX4_whoBits_4 (o0 : Nat) (o1 : Nat) : ∀ (n : Nat) (v2 : Int32) (v3 : Int32) (u : ab_S), ab_G 0 4 cX4_whoBits (some .int) 3 4 [some (vR (kO 4) o0), some (vR (kO 2) o1), some (vI v2), some (vI v3)] [] u wI (fX4_whoBits_4 o0 o1 n v2 v3 u) := by
  intro n
  induction n with
  | zero => intros; exact g_none
  | succ n ih =>
    intro v2 v3 u
    rw [fX4_whoBits_4]
    refine g_seg0 (pc' := 9) (L' := [some (vR (kO 4) o0), some (vR (kO 2) o1), some (vI v2), some (vI v3)]) (st' := [vI (u.1 o1 0), vI v3]) (u1 := u) [(oL 0 3, 1), (oL 2 1, 1), (oP (.getfield 34), 3)] (by decide +kernel) rfl rfl ?_
    refine g_ige (off := 24) (tgt := 33) (pc2 := 12) (by decide +kernel) (by decide) rfl ?_ ?_
    · refine g_seg0 (pc' := 34) (L' := [some (vR (kO 4) o0), some (vR (kO 2) o1), some (vI v2), some (vI v3)]) (st' := [vI v2]) (u1 := u) [(oL 0 2, 1)] (by decide +kernel) rfl rfl ?_
      exact g_iret (by decide +kernel) rfl
    · refine g_seg0 (pc' := 15) (L' := [some (vR (kO 4) o0), some (vR (kO 2) o1), some (vI v2), some (vI v3)]) (st' := [vI v3, vR (kO 2) o1, vR (kO 4) o0]) (u1 := u) [(oL 2 0, 1), (oL 2 1, 1), (oL 0 3, 1)] (by decide +kernel) rfl rfl ?_
      refine g_callV (k := 39) (pc2 := 18) (st := []) (CX4_allIsSo o0 o1 v3 u) miX4_allIsSo mvX4_allIsSo rfl (by decide) lk4_39 wI_ok (by decide +kernel) rfl (Nat.le_of_ble_eq_true rfl) (by decide) rfl (fun q1 hq1 => ?_)
      refine g_zeq (off := 9) (tgt := 27) (pc2 := 21) (by decide +kernel) (by decide) rfl ?_ ?_
      · refine g_seg0 (pc' := 30) (L' := [some (vR (kO 4) o0), some (vR (kO 2) o1), some (vI v2), some (vI (v3 + 1))]) (st' := []) (u1 := q1.2) [(oN 3 1, 3)] (by decide +kernel) rfl rfl ?_
        refine g_goto (off := (-26)) (tgt := 4) (by decide +kernel) (by decide) ?_
        exact ih v2 (v3 + 1) q1.2
      · refine g_seg0 (pc' := 30) (L' := [some (vR (kO 4) o0), some (vR (kO 2) o1), some (vI (v2 ||| ((1 : Int32) <<< (v3 &&& 31)))), some (vI (v3 + 1))]) (st' := []) (u1 := q1.2) [(oL 0 2, 1), (oC 1, 1), (oL 0 3, 1), (oP .ishl, 1), (oP .ior, 1), (oL 3 2, 1), (oN 3 1, 3)] (by decide +kernel) rfl rfl ?_
        refine g_goto (off := (-26)) (tgt := 4) (by decide +kernel) (by decide) ?_
        exact ih (v2 ||| ((1 : Int32) <<< (v3 &&& 31))) (v3 + 1) q1.2
def fX4_whoBits (o0 : Nat) (o1 : Nat) (u : ab_S) : Option (Int32 × ab_S) :=
  fX4_whoBits_4 o0 o1 fu 0 0 u
theorem tX4_whoBits (o0 : Nat) (o1 : Nat) (u : ab_S) : ab_G 0 4 cX4_whoBits (some .int) 3 0 [some (vR (kO 4) o0), some (vR (kO 2) o1), none, none] [] u wI (fX4_whoBits o0 o1 u) := by
  rw [fX4_whoBits]
  refine g_seg0 (pc' := 4) (L' := [some (vR (kO 4) o0), some (vR (kO 2) o1), some (vI 0), some (vI 0)]) (st' := []) (u1 := u) [(oC 0, 1), (oL 3 2, 1), (oC 0, 1), (oL 3 3, 1)] (by decide +kernel) rfl rfl ?_
  exact tX4_whoBits_4 o0 o1 fu 0 0 u
theorem CX4_whoBits (o0 : Nat) (o1 : Nat) (u : ab_S) : ab_C 0 yX4_whoBits cX4_whoBits 4 (some .int) 3 [vR (kO 4) o0, vR (kO 2) o1] u wI (fX4_whoBits o0 o1 u) := ab_entry (by decide +kernel) rfl (by decide) (by decide) (fun _ => Nat.le_of_ble_eq_true rfl) rfl (tX4_whoBits o0 o1 u)
def fX9_who (u : ab_S) : Option (Int32 × ab_S) :=
  (fX4_whoBits 46 (u.2.2 0) u).bind fun q1 =>
    some (q1.1, q1.2)
theorem tX9_who (u : ab_S) : ab_G 0 8 cX9_who (some .int) 4 0 [some (vR (kO 8) 0)] [] u wI (fX9_who u) := by
  rw [fX9_who]
  refine g_seg0 (pc' := 8) (L' := [some (vR (kO 8) 0)]) (st' := [vR (kO 2) (u.2.2 0), vR (kO 4) 46]) (u1 := u) [(oL 2 0, 1), (oP (.getfield 49), 3), (oL 2 0, 1), (oP (.getfield 19), 3)] (by decide +kernel) rfl rfl ?_
  refine g_callV (k := 269) (pc2 := 11) (st := []) (CX4_whoBits 46 (u.2.2 0) u) miX4_whoBits mvX4_whoBits rfl (by decide) lk8_269 wI_ok (by decide +kernel) rfl (Nat.le_of_ble_eq_true rfl) (by decide) rfl (fun q1 hq1 => ?_)
  exact g_iret (by decide +kernel) rfl
theorem CX9_who (u : ab_S) : ab_C 0 yX9_who cX9_who 1 (some .int) 4 [vR (kO 8) 0] u wI (fX9_who u) := ab_entry (by decide +kernel) rfl (by decide) (by decide) (fun _ => Nat.le_of_ble_eq_true rfl) rfl (tX9_who u)
def fX9_leftByAsking_6 : Nat → Int32 → Int32 → Int32 → Int32 → Int32 → ab_S → Option (Int32 × ab_S)
  | 0, _, _, _, _, _, _ => none
  | n + 1, v1, v2, v3, v4, v5, u =>
  bif decide (v5 < (u.1 (u.2.2 0) 0)) then (
    bif decide (((v1 >>> (v5 &&& 31)) &&& 1) = 1) then (
      (fX2_fitBy (u.2.2 0) v5 v2 0 u).bind fun q2 =>
        bif decide (q2.1 < v3) then (
          (fX9_leftByAsking_6 n) v1 v2 v3 v4 (v5 + 1) q2.2)
        else (
          (fX9_leftByAsking_6 n) v1 v2 v3 (v4 + 1) (v5 + 1) q2.2))
    else (
      (fX9_leftByAsking_6 n) v1 v2 v3 v4 (v5 + 1) u))
  else (
    (fJ6_bitCount_0f7a4 v1 u).bind fun q1 =>
      some ((if v4 < (q1.1 - v4) then (q1.1 - v4) else v4), q1.2))
theorem tX9_leftByAsking_6 : ∀ (n : Nat) (v1 : Int32) (v2 : Int32) (v3 : Int32) (v4 : Int32) (v5 : Int32) (u : ab_S), ab_G 0 8 cX9_leftByAsking (some .int) 2 6 [some (vR (kO 8) 0), some (vI v1), some (vI v2), some (vI v3), some (vI v4), some (vI v5)] [] u wI (fX9_leftByAsking_6 n v1 v2 v3 v4 v5 u) := by
  intro n
  induction n with
  | zero => intros; exact g_none
  | succ n ih =>
    intro v1 v2 v3 v4 v5 u
    rw [fX9_leftByAsking_6]
    refine g_seg0 (pc' := 15) (L' := [some (vR (kO 8) 0), some (vI v1), some (vI v2), some (vI v3), some (vI v4), some (vI v5)]) (st' := [vI (u.1 (u.2.2 0) 0), vI v5]) (u1 := u) [(oL 0 5, 2), (oL 2 0, 1), (oP (.getfield 19), 3), (oP (.getfield 216), 3)] (by decide +kernel) rfl rfl ?_
    refine g_ige (off := 37) (tgt := 52) (pc2 := 18) (by decide +kernel) (by decide) rfl ?_ ?_
    · refine g_seg0 (pc' := 55) (L' := [some (vR (kO 8) 0), some (vI v1), some (vI v2), some (vI v3), some (vI v4), some (vI v5)]) (st' := [vI v1, vI v4]) (u1 := u) [(oL 0 4, 2), (oL 0 1, 1)] (by decide +kernel) rfl rfl ?_
      refine g_callS (k := 198) (pc2 := 58) (st := [vI v4]) (CJ6_bitCount_0f7a4 v1 u) miJ6_bitCount_0f7a4 msJ6_bitCount_0f7a4 lk8_198 wI_ok (by decide +kernel) rfl (Nat.le_of_ble_eq_true rfl) (by decide) rfl (fun q1 hq1 => ?_)
      refine g_seg0 (pc' := 61) (L' := [some (vR (kO 8) 0), some (vI v1), some (vI v2), some (vI v3), some (vI v4), some (vI v5)]) (st' := [vI (q1.1 - v4), vI v4]) (u1 := q1.2) [(oL 0 4, 2), (oP .isub, 1)] (by decide +kernel) rfl rfl ?_
      refine g_max (k := 210) (pc2 := 64) (st := []) lm8_210 (by decide +kernel) (Nat.le_of_ble_eq_true rfl) (by decide) rfl ?_
      exact g_iret (by decide +kernel) rfl
    · refine g_seg0 (pc' := 25) (L' := [some (vR (kO 8) 0), some (vI v1), some (vI v2), some (vI v3), some (vI v4), some (vI v5)]) (st' := [vI 1, vI ((v1 >>> (v5 &&& 31)) &&& 1)]) (u1 := u) [(oL 0 1, 1), (oL 0 5, 2), (oP .ishr, 1), (oC 1, 1), (oP .iand, 1), (oC 1, 1)] (by decide +kernel) rfl rfl ?_
      refine g_ine (off := 21) (tgt := 46) (pc2 := 28) (by decide +kernel) (by decide) rfl ?_ ?_
      · refine g_seg0 (pc' := 49) (L' := [some (vR (kO 8) 0), some (vI v1), some (vI v2), some (vI v3), some (vI v4), some (vI (v5 + 1))]) (st' := []) (u1 := u) [(oN 5 1, 3)] (by decide +kernel) rfl rfl ?_
        refine g_goto (off := (-43)) (tgt := 6) (by decide +kernel) (by decide) ?_
        exact ih v1 v2 v3 v4 (v5 + 1) u
      · refine g_seg0 (pc' := 36) (L' := [some (vR (kO 8) 0), some (vI v1), some (vI v2), some (vI v3), some (vI v4), some (vI v5)]) (st' := [vI 0, vI v2, vI v5, vR (kO 2) (u.2.2 0)]) (u1 := u) [(oL 2 0, 1), (oP (.getfield 19), 3), (oL 0 5, 2), (oL 0 2, 1), (oC 0, 1)] (by decide +kernel) rfl rfl ?_
        refine g_callV (k := 251) (pc2 := 39) (st := []) (CX2_fitBy (u.2.2 0) v5 v2 0 u) miX2_fitBy mvX2_fitBy rfl (by decide) lk8_251 wI_ok (by decide +kernel) rfl (Nat.le_of_ble_eq_true rfl) (by decide) rfl (fun q2 hq2 => ?_)
        refine g_seg0 (pc' := 40) (L' := [some (vR (kO 8) 0), some (vI v1), some (vI v2), some (vI v3), some (vI v4), some (vI v5)]) (st' := [vI v3, vI (q2.1)]) (u1 := q2.2) [(oL 0 3, 1)] (by decide +kernel) rfl rfl ?_
        refine g_ilt (off := 6) (tgt := 46) (pc2 := 43) (by decide +kernel) (by decide) rfl ?_ ?_
        · refine g_seg0 (pc' := 49) (L' := [some (vR (kO 8) 0), some (vI v1), some (vI v2), some (vI v3), some (vI v4), some (vI (v5 + 1))]) (st' := []) (u1 := q2.2) [(oN 5 1, 3)] (by decide +kernel) rfl rfl ?_
          refine g_goto (off := (-43)) (tgt := 6) (by decide +kernel) (by decide) ?_
          exact ih v1 v2 v3 v4 (v5 + 1) q2.2
        · refine g_seg0 (pc' := 49) (L' := [some (vR (kO 8) 0), some (vI v1), some (vI v2), some (vI v3), some (vI (v4 + 1)), some (vI (v5 + 1))]) (st' := []) (u1 := q2.2) [(oN 4 1, 3), (oN 5 1, 3)] (by decide +kernel) rfl rfl ?_
          refine g_goto (off := (-43)) (tgt := 6) (by decide +kernel) (by decide) ?_
          exact ih v1 v2 v3 (v4 + 1) (v5 + 1) q2.2
def fX9_leftByAsking (v1 : Int32) (v2 : Int32) (v3 : Int32) (u : ab_S) : Option (Int32 × ab_S) :=
  fX9_leftByAsking_6 fu v1 v2 v3 0 0 u
theorem tX9_leftByAsking (v1 : Int32) (v2 : Int32) (v3 : Int32) (u : ab_S) : ab_G 0 8 cX9_leftByAsking (some .int) 2 0 [some (vR (kO 8) 0), some (vI v1), some (vI v2), some (vI v3), none, none] [] u wI (fX9_leftByAsking v1 v2 v3 u) := by
  rw [fX9_leftByAsking]
  refine g_seg0 (pc' := 6) (L' := [some (vR (kO 8) 0), some (vI v1), some (vI v2), some (vI v3), some (vI 0), some (vI 0)]) (st' := []) (u1 := u) [(oC 0, 1), (oL 3 4, 2), (oC 0, 1), (oL 3 5, 2)] (by decide +kernel) rfl rfl ?_
  exact tX9_leftByAsking_6 fu v1 v2 v3 0 0 u
theorem CX9_leftByAsking (v1 : Int32) (v2 : Int32) (v3 : Int32) (u : ab_S) : ab_C 0 yX9_leftByAsking cX9_leftByAsking 6 (some .int) 2 [vR (kO 8) 0, vI v1, vI v2, vI v3] u wI (fX9_leftByAsking v1 v2 v3 u) := ab_entry (by decide +kernel) rfl (by decide) (by decide) (fun _ => Nat.le_of_ble_eq_true rfl) rfl (tX9_leftByAsking v1 v2 v3 u)
def fX9_ask_37 (k22 : Int32 → Int32 → Int32 → Int32 → ab_S → Option (Int32 × ab_S)) : Nat → Int32 → Int32 → Int32 → Int32 → Int32 → ab_S → Option (Int32 × ab_S)
  | 0, _, _, _, _, _, _ => none
  | n + 1, v1, v2, v3, v4, v5, u =>
  bif decide (v5 ≤ 99) then (
    (fX9_leftByAsking v1 v4 v5 u).bind fun q1 =>
      bif decide (q1.1 < v2) then (
        (fX9_ask_37 k22 n) v1 q1.1 ((100 * v4) + v5) v4 (v5 + 1) q1.2)
      else (
        (fX9_ask_37 k22 n) v1 v2 v3 v4 (v5 + 1) q1.2))
  else (
    k22 v1 v2 v3 (v4 + 1) u)
theorem tX9_ask_37 (k22 : Int32 → Int32 → Int32 → Int32 → ab_S → Option (Int32 × ab_S)) (hk22 : ∀ (v1 : Int32) (v2 : Int32) (v3 : Int32) (v4 : Int32) (u : ab_S), ab_G 0 8 cX9_ask (some .int) 4 22 [some (vR (kO 8) 0), some (vI v1), some (vI v2), some (vI v3), some (vI v4), none, none] [] u wI (k22 v1 v2 v3 v4 u)) : ∀ (n : Nat) (v1 : Int32) (v2 : Int32) (v3 : Int32) (v4 : Int32) (v5 : Int32) (u : ab_S), ab_G 0 8 cX9_ask (some .int) 4 37 [some (vR (kO 8) 0), some (vI v1), some (vI v2), some (vI v3), some (vI v4), some (vI v5), none] [] u wI (fX9_ask_37 k22 n v1 v2 v3 v4 v5 u) := by
  intro n
  induction n with
  | zero => intros; exact g_none
  | succ n ih =>
    intro v1 v2 v3 v4 v5 u
    rw [fX9_ask_37]
    refine g_seg0 (pc' := 41) (L' := [some (vR (kO 8) 0), some (vI v1), some (vI v2), some (vI v3), some (vI v4), some (vI v5), none]) (st' := [vI 99, vI v5]) (u1 := u) [(oL 0 5, 2), (oC 99, 2)] (by decide +kernel) rfl rfl ?_
    refine g_igt (off := 38) (tgt := 79) (pc2 := 44) (by decide +kernel) (by decide) rfl ?_ ?_
    · refine g_seg0 (pc' := 82) (L' := [some (vR (kO 8) 0), some (vI v1), some (vI v2), some (vI v3), some (vI (v4 + 1)), some (vI v5), none]) (st' := []) (u1 := u) [(oN 4 1, 3)] (by decide +kernel) rfl rfl ?_
      refine g_goto (off := (-60)) (tgt := 22) (by decide +kernel) (by decide) ?_
      exact g_jump [true, true, true, true, true, false, false] rfl (hk22 v1 v2 v3 (v4 + 1) u)
    · refine g_seg0 (pc' := 50) (L' := [some (vR (kO 8) 0), some (vI v1), some (vI v2), some (vI v3), some (vI v4), some (vI v5), none]) (st' := [vI v5, vI v4, vI v1, vR (kO 8) 0]) (u1 := u) [(oL 2 0, 1), (oL 0 1, 1), (oL 0 4, 2), (oL 0 5, 2)] (by decide +kernel) rfl rfl ?_
      refine g_callV (k := 272) (pc2 := 53) (st := []) (CX9_leftByAsking v1 v4 v5 u) miX9_leftByAsking mvX9_leftByAsking rfl (by decide) lk8_272 wI_ok (by decide +kernel) rfl (Nat.le_of_ble_eq_true rfl) (by decide) rfl (fun q1 hq1 => ?_)
      refine g_seg0 (pc' := 58) (L' := [some (vR (kO 8) 0), some (vI v1), some (vI v2), some (vI v3), some (vI v4), some (vI v5), some (vI (q1.1))]) (st' := [vI v2, vI (q1.1)]) (u1 := q1.2) [(oL 3 6, 2), (oL 0 6, 2), (oL 0 2, 1)] (by decide +kernel) rfl rfl ?_
      refine g_ige (off := 15) (tgt := 73) (pc2 := 61) (by decide +kernel) (by decide) rfl ?_ ?_
      · refine g_seg0 (pc' := 76) (L' := [some (vR (kO 8) 0), some (vI v1), some (vI v2), some (vI v3), some (vI v4), some (vI (v5 + 1)), some (vI (q1.1))]) (st' := []) (u1 := q1.2) [(oN 5 1, 3)] (by decide +kernel) rfl rfl ?_
        refine g_goto (off := (-39)) (tgt := 37) (by decide +kernel) (by decide) ?_
        exact g_jump [true, true, true, true, true, true, false] rfl (ih v1 v2 v3 v4 (v5 + 1) q1.2)
      · refine g_seg0 (pc' := 76) (L' := [some (vR (kO 8) 0), some (vI v1), some (vI (q1.1)), some (vI ((100 * v4) + v5)), some (vI v4), some (vI (v5 + 1)), some (vI (q1.1))]) (st' := []) (u1 := q1.2) [(oL 0 6, 2), (oL 3 2, 1), (oC 100, 2), (oL 0 4, 2), (oP .imul, 1), (oL 0 5, 2), (oP .iadd, 1), (oL 3 3, 1), (oN 5 1, 3)] (by decide +kernel) rfl rfl ?_
        refine g_goto (off := (-39)) (tgt := 37) (by decide +kernel) (by decide) ?_
        exact g_jump [true, true, true, true, true, true, false] rfl (ih v1 q1.1 ((100 * v4) + v5) v4 (v5 + 1) q1.2)
def fX9_ask_22 : Nat → Int32 → Int32 → Int32 → Int32 → ab_S → Option (Int32 × ab_S)
  | 0, _, _, _, _, _ => none
  | n + 1, v1, v2, v3, v4, u =>
  bif decide (v4 < (u.1 (u.2.2 0) 1)) then (
    fX9_ask_37 (fX9_ask_22 n) fu v1 v2 v3 v4 1 u)
  else (
    some (v3, u))
theorem tX9_ask_22 : ∀ (n : Nat) (v1 : Int32) (v2 : Int32) (v3 : Int32) (v4 : Int32) (u : ab_S), ab_G 0 8 cX9_ask (some .int) 4 22 [some (vR (kO 8) 0), some (vI v1), some (vI v2), some (vI v3), some (vI v4), none, none] [] u wI (fX9_ask_22 n v1 v2 v3 v4 u) := by
  intro n
  induction n with
  | zero => intros; exact g_none
  | succ n ih =>
    intro v1 v2 v3 v4 u
    rw [fX9_ask_22]
    refine g_seg0 (pc' := 31) (L' := [some (vR (kO 8) 0), some (vI v1), some (vI v2), some (vI v3), some (vI v4), none, none]) (st' := [vI (u.1 (u.2.2 0) 1), vI v4]) (u1 := u) [(oL 0 4, 2), (oL 2 0, 1), (oP (.getfield 19), 3), (oP (.getfield 213), 3)] (by decide +kernel) rfl rfl ?_
    refine g_ige (off := 54) (tgt := 85) (pc2 := 34) (by decide +kernel) (by decide) rfl ?_ ?_
    · refine g_seg0 (pc' := 86) (L' := [some (vR (kO 8) 0), some (vI v1), some (vI v2), some (vI v3), some (vI v4), none, none]) (st' := [vI v3]) (u1 := u) [(oL 0 3, 1)] (by decide +kernel) rfl rfl ?_
      exact g_iret (by decide +kernel) rfl
    · refine g_seg0 (pc' := 37) (L' := [some (vR (kO 8) 0), some (vI v1), some (vI v2), some (vI v3), some (vI v4), some (vI 1), none]) (st' := []) (u1 := u) [(oC 1, 1), (oL 3 5, 2)] (by decide +kernel) rfl rfl ?_
      exact tX9_ask_37 (fX9_ask_22 n) ih fu v1 v2 v3 v4 1 u
def fX9_ask (u : ab_S) : Option (Int32 × ab_S) :=
  (fX4_whoBits 46 (u.2.2 0) u).bind fun q2 =>
    (fJ6_bitCount_0f7a4 q2.1 q2.2).bind fun q3 =>
      fX9_ask_22 fu q2.1 q3.1 (-1) 0 q3.2
theorem tX9_ask (u : ab_S) : ab_G 0 8 cX9_ask (some .int) 4 0 [some (vR (kO 8) 0), none, none, none, none, none, none] [] u wI (fX9_ask u) := by
  rw [fX9_ask]
  refine g_seg0 (pc' := 8) (L' := [some (vR (kO 8) 0), none, none, none, none, none, none]) (st' := [vR (kO 2) (u.2.2 0), vR (kO 4) 46]) (u1 := u) [(oL 2 0, 1), (oP (.getfield 49), 3), (oL 2 0, 1), (oP (.getfield 19), 3)] (by decide +kernel) rfl rfl ?_
  refine g_callV (k := 269) (pc2 := 11) (st := []) (CX4_whoBits 46 (u.2.2 0) u) miX4_whoBits mvX4_whoBits rfl (by decide) lk8_269 wI_ok (by decide +kernel) rfl (Nat.le_of_ble_eq_true rfl) (by decide) rfl (fun q2 hq2 => ?_)
  refine g_seg0 (pc' := 13) (L' := [some (vR (kO 8) 0), some (vI (q2.1)), none, none, none, none, none]) (st' := [vI (q2.1)]) (u1 := q2.2) [(oL 3 1, 1), (oL 0 1, 1)] (by decide +kernel) rfl rfl ?_
  refine g_callS (k := 198) (pc2 := 16) (st := []) (CJ6_bitCount_0f7a4 q2.1 q2.2) miJ6_bitCount_0f7a4 msJ6_bitCount_0f7a4 lk8_198 wI_ok (by decide +kernel) rfl (Nat.le_of_ble_eq_true rfl) (by decide) rfl (fun q3 hq3 => ?_)
  refine g_seg0 (pc' := 22) (L' := [some (vR (kO 8) 0), some (vI (q2.1)), some (vI (q3.1)), some (vI (-1)), some (vI 0), none, none]) (st' := []) (u1 := q3.2) [(oL 3 2, 1), (oC (-1), 1), (oL 3 3, 1), (oC 0, 1), (oL 3 4, 2)] (by decide +kernel) rfl rfl ?_
  exact tX9_ask_22 fu q2.1 q3.1 (-1) 0 q3.2
theorem CX9_ask (u : ab_S) : ab_C 0 yX9_ask cX9_ask 7 (some .int) 4 [vR (kO 8) 0] u wI (fX9_ask u) := ab_entry (by decide +kernel) rfl (by decide) (by decide) (fun _ => Nat.le_of_ble_eq_true rfl) rfl (tX9_ask u)
def fX9_rich_6 : Nat → Int32 → Int32 → Int32 → ab_S → Option (Int32 × ab_S)
  | 0, _, _, _, _ => none
  | n + 1, v1, v2, v3, u =>
  bif decide (v3 < (u.1 (u.2.2 0) 0)) then (
    (fX5_shillingsOf 38 v3 u).bind fun q1 =>
      bif decide (q1.1 ≤ v2) then (
        (fX9_rich_6 n) v1 v2 (v3 + 1) q1.2)
      else (
        (fX5_shillingsOf 38 v3 q1.2).bind fun q2 =>
          (fX9_rich_6 n) v3 q2.1 (v3 + 1) q2.2))
  else (
    some (v1, u))
theorem tX9_rich_6 : ∀ (n : Nat) (v1 : Int32) (v2 : Int32) (v3 : Int32) (u : ab_S), ab_G 0 8 cX9_rich (some .int) 2 6 [some (vR (kO 8) 0), some (vI v1), some (vI v2), some (vI v3)] [] u wI (fX9_rich_6 n v1 v2 v3 u) := by
  intro n
  induction n with
  | zero => intros; exact g_none
  | succ n ih =>
    intro v1 v2 v3 u
    rw [fX9_rich_6]
    refine g_seg0 (pc' := 14) (L' := [some (vR (kO 8) 0), some (vI v1), some (vI v2), some (vI v3)]) (st' := [vI (u.1 (u.2.2 0) 0), vI v3]) (u1 := u) [(oL 0 3, 1), (oL 2 0, 1), (oP (.getfield 19), 3), (oP (.getfield 216), 3)] (by decide +kernel) rfl rfl ?_
    refine g_ige (off := 32) (tgt := 46) (pc2 := 17) (by decide +kernel) (by decide) rfl ?_ ?_
    · refine g_seg0 (pc' := 47) (L' := [some (vR (kO 8) 0), some (vI v1), some (vI v2), some (vI v3)]) (st' := [vI v1]) (u1 := u) [(oL 0 1, 1)] (by decide +kernel) rfl rfl ?_
      exact g_iret (by decide +kernel) rfl
    · refine g_seg0 (pc' := 22) (L' := [some (vR (kO 8) 0), some (vI v1), some (vI v2), some (vI v3)]) (st' := [vI v3, vR (kO 5) 38]) (u1 := u) [(oL 2 0, 1), (oP (.getfield 39), 3), (oL 0 3, 1)] (by decide +kernel) rfl rfl ?_
      refine g_callV (k := 128) (pc2 := 25) (st := []) (CX5_shillingsOf 38 v3 u) miX5_shillingsOf mvX5_shillingsOf rfl (by decide) lk8_128 wI_ok (by decide +kernel) rfl (Nat.le_of_ble_eq_true rfl) (by decide) rfl (fun q1 hq1 => ?_)
      refine g_seg0 (pc' := 26) (L' := [some (vR (kO 8) 0), some (vI v1), some (vI v2), some (vI v3)]) (st' := [vI v2, vI (q1.1)]) (u1 := q1.2) [(oL 0 2, 1)] (by decide +kernel) rfl rfl ?_
      refine g_ile (off := 14) (tgt := 40) (pc2 := 29) (by decide +kernel) (by decide) rfl ?_ ?_
      · refine g_seg0 (pc' := 43) (L' := [some (vR (kO 8) 0), some (vI v1), some (vI v2), some (vI (v3 + 1))]) (st' := []) (u1 := q1.2) [(oN 3 1, 3)] (by decide +kernel) rfl rfl ?_
        refine g_goto (off := (-37)) (tgt := 6) (by decide +kernel) (by decide) ?_
        exact ih v1 v2 (v3 + 1) q1.2
      · refine g_seg0 (pc' := 36) (L' := [some (vR (kO 8) 0), some (vI v3), some (vI v2), some (vI v3)]) (st' := [vI v3, vR (kO 5) 38]) (u1 := q1.2) [(oL 0 3, 1), (oL 3 1, 1), (oL 2 0, 1), (oP (.getfield 39), 3), (oL 0 3, 1)] (by decide +kernel) rfl rfl ?_
        refine g_callV (k := 128) (pc2 := 39) (st := []) (CX5_shillingsOf 38 v3 q1.2) miX5_shillingsOf mvX5_shillingsOf rfl (by decide) lk8_128 wI_ok (by decide +kernel) rfl (Nat.le_of_ble_eq_true rfl) (by decide) rfl (fun q2 hq2 => ?_)
        refine g_seg0 (pc' := 43) (L' := [some (vR (kO 8) 0), some (vI v3), some (vI (q2.1)), some (vI (v3 + 1))]) (st' := []) (u1 := q2.2) [(oL 3 2, 1), (oN 3 1, 3)] (by decide +kernel) rfl rfl ?_
        refine g_goto (off := (-37)) (tgt := 6) (by decide +kernel) (by decide) ?_
        exact ih v3 q2.1 (v3 + 1) q2.2
def fX9_rich (u : ab_S) : Option (Int32 × ab_S) :=
  fX9_rich_6 fu (-1) (-1) 0 u
theorem tX9_rich (u : ab_S) : ab_G 0 8 cX9_rich (some .int) 2 0 [some (vR (kO 8) 0), none, none, none] [] u wI (fX9_rich u) := by
  rw [fX9_rich]
  refine g_seg0 (pc' := 6) (L' := [some (vR (kO 8) 0), some (vI (-1)), some (vI (-1)), some (vI 0)]) (st' := []) (u1 := u) [(oC (-1), 1), (oL 3 1, 1), (oC (-1), 1), (oL 3 2, 1), (oC 0, 1), (oL 3 3, 1)] (by decide +kernel) rfl rfl ?_
  exact tX9_rich_6 fu (-1) (-1) 0 u
theorem CX9_rich (u : ab_S) : ab_C 0 yX9_rich cX9_rich 4 (some .int) 2 [vR (kO 8) 0] u wI (fX9_rich u) := ab_entry (by decide +kernel) rfl (by decide) (by decide) (fun _ => Nat.le_of_ble_eq_true rfl) rfl (tX9_rich u)
def fX9_sad_6 : Nat → Int32 → Int32 → Int32 → ab_S → Option (Int32 × ab_S)
  | 0, _, _, _, _ => none
  | n + 1, v1, v2, v3, u =>
  bif decide (v3 < (u.1 (u.2.2 0) 0)) then (
    (fX5_joyOf 38 (u.2.2 0) v3 u).bind fun q1 =>
      bif decide (v1 = (-1)) then (
        (fX9_sad_6 n) v3 q1.1 (v3 + 1) q1.2)
      else (
        bif decide (q1.1 < v2) then (
          (fX9_sad_6 n) v3 q1.1 (v3 + 1) q1.2)
        else (
          (fX9_sad_6 n) v1 v2 (v3 + 1) q1.2)))
  else (
    some (v1, u))
theorem tX9_sad_6 : ∀ (n : Nat) (v1 : Int32) (v2 : Int32) (v3 : Int32) (u : ab_S), ab_G 0 8 cX9_sad (some .int) 4 6 [some (vR (kO 8) 0), some (vI v1), some (vI v2), some (vI v3), none] [] u wI (fX9_sad_6 n v1 v2 v3 u) := by
  intro n
  induction n with
  | zero => intros; exact g_none
  | succ n ih =>
    intro v1 v2 v3 u
    rw [fX9_sad_6]
    refine g_seg0 (pc' := 14) (L' := [some (vR (kO 8) 0), some (vI v1), some (vI v2), some (vI v3), none]) (st' := [vI (u.1 (u.2.2 0) 0), vI v3]) (u1 := u) [(oL 0 3, 1), (oL 2 0, 1), (oP (.getfield 19), 3), (oP (.getfield 216), 3)] (by decide +kernel) rfl rfl ?_
    refine g_ige (off := 39) (tgt := 53) (pc2 := 17) (by decide +kernel) (by decide) rfl ?_ ?_
    · refine g_seg0 (pc' := 54) (L' := [some (vR (kO 8) 0), some (vI v1), some (vI v2), some (vI v3), none]) (st' := [vI v1]) (u1 := u) [(oL 0 1, 1)] (by decide +kernel) rfl rfl ?_
      exact g_iret (by decide +kernel) rfl
    · refine g_seg0 (pc' := 26) (L' := [some (vR (kO 8) 0), some (vI v1), some (vI v2), some (vI v3), none]) (st' := [vI v3, vR (kO 2) (u.2.2 0), vR (kO 5) 38]) (u1 := u) [(oL 2 0, 1), (oP (.getfield 39), 3), (oL 2 0, 1), (oP (.getfield 19), 3), (oL 0 3, 1)] (by decide +kernel) rfl rfl ?_
      refine g_callV (k := 219) (pc2 := 29) (st := []) (CX5_joyOf 38 (u.2.2 0) v3 u) miX5_joyOf mvX5_joyOf rfl (by decide) lk8_219 wI_ok (by decide +kernel) rfl (Nat.le_of_ble_eq_true rfl) (by decide) rfl (fun q1 hq1 => ?_)
      refine g_seg0 (pc' := 33) (L' := [some (vR (kO 8) 0), some (vI v1), some (vI v2), some (vI v3), some (vI (q1.1))]) (st' := [vI (-1), vI v1]) (u1 := q1.2) [(oL 3 4, 2), (oL 0 1, 1), (oC (-1), 1)] (by decide +kernel) rfl rfl ?_
      refine g_ieq (off := 9) (tgt := 42) (pc2 := 36) (by decide +kernel) (by decide) rfl ?_ ?_
      · refine g_seg0 (pc' := 50) (L' := [some (vR (kO 8) 0), some (vI v3), some (vI (q1.1)), some (vI (v3 + 1)), some (vI (q1.1))]) (st' := []) (u1 := q1.2) [(oL 0 3, 1), (oL 3 1, 1), (oL 0 4, 2), (oL 3 2, 1), (oN 3 1, 3)] (by decide +kernel) rfl rfl ?_
        refine g_goto (off := (-44)) (tgt := 6) (by decide +kernel) (by decide) ?_
        exact g_jump [true, true, true, true, false] rfl (ih v3 q1.1 (v3 + 1) q1.2)
      · refine g_seg0 (pc' := 39) (L' := [some (vR (kO 8) 0), some (vI v1), some (vI v2), some (vI v3), some (vI (q1.1))]) (st' := [vI v2, vI (q1.1)]) (u1 := q1.2) [(oL 0 4, 2), (oL 0 2, 1)] (by decide +kernel) rfl rfl ?_
        refine g_ige (off := 8) (tgt := 47) (pc2 := 42) (by decide +kernel) (by decide) rfl ?_ ?_
        · refine g_seg0 (pc' := 50) (L' := [some (vR (kO 8) 0), some (vI v1), some (vI v2), some (vI (v3 + 1)), some (vI (q1.1))]) (st' := []) (u1 := q1.2) [(oN 3 1, 3)] (by decide +kernel) rfl rfl ?_
          refine g_goto (off := (-44)) (tgt := 6) (by decide +kernel) (by decide) ?_
          exact g_jump [true, true, true, true, false] rfl (ih v1 v2 (v3 + 1) q1.2)
        · refine g_seg0 (pc' := 50) (L' := [some (vR (kO 8) 0), some (vI v3), some (vI (q1.1)), some (vI (v3 + 1)), some (vI (q1.1))]) (st' := []) (u1 := q1.2) [(oL 0 3, 1), (oL 3 1, 1), (oL 0 4, 2), (oL 3 2, 1), (oN 3 1, 3)] (by decide +kernel) rfl rfl ?_
          refine g_goto (off := (-44)) (tgt := 6) (by decide +kernel) (by decide) ?_
          exact g_jump [true, true, true, true, false] rfl (ih v3 q1.1 (v3 + 1) q1.2)
def fX9_sad (u : ab_S) : Option (Int32 × ab_S) :=
  fX9_sad_6 fu (-1) 0 0 u
theorem tX9_sad (u : ab_S) : ab_G 0 8 cX9_sad (some .int) 4 0 [some (vR (kO 8) 0), none, none, none, none] [] u wI (fX9_sad u) := by
  rw [fX9_sad]
  refine g_seg0 (pc' := 6) (L' := [some (vR (kO 8) 0), some (vI (-1)), some (vI 0), some (vI 0), none]) (st' := []) (u1 := u) [(oC (-1), 1), (oL 3 1, 1), (oC 0, 1), (oL 3 2, 1), (oC 0, 1), (oL 3 3, 1)] (by decide +kernel) rfl rfl ?_
  exact tX9_sad_6 fu (-1) 0 0 u
theorem CX9_sad (u : ab_S) : ab_C 0 yX9_sad cX9_sad 5 (some .int) 4 [vR (kO 8) 0] u wI (fX9_sad u) := ab_entry (by decide +kernel) rfl (by decide) (by decide) (fun _ => Nat.le_of_ble_eq_true rfl) rfl (tX9_sad u)
def fX9_lack_17 : Nat → Int32 → Int32 → Int32 → ab_S → Option (Int32 × ab_S)
  | 0, _, _, _, _ => none
  | n + 1, v1, v2, v3, u =>
  bif decide (v3 < (u.1 (u.2.2 0) 1)) then (
    (fX2_ownerOf (u.2.2 0) v3 u).bind fun q1 =>
      bif decide (q1.1 = v1) then (
        (fX5_holderOf 38 v3 q1.2).bind fun q2 =>
          bif decide (q2.1 = v1) then (
            (fX9_lack_17 n) v1 v2 (v3 + 1) q2.2)
          else (
            (fX9_lack_17 n) v1 (v2 ||| ((1 : Int32) <<< (v3 &&& 31))) (v3 + 1) q2.2))
      else (
        (fX9_lack_17 n) v1 v2 (v3 + 1) q1.2))
  else (
    some (v2, u))
theorem tX9_lack_17 : ∀ (n : Nat) (v1 : Int32) (v2 : Int32) (v3 : Int32) (u : ab_S), ab_G 0 8 cX9_lack (some .int) 2 17 [some (vR (kO 8) 0), some (vI v1), some (vI v2), some (vI v3)] [] u wI (fX9_lack_17 n v1 v2 v3 u) := by
  intro n
  induction n with
  | zero => intros; exact g_none
  | succ n ih =>
    intro v1 v2 v3 u
    rw [fX9_lack_17]
    refine g_seg0 (pc' := 25) (L' := [some (vR (kO 8) 0), some (vI v1), some (vI v2), some (vI v3)]) (st' := [vI (u.1 (u.2.2 0) 1), vI v3]) (u1 := u) [(oL 0 3, 1), (oL 2 0, 1), (oP (.getfield 19), 3), (oP (.getfield 213), 3)] (by decide +kernel) rfl rfl ?_
    refine g_ige (off := 39) (tgt := 64) (pc2 := 28) (by decide +kernel) (by decide) rfl ?_ ?_
    · refine g_seg0 (pc' := 65) (L' := [some (vR (kO 8) 0), some (vI v1), some (vI v2), some (vI v3)]) (st' := [vI v2]) (u1 := u) [(oL 0 2, 1)] (by decide +kernel) rfl rfl ?_
      exact g_iret (by decide +kernel) rfl
    · refine g_seg0 (pc' := 33) (L' := [some (vR (kO 8) 0), some (vI v1), some (vI v2), some (vI v3)]) (st' := [vI v3, vR (kO 2) (u.2.2 0)]) (u1 := u) [(oL 2 0, 1), (oP (.getfield 19), 3), (oL 0 3, 1)] (by decide +kernel) rfl rfl ?_
      refine g_callV (k := 143) (pc2 := 36) (st := []) (CX2_ownerOf (u.2.2 0) v3 u) miX2_ownerOf mvX2_ownerOf rfl (by decide) lk8_143 wI_ok (by decide +kernel) rfl (Nat.le_of_ble_eq_true rfl) (by decide) rfl (fun q1 hq1 => ?_)
      refine g_seg0 (pc' := 37) (L' := [some (vR (kO 8) 0), some (vI v1), some (vI v2), some (vI v3)]) (st' := [vI v1, vI (q1.1)]) (u1 := q1.2) [(oL 0 1, 1)] (by decide +kernel) rfl rfl ?_
      refine g_ine (off := 21) (tgt := 58) (pc2 := 40) (by decide +kernel) (by decide) rfl ?_ ?_
      · refine g_seg0 (pc' := 61) (L' := [some (vR (kO 8) 0), some (vI v1), some (vI v2), some (vI (v3 + 1))]) (st' := []) (u1 := q1.2) [(oN 3 1, 3)] (by decide +kernel) rfl rfl ?_
        refine g_goto (off := (-44)) (tgt := 17) (by decide +kernel) (by decide) ?_
        exact ih v1 v2 (v3 + 1) q1.2
      · refine g_seg0 (pc' := 45) (L' := [some (vR (kO 8) 0), some (vI v1), some (vI v2), some (vI v3)]) (st' := [vI v3, vR (kO 5) 38]) (u1 := q1.2) [(oL 2 0, 1), (oP (.getfield 39), 3), (oL 0 3, 1)] (by decide +kernel) rfl rfl ?_
        refine g_callV (k := 146) (pc2 := 48) (st := []) (CX5_holderOf 38 v3 q1.2) miX5_holderOf mvX5_holderOf rfl (by decide) lk8_146 wI_ok (by decide +kernel) rfl (Nat.le_of_ble_eq_true rfl) (by decide) rfl (fun q2 hq2 => ?_)
        refine g_seg0 (pc' := 49) (L' := [some (vR (kO 8) 0), some (vI v1), some (vI v2), some (vI v3)]) (st' := [vI v1, vI (q2.1)]) (u1 := q2.2) [(oL 0 1, 1)] (by decide +kernel) rfl rfl ?_
        refine g_ieq (off := 9) (tgt := 58) (pc2 := 52) (by decide +kernel) (by decide) rfl ?_ ?_
        · refine g_seg0 (pc' := 61) (L' := [some (vR (kO 8) 0), some (vI v1), some (vI v2), some (vI (v3 + 1))]) (st' := []) (u1 := q2.2) [(oN 3 1, 3)] (by decide +kernel) rfl rfl ?_
          refine g_goto (off := (-44)) (tgt := 17) (by decide +kernel) (by decide) ?_
          exact ih v1 v2 (v3 + 1) q2.2
        · refine g_seg0 (pc' := 61) (L' := [some (vR (kO 8) 0), some (vI v1), some (vI (v2 ||| ((1 : Int32) <<< (v3 &&& 31)))), some (vI (v3 + 1))]) (st' := []) (u1 := q2.2) [(oL 0 2, 1), (oC 1, 1), (oL 0 3, 1), (oP .ishl, 1), (oP .ior, 1), (oL 3 2, 1), (oN 3 1, 3)] (by decide +kernel) rfl rfl ?_
          refine g_goto (off := (-44)) (tgt := 17) (by decide +kernel) (by decide) ?_
          exact ih v1 (v2 ||| ((1 : Int32) <<< (v3 &&& 31))) (v3 + 1) q2.2
def fX9_lack (v1 : Int32) (u : ab_S) : Option (Int32 × ab_S) :=
  (fX2_hasPerson (u.2.2 0) v1 u).bind fun q3 =>
    bif decide (q3.1 = 0) then (
      some ((-1), q3.2))
    else (
      fX9_lack_17 fu v1 0 0 q3.2)
theorem tX9_lack (v1 : Int32) (u : ab_S) : ab_G 0 8 cX9_lack (some .int) 2 0 [some (vR (kO 8) 0), some (vI v1), none, none] [] u wI (fX9_lack v1 u) := by
  rw [fX9_lack]
  refine g_seg0 (pc' := 5) (L' := [some (vR (kO 8) 0), some (vI v1), none, none]) (st' := [vI v1, vR (kO 2) (u.2.2 0)]) (u1 := u) [(oL 2 0, 1), (oP (.getfield 19), 3), (oL 0 1, 1)] (by decide +kernel) rfl rfl ?_
  refine g_callV (k := 120) (pc2 := 8) (st := []) (CX2_hasPerson (u.2.2 0) v1 u) miX2_hasPerson mvX2_hasPerson rfl (by decide) lk8_120 wI_ok (by decide +kernel) rfl (Nat.le_of_ble_eq_true rfl) (by decide) rfl (fun q3 hq3 => ?_)
  refine g_zne (off := 5) (tgt := 13) (pc2 := 11) (by decide +kernel) (by decide) rfl ?_ ?_
  · refine g_seg0 (pc' := 17) (L' := [some (vR (kO 8) 0), some (vI v1), some (vI 0), some (vI 0)]) (st' := []) (u1 := q3.2) [(oC 0, 1), (oL 3 2, 1), (oC 0, 1), (oL 3 3, 1)] (by decide +kernel) rfl rfl ?_
    exact tX9_lack_17 fu v1 0 0 q3.2
  · refine g_seg0 (pc' := 12) (L' := [some (vR (kO 8) 0), some (vI v1), none, none]) (st' := [vI (-1)]) (u1 := q3.2) [(oC (-1), 1)] (by decide +kernel) rfl rfl ?_
    exact g_iret (by decide +kernel) rfl
theorem CX9_lack (v1 : Int32) (u : ab_S) : ab_C 0 yX9_lack cX9_lack 4 (some .int) 2 [vR (kO 8) 0, vI v1] u wI (fX9_lack v1 u) := ab_entry (by decide +kernel) rfl (by decide) (by decide) (fun _ => Nat.le_of_ble_eq_true rfl) rfl (tX9_lack v1 u)
def fX9_debt (u : ab_S) : Option (Int32 × ab_S) :=
  (fX5_heldBits 38 (u.2.2 0) u).bind fun q1 =>
    (fX5_rightBits 38 (q1.2.2.2 0) q1.2).bind fun q2 =>
      (fJ6_bitCount_0f7a4 (q1.1 &&& (q2.1 ^^^ (-1))) q2.2).bind fun q3 =>
        some (q3.1, q3.2)
theorem tX9_debt (u : ab_S) : ab_G 0 8 cX9_debt (some .int) 3 0 [some (vR (kO 8) 0)] [] u wI (fX9_debt u) := by
  rw [fX9_debt]
  refine g_seg0 (pc' := 8) (L' := [some (vR (kO 8) 0)]) (st' := [vR (kO 2) (u.2.2 0), vR (kO 5) 38]) (u1 := u) [(oL 2 0, 1), (oP (.getfield 39), 3), (oL 2 0, 1), (oP (.getfield 19), 3)] (by decide +kernel) rfl rfl ?_
  refine g_callV (k := 207) (pc2 := 11) (st := []) (CX5_heldBits 38 (u.2.2 0) u) miX5_heldBits mvX5_heldBits rfl (by decide) lk8_207 wI_ok (by decide +kernel) rfl (Nat.le_of_ble_eq_true rfl) (by decide) rfl (fun q1 hq1 => ?_)
  refine g_seg0 (pc' := 19) (L' := [some (vR (kO 8) 0)]) (st' := [vR (kO 2) (q1.2.2.2 0), vR (kO 5) 38, vI (q1.1)]) (u1 := q1.2) [(oL 2 0, 1), (oP (.getfield 39), 3), (oL 2 0, 1), (oP (.getfield 19), 3)] (by decide +kernel) rfl rfl ?_
  refine g_callV (k := 195) (pc2 := 22) (st := [vI (q1.1)]) (CX5_rightBits 38 (q1.2.2.2 0) q1.2) miX5_rightBits mvX5_rightBits rfl (by decide) lk8_195 wI_ok (by decide +kernel) rfl (Nat.le_of_ble_eq_true rfl) (by decide) rfl (fun q2 hq2 => ?_)
  refine g_seg0 (pc' := 25) (L' := [some (vR (kO 8) 0)]) (st' := [vI (q1.1 &&& (q2.1 ^^^ (-1)))]) (u1 := q2.2) [(oC (-1), 1), (oP .ixor, 1), (oP .iand, 1)] (by decide +kernel) rfl rfl ?_
  refine g_callS (k := 198) (pc2 := 28) (st := []) (CJ6_bitCount_0f7a4 (q1.1 &&& (q2.1 ^^^ (-1))) q2.2) miJ6_bitCount_0f7a4 msJ6_bitCount_0f7a4 lk8_198 wI_ok (by decide +kernel) rfl (Nat.le_of_ble_eq_true rfl) (by decide) rfl (fun q3 hq3 => ?_)
  exact g_iret (by decide +kernel) rfl
theorem CX9_debt (u : ab_S) : ab_C 0 yX9_debt cX9_debt 1 (some .int) 3 [vR (kO 8) 0] u wI (fX9_debt u) := ab_entry (by decide +kernel) rfl (by decide) (by decide) (fun _ => Nat.le_of_ble_eq_true rfl) rfl (tX9_debt u)
def fX9_poor_4 : Nat → Int32 → Int32 → ab_S → Option (Int32 × ab_S)
  | 0, _, _, _ => none
  | n + 1, v1, v2, u =>
  bif decide (v2 < (u.1 (u.2.2 0) 0)) then (
    (fX5_bitsOf 38 v2 u).bind fun q1 =>
      bif decide (q1.1 = 0) then (
        (fX5_ticketsOf 38 v2 q1.2).bind fun q2 =>
          bif decide (q2.1 = 0) then (
            (fX5_shillingsOf 38 v2 q2.2).bind fun q3 =>
              bif decide (q3.1 = 0) then (
                (fX9_poor_4 n) (v1 ||| ((1 : Int32) <<< (v2 &&& 31))) (v2 + 1) q3.2)
              else (
                (fX9_poor_4 n) v1 (v2 + 1) q3.2))
          else (
            (fX9_poor_4 n) v1 (v2 + 1) q2.2))
      else (
        (fX9_poor_4 n) v1 (v2 + 1) q1.2))
  else (
    some (v1, u))
theorem tX9_poor_4 : ∀ (n : Nat) (v1 : Int32) (v2 : Int32) (u : ab_S), ab_G 0 8 cX9_poor (some .int) 2 4 [some (vR (kO 8) 0), some (vI v1), some (vI v2)] [] u wI (fX9_poor_4 n v1 v2 u) := by
  intro n
  induction n with
  | zero => intros; exact g_none
  | succ n ih =>
    intro v1 v2 u
    rw [fX9_poor_4]
    refine g_seg0 (pc' := 12) (L' := [some (vR (kO 8) 0), some (vI v1), some (vI v2)]) (st' := [vI (u.1 (u.2.2 0) 0), vI v2]) (u1 := u) [(oL 0 2, 1), (oL 2 0, 1), (oP (.getfield 19), 3), (oP (.getfield 216), 3)] (by decide +kernel) rfl rfl ?_
    refine g_ige (off := 48) (tgt := 60) (pc2 := 15) (by decide +kernel) (by decide) rfl ?_ ?_
    · refine g_seg0 (pc' := 61) (L' := [some (vR (kO 8) 0), some (vI v1), some (vI v2)]) (st' := [vI v1]) (u1 := u) [(oL 0 1, 1)] (by decide +kernel) rfl rfl ?_
      exact g_iret (by decide +kernel) rfl
    · refine g_seg0 (pc' := 20) (L' := [some (vR (kO 8) 0), some (vI v1), some (vI v2)]) (st' := [vI v2, vR (kO 5) 38]) (u1 := u) [(oL 2 0, 1), (oP (.getfield 39), 3), (oL 0 2, 1)] (by decide +kernel) rfl rfl ?_
      refine g_callV (k := 134) (pc2 := 23) (st := []) (CX5_bitsOf 38 v2 u) miX5_bitsOf mvX5_bitsOf rfl (by decide) lk8_134 wI_ok (by decide +kernel) rfl (Nat.le_of_ble_eq_true rfl) (by decide) rfl (fun q1 hq1 => ?_)
      refine g_zne (off := 31) (tgt := 54) (pc2 := 26) (by decide +kernel) (by decide) rfl ?_ ?_
      · refine g_seg0 (pc' := 57) (L' := [some (vR (kO 8) 0), some (vI v1), some (vI (v2 + 1))]) (st' := []) (u1 := q1.2) [(oN 2 1, 3)] (by decide +kernel) rfl rfl ?_
        refine g_goto (off := (-53)) (tgt := 4) (by decide +kernel) (by decide) ?_
        exact ih v1 (v2 + 1) q1.2
      · refine g_seg0 (pc' := 31) (L' := [some (vR (kO 8) 0), some (vI v1), some (vI v2)]) (st' := [vI v2, vR (kO 5) 38]) (u1 := q1.2) [(oL 2 0, 1), (oP (.getfield 39), 3), (oL 0 2, 1)] (by decide +kernel) rfl rfl ?_
        refine g_callV (k := 131) (pc2 := 34) (st := []) (CX5_ticketsOf 38 v2 q1.2) miX5_ticketsOf mvX5_ticketsOf rfl (by decide) lk8_131 wI_ok (by decide +kernel) rfl (Nat.le_of_ble_eq_true rfl) (by decide) rfl (fun q2 hq2 => ?_)
        refine g_zne (off := 20) (tgt := 54) (pc2 := 37) (by decide +kernel) (by decide) rfl ?_ ?_
        · refine g_seg0 (pc' := 57) (L' := [some (vR (kO 8) 0), some (vI v1), some (vI (v2 + 1))]) (st' := []) (u1 := q2.2) [(oN 2 1, 3)] (by decide +kernel) rfl rfl ?_
          refine g_goto (off := (-53)) (tgt := 4) (by decide +kernel) (by decide) ?_
          exact ih v1 (v2 + 1) q2.2
        · refine g_seg0 (pc' := 42) (L' := [some (vR (kO 8) 0), some (vI v1), some (vI v2)]) (st' := [vI v2, vR (kO 5) 38]) (u1 := q2.2) [(oL 2 0, 1), (oP (.getfield 39), 3), (oL 0 2, 1)] (by decide +kernel) rfl rfl ?_
          refine g_callV (k := 128) (pc2 := 45) (st := []) (CX5_shillingsOf 38 v2 q2.2) miX5_shillingsOf mvX5_shillingsOf rfl (by decide) lk8_128 wI_ok (by decide +kernel) rfl (Nat.le_of_ble_eq_true rfl) (by decide) rfl (fun q3 hq3 => ?_)
          refine g_zne (off := 9) (tgt := 54) (pc2 := 48) (by decide +kernel) (by decide) rfl ?_ ?_
          · refine g_seg0 (pc' := 57) (L' := [some (vR (kO 8) 0), some (vI v1), some (vI (v2 + 1))]) (st' := []) (u1 := q3.2) [(oN 2 1, 3)] (by decide +kernel) rfl rfl ?_
            refine g_goto (off := (-53)) (tgt := 4) (by decide +kernel) (by decide) ?_
            exact ih v1 (v2 + 1) q3.2
          · refine g_seg0 (pc' := 57) (L' := [some (vR (kO 8) 0), some (vI (v1 ||| ((1 : Int32) <<< (v2 &&& 31)))), some (vI (v2 + 1))]) (st' := []) (u1 := q3.2) [(oL 0 1, 1), (oC 1, 1), (oL 0 2, 1), (oP .ishl, 1), (oP .ior, 1), (oL 3 1, 1), (oN 2 1, 3)] (by decide +kernel) rfl rfl ?_
            refine g_goto (off := (-53)) (tgt := 4) (by decide +kernel) (by decide) ?_
            exact ih (v1 ||| ((1 : Int32) <<< (v2 &&& 31))) (v2 + 1) q3.2
def fX9_poor (u : ab_S) : Option (Int32 × ab_S) :=
  fX9_poor_4 fu 0 0 u
theorem tX9_poor (u : ab_S) : ab_G 0 8 cX9_poor (some .int) 2 0 [some (vR (kO 8) 0), none, none] [] u wI (fX9_poor u) := by
  rw [fX9_poor]
  refine g_seg0 (pc' := 4) (L' := [some (vR (kO 8) 0), some (vI 0), some (vI 0)]) (st' := []) (u1 := u) [(oC 0, 1), (oL 3 1, 1), (oC 0, 1), (oL 3 2, 1)] (by decide +kernel) rfl rfl ?_
  exact tX9_poor_4 fu 0 0 u
theorem CX9_poor (u : ab_S) : ab_C 0 yX9_poor cX9_poor 3 (some .int) 2 [vR (kO 8) 0] u wI (fX9_poor u) := ab_entry (by decide +kernel) rfl (by decide) (by decide) (fun _ => Nat.le_of_ble_eq_true rfl) rfl (tX9_poor u)
def fX9_isBargain (v0 : Int32) (u : ab_S) : Option (Int32 × ab_S) :=
  bif decide (v0 < 0) then (
    ab_gd [ab_b1 0] (some (0, u)))
  else (
    bif decide (v0 ≤ 9) then (
      ab_gd [ab_b1 1] (some (1, u)))
    else (
      ab_gd [ab_b1 0] (some (0, u))))
theorem tX9_isBargain (v0 : Int32) (u : ab_S) : ab_G 0 8 cX9_isBargain (some .boolean) 0 0 [some (vI v0)] [] u wI (fX9_isBargain v0 u) := by
  rw [fX9_isBargain]
  refine g_seg0 (pc' := 1) (L' := [some (vI v0)]) (st' := [vI v0]) (u1 := u) [(oL 0 0, 1)] (by decide +kernel) rfl rfl ?_
  refine g_zlt (off := 13) (tgt := 14) (pc2 := 4) (by decide +kernel) (by decide) rfl ?_ ?_
  · refine g_seg0 (pc' := 15) (L' := [some (vI v0)]) (st' := [vI 0]) (u1 := u) [(oC 0, 1)] (by decide +kernel) rfl rfl ?_
    exact g_zret (by decide +kernel) rfl
  · refine g_seg0 (pc' := 7) (L' := [some (vI v0)]) (st' := [vI 9, vI v0]) (u1 := u) [(oL 0 0, 1), (oC 9, 2)] (by decide +kernel) rfl rfl ?_
    refine g_igt (off := 7) (tgt := 14) (pc2 := 10) (by decide +kernel) (by decide) rfl ?_ ?_
    · refine g_seg0 (pc' := 15) (L' := [some (vI v0)]) (st' := [vI 0]) (u1 := u) [(oC 0, 1)] (by decide +kernel) rfl rfl ?_
      exact g_zret (by decide +kernel) rfl
    · refine g_seg0 (pc' := 11) (L' := [some (vI v0)]) (st' := [vI 1]) (u1 := u) [(oC 1, 1)] (by decide +kernel) rfl rfl ?_
      refine g_goto (off := 4) (tgt := 15) (by decide +kernel) (by decide) ?_
      exact g_zret (by decide +kernel) rfl
theorem CX9_isBargain (v0 : Int32) (u : ab_S) : ab_C 0 yX9_isBargain cX9_isBargain 1 (some .boolean) 0 [vI v0] u wI (fX9_isBargain v0 u) := ab_entry (by decide +kernel) rfl (by decide) (by decide) (fun _ => Nat.le_of_ble_eq_true rfl) rfl (tX9_isBargain v0 u)
