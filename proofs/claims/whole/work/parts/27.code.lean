/-! methods, printed by program out of the listing: function, walk, contract -/
def fX9_bargained (v0 : Int32) (v1 : Int32) (v2 : Int32) (v3 : Int32) (v4 : Int32) (u : ab_S) : Option (Int32 × ab_S) :=
  bif decide (v3 = 1) then (
    bif decide (v4 = 1) then (
      some (v0, u))
    else (
      some ((-v1), u)))
  else (
    bif decide (v4 = 1) then (
      some (v2, u))
    else (
      some (0, u)))
theorem tX9_bargained (v0 : Int32) (v1 : Int32) (v2 : Int32) (v3 : Int32) (v4 : Int32) (u : ab_S) : ab_G 0 8 cX9_bargained (some .int) 0 0 [some (vI v0), some (vI v1), some (vI v2), some (vI v3), some (vI v4)] [] u wI (fX9_bargained v0 v1 v2 v3 v4 u) := by
  rw [fX9_bargained]
  refine g_seg0 (pc' := 2) (L' := [some (vI v0), some (vI v1), some (vI v2), some (vI v3), some (vI v4)]) (st' := [vI 1, vI v3]) (u1 := u) [(oL 0 3, 1), (oC 1, 1)] (by decide +kernel) rfl rfl ?_
  refine g_ine (off := 16) (tgt := 18) (pc2 := 5) (by decide +kernel) (by decide) rfl ?_ ?_
  · refine g_seg0 (pc' := 21) (L' := [some (vI v0), some (vI v1), some (vI v2), some (vI v3), some (vI v4)]) (st' := [vI 1, vI v4]) (u1 := u) [(oL 0 4, 2), (oC 1, 1)] (by decide +kernel) rfl rfl ?_
    refine g_ine (off := 7) (tgt := 28) (pc2 := 24) (by decide +kernel) (by decide) rfl ?_ ?_
    · refine g_seg0 (pc' := 29) (L' := [some (vI v0), some (vI v1), some (vI v2), some (vI v3), some (vI v4)]) (st' := [vI 0]) (u1 := u) [(oC 0, 1)] (by decide +kernel) rfl rfl ?_
      exact g_iret (by decide +kernel) rfl
    · refine g_seg0 (pc' := 25) (L' := [some (vI v0), some (vI v1), some (vI v2), some (vI v3), some (vI v4)]) (st' := [vI v2]) (u1 := u) [(oL 0 2, 1)] (by decide +kernel) rfl rfl ?_
      refine g_goto (off := 4) (tgt := 29) (by decide +kernel) (by decide) ?_
      exact g_iret (by decide +kernel) rfl
  · refine g_seg0 (pc' := 8) (L' := [some (vI v0), some (vI v1), some (vI v2), some (vI v3), some (vI v4)]) (st' := [vI 1, vI v4]) (u1 := u) [(oL 0 4, 2), (oC 1, 1)] (by decide +kernel) rfl rfl ?_
    refine g_ine (off := 7) (tgt := 15) (pc2 := 11) (by decide +kernel) (by decide) rfl ?_ ?_
    · refine g_seg0 (pc' := 17) (L' := [some (vI v0), some (vI v1), some (vI v2), some (vI v3), some (vI v4)]) (st' := [vI (-v1)]) (u1 := u) [(oL 0 1, 1), (oP .ineg, 1)] (by decide +kernel) rfl rfl ?_
      exact g_iret (by decide +kernel) rfl
    · refine g_seg0 (pc' := 12) (L' := [some (vI v0), some (vI v1), some (vI v2), some (vI v3), some (vI v4)]) (st' := [vI v0]) (u1 := u) [(oL 0 0, 1)] (by decide +kernel) rfl rfl ?_
      refine g_goto (off := 5) (tgt := 17) (by decide +kernel) (by decide) ?_
      exact g_iret (by decide +kernel) rfl
theorem CX9_bargained (v0 : Int32) (v1 : Int32) (v2 : Int32) (v3 : Int32) (v4 : Int32) (u : ab_S) : ab_C 0 yX9_bargained cX9_bargained 5 (some .int) 0 [vI v0, vI v1, vI v2, vI v3, vI v4] u wI (fX9_bargained v0 v1 v2 v3 v4 u) := ab_entry (by decide +kernel) rfl (by decide) (by decide) (fun _ => Nat.le_of_ble_eq_true rfl) rfl (tX9_bargained v0 v1 v2 v3 v4 u)
def fX9_isRest (v0 : Int32) (v1 : Int32) (v2 : Int32) (v3 : Int32) (u : ab_S) : Option (Int32 × ab_S) :=
  (fX9_bargained v0 v1 v2 (1 - (v3 >>> ((1 : Int32) &&& 31))) (v3 &&& 1) u).bind fun q1 =>
    (fX9_bargained v0 v1 v2 (v3 >>> ((1 : Int32) &&& 31)) (v3 &&& 1) q1.2).bind fun q2 =>
      bif decide (q1.1 ≤ q2.1) then (
        (fX9_bargained v0 v1 v2 (1 - (v3 &&& 1)) (v3 >>> ((1 : Int32) &&& 31)) q2.2).bind fun q3 =>
          (fX9_bargained v0 v1 v2 (v3 &&& 1) (v3 >>> ((1 : Int32) &&& 31)) q3.2).bind fun q4 =>
            bif decide (q3.1 ≤ q4.1) then (
              ab_gd [ab_b1 1] (some (1, q4.2)))
            else (
              ab_gd [ab_b1 0] (some (0, q4.2))))
      else (
        ab_gd [ab_b1 0] (some (0, q2.2)))
theorem tX9_isRest (v0 : Int32) (v1 : Int32) (v2 : Int32) (v3 : Int32) (u : ab_S) : ab_G 0 8 cX9_isRest (some .boolean) 1 0 [some (vI v0), some (vI v1), some (vI v2), some (vI v3), none, none] [] u wI (fX9_isRest v0 v1 v2 v3 u) := by
  rw [fX9_isRest]
  refine g_seg0 (pc' := 19) (L' := [some (vI v0), some (vI v1), some (vI v2), some (vI v3), some (vI (v3 >>> ((1 : Int32) &&& 31))), some (vI (v3 &&& 1))]) (st' := [vI (v3 &&& 1), vI (1 - (v3 >>> ((1 : Int32) &&& 31))), vI v2, vI v1, vI v0]) (u1 := u) [(oL 0 3, 1), (oC 1, 1), (oP .ishr, 1), (oL 3 4, 2), (oL 0 3, 1), (oC 1, 1), (oP .iand, 1), (oL 3 5, 2), (oL 0 0, 1), (oL 0 1, 1), (oL 0 2, 1), (oC 1, 1), (oL 0 4, 2), (oP .isub, 1), (oL 0 5, 2)] (by decide +kernel) rfl rfl ?_
  refine g_callS (k := 291) (pc2 := 22) (st := []) (CX9_bargained v0 v1 v2 (1 - (v3 >>> ((1 : Int32) &&& 31))) (v3 &&& 1) u) miX9_bargained msX9_bargained lk8_291 wI_ok (by decide +kernel) rfl (Nat.le_of_ble_eq_true rfl) (by decide) rfl (fun q1 hq1 => ?_)
  refine g_seg0 (pc' := 29) (L' := [some (vI v0), some (vI v1), some (vI v2), some (vI v3), some (vI (v3 >>> ((1 : Int32) &&& 31))), some (vI (v3 &&& 1))]) (st' := [vI (v3 &&& 1), vI (v3 >>> ((1 : Int32) &&& 31)), vI v2, vI v1, vI v0, vI (q1.1)]) (u1 := q1.2) [(oL 0 0, 1), (oL 0 1, 1), (oL 0 2, 1), (oL 0 4, 2), (oL 0 5, 2)] (by decide +kernel) rfl rfl ?_
  refine g_callS (k := 291) (pc2 := 32) (st := [vI (q1.1)]) (CX9_bargained v0 v1 v2 (v3 >>> ((1 : Int32) &&& 31)) (v3 &&& 1) q1.2) miX9_bargained msX9_bargained lk8_291 wI_ok (by decide +kernel) rfl (Nat.le_of_ble_eq_true rfl) (by decide) rfl (fun q2 hq2 => ?_)
  refine g_igt (off := 32) (tgt := 64) (pc2 := 35) (by decide +kernel) (by decide) rfl ?_ ?_
  · refine g_seg0 (pc' := 65) (L' := [some (vI v0), some (vI v1), some (vI v2), some (vI v3), some (vI (v3 >>> ((1 : Int32) &&& 31))), some (vI (v3 &&& 1))]) (st' := [vI 0]) (u1 := q2.2) [(oC 0, 1)] (by decide +kernel) rfl rfl ?_
    exact g_zret (by decide +kernel) rfl
  · refine g_seg0 (pc' := 44) (L' := [some (vI v0), some (vI v1), some (vI v2), some (vI v3), some (vI (v3 >>> ((1 : Int32) &&& 31))), some (vI (v3 &&& 1))]) (st' := [vI (v3 >>> ((1 : Int32) &&& 31)), vI (1 - (v3 &&& 1)), vI v2, vI v1, vI v0]) (u1 := q2.2) [(oL 0 0, 1), (oL 0 1, 1), (oL 0 2, 1), (oC 1, 1), (oL 0 5, 2), (oP .isub, 1), (oL 0 4, 2)] (by decide +kernel) rfl rfl ?_
    refine g_callS (k := 291) (pc2 := 47) (st := []) (CX9_bargained v0 v1 v2 (1 - (v3 &&& 1)) (v3 >>> ((1 : Int32) &&& 31)) q2.2) miX9_bargained msX9_bargained lk8_291 wI_ok (by decide +kernel) rfl (Nat.le_of_ble_eq_true rfl) (by decide) rfl (fun q3 hq3 => ?_)
    refine g_seg0 (pc' := 54) (L' := [some (vI v0), some (vI v1), some (vI v2), some (vI v3), some (vI (v3 >>> ((1 : Int32) &&& 31))), some (vI (v3 &&& 1))]) (st' := [vI (v3 >>> ((1 : Int32) &&& 31)), vI (v3 &&& 1), vI v2, vI v1, vI v0, vI (q3.1)]) (u1 := q3.2) [(oL 0 0, 1), (oL 0 1, 1), (oL 0 2, 1), (oL 0 5, 2), (oL 0 4, 2)] (by decide +kernel) rfl rfl ?_
    refine g_callS (k := 291) (pc2 := 57) (st := [vI (q3.1)]) (CX9_bargained v0 v1 v2 (v3 &&& 1) (v3 >>> ((1 : Int32) &&& 31)) q3.2) miX9_bargained msX9_bargained lk8_291 wI_ok (by decide +kernel) rfl (Nat.le_of_ble_eq_true rfl) (by decide) rfl (fun q4 hq4 => ?_)
    refine g_igt (off := 7) (tgt := 64) (pc2 := 60) (by decide +kernel) (by decide) rfl ?_ ?_
    · refine g_seg0 (pc' := 65) (L' := [some (vI v0), some (vI v1), some (vI v2), some (vI v3), some (vI (v3 >>> ((1 : Int32) &&& 31))), some (vI (v3 &&& 1))]) (st' := [vI 0]) (u1 := q4.2) [(oC 0, 1)] (by decide +kernel) rfl rfl ?_
      exact g_zret (by decide +kernel) rfl
    · refine g_seg0 (pc' := 61) (L' := [some (vI v0), some (vI v1), some (vI v2), some (vI v3), some (vI (v3 >>> ((1 : Int32) &&& 31))), some (vI (v3 &&& 1))]) (st' := [vI 1]) (u1 := q4.2) [(oC 1, 1)] (by decide +kernel) rfl rfl ?_
      refine g_goto (off := 4) (tgt := 65) (by decide +kernel) (by decide) ?_
      exact g_zret (by decide +kernel) rfl
theorem CX9_isRest (v0 : Int32) (v1 : Int32) (v2 : Int32) (v3 : Int32) (u : ab_S) : ab_C 0 yX9_isRest cX9_isRest 6 (some .boolean) 1 [vI v0, vI v1, vI v2, vI v3] u wI (fX9_isRest v0 v1 v2 v3 u) := ab_entry (by decide +kernel) rfl (by decide) (by decide) (fun _ => Nat.le_of_ble_eq_true rfl) rfl (tX9_isRest v0 v1 v2 v3 u)
def fX5_joyOfAll_4 (o0 : Nat) (o1 : Nat) : Nat → Int32 → Int32 → ab_S → Option (Int32 × ab_S)
  | 0, _, _, _ => none
  | n + 1, v2, v3, u =>
  bif decide (v3 < (u.1 o1 0)) then (
    (fX5_joyOf o0 o1 v3 u).bind fun q1 =>
      (fX5_joyOfAll_4 o0 o1 n) (v2 + q1.1) (v3 + 1) q1.2)
  else (
    some (v2, u))
theorem tX5_joyOfAll_4 (o0 : Nat) (o1 : Nat) : ∀ (n : Nat) (v2 : Int32) (v3 : Int32) (u : ab_S), ab_G 0 5 cX5_joyOfAll (some .int) 4 4 [some (vR (kO 5) o0), some (vR (kO 2) o1), some (vI v2), some (vI v3)] [] u wI (fX5_joyOfAll_4 o0 o1 n v2 v3 u) := by
  intro n
  induction n with
  | zero => intros; exact g_none
  | succ n ih =>
    intro v2 v3 u
    rw [fX5_joyOfAll_4]
    refine g_seg0 (pc' := 9) (L' := [some (vR (kO 5) o0), some (vR (kO 2) o1), some (vI v2), some (vI v3)]) (st' := [vI (u.1 o1 0), vI v3]) (u1 := u) [(oL 0 3, 1), (oL 2 1, 1), (oP (.getfield 25), 3)] (by decide +kernel) rfl rfl ?_
    refine g_ige (off := 18) (tgt := 27) (pc2 := 12) (by decide +kernel) (by decide) rfl ?_ ?_
    · refine g_seg0 (pc' := 28) (L' := [some (vR (kO 5) o0), some (vR (kO 2) o1), some (vI v2), some (vI v3)]) (st' := [vI v2]) (u1 := u) [(oL 0 2, 1)] (by decide +kernel) rfl rfl ?_
      exact g_iret (by decide +kernel) rfl
    · refine g_seg0 (pc' := 16) (L' := [some (vR (kO 5) o0), some (vR (kO 2) o1), some (vI v2), some (vI v3)]) (st' := [vI v3, vR (kO 2) o1, vR (kO 5) o0, vI v2]) (u1 := u) [(oL 0 2, 1), (oL 2 0, 1), (oL 2 1, 1), (oL 0 3, 1)] (by decide +kernel) rfl rfl ?_
      refine g_callV (k := 86) (pc2 := 19) (st := [vI v2]) (CX5_joyOf o0 o1 v3 u) miX5_joyOf mvX5_joyOf rfl (by decide) lk5_86 wI_ok (by decide +kernel) rfl (Nat.le_of_ble_eq_true rfl) (by decide) rfl (fun q1 hq1 => ?_)
      refine g_seg0 (pc' := 24) (L' := [some (vR (kO 5) o0), some (vR (kO 2) o1), some (vI (v2 + q1.1)), some (vI (v3 + 1))]) (st' := []) (u1 := q1.2) [(oP .iadd, 1), (oL 3 2, 1), (oN 3 1, 3)] (by decide +kernel) rfl rfl ?_
      refine g_goto (off := (-20)) (tgt := 4) (by decide +kernel) (by decide) ?_
      exact ih (v2 + q1.1) (v3 + 1) q1.2
def fX5_joyOfAll (o0 : Nat) (o1 : Nat) (u : ab_S) : Option (Int32 × ab_S) :=
  fX5_joyOfAll_4 o0 o1 fu 0 0 u
theorem tX5_joyOfAll (o0 : Nat) (o1 : Nat) (u : ab_S) : ab_G 0 5 cX5_joyOfAll (some .int) 4 0 [some (vR (kO 5) o0), some (vR (kO 2) o1), none, none] [] u wI (fX5_joyOfAll o0 o1 u) := by
  rw [fX5_joyOfAll]
  refine g_seg0 (pc' := 4) (L' := [some (vR (kO 5) o0), some (vR (kO 2) o1), some (vI 0), some (vI 0)]) (st' := []) (u1 := u) [(oC 0, 1), (oL 3 2, 1), (oC 0, 1), (oL 3 3, 1)] (by decide +kernel) rfl rfl ?_
  exact tX5_joyOfAll_4 o0 o1 fu 0 0 u
theorem CX5_joyOfAll (o0 : Nat) (o1 : Nat) (u : ab_S) : ab_C 0 yX5_joyOfAll cX5_joyOfAll 4 (some .int) 4 [vR (kO 5) o0, vR (kO 2) o1] u wI (fX5_joyOfAll o0 o1 u) := ab_entry (by decide +kernel) rfl (by decide) (by decide) (fun _ => Nat.le_of_ble_eq_true rfl) rfl (tX5_joyOfAll o0 o1 u)
def fX5_tryLuck_29 (o0 : Nat) (o1 : Nat) (u : ab_S) : Option (Unit × ab_S) :=
  bif decide ((u.1 o1 1) ≤ 0) then (
    some ((), u))
  else (
    (fX5_draw o0 (u.1 o1 1) u).bind fun q1 =>
      (fX5_draw o0 (q1.2.1 o1 1) q1.2).bind fun q2 =>
        (fX5_canTrade o0 o1 q1.1 q2.1 q2.2).bind fun q3 =>
          bif decide (q3.1 = 0) then (
            some ((), q3.2))
          else (
            (fX5_trade o0 q1.1 q2.1 q3.2).bind fun q4 =>
              some ((), q4.2)))
theorem tX5_tryLuck_29 (o0 : Nat) (o1 : Nat) (u : ab_S) : ab_G 0 5 cX5_tryLuck none 4 29 [some (vR (kO 5) o0), some (vR (kO 2) o1), none, none] [] u wV (fX5_tryLuck_29 o0 o1 u) := by
  rw [fX5_tryLuck_29]
  refine g_seg0 (pc' := 33) (L' := [some (vR (kO 5) o0), some (vR (kO 2) o1), none, none]) (st' := [vI (u.1 o1 1)]) (u1 := u) [(oL 2 1, 1), (oP (.getfield 64), 3)] (by decide +kernel) rfl rfl ?_
  refine g_zle (off := 37) (tgt := 70) (pc2 := 36) (by decide +kernel) (by decide) rfl ?_ ?_
  · exact g_vret (by decide +kernel) rfl
  · refine g_seg0 (pc' := 41) (L' := [some (vR (kO 5) o0), some (vR (kO 2) o1), none, none]) (st' := [vI (u.1 o1 1), vR (kO 5) o0]) (u1 := u) [(oL 2 0, 1), (oL 2 1, 1), (oP (.getfield 64), 3)] (by decide +kernel) rfl rfl ?_
    refine g_callV (k := 132) (pc2 := 44) (st := []) (CX5_draw o0 (u.1 o1 1) u) miX5_draw mvX5_draw rfl (by decide) lk5_132 wI_ok (by decide +kernel) rfl (Nat.le_of_ble_eq_true rfl) (by decide) rfl (fun q1 hq1 => ?_)
    refine g_seg0 (pc' := 50) (L' := [some (vR (kO 5) o0), some (vR (kO 2) o1), some (vI (q1.1)), none]) (st' := [vI (q1.2.1 o1 1), vR (kO 5) o0]) (u1 := q1.2) [(oL 3 2, 1), (oL 2 0, 1), (oL 2 1, 1), (oP (.getfield 64), 3)] (by decide +kernel) rfl rfl ?_
    refine g_callV (k := 132) (pc2 := 53) (st := []) (CX5_draw o0 (q1.2.1 o1 1) q1.2) miX5_draw mvX5_draw rfl (by decide) lk5_132 wI_ok (by decide +kernel) rfl (Nat.le_of_ble_eq_true rfl) (by decide) rfl (fun q2 hq2 => ?_)
    refine g_seg0 (pc' := 58) (L' := [some (vR (kO 5) o0), some (vR (kO 2) o1), some (vI (q1.1)), some (vI (q2.1))]) (st' := [vI (q2.1), vI (q1.1), vR (kO 2) o1, vR (kO 5) o0]) (u1 := q2.2) [(oL 3 3, 1), (oL 2 0, 1), (oL 2 1, 1), (oL 0 2, 1), (oL 0 3, 1)] (by decide +kernel) rfl rfl ?_
    refine g_callV (k := 152) (pc2 := 61) (st := []) (CX5_canTrade o0 o1 q1.1 q2.1 q2.2) miX5_canTrade mvX5_canTrade rfl (by decide) lk5_152 wI_ok (by decide +kernel) rfl (Nat.le_of_ble_eq_true rfl) (by decide) rfl (fun q3 hq3 => ?_)
    refine g_zeq (off := 9) (tgt := 70) (pc2 := 64) (by decide +kernel) (by decide) rfl ?_ ?_
    · exact g_vret (by decide +kernel) rfl
    · refine g_seg0 (pc' := 67) (L' := [some (vR (kO 5) o0), some (vR (kO 2) o1), some (vI (q1.1)), some (vI (q2.1))]) (st' := [vI (q2.1), vI (q1.1), vR (kO 5) o0]) (u1 := q3.2) [(oL 2 0, 1), (oL 0 2, 1), (oL 0 3, 1)] (by decide +kernel) rfl rfl ?_
      refine g_callV (k := 156) (pc2 := 70) (st := []) (CX5_trade o0 q1.1 q2.1 q3.2) miX5_trade mvX5_trade rfl (by decide) lk5_156 wV_ok (by decide +kernel) rfl (Nat.le_of_ble_eq_true rfl) (by decide) rfl (fun q4 hq4 => ?_)
      exact g_vret (by decide +kernel) rfl
def fX5_tryLuck (o0 : Nat) (o1 : Nat) (u : ab_S) : Option (Unit × ab_S) :=
  bif decide ((u.1 o1 0) ≤ 0) then (
    fX5_tryLuck_29 o0 o1 u)
  else (
    (fX5_draw o0 (u.1 o1 0) u).bind fun q5 =>
      (fX5_canBuy o0 q5.1 q5.2).bind fun q6 =>
        bif decide (q6.1 = 0) then (
          fX5_tryLuck_29 o0 o1 q6.2)
        else (
          (fX5_takeTicket o0 q5.1 q6.2).bind fun q7 =>
            fX5_tryLuck_29 o0 o1 q7.2))
theorem tX5_tryLuck (o0 : Nat) (o1 : Nat) (u : ab_S) : ab_G 0 5 cX5_tryLuck none 4 0 [some (vR (kO 5) o0), some (vR (kO 2) o1), none, none] [] u wV (fX5_tryLuck o0 o1 u) := by
  rw [fX5_tryLuck]
  refine g_seg0 (pc' := 4) (L' := [some (vR (kO 5) o0), some (vR (kO 2) o1), none, none]) (st' := [vI (u.1 o1 0)]) (u1 := u) [(oL 2 1, 1), (oP (.getfield 25), 3)] (by decide +kernel) rfl rfl ?_
  refine g_zle (off := 25) (tgt := 29) (pc2 := 7) (by decide +kernel) (by decide) rfl ?_ ?_
  · exact tX5_tryLuck_29 o0 o1 u
  · refine g_seg0 (pc' := 12) (L' := [some (vR (kO 5) o0), some (vR (kO 2) o1), none, none]) (st' := [vI (u.1 o1 0), vR (kO 5) o0]) (u1 := u) [(oL 2 0, 1), (oL 2 1, 1), (oP (.getfield 25), 3)] (by decide +kernel) rfl rfl ?_
    refine g_callV (k := 132) (pc2 := 15) (st := []) (CX5_draw o0 (u.1 o1 0) u) miX5_draw mvX5_draw rfl (by decide) lk5_132 wI_ok (by decide +kernel) rfl (Nat.le_of_ble_eq_true rfl) (by decide) rfl (fun q5 hq5 => ?_)
    refine g_seg0 (pc' := 18) (L' := [some (vR (kO 5) o0), some (vR (kO 2) o1), some (vI (q5.1)), none]) (st' := [vI (q5.1), vR (kO 5) o0]) (u1 := q5.2) [(oL 3 2, 1), (oL 2 0, 1), (oL 0 2, 1)] (by decide +kernel) rfl rfl ?_
    refine g_callV (k := 144) (pc2 := 21) (st := []) (CX5_canBuy o0 q5.1 q5.2) miX5_canBuy mvX5_canBuy rfl (by decide) lk5_144 wI_ok (by decide +kernel) rfl (Nat.le_of_ble_eq_true rfl) (by decide) rfl (fun q6 hq6 => ?_)
    refine g_zeq (off := 8) (tgt := 29) (pc2 := 24) (by decide +kernel) (by decide) rfl ?_ ?_
    · exact g_jump [true, true, false, false] rfl (tX5_tryLuck_29 o0 o1 q6.2)
    · refine g_seg0 (pc' := 26) (L' := [some (vR (kO 5) o0), some (vR (kO 2) o1), some (vI (q5.1)), none]) (st' := [vI (q5.1), vR (kO 5) o0]) (u1 := q6.2) [(oL 2 0, 1), (oL 0 2, 1)] (by decide +kernel) rfl rfl ?_
      refine g_callV (k := 148) (pc2 := 29) (st := []) (CX5_takeTicket o0 q5.1 q6.2) miX5_takeTicket mvX5_takeTicket rfl (by decide) lk5_148 wV_ok (by decide +kernel) rfl (Nat.le_of_ble_eq_true rfl) (by decide) rfl (fun q7 hq7 => ?_)
      exact g_jump [true, true, false, false] rfl (tX5_tryLuck_29 o0 o1 q7.2)
theorem CX5_tryLuck (o0 : Nat) (o1 : Nat) (u : ab_S) : ab_C 0 yX5_tryLuck cX5_tryLuck 4 none 4 [vR (kO 5) o0, vR (kO 2) o1] u wV (fX5_tryLuck o0 o1 u) := ab_entry (by decide +kernel) rfl (by decide) (by decide) (fun _ => Nat.le_of_ble_eq_true rfl) rfl (tX5_tryLuck o0 o1 u)
def fX9_luck_59 : Nat → Int32 → Int32 → Int32 → Int32 → ab_S → Option (Int32 × ab_S)
  | 0, _, _, _, _, _ => none
  | n + 1, v2, v3, v4, v5, u =>
  bif decide (v5 < v2) then (
    (fX5_tryLuck 42 (u.2.2 0) u).bind fun q3 =>
      (fX5_passQuarter 42 (q3.2.2.2 0) q3.2).bind fun q4 =>
        bif decide (q4.1 = (-1)) then (
          (fX9_luck_59 n) v2 v3 v4 (v5 + 1) q4.2)
        else (
          (fX9_luck_59 n) v2 v3 (v4 + 1) (v5 + 1) q4.2))
  else (
    bif decide (v3 = 0) then (
      some (v4, u))
    else (
      bif decide (v3 = 1) then (
        (fX5_rightBits 42 (u.2.2 0) u).bind fun q2 =>
          some (q2.1, q2.2))
      else (
        (fX5_joyOfAll 42 (u.2.2 0) u).bind fun q1 =>
          some (q1.1, q1.2))))
theorem tX9_luck_59 : ∀ (n : Nat) (v2 : Int32) (v3 : Int32) (v4 : Int32) (v5 : Int32) (u : ab_S), ab_G 0 8 cX9_luck (some .int) 5 59 [some (vR (kO 8) 0), none, some (vI v2), some (vI v3), some (vI v4), some (vI v5)] [] u wI (fX9_luck_59 n v2 v3 v4 v5 u) := by
  intro n
  induction n with
  | zero => intros; exact g_none
  | succ n ih =>
    intro v2 v3 v4 v5 u
    rw [fX9_luck_59]
    refine g_seg0 (pc' := 62) (L' := [some (vR (kO 8) 0), none, some (vI v2), some (vI v3), some (vI v4), some (vI v5)]) (st' := [vI v2, vI v5]) (u1 := u) [(oL 0 5, 2), (oL 0 2, 1)] (by decide +kernel) rfl rfl ?_
    refine g_ige (off := 38) (tgt := 100) (pc2 := 65) (by decide +kernel) (by decide) rfl ?_ ?_
    · refine g_seg0 (pc' := 101) (L' := [some (vR (kO 8) 0), none, some (vI v2), some (vI v3), some (vI v4), some (vI v5)]) (st' := [vI v3]) (u1 := u) [(oL 0 3, 1)] (by decide +kernel) rfl rfl ?_
      refine g_zne (off := 6) (tgt := 107) (pc2 := 104) (by decide +kernel) (by decide) rfl ?_ ?_
      · refine g_seg0 (pc' := 109) (L' := [some (vR (kO 8) 0), none, some (vI v2), some (vI v3), some (vI v4), some (vI v5)]) (st' := [vI 1, vI v3]) (u1 := u) [(oL 0 3, 1), (oC 1, 1)] (by decide +kernel) rfl rfl ?_
        refine g_ine (off := 17) (tgt := 126) (pc2 := 112) (by decide +kernel) (by decide) rfl ?_ ?_
        · refine g_seg0 (pc' := 134) (L' := [some (vR (kO 8) 0), none, some (vI v2), some (vI v3), some (vI v4), some (vI v5)]) (st' := [vR (kO 2) (u.2.2 0), vR (kO 5) 42]) (u1 := u) [(oL 2 0, 1), (oP (.getfield 43), 3), (oL 2 0, 1), (oP (.getfield 19), 3)] (by decide +kernel) rfl rfl ?_
          refine g_callV (k := 302) (pc2 := 137) (st := []) (CX5_joyOfAll 42 (u.2.2 0) u) miX5_joyOfAll mvX5_joyOfAll rfl (by decide) lk8_302 wI_ok (by decide +kernel) rfl (Nat.le_of_ble_eq_true rfl) (by decide) rfl (fun q1 hq1 => ?_)
          exact g_iret (by decide +kernel) rfl
        · refine g_seg0 (pc' := 120) (L' := [some (vR (kO 8) 0), none, some (vI v2), some (vI v3), some (vI v4), some (vI v5)]) (st' := [vR (kO 2) (u.2.2 0), vR (kO 5) 42]) (u1 := u) [(oL 2 0, 1), (oP (.getfield 43), 3), (oL 2 0, 1), (oP (.getfield 19), 3)] (by decide +kernel) rfl rfl ?_
          refine g_callV (k := 195) (pc2 := 123) (st := []) (CX5_rightBits 42 (u.2.2 0) u) miX5_rightBits mvX5_rightBits rfl (by decide) lk8_195 wI_ok (by decide +kernel) rfl (Nat.le_of_ble_eq_true rfl) (by decide) rfl (fun q2 hq2 => ?_)
          refine g_goto (off := 14) (tgt := 137) (by decide +kernel) (by decide) ?_
          exact g_iret (by decide +kernel) rfl
      · refine g_seg0 (pc' := 106) (L' := [some (vR (kO 8) 0), none, some (vI v2), some (vI v3), some (vI v4), some (vI v5)]) (st' := [vI v4]) (u1 := u) [(oL 0 4, 2)] (by decide +kernel) rfl rfl ?_
        exact g_iret (by decide +kernel) rfl
    · refine g_seg0 (pc' := 73) (L' := [some (vR (kO 8) 0), none, some (vI v2), some (vI v3), some (vI v4), some (vI v5)]) (st' := [vR (kO 2) (u.2.2 0), vR (kO 5) 42]) (u1 := u) [(oL 2 0, 1), (oP (.getfield 43), 3), (oL 2 0, 1), (oP (.getfield 19), 3)] (by decide +kernel) rfl rfl ?_
      refine g_callV (k := 299) (pc2 := 76) (st := []) (CX5_tryLuck 42 (u.2.2 0) u) miX5_tryLuck mvX5_tryLuck rfl (by decide) lk8_299 wV_ok (by decide +kernel) rfl (Nat.le_of_ble_eq_true rfl) (by decide) rfl (fun q3 hq3 => ?_)
      refine g_seg0 (pc' := 84) (L' := [some (vR (kO 8) 0), none, some (vI v2), some (vI v3), some (vI v4), some (vI v5)]) (st' := [vR (kO 2) (q3.2.2.2 0), vR (kO 5) 42]) (u1 := q3.2) [(oL 2 0, 1), (oP (.getfield 43), 3), (oL 2 0, 1), (oP (.getfield 19), 3)] (by decide +kernel) rfl rfl ?_
      refine g_callV (k := 174) (pc2 := 87) (st := []) (CX5_passQuarter 42 (q3.2.2.2 0) q3.2) miX5_passQuarter mvX5_passQuarter rfl (by decide) lk8_174 wI_ok (by decide +kernel) rfl (Nat.le_of_ble_eq_true rfl) (by decide) rfl (fun q4 hq4 => ?_)
      refine g_seg0 (pc' := 88) (L' := [some (vR (kO 8) 0), none, some (vI v2), some (vI v3), some (vI v4), some (vI v5)]) (st' := [vI (-1), vI (q4.1)]) (u1 := q4.2) [(oC (-1), 1)] (by decide +kernel) rfl rfl ?_
      refine g_ieq (off := 6) (tgt := 94) (pc2 := 91) (by decide +kernel) (by decide) rfl ?_ ?_
      · refine g_seg0 (pc' := 97) (L' := [some (vR (kO 8) 0), none, some (vI v2), some (vI v3), some (vI v4), some (vI (v5 + 1))]) (st' := []) (u1 := q4.2) [(oN 5 1, 3)] (by decide +kernel) rfl rfl ?_
        refine g_goto (off := (-38)) (tgt := 59) (by decide +kernel) (by decide) ?_
        exact ih v2 v3 v4 (v5 + 1) q4.2
      · refine g_seg0 (pc' := 97) (L' := [some (vR (kO 8) 0), none, some (vI v2), some (vI v3), some (vI (v4 + 1)), some (vI (v5 + 1))]) (st' := []) (u1 := q4.2) [(oN 4 1, 3), (oN 5 1, 3)] (by decide +kernel) rfl rfl ?_
        refine g_goto (off := (-38)) (tgt := 59) (by decide +kernel) (by decide) ?_
        exact ih v2 v3 (v4 + 1) (v5 + 1) q4.2
def fX9_luck (v1 : Int32) (v2 : Int32) (v3 : Int32) (u : ab_S) : Option (Int32 × ab_S) :=
  bif decide (v1 < 0) then (
    some ((-1), u))
  else (
    bif decide (v1 ≤ 9999) then (
      bif decide (v2 < 1) then (
        some ((-1), u))
      else (
        bif decide (v2 ≤ 99) then (
          bif decide (v3 < 0) then (
            some ((-1), u))
          else (
            bif decide (v3 ≤ 2) then (
              (fX5_copyOf 42 38 u).bind fun q5 =>
                fX9_luck_59 fu v2 v3 0 0 (sJ q5.2 42 3 (Int32.toInt64 v1)))
            else (
              some ((-1), u))))
        else (
          some ((-1), u))))
    else (
      some ((-1), u)))
theorem tX9_luck (v1 : Int32) (v2 : Int32) (v3 : Int32) (u : ab_S) : ab_G 0 8 cX9_luck (some .int) 5 0 [some (vR (kO 8) 0), some (vI v1), some (vI v2), some (vI v3), none, none] [] u wI (fX9_luck v1 v2 v3 u) := by
  rw [fX9_luck]
  refine g_seg0 (pc' := 1) (L' := [some (vR (kO 8) 0), some (vI v1), some (vI v2), some (vI v3), none, none]) (st' := [vI v1]) (u1 := u) [(oL 0 1, 1)] (by decide +kernel) rfl rfl ?_
  refine g_zlt (off := 30) (tgt := 31) (pc2 := 4) (by decide +kernel) (by decide) rfl ?_ ?_
  · refine g_seg0 (pc' := 32) (L' := [some (vR (kO 8) 0), some (vI v1), some (vI v2), some (vI v3), none, none]) (st' := [vI (-1)]) (u1 := u) [(oC (-1), 1)] (by decide +kernel) rfl rfl ?_
    exact g_iret (by decide +kernel) rfl
  · refine g_seg0 (pc' := 8) (L' := [some (vR (kO 8) 0), some (vI v1), some (vI v2), some (vI v3), none, none]) (st' := [vI 9999, vI v1]) (u1 := u) [(oL 0 1, 1), (oC 9999, 3)] (by decide +kernel) rfl rfl ?_
    refine g_igt (off := 23) (tgt := 31) (pc2 := 11) (by decide +kernel) (by decide) rfl ?_ ?_
    · refine g_seg0 (pc' := 32) (L' := [some (vR (kO 8) 0), some (vI v1), some (vI v2), some (vI v3), none, none]) (st' := [vI (-1)]) (u1 := u) [(oC (-1), 1)] (by decide +kernel) rfl rfl ?_
      exact g_iret (by decide +kernel) rfl
    · refine g_seg0 (pc' := 13) (L' := [some (vR (kO 8) 0), some (vI v1), some (vI v2), some (vI v3), none, none]) (st' := [vI 1, vI v2]) (u1 := u) [(oL 0 2, 1), (oC 1, 1)] (by decide +kernel) rfl rfl ?_
      refine g_ilt (off := 18) (tgt := 31) (pc2 := 16) (by decide +kernel) (by decide) rfl ?_ ?_
      · refine g_seg0 (pc' := 32) (L' := [some (vR (kO 8) 0), some (vI v1), some (vI v2), some (vI v3), none, none]) (st' := [vI (-1)]) (u1 := u) [(oC (-1), 1)] (by decide +kernel) rfl rfl ?_
        exact g_iret (by decide +kernel) rfl
      · refine g_seg0 (pc' := 19) (L' := [some (vR (kO 8) 0), some (vI v1), some (vI v2), some (vI v3), none, none]) (st' := [vI 99, vI v2]) (u1 := u) [(oL 0 2, 1), (oC 99, 2)] (by decide +kernel) rfl rfl ?_
        refine g_igt (off := 12) (tgt := 31) (pc2 := 22) (by decide +kernel) (by decide) rfl ?_ ?_
        · refine g_seg0 (pc' := 32) (L' := [some (vR (kO 8) 0), some (vI v1), some (vI v2), some (vI v3), none, none]) (st' := [vI (-1)]) (u1 := u) [(oC (-1), 1)] (by decide +kernel) rfl rfl ?_
          exact g_iret (by decide +kernel) rfl
        · refine g_seg0 (pc' := 23) (L' := [some (vR (kO 8) 0), some (vI v1), some (vI v2), some (vI v3), none, none]) (st' := [vI v3]) (u1 := u) [(oL 0 3, 1)] (by decide +kernel) rfl rfl ?_
          refine g_zlt (off := 8) (tgt := 31) (pc2 := 26) (by decide +kernel) (by decide) rfl ?_ ?_
          · refine g_seg0 (pc' := 32) (L' := [some (vR (kO 8) 0), some (vI v1), some (vI v2), some (vI v3), none, none]) (st' := [vI (-1)]) (u1 := u) [(oC (-1), 1)] (by decide +kernel) rfl rfl ?_
            exact g_iret (by decide +kernel) rfl
          · refine g_seg0 (pc' := 28) (L' := [some (vR (kO 8) 0), some (vI v1), some (vI v2), some (vI v3), none, none]) (st' := [vI 2, vI v3]) (u1 := u) [(oL 0 3, 1), (oC 2, 1)] (by decide +kernel) rfl rfl ?_
            refine g_ile (off := 5) (tgt := 33) (pc2 := 31) (by decide +kernel) (by decide) rfl ?_ ?_
            · refine g_seg0 (pc' := 41) (L' := [some (vR (kO 8) 0), some (vI v1), some (vI v2), some (vI v3), none, none]) (st' := [vR (kO 5) 38, vR (kO 5) 42]) (u1 := u) [(oL 2 0, 1), (oP (.getfield 43), 3), (oL 2 0, 1), (oP (.getfield 39), 3)] (by decide +kernel) rfl rfl ?_
              refine g_callV (k := 181) (pc2 := 44) (st := []) (CX5_copyOf 42 38 u) miX5_copyOf mvX5_copyOf rfl (by decide) lk8_181 wV_ok (by decide +kernel) rfl (Nat.le_of_ble_eq_true rfl) (by decide) rfl (fun q5 hq5 => ?_)
              refine g_seg0 (pc' := 59) (L' := [some (vR (kO 8) 0), some (vI v1), some (vI v2), some (vI v3), some (vI 0), some (vI 0)]) (st' := []) (u1 := (sJ q5.2 42 3 (Int32.toInt64 v1))) [(oL 2 0, 1), (oP (.getfield 43), 3), (oL 0 1, 1), (oP .i2l, 1), (oP (.putfield 295), 3), (oC 0, 1), (oL 3 4, 2), (oC 0, 1), (oL 3 5, 2)] (by decide +kernel) rfl rfl ?_
              exact g_jump [true, false, true, true, true, true] rfl (tX9_luck_59 fu v2 v3 0 0 (sJ q5.2 42 3 (Int32.toInt64 v1)))
            · refine g_seg0 (pc' := 32) (L' := [some (vR (kO 8) 0), some (vI v1), some (vI v2), some (vI v3), none, none]) (st' := [vI (-1)]) (u1 := u) [(oC (-1), 1)] (by decide +kernel) rfl rfl ?_
              exact g_iret (by decide +kernel) rfl
theorem CX9_luck (v1 : Int32) (v2 : Int32) (v3 : Int32) (u : ab_S) : ab_C 0 yX9_luck cX9_luck 6 (some .int) 5 [vR (kO 8) 0, vI v1, vI v2, vI v3] u wI (fX9_luck v1 v2 v3 u) := ab_entry (by decide +kernel) rfl (by decide) (by decide) (fun _ => Nat.le_of_ble_eq_true rfl) rfl (tX9_luck v1 v2 v3 u)
def fX4_copyOf_24 (o0 : Nat) (o1 : Nat) : Nat → Int32 → ab_S → Option (Unit × ab_S)
  | 0, _, _ => none
  | n + 1, v2, u =>
  bif decide (v2 < 8) then (
    bif decide (v2 < 8) then (
      ab_gd [ab_ix v2 8, ab_ix v2 8, ab_b1 (u.1 (o1 + 3) (nc v2))] (
        (fX4_copyOf_24 o0 o1 n) (v2 + 1) (sI u (o0 + 3) (nc v2) (u.1 (o1 + 3) (nc v2)))))
    else (
      some ((), (sI u o0 3 (u.1 o1 3)))))
  else (
    some ((), (sI u o0 3 (u.1 o1 3))))
theorem tX4_copyOf_24 (o0 : Nat) (o1 : Nat) : ∀ (n : Nat) (v2 : Int32) (u : ab_S), ab_G 0 4 cX4_copyOf none 1 24 [some (vR (kO 4) o0), some (vR (kO 4) o1), some (vI v2)] [] u wV (fX4_copyOf_24 o0 o1 n v2 u) := by
  intro n
  induction n with
  | zero => intros; exact g_none
  | succ n ih =>
    intro v2 u
    rw [fX4_copyOf_24]
    refine g_seg0 (pc' := 30) (L' := [some (vR (kO 4) o0), some (vR (kO 4) o1), some (vI v2)]) (st' := [vI 8, vI v2]) (u1 := u) [(oL 0 2, 1), (oL 2 0, 1), (oP (.getfield 18), 3), (oP .arraylength, 1)] (by decide +kernel) rfl rfl ?_
    refine g_ige (off := 30) (tgt := 60) (pc2 := 33) (by decide +kernel) (by decide) rfl ?_ ?_
    · refine g_seg0 (pc' := 68) (L' := [some (vR (kO 4) o0), some (vR (kO 4) o1), some (vI v2)]) (st' := []) (u1 := (sI u o0 3 (u.1 o1 3))) [(oL 2 0, 1), (oL 2 1, 1), (oP (.getfield 22), 3), (oP (.putfield 22), 3)] (by decide +kernel) rfl rfl ?_
      exact g_vret (by decide +kernel) rfl
    · refine g_seg0 (pc' := 39) (L' := [some (vR (kO 4) o0), some (vR (kO 4) o1), some (vI v2)]) (st' := [vI 8, vI v2]) (u1 := u) [(oL 0 2, 1), (oL 2 1, 1), (oP (.getfield 18), 3), (oP .arraylength, 1)] (by decide +kernel) rfl rfl ?_
      refine g_ige (off := 21) (tgt := 60) (pc2 := 42) (by decide +kernel) (by decide) rfl ?_ ?_
      · refine g_seg0 (pc' := 68) (L' := [some (vR (kO 4) o0), some (vR (kO 4) o1), some (vI v2)]) (st' := []) (u1 := (sI u o0 3 (u.1 o1 3))) [(oL 2 0, 1), (oL 2 1, 1), (oP (.getfield 22), 3), (oP (.putfield 22), 3)] (by decide +kernel) rfl rfl ?_
        exact g_vret (by decide +kernel) rfl
      · refine g_seg (pc' := 57) (L' := [some (vR (kO 4) o0), some (vR (kO 4) o1), some (vI (v2 + 1))]) (st' := []) (u1 := (sI u (o0 + 3) (nc v2) (u.1 (o1 + 3) (nc v2)))) [(oL 2 0, 1), (oP (.getfield 18), 3), (oL 0 2, 1), (oL 2 1, 1), (oP (.getfield 18), 3), (oL 0 2, 1), (oP .baload, 1), (oP .bastore, 1), (oN 2 1, 3)] (by decide +kernel) rfl rfl ?_
        refine g_goto (off := (-33)) (tgt := 24) (by decide +kernel) (by decide) ?_
        exact ih (v2 + 1) (sI u (o0 + 3) (nc v2) (u.1 (o1 + 3) (nc v2)))
def fX4_copyOf (o0 : Nat) (o1 : Nat) (u : ab_S) : Option (Unit × ab_S) :=
  (fX9_copy 8 (o1 + 1) 8 (o0 + 1) u).bind fun q1 =>
    (fX9_copy 8 (o1 + 2) 8 (o0 + 2) q1.2).bind fun q2 =>
      fX4_copyOf_24 o0 o1 fu 0 q2.2
theorem tX4_copyOf (o0 : Nat) (o1 : Nat) (u : ab_S) : ab_G 0 4 cX4_copyOf none 1 0 [some (vR (kO 4) o0), some (vR (kO 4) o1), none] [] u wV (fX4_copyOf o0 o1 u) := by
  rw [fX4_copyOf]
  refine g_seg0 (pc' := 8) (L' := [some (vR (kO 4) o0), some (vR (kO 4) o1), none]) (st' := [vR (kA 0 8) (o0 + 1), vR (kA 0 8) (o1 + 1)]) (u1 := u) [(oL 2 1, 1), (oP (.getfield 9), 3), (oL 2 0, 1), (oP (.getfield 9), 3)] (by decide +kernel) rfl rfl ?_
  refine g_callS (k := 30) (pc2 := 11) (st := []) (CX9_copy 8 (o1 + 1) 8 (o0 + 1) u) miX9_copy msX9_copy lk4_30 wV_ok (by decide +kernel) rfl (Nat.le_of_ble_eq_true rfl) (by decide) rfl (fun q1 hq1 => ?_)
  refine g_seg0 (pc' := 19) (L' := [some (vR (kO 4) o0), some (vR (kO 4) o1), none]) (st' := [vR (kA 0 8) (o0 + 2), vR (kA 0 8) (o1 + 2)]) (u1 := q1.2) [(oL 2 1, 1), (oP (.getfield 15), 3), (oL 2 0, 1), (oP (.getfield 15), 3)] (by decide +kernel) rfl rfl ?_
  refine g_callS (k := 30) (pc2 := 22) (st := []) (CX9_copy 8 (o1 + 2) 8 (o0 + 2) q1.2) miX9_copy msX9_copy lk4_30 wV_ok (by decide +kernel) rfl (Nat.le_of_ble_eq_true rfl) (by decide) rfl (fun q2 hq2 => ?_)
  refine g_seg0 (pc' := 24) (L' := [some (vR (kO 4) o0), some (vR (kO 4) o1), some (vI 0)]) (st' := []) (u1 := q2.2) [(oC 0, 1), (oL 3 2, 1)] (by decide +kernel) rfl rfl ?_
  exact tX4_copyOf_24 o0 o1 fu 0 q2.2
theorem CX4_copyOf (o0 : Nat) (o1 : Nat) (u : ab_S) : ab_C 0 yX4_copyOf cX4_copyOf 3 none 1 [vR (kO 4) o0, vR (kO 4) o1] u wV (fX4_copyOf o0 o1 u) := ab_entry (by decide +kernel) rfl (by decide) (by decide) (fun _ => Nat.le_of_ble_eq_true rfl) rfl (tX4_copyOf o0 o1 u)
def fX9_mark_72 (v1 : Int32) (v2 : Int32) (a3 : Nat) (a4 : Nat) (u : ab_S) : Option (Int32 × ab_S) :=
  bif decide (v2 = 0) then (
    (fX5_copyOf a3 38 u).bind fun q1 =>
      (fX4_copyOf a4 46 q1.2).bind fun q2 =>
        ab_gd [ab_ix v1 4, ab_b1 1] (
          ab_gd [ab_b1 1] (some (1, (sI q2.2 149 (nc v1) 1)))))
  else (
    (fX5_copyOf 38 a3 u).bind fun q3 =>
      (fX4_copyOf 46 a4 q3.2).bind fun q4 =>
        ab_gd [ab_b1 1] (some (1, (sI q4.2 0 10 0))))
theorem tX9_mark_72 (v1 : Int32) (v2 : Int32) (a3 : Nat) (a4 : Nat) (u : ab_S) : ab_G 0 8 cX9_mark (some .boolean) 2 72 [some (vR (kO 8) 0), some (vI v1), some (vI v2), some (vR (kO 5) a3), some (vR (kO 4) a4)] [] u wI (fX9_mark_72 v1 v2 a3 a4 u) := by
  rw [fX9_mark_72]
  refine g_seg0 (pc' := 73) (L' := [some (vR (kO 8) 0), some (vI v1), some (vI v2), some (vR (kO 5) a3), some (vR (kO 4) a4)]) (st' := [vI v2]) (u1 := u) [(oL 0 2, 1)] (by decide +kernel) rfl rfl ?_
  refine g_zeq (off := 28) (tgt := 101) (pc2 := 76) (by decide +kernel) (by decide) rfl ?_ ?_
  · refine g_seg0 (pc' := 106) (L' := [some (vR (kO 8) 0), some (vI v1), some (vI v2), some (vR (kO 5) a3), some (vR (kO 4) a4)]) (st' := [vR (kO 5) 38, vR (kO 5) a3]) (u1 := u) [(oL 2 3, 1), (oL 2 0, 1), (oP (.getfield 39), 3)] (by decide +kernel) rfl rfl ?_
    refine g_callV (k := 181) (pc2 := 109) (st := []) (CX5_copyOf a3 38 u) miX5_copyOf mvX5_copyOf rfl (by decide) lk8_181 wV_ok (by decide +kernel) rfl (Nat.le_of_ble_eq_true rfl) (by decide) rfl (fun q1 hq1 => ?_)
    refine g_seg0 (pc' := 115) (L' := [some (vR (kO 8) 0), some (vI v1), some (vI v2), some (vR (kO 5) a3), some (vR (kO 4) a4)]) (st' := [vR (kO 4) 46, vR (kO 4) a4]) (u1 := q1.2) [(oL 2 4, 2), (oL 2 0, 1), (oP (.getfield 49), 3)] (by decide +kernel) rfl rfl ?_
    refine g_callV (k := 305) (pc2 := 118) (st := []) (CX4_copyOf a4 46 q1.2) miX4_copyOf mvX4_copyOf rfl (by decide) lk8_305 wV_ok (by decide +kernel) rfl (Nat.le_of_ble_eq_true rfl) (by decide) rfl (fun q2 hq2 => ?_)
    refine g_seg (pc' := 126) (L' := [some (vR (kO 8) 0), some (vI v1), some (vI v2), some (vR (kO 5) a3), some (vR (kO 4) a4)]) (st' := [vI 1]) (u1 := (sI q2.2 149 (nc v1) 1)) [(oL 2 0, 1), (oP (.getfield 64), 3), (oL 0 1, 1), (oC 1, 1), (oP .bastore, 1), (oC 1, 1)] (by decide +kernel) rfl rfl ?_
    exact g_zret (by decide +kernel) rfl
  · refine g_seg0 (pc' := 81) (L' := [some (vR (kO 8) 0), some (vI v1), some (vI v2), some (vR (kO 5) a3), some (vR (kO 4) a4)]) (st' := [vR (kO 5) a3, vR (kO 5) 38]) (u1 := u) [(oL 2 0, 1), (oP (.getfield 39), 3), (oL 2 3, 1)] (by decide +kernel) rfl rfl ?_
    refine g_callV (k := 181) (pc2 := 84) (st := []) (CX5_copyOf 38 a3 u) miX5_copyOf mvX5_copyOf rfl (by decide) lk8_181 wV_ok (by decide +kernel) rfl (Nat.le_of_ble_eq_true rfl) (by decide) rfl (fun q3 hq3 => ?_)
    refine g_seg0 (pc' := 90) (L' := [some (vR (kO 8) 0), some (vI v1), some (vI v2), some (vR (kO 5) a3), some (vR (kO 4) a4)]) (st' := [vR (kO 4) a4, vR (kO 4) 46]) (u1 := q3.2) [(oL 2 0, 1), (oP (.getfield 49), 3), (oL 2 4, 2)] (by decide +kernel) rfl rfl ?_
    refine g_callV (k := 305) (pc2 := 93) (st := []) (CX4_copyOf 46 a4 q3.2) miX4_copyOf mvX4_copyOf rfl (by decide) lk8_305 wV_ok (by decide +kernel) rfl (Nat.le_of_ble_eq_true rfl) (by decide) rfl (fun q4 hq4 => ?_)
    refine g_seg0 (pc' := 98) (L' := [some (vR (kO 8) 0), some (vI v1), some (vI v2), some (vR (kO 5) a3), some (vR (kO 4) a4)]) (st' := []) (u1 := (sI q4.2 0 10 0)) [(oL 2 0, 1), (oC 0, 1), (oP (.putfield 110), 3)] (by decide +kernel) rfl rfl ?_
    refine g_goto (off := 27) (tgt := 125) (by decide +kernel) (by decide) ?_
    refine g_seg0 (pc' := 126) (L' := [some (vR (kO 8) 0), some (vI v1), some (vI v2), some (vR (kO 5) a3), some (vR (kO 4) a4)]) (st' := [vI 1]) (u1 := (sI q4.2 0 10 0)) [(oC 1, 1)] (by decide +kernel) rfl rfl ?_
    exact g_zret (by decide +kernel) rfl
def fX9_mark (v1 : Int32) (v2 : Int32) (u : ab_S) : Option (Int32 × ab_S) :=
  bif decide (v1 < 0) then (
    ab_gd [ab_b1 0] (some (0, u)))
  else (
    bif decide (v1 < 4) then (
      bif decide (v1 < 4) then (
        bif decide (v1 < 4) then (
          ab_gd [ab_ix v1 4, ab_ix v1 4] (
            bif decide (v2 = 0) then (
              fX9_mark_72 v1 v2 (116 + 4 * nc v1) (133 + 4 * nc v1) u)
            else (
              ab_gd [ab_ix v1 4] (
                bif decide ((u.1 149 (nc v1)) = 0) then (
                  ab_gd [ab_b1 0] (some (0, u)))
                else (
                  fX9_mark_72 v1 v2 (116 + 4 * nc v1) (133 + 4 * nc v1) u)))))
        else (
          ab_gd [ab_b1 0] (some (0, u))))
      else (
        ab_gd [ab_b1 0] (some (0, u))))
    else (
      ab_gd [ab_b1 0] (some (0, u))))
theorem tX9_mark (v1 : Int32) (v2 : Int32) (u : ab_S) : ab_G 0 8 cX9_mark (some .boolean) 2 0 [some (vR (kO 8) 0), some (vI v1), some (vI v2), none, none] [] u wI (fX9_mark v1 v2 u) := by
  rw [fX9_mark]
  refine g_seg0 (pc' := 1) (L' := [some (vR (kO 8) 0), some (vI v1), some (vI v2), none, none]) (st' := [vI v1]) (u1 := u) [(oL 0 1, 1)] (by decide +kernel) rfl rfl ?_
  refine g_zlt (off := 30) (tgt := 31) (pc2 := 4) (by decide +kernel) (by decide) rfl ?_ ?_
  · refine g_seg0 (pc' := 32) (L' := [some (vR (kO 8) 0), some (vI v1), some (vI v2), none, none]) (st' := [vI 0]) (u1 := u) [(oC 0, 1)] (by decide +kernel) rfl rfl ?_
    exact g_zret (by decide +kernel) rfl
  · refine g_seg0 (pc' := 10) (L' := [some (vR (kO 8) 0), some (vI v1), some (vI v2), none, none]) (st' := [vI 4, vI v1]) (u1 := u) [(oL 0 1, 1), (oL 2 0, 1), (oP (.getfield 64), 3), (oP .arraylength, 1)] (by decide +kernel) rfl rfl ?_
    refine g_ige (off := 21) (tgt := 31) (pc2 := 13) (by decide +kernel) (by decide) rfl ?_ ?_
    · refine g_seg0 (pc' := 32) (L' := [some (vR (kO 8) 0), some (vI v1), some (vI v2), none, none]) (st' := [vI 0]) (u1 := u) [(oC 0, 1)] (by decide +kernel) rfl rfl ?_
      exact g_zret (by decide +kernel) rfl
    · refine g_seg0 (pc' := 19) (L' := [some (vR (kO 8) 0), some (vI v1), some (vI v2), none, none]) (st' := [vI 4, vI v1]) (u1 := u) [(oL 0 1, 1), (oL 2 0, 1), (oP (.getfield 57), 3), (oP .arraylength, 1)] (by decide +kernel) rfl rfl ?_
      refine g_ige (off := 12) (tgt := 31) (pc2 := 22) (by decide +kernel) (by decide) rfl ?_ ?_
      · refine g_seg0 (pc' := 32) (L' := [some (vR (kO 8) 0), some (vI v1), some (vI v2), none, none]) (st' := [vI 0]) (u1 := u) [(oC 0, 1)] (by decide +kernel) rfl rfl ?_
        exact g_zret (by decide +kernel) rfl
      · refine g_seg0 (pc' := 28) (L' := [some (vR (kO 8) 0), some (vI v1), some (vI v2), none, none]) (st' := [vI 4, vI v1]) (u1 := u) [(oL 0 1, 1), (oL 2 0, 1), (oP (.getfield 60), 3), (oP .arraylength, 1)] (by decide +kernel) rfl rfl ?_
        refine g_ilt (off := 5) (tgt := 33) (pc2 := 31) (by decide +kernel) (by decide) rfl ?_ ?_
        · refine g_seg (pc' := 49) (L' := [some (vR (kO 8) 0), some (vI v1), some (vI v2), some (vR (kO 5) (116 + 4 * nc v1)), some (vR (kO 4) (133 + 4 * nc v1))]) (st' := [vR (kO 5) (116 + 4 * nc v1)]) (u1 := u) [(oL 2 0, 1), (oP (.getfield 57), 3), (oL 0 1, 1), (oP .aaload, 1), (oL 5 3, 1), (oL 2 0, 1), (oP (.getfield 60), 3), (oL 0 1, 1), (oP .aaload, 1), (oL 5 4, 2), (oL 2 3, 1)] (by decide +kernel) rfl rfl ?_
          refine g_ifnull (off := 21) (pc2 := 52) (by decide +kernel) rfl ?_
          refine g_seg0 (pc' := 54) (L' := [some (vR (kO 8) 0), some (vI v1), some (vI v2), some (vR (kO 5) (116 + 4 * nc v1)), some (vR (kO 4) (133 + 4 * nc v1))]) (st' := [vR (kO 4) (133 + 4 * nc v1)]) (u1 := u) [(oL 2 4, 2)] (by decide +kernel) rfl rfl ?_
          refine g_ifnull (off := 16) (pc2 := 57) (by decide +kernel) rfl ?_
          refine g_seg0 (pc' := 58) (L' := [some (vR (kO 8) 0), some (vI v1), some (vI v2), some (vR (kO 5) (116 + 4 * nc v1)), some (vR (kO 4) (133 + 4 * nc v1))]) (st' := [vI v2]) (u1 := u) [(oL 0 2, 1)] (by decide +kernel) rfl rfl ?_
          refine g_zeq (off := 14) (tgt := 72) (pc2 := 61) (by decide +kernel) (by decide) rfl ?_ ?_
          · exact tX9_mark_72 v1 v2 (116 + 4 * nc v1) (133 + 4 * nc v1) u
          · refine g_seg (pc' := 67) (L' := [some (vR (kO 8) 0), some (vI v1), some (vI v2), some (vR (kO 5) (116 + 4 * nc v1)), some (vR (kO 4) (133 + 4 * nc v1))]) (st' := [vI (u.1 149 (nc v1))]) (u1 := u) [(oL 2 0, 1), (oP (.getfield 64), 3), (oL 0 1, 1), (oP .baload, 1)] (by decide +kernel) rfl rfl ?_
            refine g_zne (off := 5) (tgt := 72) (pc2 := 70) (by decide +kernel) (by decide) rfl ?_ ?_
            · exact tX9_mark_72 v1 v2 (116 + 4 * nc v1) (133 + 4 * nc v1) u
            · refine g_seg0 (pc' := 71) (L' := [some (vR (kO 8) 0), some (vI v1), some (vI v2), some (vR (kO 5) (116 + 4 * nc v1)), some (vR (kO 4) (133 + 4 * nc v1))]) (st' := [vI 0]) (u1 := u) [(oC 0, 1)] (by decide +kernel) rfl rfl ?_
              exact g_zret (by decide +kernel) rfl
        · refine g_seg0 (pc' := 32) (L' := [some (vR (kO 8) 0), some (vI v1), some (vI v2), none, none]) (st' := [vI 0]) (u1 := u) [(oC 0, 1)] (by decide +kernel) rfl rfl ?_
          exact g_zret (by decide +kernel) rfl
theorem CX9_mark (v1 : Int32) (v2 : Int32) (u : ab_S) : ab_C 0 yX9_mark cX9_mark 5 (some .boolean) 2 [vR (kO 8) 0, vI v1, vI v2] u wI (fX9_mark v1 v2 u) := ab_entry (by decide +kernel) rfl (by decide) (by decide) (fun _ => Nat.le_of_ble_eq_true rfl) rfl (tX9_mark v1 v2 u)
def fX5_allShillings (o0 : Nat) (u : ab_S) : Option (Int32 × ab_S) :=
  (fX9_sum 6 (o0 + 2) u).bind fun q1 =>
    some (q1.1, q1.2)
theorem tX5_allShillings (o0 : Nat) (u : ab_S) : ab_G 0 5 cX5_allShillings (some .int) 1 0 [some (vR (kO 5) o0)] [] u wI (fX5_allShillings o0 u) := by
  rw [fX5_allShillings]
  refine g_seg0 (pc' := 4) (L' := [some (vR (kO 5) o0)]) (st' := [vR (kA 0 6) (o0 + 2)]) (u1 := u) [(oL 2 0, 1), (oP (.getfield 15), 3)] (by decide +kernel) rfl rfl ?_
  refine g_callS (k := 52) (pc2 := 7) (st := []) (CX9_sum 6 (o0 + 2) u) miX9_sum msX9_sum lk5_52 wI_ok (by decide +kernel) rfl (Nat.le_of_ble_eq_true rfl) (by decide) rfl (fun q1 hq1 => ?_)
  exact g_iret (by decide +kernel) rfl
theorem CX5_allShillings (o0 : Nat) (u : ab_S) : ab_C 0 yX5_allShillings cX5_allShillings 1 (some .int) 1 [vR (kO 5) o0] u wI (fX5_allShillings o0 u) := ab_entry (by decide +kernel) rfl (by decide) (by decide) (fun _ => Nat.le_of_ble_eq_true rfl) rfl (tX5_allShillings o0 u)
def fX9_count (v1 : Int32) (u : ab_S) : Option (Int32 × ab_S) :=
  ab_sw v1 [
  (0,
    some ((u.1 (u.2.2 0) 0), u)),
  (1,
    some ((u.1 (u.2.2 0) 1), u)),
  (2,
    some ((u.1 38 4), u)),
  (3,
    (fX2_allGoods (u.2.2 0) u).bind fun q1 =>
      (fX5_heldBits 38 (q1.2.2.2 0) q1.2).bind fun q2 =>
        some ((q1.1 &&& (q2.1 ^^^ (-1))), q2.2)),
  (4,
    (fX5_allTickets 38 u).bind fun q3 =>
      some (q3.1, q3.2)),
  (5,
    (fX5_allShillings 38 u).bind fun q4 =>
      some (q4.1, q4.2)),
  (6,
    (fX5_joyOfAll 38 (u.2.2 0) u).bind fun q5 =>
      some (q5.1, q5.2)),
  (7,
    some ((u.1 (u.2.2 2) 0), u)),
  (8,
    some ((u.1 46 3), u)),
  (9,
    some ((u.1 0 10), u)),
  (10,
    some ((u.1 1 1), u))] (
    some ((-1), u))
theorem tX9_count (v1 : Int32) (u : ab_S) : ab_G 0 8 cX9_count (some .int) 5 0 [some (vR (kO 8) 0), some (vI v1)] [] u wI (fX9_count v1 u) := by
  rw [fX9_count]
  refine g_seg0 (pc' := 1) (L' := [some (vR (kO 8) 0), some (vI v1)]) (st' := [vI v1]) (u1 := u) [(oL 0 1, 1)] (by decide +kernel) rfl rfl ?_
  refine g_sw0 ?_
  refine g_sw1 (dflt := 162) (lo := 0) (hi := 10) (offs := #[59, 67, 75, 83, 105, 113, 121, 133, 141, 149, 154]) (len := 59) (k := 0) (t := 60) (by decide +kernel) (by decide +kernel) ?_ ?_
  · refine g_seg0 (pc' := 67) (L' := [some (vR (kO 8) 0), some (vI v1)]) (st' := [vI (u.1 (u.2.2 0) 0)]) (u1 := u) [(oL 2 0, 1), (oP (.getfield 19), 3), (oP (.getfield 216), 3)] (by decide +kernel) rfl rfl ?_
    exact g_iret (by decide +kernel) rfl
  refine g_sw1 (dflt := 162) (lo := 0) (hi := 10) (offs := #[59, 67, 75, 83, 105, 113, 121, 133, 141, 149, 154]) (len := 59) (k := 1) (t := 68) (by decide +kernel) (by decide +kernel) ?_ ?_
  · refine g_seg0 (pc' := 75) (L' := [some (vR (kO 8) 0), some (vI v1)]) (st' := [vI (u.1 (u.2.2 0) 1)]) (u1 := u) [(oL 2 0, 1), (oP (.getfield 19), 3), (oP (.getfield 213), 3)] (by decide +kernel) rfl rfl ?_
    exact g_iret (by decide +kernel) rfl
  refine g_sw1 (dflt := 162) (lo := 0) (hi := 10) (offs := #[59, 67, 75, 83, 105, 113, 121, 133, 141, 149, 154]) (len := 59) (k := 2) (t := 76) (by decide +kernel) (by decide +kernel) ?_ ?_
  · refine g_seg0 (pc' := 83) (L' := [some (vR (kO 8) 0), some (vI v1)]) (st' := [vI (u.1 38 4)]) (u1 := u) [(oL 2 0, 1), (oP (.getfield 39), 3), (oP (.getfield 308), 3)] (by decide +kernel) rfl rfl ?_
    exact g_iret (by decide +kernel) rfl
  refine g_sw1 (dflt := 162) (lo := 0) (hi := 10) (offs := #[59, 67, 75, 83, 105, 113, 121, 133, 141, 149, 154]) (len := 59) (k := 3) (t := 84) (by decide +kernel) (by decide +kernel) ?_ ?_
  · refine g_seg0 (pc' := 88) (L' := [some (vR (kO 8) 0), some (vI v1)]) (st' := [vR (kO 2) (u.2.2 0)]) (u1 := u) [(oL 2 0, 1), (oP (.getfield 19), 3)] (by decide +kernel) rfl rfl ?_
    refine g_callV (k := 203) (pc2 := 91) (st := []) (CX2_allGoods (u.2.2 0) u) miX2_allGoods mvX2_allGoods rfl (by decide) lk8_203 wI_ok (by decide +kernel) rfl (Nat.le_of_ble_eq_true rfl) (by decide) rfl (fun q1 hq1 => ?_)
    refine g_seg0 (pc' := 99) (L' := [some (vR (kO 8) 0), some (vI v1)]) (st' := [vR (kO 2) (q1.2.2.2 0), vR (kO 5) 38, vI (q1.1)]) (u1 := q1.2) [(oL 2 0, 1), (oP (.getfield 39), 3), (oL 2 0, 1), (oP (.getfield 19), 3)] (by decide +kernel) rfl rfl ?_
    refine g_callV (k := 207) (pc2 := 102) (st := [vI (q1.1)]) (CX5_heldBits 38 (q1.2.2.2 0) q1.2) miX5_heldBits mvX5_heldBits rfl (by decide) lk8_207 wI_ok (by decide +kernel) rfl (Nat.le_of_ble_eq_true rfl) (by decide) rfl (fun q2 hq2 => ?_)
    refine g_seg0 (pc' := 105) (L' := [some (vR (kO 8) 0), some (vI v1)]) (st' := [vI (q1.1 &&& (q2.1 ^^^ (-1)))]) (u1 := q2.2) [(oC (-1), 1), (oP .ixor, 1), (oP .iand, 1)] (by decide +kernel) rfl rfl ?_
    exact g_iret (by decide +kernel) rfl
  refine g_sw1 (dflt := 162) (lo := 0) (hi := 10) (offs := #[59, 67, 75, 83, 105, 113, 121, 133, 141, 149, 154]) (len := 59) (k := 4) (t := 106) (by decide +kernel) (by decide +kernel) ?_ ?_
  · refine g_seg0 (pc' := 110) (L' := [some (vR (kO 8) 0), some (vI v1)]) (st' := [vR (kO 5) 38]) (u1 := u) [(oL 2 0, 1), (oP (.getfield 39), 3)] (by decide +kernel) rfl rfl ?_
    refine g_callV (k := 258) (pc2 := 113) (st := []) (CX5_allTickets 38 u) miX5_allTickets mvX5_allTickets rfl (by decide) lk8_258 wI_ok (by decide +kernel) rfl (Nat.le_of_ble_eq_true rfl) (by decide) rfl (fun q3 hq3 => ?_)
    exact g_iret (by decide +kernel) rfl
  refine g_sw1 (dflt := 162) (lo := 0) (hi := 10) (offs := #[59, 67, 75, 83, 105, 113, 121, 133, 141, 149, 154]) (len := 59) (k := 5) (t := 114) (by decide +kernel) (by decide +kernel) ?_ ?_
  · refine g_seg0 (pc' := 118) (L' := [some (vR (kO 8) 0), some (vI v1)]) (st' := [vR (kO 5) 38]) (u1 := u) [(oL 2 0, 1), (oP (.getfield 39), 3)] (by decide +kernel) rfl rfl ?_
    refine g_callV (k := 311) (pc2 := 121) (st := []) (CX5_allShillings 38 u) miX5_allShillings mvX5_allShillings rfl (by decide) lk8_311 wI_ok (by decide +kernel) rfl (Nat.le_of_ble_eq_true rfl) (by decide) rfl (fun q4 hq4 => ?_)
    exact g_iret (by decide +kernel) rfl
  refine g_sw1 (dflt := 162) (lo := 0) (hi := 10) (offs := #[59, 67, 75, 83, 105, 113, 121, 133, 141, 149, 154]) (len := 59) (k := 6) (t := 122) (by decide +kernel) (by decide +kernel) ?_ ?_
  · refine g_seg0 (pc' := 130) (L' := [some (vR (kO 8) 0), some (vI v1)]) (st' := [vR (kO 2) (u.2.2 0), vR (kO 5) 38]) (u1 := u) [(oL 2 0, 1), (oP (.getfield 39), 3), (oL 2 0, 1), (oP (.getfield 19), 3)] (by decide +kernel) rfl rfl ?_
    refine g_callV (k := 302) (pc2 := 133) (st := []) (CX5_joyOfAll 38 (u.2.2 0) u) miX5_joyOfAll mvX5_joyOfAll rfl (by decide) lk8_302 wI_ok (by decide +kernel) rfl (Nat.le_of_ble_eq_true rfl) (by decide) rfl (fun q5 hq5 => ?_)
    exact g_iret (by decide +kernel) rfl
  refine g_sw1 (dflt := 162) (lo := 0) (hi := 10) (offs := #[59, 67, 75, 83, 105, 113, 121, 133, 141, 149, 154]) (len := 59) (k := 7) (t := 134) (by decide +kernel) (by decide +kernel) ?_ ?_
  · refine g_seg0 (pc' := 141) (L' := [some (vR (kO 8) 0), some (vI v1)]) (st' := [vI (u.1 (u.2.2 2) 0)]) (u1 := u) [(oL 2 0, 1), (oP (.getfield 29), 3), (oP (.getfield 104), 3)] (by decide +kernel) rfl rfl ?_
    exact g_iret (by decide +kernel) rfl
  refine g_sw1 (dflt := 162) (lo := 0) (hi := 10) (offs := #[59, 67, 75, 83, 105, 113, 121, 133, 141, 149, 154]) (len := 59) (k := 8) (t := 142) (by decide +kernel) (by decide +kernel) ?_ ?_
  · refine g_seg0 (pc' := 149) (L' := [some (vR (kO 8) 0), some (vI v1)]) (st' := [vI (u.1 46 3)]) (u1 := u) [(oL 2 0, 1), (oP (.getfield 49), 3), (oP (.getfield 107), 3)] (by decide +kernel) rfl rfl ?_
    exact g_iret (by decide +kernel) rfl
  refine g_sw1 (dflt := 162) (lo := 0) (hi := 10) (offs := #[59, 67, 75, 83, 105, 113, 121, 133, 141, 149, 154]) (len := 59) (k := 9) (t := 150) (by decide +kernel) (by decide +kernel) ?_ ?_
  · refine g_seg0 (pc' := 154) (L' := [some (vR (kO 8) 0), some (vI v1)]) (st' := [vI (u.1 0 10)]) (u1 := u) [(oL 2 0, 1), (oP (.getfield 110), 3)] (by decide +kernel) rfl rfl ?_
    exact g_iret (by decide +kernel) rfl
  refine g_sw1 (dflt := 162) (lo := 0) (hi := 10) (offs := #[59, 67, 75, 83, 105, 113, 121, 133, 141, 149, 154]) (len := 59) (k := 10) (t := 155) (by decide +kernel) (by decide +kernel) ?_ ?_
  · refine g_seg0 (pc' := 162) (L' := [some (vR (kO 8) 0), some (vI v1)]) (st' := [vI (u.1 1 1)]) (u1 := u) [(oL 2 0, 1), (oP (.getfield 10), 3), (oP (.getfield 86), 3)] (by decide +kernel) rfl rfl ?_
    exact g_iret (by decide +kernel) rfl
  refine g_swd (dflt := 162) (lo := 0) (hi := 10) (offs := #[59, 67, 75, 83, 105, 113, 121, 133, 141, 149, 154]) (len := 59) (tgd := 163) (by decide +kernel) (by decide) (by decide +kernel) ?_
  refine g_seg0 (pc' := 164) (L' := [some (vR (kO 8) 0), some (vI v1)]) (st' := [vI (-1)]) (u1 := u) [(oC (-1), 1)] (by decide +kernel) rfl rfl ?_
  exact g_iret (by decide +kernel) rfl
theorem CX9_count (v1 : Int32) (u : ab_S) : ab_C 0 yX9_count cX9_count 2 (some .int) 5 [vR (kO 8) 0, vI v1] u wI (fX9_count v1 u) := ab_entry (by decide +kernel) rfl (by decide) (by decide) (fun _ => Nat.le_of_ble_eq_true rfl) rfl (tX9_count v1 u)
def fX10_thrown (u : ab_S) : Option (Int32 × ab_S) :=
  some ((u.1 0 0), u)
theorem tX10_thrown (u : ab_S) : ab_G 1 9 cX10_thrown (some .int) 0 0 [some (vR (kO 9) 0)] [] u wI (fX10_thrown u) := by
  rw [fX10_thrown]
  refine g_seg0 (pc' := 4) (L' := [some (vR (kO 9) 0)]) (st' := [vI (u.1 0 0)]) (u1 := u) [(oL 2 0, 1), (oP (.getfield 1), 3)] (by decide +kernel) rfl rfl ?_
  exact g_iret (by decide +kernel) rfl
theorem CX10_thrown (u : ab_S) : ab_C 1 yX10_thrown cX10_thrown 1 (some .int) 0 [vR (kO 9) 0] u wI (fX10_thrown u) := ab_entry (by decide +kernel) rfl (by decide) (by decide) (fun _ => Nat.le_of_ble_eq_true rfl) rfl (tX10_thrown u)
def fX10_lay_38 (k3 : Int64 → Int32 → ab_S → Option (Unit × ab_S)) (v1 : Int64) (v3 : Int32) (v4 : Int32) (u : ab_S) : Option (Unit × ab_S) :=
  bif decide ((u.1 0 2) < 1000) then (
    ab_gd [ab_ix (u.1 0 2) 1000] (
      k3 v1 (v3 + (-8)) (sI (sI u 1 (nc (u.1 0 2)) v4) 0 2 (((sI u 1 (nc (u.1 0 2)) v4).1 0 2) + 1))))
  else (
    k3 v1 (v3 + (-8)) u)
theorem tX10_lay_38 (k3 : Int64 → Int32 → ab_S → Option (Unit × ab_S)) (hk3 : ∀ (v1 : Int64) (v3 : Int32) (u : ab_S), ab_G 1 9 cX10_lay none 0 3 [some (vR (kO 9) 0), some (vL v1), none, some (vI v3), none] [] u wV (k3 v1 v3 u)) (v1 : Int64) (v3 : Int32) (v4 : Int32) (u : ab_S) : ab_G 1 9 cX10_lay none 0 38 [some (vR (kO 9) 0), some (vL v1), none, some (vI v3), some (vI v4)] [] u wV (fX10_lay_38 k3 v1 v3 v4 u) := by
  rw [fX10_lay_38]
  refine g_seg0 (pc' := 45) (L' := [some (vR (kO 9) 0), some (vL v1), none, some (vI v3), some (vI v4)]) (st' := [vI 1000, vI (u.1 0 2)]) (u1 := u) [(oL 2 0, 1), (oP (.getfield 11), 3), (oC 1000, 3)] (by decide +kernel) rfl rfl ?_
  refine g_ige (off := 24) (tgt := 69) (pc2 := 48) (by decide +kernel) (by decide) rfl ?_ ?_
  · refine g_seg0 (pc' := 72) (L' := [some (vR (kO 9) 0), some (vL v1), none, some (vI (v3 + (-8))), some (vI v4)]) (st' := []) (u1 := u) [(oN 3 (-8), 3)] (by decide +kernel) rfl rfl ?_
    refine g_goto (off := (-69)) (tgt := 3) (by decide +kernel) (by decide) ?_
    exact g_jump [true, true, false, true, false] rfl (hk3 v1 (v3 + (-8)) u)
  · refine g_seg (pc' := 72) (L' := [some (vR (kO 9) 0), some (vL v1), none, some (vI (v3 + (-8))), some (vI v4)]) (st' := []) (u1 := (sI (sI u 1 (nc (u.1 0 2)) v4) 0 2 (((sI u 1 (nc (u.1 0 2)) v4).1 0 2) + 1))) [(oL 2 0, 1), (oP (.getfield 14), 3), (oL 2 0, 1), (oP (.getfield 11), 3), (oL 0 4, 2), (oP .iastore, 1), (oL 2 0, 1), (oP .dup, 1), (oP (.getfield 11), 3), (oC 1, 1), (oP .iadd, 1), (oP (.putfield 11), 3), (oN 3 (-8), 3)] (by decide +kernel) rfl rfl ?_
    refine g_goto (off := (-69)) (tgt := 3) (by decide +kernel) (by decide) ?_
    exact g_jump [true, true, false, true, false] rfl (hk3 v1 (v3 + (-8)) (sI (sI u 1 (nc (u.1 0 2)) v4) 0 2 (((sI u 1 (nc (u.1 0 2)) v4).1 0 2) + 1)))
def fX10_lay_3 : Nat → Int64 → Int32 → ab_S → Option (Unit × ab_S)
  | 0, _, _, _ => none
  | n + 1, v1, v3, u =>
  bif decide (v3 < 0) then (
    some ((), u))
  else (
    bif decide (((Int64.toInt32 (v1 >>> (Int32.toInt64 v3 &&& 63))) &&& 255) = 10) then (
      fX10_lay_38 (fX10_lay_3 n) v1 v3 ((Int64.toInt32 (v1 >>> (Int32.toInt64 v3 &&& 63))) &&& 255) u)
    else (
      bif decide (((Int64.toInt32 (v1 >>> (Int32.toInt64 v3 &&& 63))) &&& 255) < 32) then (
        (fX10_lay_3 n) v1 (v3 + (-8)) u)
      else (
        bif decide (((Int64.toInt32 (v1 >>> (Int32.toInt64 v3 &&& 63))) &&& 255) ≤ 126) then (
          fX10_lay_38 (fX10_lay_3 n) v1 v3 ((Int64.toInt32 (v1 >>> (Int32.toInt64 v3 &&& 63))) &&& 255) u)
        else (
          (fX10_lay_3 n) v1 (v3 + (-8)) u))))
theorem tX10_lay_3 : ∀ (n : Nat) (v1 : Int64) (v3 : Int32) (u : ab_S), ab_G 1 9 cX10_lay none 0 3 [some (vR (kO 9) 0), some (vL v1), none, some (vI v3), none] [] u wV (fX10_lay_3 n v1 v3 u) := by
  intro n
  induction n with
  | zero => intros; exact g_none
  | succ n ih =>
    intro v1 v3 u
    rw [fX10_lay_3]
    refine g_seg0 (pc' := 4) (L' := [some (vR (kO 9) 0), some (vL v1), none, some (vI v3), none]) (st' := [vI v3]) (u1 := u) [(oL 0 3, 1)] (by decide +kernel) rfl rfl ?_
    refine g_zlt (off := 71) (tgt := 75) (pc2 := 7) (by decide +kernel) (by decide) rfl ?_ ?_
    · exact g_vret (by decide +kernel) rfl
    · refine g_seg0 (pc' := 21) (L' := [some (vR (kO 9) 0), some (vL v1), none, some (vI v3), some (vI ((Int64.toInt32 (v1 >>> (Int32.toInt64 v3 &&& 63))) &&& 255))]) (st' := [vI 10, vI ((Int64.toInt32 (v1 >>> (Int32.toInt64 v3 &&& 63))) &&& 255)]) (u1 := u) [(oL 1 1, 1), (oL 0 3, 1), (oP .lshr, 1), (oP .l2i, 1), (oC 255, 3), (oP .iand, 1), (oL 3 4, 2), (oL 0 4, 2), (oC 10, 2)] (by decide +kernel) rfl rfl ?_
      refine g_ieq (off := 17) (tgt := 38) (pc2 := 24) (by decide +kernel) (by decide) rfl ?_ ?_
      · exact tX10_lay_38 (fX10_lay_3 n) ih v1 v3 ((Int64.toInt32 (v1 >>> (Int32.toInt64 v3 &&& 63))) &&& 255) u
      · refine g_seg0 (pc' := 28) (L' := [some (vR (kO 9) 0), some (vL v1), none, some (vI v3), some (vI ((Int64.toInt32 (v1 >>> (Int32.toInt64 v3 &&& 63))) &&& 255))]) (st' := [vI 32, vI ((Int64.toInt32 (v1 >>> (Int32.toInt64 v3 &&& 63))) &&& 255)]) (u1 := u) [(oL 0 4, 2), (oC 32, 2)] (by decide +kernel) rfl rfl ?_
        refine g_ilt (off := 41) (tgt := 69) (pc2 := 31) (by decide +kernel) (by decide) rfl ?_ ?_
        · refine g_seg0 (pc' := 72) (L' := [some (vR (kO 9) 0), some (vL v1), none, some (vI (v3 + (-8))), some (vI ((Int64.toInt32 (v1 >>> (Int32.toInt64 v3 &&& 63))) &&& 255))]) (st' := []) (u1 := u) [(oN 3 (-8), 3)] (by decide +kernel) rfl rfl ?_
          refine g_goto (off := (-69)) (tgt := 3) (by decide +kernel) (by decide) ?_
          exact g_jump [true, true, false, true, false] rfl (ih v1 (v3 + (-8)) u)
        · refine g_seg0 (pc' := 35) (L' := [some (vR (kO 9) 0), some (vL v1), none, some (vI v3), some (vI ((Int64.toInt32 (v1 >>> (Int32.toInt64 v3 &&& 63))) &&& 255))]) (st' := [vI 126, vI ((Int64.toInt32 (v1 >>> (Int32.toInt64 v3 &&& 63))) &&& 255)]) (u1 := u) [(oL 0 4, 2), (oC 126, 2)] (by decide +kernel) rfl rfl ?_
          refine g_igt (off := 34) (tgt := 69) (pc2 := 38) (by decide +kernel) (by decide) rfl ?_ ?_
          · refine g_seg0 (pc' := 72) (L' := [some (vR (kO 9) 0), some (vL v1), none, some (vI (v3 + (-8))), some (vI ((Int64.toInt32 (v1 >>> (Int32.toInt64 v3 &&& 63))) &&& 255))]) (st' := []) (u1 := u) [(oN 3 (-8), 3)] (by decide +kernel) rfl rfl ?_
            refine g_goto (off := (-69)) (tgt := 3) (by decide +kernel) (by decide) ?_
            exact g_jump [true, true, false, true, false] rfl (ih v1 (v3 + (-8)) u)
          · exact tX10_lay_38 (fX10_lay_3 n) ih v1 v3 ((Int64.toInt32 (v1 >>> (Int32.toInt64 v3 &&& 63))) &&& 255) u
def fX10_lay (v1 : Int64) (u : ab_S) : Option (Unit × ab_S) :=
  fX10_lay_3 fu v1 56 u
theorem tX10_lay (v1 : Int64) (u : ab_S) : ab_G 1 9 cX10_lay none 0 0 [some (vR (kO 9) 0), some (vL v1), none, none, none] [] u wV (fX10_lay v1 u) := by
  rw [fX10_lay]
  refine g_seg0 (pc' := 3) (L' := [some (vR (kO 9) 0), some (vL v1), none, some (vI 56), none]) (st' := []) (u1 := u) [(oC 56, 2), (oL 3 3, 1)] (by decide +kernel) rfl rfl ?_
  exact tX10_lay_3 fu v1 56 u
theorem CX10_lay (v1 : Int64) (u : ab_S) : ab_C 1 yX10_lay cX10_lay 5 none 0 [vR (kO 9) 0, vL v1] u wV (fX10_lay v1 u) := ab_entry (by decide +kernel) rfl (by decide) (by decide) (fun _ => Nat.le_of_ble_eq_true rfl) rfl (tX10_lay v1 u)
def fX10_feed (v1 : Int64) (v3 : Int64) (v5 : Int64) (u : ab_S) : Option (Int32 × ab_S) :=
  (fX10_lay v1 (sI u 0 0 0)).bind fun q1 =>
    (fX10_lay v3 q1.2).bind fun q2 =>
      (fX10_lay v5 q2.2).bind fun q3 =>
        some ((q3.2.1 0 2), q3.2)
theorem tX10_feed (v1 : Int64) (v3 : Int64) (v5 : Int64) (u : ab_S) : ab_G 1 9 cX10_feed (some .int) 1 0 [some (vR (kO 9) 0), some (vL v1), none, some (vL v3), none, some (vL v5), none] [] u wI (fX10_feed v1 v3 v5 u) := by
  rw [fX10_feed]
  refine g_seg0 (pc' := 7) (L' := [some (vR (kO 9) 0), some (vL v1), none, some (vL v3), none, some (vL v5), none]) (st' := [vL v1, vR (kO 9) 0]) (u1 := (sI u 0 0 0)) [(oL 2 0, 1), (oC 0, 1), (oP (.putfield 1), 3), (oL 2 0, 1), (oL 1 1, 1)] (by decide +kernel) rfl rfl ?_
  refine g_callV (k := 7) (pc2 := 10) (st := []) (CX10_lay v1 (sI u 0 0 0)) miX10_lay mvX10_lay rfl (by decide) lk9_7 wV_ok (by decide +kernel) rfl (Nat.le_of_ble_eq_true rfl) (by decide) rfl (fun q1 hq1 => ?_)
  refine g_seg0 (pc' := 12) (L' := [some (vR (kO 9) 0), some (vL v1), none, some (vL v3), none, some (vL v5), none]) (st' := [vL v3, vR (kO 9) 0]) (u1 := q1.2) [(oL 2 0, 1), (oL 1 3, 1)] (by decide +kernel) rfl rfl ?_
  refine g_callV (k := 7) (pc2 := 15) (st := []) (CX10_lay v3 q1.2) miX10_lay mvX10_lay rfl (by decide) lk9_7 wV_ok (by decide +kernel) rfl (Nat.le_of_ble_eq_true rfl) (by decide) rfl (fun q2 hq2 => ?_)
  refine g_seg0 (pc' := 18) (L' := [some (vR (kO 9) 0), some (vL v1), none, some (vL v3), none, some (vL v5), none]) (st' := [vL v5, vR (kO 9) 0]) (u1 := q2.2) [(oL 2 0, 1), (oL 1 5, 2)] (by decide +kernel) rfl rfl ?_
  refine g_callV (k := 7) (pc2 := 21) (st := []) (CX10_lay v5 q2.2) miX10_lay mvX10_lay rfl (by decide) lk9_7 wV_ok (by decide +kernel) rfl (Nat.le_of_ble_eq_true rfl) (by decide) rfl (fun q3 hq3 => ?_)
  refine g_seg0 (pc' := 25) (L' := [some (vR (kO 9) 0), some (vL v1), none, some (vL v3), none, some (vL v5), none]) (st' := [vI (q3.2.1 0 2)]) (u1 := q3.2) [(oL 2 0, 1), (oP (.getfield 11), 3)] (by decide +kernel) rfl rfl ?_
  exact g_iret (by decide +kernel) rfl
theorem CX10_feed (v1 : Int64) (v3 : Int64) (v5 : Int64) (u : ab_S) : ab_C 1 yX10_feed cX10_feed 7 (some .int) 1 [vR (kO 9) 0, vL v1, vL v3, vL v5] u wI (fX10_feed v1 v3 v5 u) := ab_entry (by decide +kernel) rfl (by decide) (by decide) (fun _ => Nat.le_of_ble_eq_true rfl) rfl (tX10_feed v1 v3 v5 u)
def fX10_isLetter (v0 : Int32) (u : ab_S) : Option (Int32 × ab_S) :=
  bif decide (v0 < 97) then (
    ab_gd [ab_b1 0] (some (0, u)))
  else (
    bif decide (v0 ≤ 122) then (
      ab_gd [ab_b1 1] (some (1, u)))
    else (
      ab_gd [ab_b1 0] (some (0, u))))
theorem tX10_isLetter (v0 : Int32) (u : ab_S) : ab_G 1 9 cX10_isLetter (some .boolean) 0 0 [some (vI v0)] [] u wI (fX10_isLetter v0 u) := by
  rw [fX10_isLetter]
  refine g_seg0 (pc' := 3) (L' := [some (vI v0)]) (st' := [vI 97, vI v0]) (u1 := u) [(oL 0 0, 1), (oC 97, 2)] (by decide +kernel) rfl rfl ?_
  refine g_ilt (off := 13) (tgt := 16) (pc2 := 6) (by decide +kernel) (by decide) rfl ?_ ?_
  · refine g_seg0 (pc' := 17) (L' := [some (vI v0)]) (st' := [vI 0]) (u1 := u) [(oC 0, 1)] (by decide +kernel) rfl rfl ?_
    exact g_zret (by decide +kernel) rfl
  · refine g_seg0 (pc' := 9) (L' := [some (vI v0)]) (st' := [vI 122, vI v0]) (u1 := u) [(oL 0 0, 1), (oC 122, 2)] (by decide +kernel) rfl rfl ?_
    refine g_igt (off := 7) (tgt := 16) (pc2 := 12) (by decide +kernel) (by decide) rfl ?_ ?_
    · refine g_seg0 (pc' := 17) (L' := [some (vI v0)]) (st' := [vI 0]) (u1 := u) [(oC 0, 1)] (by decide +kernel) rfl rfl ?_
      exact g_zret (by decide +kernel) rfl
    · refine g_seg0 (pc' := 13) (L' := [some (vI v0)]) (st' := [vI 1]) (u1 := u) [(oC 1, 1)] (by decide +kernel) rfl rfl ?_
      refine g_goto (off := 4) (tgt := 17) (by decide +kernel) (by decide) ?_
      exact g_zret (by decide +kernel) rfl
theorem CX10_isLetter (v0 : Int32) (u : ab_S) : ab_C 1 yX10_isLetter cX10_isLetter 1 (some .boolean) 0 [vI v0] u wI (fX10_isLetter v0 u) := ab_entry (by decide +kernel) rfl (by decide) (by decide) (fun _ => Nat.le_of_ble_eq_true rfl) rfl (tX10_isLetter v0 u)
def fX10_isDigit (v0 : Int32) (u : ab_S) : Option (Int32 × ab_S) :=
  bif decide (v0 < 48) then (
    ab_gd [ab_b1 0] (some (0, u)))
  else (
    bif decide (v0 ≤ 57) then (
      ab_gd [ab_b1 1] (some (1, u)))
    else (
      ab_gd [ab_b1 0] (some (0, u))))
theorem tX10_isDigit (v0 : Int32) (u : ab_S) : ab_G 1 9 cX10_isDigit (some .boolean) 0 0 [some (vI v0)] [] u wI (fX10_isDigit v0 u) := by
  rw [fX10_isDigit]
  refine g_seg0 (pc' := 3) (L' := [some (vI v0)]) (st' := [vI 48, vI v0]) (u1 := u) [(oL 0 0, 1), (oC 48, 2)] (by decide +kernel) rfl rfl ?_
  refine g_ilt (off := 13) (tgt := 16) (pc2 := 6) (by decide +kernel) (by decide) rfl ?_ ?_
  · refine g_seg0 (pc' := 17) (L' := [some (vI v0)]) (st' := [vI 0]) (u1 := u) [(oC 0, 1)] (by decide +kernel) rfl rfl ?_
    exact g_zret (by decide +kernel) rfl
  · refine g_seg0 (pc' := 9) (L' := [some (vI v0)]) (st' := [vI 57, vI v0]) (u1 := u) [(oL 0 0, 1), (oC 57, 2)] (by decide +kernel) rfl rfl ?_
    refine g_igt (off := 7) (tgt := 16) (pc2 := 12) (by decide +kernel) (by decide) rfl ?_ ?_
    · refine g_seg0 (pc' := 17) (L' := [some (vI v0)]) (st' := [vI 0]) (u1 := u) [(oC 0, 1)] (by decide +kernel) rfl rfl ?_
      exact g_zret (by decide +kernel) rfl
    · refine g_seg0 (pc' := 13) (L' := [some (vI v0)]) (st' := [vI 1]) (u1 := u) [(oC 1, 1)] (by decide +kernel) rfl rfl ?_
      refine g_goto (off := 4) (tgt := 17) (by decide +kernel) (by decide) ?_
      exact g_zret (by decide +kernel) rfl
theorem CX10_isDigit (v0 : Int32) (u : ab_S) : ab_C 1 yX10_isDigit cX10_isDigit 1 (some .boolean) 0 [vI v0] u wI (fX10_isDigit v0 u) := ab_entry (by decide +kernel) rfl (by decide) (by decide) (fun _ => Nat.le_of_ble_eq_true rfl) rfl (tX10_isDigit v0 u)
def fX10_rank (v0 : Int32) (u : ab_S) : Option (Int32 × ab_S) :=
  (fX10_isLetter v0 u).bind fun q1 =>
    bif decide (q1.1 = 0) then (
      some ((v0 - 21), q1.2))
    else (
      some ((v0 - 96), q1.2))
theorem tX10_rank (v0 : Int32) (u : ab_S) : ab_G 1 9 cX10_rank (some .int) 1 0 [some (vI v0)] [] u wI (fX10_rank v0 u) := by
  rw [fX10_rank]
  refine g_seg0 (pc' := 1) (L' := [some (vI v0)]) (st' := [vI v0]) (u1 := u) [(oL 0 0, 1)] (by decide +kernel) rfl rfl ?_
  refine g_callS (k := 142) (pc2 := 4) (st := []) (CX10_isLetter v0 u) miX10_isLetter msX10_isLetter lk9_142 wI_ok (by decide +kernel) rfl (Nat.le_of_ble_eq_true rfl) (by decide) rfl (fun q1 hq1 => ?_)
  refine g_zeq (off := 10) (tgt := 14) (pc2 := 7) (by decide +kernel) (by decide) rfl ?_ ?_
  · refine g_seg0 (pc' := 18) (L' := [some (vI v0)]) (st' := [vI (v0 - 21)]) (u1 := q1.2) [(oL 0 0, 1), (oC 21, 2), (oP .isub, 1)] (by decide +kernel) rfl rfl ?_
    exact g_iret (by decide +kernel) rfl
  · refine g_seg0 (pc' := 11) (L' := [some (vI v0)]) (st' := [vI (v0 - 96)]) (u1 := q1.2) [(oL 0 0, 1), (oC 96, 2), (oP .isub, 1)] (by decide +kernel) rfl rfl ?_
    refine g_goto (off := 7) (tgt := 18) (by decide +kernel) (by decide) ?_
    exact g_iret (by decide +kernel) rfl
theorem CX10_rank (v0 : Int32) (u : ab_S) : ab_C 1 yX10_rank cX10_rank 1 (some .int) 1 [vI v0] u wI (fX10_rank v0 u) := ab_entry (by decide +kernel) rfl (by decide) (by decide) (fun _ => Nat.le_of_ble_eq_true rfl) rfl (tX10_rank v0 u)
def fX10_isSignOf (v0 : Int32) (u : ab_S) : Option (Int32 × ab_S) :=
  bif decide (v0 = 40) then (
    ab_gd [ab_b1 1] (some (1, u)))
  else (
    bif decide (v0 = 41) then (
      ab_gd [ab_b1 1] (some (1, u)))
    else (
      bif decide (v0 = 59) then (
        ab_gd [ab_b1 1] (some (1, u)))
      else (
        bif decide (v0 = 61) then (
          ab_gd [ab_b1 1] (some (1, u)))
        else (
          bif decide (v0 = 60) then (
            ab_gd [ab_b1 1] (some (1, u)))
          else (
            bif decide (v0 = 43) then (
              ab_gd [ab_b1 1] (some (1, u)))
            else (
              bif decide (v0 = 45) then (
                ab_gd [ab_b1 1] (some (1, u)))
              else (
                bif decide (v0 = 42) then (
                  ab_gd [ab_b1 1] (some (1, u)))
                else (
                  ab_gd [ab_b1 0] (some (0, u))))))))))
theorem tX10_isSignOf (v0 : Int32) (u : ab_S) : ab_G 1 9 cX10_isSignOf (some .boolean) 0 0 [some (vI v0)] [] u wI (fX10_isSignOf v0 u) := by
  rw [fX10_isSignOf]
  refine g_seg0 (pc' := 3) (L' := [some (vI v0)]) (st' := [vI 40, vI v0]) (u1 := u) [(oL 0 0, 1), (oC 40, 2)] (by decide +kernel) rfl rfl ?_
  refine g_ieq (off := 45) (tgt := 48) (pc2 := 6) (by decide +kernel) (by decide) rfl ?_ ?_
  · refine g_seg0 (pc' := 49) (L' := [some (vI v0)]) (st' := [vI 1]) (u1 := u) [(oC 1, 1)] (by decide +kernel) rfl rfl ?_
    refine g_goto (off := 4) (tgt := 53) (by decide +kernel) (by decide) ?_
    exact g_zret (by decide +kernel) rfl
  · refine g_seg0 (pc' := 9) (L' := [some (vI v0)]) (st' := [vI 41, vI v0]) (u1 := u) [(oL 0 0, 1), (oC 41, 2)] (by decide +kernel) rfl rfl ?_
    refine g_ieq (off := 39) (tgt := 48) (pc2 := 12) (by decide +kernel) (by decide) rfl ?_ ?_
    · refine g_seg0 (pc' := 49) (L' := [some (vI v0)]) (st' := [vI 1]) (u1 := u) [(oC 1, 1)] (by decide +kernel) rfl rfl ?_
      refine g_goto (off := 4) (tgt := 53) (by decide +kernel) (by decide) ?_
      exact g_zret (by decide +kernel) rfl
    · refine g_seg0 (pc' := 15) (L' := [some (vI v0)]) (st' := [vI 59, vI v0]) (u1 := u) [(oL 0 0, 1), (oC 59, 2)] (by decide +kernel) rfl rfl ?_
      refine g_ieq (off := 33) (tgt := 48) (pc2 := 18) (by decide +kernel) (by decide) rfl ?_ ?_
      · refine g_seg0 (pc' := 49) (L' := [some (vI v0)]) (st' := [vI 1]) (u1 := u) [(oC 1, 1)] (by decide +kernel) rfl rfl ?_
        refine g_goto (off := 4) (tgt := 53) (by decide +kernel) (by decide) ?_
        exact g_zret (by decide +kernel) rfl
      · refine g_seg0 (pc' := 21) (L' := [some (vI v0)]) (st' := [vI 61, vI v0]) (u1 := u) [(oL 0 0, 1), (oC 61, 2)] (by decide +kernel) rfl rfl ?_
        refine g_ieq (off := 27) (tgt := 48) (pc2 := 24) (by decide +kernel) (by decide) rfl ?_ ?_
        · refine g_seg0 (pc' := 49) (L' := [some (vI v0)]) (st' := [vI 1]) (u1 := u) [(oC 1, 1)] (by decide +kernel) rfl rfl ?_
          refine g_goto (off := 4) (tgt := 53) (by decide +kernel) (by decide) ?_
          exact g_zret (by decide +kernel) rfl
        · refine g_seg0 (pc' := 27) (L' := [some (vI v0)]) (st' := [vI 60, vI v0]) (u1 := u) [(oL 0 0, 1), (oC 60, 2)] (by decide +kernel) rfl rfl ?_
          refine g_ieq (off := 21) (tgt := 48) (pc2 := 30) (by decide +kernel) (by decide) rfl ?_ ?_
          · refine g_seg0 (pc' := 49) (L' := [some (vI v0)]) (st' := [vI 1]) (u1 := u) [(oC 1, 1)] (by decide +kernel) rfl rfl ?_
            refine g_goto (off := 4) (tgt := 53) (by decide +kernel) (by decide) ?_
            exact g_zret (by decide +kernel) rfl
          · refine g_seg0 (pc' := 33) (L' := [some (vI v0)]) (st' := [vI 43, vI v0]) (u1 := u) [(oL 0 0, 1), (oC 43, 2)] (by decide +kernel) rfl rfl ?_
            refine g_ieq (off := 15) (tgt := 48) (pc2 := 36) (by decide +kernel) (by decide) rfl ?_ ?_
            · refine g_seg0 (pc' := 49) (L' := [some (vI v0)]) (st' := [vI 1]) (u1 := u) [(oC 1, 1)] (by decide +kernel) rfl rfl ?_
              refine g_goto (off := 4) (tgt := 53) (by decide +kernel) (by decide) ?_
              exact g_zret (by decide +kernel) rfl
            · refine g_seg0 (pc' := 39) (L' := [some (vI v0)]) (st' := [vI 45, vI v0]) (u1 := u) [(oL 0 0, 1), (oC 45, 2)] (by decide +kernel) rfl rfl ?_
              refine g_ieq (off := 9) (tgt := 48) (pc2 := 42) (by decide +kernel) (by decide) rfl ?_ ?_
              · refine g_seg0 (pc' := 49) (L' := [some (vI v0)]) (st' := [vI 1]) (u1 := u) [(oC 1, 1)] (by decide +kernel) rfl rfl ?_
                refine g_goto (off := 4) (tgt := 53) (by decide +kernel) (by decide) ?_
                exact g_zret (by decide +kernel) rfl
              · refine g_seg0 (pc' := 45) (L' := [some (vI v0)]) (st' := [vI 42, vI v0]) (u1 := u) [(oL 0 0, 1), (oC 42, 2)] (by decide +kernel) rfl rfl ?_
                refine g_ine (off := 7) (tgt := 52) (pc2 := 48) (by decide +kernel) (by decide) rfl ?_ ?_
                · refine g_seg0 (pc' := 53) (L' := [some (vI v0)]) (st' := [vI 0]) (u1 := u) [(oC 0, 1)] (by decide +kernel) rfl rfl ?_
                  exact g_zret (by decide +kernel) rfl
                · refine g_seg0 (pc' := 49) (L' := [some (vI v0)]) (st' := [vI 1]) (u1 := u) [(oC 1, 1)] (by decide +kernel) rfl rfl ?_
                  refine g_goto (off := 4) (tgt := 53) (by decide +kernel) (by decide) ?_
                  exact g_zret (by decide +kernel) rfl
theorem CX10_isSignOf (v0 : Int32) (u : ab_S) : ab_C 1 yX10_isSignOf cX10_isSignOf 1 (some .boolean) 0 [vI v0] u wI (fX10_isSignOf v0 u) := ab_entry (by decide +kernel) rfl (by decide) (by decide) (fun _ => Nat.le_of_ble_eq_true rfl) rfl (tX10_isSignOf v0 u)
def fX10_cutAll_265 (k17 : Int32 → Int32 → ab_S → Option (Unit × ab_S)) (v1 : Int32) (v2 : Int32) (v5 : Int64) (u : ab_S) : Option (Unit × ab_S) :=
  ab_gd [ab_ix v1 1002] (
    k17 (v1 + 1) v2 (sJ u 4 (nc v1) v5))
theorem tX10_cutAll_265 (k17 : Int32 → Int32 → ab_S → Option (Unit × ab_S)) (hk17 : ∀ (v1 : Int32) (v2 : Int32) (u : ab_S), ab_G 1 9 cX10_cutAll none 2 17 [some (vR (kO 9) 0), some (vI v1), some (vI v2), none, none, none, none] [] u wV (k17 v1 v2 u)) (v1 : Int32) (v2 : Int32) (v5 : Int64) (u : ab_S) : ab_G 1 9 cX10_cutAll none 2 265 [some (vR (kO 9) 0), some (vI v1), some (vI v2), none, none, some (vL v5), none] [] u wV (fX10_cutAll_265 k17 v1 v2 v5 u) := by
  rw [fX10_cutAll_265]
  refine g_seg (pc' := 276) (L' := [some (vR (kO 9) 0), some (vI (v1 + 1)), some (vI v2), none, none, some (vL v5), none]) (st' := []) (u1 := (sJ u 4 (nc v1) v5)) [(oL 2 0, 1), (oP (.getfield 30), 3), (oL 0 1, 1), (oL 1 5, 2), (oP .lastore, 1), (oN 1 1, 3)] (by decide +kernel) rfl rfl ?_
  refine g_goto (off := (-259)) (tgt := 17) (by decide +kernel) (by decide) ?_
  exact g_jump [true, true, true, false, false, false, false] rfl (hk17 (v1 + 1) v2 (sJ u 4 (nc v1) v5))
def fX10_cutAll_218 (k17 : Int32 → Int32 → ab_S → Option (Unit × ab_S)) (v1 : Int32) (v2 : Int32) (v4 : Int32) (v5 : Int64) (u : ab_S) : Option (Unit × ab_S) :=
  bif decide ((v2 - v4) ≤ 4) then (
    ab_gd [ab_ix v1 1002] (
      fX10_cutAll_265 k17 v1 v2 v5 (sI u 2 (nc v1) 2)))
  else (
    ab_gd [ab_ix v1 1002] (
      fX10_cutAll_265 k17 v1 v2 v5 (sI u 2 (nc v1) 4)))
theorem tX10_cutAll_218 (k17 : Int32 → Int32 → ab_S → Option (Unit × ab_S)) (hk17 : ∀ (v1 : Int32) (v2 : Int32) (u : ab_S), ab_G 1 9 cX10_cutAll none 2 17 [some (vR (kO 9) 0), some (vI v1), some (vI v2), none, none, none, none] [] u wV (k17 v1 v2 u)) (v1 : Int32) (v2 : Int32) (v4 : Int32) (v5 : Int64) (u : ab_S) : ab_G 1 9 cX10_cutAll none 2 218 [some (vR (kO 9) 0), some (vI v1), some (vI v2), none, some (vI v4), some (vL v5), none] [] u wV (fX10_cutAll_218 k17 v1 v2 v4 v5 u) := by
  rw [fX10_cutAll_218]
  refine g_seg0 (pc' := 228) (L' := [some (vR (kO 9) 0), some (vI v1), some (vI v2), none, some (vI v4), some (vL v5), none]) (st' := [vI 4, vI (v2 - v4), vI v1, vR (kA 0 1002) 2]) (u1 := u) [(oL 2 0, 1), (oP (.getfield 24), 3), (oL 0 1, 1), (oL 0 2, 1), (oL 0 4, 2), (oP .isub, 1), (oC 4, 1)] (by decide +kernel) rfl rfl ?_
  refine g_ile (off := 7) (tgt := 235) (pc2 := 231) (by decide +kernel) (by decide) rfl ?_ ?_
  · refine g_seg (pc' := 237) (L' := [some (vR (kO 9) 0), some (vI v1), some (vI v2), none, some (vI v4), some (vL v5), none]) (st' := []) (u1 := (sI u 2 (nc v1) 2)) [(oC 2, 1), (oP .iastore, 1)] (by decide +kernel) rfl rfl ?_
    refine g_goto (off := 28) (tgt := 265) (by decide +kernel) (by decide) ?_
    exact g_jump [true, true, true, false, false, true, false] rfl (tX10_cutAll_265 k17 hk17 v1 v2 v5 (sI u 2 (nc v1) 2))
  · refine g_seg0 (pc' := 232) (L' := [some (vR (kO 9) 0), some (vI v1), some (vI v2), none, some (vI v4), some (vL v5), none]) (st' := [vI 4, vI v1, vR (kA 0 1002) 2]) (u1 := u) [(oC 4, 1)] (by decide +kernel) rfl rfl ?_
    refine g_goto (off := 4) (tgt := 236) (by decide +kernel) (by decide) ?_
    refine g_seg (pc' := 237) (L' := [some (vR (kO 9) 0), some (vI v1), some (vI v2), none, some (vI v4), some (vL v5), none]) (st' := []) (u1 := (sI u 2 (nc v1) 4)) [(oP .iastore, 1)] (by decide +kernel) rfl rfl ?_
    refine g_goto (off := 28) (tgt := 265) (by decide +kernel) (by decide) ?_
    exact g_jump [true, true, true, false, false, true, false] rfl (tX10_cutAll_265 k17 hk17 v1 v2 v5 (sI u 2 (nc v1) 4))
def fX10_cutAll_159 (k17 : Int32 → Int32 → ab_S → Option (Unit × ab_S)) : Nat → Int32 → Int32 → Int32 → Int64 → ab_S → Option (Unit × ab_S)
  | 0, _, _, _, _, _ => none
  | n + 1, v1, v2, v4, v5, u =>
  bif decide (v2 < (u.1 0 3)) then (
    ab_gd [ab_ix v2 1000] (
      (fX10_isDigit (u.1 1 (nc v2)) u).bind fun q1 =>
        bif decide (q1.1 = 0) then (
          fX10_cutAll_218 k17 v1 v2 v4 v5 q1.2)
        else (
          bif decide ((v2 - v4) < 4) then (
            ab_gd [ab_ix v2 1000] (
              (fX10_cutAll_159 k17 n) v1 (v2 + 1) v4 (((10 * v5) + (Int32.toInt64 (q1.2.1 1 (nc v2)))) - 48) q1.2))
          else (
            (fX10_cutAll_159 k17 n) v1 (v2 + 1) v4 v5 q1.2))))
  else (
    fX10_cutAll_218 k17 v1 v2 v4 v5 u)
theorem tX10_cutAll_159 (k17 : Int32 → Int32 → ab_S → Option (Unit × ab_S)) (hk17 : ∀ (v1 : Int32) (v2 : Int32) (u : ab_S), ab_G 1 9 cX10_cutAll none 2 17 [some (vR (kO 9) 0), some (vI v1), some (vI v2), none, none, none, none] [] u wV (k17 v1 v2 u)) : ∀ (n : Nat) (v1 : Int32) (v2 : Int32) (v4 : Int32) (v5 : Int64) (u : ab_S), ab_G 1 9 cX10_cutAll none 2 159 [some (vR (kO 9) 0), some (vI v1), some (vI v2), none, some (vI v4), some (vL v5), none] [] u wV (fX10_cutAll_159 k17 n v1 v2 v4 v5 u) := by
  intro n
  induction n with
  | zero => intros; exact g_none
  | succ n ih =>
    intro v1 v2 v4 v5 u
    rw [fX10_cutAll_159]
    refine g_seg0 (pc' := 164) (L' := [some (vR (kO 9) 0), some (vI v1), some (vI v2), none, some (vI v4), some (vL v5), none]) (st' := [vI (u.1 0 3), vI v2]) (u1 := u) [(oL 0 2, 1), (oL 2 0, 1), (oP (.getfield 146), 3)] (by decide +kernel) rfl rfl ?_
    refine g_ige (off := 54) (tgt := 218) (pc2 := 167) (by decide +kernel) (by decide) rfl ?_ ?_
    · exact tX10_cutAll_218 k17 hk17 v1 v2 v4 v5 u
    · refine g_seg (pc' := 173) (L' := [some (vR (kO 9) 0), some (vI v1), some (vI v2), none, some (vI v4), some (vL v5), none]) (st' := [vI (u.1 1 (nc v2))]) (u1 := u) [(oL 2 0, 1), (oP (.getfield 14), 3), (oL 0 2, 1), (oP .iaload, 1)] (by decide +kernel) rfl rfl ?_
      refine g_callS (k := 155) (pc2 := 176) (st := []) (CX10_isDigit (u.1 1 (nc v2)) u) miX10_isDigit msX10_isDigit lk9_155 wI_ok (by decide +kernel) rfl (Nat.le_of_ble_eq_true rfl) (by decide) rfl (fun q1 hq1 => ?_)
      refine g_zeq (off := 42) (tgt := 218) (pc2 := 179) (by decide +kernel) (by decide) rfl ?_ ?_
      · exact tX10_cutAll_218 k17 hk17 v1 v2 v4 v5 q1.2
      · refine g_seg0 (pc' := 184) (L' := [some (vR (kO 9) 0), some (vI v1), some (vI v2), none, some (vI v4), some (vL v5), none]) (st' := [vI 4, vI (v2 - v4)]) (u1 := q1.2) [(oL 0 2, 1), (oL 0 4, 2), (oP .isub, 1), (oC 4, 1)] (by decide +kernel) rfl rfl ?_
        refine g_ige (off := 24) (tgt := 208) (pc2 := 187) (by decide +kernel) (by decide) rfl ?_ ?_
        · refine g_seg0 (pc' := 215) (L' := [some (vR (kO 9) 0), some (vI v1), some (vI (v2 + 1)), none, some (vI v4), some (vL v5), none]) (st' := []) (u1 := q1.2) [(oL 1 5, 2), (oL 4 5, 2), (oN 2 1, 3)] (by decide +kernel) rfl rfl ?_
          refine g_goto (off := (-56)) (tgt := 159) (by decide +kernel) (by decide) ?_
          exact ih v1 (v2 + 1) v4 v5 q1.2
        · refine g_seg (pc' := 205) (L' := [some (vR (kO 9) 0), some (vI v1), some (vI v2), none, some (vI v4), some (vL v5), none]) (st' := [vL (((10 * v5) + (Int32.toInt64 (q1.2.1 1 (nc v2)))) - 48)]) (u1 := q1.2) [(oD 10, 3), (oL 1 5, 2), (oP .lmul, 1), (oL 2 0, 1), (oP (.getfield 14), 3), (oL 0 2, 1), (oP .iaload, 1), (oP .i2l, 1), (oP .ladd, 1), (oD 48, 3), (oP .lsub, 1)] (by decide +kernel) rfl rfl ?_
          refine g_goto (off := 5) (tgt := 210) (by decide +kernel) (by decide) ?_
          refine g_seg0 (pc' := 215) (L' := [some (vR (kO 9) 0), some (vI v1), some (vI (v2 + 1)), none, some (vI v4), some (vL (((10 * v5) + (Int32.toInt64 (q1.2.1 1 (nc v2)))) - 48)), none]) (st' := []) (u1 := q1.2) [(oL 4 5, 2), (oN 2 1, 3)] (by decide +kernel) rfl rfl ?_
          refine g_goto (off := (-56)) (tgt := 159) (by decide +kernel) (by decide) ?_
          exact ih v1 (v2 + 1) v4 (((10 * v5) + (Int32.toInt64 (q1.2.1 1 (nc v2)))) - 48) q1.2
def fX10_cutAll_129 (k17 : Int32 → Int32 → ab_S → Option (Unit × ab_S)) (v1 : Int32) (v2 : Int32) (v4 : Int32) (v5 : Int64) (u : ab_S) : Option (Unit × ab_S) :=
  bif decide ((v2 - v4) ≤ 8) then (
    ab_gd [ab_ix v1 1002] (
      fX10_cutAll_265 k17 v1 v2 v5 (sI u 2 (nc v1) 1)))
  else (
    ab_gd [ab_ix v1 1002] (
      fX10_cutAll_265 k17 v1 v2 v5 (sI u 2 (nc v1) 4)))
theorem tX10_cutAll_129 (k17 : Int32 → Int32 → ab_S → Option (Unit × ab_S)) (hk17 : ∀ (v1 : Int32) (v2 : Int32) (u : ab_S), ab_G 1 9 cX10_cutAll none 2 17 [some (vR (kO 9) 0), some (vI v1), some (vI v2), none, none, none, none] [] u wV (k17 v1 v2 u)) (v1 : Int32) (v2 : Int32) (v4 : Int32) (v5 : Int64) (u : ab_S) : ab_G 1 9 cX10_cutAll none 2 129 [some (vR (kO 9) 0), some (vI v1), some (vI v2), none, some (vI v4), some (vL v5), none] [] u wV (fX10_cutAll_129 k17 v1 v2 v4 v5 u) := by
  rw [fX10_cutAll_129]
  refine g_seg0 (pc' := 140) (L' := [some (vR (kO 9) 0), some (vI v1), some (vI v2), none, some (vI v4), some (vL v5), none]) (st' := [vI 8, vI (v2 - v4), vI v1, vR (kA 0 1002) 2]) (u1 := u) [(oL 2 0, 1), (oP (.getfield 24), 3), (oL 0 1, 1), (oL 0 2, 1), (oL 0 4, 2), (oP .isub, 1), (oC 8, 2)] (by decide +kernel) rfl rfl ?_
  refine g_ile (off := 7) (tgt := 147) (pc2 := 143) (by decide +kernel) (by decide) rfl ?_ ?_
  · refine g_seg (pc' := 149) (L' := [some (vR (kO 9) 0), some (vI v1), some (vI v2), none, some (vI v4), some (vL v5), none]) (st' := []) (u1 := (sI u 2 (nc v1) 1)) [(oC 1, 1), (oP .iastore, 1)] (by decide +kernel) rfl rfl ?_
    refine g_goto (off := 116) (tgt := 265) (by decide +kernel) (by decide) ?_
    exact g_jump [true, true, true, false, false, true, false] rfl (tX10_cutAll_265 k17 hk17 v1 v2 v5 (sI u 2 (nc v1) 1))
  · refine g_seg0 (pc' := 144) (L' := [some (vR (kO 9) 0), some (vI v1), some (vI v2), none, some (vI v4), some (vL v5), none]) (st' := [vI 4, vI v1, vR (kA 0 1002) 2]) (u1 := u) [(oC 4, 1)] (by decide +kernel) rfl rfl ?_
    refine g_goto (off := 4) (tgt := 148) (by decide +kernel) (by decide) ?_
    refine g_seg (pc' := 149) (L' := [some (vR (kO 9) 0), some (vI v1), some (vI v2), none, some (vI v4), some (vL v5), none]) (st' := []) (u1 := (sI u 2 (nc v1) 4)) [(oP .iastore, 1)] (by decide +kernel) rfl rfl ?_
    refine g_goto (off := 116) (tgt := 265) (by decide +kernel) (by decide) ?_
    exact g_jump [true, true, true, false, false, true, false] rfl (tX10_cutAll_265 k17 hk17 v1 v2 v5 (sI u 2 (nc v1) 4))
def fX10_cutAll_70 (k17 : Int32 → Int32 → ab_S → Option (Unit × ab_S)) : Nat → Int32 → Int32 → Int32 → Int64 → ab_S → Option (Unit × ab_S)
  | 0, _, _, _, _, _ => none
  | n + 1, v1, v2, v4, v5, u =>
  bif decide (v2 < (u.1 0 3)) then (
    ab_gd [ab_ix v2 1000] (
      (fX10_isLetter (u.1 1 (nc v2)) u).bind fun q2 =>
        bif decide (q2.1 = 0) then (
          fX10_cutAll_129 k17 v1 v2 v4 v5 q2.2)
        else (
          bif decide ((v2 - v4) < 8) then (
            ab_gd [ab_ix v2 1000] (
              (fX10_rank (q2.2.1 1 (nc v2)) q2.2).bind fun q3 =>
                (fX10_cutAll_70 k17 n) v1 (v2 + 1) v4 ((37 * v5) + (Int32.toInt64 q3.1)) q3.2))
          else (
            (fX10_cutAll_70 k17 n) v1 (v2 + 1) v4 v5 q2.2))))
  else (
    fX10_cutAll_129 k17 v1 v2 v4 v5 u)
theorem tX10_cutAll_70 (k17 : Int32 → Int32 → ab_S → Option (Unit × ab_S)) (hk17 : ∀ (v1 : Int32) (v2 : Int32) (u : ab_S), ab_G 1 9 cX10_cutAll none 2 17 [some (vR (kO 9) 0), some (vI v1), some (vI v2), none, none, none, none] [] u wV (k17 v1 v2 u)) : ∀ (n : Nat) (v1 : Int32) (v2 : Int32) (v4 : Int32) (v5 : Int64) (u : ab_S), ab_G 1 9 cX10_cutAll none 2 70 [some (vR (kO 9) 0), some (vI v1), some (vI v2), none, some (vI v4), some (vL v5), none] [] u wV (fX10_cutAll_70 k17 n v1 v2 v4 v5 u) := by
  intro n
  induction n with
  | zero => intros; exact g_none
  | succ n ih =>
    intro v1 v2 v4 v5 u
    rw [fX10_cutAll_70]
    refine g_seg0 (pc' := 75) (L' := [some (vR (kO 9) 0), some (vI v1), some (vI v2), none, some (vI v4), some (vL v5), none]) (st' := [vI (u.1 0 3), vI v2]) (u1 := u) [(oL 0 2, 1), (oL 2 0, 1), (oP (.getfield 146), 3)] (by decide +kernel) rfl rfl ?_
    refine g_ige (off := 54) (tgt := 129) (pc2 := 78) (by decide +kernel) (by decide) rfl ?_ ?_
    · exact tX10_cutAll_129 k17 hk17 v1 v2 v4 v5 u
    · refine g_seg (pc' := 84) (L' := [some (vR (kO 9) 0), some (vI v1), some (vI v2), none, some (vI v4), some (vL v5), none]) (st' := [vI (u.1 1 (nc v2))]) (u1 := u) [(oL 2 0, 1), (oP (.getfield 14), 3), (oL 0 2, 1), (oP .iaload, 1)] (by decide +kernel) rfl rfl ?_
      refine g_callS (k := 142) (pc2 := 87) (st := []) (CX10_isLetter (u.1 1 (nc v2)) u) miX10_isLetter msX10_isLetter lk9_142 wI_ok (by decide +kernel) rfl (Nat.le_of_ble_eq_true rfl) (by decide) rfl (fun q2 hq2 => ?_)
      refine g_zeq (off := 42) (tgt := 129) (pc2 := 90) (by decide +kernel) (by decide) rfl ?_ ?_
      · exact tX10_cutAll_129 k17 hk17 v1 v2 v4 v5 q2.2
      · refine g_seg0 (pc' := 96) (L' := [some (vR (kO 9) 0), some (vI v1), some (vI v2), none, some (vI v4), some (vL v5), none]) (st' := [vI 8, vI (v2 - v4)]) (u1 := q2.2) [(oL 0 2, 1), (oL 0 4, 2), (oP .isub, 1), (oC 8, 2)] (by decide +kernel) rfl rfl ?_
        refine g_ige (off := 23) (tgt := 119) (pc2 := 99) (by decide +kernel) (by decide) rfl ?_ ?_
        · refine g_seg0 (pc' := 126) (L' := [some (vR (kO 9) 0), some (vI v1), some (vI (v2 + 1)), none, some (vI v4), some (vL v5), none]) (st' := []) (u1 := q2.2) [(oL 1 5, 2), (oL 4 5, 2), (oN 2 1, 3)] (by decide +kernel) rfl rfl ?_
          refine g_goto (off := (-56)) (tgt := 70) (by decide +kernel) (by decide) ?_
          exact ih v1 (v2 + 1) v4 v5 q2.2
        · refine g_seg (pc' := 111) (L' := [some (vR (kO 9) 0), some (vI v1), some (vI v2), none, some (vI v4), some (vL v5), none]) (st' := [vI (q2.2.1 1 (nc v2)), vL (37 * v5)]) (u1 := q2.2) [(oD 37, 3), (oL 1 5, 2), (oP .lmul, 1), (oL 2 0, 1), (oP (.getfield 14), 3), (oL 0 2, 1), (oP .iaload, 1)] (by decide +kernel) rfl rfl ?_
          refine g_callS (k := 151) (pc2 := 114) (st := [vL (37 * v5)]) (CX10_rank (q2.2.1 1 (nc v2)) q2.2) miX10_rank msX10_rank lk9_151 wI_ok (by decide +kernel) rfl (Nat.le_of_ble_eq_true rfl) (by decide) rfl (fun q3 hq3 => ?_)
          refine g_seg0 (pc' := 116) (L' := [some (vR (kO 9) 0), some (vI v1), some (vI v2), none, some (vI v4), some (vL v5), none]) (st' := [vL ((37 * v5) + (Int32.toInt64 q3.1))]) (u1 := q3.2) [(oP .i2l, 1), (oP .ladd, 1)] (by decide +kernel) rfl rfl ?_
          refine g_goto (off := 5) (tgt := 121) (by decide +kernel) (by decide) ?_
          refine g_seg0 (pc' := 126) (L' := [some (vR (kO 9) 0), some (vI v1), some (vI (v2 + 1)), none, some (vI v4), some (vL ((37 * v5) + (Int32.toInt64 q3.1))), none]) (st' := []) (u1 := q3.2) [(oL 4 5, 2), (oN 2 1, 3)] (by decide +kernel) rfl rfl ?_
          refine g_goto (off := (-56)) (tgt := 70) (by decide +kernel) (by decide) ?_
          exact ih v1 (v2 + 1) v4 ((37 * v5) + (Int32.toInt64 q3.1)) q3.2
def fX10_cutAll_17 : Nat → Int32 → Int32 → ab_S → Option (Unit × ab_S)
  | 0, _, _, _ => none
  | n + 1, v1, v2, u =>
  bif decide (v2 < (u.1 0 3)) then (
    ab_gd [ab_ix v2 1000] (
      bif decide ((u.1 1 (nc v2)) = 10) then (
        (fX10_cutAll_17 n) v1 (v2 + 1) u)
      else (
        bif decide ((u.1 1 (nc v2)) = 32) then (
          (fX10_cutAll_17 n) v1 (v2 + 1) u)
        else (
          ab_gd [ab_ix v1 1002] (
            (fX10_isLetter (u.1 1 (nc v2)) (sI u 3 (nc v1) v2)).bind fun q4 =>
              bif decide (q4.1 = 0) then (
                (fX10_isDigit (u.1 1 (nc v2)) q4.2).bind fun q5 =>
                  bif decide (q5.1 = 0) then (
                    (fX10_isSignOf (u.1 1 (nc v2)) q5.2).bind fun q6 =>
                      bif decide (q6.1 = 0) then (
                        ab_gd [ab_ix v1 1002] (
                          fX10_cutAll_265 (fX10_cutAll_17 n) v1 (v2 + 1) (Int32.toInt64 (u.1 1 (nc v2))) (sI q6.2 2 (nc v1) 4)))
                      else (
                        ab_gd [ab_ix v1 1002] (
                          fX10_cutAll_265 (fX10_cutAll_17 n) v1 (v2 + 1) (Int32.toInt64 (u.1 1 (nc v2))) (sI q6.2 2 (nc v1) 3))))
                  else (
                    fX10_cutAll_159 (fX10_cutAll_17 n) fu v1 v2 v2 0 q5.2))
              else (
                fX10_cutAll_70 (fX10_cutAll_17 n) fu v1 v2 v2 0 q4.2))))))
  else (
    ab_gd [ab_ix v1 1002, ab_ix v1 1002] (
      some ((), (sI (sI (sI (sI u 2 (nc v1) 0) 3 (nc v1) ((sI u 2 (nc v1) 0).1 0 3)) 0 7 0) 0 8 0))))
theorem tX10_cutAll_17 : ∀ (n : Nat) (v1 : Int32) (v2 : Int32) (u : ab_S), ab_G 1 9 cX10_cutAll none 2 17 [some (vR (kO 9) 0), some (vI v1), some (vI v2), none, none, none, none] [] u wV (fX10_cutAll_17 n v1 v2 u) := by
  intro n
  induction n with
  | zero => intros; exact g_none
  | succ n ih =>
    intro v1 v2 u
    rw [fX10_cutAll_17]
    refine g_seg0 (pc' := 22) (L' := [some (vR (kO 9) 0), some (vI v1), some (vI v2), none, none, none, none]) (st' := [vI (u.1 0 3), vI v2]) (u1 := u) [(oL 0 2, 1), (oL 2 0, 1), (oP (.getfield 146), 3)] (by decide +kernel) rfl rfl ?_
    refine g_ige (off := 257) (tgt := 279) (pc2 := 25) (by decide +kernel) (by decide) rfl ?_ ?_
    · refine g_seg (pc' := 306) (L' := [some (vR (kO 9) 0), some (vI v1), some (vI v2), none, none, none, none]) (st' := []) (u1 := (sI (sI (sI (sI u 2 (nc v1) 0) 3 (nc v1) ((sI u 2 (nc v1) 0).1 0 3)) 0 7 0) 0 8 0)) [(oL 2 0, 1), (oP (.getfield 24), 3), (oL 0 1, 1), (oC 0, 1), (oP .iastore, 1), (oL 2 0, 1), (oP (.getfield 27), 3), (oL 0 1, 1), (oL 2 0, 1), (oP (.getfield 146), 3), (oP .iastore, 1), (oL 2 0, 1), (oC 0, 1), (oP (.putfield 165), 3), (oL 2 0, 1), (oC 0, 1), (oP (.putfield 168), 3)] (by decide +kernel) rfl rfl ?_
      exact g_vret (by decide +kernel) rfl
    · refine g_seg (pc' := 35) (L' := [some (vR (kO 9) 0), some (vI v1), some (vI v2), some (vI (u.1 1 (nc v2))), none, none, none]) (st' := [vI 10, vI (u.1 1 (nc v2))]) (u1 := u) [(oL 2 0, 1), (oP (.getfield 14), 3), (oL 0 2, 1), (oP .iaload, 1), (oL 3 3, 1), (oL 0 3, 1), (oC 10, 2)] (by decide +kernel) rfl rfl ?_
      refine g_ieq (off := 9) (tgt := 44) (pc2 := 38) (by decide +kernel) (by decide) rfl ?_ ?_
      · refine g_seg0 (pc' := 47) (L' := [some (vR (kO 9) 0), some (vI v1), some (vI (v2 + 1)), some (vI (u.1 1 (nc v2))), none, none, none]) (st' := []) (u1 := u) [(oN 2 1, 3)] (by decide +kernel) rfl rfl ?_
        refine g_goto (off := (-30)) (tgt := 17) (by decide +kernel) (by decide) ?_
        exact g_jump [true, true, true, false, false, false, false] rfl (ih v1 (v2 + 1) u)
      · refine g_seg0 (pc' := 41) (L' := [some (vR (kO 9) 0), some (vI v1), some (vI v2), some (vI (u.1 1 (nc v2))), none, none, none]) (st' := [vI 32, vI (u.1 1 (nc v2))]) (u1 := u) [(oL 0 3, 1), (oC 32, 2)] (by decide +kernel) rfl rfl ?_
        refine g_ine (off := 9) (tgt := 50) (pc2 := 44) (by decide +kernel) (by decide) rfl ?_ ?_
        · refine g_seg (pc' := 64) (L' := [some (vR (kO 9) 0), some (vI v1), some (vI v2), some (vI (u.1 1 (nc v2))), some (vI v2), some (vL 0), none]) (st' := [vI (u.1 1 (nc v2))]) (u1 := (sI u 3 (nc v1) v2)) [(oL 0 2, 1), (oL 3 4, 2), (oD 0, 1), (oL 4 5, 2), (oL 2 0, 1), (oP (.getfield 27), 3), (oL 0 1, 1), (oL 0 2, 1), (oP .iastore, 1), (oL 0 3, 1)] (by decide +kernel) rfl rfl ?_
          refine g_callS (k := 142) (pc2 := 67) (st := []) (CX10_isLetter (u.1 1 (nc v2)) (sI u 3 (nc v1) v2)) miX10_isLetter msX10_isLetter lk9_142 wI_ok (by decide +kernel) rfl (Nat.le_of_ble_eq_true rfl) (by decide) rfl (fun q4 hq4 => ?_)
          refine g_zeq (off := 85) (tgt := 152) (pc2 := 70) (by decide +kernel) (by decide) rfl ?_ ?_
          · refine g_seg0 (pc' := 153) (L' := [some (vR (kO 9) 0), some (vI v1), some (vI v2), some (vI (u.1 1 (nc v2))), some (vI v2), some (vL 0), none]) (st' := [vI (u.1 1 (nc v2))]) (u1 := q4.2) [(oL 0 3, 1)] (by decide +kernel) rfl rfl ?_
            refine g_callS (k := 155) (pc2 := 156) (st := []) (CX10_isDigit (u.1 1 (nc v2)) q4.2) miX10_isDigit msX10_isDigit lk9_155 wI_ok (by decide +kernel) rfl (Nat.le_of_ble_eq_true rfl) (by decide) rfl (fun q5 hq5 => ?_)
            refine g_zeq (off := 84) (tgt := 240) (pc2 := 159) (by decide +kernel) (by decide) rfl ?_ ?_
            · refine g_seg0 (pc' := 250) (L' := [some (vR (kO 9) 0), some (vI v1), some (vI v2), some (vI (u.1 1 (nc v2))), some (vI v2), some (vL (Int32.toInt64 (u.1 1 (nc v2)))), none]) (st' := [vI (u.1 1 (nc v2)), vI v1, vR (kA 0 1002) 2]) (u1 := q5.2) [(oL 0 3, 1), (oP .i2l, 1), (oL 4 5, 2), (oL 2 0, 1), (oP (.getfield 24), 3), (oL 0 1, 1), (oL 0 3, 1)] (by decide +kernel) rfl rfl ?_
              refine g_callS (k := 162) (pc2 := 253) (st := [vI v1, vR (kA 0 1002) 2]) (CX10_isSignOf (u.1 1 (nc v2)) q5.2) miX10_isSignOf msX10_isSignOf lk9_162 wI_ok (by decide +kernel) rfl (Nat.le_of_ble_eq_true rfl) (by decide) rfl (fun q6 hq6 => ?_)
              refine g_zeq (off := 7) (tgt := 260) (pc2 := 256) (by decide +kernel) (by decide) rfl ?_ ?_
              · refine g_seg (pc' := 265) (L' := [some (vR (kO 9) 0), some (vI v1), some (vI (v2 + 1)), some (vI (u.1 1 (nc v2))), some (vI v2), some (vL (Int32.toInt64 (u.1 1 (nc v2)))), none]) (st' := []) (u1 := (sI q6.2 2 (nc v1) 4)) [(oC 4, 1), (oP .iastore, 1), (oN 2 1, 3)] (by decide +kernel) rfl rfl ?_
                exact g_jump [true, true, true, false, false, true, false] rfl (tX10_cutAll_265 (fX10_cutAll_17 n) ih v1 (v2 + 1) (Int32.toInt64 (u.1 1 (nc v2))) (sI q6.2 2 (nc v1) 4))
              · refine g_seg0 (pc' := 257) (L' := [some (vR (kO 9) 0), some (vI v1), some (vI v2), some (vI (u.1 1 (nc v2))), some (vI v2), some (vL (Int32.toInt64 (u.1 1 (nc v2)))), none]) (st' := [vI 3, vI v1, vR (kA 0 1002) 2]) (u1 := q6.2) [(oC 3, 1)] (by decide +kernel) rfl rfl ?_
                refine g_goto (off := 4) (tgt := 261) (by decide +kernel) (by decide) ?_
                refine g_seg (pc' := 265) (L' := [some (vR (kO 9) 0), some (vI v1), some (vI (v2 + 1)), some (vI (u.1 1 (nc v2))), some (vI v2), some (vL (Int32.toInt64 (u.1 1 (nc v2)))), none]) (st' := []) (u1 := (sI q6.2 2 (nc v1) 3)) [(oP .iastore, 1), (oN 2 1, 3)] (by decide +kernel) rfl rfl ?_
                exact g_jump [true, true, true, false, false, true, false] rfl (tX10_cutAll_265 (fX10_cutAll_17 n) ih v1 (v2 + 1) (Int32.toInt64 (u.1 1 (nc v2))) (sI q6.2 2 (nc v1) 3))
            · exact g_jump [true, true, true, false, true, true, false] rfl (tX10_cutAll_159 (fX10_cutAll_17 n) ih fu v1 v2 v2 0 q5.2)
          · exact g_jump [true, true, true, false, true, true, false] rfl (tX10_cutAll_70 (fX10_cutAll_17 n) ih fu v1 v2 v2 0 q4.2)
        · refine g_seg0 (pc' := 47) (L' := [some (vR (kO 9) 0), some (vI v1), some (vI (v2 + 1)), some (vI (u.1 1 (nc v2))), none, none, none]) (st' := []) (u1 := u) [(oN 2 1, 3)] (by decide +kernel) rfl rfl ?_
          refine g_goto (off := (-30)) (tgt := 17) (by decide +kernel) (by decide) ?_
          exact g_jump [true, true, true, false, false, false, false] rfl (ih v1 (v2 + 1) u)
def fX10_cutAll (u : ab_S) : Option (Unit × ab_S) :=
  fX10_cutAll_17 fu 0 0 (sI (sI u 0 3 (u.1 0 2)) 0 2 0)
theorem tX10_cutAll (u : ab_S) : ab_G 1 9 cX10_cutAll none 2 0 [some (vR (kO 9) 0), none, none, none, none, none, none] [] u wV (fX10_cutAll u) := by
  rw [fX10_cutAll]
  refine g_seg0 (pc' := 17) (L' := [some (vR (kO 9) 0), some (vI 0), some (vI 0), none, none, none, none]) (st' := []) (u1 := (sI (sI u 0 3 (u.1 0 2)) 0 2 0)) [(oL 2 0, 1), (oL 2 0, 1), (oP (.getfield 11), 3), (oP (.putfield 146), 3), (oL 2 0, 1), (oC 0, 1), (oP (.putfield 11), 3), (oC 0, 1), (oL 3 1, 1), (oC 0, 1), (oL 3 2, 1)] (by decide +kernel) rfl rfl ?_
  exact tX10_cutAll_17 fu 0 0 (sI (sI u 0 3 (u.1 0 2)) 0 2 0)
theorem CX10_cutAll (u : ab_S) : ab_C 1 yX10_cutAll cX10_cutAll 7 none 2 [vR (kO 9) 0] u wV (fX10_cutAll u) := ab_entry (by decide +kernel) rfl (by decide) (by decide) (fun _ => Nat.le_of_ble_eq_true rfl) rfl (tX10_cutAll u)
def fX10_wrong (v1 : Int32) (u : ab_S) : Option (Unit × ab_S) :=
  bif decide ((u.1 0 8) = 0) then (
    ab_gd [ab_ix (u.1 0 7) 1002] (
      some ((), (sI u 0 8 (v1 + (16 * (u.1 3 (nc (u.1 0 7)))))))))
  else (
    some ((), u))
theorem tX10_wrong (v1 : Int32) (u : ab_S) : ab_G 1 9 cX10_wrong none 0 0 [some (vR (kO 9) 0), some (vI v1)] [] u wV (fX10_wrong v1 u) := by
  rw [fX10_wrong]
  refine g_seg0 (pc' := 4) (L' := [some (vR (kO 9) 0), some (vI v1)]) (st' := [vI (u.1 0 8)]) (u1 := u) [(oL 2 0, 1), (oP (.getfield 168), 3)] (by decide +kernel) rfl rfl ?_
  refine g_zne (off := 21) (tgt := 25) (pc2 := 7) (by decide +kernel) (by decide) rfl ?_ ?_
  · exact g_vret (by decide +kernel) rfl
  · refine g_seg (pc' := 25) (L' := [some (vR (kO 9) 0), some (vI v1)]) (st' := []) (u1 := (sI u 0 8 (v1 + (16 * (u.1 3 (nc (u.1 0 7))))))) [(oL 2 0, 1), (oL 0 1, 1), (oC 16, 2), (oL 2 0, 1), (oP (.getfield 27), 3), (oL 2 0, 1), (oP (.getfield 165), 3), (oP .iaload, 1), (oP .imul, 1), (oP .iadd, 1), (oP (.putfield 168), 3)] (by decide +kernel) rfl rfl ?_
    exact g_vret (by decide +kernel) rfl
theorem CX10_wrong (v1 : Int32) (u : ab_S) : ab_C 1 yX10_wrong cX10_wrong 2 none 0 [vR (kO 9) 0, vI v1] u wV (fX10_wrong v1 u) := ab_entry (by decide +kernel) rfl (by decide) (by decide) (fun _ => Nat.le_of_ble_eq_true rfl) rfl (tX10_wrong v1 u)
def fX10_isSign (v1 : Int32) (u : ab_S) : Option (Int32 × ab_S) :=
  bif decide ((u.1 0 8) = 0) then (
    ab_gd [ab_ix (u.1 0 7) 1002] (
      bif decide ((u.1 2 (nc (u.1 0 7))) = 3) then (
        ab_gd [ab_ix (u.1 0 7) 1002] (
          bif decide ((u.2.1 4 (nc (u.1 0 7))) = (Int32.toInt64 v1)) then (
            ab_gd [ab_b1 1] (some (1, u)))
          else (
            ab_gd [ab_b1 0] (some (0, u)))))
      else (
        ab_gd [ab_b1 0] (some (0, u)))))
  else (
    ab_gd [ab_b1 0] (some (0, u)))
theorem tX10_isSign (v1 : Int32) (u : ab_S) : ab_G 1 9 cX10_isSign (some .boolean) 0 0 [some (vR (kO 9) 0), some (vI v1)] [] u wI (fX10_isSign v1 u) := by
  rw [fX10_isSign]
  refine g_seg0 (pc' := 4) (L' := [some (vR (kO 9) 0), some (vI v1)]) (st' := [vI (u.1 0 8)]) (u1 := u) [(oL 2 0, 1), (oP (.getfield 168), 3)] (by decide +kernel) rfl rfl ?_
  refine g_zne (off := 35) (tgt := 39) (pc2 := 7) (by decide +kernel) (by decide) rfl ?_ ?_
  · refine g_seg0 (pc' := 40) (L' := [some (vR (kO 9) 0), some (vI v1)]) (st' := [vI 0]) (u1 := u) [(oC 0, 1)] (by decide +kernel) rfl rfl ?_
    exact g_zret (by decide +kernel) rfl
  · refine g_seg (pc' := 17) (L' := [some (vR (kO 9) 0), some (vI v1)]) (st' := [vI 3, vI (u.1 2 (nc (u.1 0 7)))]) (u1 := u) [(oL 2 0, 1), (oP (.getfield 24), 3), (oL 2 0, 1), (oP (.getfield 165), 3), (oP .iaload, 1), (oC 3, 1)] (by decide +kernel) rfl rfl ?_
    refine g_ine (off := 22) (tgt := 39) (pc2 := 20) (by decide +kernel) (by decide) rfl ?_ ?_
    · refine g_seg0 (pc' := 40) (L' := [some (vR (kO 9) 0), some (vI v1)]) (st' := [vI 0]) (u1 := u) [(oC 0, 1)] (by decide +kernel) rfl rfl ?_
      exact g_zret (by decide +kernel) rfl
    · refine g_seg (pc' := 31) (L' := [some (vR (kO 9) 0), some (vI v1)]) (st' := [vL (Int32.toInt64 v1), vL (u.2.1 4 (nc (u.1 0 7)))]) (u1 := u) [(oL 2 0, 1), (oP (.getfield 30), 3), (oL 2 0, 1), (oP (.getfield 165), 3), (oP .laload, 1), (oL 0 1, 1), (oP .i2l, 1)] (by decide +kernel) rfl rfl ?_
      refine g_lne (off := 7) (tgt := 39) (pc1 := 32) (pc2 := 35) (by decide +kernel) rfl (by decide +kernel) (by decide) rfl ?_ ?_
      · refine g_seg0 (pc' := 40) (L' := [some (vR (kO 9) 0), some (vI v1)]) (st' := [vI 0]) (u1 := u) [(oC 0, 1)] (by decide +kernel) rfl rfl ?_
        exact g_zret (by decide +kernel) rfl
      · refine g_seg0 (pc' := 36) (L' := [some (vR (kO 9) 0), some (vI v1)]) (st' := [vI 1]) (u1 := u) [(oC 1, 1)] (by decide +kernel) rfl rfl ?_
        refine g_goto (off := 4) (tgt := 40) (by decide +kernel) (by decide) ?_
        exact g_zret (by decide +kernel) rfl
theorem CX10_isSign (v1 : Int32) (u : ab_S) : ab_C 1 yX10_isSign cX10_isSign 2 (some .boolean) 0 [vR (kO 9) 0, vI v1] u wI (fX10_isSign v1 u) := ab_entry (by decide +kernel) rfl (by decide) (by decide) (fun _ => Nat.le_of_ble_eq_true rfl) rfl (tX10_isSign v1 u)
