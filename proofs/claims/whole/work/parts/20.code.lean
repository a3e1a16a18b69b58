/-! methods, printed by program out of the listing: function, walk, contract -/
def fX6_takeBytes_43 (k3 : Int64 → Int32 → ab_S → Option (Unit × ab_S)) (v1 : Int64) (v3 : Int32) (v4 : Int32) (s0 : Int32) (u : ab_S) : Option (Unit × ab_S) :=
  bif decide (s0 = 0) then (
    k3 v1 (v3 + (-8)) u)
  else (
    bif decide ((u.1 1 1) < 0) then (
      k3 v1 (v3 + (-8)) u)
    else (
      bif decide ((u.1 1 1) < 1000) then (
        ab_gd [ab_ix (u.1 1 1) 1000, ab_c1 ((Int32.toUInt32 v4 % 65536).toInt32)] (
          k3 v1 (v3 + (-8)) (sI (sI u 2 (nc (u.1 1 1)) ((Int32.toUInt32 v4 % 65536).toInt32)) 1 1 (((sI u 2 (nc (u.1 1 1)) ((Int32.toUInt32 v4 % 65536).toInt32)).1 1 1) + 1))))
      else (
        k3 v1 (v3 + (-8)) u)))
theorem tX6_takeBytes_43 (k3 : Int64 → Int32 → ab_S → Option (Unit × ab_S)) (hk3 : ∀ (v1 : Int64) (v3 : Int32) (u : ab_S), ab_G 0 6 cX6_takeBytes none 0 3 [some (vR (kO 6) 1), some (vL v1), none, some (vI v3), none, none] [] u wV (k3 v1 v3 u)) (v1 : Int64) (v3 : Int32) (v4 : Int32) (s0 : Int32) (u : ab_S) : ab_G 0 6 cX6_takeBytes none 0 43 [some (vR (kO 6) 1), some (vL v1), none, some (vI v3), some (vI v4), none] [vI s0] u wV (fX6_takeBytes_43 k3 v1 v3 v4 s0 u) := by
  rw [fX6_takeBytes_43]
  refine g_seg0 (pc' := 47) (L' := [some (vR (kO 6) 1), some (vL v1), none, some (vI v3), some (vI v4), some (vI s0)]) (st' := [vI s0]) (u1 := u) [(oL 3 5, 2), (oL 0 5, 2)] (by decide +kernel) rfl rfl ?_
  refine g_zeq (off := 44) (tgt := 91) (pc2 := 50) (by decide +kernel) (by decide) rfl ?_ ?_
  · refine g_seg0 (pc' := 94) (L' := [some (vR (kO 6) 1), some (vL v1), none, some (vI (v3 + (-8))), some (vI v4), some (vI s0)]) (st' := []) (u1 := u) [(oN 3 (-8), 3)] (by decide +kernel) rfl rfl ?_
    refine g_goto (off := (-91)) (tgt := 3) (by decide +kernel) (by decide) ?_
    exact g_jump [true, true, false, true, false, false] rfl (hk3 v1 (v3 + (-8)) u)
  · refine g_seg0 (pc' := 54) (L' := [some (vR (kO 6) 1), some (vL v1), none, some (vI v3), some (vI v4), some (vI s0)]) (st' := [vI (u.1 1 1)]) (u1 := u) [(oL 2 0, 1), (oP (.getfield 28), 3)] (by decide +kernel) rfl rfl ?_
    refine g_zlt (off := 37) (tgt := 91) (pc2 := 57) (by decide +kernel) (by decide) rfl ?_ ?_
    · refine g_seg0 (pc' := 94) (L' := [some (vR (kO 6) 1), some (vL v1), none, some (vI (v3 + (-8))), some (vI v4), some (vI s0)]) (st' := []) (u1 := u) [(oN 3 (-8), 3)] (by decide +kernel) rfl rfl ?_
      refine g_goto (off := (-91)) (tgt := 3) (by decide +kernel) (by decide) ?_
      exact g_jump [true, true, false, true, false, false] rfl (hk3 v1 (v3 + (-8)) u)
    · refine g_seg0 (pc' := 66) (L' := [some (vR (kO 6) 1), some (vL v1), none, some (vI v3), some (vI v4), some (vI s0)]) (st' := [vI 1000, vI (u.1 1 1)]) (u1 := u) [(oL 2 0, 1), (oP (.getfield 28), 3), (oL 2 0, 1), (oP (.getfield 9), 3), (oP .arraylength, 1)] (by decide +kernel) rfl rfl ?_
      refine g_ige (off := 25) (tgt := 91) (pc2 := 69) (by decide +kernel) (by decide) rfl ?_ ?_
      · refine g_seg0 (pc' := 94) (L' := [some (vR (kO 6) 1), some (vL v1), none, some (vI (v3 + (-8))), some (vI v4), some (vI s0)]) (st' := []) (u1 := u) [(oN 3 (-8), 3)] (by decide +kernel) rfl rfl ?_
        refine g_goto (off := (-91)) (tgt := 3) (by decide +kernel) (by decide) ?_
        exact g_jump [true, true, false, true, false, false] rfl (hk3 v1 (v3 + (-8)) u)
      · refine g_seg (pc' := 94) (L' := [some (vR (kO 6) 1), some (vL v1), none, some (vI (v3 + (-8))), some (vI v4), some (vI s0)]) (st' := []) (u1 := (sI (sI u 2 (nc (u.1 1 1)) ((Int32.toUInt32 v4 % 65536).toInt32)) 1 1 (((sI u 2 (nc (u.1 1 1)) ((Int32.toUInt32 v4 % 65536).toInt32)).1 1 1) + 1))) [(oL 2 0, 1), (oP (.getfield 9), 3), (oL 2 0, 1), (oP (.getfield 28), 3), (oL 0 4, 2), (oP .i2c, 1), (oP .castore, 1), (oL 2 0, 1), (oP .dup, 1), (oP (.getfield 28), 3), (oC 1, 1), (oP .iadd, 1), (oP (.putfield 28), 3), (oN 3 (-8), 3)] (by decide +kernel) rfl rfl ?_
        refine g_goto (off := (-91)) (tgt := 3) (by decide +kernel) (by decide) ?_
        exact g_jump [true, true, false, true, false, false] rfl (hk3 v1 (v3 + (-8)) (sI (sI u 2 (nc (u.1 1 1)) ((Int32.toUInt32 v4 % 65536).toInt32)) 1 1 (((sI u 2 (nc (u.1 1 1)) ((Int32.toUInt32 v4 % 65536).toInt32)).1 1 1) + 1)))
def fX6_takeBytes_3 : Nat → Int64 → Int32 → ab_S → Option (Unit × ab_S)
  | 0, _, _, _ => none
  | n + 1, v1, v3, u =>
  bif decide (v3 < 0) then (
    some ((), u))
  else (
    bif decide ((Int64.toInt32 (((Int64.toUInt64 v1 >>> ((Int32.toInt64 v3).toUInt64 &&& Int64.toUInt64 63)).toInt64) &&& 255)) = 10) then (
      fX6_takeBytes_43 (fX6_takeBytes_3 n) v1 v3 (Int64.toInt32 (((Int64.toUInt64 v1 >>> ((Int32.toInt64 v3).toUInt64 &&& Int64.toUInt64 63)).toInt64) &&& 255)) 1 u)
    else (
      bif decide ((Int64.toInt32 (((Int64.toUInt64 v1 >>> ((Int32.toInt64 v3).toUInt64 &&& Int64.toUInt64 63)).toInt64) &&& 255)) < 32) then (
        fX6_takeBytes_43 (fX6_takeBytes_3 n) v1 v3 (Int64.toInt32 (((Int64.toUInt64 v1 >>> ((Int32.toInt64 v3).toUInt64 &&& Int64.toUInt64 63)).toInt64) &&& 255)) 0 u)
      else (
        bif decide ((Int64.toInt32 (((Int64.toUInt64 v1 >>> ((Int32.toInt64 v3).toUInt64 &&& Int64.toUInt64 63)).toInt64) &&& 255)) ≤ 126) then (
          fX6_takeBytes_43 (fX6_takeBytes_3 n) v1 v3 (Int64.toInt32 (((Int64.toUInt64 v1 >>> ((Int32.toInt64 v3).toUInt64 &&& Int64.toUInt64 63)).toInt64) &&& 255)) 1 u)
        else (
          fX6_takeBytes_43 (fX6_takeBytes_3 n) v1 v3 (Int64.toInt32 (((Int64.toUInt64 v1 >>> ((Int32.toInt64 v3).toUInt64 &&& Int64.toUInt64 63)).toInt64) &&& 255)) 0 u))))
theorem tX6_takeBytes_3 : ∀ (n : Nat) (v1 : Int64) (v3 : Int32) (u : ab_S), ab_G 0 6 cX6_takeBytes none 0 3 [some (vR (kO 6) 1), some (vL v1), none, some (vI v3), none, none] [] u wV (fX6_takeBytes_3 n v1 v3 u) := by
  intro n
  induction n with
  | zero => intros; exact g_none
  | succ n ih =>
    intro v1 v3 u
    rw [fX6_takeBytes_3]
    refine g_seg0 (pc' := 4) (L' := [some (vR (kO 6) 1), some (vL v1), none, some (vI v3), none, none]) (st' := [vI v3]) (u1 := u) [(oL 0 3, 1)] (by decide +kernel) rfl rfl ?_
    refine g_zlt (off := 93) (tgt := 97) (pc2 := 7) (by decide +kernel) (by decide) rfl ?_ ?_
    · exact g_vret (by decide +kernel) rfl
    · refine g_seg0 (pc' := 21) (L' := [some (vR (kO 6) 1), some (vL v1), none, some (vI v3), some (vI (Int64.toInt32 (((Int64.toUInt64 v1 >>> ((Int32.toInt64 v3).toUInt64 &&& Int64.toUInt64 63)).toInt64) &&& 255))), none]) (st' := [vI 10, vI (Int64.toInt32 (((Int64.toUInt64 v1 >>> ((Int32.toInt64 v3).toUInt64 &&& Int64.toUInt64 63)).toInt64) &&& 255))]) (u1 := u) [(oL 1 1, 1), (oL 0 3, 1), (oP .lushr, 1), (oD 255, 3), (oP .land, 1), (oP .l2i, 1), (oL 3 4, 2), (oL 0 4, 2), (oC 10, 2)] (by decide +kernel) rfl rfl ?_
      refine g_ieq (off := 17) (tgt := 38) (pc2 := 24) (by decide +kernel) (by decide) rfl ?_ ?_
      · refine g_seg0 (pc' := 39) (L' := [some (vR (kO 6) 1), some (vL v1), none, some (vI v3), some (vI (Int64.toInt32 (((Int64.toUInt64 v1 >>> ((Int32.toInt64 v3).toUInt64 &&& Int64.toUInt64 63)).toInt64) &&& 255))), none]) (st' := [vI 1]) (u1 := u) [(oC 1, 1)] (by decide +kernel) rfl rfl ?_
        refine g_goto (off := 4) (tgt := 43) (by decide +kernel) (by decide) ?_
        exact tX6_takeBytes_43 (fX6_takeBytes_3 n) ih v1 v3 (Int64.toInt32 (((Int64.toUInt64 v1 >>> ((Int32.toInt64 v3).toUInt64 &&& Int64.toUInt64 63)).toInt64) &&& 255)) 1 u
      · refine g_seg0 (pc' := 28) (L' := [some (vR (kO 6) 1), some (vL v1), none, some (vI v3), some (vI (Int64.toInt32 (((Int64.toUInt64 v1 >>> ((Int32.toInt64 v3).toUInt64 &&& Int64.toUInt64 63)).toInt64) &&& 255))), none]) (st' := [vI 32, vI (Int64.toInt32 (((Int64.toUInt64 v1 >>> ((Int32.toInt64 v3).toUInt64 &&& Int64.toUInt64 63)).toInt64) &&& 255))]) (u1 := u) [(oL 0 4, 2), (oC 32, 2)] (by decide +kernel) rfl rfl ?_
        refine g_ilt (off := 14) (tgt := 42) (pc2 := 31) (by decide +kernel) (by decide) rfl ?_ ?_
        · refine g_seg0 (pc' := 43) (L' := [some (vR (kO 6) 1), some (vL v1), none, some (vI v3), some (vI (Int64.toInt32 (((Int64.toUInt64 v1 >>> ((Int32.toInt64 v3).toUInt64 &&& Int64.toUInt64 63)).toInt64) &&& 255))), none]) (st' := [vI 0]) (u1 := u) [(oC 0, 1)] (by decide +kernel) rfl rfl ?_
          exact tX6_takeBytes_43 (fX6_takeBytes_3 n) ih v1 v3 (Int64.toInt32 (((Int64.toUInt64 v1 >>> ((Int32.toInt64 v3).toUInt64 &&& Int64.toUInt64 63)).toInt64) &&& 255)) 0 u
        · refine g_seg0 (pc' := 35) (L' := [some (vR (kO 6) 1), some (vL v1), none, some (vI v3), some (vI (Int64.toInt32 (((Int64.toUInt64 v1 >>> ((Int32.toInt64 v3).toUInt64 &&& Int64.toUInt64 63)).toInt64) &&& 255))), none]) (st' := [vI 126, vI (Int64.toInt32 (((Int64.toUInt64 v1 >>> ((Int32.toInt64 v3).toUInt64 &&& Int64.toUInt64 63)).toInt64) &&& 255))]) (u1 := u) [(oL 0 4, 2), (oC 126, 2)] (by decide +kernel) rfl rfl ?_
          refine g_igt (off := 7) (tgt := 42) (pc2 := 38) (by decide +kernel) (by decide) rfl ?_ ?_
          · refine g_seg0 (pc' := 43) (L' := [some (vR (kO 6) 1), some (vL v1), none, some (vI v3), some (vI (Int64.toInt32 (((Int64.toUInt64 v1 >>> ((Int32.toInt64 v3).toUInt64 &&& Int64.toUInt64 63)).toInt64) &&& 255))), none]) (st' := [vI 0]) (u1 := u) [(oC 0, 1)] (by decide +kernel) rfl rfl ?_
            exact tX6_takeBytes_43 (fX6_takeBytes_3 n) ih v1 v3 (Int64.toInt32 (((Int64.toUInt64 v1 >>> ((Int32.toInt64 v3).toUInt64 &&& Int64.toUInt64 63)).toInt64) &&& 255)) 0 u
          · refine g_seg0 (pc' := 39) (L' := [some (vR (kO 6) 1), some (vL v1), none, some (vI v3), some (vI (Int64.toInt32 (((Int64.toUInt64 v1 >>> ((Int32.toInt64 v3).toUInt64 &&& Int64.toUInt64 63)).toInt64) &&& 255))), none]) (st' := [vI 1]) (u1 := u) [(oC 1, 1)] (by decide +kernel) rfl rfl ?_
            refine g_goto (off := 4) (tgt := 43) (by decide +kernel) (by decide) ?_
            exact tX6_takeBytes_43 (fX6_takeBytes_3 n) ih v1 v3 (Int64.toInt32 (((Int64.toUInt64 v1 >>> ((Int32.toInt64 v3).toUInt64 &&& Int64.toUInt64 63)).toInt64) &&& 255)) 1 u
def fX6_takeBytes (v1 : Int64) (u : ab_S) : Option (Unit × ab_S) :=
  fX6_takeBytes_3 fu v1 56 u
theorem tX6_takeBytes (v1 : Int64) (u : ab_S) : ab_G 0 6 cX6_takeBytes none 0 0 [some (vR (kO 6) 1), some (vL v1), none, none, none, none] [] u wV (fX6_takeBytes v1 u) := by
  rw [fX6_takeBytes]
  refine g_seg0 (pc' := 3) (L' := [some (vR (kO 6) 1), some (vL v1), none, some (vI 56), none, none]) (st' := []) (u1 := u) [(oC 56, 2), (oL 3 3, 1)] (by decide +kernel) rfl rfl ?_
  exact tX6_takeBytes_3 fu v1 56 u
theorem CX6_takeBytes (v1 : Int64) (u : ab_S) : ab_C 0 yX6_takeBytes cX6_takeBytes 6 none 0 [vR (kO 6) 1, vL v1] u wV (fX6_takeBytes v1 u) := ab_entry (by decide +kernel) rfl (by decide) (by decide) (fun _ => Nat.le_of_ble_eq_true rfl) rfl (tX6_takeBytes v1 u)
def fX9_feed (v1 : Int64) (v3 : Int64) (v5 : Int64) (u : ab_S) : Option (Int32 × ab_S) :=
  (fX6_takeBytes v1 u).bind fun q1 =>
    (fX6_takeBytes v3 q1.2).bind fun q2 =>
      (fX6_takeBytes v5 q2.2).bind fun q3 =>
        some ((q3.2.1 1 1), q3.2)
theorem tX9_feed (v1 : Int64) (v3 : Int64) (v5 : Int64) (u : ab_S) : ab_G 0 8 cX9_feed (some .int) 1 0 [some (vR (kO 8) 0), some (vL v1), none, some (vL v3), none, some (vL v5), none] [] u wI (fX9_feed v1 v3 v5 u) := by
  rw [fX9_feed]
  refine g_seg0 (pc' := 5) (L' := [some (vR (kO 8) 0), some (vL v1), none, some (vL v3), none, some (vL v5), none]) (st' := [vL v1, vR (kO 6) 1]) (u1 := u) [(oL 2 0, 1), (oP (.getfield 10), 3), (oL 1 1, 1)] (by decide +kernel) rfl rfl ?_
  refine g_callV (k := 82) (pc2 := 8) (st := []) (CX6_takeBytes v1 u) miX6_takeBytes mvX6_takeBytes rfl (by decide) lk8_82 wV_ok (by decide +kernel) rfl (Nat.le_of_ble_eq_true rfl) (by decide) rfl (fun q1 hq1 => ?_)
  refine g_seg0 (pc' := 13) (L' := [some (vR (kO 8) 0), some (vL v1), none, some (vL v3), none, some (vL v5), none]) (st' := [vL v3, vR (kO 6) 1]) (u1 := q1.2) [(oL 2 0, 1), (oP (.getfield 10), 3), (oL 1 3, 1)] (by decide +kernel) rfl rfl ?_
  refine g_callV (k := 82) (pc2 := 16) (st := []) (CX6_takeBytes v3 q1.2) miX6_takeBytes mvX6_takeBytes rfl (by decide) lk8_82 wV_ok (by decide +kernel) rfl (Nat.le_of_ble_eq_true rfl) (by decide) rfl (fun q2 hq2 => ?_)
  refine g_seg0 (pc' := 22) (L' := [some (vR (kO 8) 0), some (vL v1), none, some (vL v3), none, some (vL v5), none]) (st' := [vL v5, vR (kO 6) 1]) (u1 := q2.2) [(oL 2 0, 1), (oP (.getfield 10), 3), (oL 1 5, 2)] (by decide +kernel) rfl rfl ?_
  refine g_callV (k := 82) (pc2 := 25) (st := []) (CX6_takeBytes v5 q2.2) miX6_takeBytes mvX6_takeBytes rfl (by decide) lk8_82 wV_ok (by decide +kernel) rfl (Nat.le_of_ble_eq_true rfl) (by decide) rfl (fun q3 hq3 => ?_)
  refine g_seg0 (pc' := 32) (L' := [some (vR (kO 8) 0), some (vL v1), none, some (vL v3), none, some (vL v5), none]) (st' := [vI (q3.2.1 1 1)]) (u1 := q3.2) [(oL 2 0, 1), (oP (.getfield 10), 3), (oP (.getfield 86), 3)] (by decide +kernel) rfl rfl ?_
  exact g_iret (by decide +kernel) rfl
theorem CX9_feed (v1 : Int64) (v3 : Int64) (v5 : Int64) (u : ab_S) : ab_C 0 yX9_feed cX9_feed 7 (some .int) 1 [vR (kO 8) 0, vL v1, vL v3, vL v5] u wI (fX9_feed v1 v3 v5 u) := ab_entry (by decide +kernel) rfl (by decide) (by decide) (fun _ => Nat.le_of_ble_eq_true rfl) rfl (tX9_feed v1 v3 v5 u)
def fX6_signAt (v1 : Int32) (u : ab_S) : Option (Int32 × ab_S) :=
  bif decide (v1 < 0) then (
    ab_gd [ab_c1 0] (some (0, u)))
  else (
    bif decide (v1 < 1000) then (
      ab_gd [ab_ix v1 1000] (
        ab_gd [ab_c1 (u.1 2 (nc v1))] (some ((u.1 2 (nc v1)), u))))
    else (
      ab_gd [ab_c1 0] (some (0, u))))
theorem tX6_signAt (v1 : Int32) (u : ab_S) : ab_G 0 6 cX6_signAt (some .char) 0 0 [some (vR (kO 6) 1), some (vI v1)] [] u wI (fX6_signAt v1 u) := by
  rw [fX6_signAt]
  refine g_seg0 (pc' := 1) (L' := [some (vR (kO 6) 1), some (vI v1)]) (st' := [vI v1]) (u1 := u) [(oL 0 1, 1)] (by decide +kernel) rfl rfl ?_
  refine g_zlt (off := 21) (tgt := 22) (pc2 := 4) (by decide +kernel) (by decide) rfl ?_ ?_
  · refine g_seg0 (pc' := 23) (L' := [some (vR (kO 6) 1), some (vI v1)]) (st' := [vI 0]) (u1 := u) [(oC 0, 1)] (by decide +kernel) rfl rfl ?_
    exact g_cret (by decide +kernel) rfl
  · refine g_seg0 (pc' := 10) (L' := [some (vR (kO 6) 1), some (vI v1)]) (st' := [vI 1000, vI v1]) (u1 := u) [(oL 0 1, 1), (oL 2 0, 1), (oP (.getfield 9), 3), (oP .arraylength, 1)] (by decide +kernel) rfl rfl ?_
    refine g_ige (off := 12) (tgt := 22) (pc2 := 13) (by decide +kernel) (by decide) rfl ?_ ?_
    · refine g_seg0 (pc' := 23) (L' := [some (vR (kO 6) 1), some (vI v1)]) (st' := [vI 0]) (u1 := u) [(oC 0, 1)] (by decide +kernel) rfl rfl ?_
      exact g_cret (by decide +kernel) rfl
    · refine g_seg (pc' := 19) (L' := [some (vR (kO 6) 1), some (vI v1)]) (st' := [vI (u.1 2 (nc v1))]) (u1 := u) [(oL 2 0, 1), (oP (.getfield 9), 3), (oL 0 1, 1), (oP .caload, 1)] (by decide +kernel) rfl rfl ?_
      refine g_goto (off := 4) (tgt := 23) (by decide +kernel) (by decide) ?_
      exact g_cret (by decide +kernel) rfl
theorem CX6_signAt (v1 : Int32) (u : ab_S) : ab_C 0 yX6_signAt cX6_signAt 2 (some .char) 0 [vR (kO 6) 1, vI v1] u wI (fX6_signAt v1 u) := ab_entry (by decide +kernel) rfl (by decide) (by decide) (fun _ => Nat.le_of_ble_eq_true rfl) rfl (tX6_signAt v1 u)
def fX6_add (v1 : Int32) (v2 : Int32) (v3 : Int64) (u : ab_S) : Option (Unit × ab_S) :=
  bif decide ((u.1 1 5) < 0) then (
    some ((), u))
  else (
    bif decide ((u.1 1 5) < 1001) then (
      bif decide ((u.1 1 5) < 1001) then (
        bif decide ((u.1 1 5) < 1001) then (
          ab_gd [ab_ix (u.1 1 5) 1001, ab_ix ((sI u 3 (nc (u.1 1 5)) v1).1 1 5) 1001, ab_ix ((sI (sI u 3 (nc (u.1 1 5)) v1) 4 (nc ((sI u 3 (nc (u.1 1 5)) v1).1 1 5)) v2).1 1 5) 1001] (
            some ((), (sI (sJ (sI (sI u 3 (nc (u.1 1 5)) v1) 4 (nc ((sI u 3 (nc (u.1 1 5)) v1).1 1 5)) v2) 5 (nc ((sI (sI u 3 (nc (u.1 1 5)) v1) 4 (nc ((sI u 3 (nc (u.1 1 5)) v1).1 1 5)) v2).1 1 5)) v3) 1 5 (((sJ (sI (sI u 3 (nc (u.1 1 5)) v1) 4 (nc ((sI u 3 (nc (u.1 1 5)) v1).1 1 5)) v2) 5 (nc ((sI (sI u 3 (nc (u.1 1 5)) v1) 4 (nc ((sI u 3 (nc (u.1 1 5)) v1).1 1 5)) v2).1 1 5)) v3).1 1 5) + 1)))))
        else (
          some ((), u)))
      else (
        some ((), u)))
    else (
      some ((), u)))
theorem tX6_add (v1 : Int32) (v2 : Int32) (v3 : Int64) (u : ab_S) : ab_G 0 6 cX6_add none 0 0 [some (vR (kO 6) 1), some (vI v1), some (vI v2), some (vL v3), none] [] u wV (fX6_add v1 v2 v3 u) := by
  rw [fX6_add]
  refine g_seg0 (pc' := 4) (L' := [some (vR (kO 6) 1), some (vI v1), some (vI v2), some (vL v3), none]) (st' := [vI (u.1 1 5)]) (u1 := u) [(oL 2 0, 1), (oP (.getfield 32), 3)] (by decide +kernel) rfl rfl ?_
  refine g_zlt (off := 79) (tgt := 83) (pc2 := 7) (by decide +kernel) (by decide) rfl ?_ ?_
  · exact g_vret (by decide +kernel) rfl
  · refine g_seg0 (pc' := 16) (L' := [some (vR (kO 6) 1), some (vI v1), some (vI v2), some (vL v3), none]) (st' := [vI 1001, vI (u.1 1 5)]) (u1 := u) [(oL 2 0, 1), (oP (.getfield 32), 3), (oL 2 0, 1), (oP (.getfield 15), 3), (oP .arraylength, 1)] (by decide +kernel) rfl rfl ?_
    refine g_ige (off := 67) (tgt := 83) (pc2 := 19) (by decide +kernel) (by decide) rfl ?_ ?_
    · exact g_vret (by decide +kernel) rfl
    · refine g_seg0 (pc' := 28) (L' := [some (vR (kO 6) 1), some (vI v1), some (vI v2), some (vL v3), none]) (st' := [vI 1001, vI (u.1 1 5)]) (u1 := u) [(oL 2 0, 1), (oP (.getfield 32), 3), (oL 2 0, 1), (oP (.getfield 19), 3), (oP .arraylength, 1)] (by decide +kernel) rfl rfl ?_
      refine g_ige (off := 55) (tgt := 83) (pc2 := 31) (by decide +kernel) (by decide) rfl ?_ ?_
      · exact g_vret (by decide +kernel) rfl
      · refine g_seg0 (pc' := 40) (L' := [some (vR (kO 6) 1), some (vI v1), some (vI v2), some (vL v3), none]) (st' := [vI 1001, vI (u.1 1 5)]) (u1 := u) [(oL 2 0, 1), (oP (.getfield 32), 3), (oL 2 0, 1), (oP (.getfield 22), 3), (oP .arraylength, 1)] (by decide +kernel) rfl rfl ?_
        refine g_ige (off := 43) (tgt := 83) (pc2 := 43) (by decide +kernel) (by decide) rfl ?_ ?_
        · exact g_vret (by decide +kernel) rfl
        · refine g_seg (pc' := 83) (L' := [some (vR (kO 6) 1), some (vI v1), some (vI v2), some (vL v3), none]) (st' := []) (u1 := (sI (sJ (sI (sI u 3 (nc (u.1 1 5)) v1) 4 (nc ((sI u 3 (nc (u.1 1 5)) v1).1 1 5)) v2) 5 (nc ((sI (sI u 3 (nc (u.1 1 5)) v1) 4 (nc ((sI u 3 (nc (u.1 1 5)) v1).1 1 5)) v2).1 1 5)) v3) 1 5 (((sJ (sI (sI u 3 (nc (u.1 1 5)) v1) 4 (nc ((sI u 3 (nc (u.1 1 5)) v1).1 1 5)) v2) 5 (nc ((sI (sI u 3 (nc (u.1 1 5)) v1) 4 (nc ((sI u 3 (nc (u.1 1 5)) v1).1 1 5)) v2).1 1 5)) v3).1 1 5) + 1))) [(oL 2 0, 1), (oP (.getfield 15), 3), (oL 2 0, 1), (oP (.getfield 32), 3), (oL 0 1, 1), (oP .iastore, 1), (oL 2 0, 1), (oP (.getfield 19), 3), (oL 2 0, 1), (oP (.getfield 32), 3), (oL 0 2, 1), (oP .iastore, 1), (oL 2 0, 1), (oP (.getfield 22), 3), (oL 2 0, 1), (oP (.getfield 32), 3), (oL 1 3, 1), (oP .lastore, 1), (oL 2 0, 1), (oP .dup, 1), (oP (.getfield 32), 3), (oC 1, 1), (oP .iadd, 1), (oP (.putfield 32), 3)] (by decide +kernel) rfl rfl ?_
          exact g_vret (by decide +kernel) rfl
theorem CX6_add (v1 : Int32) (v2 : Int32) (v3 : Int64) (u : ab_S) : ab_C 0 yX6_add cX6_add 5 none 0 [vR (kO 6) 1, vI v1, vI v2, vL v3] u wV (fX6_add v1 v2 v3 u) := ab_entry (by decide +kernel) rfl (by decide) (by decide) (fun _ => Nat.le_of_ble_eq_true rfl) rfl (tX6_add v1 v2 v3 u)
def fX9_spell (v0 : Int64) (v2 : Int32) (u : ab_S) : Option (Int64 × ab_S) :=
  some (((v0 * 27) + (Int32.toInt64 ((v2 - 97) + 1))), u)
theorem tX9_spell (v0 : Int64) (v2 : Int32) (u : ab_S) : ab_G 0 8 cX9_spell (some .long) 0 0 [some (vL v0), none, some (vI v2)] [] u wJ (fX9_spell v0 v2 u) := by
  rw [fX9_spell]
  refine g_seg0 (pc' := 13) (L' := [some (vL v0), none, some (vI v2)]) (st' := [vL ((v0 * 27) + (Int32.toInt64 ((v2 - 97) + 1)))]) (u1 := u) [(oL 1 0, 1), (oD 27, 3), (oP .lmul, 1), (oL 0 2, 1), (oC 97, 2), (oP .isub, 1), (oC 1, 1), (oP .iadd, 1), (oP .i2l, 1), (oP .ladd, 1)] (by decide +kernel) rfl rfl ?_
  exact g_lret (by decide +kernel) rfl
theorem CX9_spell (v0 : Int64) (v2 : Int32) (u : ab_S) : ab_C 0 yX9_spell cX9_spell 3 (some .long) 0 [vL v0, vI v2] u wJ (fX9_spell v0 v2 u) := ab_entry (by decide +kernel) rfl (by decide) (by decide) (fun _ => Nat.le_of_ble_eq_true rfl) rfl (tX9_spell v0 v2 u)
def fX6_isLetter (v0 : Int32) (u : ab_S) : Option (Int32 × ab_S) :=
  bif decide (v0 < 97) then (
    ab_gd [ab_b1 0] (some (0, u)))
  else (
    bif decide (v0 ≤ 122) then (
      ab_gd [ab_b1 1] (some (1, u)))
    else (
      ab_gd [ab_b1 0] (some (0, u))))
theorem tX6_isLetter (v0 : Int32) (u : ab_S) : ab_G 0 6 cX6_isLetter (some .boolean) 0 0 [some (vI v0)] [] u wI (fX6_isLetter v0 u) := by
  rw [fX6_isLetter]
  refine g_seg0 (pc' := 3) (L' := [some (vI v0)]) (st' := [vI 97, vI v0]) (u1 := u) [(oL 0 0, 1), (oC 97, 2)] (by decide +kernel) rfl rfl ?_
  refine g_ilt (off := 13) (tgt := 16) (pc2 := 6) (by decide +kernel) (by decide) rfl ?_ ?_
  · refine g_seg0 (pc' := 17) (L' := [some (vI v0)]) (st' := [vI 0]) (u1 := u) [(oC 0, 1)] (by decide +kernel) rfl rfl ?_
    exact g_zret (by decide +kernel) rfl
  · refine g_seg0 (pc' := 9) (L' := [some (vI v0)]) (st' := [vI 122, vI v0]) (u1 := u) [(oL 0 0, 1), (oC 122, 2)] (by decide +kernel) rfl rfl ?_
    refine g_igt (off := 7) (tgt := 16) (pc2 := 12) (by decide +kernel) (by decide) rfl ?_ ?_
    · refine g_seg0 (pc' := 17) (L' := [some (vI v0)]) (st' := [vI 0]) (u1 := u) [(oC 0, 1)] (by decide +kernel) rfl rfl ?_
      exact g_zret (by decide +kernel) rfl
    · refine g_seg0 (pc' := 13) (L' := [some (vI v0)]) (st' := [vI 1]) (u1 := u) [(oC 1, 1)] (by decide +kernel) rfl rfl ?_
      refine g_goto (off := 4) (tgt := 17) (by decide +kernel) (by decide) ?_
      exact g_zret (by decide +kernel) rfl
theorem CX6_isLetter (v0 : Int32) (u : ab_S) : ab_C 0 yX6_isLetter cX6_isLetter 1 (some .boolean) 0 [vI v0] u wI (fX6_isLetter v0 u) := ab_entry (by decide +kernel) rfl (by decide) (by decide) (fun _ => Nat.le_of_ble_eq_true rfl) rfl (tX6_isLetter v0 u)
def fX6_scanWord_53 (v1 : Int32) (v2 : Int32) (v3 : Int64) (s1 : Int32) (u : ab_S) : Option (Int32 × ab_S) :=
  (fX6_add s1 v1 v3 u).bind fun q1 =>
    some (v2, q1.2)
theorem tX6_scanWord_53 (v1 : Int32) (v2 : Int32) (v3 : Int64) (s1 : Int32) (u : ab_S) : ab_G 0 6 cX6_scanWord (some .int) 1 53 [none, some (vI v1), some (vI v2), some (vL v3), none] [vI s1, vR (kO 6) 1] u wI (fX6_scanWord_53 v1 v2 v3 s1 u) := by
  rw [fX6_scanWord_53]
  refine g_seg0 (pc' := 55) (L' := [none, some (vI v1), some (vI v2), some (vL v3), none]) (st' := [vL v3, vI v1, vI s1, vR (kO 6) 1]) (u1 := u) [(oL 0 1, 1), (oL 1 3, 1)] (by decide +kernel) rfl rfl ?_
  refine g_callV (k := 52) (pc2 := 58) (st := []) (CX6_add s1 v1 v3 u) miX6_add mvX6_add rfl (by decide) lk6_52 wV_ok (by decide +kernel) rfl (Nat.le_of_ble_eq_true rfl) (by decide) rfl (fun q1 hq1 => ?_)
  refine g_seg0 (pc' := 59) (L' := [none, some (vI v1), some (vI v2), some (vL v3), none]) (st' := [vI v2]) (u1 := q1.2) [(oL 0 2, 1)] (by decide +kernel) rfl rfl ?_
  exact g_iret (by decide +kernel) rfl
def fX6_scanWord_39 (v1 : Int32) (v2 : Int32) (v3 : Int64) (u : ab_S) : Option (Int32 × ab_S) :=
  bif decide ((v2 - v1) ≤ 8) then (
    fX6_scanWord_53 v1 v2 v3 2 u)
  else (
    fX6_scanWord_53 v1 v2 v3 1 u)
theorem tX6_scanWord_39 (v1 : Int32) (v2 : Int32) (v3 : Int64) (u : ab_S) : ab_G 0 6 cX6_scanWord (some .int) 1 39 [some (vR (kO 6) 1), some (vI v1), some (vI v2), some (vL v3), none] [] u wI (fX6_scanWord_39 v1 v2 v3 u) := by
  rw [fX6_scanWord_39]
  refine g_seg0 (pc' := 45) (L' := [some (vR (kO 6) 1), some (vI v1), some (vI v2), some (vL v3), none]) (st' := [vI 8, vI (v2 - v1), vR (kO 6) 1]) (u1 := u) [(oL 2 0, 1), (oL 0 2, 1), (oL 0 1, 1), (oP .isub, 1), (oC 8, 2)] (by decide +kernel) rfl rfl ?_
  refine g_igt (off := 7) (tgt := 52) (pc2 := 48) (by decide +kernel) (by decide) rfl ?_ ?_
  · refine g_seg0 (pc' := 53) (L' := [some (vR (kO 6) 1), some (vI v1), some (vI v2), some (vL v3), none]) (st' := [vI 1, vR (kO 6) 1]) (u1 := u) [(oC 1, 1)] (by decide +kernel) rfl rfl ?_
    exact g_jump [false, true, true, true, false] rfl (tX6_scanWord_53 v1 v2 v3 1 u)
  · refine g_seg0 (pc' := 49) (L' := [some (vR (kO 6) 1), some (vI v1), some (vI v2), some (vL v3), none]) (st' := [vI 2, vR (kO 6) 1]) (u1 := u) [(oC 2, 1)] (by decide +kernel) rfl rfl ?_
    refine g_goto (off := 4) (tgt := 53) (by decide +kernel) (by decide) ?_
    exact g_jump [false, true, true, true, false] rfl (tX6_scanWord_53 v1 v2 v3 2 u)
def fX6_scanWord_4 : Nat → Int32 → Int32 → Int64 → ab_S → Option (Int32 × ab_S)
  | 0, _, _, _, _ => none
  | n + 1, v1, v2, v3, u =>
  bif decide (v2 < (u.1 1 1)) then (
    (fX6_signAt v2 u).bind fun q2 =>
      (fX6_isLetter q2.1 q2.2).bind fun q3 =>
        bif decide (q3.1 = 0) then (
          fX6_scanWord_39 v1 v2 v3 q3.2)
        else (
          (fX6_signAt v2 q3.2).bind fun q4 =>
            (fX9_spell v3 q4.1 q4.2).bind fun q5 =>
              (fX6_scanWord_4 n) v1 (v2 + 1) q5.1 q5.2))
  else (
    fX6_scanWord_39 v1 v2 v3 u)
theorem tX6_scanWord_4 : ∀ (n : Nat) (v1 : Int32) (v2 : Int32) (v3 : Int64) (u : ab_S), ab_G 0 6 cX6_scanWord (some .int) 1 4 [some (vR (kO 6) 1), some (vI v1), some (vI v2), some (vL v3), none] [] u wI (fX6_scanWord_4 n v1 v2 v3 u) := by
  intro n
  induction n with
  | zero => intros; exact g_none
  | succ n ih =>
    intro v1 v2 v3 u
    rw [fX6_scanWord_4]
    refine g_seg0 (pc' := 9) (L' := [some (vR (kO 6) 1), some (vI v1), some (vI v2), some (vL v3), none]) (st' := [vI (u.1 1 1), vI v2]) (u1 := u) [(oL 0 2, 1), (oL 2 0, 1), (oP (.getfield 28), 3)] (by decide +kernel) rfl rfl ?_
    refine g_ige (off := 30) (tgt := 39) (pc2 := 12) (by decide +kernel) (by decide) rfl ?_ ?_
    · exact tX6_scanWord_39 v1 v2 v3 u
    · refine g_seg0 (pc' := 14) (L' := [some (vR (kO 6) 1), some (vI v1), some (vI v2), some (vL v3), none]) (st' := [vI v2, vR (kO 6) 1]) (u1 := u) [(oL 2 0, 1), (oL 0 2, 1)] (by decide +kernel) rfl rfl ?_
      refine g_callV (k := 38) (pc2 := 17) (st := []) (CX6_signAt v2 u) miX6_signAt mvX6_signAt rfl (by decide) lk6_38 wI_ok (by decide +kernel) rfl (Nat.le_of_ble_eq_true rfl) (by decide) rfl (fun q2 hq2 => ?_)
      refine g_callS (k := 62) (pc2 := 20) (st := []) (CX6_isLetter q2.1 q2.2) miX6_isLetter msX6_isLetter lk6_62 wI_ok (by decide +kernel) rfl (Nat.le_of_ble_eq_true rfl) (by decide) rfl (fun q3 hq3 => ?_)
      refine g_zeq (off := 19) (tgt := 39) (pc2 := 23) (by decide +kernel) (by decide) rfl ?_ ?_
      · exact tX6_scanWord_39 v1 v2 v3 q3.2
      · refine g_seg0 (pc' := 26) (L' := [some (vR (kO 6) 1), some (vI v1), some (vI v2), some (vL v3), none]) (st' := [vI v2, vR (kO 6) 1, vL v3]) (u1 := q3.2) [(oL 1 3, 1), (oL 2 0, 1), (oL 0 2, 1)] (by decide +kernel) rfl rfl ?_
        refine g_callV (k := 38) (pc2 := 29) (st := [vL v3]) (CX6_signAt v2 q3.2) miX6_signAt mvX6_signAt rfl (by decide) lk6_38 wI_ok (by decide +kernel) rfl (Nat.le_of_ble_eq_true rfl) (by decide) rfl (fun q4 hq4 => ?_)
        refine g_callS (k := 82) (pc2 := 32) (st := []) (CX9_spell v3 q4.1 q4.2) miX9_spell msX9_spell lk6_82 wJ_ok (by decide +kernel) rfl (Nat.le_of_ble_eq_true rfl) (by decide) rfl (fun q5 hq5 => ?_)
        refine g_seg0 (pc' := 36) (L' := [some (vR (kO 6) 1), some (vI v1), some (vI (v2 + 1)), some (vL (q5.1)), none]) (st' := []) (u1 := q5.2) [(oL 4 3, 1), (oN 2 1, 3)] (by decide +kernel) rfl rfl ?_
        refine g_goto (off := (-32)) (tgt := 4) (by decide +kernel) (by decide) ?_
        exact ih v1 (v2 + 1) q5.1 q5.2
def fX6_scanWord (v1 : Int32) (u : ab_S) : Option (Int32 × ab_S) :=
  fX6_scanWord_4 fu v1 v1 0 u
theorem tX6_scanWord (v1 : Int32) (u : ab_S) : ab_G 0 6 cX6_scanWord (some .int) 1 0 [some (vR (kO 6) 1), some (vI v1), none, none, none] [] u wI (fX6_scanWord v1 u) := by
  rw [fX6_scanWord]
  refine g_seg0 (pc' := 4) (L' := [some (vR (kO 6) 1), some (vI v1), some (vI v1), some (vL 0), none]) (st' := []) (u1 := u) [(oL 0 1, 1), (oL 3 2, 1), (oD 0, 1), (oL 4 3, 1)] (by decide +kernel) rfl rfl ?_
  exact tX6_scanWord_4 fu v1 v1 0 u
theorem CX6_scanWord (v1 : Int32) (u : ab_S) : ab_C 0 yX6_scanWord cX6_scanWord 5 (some .int) 1 [vR (kO 6) 1, vI v1] u wI (fX6_scanWord v1 u) := ab_entry (by decide +kernel) rfl (by decide) (by decide) (fun _ => Nat.le_of_ble_eq_true rfl) rfl (tX6_scanWord v1 u)
def fX6_isDigit (v0 : Int32) (u : ab_S) : Option (Int32 × ab_S) :=
  bif decide (v0 < 48) then (
    ab_gd [ab_b1 0] (some (0, u)))
  else (
    bif decide (v0 ≤ 57) then (
      ab_gd [ab_b1 1] (some (1, u)))
    else (
      ab_gd [ab_b1 0] (some (0, u))))
theorem tX6_isDigit (v0 : Int32) (u : ab_S) : ab_G 0 6 cX6_isDigit (some .boolean) 0 0 [some (vI v0)] [] u wI (fX6_isDigit v0 u) := by
  rw [fX6_isDigit]
  refine g_seg0 (pc' := 3) (L' := [some (vI v0)]) (st' := [vI 48, vI v0]) (u1 := u) [(oL 0 0, 1), (oC 48, 2)] (by decide +kernel) rfl rfl ?_
  refine g_ilt (off := 13) (tgt := 16) (pc2 := 6) (by decide +kernel) (by decide) rfl ?_ ?_
  · refine g_seg0 (pc' := 17) (L' := [some (vI v0)]) (st' := [vI 0]) (u1 := u) [(oC 0, 1)] (by decide +kernel) rfl rfl ?_
    exact g_zret (by decide +kernel) rfl
  · refine g_seg0 (pc' := 9) (L' := [some (vI v0)]) (st' := [vI 57, vI v0]) (u1 := u) [(oL 0 0, 1), (oC 57, 2)] (by decide +kernel) rfl rfl ?_
    refine g_igt (off := 7) (tgt := 16) (pc2 := 12) (by decide +kernel) (by decide) rfl ?_ ?_
    · refine g_seg0 (pc' := 17) (L' := [some (vI v0)]) (st' := [vI 0]) (u1 := u) [(oC 0, 1)] (by decide +kernel) rfl rfl ?_
      exact g_zret (by decide +kernel) rfl
    · refine g_seg0 (pc' := 13) (L' := [some (vI v0)]) (st' := [vI 1]) (u1 := u) [(oC 1, 1)] (by decide +kernel) rfl rfl ?_
      refine g_goto (off := 4) (tgt := 17) (by decide +kernel) (by decide) ?_
      exact g_zret (by decide +kernel) rfl
theorem CX6_isDigit (v0 : Int32) (u : ab_S) : ab_C 0 yX6_isDigit cX6_isDigit 1 (some .boolean) 0 [vI v0] u wI (fX6_isDigit v0 u) := ab_entry (by decide +kernel) rfl (by decide) (by decide) (fun _ => Nat.le_of_ble_eq_true rfl) rfl (tX6_isDigit v0 u)
def fJ0_coder_7d493 (u : ab_S) : Option (Int32 × ab_S) :=
  bif decide (1 = 0) then (
    ab_gd [ab_y1 1] (some (1, u)))
  else (
    ab_gd [ab_y1 0] (some (0, u)))
theorem tJ0_coder_7d493 (u : ab_S) : ab_G 0 13 cJ0_coder_7d493 (some .byte) 0 0 [some (vR (kO 21) 0)] [] u wI (fJ0_coder_7d493 u) := by
  rw [fJ0_coder_7d493]
  refine g_seg0 (pc' := 3) (L' := [some (vR (kO 21) 0)]) (st' := [vI 1]) (u1 := u) [(oP (.getstatic 38), 3)] (by decide +kernel) rfl rfl ?_
  refine g_zeq (off := 10) (tgt := 13) (pc2 := 6) (by decide +kernel) (by decide) rfl ?_ ?_
  · refine g_seg0 (pc' := 14) (L' := [some (vR (kO 21) 0)]) (st' := [vI 1]) (u1 := u) [(oC 1, 1)] (by decide +kernel) rfl rfl ?_
    exact g_bret (by decide +kernel) rfl
  · refine g_seg0 (pc' := 10) (L' := [some (vR (kO 21) 0)]) (st' := [vI 0]) (u1 := u) [(oL 2 0, 1), (oP (.getfield 15), 3)] (by decide +kernel) rfl rfl ?_
    refine g_goto (off := 4) (tgt := 14) (by decide +kernel) (by decide) ?_
    exact g_bret (by decide +kernel) rfl
theorem CJ0_coder_7d493 (u : ab_S) : ab_C 0 yJ0_coder_7d493 cJ0_coder_7d493 1 (some .byte) 0 [vR (kO 21) 0] u wI (fJ0_coder_7d493 u) := ab_entry (by decide +kernel) rfl (by decide) (by decide) (fun _ => Nat.le_of_ble_eq_true rfl) rfl (tJ0_coder_7d493 u)
def fJ0_length_8abf5 (u : ab_S) : Option (Int32 × ab_S) :=
  (fJ0_coder_7d493 u).bind fun q1 =>
    some ((8 >>> (q1.1 &&& 31)), q1.2)
theorem tJ0_length_8abf5 (u : ab_S) : ab_G 0 13 cJ0_length_8abf5 (some .int) 1 0 [some (vR (kO 21) 0)] [] u wI (fJ0_length_8abf5 u) := by
  rw [fJ0_length_8abf5]
  refine g_seg0 (pc' := 6) (L' := [some (vR (kO 21) 0)]) (st' := [vR (kO 21) 0, vI 8]) (u1 := u) [(oL 2 0, 1), (oP (.getfield 9), 3), (oP .arraylength, 1), (oL 2 0, 1)] (by decide +kernel) rfl rfl ?_
  refine g_callK (k := 335) (pc2 := 9) (st := [vI 8]) (CJ0_coder_7d493 u) miJ0_coder_7d493 mvJ0_coder_7d493 lk13_335 wI_ok (by decide +kernel) rfl (Nat.le_of_ble_eq_true rfl) (by decide) rfl (fun q1 hq1 => ?_)
  refine g_seg0 (pc' := 10) (L' := [some (vR (kO 21) 0)]) (st' := [vI (8 >>> (q1.1 &&& 31))]) (u1 := q1.2) [(oP .ishr, 1)] (by decide +kernel) rfl rfl ?_
  exact g_iret (by decide +kernel) rfl
theorem CJ0_length_8abf5 (u : ab_S) : ab_C 0 yJ0_length_8abf5 cJ0_length_8abf5 1 (some .int) 1 [vR (kO 21) 0] u wI (fJ0_length_8abf5 u) := ab_entry (by decide +kernel) rfl (by decide) (by decide) (fun _ => Nat.le_of_ble_eq_true rfl) rfl (tJ0_length_8abf5 u)
def fJ0_isLatin1_aae02 (u : ab_S) : Option (Int32 × ab_S) :=
  bif decide (1 = 0) then (
    ab_gd [ab_b1 0] (some (0, u)))
  else (
    bif decide (0 = 0) then (
      ab_gd [ab_b1 1] (some (1, u)))
    else (
      ab_gd [ab_b1 0] (some (0, u))))
theorem tJ0_isLatin1_aae02 (u : ab_S) : ab_G 0 13 cJ0_isLatin1_aae02 (some .boolean) 0 0 [some (vR (kO 21) 0)] [] u wI (fJ0_isLatin1_aae02 u) := by
  rw [fJ0_isLatin1_aae02]
  refine g_seg0 (pc' := 3) (L' := [some (vR (kO 21) 0)]) (st' := [vI 1]) (u1 := u) [(oP (.getstatic 38), 3)] (by decide +kernel) rfl rfl ?_
  refine g_zeq (off := 14) (tgt := 17) (pc2 := 6) (by decide +kernel) (by decide) rfl ?_ ?_
  · refine g_seg0 (pc' := 18) (L' := [some (vR (kO 21) 0)]) (st' := [vI 0]) (u1 := u) [(oC 0, 1)] (by decide +kernel) rfl rfl ?_
    exact g_zret (by decide +kernel) rfl
  · refine g_seg0 (pc' := 10) (L' := [some (vR (kO 21) 0)]) (st' := [vI 0]) (u1 := u) [(oL 2 0, 1), (oP (.getfield 15), 3)] (by decide +kernel) rfl rfl ?_
    refine g_zne (off := 7) (tgt := 17) (pc2 := 13) (by decide +kernel) (by decide) rfl ?_ ?_
    · refine g_seg0 (pc' := 18) (L' := [some (vR (kO 21) 0)]) (st' := [vI 0]) (u1 := u) [(oC 0, 1)] (by decide +kernel) rfl rfl ?_
      exact g_zret (by decide +kernel) rfl
    · refine g_seg0 (pc' := 14) (L' := [some (vR (kO 21) 0)]) (st' := [vI 1]) (u1 := u) [(oC 1, 1)] (by decide +kernel) rfl rfl ?_
      refine g_goto (off := 4) (tgt := 18) (by decide +kernel) (by decide) ?_
      exact g_zret (by decide +kernel) rfl
theorem CJ0_isLatin1_aae02 (u : ab_S) : ab_C 0 yJ0_isLatin1_aae02 cJ0_isLatin1_aae02 1 (some .boolean) 0 [vR (kO 21) 0] u wI (fJ0_isLatin1_aae02 u) := ab_entry (by decide +kernel) rfl (by decide) (by decide) (fun _ => Nat.le_of_ble_eq_true rfl) rfl (tJ0_isLatin1_aae02 u)
def fJ1_indexOfChar_4cfef_7 : Nat → Int32 → Int32 → Int32 → ab_S → Option (Int32 × ab_S)
  | 0, _, _, _, _ => none
  | n + 1, v3, v4, v5, u =>
  bif decide (v5 < v3) then (
    ab_gd [ab_ix v5 8] (
      bif decide ((ab_by.getD (nc v5) 0) = v4) then (
        some (v5, u))
      else (
        (fJ1_indexOfChar_4cfef_7 n) v3 v4 (v5 + 1) u)))
  else (
    some ((-1), u))
theorem tJ1_indexOfChar_4cfef_7 : ∀ (n : Nat) (v3 : Int32) (v4 : Int32) (v5 : Int32) (u : ab_S), ab_G 0 14 cJ1_indexOfChar_4cfef (some .int) 0 7 [some (vR (kA 7 8) 0), none, none, some (vI v3), some (vI v4), some (vI v5)] [] u wI (fJ1_indexOfChar_4cfef_7 n v3 v4 v5 u) := by
  intro n
  induction n with
  | zero => intros; exact g_none
  | succ n ih =>
    intro v3 v4 v5 u
    rw [fJ1_indexOfChar_4cfef_7]
    refine g_seg0 (pc' := 10) (L' := [some (vR (kA 7 8) 0), none, none, some (vI v3), some (vI v4), some (vI v5)]) (st' := [vI v3, vI v5]) (u1 := u) [(oL 0 5, 2), (oL 0 3, 1)] (by decide +kernel) rfl rfl ?_
    refine g_ige (off := 21) (tgt := 31) (pc2 := 13) (by decide +kernel) (by decide) rfl ?_ ?_
    · refine g_seg0 (pc' := 32) (L' := [some (vR (kA 7 8) 0), none, none, some (vI v3), some (vI v4), some (vI v5)]) (st' := [vI (-1)]) (u1 := u) [(oC (-1), 1)] (by decide +kernel) rfl rfl ?_
      exact g_iret (by decide +kernel) rfl
    · refine g_seg (pc' := 19) (L' := [some (vR (kA 7 8) 0), none, none, some (vI v3), some (vI v4), some (vI v5)]) (st' := [vI v4, vI (ab_by.getD (nc v5) 0)]) (u1 := u) [(oL 2 0, 1), (oL 0 5, 2), (oP .baload, 1), (oL 0 4, 2)] (by decide +kernel) rfl rfl ?_
      refine g_ine (off := 6) (tgt := 25) (pc2 := 22) (by decide +kernel) (by decide) rfl ?_ ?_
      · refine g_seg0 (pc' := 28) (L' := [some (vR (kA 7 8) 0), none, none, some (vI v3), some (vI v4), some (vI (v5 + 1))]) (st' := []) (u1 := u) [(oN 5 1, 3)] (by decide +kernel) rfl rfl ?_
        refine g_goto (off := (-21)) (tgt := 7) (by decide +kernel) (by decide) ?_
        exact ih v3 v4 (v5 + 1) u
      · refine g_seg0 (pc' := 24) (L' := [some (vR (kA 7 8) 0), none, none, some (vI v3), some (vI v4), some (vI v5)]) (st' := [vI v5]) (u1 := u) [(oL 0 5, 2)] (by decide +kernel) rfl rfl ?_
        exact g_iret (by decide +kernel) rfl
def fJ1_indexOfChar_4cfef (v1 : Int32) (v2 : Int32) (v3 : Int32) (u : ab_S) : Option (Int32 × ab_S) :=
  fJ1_indexOfChar_4cfef_7 fu v3 ((Int32.toInt8 v1).toInt32) v2 u
theorem tJ1_indexOfChar_4cfef (v1 : Int32) (v2 : Int32) (v3 : Int32) (u : ab_S) : ab_G 0 14 cJ1_indexOfChar_4cfef (some .int) 0 0 [some (vR (kA 7 8) 0), some (vI v1), some (vI v2), some (vI v3), none, none] [] u wI (fJ1_indexOfChar_4cfef v1 v2 v3 u) := by
  rw [fJ1_indexOfChar_4cfef]
  refine g_seg0 (pc' := 7) (L' := [some (vR (kA 7 8) 0), some (vI v1), some (vI v2), some (vI v3), some (vI ((Int32.toInt8 v1).toInt32)), some (vI v2)]) (st' := []) (u1 := u) [(oL 0 1, 1), (oP .i2b, 1), (oL 3 4, 2), (oL 0 2, 1), (oL 3 5, 2)] (by decide +kernel) rfl rfl ?_
  exact g_jump [true, false, false, true, true, true] rfl (tJ1_indexOfChar_4cfef_7 fu v3 ((Int32.toInt8 v1).toInt32) v2 u)
theorem CJ1_indexOfChar_4cfef (v1 : Int32) (v2 : Int32) (v3 : Int32) (u : ab_S) : ab_C 0 yJ1_indexOfChar_4cfef cJ1_indexOfChar_4cfef 6 (some .int) 0 [vR (kA 7 8) 0, vI v1, vI v2, vI v3] u wI (fJ1_indexOfChar_4cfef v1 v2 v3 u) := ab_entry (by decide +kernel) rfl (by decide) (by decide) (fun _ => Nat.le_of_ble_eq_true rfl) rfl (tJ1_indexOfChar_4cfef v1 v2 v3 u)
def fJ1_canEncode_9a6ad (v0 : Int32) (u : ab_S) : Option (Int32 × ab_S) :=
  bif decide (v0 < 0) then (
    ab_gd [ab_b1 0] (some (0, u)))
  else (
    bif decide (v0 ≤ 255) then (
      ab_gd [ab_b1 1] (some (1, u)))
    else (
      ab_gd [ab_b1 0] (some (0, u))))
theorem tJ1_canEncode_9a6ad (v0 : Int32) (u : ab_S) : ab_G 0 14 cJ1_canEncode_9a6ad (some .boolean) 0 0 [some (vI v0)] [] u wI (fJ1_canEncode_9a6ad v0 u) := by
  rw [fJ1_canEncode_9a6ad]
  refine g_seg0 (pc' := 1) (L' := [some (vI v0)]) (st' := [vI v0]) (u1 := u) [(oL 0 0, 1)] (by decide +kernel) rfl rfl ?_
  refine g_zlt (off := 14) (tgt := 15) (pc2 := 4) (by decide +kernel) (by decide) rfl ?_ ?_
  · refine g_seg0 (pc' := 16) (L' := [some (vI v0)]) (st' := [vI 0]) (u1 := u) [(oC 0, 1)] (by decide +kernel) rfl rfl ?_
    exact g_zret (by decide +kernel) rfl
  · refine g_seg0 (pc' := 8) (L' := [some (vI v0)]) (st' := [vI 255, vI v0]) (u1 := u) [(oL 0 0, 1), (oC 255, 3)] (by decide +kernel) rfl rfl ?_
    refine g_igt (off := 7) (tgt := 15) (pc2 := 11) (by decide +kernel) (by decide) rfl ?_ ?_
    · refine g_seg0 (pc' := 16) (L' := [some (vI v0)]) (st' := [vI 0]) (u1 := u) [(oC 0, 1)] (by decide +kernel) rfl rfl ?_
      exact g_zret (by decide +kernel) rfl
    · refine g_seg0 (pc' := 12) (L' := [some (vI v0)]) (st' := [vI 1]) (u1 := u) [(oC 1, 1)] (by decide +kernel) rfl rfl ?_
      refine g_goto (off := 4) (tgt := 16) (by decide +kernel) (by decide) ?_
      exact g_zret (by decide +kernel) rfl
theorem CJ1_canEncode_9a6ad (v0 : Int32) (u : ab_S) : ab_C 0 yJ1_canEncode_9a6ad cJ1_canEncode_9a6ad 1 (some .boolean) 0 [vI v0] u wI (fJ1_canEncode_9a6ad v0 u) := ab_entry (by decide +kernel) rfl (by decide) (by decide) (fun _ => Nat.le_of_ble_eq_true rfl) rfl (tJ1_canEncode_9a6ad v0 u)
def fJ1_indexOf_4cfef (v1 : Int32) (v2 : Int32) (v3 : Int32) (u : ab_S) : Option (Int32 × ab_S) :=
  (fJ1_canEncode_9a6ad v1 u).bind fun q1 =>
    bif decide (q1.1 = 0) then (
      some ((-1), q1.2))
    else (
      bif decide ((if v2 < 0 then 0 else v2) < (if 8 < v3 then 8 else v3)) then (
        (fJ1_indexOfChar_4cfef v1 (if v2 < 0 then 0 else v2) (if 8 < v3 then 8 else v3) q1.2).bind fun q2 =>
          some (q2.1, q2.2))
      else (
        some ((-1), q1.2)))
theorem tJ1_indexOf_4cfef (v1 : Int32) (v2 : Int32) (v3 : Int32) (u : ab_S) : ab_G 0 14 cJ1_indexOf_4cfef (some .int) 1 0 [some (vR (kA 7 8) 0), some (vI v1), some (vI v2), some (vI v3)] [] u wI (fJ1_indexOf_4cfef v1 v2 v3 u) := by
  rw [fJ1_indexOf_4cfef]
  refine g_seg0 (pc' := 1) (L' := [some (vR (kA 7 8) 0), some (vI v1), some (vI v2), some (vI v3)]) (st' := [vI v1]) (u1 := u) [(oL 0 1, 1)] (by decide +kernel) rfl rfl ?_
  refine g_callS (k := 88) (pc2 := 4) (st := []) (CJ1_canEncode_9a6ad v1 u) miJ1_canEncode_9a6ad msJ1_canEncode_9a6ad lk14_88 wI_ok (by decide +kernel) rfl (Nat.le_of_ble_eq_true rfl) (by decide) rfl (fun q1 hq1 => ?_)
  refine g_zne (off := 5) (tgt := 9) (pc2 := 7) (by decide +kernel) (by decide) rfl ?_ ?_
  · refine g_seg0 (pc' := 11) (L' := [some (vR (kA 7 8) 0), some (vI v1), some (vI v2), some (vI v3)]) (st' := [vI 0, vI v2]) (u1 := q1.2) [(oL 0 2, 1), (oC 0, 1)] (by decide +kernel) rfl rfl ?_
    refine g_max (k := 92) (pc2 := 14) (st := []) lm14_92 (by decide +kernel) (Nat.le_of_ble_eq_true rfl) (by decide) rfl ?_
    refine g_seg0 (pc' := 18) (L' := [some (vR (kA 7 8) 0), some (vI v1), some (vI (if v2 < 0 then 0 else v2)), some (vI v3)]) (st' := [vI 8, vI v3]) (u1 := q1.2) [(oL 3 2, 1), (oL 0 3, 1), (oL 2 0, 1), (oP .arraylength, 1)] (by decide +kernel) rfl rfl ?_
    refine g_min (k := 38) (pc2 := 21) (st := []) lm14_38 (by decide +kernel) (Nat.le_of_ble_eq_true rfl) (by decide) rfl ?_
    refine g_seg0 (pc' := 24) (L' := [some (vR (kA 7 8) 0), some (vI v1), some (vI (if v2 < 0 then 0 else v2)), some (vI (if 8 < v3 then 8 else v3))]) (st' := [vI (if 8 < v3 then 8 else v3), vI (if v2 < 0 then 0 else v2)]) (u1 := q1.2) [(oL 3 3, 1), (oL 0 2, 1), (oL 0 3, 1)] (by decide +kernel) rfl rfl ?_
    refine g_ilt (off := 5) (tgt := 29) (pc2 := 27) (by decide +kernel) (by decide) rfl ?_ ?_
    · refine g_seg0 (pc' := 33) (L' := [some (vR (kA 7 8) 0), some (vI v1), some (vI (if v2 < 0 then 0 else v2)), some (vI (if 8 < v3 then 8 else v3))]) (st' := [vI (if 8 < v3 then 8 else v3), vI (if v2 < 0 then 0 else v2), vI v1, vR (kA 7 8) 0]) (u1 := q1.2) [(oL 2 0, 1), (oL 0 1, 1), (oL 0 2, 1), (oL 0 3, 1)] (by decide +kernel) rfl rfl ?_
      refine g_callS (k := 95) (pc2 := 36) (st := []) (CJ1_indexOfChar_4cfef v1 (if v2 < 0 then 0 else v2) (if 8 < v3 then 8 else v3) q1.2) miJ1_indexOfChar_4cfef msJ1_indexOfChar_4cfef lk14_95 wI_ok (by decide +kernel) rfl (Nat.le_of_ble_eq_true rfl) (by decide) rfl (fun q2 hq2 => ?_)
      exact g_iret (by decide +kernel) rfl
    · refine g_seg0 (pc' := 28) (L' := [some (vR (kA 7 8) 0), some (vI v1), some (vI (if v2 < 0 then 0 else v2)), some (vI (if 8 < v3 then 8 else v3))]) (st' := [vI (-1)]) (u1 := q1.2) [(oC (-1), 1)] (by decide +kernel) rfl rfl ?_
      exact g_iret (by decide +kernel) rfl
  · refine g_seg0 (pc' := 8) (L' := [some (vR (kA 7 8) 0), some (vI v1), some (vI v2), some (vI v3)]) (st' := [vI (-1)]) (u1 := q1.2) [(oC (-1), 1)] (by decide +kernel) rfl rfl ?_
    exact g_iret (by decide +kernel) rfl
theorem CJ1_indexOf_4cfef (v1 : Int32) (v2 : Int32) (v3 : Int32) (u : ab_S) : ab_C 0 yJ1_indexOf_4cfef cJ1_indexOf_4cfef 4 (some .int) 1 [vR (kA 7 8) 0, vI v1, vI v2, vI v3] u wI (fJ1_indexOf_4cfef v1 v2 v3 u) := ab_entry (by decide +kernel) rfl (by decide) (by decide) (fun _ => Nat.le_of_ble_eq_true rfl) rfl (tJ1_indexOf_4cfef v1 v2 v3 u)
def fJ0_indexOf_7cf53 (v1 : Int32) (v2 : Int32) (u : ab_S) : Option (Int32 × ab_S) :=
  (fJ0_isLatin1_aae02 u).bind fun q1 =>
    bif decide (q1.1 = 0) then (
      (fJ0_length_8abf5 q1.2).bind fun q2 =>
        none)
    else (
      (fJ0_length_8abf5 q1.2).bind fun q3 =>
        (fJ1_indexOf_4cfef v1 v2 q3.1 q3.2).bind fun q4 =>
          some (q4.1, q4.2))
theorem tJ0_indexOf_7cf53 (v1 : Int32) (v2 : Int32) (u : ab_S) : ab_G 0 13 cJ0_indexOf_7cf53 (some .int) 2 0 [some (vR (kO 21) 0), some (vI v1), some (vI v2)] [] u wI (fJ0_indexOf_7cf53 v1 v2 u) := by
  rw [fJ0_indexOf_7cf53]
  refine g_seg0 (pc' := 1) (L' := [some (vR (kO 21) 0), some (vI v1), some (vI v2)]) (st' := [vR (kO 21) 0]) (u1 := u) [(oL 2 0, 1)] (by decide +kernel) rfl rfl ?_
  refine g_callK (k := 492) (pc2 := 4) (st := []) (CJ0_isLatin1_aae02 u) miJ0_isLatin1_aae02 mvJ0_isLatin1_aae02 lk13_492 wI_ok (by decide +kernel) rfl (Nat.le_of_ble_eq_true rfl) (by decide) rfl (fun q1 hq1 => ?_)
  refine g_zeq (off := 19) (tgt := 23) (pc2 := 7) (by decide +kernel) (by decide) rfl ?_ ?_
  · refine g_seg0 (pc' := 30) (L' := [some (vR (kO 21) 0), some (vI v1), some (vI v2)]) (st' := [vR (kO 21) 0, vI v2, vI v1, vR (kA 7 8) 0]) (u1 := q1.2) [(oL 2 0, 1), (oP (.getfield 9), 3), (oL 0 1, 1), (oL 0 2, 1), (oL 2 0, 1)] (by decide +kernel) rfl rfl ?_
    refine g_callK (k := 505) (pc2 := 33) (st := [vI v2, vI v1, vR (kA 7 8) 0]) (CJ0_length_8abf5 q1.2) miJ0_length_8abf5 mvJ0_length_8abf5 lk13_505 wI_ok (by decide +kernel) rfl (Nat.le_of_ble_eq_true rfl) (by decide) rfl (fun q2 hq2 => ?_)
    exact g_none
  · refine g_seg0 (pc' := 14) (L' := [some (vR (kO 21) 0), some (vI v1), some (vI v2)]) (st' := [vR (kO 21) 0, vI v2, vI v1, vR (kA 7 8) 0]) (u1 := q1.2) [(oL 2 0, 1), (oP (.getfield 9), 3), (oL 0 1, 1), (oL 0 2, 1), (oL 2 0, 1)] (by decide +kernel) rfl rfl ?_
    refine g_callK (k := 505) (pc2 := 17) (st := [vI v2, vI v1, vR (kA 7 8) 0]) (CJ0_length_8abf5 q1.2) miJ0_length_8abf5 mvJ0_length_8abf5 lk13_505 wI_ok (by decide +kernel) rfl (Nat.le_of_ble_eq_true rfl) (by decide) rfl (fun q3 hq3 => ?_)
    refine g_callS (k := 637) (pc2 := 20) (st := []) (CJ1_indexOf_4cfef v1 v2 q3.1 q3.2) miJ1_indexOf_4cfef msJ1_indexOf_4cfef lk13_637 wI_ok (by decide +kernel) rfl (Nat.le_of_ble_eq_true rfl) (by decide) rfl (fun q4 hq4 => ?_)
    refine g_goto (off := 16) (tgt := 36) (by decide +kernel) (by decide) ?_
    exact g_iret (by decide +kernel) rfl
theorem CJ0_indexOf_7cf53 (v1 : Int32) (v2 : Int32) (u : ab_S) : ab_C 0 yJ0_indexOf_7cf53 cJ0_indexOf_7cf53 3 (some .int) 2 [vR (kO 21) 0, vI v1, vI v2] u wI (fJ0_indexOf_7cf53 v1 v2 u) := ab_entry (by decide +kernel) rfl (by decide) (by decide) (fun _ => Nat.le_of_ble_eq_true rfl) rfl (tJ0_indexOf_7cf53 v1 v2 u)
def fJ0_indexOf_0f7a4 (v1 : Int32) (u : ab_S) : Option (Int32 × ab_S) :=
  (fJ0_indexOf_7cf53 v1 0 u).bind fun q1 =>
    some (q1.1, q1.2)
theorem tJ0_indexOf_0f7a4 (v1 : Int32) (u : ab_S) : ab_G 0 13 cJ0_indexOf_0f7a4 (some .int) 3 0 [some (vR (kO 21) 0), some (vI v1)] [] u wI (fJ0_indexOf_0f7a4 v1 u) := by
  rw [fJ0_indexOf_0f7a4]
  refine g_seg0 (pc' := 3) (L' := [some (vR (kO 21) 0), some (vI v1)]) (st' := [vI 0, vI v1, vR (kO 21) 0]) (u1 := u) [(oL 2 0, 1), (oL 0 1, 1), (oC 0, 1)] (by decide +kernel) rfl rfl ?_
  refine g_callK (k := 633) (pc2 := 6) (st := []) (CJ0_indexOf_7cf53 v1 0 u) miJ0_indexOf_7cf53 mvJ0_indexOf_7cf53 lk13_633 wI_ok (by decide +kernel) rfl (Nat.le_of_ble_eq_true rfl) (by decide) rfl (fun q1 hq1 => ?_)
  exact g_iret (by decide +kernel) rfl
theorem CJ0_indexOf_0f7a4 (v1 : Int32) (u : ab_S) : ab_C 0 yJ0_indexOf_0f7a4 cJ0_indexOf_0f7a4 2 (some .int) 3 [vR (kO 21) 0, vI v1] u wI (fJ0_indexOf_0f7a4 v1 u) := ab_entry (by decide +kernel) rfl (by decide) (by decide) (fun _ => Nat.le_of_ble_eq_true rfl) rfl (tJ0_indexOf_0f7a4 v1 u)
def fX6_scanNumber_58 (v1 : Int32) (v2 : Int32) (v3 : Int64) (s1 : Int32) (u : ab_S) : Option (Int32 × ab_S) :=
  (fX6_add s1 v1 v3 u).bind fun q1 =>
    some (v2, q1.2)
theorem tX6_scanNumber_58 (v1 : Int32) (v2 : Int32) (v3 : Int64) (s1 : Int32) (u : ab_S) : ab_G 0 6 cX6_scanNumber (some .int) 1 58 [none, some (vI v1), some (vI v2), some (vL v3), none] [vI s1, vR (kO 6) 1] u wI (fX6_scanNumber_58 v1 v2 v3 s1 u) := by
  rw [fX6_scanNumber_58]
  refine g_seg0 (pc' := 60) (L' := [none, some (vI v1), some (vI v2), some (vL v3), none]) (st' := [vL v3, vI v1, vI s1, vR (kO 6) 1]) (u1 := u) [(oL 0 1, 1), (oL 1 3, 1)] (by decide +kernel) rfl rfl ?_
  refine g_callV (k := 52) (pc2 := 63) (st := []) (CX6_add s1 v1 v3 u) miX6_add mvX6_add rfl (by decide) lk6_52 wV_ok (by decide +kernel) rfl (Nat.le_of_ble_eq_true rfl) (by decide) rfl (fun q1 hq1 => ?_)
  refine g_seg0 (pc' := 64) (L' := [none, some (vI v1), some (vI v2), some (vL v3), none]) (st' := [vI v2]) (u1 := q1.2) [(oL 0 2, 1)] (by decide +kernel) rfl rfl ?_
  exact g_iret (by decide +kernel) rfl
def fX6_scanNumber_45 (v1 : Int32) (v2 : Int32) (v3 : Int64) (u : ab_S) : Option (Int32 × ab_S) :=
  bif decide ((v2 - v1) ≤ 4) then (
    fX6_scanNumber_58 v1 v2 v3 3 u)
  else (
    fX6_scanNumber_58 v1 v2 v3 1 u)
theorem tX6_scanNumber_45 (v1 : Int32) (v2 : Int32) (v3 : Int64) (u : ab_S) : ab_G 0 6 cX6_scanNumber (some .int) 1 45 [some (vR (kO 6) 1), some (vI v1), some (vI v2), some (vL v3), none] [] u wI (fX6_scanNumber_45 v1 v2 v3 u) := by
  rw [fX6_scanNumber_45]
  refine g_seg0 (pc' := 50) (L' := [some (vR (kO 6) 1), some (vI v1), some (vI v2), some (vL v3), none]) (st' := [vI 4, vI (v2 - v1), vR (kO 6) 1]) (u1 := u) [(oL 2 0, 1), (oL 0 2, 1), (oL 0 1, 1), (oP .isub, 1), (oC 4, 1)] (by decide +kernel) rfl rfl ?_
  refine g_igt (off := 7) (tgt := 57) (pc2 := 53) (by decide +kernel) (by decide) rfl ?_ ?_
  · refine g_seg0 (pc' := 58) (L' := [some (vR (kO 6) 1), some (vI v1), some (vI v2), some (vL v3), none]) (st' := [vI 1, vR (kO 6) 1]) (u1 := u) [(oC 1, 1)] (by decide +kernel) rfl rfl ?_
    exact g_jump [false, true, true, true, false] rfl (tX6_scanNumber_58 v1 v2 v3 1 u)
  · refine g_seg0 (pc' := 54) (L' := [some (vR (kO 6) 1), some (vI v1), some (vI v2), some (vL v3), none]) (st' := [vI 3, vR (kO 6) 1]) (u1 := u) [(oC 3, 1)] (by decide +kernel) rfl rfl ?_
    refine g_goto (off := 4) (tgt := 58) (by decide +kernel) (by decide) ?_
    exact g_jump [false, true, true, true, false] rfl (tX6_scanNumber_58 v1 v2 v3 3 u)
def fX6_scanNumber_4 : Nat → Int32 → Int32 → Int64 → ab_S → Option (Int32 × ab_S)
  | 0, _, _, _, _ => none
  | n + 1, v1, v2, v3, u =>
  bif decide (v2 < (u.1 1 1)) then (
    (fX6_signAt v2 u).bind fun q2 =>
      (fX6_isDigit q2.1 q2.2).bind fun q3 =>
        bif decide (q3.1 = 0) then (
          fX6_scanNumber_45 v1 v2 v3 q3.2)
        else (
          (fX6_signAt v2 q3.2).bind fun q4 =>
            (fX6_scanNumber_4 n) v1 (v2 + 1) ((v3 * 10) + (Int32.toInt64 (q4.1 - 48))) q4.2))
  else (
    fX6_scanNumber_45 v1 v2 v3 u)
theorem tX6_scanNumber_4 : ∀ (n : Nat) (v1 : Int32) (v2 : Int32) (v3 : Int64) (u : ab_S), ab_G 0 6 cX6_scanNumber (some .int) 1 4 [some (vR (kO 6) 1), some (vI v1), some (vI v2), some (vL v3), none] [] u wI (fX6_scanNumber_4 n v1 v2 v3 u) := by
  intro n
  induction n with
  | zero => intros; exact g_none
  | succ n ih =>
    intro v1 v2 v3 u
    rw [fX6_scanNumber_4]
    refine g_seg0 (pc' := 9) (L' := [some (vR (kO 6) 1), some (vI v1), some (vI v2), some (vL v3), none]) (st' := [vI (u.1 1 1), vI v2]) (u1 := u) [(oL 0 2, 1), (oL 2 0, 1), (oP (.getfield 28), 3)] (by decide +kernel) rfl rfl ?_
    refine g_ige (off := 36) (tgt := 45) (pc2 := 12) (by decide +kernel) (by decide) rfl ?_ ?_
    · exact tX6_scanNumber_45 v1 v2 v3 u
    · refine g_seg0 (pc' := 14) (L' := [some (vR (kO 6) 1), some (vI v1), some (vI v2), some (vL v3), none]) (st' := [vI v2, vR (kO 6) 1]) (u1 := u) [(oL 2 0, 1), (oL 0 2, 1)] (by decide +kernel) rfl rfl ?_
      refine g_callV (k := 38) (pc2 := 17) (st := []) (CX6_signAt v2 u) miX6_signAt mvX6_signAt rfl (by decide) lk6_38 wI_ok (by decide +kernel) rfl (Nat.le_of_ble_eq_true rfl) (by decide) rfl (fun q2 hq2 => ?_)
      refine g_callS (k := 69) (pc2 := 20) (st := []) (CX6_isDigit q2.1 q2.2) miX6_isDigit msX6_isDigit lk6_69 wI_ok (by decide +kernel) rfl (Nat.le_of_ble_eq_true rfl) (by decide) rfl (fun q3 hq3 => ?_)
      refine g_zeq (off := 25) (tgt := 45) (pc2 := 23) (by decide +kernel) (by decide) rfl ?_ ?_
      · exact tX6_scanNumber_45 v1 v2 v3 q3.2
      · refine g_seg0 (pc' := 30) (L' := [some (vR (kO 6) 1), some (vI v1), some (vI v2), some (vL v3), none]) (st' := [vI v2, vR (kO 6) 1, vL (v3 * 10)]) (u1 := q3.2) [(oL 1 3, 1), (oD 10, 3), (oP .lmul, 1), (oL 2 0, 1), (oL 0 2, 1)] (by decide +kernel) rfl rfl ?_
        refine g_callV (k := 38) (pc2 := 33) (st := [vL (v3 * 10)]) (CX6_signAt v2 q3.2) miX6_signAt mvX6_signAt rfl (by decide) lk6_38 wI_ok (by decide +kernel) rfl (Nat.le_of_ble_eq_true rfl) (by decide) rfl (fun q4 hq4 => ?_)
        refine g_seg0 (pc' := 42) (L' := [some (vR (kO 6) 1), some (vI v1), some (vI (v2 + 1)), some (vL ((v3 * 10) + (Int32.toInt64 (q4.1 - 48)))), none]) (st' := []) (u1 := q4.2) [(oC 48, 2), (oP .isub, 1), (oP .i2l, 1), (oP .ladd, 1), (oL 4 3, 1), (oN 2 1, 3)] (by decide +kernel) rfl rfl ?_
        refine g_goto (off := (-38)) (tgt := 4) (by decide +kernel) (by decide) ?_
        exact ih v1 (v2 + 1) ((v3 * 10) + (Int32.toInt64 (q4.1 - 48))) q4.2
def fX6_scanNumber (v1 : Int32) (u : ab_S) : Option (Int32 × ab_S) :=
  fX6_scanNumber_4 fu v1 v1 0 u
theorem tX6_scanNumber (v1 : Int32) (u : ab_S) : ab_G 0 6 cX6_scanNumber (some .int) 1 0 [some (vR (kO 6) 1), some (vI v1), none, none, none] [] u wI (fX6_scanNumber v1 u) := by
  rw [fX6_scanNumber]
  refine g_seg0 (pc' := 4) (L' := [some (vR (kO 6) 1), some (vI v1), some (vI v1), some (vL 0), none]) (st' := []) (u1 := u) [(oL 0 1, 1), (oL 3 2, 1), (oD 0, 1), (oL 4 3, 1)] (by decide +kernel) rfl rfl ?_
  exact tX6_scanNumber_4 fu v1 v1 0 u
theorem CX6_scanNumber (v1 : Int32) (u : ab_S) : ab_C 0 yX6_scanNumber cX6_scanNumber 5 (some .int) 1 [vR (kO 6) 1, vI v1] u wI (fX6_scanNumber v1 u) := ab_entry (by decide +kernel) rfl (by decide) (by decide) (fun _ => Nat.le_of_ble_eq_true rfl) rfl (tX6_scanNumber v1 u)
def fX6_scan_47 (v1 : Int32) (v2 : Int32) (s1 : Int32) (u : ab_S) : Option (Int32 × ab_S) :=
  (fX6_add s1 v1 (Int32.toInt64 v2) u).bind fun q1 =>
    some ((v1 + 1), q1.2)
theorem tX6_scan_47 (v1 : Int32) (v2 : Int32) (s1 : Int32) (u : ab_S) : ab_G 0 6 cX6_scan (some .int) 4 47 [none, some (vI v1), some (vI v2)] [vI s1, vR (kO 6) 1] u wI (fX6_scan_47 v1 v2 s1 u) := by
  rw [fX6_scan_47]
  refine g_seg0 (pc' := 50) (L' := [none, some (vI v1), some (vI v2)]) (st' := [vL (Int32.toInt64 v2), vI v1, vI s1, vR (kO 6) 1]) (u1 := u) [(oL 0 1, 1), (oL 0 2, 1), (oP .i2l, 1)] (by decide +kernel) rfl rfl ?_
  refine g_callV (k := 52) (pc2 := 53) (st := []) (CX6_add s1 v1 (Int32.toInt64 v2) u) miX6_add mvX6_add rfl (by decide) lk6_52 wV_ok (by decide +kernel) rfl (Nat.le_of_ble_eq_true rfl) (by decide) rfl (fun q1 hq1 => ?_)
  refine g_seg0 (pc' := 56) (L' := [none, some (vI v1), some (vI v2)]) (st' := [vI (v1 + 1)]) (u1 := q1.2) [(oL 0 1, 1), (oC 1, 1), (oP .iadd, 1)] (by decide +kernel) rfl rfl ?_
  exact g_iret (by decide +kernel) rfl
def fX6_scan (v1 : Int32) (u : ab_S) : Option (Int32 × ab_S) :=
  (fX6_signAt v1 u).bind fun q2 =>
    (fX6_isLetter q2.1 q2.2).bind fun q3 =>
      bif decide (q3.1 = 0) then (
        (fX6_isDigit q2.1 q3.2).bind fun q4 =>
          bif decide (q4.1 = 0) then (
            (fJ0_indexOf_0f7a4 q2.1 q4.2).bind fun q5 =>
              bif decide (q5.1 < 0) then (
                fX6_scan_47 v1 q2.1 1 q5.2)
              else (
                fX6_scan_47 v1 q2.1 4 q5.2))
          else (
            (fX6_scanNumber v1 q4.2).bind fun q6 =>
              some (q6.1, q6.2)))
      else (
        (fX6_scanWord v1 q3.2).bind fun q7 =>
          some (q7.1, q7.2))
theorem tX6_scan (v1 : Int32) (u : ab_S) : ab_G 0 6 cX6_scan (some .int) 4 0 [some (vR (kO 6) 1), some (vI v1), none] [] u wI (fX6_scan v1 u) := by
  rw [fX6_scan]
  refine g_seg0 (pc' := 2) (L' := [some (vR (kO 6) 1), some (vI v1), none]) (st' := [vI v1, vR (kO 6) 1]) (u1 := u) [(oL 2 0, 1), (oL 0 1, 1)] (by decide +kernel) rfl rfl ?_
  refine g_callV (k := 38) (pc2 := 5) (st := []) (CX6_signAt v1 u) miX6_signAt mvX6_signAt rfl (by decide) lk6_38 wI_ok (by decide +kernel) rfl (Nat.le_of_ble_eq_true rfl) (by decide) rfl (fun q2 hq2 => ?_)
  refine g_seg0 (pc' := 7) (L' := [some (vR (kO 6) 1), some (vI v1), some (vI (q2.1))]) (st' := [vI (q2.1)]) (u1 := q2.2) [(oL 3 2, 1), (oL 0 2, 1)] (by decide +kernel) rfl rfl ?_
  refine g_callS (k := 62) (pc2 := 10) (st := []) (CX6_isLetter q2.1 q2.2) miX6_isLetter msX6_isLetter lk6_62 wI_ok (by decide +kernel) rfl (Nat.le_of_ble_eq_true rfl) (by decide) rfl (fun q3 hq3 => ?_)
  refine g_zeq (off := 9) (tgt := 19) (pc2 := 13) (by decide +kernel) (by decide) rfl ?_ ?_
  · refine g_seg0 (pc' := 20) (L' := [some (vR (kO 6) 1), some (vI v1), some (vI (q2.1))]) (st' := [vI (q2.1)]) (u1 := q3.2) [(oL 0 2, 1)] (by decide +kernel) rfl rfl ?_
    refine g_callS (k := 69) (pc2 := 23) (st := []) (CX6_isDigit q2.1 q3.2) miX6_isDigit msX6_isDigit lk6_69 wI_ok (by decide +kernel) rfl (Nat.le_of_ble_eq_true rfl) (by decide) rfl (fun q4 hq4 => ?_)
    refine g_zeq (off := 9) (tgt := 32) (pc2 := 26) (by decide +kernel) (by decide) rfl ?_ ?_
    · refine g_seg0 (pc' := 36) (L' := [some (vR (kO 6) 1), some (vI v1), some (vI (q2.1))]) (st' := [vI (q2.1), vR (kO 21) 0, vR (kO 6) 1]) (u1 := q4.2) [(oL 2 0, 1), (oP (.ldc 75), 2), (oL 0 2, 1)] (by decide +kernel) rfl rfl ?_
      refine g_callK (k := 77) (pc2 := 39) (st := [vR (kO 6) 1]) (CJ0_indexOf_0f7a4 q2.1 q4.2) miJ0_indexOf_0f7a4 mvJ0_indexOf_0f7a4 lk6_77 wI_ok (by decide +kernel) rfl (Nat.le_of_ble_eq_true rfl) (by decide) rfl (fun q5 hq5 => ?_)
      refine g_zlt (off := 7) (tgt := 46) (pc2 := 42) (by decide +kernel) (by decide) rfl ?_ ?_
      · refine g_seg0 (pc' := 47) (L' := [some (vR (kO 6) 1), some (vI v1), some (vI (q2.1))]) (st' := [vI 1, vR (kO 6) 1]) (u1 := q5.2) [(oC 1, 1)] (by decide +kernel) rfl rfl ?_
        exact g_jump [false, true, true] rfl (tX6_scan_47 v1 q2.1 1 q5.2)
      · refine g_seg0 (pc' := 43) (L' := [some (vR (kO 6) 1), some (vI v1), some (vI (q2.1))]) (st' := [vI 4, vR (kO 6) 1]) (u1 := q5.2) [(oC 4, 1)] (by decide +kernel) rfl rfl ?_
        refine g_goto (off := 4) (tgt := 47) (by decide +kernel) (by decide) ?_
        exact g_jump [false, true, true] rfl (tX6_scan_47 v1 q2.1 4 q5.2)
    · refine g_seg0 (pc' := 28) (L' := [some (vR (kO 6) 1), some (vI v1), some (vI (q2.1))]) (st' := [vI v1, vR (kO 6) 1]) (u1 := q4.2) [(oL 2 0, 1), (oL 0 1, 1)] (by decide +kernel) rfl rfl ?_
      refine g_callV (k := 72) (pc2 := 31) (st := []) (CX6_scanNumber v1 q4.2) miX6_scanNumber mvX6_scanNumber rfl (by decide) lk6_72 wI_ok (by decide +kernel) rfl (Nat.le_of_ble_eq_true rfl) (by decide) rfl (fun q6 hq6 => ?_)
      exact g_iret (by decide +kernel) rfl
  · refine g_seg0 (pc' := 15) (L' := [some (vR (kO 6) 1), some (vI v1), some (vI (q2.1))]) (st' := [vI v1, vR (kO 6) 1]) (u1 := q3.2) [(oL 2 0, 1), (oL 0 1, 1)] (by decide +kernel) rfl rfl ?_
    refine g_callV (k := 66) (pc2 := 18) (st := []) (CX6_scanWord v1 q3.2) miX6_scanWord mvX6_scanWord rfl (by decide) lk6_66 wI_ok (by decide +kernel) rfl (Nat.le_of_ble_eq_true rfl) (by decide) rfl (fun q7 hq7 => ?_)
    exact g_iret (by decide +kernel) rfl
theorem CX6_scan (v1 : Int32) (u : ab_S) : ab_C 0 yX6_scan cX6_scan 3 (some .int) 4 [vR (kO 6) 1, vI v1] u wI (fX6_scan v1 u) := ab_entry (by decide +kernel) rfl (by decide) (by decide) (fun _ => Nat.le_of_ble_eq_true rfl) rfl (tX6_scan v1 u)
def fX6_step (u : ab_S) : Option (Unit × ab_S) :=
  bif decide (((u.1 1 6) + 1) < 0) then (
    some ((), u))
  else (
    bif decide (((u.1 1 6) + 1) < (u.1 1 5)) then (
      bif decide (((u.1 1 6) + 1) < 1001) then (
        bif decide (((u.1 1 6) + 1) < 1001) then (
          bif decide (((u.1 1 6) + 1) < 1001) then (
            ab_gd [ab_ix ((u.1 1 6) + 1) 1001, ab_ix ((u.1 1 6) + 1) 1001, ab_ix ((u.1 1 6) + 1) 1001] (
              some ((), (sJ (sI (sI (sI u 1 6 ((u.1 1 6) + 1)) 1 7 ((sI u 1 6 ((u.1 1 6) + 1)).1 3 (nc ((u.1 1 6) + 1)))) 1 8 ((sI (sI u 1 6 ((u.1 1 6) + 1)) 1 7 ((sI u 1 6 ((u.1 1 6) + 1)).1 3 (nc ((u.1 1 6) + 1)))).1 4 (nc ((u.1 1 6) + 1)))) 1 9 ((sI (sI (sI u 1 6 ((u.1 1 6) + 1)) 1 7 ((sI u 1 6 ((u.1 1 6) + 1)).1 3 (nc ((u.1 1 6) + 1)))) 1 8 ((sI (sI u 1 6 ((u.1 1 6) + 1)) 1 7 ((sI u 1 6 ((u.1 1 6) + 1)).1 3 (nc ((u.1 1 6) + 1)))).1 4 (nc ((u.1 1 6) + 1)))).2.1 5 (nc ((u.1 1 6) + 1)))))))
          else (
            some ((), u)))
        else (
          some ((), u)))
      else (
        some ((), u)))
    else (
      some ((), u)))
theorem tX6_step (u : ab_S) : ab_G 0 6 cX6_step none 0 0 [some (vR (kO 6) 1), none] [] u wV (fX6_step u) := by
  rw [fX6_step]
  refine g_seg0 (pc' := 8) (L' := [some (vR (kO 6) 1), some (vI ((u.1 1 6) + 1))]) (st' := [vI ((u.1 1 6) + 1)]) (u1 := u) [(oL 2 0, 1), (oP (.getfield 56), 3), (oC 1, 1), (oP .iadd, 1), (oL 3 1, 1), (oL 0 1, 1)] (by decide +kernel) rfl rfl ?_
  refine g_zlt (off := 73) (tgt := 81) (pc2 := 11) (by decide +kernel) (by decide) rfl ?_ ?_
  · exact g_vret (by decide +kernel) rfl
  · refine g_seg0 (pc' := 16) (L' := [some (vR (kO 6) 1), some (vI ((u.1 1 6) + 1))]) (st' := [vI (u.1 1 5), vI ((u.1 1 6) + 1)]) (u1 := u) [(oL 0 1, 1), (oL 2 0, 1), (oP (.getfield 32), 3)] (by decide +kernel) rfl rfl ?_
    refine g_ige (off := 65) (tgt := 81) (pc2 := 19) (by decide +kernel) (by decide) rfl ?_ ?_
    · exact g_vret (by decide +kernel) rfl
    · refine g_seg0 (pc' := 25) (L' := [some (vR (kO 6) 1), some (vI ((u.1 1 6) + 1))]) (st' := [vI 1001, vI ((u.1 1 6) + 1)]) (u1 := u) [(oL 0 1, 1), (oL 2 0, 1), (oP (.getfield 15), 3), (oP .arraylength, 1)] (by decide +kernel) rfl rfl ?_
      refine g_ige (off := 56) (tgt := 81) (pc2 := 28) (by decide +kernel) (by decide) rfl ?_ ?_
      · exact g_vret (by decide +kernel) rfl
      · refine g_seg0 (pc' := 34) (L' := [some (vR (kO 6) 1), some (vI ((u.1 1 6) + 1))]) (st' := [vI 1001, vI ((u.1 1 6) + 1)]) (u1 := u) [(oL 0 1, 1), (oL 2 0, 1), (oP (.getfield 19), 3), (oP .arraylength, 1)] (by decide +kernel) rfl rfl ?_
        refine g_ige (off := 47) (tgt := 81) (pc2 := 37) (by decide +kernel) (by decide) rfl ?_ ?_
        · exact g_vret (by decide +kernel) rfl
        · refine g_seg0 (pc' := 43) (L' := [some (vR (kO 6) 1), some (vI ((u.1 1 6) + 1))]) (st' := [vI 1001, vI ((u.1 1 6) + 1)]) (u1 := u) [(oL 0 1, 1), (oL 2 0, 1), (oP (.getfield 22), 3), (oP .arraylength, 1)] (by decide +kernel) rfl rfl ?_
          refine g_ige (off := 38) (tgt := 81) (pc2 := 46) (by decide +kernel) (by decide) rfl ?_ ?_
          · exact g_vret (by decide +kernel) rfl
          · refine g_seg (pc' := 81) (L' := [some (vR (kO 6) 1), some (vI ((u.1 1 6) + 1))]) (st' := []) (u1 := (sJ (sI (sI (sI u 1 6 ((u.1 1 6) + 1)) 1 7 ((sI u 1 6 ((u.1 1 6) + 1)).1 3 (nc ((u.1 1 6) + 1)))) 1 8 ((sI (sI u 1 6 ((u.1 1 6) + 1)) 1 7 ((sI u 1 6 ((u.1 1 6) + 1)).1 3 (nc ((u.1 1 6) + 1)))).1 4 (nc ((u.1 1 6) + 1)))) 1 9 ((sI (sI (sI u 1 6 ((u.1 1 6) + 1)) 1 7 ((sI u 1 6 ((u.1 1 6) + 1)).1 3 (nc ((u.1 1 6) + 1)))) 1 8 ((sI (sI u 1 6 ((u.1 1 6) + 1)) 1 7 ((sI u 1 6 ((u.1 1 6) + 1)).1 3 (nc ((u.1 1 6) + 1)))).1 4 (nc ((u.1 1 6) + 1)))).2.1 5 (nc ((u.1 1 6) + 1))))) [(oL 2 0, 1), (oL 0 1, 1), (oP (.putfield 56), 3), (oL 2 0, 1), (oL 2 0, 1), (oP (.getfield 15), 3), (oL 0 1, 1), (oP .iaload, 1), (oP (.putfield 88), 3), (oL 2 0, 1), (oL 2 0, 1), (oP (.getfield 19), 3), (oL 0 1, 1), (oP .iaload, 1), (oP (.putfield 91), 3), (oL 2 0, 1), (oL 2 0, 1), (oP (.getfield 22), 3), (oL 0 1, 1), (oP .laload, 1), (oP (.putfield 94), 3)] (by decide +kernel) rfl rfl ?_
            exact g_vret (by decide +kernel) rfl
theorem CX6_step (u : ab_S) : ab_C 0 yX6_step cX6_step 2 none 0 [vR (kO 6) 1] u wV (fX6_step u) := ab_entry (by decide +kernel) rfl (by decide) (by decide) (fun _ => Nat.le_of_ble_eq_true rfl) rfl (tX6_step u)
def fX6_split_43 (k12 : Int32 → ab_S → Option (Unit × ab_S)) (v1 : Int32) (s0 : Int32) (u : ab_S) : Option (Unit × ab_S) :=
  bif decide (s0 = 0) then (
    (fX6_scan v1 u).bind fun q1 =>
      k12 (if q1.1 < (v1 + 1) then (v1 + 1) else q1.1) q1.2)
  else (
    k12 (v1 + 1) u)
theorem tX6_split_43 (k12 : Int32 → ab_S → Option (Unit × ab_S)) (hk12 : ∀ (v1 : Int32) (u : ab_S), ab_G 0 6 cX6_split none 5 12 [some (vR (kO 6) 1), some (vI v1), none, none] [] u wV (k12 v1 u)) (v1 : Int32) (s0 : Int32) (u : ab_S) : ab_G 0 6 cX6_split none 5 43 [some (vR (kO 6) 1), some (vI v1), none, none] [vI s0] u wV (fX6_split_43 k12 v1 s0 u) := by
  rw [fX6_split_43]
  refine g_seg0 (pc' := 45) (L' := [some (vR (kO 6) 1), some (vI v1), none, some (vI s0)]) (st' := [vI s0]) (u1 := u) [(oL 3 3, 1), (oL 0 3, 1)] (by decide +kernel) rfl rfl ?_
  refine g_zeq (off := 9) (tgt := 54) (pc2 := 48) (by decide +kernel) (by decide) rfl ?_ ?_
  · refine g_seg0 (pc' := 56) (L' := [some (vR (kO 6) 1), some (vI v1), none, some (vI s0)]) (st' := [vI v1, vR (kO 6) 1]) (u1 := u) [(oL 2 0, 1), (oL 0 1, 1)] (by decide +kernel) rfl rfl ?_
    refine g_callV (k := 42) (pc2 := 59) (st := []) (CX6_scan v1 u) miX6_scan mvX6_scan rfl (by decide) lk6_42 wI_ok (by decide +kernel) rfl (Nat.le_of_ble_eq_true rfl) (by decide) rfl (fun q1 hq1 => ?_)
    refine g_seg0 (pc' := 62) (L' := [some (vR (kO 6) 1), some (vI v1), none, some (vI s0)]) (st' := [vI (v1 + 1), vI (q1.1)]) (u1 := q1.2) [(oL 0 1, 1), (oC 1, 1), (oP .iadd, 1)] (by decide +kernel) rfl rfl ?_
    refine g_max (k := 46) (pc2 := 65) (st := []) lm6_46 (by decide +kernel) (Nat.le_of_ble_eq_true rfl) (by decide) rfl ?_
    refine g_seg0 (pc' := 66) (L' := [some (vR (kO 6) 1), some (vI (if q1.1 < (v1 + 1) then (v1 + 1) else q1.1)), none, some (vI s0)]) (st' := []) (u1 := q1.2) [(oL 3 1, 1)] (by decide +kernel) rfl rfl ?_
    refine g_goto (off := (-54)) (tgt := 12) (by decide +kernel) (by decide) ?_
    exact g_jump [true, true, false, false] rfl (hk12 (if q1.1 < (v1 + 1) then (v1 + 1) else q1.1) q1.2)
  · refine g_seg0 (pc' := 51) (L' := [some (vR (kO 6) 1), some (vI v1), none, some (vI s0)]) (st' := [vI (v1 + 1)]) (u1 := u) [(oL 0 1, 1), (oC 1, 1), (oP .iadd, 1)] (by decide +kernel) rfl rfl ?_
    refine g_goto (off := 14) (tgt := 65) (by decide +kernel) (by decide) ?_
    refine g_seg0 (pc' := 66) (L' := [some (vR (kO 6) 1), some (vI (v1 + 1)), none, some (vI s0)]) (st' := []) (u1 := u) [(oL 3 1, 1)] (by decide +kernel) rfl rfl ?_
    refine g_goto (off := (-54)) (tgt := 12) (by decide +kernel) (by decide) ?_
    exact g_jump [true, true, false, false] rfl (hk12 (v1 + 1) u)
def fX6_split_12 : Nat → Int32 → ab_S → Option (Unit × ab_S)
  | 0, _, _ => none
  | n + 1, v1, u =>
  bif decide (v1 < (u.1 1 1)) then (
    (fX6_signAt v1 u).bind fun q4 =>
      bif decide (q4.1 = 10) then (
        fX6_split_43 (fX6_split_12 n) v1 1 q4.2)
      else (
        bif decide (q4.1 = 32) then (
          fX6_split_43 (fX6_split_12 n) v1 1 q4.2)
        else (
          fX6_split_43 (fX6_split_12 n) v1 0 q4.2)))
  else (
    (fX6_add 0 (u.1 1 1) 0 u).bind fun q2 =>
      (fX6_step (sI (sI q2.2 1 1 0) 1 6 (-1))).bind fun q3 =>
        some ((), q3.2))
theorem tX6_split_12 : ∀ (n : Nat) (v1 : Int32) (u : ab_S), ab_G 0 6 cX6_split none 5 12 [some (vR (kO 6) 1), some (vI v1), none, none] [] u wV (fX6_split_12 n v1 u) := by
  intro n
  induction n with
  | zero => intros; exact g_none
  | succ n ih =>
    intro v1 u
    rw [fX6_split_12]
    refine g_seg0 (pc' := 17) (L' := [some (vR (kO 6) 1), some (vI v1), none, none]) (st' := [vI (u.1 1 1), vI v1]) (u1 := u) [(oL 0 1, 1), (oL 2 0, 1), (oP (.getfield 28), 3)] (by decide +kernel) rfl rfl ?_
    refine g_ige (off := 52) (tgt := 69) (pc2 := 20) (by decide +kernel) (by decide) rfl ?_ ?_
    · refine g_seg0 (pc' := 76) (L' := [some (vR (kO 6) 1), some (vI v1), none, none]) (st' := [vL 0, vI (u.1 1 1), vI 0, vR (kO 6) 1]) (u1 := u) [(oL 2 0, 1), (oC 0, 1), (oL 2 0, 1), (oP (.getfield 28), 3), (oD 0, 1)] (by decide +kernel) rfl rfl ?_
      refine g_callV (k := 52) (pc2 := 79) (st := []) (CX6_add 0 (u.1 1 1) 0 u) miX6_add mvX6_add rfl (by decide) lk6_52 wV_ok (by decide +kernel) rfl (Nat.le_of_ble_eq_true rfl) (by decide) rfl (fun q2 hq2 => ?_)
      refine g_seg0 (pc' := 90) (L' := [some (vR (kO 6) 1), some (vI v1), none, none]) (st' := [vR (kO 6) 1]) (u1 := (sI (sI q2.2 1 1 0) 1 6 (-1))) [(oL 2 0, 1), (oC 0, 1), (oP (.putfield 28), 3), (oL 2 0, 1), (oC (-1), 1), (oP (.putfield 56), 3), (oL 2 0, 1)] (by decide +kernel) rfl rfl ?_
      refine g_callV (k := 59) (pc2 := 93) (st := []) (CX6_step (sI (sI q2.2 1 1 0) 1 6 (-1))) miX6_step mvX6_step rfl (by decide) lk6_59 wV_ok (by decide +kernel) rfl (Nat.le_of_ble_eq_true rfl) (by decide) rfl (fun q3 hq3 => ?_)
      exact g_vret (by decide +kernel) rfl
    · refine g_seg0 (pc' := 22) (L' := [some (vR (kO 6) 1), some (vI v1), none, none]) (st' := [vI v1, vR (kO 6) 1]) (u1 := u) [(oL 2 0, 1), (oL 0 1, 1)] (by decide +kernel) rfl rfl ?_
      refine g_callV (k := 38) (pc2 := 25) (st := []) (CX6_signAt v1 u) miX6_signAt mvX6_signAt rfl (by decide) lk6_38 wI_ok (by decide +kernel) rfl (Nat.le_of_ble_eq_true rfl) (by decide) rfl (fun q4 hq4 => ?_)
      refine g_seg0 (pc' := 29) (L' := [some (vR (kO 6) 1), some (vI v1), some (vI (q4.1)), none]) (st' := [vI 10, vI (q4.1)]) (u1 := q4.2) [(oL 3 2, 1), (oL 0 2, 1), (oC 10, 2)] (by decide +kernel) rfl rfl ?_
      refine g_ieq (off := 9) (tgt := 38) (pc2 := 32) (by decide +kernel) (by decide) rfl ?_ ?_
      · refine g_seg0 (pc' := 39) (L' := [some (vR (kO 6) 1), some (vI v1), some (vI (q4.1)), none]) (st' := [vI 1]) (u1 := q4.2) [(oC 1, 1)] (by decide +kernel) rfl rfl ?_
        refine g_goto (off := 4) (tgt := 43) (by decide +kernel) (by decide) ?_
        exact g_jump [true, true, false, false] rfl (tX6_split_43 (fX6_split_12 n) ih v1 1 q4.2)
      · refine g_seg0 (pc' := 35) (L' := [some (vR (kO 6) 1), some (vI v1), some (vI (q4.1)), none]) (st' := [vI 32, vI (q4.1)]) (u1 := q4.2) [(oL 0 2, 1), (oC 32, 2)] (by decide +kernel) rfl rfl ?_
        refine g_ine (off := 7) (tgt := 42) (pc2 := 38) (by decide +kernel) (by decide) rfl ?_ ?_
        · refine g_seg0 (pc' := 43) (L' := [some (vR (kO 6) 1), some (vI v1), some (vI (q4.1)), none]) (st' := [vI 0]) (u1 := q4.2) [(oC 0, 1)] (by decide +kernel) rfl rfl ?_
          exact g_jump [true, true, false, false] rfl (tX6_split_43 (fX6_split_12 n) ih v1 0 q4.2)
        · refine g_seg0 (pc' := 39) (L' := [some (vR (kO 6) 1), some (vI v1), some (vI (q4.1)), none]) (st' := [vI 1]) (u1 := q4.2) [(oC 1, 1)] (by decide +kernel) rfl rfl ?_
          refine g_goto (off := 4) (tgt := 43) (by decide +kernel) (by decide) ?_
          exact g_jump [true, true, false, false] rfl (tX6_split_43 (fX6_split_12 n) ih v1 1 q4.2)
def fX6_split (u : ab_S) : Option (Unit × ab_S) :=
  fX6_split_12 fu 0 (sI (sI u 1 5 0) 1 10 0)
theorem tX6_split (u : ab_S) : ab_G 0 6 cX6_split none 5 0 [some (vR (kO 6) 1), none, none, none] [] u wV (fX6_split u) := by
  rw [fX6_split]
  refine g_seg0 (pc' := 12) (L' := [some (vR (kO 6) 1), some (vI 0), none, none]) (st' := []) (u1 := (sI (sI u 1 5 0) 1 10 0)) [(oL 2 0, 1), (oC 0, 1), (oP (.putfield 32), 3), (oL 2 0, 1), (oC 0, 1), (oP (.putfield 35), 3), (oC 0, 1), (oL 3 1, 1)] (by decide +kernel) rfl rfl ?_
  exact tX6_split_12 fu 0 (sI (sI u 1 5 0) 1 10 0)
theorem CX6_split (u : ab_S) : ab_C 0 yX6_split cX6_split 4 none 5 [vR (kO 6) 1] u wV (fX6_split u) := ab_entry (by decide +kernel) rfl (by decide) (by decide) (fun _ => Nat.le_of_ble_eq_true rfl) rfl (tX6_split u)
def fX6_isName_19 : Nat → Int32 → Int32 → ab_S → Option (Int32 × ab_S)
  | 0, _, _, _ => none
  | n + 1, v2, v3, u =>
  bif decide (v3 < v2) then (
    ab_gd [ab_ix v3 23] (
      bif decide ((ab_wr.getD (nc v3) 0) = 0) then (
        (fX6_isName_19 n) v2 (v3 + 1) u)
      else (
        bif decide ((ab_wl.getD (nc v3) 0) = (u.2.1 1 9)) then (
          ab_gd [ab_b1 0] (some (0, u)))
        else (
          (fX6_isName_19 n) v2 (v3 + 1) u))))
  else (
    ab_gd [ab_b1 1] (some (1, u)))
theorem tX6_isName_19 : ∀ (n : Nat) (v2 : Int32) (v3 : Int32) (u : ab_S), ab_G 0 6 cX6_isName (some .boolean) 0 19 [some (vR (kO 6) 1), some (vR (kA 6 23) 0), some (vI v2), some (vI v3), none] [] u wI (fX6_isName_19 n v2 v3 u) := by
  intro n
  induction n with
  | zero => intros; exact g_none
  | succ n ih =>
    intro v2 v3 u
    rw [fX6_isName_19]
    refine g_seg0 (pc' := 21) (L' := [some (vR (kO 6) 1), some (vR (kA 6 23) 0), some (vI v2), some (vI v3), none]) (st' := [vI v2, vI v3]) (u1 := u) [(oL 0 3, 1), (oL 0 2, 1)] (by decide +kernel) rfl rfl ?_
    refine g_ige (off := 37) (tgt := 58) (pc2 := 24) (by decide +kernel) (by decide) rfl ?_ ?_
    · refine g_seg0 (pc' := 59) (L' := [some (vR (kO 6) 1), some (vR (kA 6 23) 0), some (vI v2), some (vI v3), none]) (st' := [vI 1]) (u1 := u) [(oC 1, 1)] (by decide +kernel) rfl rfl ?_
      exact g_zret (by decide +kernel) rfl
    · refine g_seg (pc' := 34) (L' := [some (vR (kO 6) 1), some (vR (kA 6 23) 0), some (vI v2), some (vI v3), some (vR (kO 20) (nc v3))]) (st' := [vI (ab_wr.getD (nc v3) 0)]) (u1 := u) [(oL 2 1, 1), (oL 0 3, 1), (oP .aaload, 1), (oL 5 4, 2), (oL 2 4, 2), (oP (.getfield 107), 3)] (by decide +kernel) rfl rfl ?_
      refine g_zeq (off := 18) (tgt := 52) (pc2 := 37) (by decide +kernel) (by decide) rfl ?_ ?_
      · refine g_seg0 (pc' := 55) (L' := [some (vR (kO 6) 1), some (vR (kA 6 23) 0), some (vI v2), some (vI (v3 + 1)), some (vR (kO 20) (nc v3))]) (st' := []) (u1 := u) [(oN 3 1, 3)] (by decide +kernel) rfl rfl ?_
        refine g_goto (off := (-36)) (tgt := 19) (by decide +kernel) (by decide) ?_
        exact g_jump [true, true, true, true, false] rfl (ih v2 (v3 + 1) u)
      · refine g_seg0 (pc' := 46) (L' := [some (vR (kO 6) 1), some (vR (kA 6 23) 0), some (vI v2), some (vI v3), some (vR (kO 20) (nc v3))]) (st' := [vL (u.2.1 1 9), vL (ab_wl.getD (nc v3) 0)]) (u1 := u) [(oL 2 4, 2), (oP (.getfield 98), 3), (oL 2 0, 1), (oP (.getfield 94), 3)] (by decide +kernel) rfl rfl ?_
        refine g_lne (off := 5) (tgt := 52) (pc1 := 47) (pc2 := 50) (by decide +kernel) rfl (by decide +kernel) (by decide) rfl ?_ ?_
        · refine g_seg0 (pc' := 55) (L' := [some (vR (kO 6) 1), some (vR (kA 6 23) 0), some (vI v2), some (vI (v3 + 1)), some (vR (kO 20) (nc v3))]) (st' := []) (u1 := u) [(oN 3 1, 3)] (by decide +kernel) rfl rfl ?_
          refine g_goto (off := (-36)) (tgt := 19) (by decide +kernel) (by decide) ?_
          exact g_jump [true, true, true, true, false] rfl (ih v2 (v3 + 1) u)
        · refine g_seg0 (pc' := 51) (L' := [some (vR (kO 6) 1), some (vR (kA 6 23) 0), some (vI v2), some (vI v3), some (vR (kO 20) (nc v3))]) (st' := [vI 0]) (u1 := u) [(oC 0, 1)] (by decide +kernel) rfl rfl ?_
          exact g_zret (by decide +kernel) rfl
def fX6_isName (u : ab_S) : Option (Int32 × ab_S) :=
  bif decide ((u.1 1 7) = 2) then (
    fX6_isName_19 fu 23 0 u)
  else (
    ab_gd [ab_b1 0] (some (0, u)))
theorem tX6_isName (u : ab_S) : ab_G 0 6 cX6_isName (some .boolean) 0 0 [some (vR (kO 6) 1), none, none, none, none] [] u wI (fX6_isName u) := by
  rw [fX6_isName]
  refine g_seg0 (pc' := 5) (L' := [some (vR (kO 6) 1), none, none, none, none]) (st' := [vI 2, vI (u.1 1 7)]) (u1 := u) [(oL 2 0, 1), (oP (.getfield 88), 3), (oC 2, 1)] (by decide +kernel) rfl rfl ?_
  refine g_ieq (off := 5) (tgt := 10) (pc2 := 8) (by decide +kernel) (by decide) rfl ?_ ?_
  · refine g_seg0 (pc' := 19) (L' := [some (vR (kO 6) 1), some (vR (kA 6 23) 0), some (vI 23), some (vI 0), none]) (st' := []) (u1 := u) [(oP (.getstatic 103), 3), (oL 5 1, 1), (oL 2 1, 1), (oP .arraylength, 1), (oL 3 2, 1), (oC 0, 1), (oL 3 3, 1)] (by decide +kernel) rfl rfl ?_
    exact tX6_isName_19 fu 23 0 u
  · refine g_seg0 (pc' := 9) (L' := [some (vR (kO 6) 1), none, none, none, none]) (st' := [vI 0]) (u1 := u) [(oC 0, 1)] (by decide +kernel) rfl rfl ?_
    exact g_zret (by decide +kernel) rfl
theorem CX6_isName (u : ab_S) : ab_C 0 yX6_isName cX6_isName 5 (some .boolean) 0 [vR (kO 6) 1] u wI (fX6_isName u) := ab_entry (by decide +kernel) rfl (by decide) (by decide) (fun _ => Nat.le_of_ble_eq_true rfl) rfl (tX6_isName u)
def fX6_fail (v1 : Int32) (u : ab_S) : Option (Int32 × ab_S) :=
  ab_gd [ab_b1 0] (some (0, (sI u 1 10 (v1 + (16 * (u.1 1 8))))))
theorem tX6_fail (v1 : Int32) (u : ab_S) : ab_G 0 6 cX6_fail (some .boolean) 0 0 [some (vR (kO 6) 1), some (vI v1)] [] u wI (fX6_fail v1 u) := by
  rw [fX6_fail]
  refine g_seg0 (pc' := 14) (L' := [some (vR (kO 6) 1), some (vI v1)]) (st' := [vI 0]) (u1 := (sI u 1 10 (v1 + (16 * (u.1 1 8))))) [(oL 2 0, 1), (oL 0 1, 1), (oC 16, 2), (oL 2 0, 1), (oP (.getfield 91), 3), (oP .imul, 1), (oP .iadd, 1), (oP (.putfield 35), 3), (oC 0, 1)] (by decide +kernel) rfl rfl ?_
  exact g_zret (by decide +kernel) rfl
theorem CX6_fail (v1 : Int32) (u : ab_S) : ab_C 0 yX6_fail cX6_fail 2 (some .boolean) 0 [vR (kO 6) 1, vI v1] u wI (fX6_fail v1 u) := ab_entry (by decide +kernel) rfl (by decide) (by decide) (fun _ => Nat.le_of_ble_eq_true rfl) rfl (tX6_fail v1 u)
def fX9_indexOf_3 (n0 : Nat) (o0 : Nat) : Nat → Int32 → Int64 → Int32 → ab_S → Option (Int32 × ab_S)
  | 0, _, _, _, _ => none
  | n + 1, v1, v2, v4, u =>
  bif decide (v4 < v1) then (
    bif decide (v4 < (Int32.ofNat n0)) then (
      ab_gd [ab_ix v4 n0] (
        bif decide ((u.2.1 o0 (nc v4)) = v2) then (
          some (v4, u))
        else (
          (fX9_indexOf_3 n0 o0 n) v1 v2 (v4 + 1) u)))
    else (
      some ((-1), u)))
  else (
    some ((-1), u))
theorem tX9_indexOf_3 (n0 : Nat) (o0 : Nat) : ∀ (n : Nat) (v1 : Int32) (v2 : Int64) (v4 : Int32) (u : ab_S), ab_G 0 8 cX9_indexOf (some .int) 0 3 [some (vR (kA 1 n0) o0), some (vI v1), some (vL v2), none, some (vI v4)] [] u wI (fX9_indexOf_3 n0 o0 n v1 v2 v4 u) := by
  intro n
  induction n with
  | zero => intros; exact g_none
  | succ n ih =>
    intro v1 v2 v4 u
    rw [fX9_indexOf_3]
    refine g_seg0 (pc' := 6) (L' := [some (vR (kA 1 n0) o0), some (vI v1), some (vL v2), none, some (vI v4)]) (st' := [vI v1, vI v4]) (u1 := u) [(oL 0 4, 2), (oL 0 1, 1)] (by decide +kernel) rfl rfl ?_
    refine g_ige (off := 28) (tgt := 34) (pc2 := 9) (by decide +kernel) (by decide) rfl ?_ ?_
    · refine g_seg0 (pc' := 35) (L' := [some (vR (kA 1 n0) o0), some (vI v1), some (vL v2), none, some (vI v4)]) (st' := [vI (-1)]) (u1 := u) [(oC (-1), 1)] (by decide +kernel) rfl rfl ?_
      exact g_iret (by decide +kernel) rfl
    · refine g_seg0 (pc' := 13) (L' := [some (vR (kA 1 n0) o0), some (vI v1), some (vL v2), none, some (vI v4)]) (st' := [vI (Int32.ofNat n0), vI v4]) (u1 := u) [(oL 0 4, 2), (oL 2 0, 1), (oP .arraylength, 1)] (by decide +kernel) rfl rfl ?_
      refine g_ige (off := 21) (tgt := 34) (pc2 := 16) (by decide +kernel) (by decide) rfl ?_ ?_
      · refine g_seg0 (pc' := 35) (L' := [some (vR (kA 1 n0) o0), some (vI v1), some (vL v2), none, some (vI v4)]) (st' := [vI (-1)]) (u1 := u) [(oC (-1), 1)] (by decide +kernel) rfl rfl ?_
        exact g_iret (by decide +kernel) rfl
      · refine g_seg (pc' := 21) (L' := [some (vR (kA 1 n0) o0), some (vI v1), some (vL v2), none, some (vI v4)]) (st' := [vL v2, vL (u.2.1 o0 (nc v4))]) (u1 := u) [(oL 2 0, 1), (oL 0 4, 2), (oP .laload, 1), (oL 1 2, 1)] (by decide +kernel) rfl rfl ?_
        refine g_lne (off := 6) (tgt := 28) (pc1 := 22) (pc2 := 25) (by decide +kernel) rfl (by decide +kernel) (by decide) rfl ?_ ?_
        · refine g_seg0 (pc' := 31) (L' := [some (vR (kA 1 n0) o0), some (vI v1), some (vL v2), none, some (vI (v4 + 1))]) (st' := []) (u1 := u) [(oN 4 1, 3)] (by decide +kernel) rfl rfl ?_
          refine g_goto (off := (-28)) (tgt := 3) (by decide +kernel) (by decide) ?_
          exact ih v1 v2 (v4 + 1) u
        · refine g_seg0 (pc' := 27) (L' := [some (vR (kA 1 n0) o0), some (vI v1), some (vL v2), none, some (vI v4)]) (st' := [vI v4]) (u1 := u) [(oL 0 4, 2)] (by decide +kernel) rfl rfl ?_
          exact g_iret (by decide +kernel) rfl
def fX9_indexOf (n0 : Nat) (o0 : Nat) (v1 : Int32) (v2 : Int64) (u : ab_S) : Option (Int32 × ab_S) :=
  fX9_indexOf_3 n0 o0 fu v1 v2 0 u
theorem tX9_indexOf (n0 : Nat) (o0 : Nat) (v1 : Int32) (v2 : Int64) (u : ab_S) : ab_G 0 8 cX9_indexOf (some .int) 0 0 [some (vR (kA 1 n0) o0), some (vI v1), some (vL v2), none, none] [] u wI (fX9_indexOf n0 o0 v1 v2 u) := by
  rw [fX9_indexOf]
  refine g_seg0 (pc' := 3) (L' := [some (vR (kA 1 n0) o0), some (vI v1), some (vL v2), none, some (vI 0)]) (st' := []) (u1 := u) [(oC 0, 1), (oL 3 4, 2)] (by decide +kernel) rfl rfl ?_
  exact tX9_indexOf_3 n0 o0 fu v1 v2 0 u
theorem CX9_indexOf (n0 : Nat) (o0 : Nat) (v1 : Int32) (v2 : Int64) (u : ab_S) : ab_C 0 yX9_indexOf cX9_indexOf 5 (some .int) 0 [vR (kA 1 n0) o0, vI v1, vL v2] u wI (fX9_indexOf n0 o0 v1 v2 u) := ab_entry (by decide +kernel) rfl (by decide) (by decide) (fun _ => Nat.le_of_ble_eq_true rfl) rfl (tX9_indexOf n0 o0 v1 v2 u)
def fX2_isNewName_50 (o0 : Nat) (u : ab_S) : Option (Int32 × ab_S) :=
  (fX6_fail 3 u).bind fun q1 =>
    ab_gd [ab_b1 q1.1] (some (q1.1, q1.2))
theorem tX2_isNewName_50 (o0 : Nat) (u : ab_S) : ab_G 0 2 cX2_isNewName (some .boolean) 1 50 [none, some (vR (kO 6) 1), none, none] [] u wI (fX2_isNewName_50 o0 u) := by
  rw [fX2_isNewName_50]
  refine g_seg0 (pc' := 52) (L' := [none, some (vR (kO 6) 1), none, none]) (st' := [vI 3, vR (kO 6) 1]) (u1 := u) [(oL 2 1, 1), (oC 3, 1)] (by decide +kernel) rfl rfl ?_
  refine g_callV (k := 119) (pc2 := 55) (st := []) (CX6_fail 3 u) miX6_fail mvX6_fail rfl (by decide) lk2_119 wI_ok (by decide +kernel) rfl (Nat.le_of_ble_eq_true rfl) (by decide) rfl (fun q1 hq1 => ?_)
  exact g_zret (by decide +kernel) rfl
def fX2_isNewName (o0 : Nat) (u : ab_S) : Option (Int32 × ab_S) :=
  (fX6_isName u).bind fun q2 =>
    bif decide (q2.1 = 0) then (
      (fX6_fail 1 q2.2).bind fun q5 =>
        ab_gd [ab_b1 q5.1] (some (q5.1, q5.2)))
    else (
      (fX9_indexOf 6 (o0 + 1) (q2.2.1 o0 0) (q2.2.2.1 1 9) q2.2).bind fun q3 =>
        bif decide (q3.1 = (-1)) then (
          (fX9_indexOf 8 (o0 + 2) (q3.2.1 o0 1) (q2.2.2.1 1 9) q3.2).bind fun q4 =>
            bif decide (q4.1 = (-1)) then (
              ab_gd [ab_b1 1] (some (1, q4.2)))
            else (
              fX2_isNewName_50 o0 q4.2))
        else (
          fX2_isNewName_50 o0 q3.2))
theorem tX2_isNewName (o0 : Nat) (u : ab_S) : ab_G 0 2 cX2_isNewName (some .boolean) 1 0 [some (vR (kO 2) o0), some (vR (kO 6) 1), none, none] [] u wI (fX2_isNewName o0 u) := by
  rw [fX2_isNewName]
  refine g_seg0 (pc' := 1) (L' := [some (vR (kO 2) o0), some (vR (kO 6) 1), none, none]) (st' := [vR (kO 6) 1]) (u1 := u) [(oL 2 1, 1)] (by decide +kernel) rfl rfl ?_
  refine g_callV (k := 172) (pc2 := 4) (st := []) (CX6_isName u) miX6_isName mvX6_isName rfl (by decide) lk2_172 wI_ok (by decide +kernel) rfl (Nat.le_of_ble_eq_true rfl) (by decide) rfl (fun q2 hq2 => ?_)
  refine g_zne (off := 9) (tgt := 13) (pc2 := 7) (by decide +kernel) (by decide) rfl ?_ ?_
  · refine g_seg0 (pc' := 27) (L' := [some (vR (kO 2) o0), some (vR (kO 6) 1), some (vL (q2.2.2.1 1 9)), none]) (st' := [vL (q2.2.2.1 1 9), vI (q2.2.1 o0 0), vR (kA 1 6) (o0 + 1)]) (u1 := q2.2) [(oL 2 1, 1), (oP (.getfield 129), 3), (oL 4 2, 1), (oL 2 0, 1), (oP (.getfield 9), 3), (oL 2 0, 1), (oP (.getfield 63), 3), (oL 1 2, 1)] (by decide +kernel) rfl rfl ?_
    refine g_callS (k := 175) (pc2 := 30) (st := []) (CX9_indexOf 6 (o0 + 1) (q2.2.1 o0 0) (q2.2.2.1 1 9) q2.2) miX9_indexOf msX9_indexOf lk2_175 wI_ok (by decide +kernel) rfl (Nat.le_of_ble_eq_true rfl) (by decide) rfl (fun q3 hq3 => ?_)
    refine g_seg0 (pc' := 31) (L' := [some (vR (kO 2) o0), some (vR (kO 6) 1), some (vL (q2.2.2.1 1 9)), none]) (st' := [vI (-1), vI (q3.1)]) (u1 := q3.2) [(oC (-1), 1)] (by decide +kernel) rfl rfl ?_
    refine g_ine (off := 19) (tgt := 50) (pc2 := 34) (by decide +kernel) (by decide) rfl ?_ ?_
    · exact g_jump [false, true, false, false] rfl (tX2_isNewName_50 o0 q3.2)
    · refine g_seg0 (pc' := 43) (L' := [some (vR (kO 2) o0), some (vR (kO 6) 1), some (vL (q2.2.2.1 1 9)), none]) (st' := [vL (q2.2.2.1 1 9), vI (q3.2.1 o0 1), vR (kA 1 8) (o0 + 2)]) (u1 := q3.2) [(oL 2 0, 1), (oP (.getfield 15), 3), (oL 2 0, 1), (oP (.getfield 66), 3), (oL 1 2, 1)] (by decide +kernel) rfl rfl ?_
      refine g_callS (k := 175) (pc2 := 46) (st := []) (CX9_indexOf 8 (o0 + 2) (q3.2.1 o0 1) (q2.2.2.1 1 9) q3.2) miX9_indexOf msX9_indexOf lk2_175 wI_ok (by decide +kernel) rfl (Nat.le_of_ble_eq_true rfl) (by decide) rfl (fun q4 hq4 => ?_)
      refine g_seg0 (pc' := 47) (L' := [some (vR (kO 2) o0), some (vR (kO 6) 1), some (vL (q2.2.2.1 1 9)), none]) (st' := [vI (-1), vI (q4.1)]) (u1 := q4.2) [(oC (-1), 1)] (by decide +kernel) rfl rfl ?_
      refine g_ieq (off := 9) (tgt := 56) (pc2 := 50) (by decide +kernel) (by decide) rfl ?_ ?_
      · refine g_seg0 (pc' := 57) (L' := [some (vR (kO 2) o0), some (vR (kO 6) 1), some (vL (q2.2.2.1 1 9)), none]) (st' := [vI 1]) (u1 := q4.2) [(oC 1, 1)] (by decide +kernel) rfl rfl ?_
        exact g_zret (by decide +kernel) rfl
      · exact g_jump [false, true, false, false] rfl (tX2_isNewName_50 o0 q4.2)
  · refine g_seg0 (pc' := 9) (L' := [some (vR (kO 2) o0), some (vR (kO 6) 1), none, none]) (st' := [vI 1, vR (kO 6) 1]) (u1 := q2.2) [(oL 2 1, 1), (oC 1, 1)] (by decide +kernel) rfl rfl ?_
    refine g_callV (k := 119) (pc2 := 12) (st := []) (CX6_fail 1 q2.2) miX6_fail mvX6_fail rfl (by decide) lk2_119 wI_ok (by decide +kernel) rfl (Nat.le_of_ble_eq_true rfl) (by decide) rfl (fun q5 hq5 => ?_)
    exact g_zret (by decide +kernel) rfl
theorem CX2_isNewName (o0 : Nat) (u : ab_S) : ab_C 0 yX2_isNewName cX2_isNewName 4 (some .boolean) 1 [vR (kO 2) o0, vR (kO 6) 1] u wI (fX2_isNewName o0 u) := ab_entry (by decide +kernel) rfl (by decide) (by decide) (fun _ => Nat.le_of_ble_eq_true rfl) rfl (tX2_isNewName o0 u)
def fX6_isWord (o1 : Nat) (u : ab_S) : Option (Int32 × ab_S) :=
  bif decide ((u.1 1 7) = 2) then (
    bif decide ((u.2.1 1 9) = (ab_wl.getD o1 0)) then (
      ab_gd [ab_b1 1] (some (1, u)))
    else (
      ab_gd [ab_b1 0] (some (0, u))))
  else (
    ab_gd [ab_b1 0] (some (0, u)))
theorem tX6_isWord (o1 : Nat) (u : ab_S) : ab_G 0 6 cX6_isWord (some .boolean) 0 0 [some (vR (kO 6) 1), some (vR (kO 20) o1)] [] u wI (fX6_isWord o1 u) := by
  rw [fX6_isWord]
  refine g_seg0 (pc' := 5) (L' := [some (vR (kO 6) 1), some (vR (kO 20) o1)]) (st' := [vI 2, vI (u.1 1 7)]) (u1 := u) [(oL 2 0, 1), (oP (.getfield 88), 3), (oC 2, 1)] (by decide +kernel) rfl rfl ?_
  refine g_ine (off := 19) (tgt := 24) (pc2 := 8) (by decide +kernel) (by decide) rfl ?_ ?_
  · refine g_seg0 (pc' := 25) (L' := [some (vR (kO 6) 1), some (vR (kO 20) o1)]) (st' := [vI 0]) (u1 := u) [(oC 0, 1)] (by decide +kernel) rfl rfl ?_
    exact g_zret (by decide +kernel) rfl
  · refine g_seg0 (pc' := 16) (L' := [some (vR (kO 6) 1), some (vR (kO 20) o1)]) (st' := [vL (ab_wl.getD o1 0), vL (u.2.1 1 9)]) (u1 := u) [(oL 2 0, 1), (oP (.getfield 94), 3), (oL 2 1, 1), (oP (.getfield 98), 3)] (by decide +kernel) rfl rfl ?_
    refine g_lne (off := 7) (tgt := 24) (pc1 := 17) (pc2 := 20) (by decide +kernel) rfl (by decide +kernel) (by decide) rfl ?_ ?_
    · refine g_seg0 (pc' := 25) (L' := [some (vR (kO 6) 1), some (vR (kO 20) o1)]) (st' := [vI 0]) (u1 := u) [(oC 0, 1)] (by decide +kernel) rfl rfl ?_
      exact g_zret (by decide +kernel) rfl
    · refine g_seg0 (pc' := 21) (L' := [some (vR (kO 6) 1), some (vR (kO 20) o1)]) (st' := [vI 1]) (u1 := u) [(oC 1, 1)] (by decide +kernel) rfl rfl ?_
      refine g_goto (off := 4) (tgt := 25) (by decide +kernel) (by decide) ?_
      exact g_zret (by decide +kernel) rfl
theorem CX6_isWord (o1 : Nat) (u : ab_S) : ab_C 0 yX6_isWord cX6_isWord 2 (some .boolean) 0 [vR (kO 6) 1, vR (kO 20) o1] u wI (fX6_isWord o1 u) := ab_entry (by decide +kernel) rfl (by decide) (by decide) (fun _ => Nat.le_of_ble_eq_true rfl) rfl (tX6_isWord o1 u)
def fX6_takeWord (o1 : Nat) (u : ab_S) : Option (Int32 × ab_S) :=
  (fX6_isWord o1 u).bind fun q1 =>
    bif decide (q1.1 = 0) then (
      (fX6_fail 1 q1.2).bind fun q3 =>
        ab_gd [ab_b1 q3.1] (some (q3.1, q3.2)))
    else (
      (fX6_step q1.2).bind fun q2 =>
        ab_gd [ab_b1 1] (some (1, q2.2)))
theorem tX6_takeWord (o1 : Nat) (u : ab_S) : ab_G 0 6 cX6_takeWord (some .boolean) 1 0 [some (vR (kO 6) 1), some (vR (kO 20) o1)] [] u wI (fX6_takeWord o1 u) := by
  rw [fX6_takeWord]
  refine g_seg0 (pc' := 2) (L' := [some (vR (kO 6) 1), some (vR (kO 20) o1)]) (st' := [vR (kO 20) o1, vR (kO 6) 1]) (u1 := u) [(oL 2 0, 1), (oL 2 1, 1)] (by decide +kernel) rfl rfl ?_
  refine g_callV (k := 111) (pc2 := 5) (st := []) (CX6_isWord o1 u) miX6_isWord mvX6_isWord rfl (by decide) lk6_111 wI_ok (by decide +kernel) rfl (Nat.le_of_ble_eq_true rfl) (by decide) rfl (fun q1 hq1 => ?_)
  refine g_zne (off := 9) (tgt := 14) (pc2 := 8) (by decide +kernel) (by decide) rfl ?_ ?_
  · refine g_seg0 (pc' := 15) (L' := [some (vR (kO 6) 1), some (vR (kO 20) o1)]) (st' := [vR (kO 6) 1]) (u1 := q1.2) [(oL 2 0, 1)] (by decide +kernel) rfl rfl ?_
    refine g_callV (k := 59) (pc2 := 18) (st := []) (CX6_step q1.2) miX6_step mvX6_step rfl (by decide) lk6_59 wV_ok (by decide +kernel) rfl (Nat.le_of_ble_eq_true rfl) (by decide) rfl (fun q2 hq2 => ?_)
    refine g_seg0 (pc' := 19) (L' := [some (vR (kO 6) 1), some (vR (kO 20) o1)]) (st' := [vI 1]) (u1 := q2.2) [(oC 1, 1)] (by decide +kernel) rfl rfl ?_
    exact g_zret (by decide +kernel) rfl
  · refine g_seg0 (pc' := 10) (L' := [some (vR (kO 6) 1), some (vR (kO 20) o1)]) (st' := [vI 1, vR (kO 6) 1]) (u1 := q1.2) [(oL 2 0, 1), (oC 1, 1)] (by decide +kernel) rfl rfl ?_
    refine g_callV (k := 115) (pc2 := 13) (st := []) (CX6_fail 1 q1.2) miX6_fail mvX6_fail rfl (by decide) lk6_115 wI_ok (by decide +kernel) rfl (Nat.le_of_ble_eq_true rfl) (by decide) rfl (fun q3 hq3 => ?_)
    exact g_zret (by decide +kernel) rfl
theorem CX6_takeWord (o1 : Nat) (u : ab_S) : ab_C 0 yX6_takeWord cX6_takeWord 2 (some .boolean) 1 [vR (kO 6) 1, vR (kO 20) o1] u wI (fX6_takeWord o1 u) := ab_entry (by decide +kernel) rfl (by decide) (by decide) (fun _ => Nat.le_of_ble_eq_true rfl) rfl (tX6_takeWord o1 u)
def fX9_put (n0 : Nat) (o0 : Nat) (v1 : Int32) (v2 : Int32) (u : ab_S) : Option (Unit × ab_S) :=
  bif decide (v1 < 0) then (
    some ((), u))
  else (
    bif decide (v1 < (Int32.ofNat n0)) then (
      ab_gd [ab_ix v1 n0] (
        some ((), (sI u o0 (nc v1) v2))))
    else (
      some ((), u)))
theorem tX9_put (n0 : Nat) (o0 : Nat) (v1 : Int32) (v2 : Int32) (u : ab_S) : ab_G 0 8 cX9_put none 0 0 [some (vR (kA 0 n0) o0), some (vI v1), some (vI v2)] [] u wV (fX9_put n0 o0 v1 v2 u) := by
  rw [fX9_put]
  refine g_seg0 (pc' := 1) (L' := [some (vR (kA 0 n0) o0), some (vI v1), some (vI v2)]) (st' := [vI v1]) (u1 := u) [(oL 0 1, 1)] (by decide +kernel) rfl rfl ?_
  refine g_zlt (off := 13) (tgt := 14) (pc2 := 4) (by decide +kernel) (by decide) rfl ?_ ?_
  · exact g_vret (by decide +kernel) rfl
  · refine g_seg0 (pc' := 7) (L' := [some (vR (kA 0 n0) o0), some (vI v1), some (vI v2)]) (st' := [vI (Int32.ofNat n0), vI v1]) (u1 := u) [(oL 0 1, 1), (oL 2 0, 1), (oP .arraylength, 1)] (by decide +kernel) rfl rfl ?_
    refine g_ige (off := 7) (tgt := 14) (pc2 := 10) (by decide +kernel) (by decide) rfl ?_ ?_
    · exact g_vret (by decide +kernel) rfl
    · refine g_seg (pc' := 14) (L' := [some (vR (kA 0 n0) o0), some (vI v1), some (vI v2)]) (st' := []) (u1 := (sI u o0 (nc v1) v2)) [(oL 2 0, 1), (oL 0 1, 1), (oL 0 2, 1), (oP .iastore, 1)] (by decide +kernel) rfl rfl ?_
      exact g_vret (by decide +kernel) rfl
theorem CX9_put (n0 : Nat) (o0 : Nat) (v1 : Int32) (v2 : Int32) (u : ab_S) : ab_C 0 yX9_put cX9_put 3 none 0 [vR (kA 0 n0) o0, vI v1, vI v2] u wV (fX9_put n0 o0 v1 v2 u) := ab_entry (by decide +kernel) rfl (by decide) (by decide) (fun _ => Nat.le_of_ble_eq_true rfl) rfl (tX9_put n0 o0 v1 v2 u)
def fX2_addGood (o0 : Nat) (v1 : Int64) (v3 : Int32) (v4 : Int32) (u : ab_S) : Option (Unit × ab_S) :=
  bif decide ((u.1 o0 1) < 0) then (
    some ((), u))
  else (
    bif decide ((u.1 o0 1) < 8) then (
      ab_gd [ab_ix (u.1 o0 1) 8] (
        (fX9_put 8 (o0 + 5) ((sJ u (o0 + 2) (nc (u.1 o0 1)) v1).1 o0 1) v3 (sJ u (o0 + 2) (nc (u.1 o0 1)) v1)).bind fun q1 =>
          (fX9_put 8 (o0 + 6) (q1.2.1 o0 1) v4 q1.2).bind fun q2 =>
            some ((), (sI q2.2 o0 1 ((q2.2.1 o0 1) + 1)))))
    else (
      some ((), u)))
theorem tX2_addGood (o0 : Nat) (v1 : Int64) (v3 : Int32) (v4 : Int32) (u : ab_S) : ab_G 0 2 cX2_addGood none 1 0 [some (vR (kO 2) o0), some (vL v1), none, some (vI v3), some (vI v4)] [] u wV (fX2_addGood o0 v1 v3 v4 u) := by
  rw [fX2_addGood]
  refine g_seg0 (pc' := 4) (L' := [some (vR (kO 2) o0), some (vL v1), none, some (vI v3), some (vI v4)]) (st' := [vI (u.1 o0 1)]) (u1 := u) [(oL 2 0, 1), (oP (.getfield 66), 3)] (by decide +kernel) rfl rfl ?_
  refine g_zlt (off := 60) (tgt := 64) (pc2 := 7) (by decide +kernel) (by decide) rfl ?_ ?_
  · exact g_vret (by decide +kernel) rfl
  · refine g_seg0 (pc' := 16) (L' := [some (vR (kO 2) o0), some (vL v1), none, some (vI v3), some (vI v4)]) (st' := [vI 8, vI (u.1 o0 1)]) (u1 := u) [(oL 2 0, 1), (oP (.getfield 66), 3), (oL 2 0, 1), (oP (.getfield 15), 3), (oP .arraylength, 1)] (by decide +kernel) rfl rfl ?_
    refine g_ige (off := 48) (tgt := 64) (pc2 := 19) (by decide +kernel) (by decide) rfl ?_ ?_
    · exact g_vret (by decide +kernel) rfl
    · refine g_seg (pc' := 38) (L' := [some (vR (kO 2) o0), some (vL v1), none, some (vI v3), some (vI v4)]) (st' := [vI v3, vI ((sJ u (o0 + 2) (nc (u.1 o0 1)) v1).1 o0 1), vR (kA 0 8) (o0 + 5)]) (u1 := (sJ u (o0 + 2) (nc (u.1 o0 1)) v1)) [(oL 2 0, 1), (oP (.getfield 15), 3), (oL 2 0, 1), (oP (.getfield 66), 3), (oL 1 1, 1), (oP .lastore, 1), (oL 2 0, 1), (oP (.getfield 25), 3), (oL 2 0, 1), (oP (.getfield 66), 3), (oL 0 3, 1)] (by decide +kernel) rfl rfl ?_
      refine g_callS (k := 155) (pc2 := 41) (st := []) (CX9_put 8 (o0 + 5) ((sJ u (o0 + 2) (nc (u.1 o0 1)) v1).1 o0 1) v3 (sJ u (o0 + 2) (nc (u.1 o0 1)) v1)) miX9_put msX9_put lk2_155 wV_ok (by decide +kernel) rfl (Nat.le_of_ble_eq_true rfl) (by decide) rfl (fun q1 hq1 => ?_)
      refine g_seg0 (pc' := 51) (L' := [some (vR (kO 2) o0), some (vL v1), none, some (vI v3), some (vI v4)]) (st' := [vI v4, vI (q1.2.1 o0 1), vR (kA 0 8) (o0 + 6)]) (u1 := q1.2) [(oL 2 0, 1), (oP (.getfield 28), 3), (oL 2 0, 1), (oP (.getfield 66), 3), (oL 0 4, 2)] (by decide +kernel) rfl rfl ?_
      refine g_callS (k := 155) (pc2 := 54) (st := []) (CX9_put 8 (o0 + 6) (q1.2.1 o0 1) v4 q1.2) miX9_put msX9_put lk2_155 wV_ok (by decide +kernel) rfl (Nat.le_of_ble_eq_true rfl) (by decide) rfl (fun q2 hq2 => ?_)
      refine g_seg0 (pc' := 64) (L' := [some (vR (kO 2) o0), some (vL v1), none, some (vI v3), some (vI v4)]) (st' := []) (u1 := (sI q2.2 o0 1 ((q2.2.1 o0 1) + 1))) [(oL 2 0, 1), (oP .dup, 1), (oP (.getfield 66), 3), (oC 1, 1), (oP .iadd, 1), (oP (.putfield 66), 3)] (by decide +kernel) rfl rfl ?_
      exact g_vret (by decide +kernel) rfl
theorem CX2_addGood (o0 : Nat) (v1 : Int64) (v3 : Int32) (v4 : Int32) (u : ab_S) : ab_C 0 yX2_addGood cX2_addGood 5 none 1 [vR (kO 2) o0, vL v1, vI v3, vI v4] u wV (fX2_addGood o0 v1 v3 v4 u) := ab_entry (by decide +kernel) rfl (by decide) (by decide) (fun _ => Nat.le_of_ble_eq_true rfl) rfl (tX2_addGood o0 v1 v3 v4 u)
def fX6_isSign (v1 : Int32) (u : ab_S) : Option (Int32 × ab_S) :=
  bif decide ((u.1 1 7) = 4) then (
    bif decide ((u.2.1 1 9) = (Int32.toInt64 v1)) then (
      ab_gd [ab_b1 1] (some (1, u)))
    else (
      ab_gd [ab_b1 0] (some (0, u))))
  else (
    ab_gd [ab_b1 0] (some (0, u)))
theorem tX6_isSign (v1 : Int32) (u : ab_S) : ab_G 0 6 cX6_isSign (some .boolean) 0 0 [some (vR (kO 6) 1), some (vI v1)] [] u wI (fX6_isSign v1 u) := by
  rw [fX6_isSign]
  refine g_seg0 (pc' := 5) (L' := [some (vR (kO 6) 1), some (vI v1)]) (st' := [vI 4, vI (u.1 1 7)]) (u1 := u) [(oL 2 0, 1), (oP (.getfield 88), 3), (oC 4, 1)] (by decide +kernel) rfl rfl ?_
  refine g_ine (off := 17) (tgt := 22) (pc2 := 8) (by decide +kernel) (by decide) rfl ?_ ?_
  · refine g_seg0 (pc' := 23) (L' := [some (vR (kO 6) 1), some (vI v1)]) (st' := [vI 0]) (u1 := u) [(oC 0, 1)] (by decide +kernel) rfl rfl ?_
    exact g_zret (by decide +kernel) rfl
  · refine g_seg0 (pc' := 14) (L' := [some (vR (kO 6) 1), some (vI v1)]) (st' := [vL (Int32.toInt64 v1), vL (u.2.1 1 9)]) (u1 := u) [(oL 2 0, 1), (oP (.getfield 94), 3), (oL 0 1, 1), (oP .i2l, 1)] (by decide +kernel) rfl rfl ?_
    refine g_lne (off := 7) (tgt := 22) (pc1 := 15) (pc2 := 18) (by decide +kernel) rfl (by decide +kernel) (by decide) rfl ?_ ?_
    · refine g_seg0 (pc' := 23) (L' := [some (vR (kO 6) 1), some (vI v1)]) (st' := [vI 0]) (u1 := u) [(oC 0, 1)] (by decide +kernel) rfl rfl ?_
      exact g_zret (by decide +kernel) rfl
    · refine g_seg0 (pc' := 19) (L' := [some (vR (kO 6) 1), some (vI v1)]) (st' := [vI 1]) (u1 := u) [(oC 1, 1)] (by decide +kernel) rfl rfl ?_
      refine g_goto (off := 4) (tgt := 23) (by decide +kernel) (by decide) ?_
      exact g_zret (by decide +kernel) rfl
theorem CX6_isSign (v1 : Int32) (u : ab_S) : ab_C 0 yX6_isSign cX6_isSign 2 (some .boolean) 0 [vR (kO 6) 1, vI v1] u wI (fX6_isSign v1 u) := ab_entry (by decide +kernel) rfl (by decide) (by decide) (fun _ => Nat.le_of_ble_eq_true rfl) rfl (tX6_isSign v1 u)
def fX6_takeEnd (u : ab_S) : Option (Int32 × ab_S) :=
  (fX6_isSign 59 u).bind fun q1 =>
    bif decide (q1.1 = 0) then (
      (fX6_fail 1 q1.2).bind fun q3 =>
        ab_gd [ab_b1 q3.1] (some (q3.1, q3.2)))
    else (
      (fX6_step q1.2).bind fun q2 =>
        ab_gd [ab_b1 1] (some (1, q2.2)))
theorem tX6_takeEnd (u : ab_S) : ab_G 0 6 cX6_takeEnd (some .boolean) 1 0 [some (vR (kO 6) 1)] [] u wI (fX6_takeEnd u) := by
  rw [fX6_takeEnd]
  refine g_seg0 (pc' := 3) (L' := [some (vR (kO 6) 1)]) (st' := [vI 59, vR (kO 6) 1]) (u1 := u) [(oL 2 0, 1), (oC 59, 2)] (by decide +kernel) rfl rfl ?_
  refine g_callV (k := 119) (pc2 := 6) (st := []) (CX6_isSign 59 u) miX6_isSign mvX6_isSign rfl (by decide) lk6_119 wI_ok (by decide +kernel) rfl (Nat.le_of_ble_eq_true rfl) (by decide) rfl (fun q1 hq1 => ?_)
  refine g_zne (off := 9) (tgt := 15) (pc2 := 9) (by decide +kernel) (by decide) rfl ?_ ?_
  · refine g_seg0 (pc' := 16) (L' := [some (vR (kO 6) 1)]) (st' := [vR (kO 6) 1]) (u1 := q1.2) [(oL 2 0, 1)] (by decide +kernel) rfl rfl ?_
    refine g_callV (k := 59) (pc2 := 19) (st := []) (CX6_step q1.2) miX6_step mvX6_step rfl (by decide) lk6_59 wV_ok (by decide +kernel) rfl (Nat.le_of_ble_eq_true rfl) (by decide) rfl (fun q2 hq2 => ?_)
    refine g_seg0 (pc' := 20) (L' := [some (vR (kO 6) 1)]) (st' := [vI 1]) (u1 := q2.2) [(oC 1, 1)] (by decide +kernel) rfl rfl ?_
    exact g_zret (by decide +kernel) rfl
  · refine g_seg0 (pc' := 11) (L' := [some (vR (kO 6) 1)]) (st' := [vI 1, vR (kO 6) 1]) (u1 := q1.2) [(oL 2 0, 1), (oC 1, 1)] (by decide +kernel) rfl rfl ?_
    refine g_callV (k := 115) (pc2 := 14) (st := []) (CX6_fail 1 q1.2) miX6_fail mvX6_fail rfl (by decide) lk6_115 wI_ok (by decide +kernel) rfl (Nat.le_of_ble_eq_true rfl) (by decide) rfl (fun q3 hq3 => ?_)
    exact g_zret (by decide +kernel) rfl
theorem CX6_takeEnd (u : ab_S) : ab_C 0 yX6_takeEnd cX6_takeEnd 1 (some .boolean) 1 [vR (kO 6) 1] u wI (fX6_takeEnd u) := ab_entry (by decide +kernel) rfl (by decide) (by decide) (fun _ => Nat.le_of_ble_eq_true rfl) rfl (tX6_takeEnd u)
def fX6_takeToldName (n1 : Nat) (o1 : Nat) (v2 : Int32) (u : ab_S) : Option (Int32 × ab_S) :=
  (fX6_isName u).bind fun q1 =>
    bif decide (q1.1 = 0) then (
      (fX6_fail 1 q1.2).bind fun q5 =>
        some ((-1), q5.2))
    else (
      (fX9_indexOf n1 o1 v2 (q1.2.2.1 1 9) q1.2).bind fun q2 =>
        bif decide (q2.1 = (-1)) then (
          (fX6_fail 2 q2.2).bind fun q4 =>
            some ((-1), q4.2))
        else (
          (fX6_step q2.2).bind fun q3 =>
            some (q2.1, q3.2)))
theorem tX6_takeToldName (n1 : Nat) (o1 : Nat) (v2 : Int32) (u : ab_S) : ab_G 0 6 cX6_takeToldName (some .int) 1 0 [some (vR (kO 6) 1), some (vR (kA 1 n1) o1), some (vI v2), none] [] u wI (fX6_takeToldName n1 o1 v2 u) := by
  rw [fX6_takeToldName]
  refine g_seg0 (pc' := 1) (L' := [some (vR (kO 6) 1), some (vR (kA 1 n1) o1), some (vI v2), none]) (st' := [vR (kO 6) 1]) (u1 := u) [(oL 2 0, 1)] (by decide +kernel) rfl rfl ?_
  refine g_callV (k := 122) (pc2 := 4) (st := []) (CX6_isName u) miX6_isName mvX6_isName rfl (by decide) lk6_122 wI_ok (by decide +kernel) rfl (Nat.le_of_ble_eq_true rfl) (by decide) rfl (fun q1 hq1 => ?_)
  refine g_zne (off := 11) (tgt := 15) (pc2 := 7) (by decide +kernel) (by decide) rfl ?_ ?_
  · refine g_seg0 (pc' := 21) (L' := [some (vR (kO 6) 1), some (vR (kA 1 n1) o1), some (vI v2), none]) (st' := [vL (q1.2.2.1 1 9), vI v2, vR (kA 1 n1) o1]) (u1 := q1.2) [(oL 2 1, 1), (oL 0 2, 1), (oL 2 0, 1), (oP (.getfield 94), 3)] (by decide +kernel) rfl rfl ?_
    refine g_callS (k := 126) (pc2 := 24) (st := []) (CX9_indexOf n1 o1 v2 (q1.2.2.1 1 9) q1.2) miX9_indexOf msX9_indexOf lk6_126 wI_ok (by decide +kernel) rfl (Nat.le_of_ble_eq_true rfl) (by decide) rfl (fun q2 hq2 => ?_)
    refine g_seg0 (pc' := 27) (L' := [some (vR (kO 6) 1), some (vR (kA 1 n1) o1), some (vI v2), some (vI (q2.1))]) (st' := [vI (-1), vI (q2.1)]) (u1 := q2.2) [(oL 3 3, 1), (oL 0 3, 1), (oC (-1), 1)] (by decide +kernel) rfl rfl ?_
    refine g_ine (off := 11) (tgt := 38) (pc2 := 30) (by decide +kernel) (by decide) rfl ?_ ?_
    · refine g_seg0 (pc' := 39) (L' := [some (vR (kO 6) 1), some (vR (kA 1 n1) o1), some (vI v2), some (vI (q2.1))]) (st' := [vR (kO 6) 1]) (u1 := q2.2) [(oL 2 0, 1)] (by decide +kernel) rfl rfl ?_
      refine g_callV (k := 59) (pc2 := 42) (st := []) (CX6_step q2.2) miX6_step mvX6_step rfl (by decide) lk6_59 wV_ok (by decide +kernel) rfl (Nat.le_of_ble_eq_true rfl) (by decide) rfl (fun q3 hq3 => ?_)
      refine g_seg0 (pc' := 43) (L' := [some (vR (kO 6) 1), some (vR (kA 1 n1) o1), some (vI v2), some (vI (q2.1))]) (st' := [vI (q2.1)]) (u1 := q3.2) [(oL 0 3, 1)] (by decide +kernel) rfl rfl ?_
      exact g_iret (by decide +kernel) rfl
    · refine g_seg0 (pc' := 32) (L' := [some (vR (kO 6) 1), some (vR (kA 1 n1) o1), some (vI v2), some (vI (q2.1))]) (st' := [vI 2, vR (kO 6) 1]) (u1 := q2.2) [(oL 2 0, 1), (oC 2, 1)] (by decide +kernel) rfl rfl ?_
      refine g_callV (k := 115) (pc2 := 35) (st := []) (CX6_fail 2 q2.2) miX6_fail mvX6_fail rfl (by decide) lk6_115 wI_ok (by decide +kernel) rfl (Nat.le_of_ble_eq_true rfl) (by decide) rfl (fun q4 hq4 => ?_)
      refine g_seg0 (pc' := 37) (L' := [some (vR (kO 6) 1), some (vR (kA 1 n1) o1), some (vI v2), some (vI (q2.1))]) (st' := [vI (-1)]) (u1 := q4.2) [(oP .pop, 1), (oC (-1), 1)] (by decide +kernel) rfl rfl ?_
      exact g_iret (by decide +kernel) rfl
  · refine g_seg0 (pc' := 9) (L' := [some (vR (kO 6) 1), some (vR (kA 1 n1) o1), some (vI v2), none]) (st' := [vI 1, vR (kO 6) 1]) (u1 := q1.2) [(oL 2 0, 1), (oC 1, 1)] (by decide +kernel) rfl rfl ?_
    refine g_callV (k := 115) (pc2 := 12) (st := []) (CX6_fail 1 q1.2) miX6_fail mvX6_fail rfl (by decide) lk6_115 wI_ok (by decide +kernel) rfl (Nat.le_of_ble_eq_true rfl) (by decide) rfl (fun q5 hq5 => ?_)
    refine g_seg0 (pc' := 14) (L' := [some (vR (kO 6) 1), some (vR (kA 1 n1) o1), some (vI v2), none]) (st' := [vI (-1)]) (u1 := q5.2) [(oP .pop, 1), (oC (-1), 1)] (by decide +kernel) rfl rfl ?_
    exact g_iret (by decide +kernel) rfl
theorem CX6_takeToldName (n1 : Nat) (o1 : Nat) (v2 : Int32) (u : ab_S) : ab_C 0 yX6_takeToldName cX6_takeToldName 4 (some .int) 1 [vR (kO 6) 1, vR (kA 1 n1) o1, vI v2] u wI (fX6_takeToldName n1 o1 v2 u) := ab_entry (by decide +kernel) rfl (by decide) (by decide) (fun _ => Nat.le_of_ble_eq_true rfl) rfl (tX6_takeToldName n1 o1 v2 u)
