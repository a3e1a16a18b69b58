/-! methods, printed by program out of the listing: function, walk, contract -/
def fX6_takeBytes_43 (k3 : Int64 → Int32 → ab_S → Option (Unit × ab_S)) (v1 : Int64) (v3 : Int32) (v4 : Int32) (s0 : Int32) (u : ab_S) : Option (Unit × ab_S) :=
  bif decide (s0 = 0) then (
    k3 v1 (v3 + (-8)) u)
  else (
    bif decide ((u.1 1 1) < 0) then (
      k3 v1 (v3 + (-8)) u)
    else (
      bif decide ((u.1 1 1) < 1000) then (
        ab_gd [ab_ix (u.1 1 1) 1000, ab_c1 ((Int32.toUInt32 v4 % 65536).toInt32)] (
          k3 v1 (v3 + (-8)) (sI (sI u 2 (nc (u.1 1 1)) ((Int32.toUInt32 v4 % 65536).toInt32)) 1 1 (((sI u 2 (nc (u.1 1 1)) ((Int32.toUInt32 v4 % 65536).toInt32)).1 1 1) + 1))))
      else (
        k3 v1 (v3 + (-8)) u)))
theorem tX6_takeBytes_43 (k3 : Int64 → Int32 → ab_S → Option (Unit × ab_S)) (hk3 : ∀ (v1 : Int64) (v3 : Int32) (u : ab_S), ab_G 0 6 cX6_takeBytes none 0 3 [some (vR (kO 6) 1), some (vL v1), none, some (vI v3), none, none] [] u wV (k3 v1 v3 u)) (v1 : Int64) (v3 : Int32) (v4 : Int32) (s0 : Int32) (u : ab_S) : ab_G 0 6 cX6_takeBytes none 0 43 [some (vR (kO 6) 1), some (vL v1), none, some (vI v3), some (vI v4), none] [vI s0] u wV (fX6_takeBytes_43 k3 v1 v3 v4 s0 u) := by
  rw [fX6_takeBytes_43]
  refine g_seg0 (pc' := 47) (L' := [some (vR (kO 6) 1), some (vL v1), none, some (vI v3), some (vI v4), some (vI s0)]) (st' := [vI s0]) (u1 := u) [(oL 3 5, 2), (oL 0 5, 2)] (by decide +kernel) rfl rfl ?_
  refine g_zeq (off := 44) (tgt := 91) (pc2 := 50) (by decide +kernel) (by decide) rfl ?_ ?_
  · refine g_seg0 (pc' := 94) (L' := [some (vR (kO 6) 1), some (vL v1), none, some (vI (v3 + (-8))), some (vI v4), some (vI s0)]) (st' := []) (u1 := u) [(oN 3 (-8), 3)] (by decide +kernel) rfl rfl ?_
    refine g_goto (off := (-91)) (tgt := 3) (by decide +kernel) (by decide) ?_
    exact g_jump [true, true, false, true, false, false] rfl (hk3 v1 (v3 + (-8)) u)
  · refine g_seg0 (pc' := 54) (L' := [some (vR (kO 6) 1), some (vL v1), none, some (vI v3), some (vI v4), some (vI s0)]) (st' := [vI (u.1 1 1)]) (u1 := u) [(oL 2 0, 1), (oP (.getfield 28), 3)] (by decide +kernel) rfl rfl ?_
    refine g_zlt (off := 37) (tgt := 91) (pc2 := 57) (by decide +kernel) (by decide) rfl ?_ ?_
    · refine g_seg0 (pc' := 94) (L' := [some (vR (kO 6) 1), some (vL v1), none, some (vI (v3 + (-8))), some (vI v4), some (vI s0)]) (st' := []) (u1 := u) [(oN 3 (-8), 3)] (by decide +kernel) rfl rfl ?_
      refine g_goto (off := (-91)) (tgt := 3) (by decide +kernel) (by decide) ?_
      exact g_jump [true, true, false, true, false, false] rfl (hk3 v1 (v3 + (-8)) u)
    · refine g_seg0 (pc' := 66) (L' := [some (vR (kO 6) 1), some (vL v1), none, some (vI v3), some (vI v4), some (vI s0)]) (st' := [vI 1000, vI (u.1 1 1)]) (u1 := u) [(oL 2 0, 1), (oP (.getfield 28), 3), (oL 2 0, 1), (oP (.getfield 9), 3), (oP .arraylength, 1)] (by decide +kernel) rfl rfl ?_
      refine g_ige (off := 25) (tgt := 91) (pc2 := 69) (by decide +kernel) (by decide) rfl ?_ ?_
      · refine g_seg0 (pc' := 94) (L' := [some (vR (kO 6) 1), some (vL v1), none, some (vI (v3 + (-8))), some (vI v4), some (vI s0)]) (st' := []) (u1 := u) [(oN 3 (-8), 3)] (by decide +kernel) rfl rfl ?_
        refine g_goto (off := (-91)) (tgt := 3) (by decide +kernel) (by decide) ?_
        exact g_jump [true, true, false, true, false, false] rfl (hk3 v1 (v3 + (-8)) u)
      · refine g_seg (pc' := 94) (L' := [some (vR (kO 6) 1), some (vL v1), none, some (vI (v3 + (-8))), some (vI v4), some (vI s0)]) (st' := []) (u1 := (sI (sI u 2 (nc (u.1 1 1)) ((Int32.toUInt32 v4 % 65536).toInt32)) 1 1 (((sI u 2 (nc (u.1 1 1)) ((Int32.toUInt32 v4 % 65536).toInt32)).1 1 1) + 1))) [(oL 2 0, 1), (oP (.getfield 9), 3), (oL 2 0, 1), (oP (.getfield 28), 3), (oL 0 4, 2), (oP .i2c, 1), (oP .castore, 1), (oL 2 0, 1), (oP .dup, 1), (oP (.getfield 28), 3), (oC 1, 1), (oP .iadd, 1), (oP (.putfield 28), 3), (oN 3 (-8), 3)] (by decide +kernel) rfl rfl ?_
        refine g_goto (off := (-91)) (tgt := 3) (by decide +kernel) (by decide) ?_
        exact g_jump [true, true, false, true, false, false] rfl (hk3 v1 (v3 + (-8)) (sI (sI u 2 (nc (u.1 1 1)) ((Int32.toUInt32 v4 % 65536).toInt32)) 1 1 (((sI u 2 (nc (u.1 1 1)) ((Int32.toUInt32 v4 % 65536).toInt32)).1 1 1) + 1)))
def fX6_takeBytes_3 : Nat → Int64 → Int32 → ab_S → Option (Unit × ab_S)
  | 0, _, _, _ => none
  | n + 1, v1, v3, u =>
  bif decide (v3 < 0) then (
    some ((), u))
  else (
    bif decide ((Int64.toInt32 (((Int64.toUInt64 v1 >>> ((Int32.toInt64 v3).toUInt64 &&& Int64.toUInt64 63)).toInt64) &&& 255)) = 10) then (
      fX6_takeBytes_43 (fX6_takeBytes_3 n) v1 v3 (Int64.toInt32 (((Int64.toUInt64 v1 >>> ((Int32.toInt64 v3).toUInt64 &&& Int64.toUInt64 63)).toInt64) &&& 255)) 1 u)
    else (
      bif decide ((Int64.toInt32 (((Int64.toUInt64 v1 >>> ((Int32.toInt64 v3).toUInt64 &&& Int64.toUInt64 63)).toInt64) &&& 255)) < 32) then (
        fX6_takeBytes_43 (fX6_takeBytes_3 n) v1 v3 (Int64.toInt32 (((Int64.toUInt64 v1 >>> ((Int32.toInt64 v3).toUInt64 &&& Int64.toUInt64 63)).toInt64) &&& 255)) 0 u)
      else (
        bif decide ((Int64.toInt32 (((Int64.toUInt64 v1 >>> ((Int32.toInt64 v3).toUInt64 &&& Int64.toUInt64 63)).toInt64) &&& 255)) ≤ 126) then (
          fX6_takeBytes_43 (fX6_takeBytes_3 n) v1 v3 (Int64.toInt32 (((Int64.toUInt64 v1 >>> ((Int32.toInt64 v3).toUInt64 &&& Int64.toUInt64 63)).toInt64) &&& 255)) 1 u)
        else (
          fX6_takeBytes_43 (fX6_takeBytes_3 n) v1 v3 (Int64.toInt32 (((Int64.toUInt64 v1 >>> ((Int32.toInt64 v3).toUInt64 &&& Int64.toUInt64 63)).toInt64) &&& 255)) 0 u))))
theorem tX6_takeBytes_3 : ∀ (n : Nat) (v1 : Int64) (v3 : Int32) (u : ab_S), ab_G 0 6 cX6_takeBytes none 0 3 [some (vR (kO 6) 1), some (vL v1), none, some (vI v3), none, none] [] u wV (fX6_takeBytes_3 n v1 v3 u) := by
  intro n
  induction n with
  | zero => intros; exact g_none
  | succ n ih =>
    intro v1 v3 u
    rw [fX6_takeBytes_3]
    refine g_seg0 (pc' := 4) (L' := [some (vR (kO 6) 1), some (vL v1), none, some (vI v3), none, none]) (st' := [vI v3]) (u1 := u) [(oL 0 3, 1)] (by decide +kernel) rfl rfl ?_
    refine g_zlt (off := 93) (tgt := 97) (pc2 := 7) (by decide +kernel) (by decide) rfl ?_ ?_
    · exact g_vret (by decide +kernel) rfl
    · refine g_seg0 (pc' := 21) (L' := [some (vR (kO 6) 1), some (vL v1), none, some (vI v3), some (vI (Int64.toInt32 (((Int64.toUInt64 v1 >>> ((Int32.toInt64 v3).toUInt64 &&& Int64.toUInt64 63)).toInt64) &&& 255))), none]) (st' := [vI 10, vI (Int64.toInt32 (((Int64.toUInt64 v1 >>> ((Int32.toInt64 v3).toUInt64 &&& Int64.toUInt64 63)).toInt64) &&& 255))]) (u1 := u) [(oL 1 1, 1), (oL 0 3, 1), (oP .lushr, 1), (oD 255, 3), (oP .land, 1), (oP .l2i, 1), (oL 3 4, 2), (oL 0 4, 2), (oC 10, 2)] (by decide +kernel) rfl rfl ?_
      refine g_ieq (off := 17) (tgt := 38) (pc2 := 24) (by decide +kernel) (by decide) rfl ?_ ?_
      · refine g_seg0 (pc' := 39) (L' := [some (vR (kO 6) 1), some (vL v1), none, some (vI v3), some (vI (Int64.toInt32 (((Int64.toUInt64 v1 >>> ((Int32.toInt64 v3).toUInt64 &&& Int64.toUInt64 63)).toInt64) &&& 255))), none]) (st' := [vI 1]) (u1 := u) [(oC 1, 1)] (by decide +kernel) rfl rfl ?_
        refine g_goto (off := 4) (tgt := 43) (by decide +kernel) (by decide) ?_
        exact tX6_takeBytes_43 (fX6_takeBytes_3 n) ih v1 v3 (Int64.toInt32 (((Int64.toUInt64 v1 >>> ((Int32.toInt64 v3).toUInt64 &&& Int64.toUInt64 63)).toInt64) &&& 255)) 1 u
      · refine g_seg0 (pc' := 28) (L' := [some (vR (kO 6) 1), some (vL v1), none, some (vI v3), some (vI (Int64.toInt32 (((Int64.toUInt64 v1 >>> ((Int32.toInt64 v3).toUInt64 &&& Int64.toUInt64 63)).toInt64) &&& 255))), none]) (st' := [vI 32, vI (Int64.toInt32 (((Int64.toUInt64 v1 >>> ((Int32.toInt64 v3).toUInt64 &&& Int64.toUInt64 63)).toInt64) &&& 255))]) (u1 := u) [(oL 0 4, 2), (oC 32, 2)] (by decide +kernel) rfl rfl ?_
        refine g_ilt (off := 14) (tgt := 42) (pc2 := 31) (by decide +kernel) (by decide) rfl ?_ ?_
        · refine g_seg0 (pc' := 43) (L' := [some (vR (kO 6) 1), some (vL v1), none, some (vI v3), some (vI (Int64.toInt32 (((Int64.toUInt64 v1 >>> ((Int32.toInt64 v3).toUInt64 &&& Int64.toUInt64 63)).toInt64) &&& 255))), none]) (st' := [vI 0]) (u1 := u) [(oC 0, 1)] (by decide +kernel) rfl rfl ?_
          exact tX6_takeBytes_43 (fX6_takeBytes_3 n) ih v1 v3 (Int64.toInt32 (((Int64.toUInt64 v1 >>> ((Int32.toInt64 v3).toUInt64 &&& Int64.toUInt64 63)).toInt64) &&& 255)) 0 u
        · refine g_seg0 (pc' := 35) (L' := [some (vR (kO 6) 1), some (vL v1), none, some (vI v3), some (vI (Int64.toInt32 (((Int64.toUInt64 v1 >>> ((Int32.toInt64 v3).toUInt64 &&& Int64.toUInt64 63)).toInt64) &&& 255))), none]) (st' := [vI 126, vI (Int64.toInt32 (((Int64.toUInt64 v1 >>> ((Int32.toInt64 v3).toUInt64 &&& Int64.toUInt64 63)).toInt64) &&& 255))]) (u1 := u) [(oL 0 4, 2), (oC 126, 2)] (by decide +kernel) rfl rfl ?_
          refine g_igt (off := 7) (tgt := 42) (pc2 := 38) (by decide +kernel) (by decide) rfl ?_ ?_
          · refine g_seg0 (pc' := 43) (L' := [some (vR (kO 6) 1), some (vL v1), none, some (vI v3), some (vI (Int64.toInt32 (((Int64.toUInt64 v1 >>> ((Int32.toInt64 v3).toUInt64 &&& Int64.toUInt64 63)).toInt64) &&& 255))), none]) (st' := [vI 0]) (u1 := u) [(oC 0, 1)] (by decide +kernel) rfl rfl ?_
            exact tX6_takeBytes_43 (fX6_takeBytes_3 n) ih v1 v3 (Int64.toInt32 (((Int64.toUInt64 v1 >>> ((Int32.toInt64 v3).toUInt64 &&& Int64.toUInt64 63)).toInt64) &&& 255)) 0 u
          · refine g_seg0 (pc' := 39) (L' := [some (vR (kO 6) 1), some (vL v1), none, some (vI v3), some (vI (Int64.toInt32 (((Int64.toUInt64 v1 >>> ((Int32.toInt64 v3).toUInt64 &&& Int64.toUInt64 63)).toInt64) &&& 255))), none]) (st' := [vI 1]) (u1 := u) [(oC 1, 1)] (by decide +kernel) rfl rfl ?_
            refine g_goto (off := 4) (tgt := 43) (by decide +kernel) (by decide) ?_
            exact tX6_takeBytes_43 (fX6_takeBytes_3 n) ih v1 v3 (Int64.toInt32 (((Int64.toUInt64 v1 >>> ((Int32.toInt64 v3).toUInt64 &&& Int64.toUInt64 63)).toInt64) &&& 255)) 1 u
def fX6_takeBytes (v1 : Int64) (u : ab_S) : Option (Unit × ab_S) :=
  fX6_takeBytes_3 fu v1 56 u
theorem tX6_takeBytes (v1 : Int64) (u : ab_S) : ab_G 0 6 cX6_takeBytes none 0 0 [some (vR (kO 6) 1), some (vL v1), none, none, none, none] [] u wV (fX6_takeBytes v1 u) := by
  rw [fX6_takeBytes]
  refine g_seg0 (pc' := 3) (L' := [some (vR (kO 6) 1), some (vL v1), none, some (vI 56), none, none]) (st' := []) (u1 := u) [(oC 56, 2), (oL 3 3, 1)] (by decide +kernel) rfl rfl ?_
  exact tX6_takeBytes_3 fu v1 56 u
theorem CX6_takeBytes (v1 : Int64) (u : ab_S) : ab_C 0 yX6_takeBytes cX6_takeBytes 6 none 0 [vR (kO 6) 1, vL v1] u wV (fX6_takeBytes v1 u) := ab_entry (by decide +kernel) rfl (by decide) (by decide) (fun _ => Nat.le_of_ble_eq_true rfl) rfl (tX6_takeBytes v1 u)
def fX9_feed (v1 : Int64) (v3 : Int64) (v5 : Int64) (u : ab_S) : Option (Int32 × ab_S) :=
  (fX6_takeBytes v1 u).bind fun q1 =>
    (fX6_takeBytes v3 q1.2).bind fun q2 =>
      (fX6_takeBytes v5 q2.2).bind fun q3 =>
        some ((q3.2.1 1 1), q3.2)
theorem tX9_feed (v1 : Int64) (v3 : Int64) (v5 : Int64) (u : ab_S) : ab_G 0 8 cX9_feed (some .int) 1 0 [some (vR (kO 8) 0), some (vL v1), none, some (vL v3), none, some (vL v5), none] [] u wI (fX9_feed v1 v3 v5 u) := by
  rw [fX9_feed]
  refine g_seg0 (pc' := 5) (L' := [some (vR (kO 8) 0), some (vL v1), none, some (vL v3), none, some (vL v5), none]) (st' := [vL v1, vR (kO 6) 1]) (u1 := u) [(oL 2 0, 1), (oP (.getfield 10), 3), (oL 1 1, 1)] (by decide +kernel) rfl rfl ?_
  refine g_callV (k := 82) (pc2 := 8) (st := []) (CX6_takeBytes v1 u) miX6_takeBytes mvX6_takeBytes rfl (by decide) lk8_82 wV_ok (by decide +kernel) rfl (Nat.le_of_ble_eq_true rfl) (by decide) rfl (fun q1 hq1 => ?_)
  refine g_seg0 (pc' := 13) (L' := [some (vR (kO 8) 0), some (vL v1), none, some (vL v3), none, some (vL v5), none]) (st' := [vL v3, vR (kO 6) 1]) (u1 := q1.2) [(oL 2 0, 1), (oP (.getfield 10), 3), (oL 1 3, 1)] (by decide +kernel) rfl rfl ?_
  refine g_callV (k := 82) (pc2 := 16) (st := []) (CX6_takeBytes v3 q1.2) miX6_takeBytes mvX6_takeBytes rfl (by decide) lk8_82 wV_ok (by decide +kernel) rfl (Nat.le_of_ble_eq_true rfl) (by decide) rfl (fun q2 hq2 => ?_)
  refine g_seg0 (pc' := 22) (L' := [some (vR (kO 8) 0), some (vL v1), none, some (vL v3), none, some (vL v5), none]) (st' := [vL v5, vR (kO 6) 1]) (u1 := q2.2) [(oL 2 0, 1), (oP (.getfield 10), 3), (oL 1 5, 2)] (by decide +kernel) rfl rfl ?_
  refine g_callV (k := 82) (pc2 := 25) (st := []) (CX6_takeBytes v5 q2.2) miX6_takeBytes mvX6_takeBytes rfl (by decide) lk8_82 wV_ok (by decide +kernel) rfl (Nat.le_of_ble_eq_true rfl) (by decide) rfl (fun q3 hq3 => ?_)
  refine g_seg0 (pc' := 32) (L' := [some (vR (kO 8) 0), some (vL v1), none, some (vL v3), none, some (vL v5), none]) (st' := [vI (q3.2.1 1 1)]) (u1 := q3.2) [(oL 2 0, 1), (oP (.getfield 10), 3), (oP (.getfield 86), 3)] (by decide +kernel) rfl rfl ?_
  exact g_iret (by decide +kernel) rfl
theorem CX9_feed (v1 : Int64) (v3 : Int64) (v5 : Int64) (u : ab_S) : ab_C 0 yX9_feed cX9_feed 7 (some .int) 1 [vR (kO 8) 0, vL v1, vL v3, vL v5] u wI (fX9_feed v1 v3 v5 u) := ab_entry (by decide +kernel) rfl (by decide) (by decide) (fun _ => Nat.le_of_ble_eq_true rfl) rfl (tX9_feed v1 v3 v5 u)
def fX6_add (v1 : Int32) (v2 : Int32) (v3 : Int64) (u : ab_S) : Option (Unit × ab_S) :=
  bif decide ((u.1 1 5) < 0) then (
    some ((), u))
  else (
    bif decide ((u.1 1 5) < 1001) then (
      bif decide ((u.1 1 5) < 1001) then (
        bif decide ((u.1 1 5) < 1001) then (
          ab_gd [ab_ix (u.1 1 5) 1001, ab_ix ((sI u 3 (nc (u.1 1 5)) v1).1 1 5) 1001, ab_ix ((sI (sI u 3 (nc (u.1 1 5)) v1) 4 (nc ((sI u 3 (nc (u.1 1 5)) v1).1 1 5)) v2).1 1 5) 1001] (
            some ((), (sI (sJ (sI (sI u 3 (nc (u.1 1 5)) v1) 4 (nc ((sI u 3 (nc (u.1 1 5)) v1).1 1 5)) v2) 5 (nc ((sI (sI u 3 (nc (u.1 1 5)) v1) 4 (nc ((sI u 3 (nc (u.1 1 5)) v1).1 1 5)) v2).1 1 5)) v3) 1 5 (((sJ (sI (sI u 3 (nc (u.1 1 5)) v1) 4 (nc ((sI u 3 (nc (u.1 1 5)) v1).1 1 5)) v2) 5 (nc ((sI (sI u 3 (nc (u.1 1 5)) v1) 4 (nc ((sI u 3 (nc (u.1 1 5)) v1).1 1 5)) v2).1 1 5)) v3).1 1 5) + 1)))))
        else (
          some ((), u)))
      else (
        some ((), u)))
    else (
      some ((), u)))
theorem tX6_add (v1 : Int32) (v2 : Int32) (v3 : Int64) (u : ab_S) : ab_G 0 6 cX6_add none 0 0 [some (vR (kO 6) 1), some (vI v1), some (vI v2), some (vL v3), none] [] u wV (fX6_add v1 v2 v3 u) := by
  rw [fX6_add]
  refine g_seg0 (pc' := 4) (L' := [some (vR (kO 6) 1), some (vI v1), some (vI v2), some (vL v3), none]) (st' := [vI (u.1 1 5)]) (u1 := u) [(oL 2 0, 1), (oP (.getfield 32), 3)] (by decide +kernel) rfl rfl ?_
  refine g_zlt (off := 79) (tgt := 83) (pc2 := 7) (by decide +kernel) (by decide) rfl ?_ ?_
  · exact g_vret (by decide +kernel) rfl
  · refine g_seg0 (pc' := 16) (L' := [some (vR (kO 6) 1), some (vI v1), some (vI v2), some (vL v3), none]) (st' := [vI 1001, vI (u.1 1 5)]) (u1 := u) [(oL 2 0, 1), (oP (.getfield 32), 3), (oL 2 0, 1), (oP (.getfield 15), 3), (oP .arraylength, 1)] (by decide +kernel) rfl rfl ?_
    refine g_ige (off := 67) (tgt := 83) (pc2 := 19) (by decide +kernel) (by decide) rfl ?_ ?_
    · exact g_vret (by decide +kernel) rfl
    · refine g_seg0 (pc' := 28) (L' := [some (vR (kO 6) 1), some (vI v1), some (vI v2), some (vL v3), none]) (st' := [vI 1001, vI (u.1 1 5)]) (u1 := u) [(oL 2 0, 1), (oP (.getfield 32), 3), (oL 2 0, 1), (oP (.getfield 19), 3), (oP .arraylength, 1)] (by decide +kernel) rfl rfl ?_
      refine g_ige (off := 55) (tgt := 83) (pc2 := 31) (by decide +kernel) (by decide) rfl ?_ ?_
      · exact g_vret (by decide +kernel) rfl
      · refine g_seg0 (pc' := 40) (L' := [some (vR (kO 6) 1), some (vI v1), some (vI v2), some (vL v3), none]) (st' := [vI 1001, vI (u.1 1 5)]) (u1 := u) [(oL 2 0, 1), (oP (.getfield 32), 3), (oL 2 0, 1), (oP (.getfield 22), 3), (oP .arraylength, 1)] (by decide +kernel) rfl rfl ?_
        refine g_ige (off := 43) (tgt := 83) (pc2 := 43) (by decide +kernel) (by decide) rfl ?_ ?_
        · exact g_vret (by decide +kernel) rfl
        · refine g_seg (pc' := 83) (L' := [some (vR (kO 6) 1), some (vI v1), some (vI v2), some (vL v3), none]) (st' := []) (u1 := (sI (sJ (sI (sI u 3 (nc (u.1 1 5)) v1) 4 (nc ((sI u 3 (nc (u.1 1 5)) v1).1 1 5)) v2) 5 (nc ((sI (sI u 3 (nc (u.1 1 5)) v1) 4 (nc ((sI u 3 (nc (u.1 1 5)) v1).1 1 5)) v2).1 1 5)) v3) 1 5 (((sJ (sI (sI u 3 (nc (u.1 1 5)) v1) 4 (nc ((sI u 3 (nc (u.1 1 5)) v1).1 1 5)) v2) 5 (nc ((sI (sI u 3 (nc (u.1 1 5)) v1) 4 (nc ((sI u 3 (nc (u.1 1 5)) v1).1 1 5)) v2).1 1 5)) v3).1 1 5) + 1))) [(oL 2 0, 1), (oP (.getfield 15), 3), (oL 2 0, 1), (oP (.getfield 32), 3), (oL 0 1, 1), (oP .iastore, 1), (oL 2 0, 1), (oP (.getfield 19), 3), (oL 2 0, 1), (oP (.getfield 32), 3), (oL 0 2, 1), (oP .iastore, 1), (oL 2 0, 1), (oP (.getfield 22), 3), (oL 2 0, 1), (oP (.getfield 32), 3), (oL 1 3, 1), (oP .lastore, 1), (oL 2 0, 1), (oP .dup, 1), (oP (.getfield 32), 3), (oC 1, 1), (oP .iadd, 1), (oP (.putfield 32), 3)] (by decide +kernel) rfl rfl ?_
          exact g_vret (by decide +kernel) rfl
theorem CX6_add (v1 : Int32) (v2 : Int32) (v3 : Int64) (u : ab_S) : ab_C 0 yX6_add cX6_add 5 none 0 [vR (kO 6) 1, vI v1, vI v2, vL v3] u wV (fX6_add v1 v2 v3 u) := ab_entry (by decide +kernel) rfl (by decide) (by decide) (fun _ => Nat.le_of_ble_eq_true rfl) rfl (tX6_add v1 v2 v3 u)
def fX6_step (u : ab_S) : Option (Unit × ab_S) :=
  bif decide (((u.1 1 6) + 1) < 0) then (
    some ((), u))
  else (
    bif decide (((u.1 1 6) + 1) < (u.1 1 5)) then (
      bif decide (((u.1 1 6) + 1) < 1001) then (
        bif decide (((u.1 1 6) + 1) < 1001) then (
          bif decide (((u.1 1 6) + 1) < 1001) then (
            ab_gd [ab_ix ((u.1 1 6) + 1) 1001, ab_ix ((u.1 1 6) + 1) 1001, ab_ix ((u.1 1 6) + 1) 1001] (
              some ((), (sJ (sI (sI (sI u 1 6 ((u.1 1 6) + 1)) 1 7 ((sI u 1 6 ((u.1 1 6) + 1)).1 3 (nc ((u.1 1 6) + 1)))) 1 8 ((sI (sI u 1 6 ((u.1 1 6) + 1)) 1 7 ((sI u 1 6 ((u.1 1 6) + 1)).1 3 (nc ((u.1 1 6) + 1)))).1 4 (nc ((u.1 1 6) + 1)))) 1 9 ((sI (sI (sI u 1 6 ((u.1 1 6) + 1)) 1 7 ((sI u 1 6 ((u.1 1 6) + 1)).1 3 (nc ((u.1 1 6) + 1)))) 1 8 ((sI (sI u 1 6 ((u.1 1 6) + 1)) 1 7 ((sI u 1 6 ((u.1 1 6) + 1)).1 3 (nc ((u.1 1 6) + 1)))).1 4 (nc ((u.1 1 6) + 1)))).2.1 5 (nc ((u.1 1 6) + 1)))))))
          else (
            some ((), u)))
        else (
          some ((), u)))
      else (
        some ((), u)))
    else (
      some ((), u)))
theorem tX6_step (u : ab_S) : ab_G 0 6 cX6_step none 0 0 [some (vR (kO 6) 1), none] [] u wV (fX6_step u) := by
  rw [fX6_step]
  refine g_seg0 (pc' := 8) (L' := [some (vR (kO 6) 1), some (vI ((u.1 1 6) + 1))]) (st' := [vI ((u.1 1 6) + 1)]) (u1 := u) [(oL 2 0, 1), (oP (.getfield 56), 3), (oC 1, 1), (oP .iadd, 1), (oL 3 1, 1), (oL 0 1, 1)] (by decide +kernel) rfl rfl ?_
  refine g_zlt (off := 73) (tgt := 81) (pc2 := 11) (by decide +kernel) (by decide) rfl ?_ ?_
  · exact g_vret (by decide +kernel) rfl
  · refine g_seg0 (pc' := 16) (L' := [some (vR (kO 6) 1), some (vI ((u.1 1 6) + 1))]) (st' := [vI (u.1 1 5), vI ((u.1 1 6) + 1)]) (u1 := u) [(oL 0 1, 1), (oL 2 0, 1), (oP (.getfield 32), 3)] (by decide +kernel) rfl rfl ?_
    refine g_ige (off := 65) (tgt := 81) (pc2 := 19) (by decide +kernel) (by decide) rfl ?_ ?_
    · exact g_vret (by decide +kernel) rfl
    · refine g_seg0 (pc' := 25) (L' := [some (vR (kO 6) 1), some (vI ((u.1 1 6) + 1))]) (st' := [vI 1001, vI ((u.1 1 6) + 1)]) (u1 := u) [(oL 0 1, 1), (oL 2 0, 1), (oP (.getfield 15), 3), (oP .arraylength, 1)] (by decide +kernel) rfl rfl ?_
      refine g_ige (off := 56) (tgt := 81) (pc2 := 28) (by decide +kernel) (by decide) rfl ?_ ?_
      · exact g_vret (by decide +kernel) rfl
      · refine g_seg0 (pc' := 34) (L' := [some (vR (kO 6) 1), some (vI ((u.1 1 6) + 1))]) (st' := [vI 1001, vI ((u.1 1 6) + 1)]) (u1 := u) [(oL 0 1, 1), (oL 2 0, 1), (oP (.getfield 19), 3), (oP .arraylength, 1)] (by decide +kernel) rfl rfl ?_
        refine g_ige (off := 47) (tgt := 81) (pc2 := 37) (by decide +kernel) (by decide) rfl ?_ ?_
        · exact g_vret (by decide +kernel) rfl
        · refine g_seg0 (pc' := 43) (L' := [some (vR (kO 6) 1), some (vI ((u.1 1 6) + 1))]) (st' := [vI 1001, vI ((u.1 1 6) + 1)]) (u1 := u) [(oL 0 1, 1), (oL 2 0, 1), (oP (.getfield 22), 3), (oP .arraylength, 1)] (by decide +kernel) rfl rfl ?_
          refine g_ige (off := 38) (tgt := 81) (pc2 := 46) (by decide +kernel) (by decide) rfl ?_ ?_
          · exact g_vret (by decide +kernel) rfl
          · refine g_seg (pc' := 81) (L' := [some (vR (kO 6) 1), some (vI ((u.1 1 6) + 1))]) (st' := []) (u1 := (sJ (sI (sI (sI u 1 6 ((u.1 1 6) + 1)) 1 7 ((sI u 1 6 ((u.1 1 6) + 1)).1 3 (nc ((u.1 1 6) + 1)))) 1 8 ((sI (sI u 1 6 ((u.1 1 6) + 1)) 1 7 ((sI u 1 6 ((u.1 1 6) + 1)).1 3 (nc ((u.1 1 6) + 1)))).1 4 (nc ((u.1 1 6) + 1)))) 1 9 ((sI (sI (sI u 1 6 ((u.1 1 6) + 1)) 1 7 ((sI u 1 6 ((u.1 1 6) + 1)).1 3 (nc ((u.1 1 6) + 1)))) 1 8 ((sI (sI u 1 6 ((u.1 1 6) + 1)) 1 7 ((sI u 1 6 ((u.1 1 6) + 1)).1 3 (nc ((u.1 1 6) + 1)))).1 4 (nc ((u.1 1 6) + 1)))).2.1 5 (nc ((u.1 1 6) + 1))))) [(oL 2 0, 1), (oL 0 1, 1), (oP (.putfield 56), 3), (oL 2 0, 1), (oL 2 0, 1), (oP (.getfield 15), 3), (oL 0 1, 1), (oP .iaload, 1), (oP (.putfield 88), 3), (oL 2 0, 1), (oL 2 0, 1), (oP (.getfield 19), 3), (oL 0 1, 1), (oP .iaload, 1), (oP (.putfield 91), 3), (oL 2 0, 1), (oL 2 0, 1), (oP (.getfield 22), 3), (oL 0 1, 1), (oP .laload, 1), (oP (.putfield 94), 3)] (by decide +kernel) rfl rfl ?_
            exact g_vret (by decide +kernel) rfl
theorem CX6_step (u : ab_S) : ab_C 0 yX6_step cX6_step 2 none 0 [vR (kO 6) 1] u wV (fX6_step u) := ab_entry (by decide +kernel) rfl (by decide) (by decide) (fun _ => Nat.le_of_ble_eq_true rfl) rfl (tX6_step u)
def fX6_signAt (v1 : Int32) (u : ab_S) : Option (Int32 × ab_S) :=
  bif decide (v1 < 0) then (
    ab_gd [ab_c1 0] (some (0, u)))
  else (
    bif decide (v1 < 1000) then (
      ab_gd [ab_ix v1 1000] (
        ab_gd [ab_c1 (u.1 2 (nc v1))] (some ((u.1 2 (nc v1)), u))))
    else (
      ab_gd [ab_c1 0] (some (0, u))))
theorem tX6_signAt (v1 : Int32) (u : ab_S) : ab_G 0 6 cX6_signAt (some .char) 0 0 [some (vR (kO 6) 1), some (vI v1)] [] u wI (fX6_signAt v1 u) := by
  rw [fX6_signAt]
  refine g_seg0 (pc' := 1) (L' := [some (vR (kO 6) 1), some (vI v1)]) (st' := [vI v1]) (u1 := u) [(oL 0 1, 1)] (by decide +kernel) rfl rfl ?_
  refine g_zlt (off := 21) (tgt := 22) (pc2 := 4) (by decide +kernel) (by decide) rfl ?_ ?_
  · refine g_seg0 (pc' := 23) (L' := [some (vR (kO 6) 1), some (vI v1)]) (st' := [vI 0]) (u1 := u) [(oC 0, 1)] (by decide +kernel) rfl rfl ?_
    exact g_cret (by decide +kernel) rfl
  · refine g_seg0 (pc' := 10) (L' := [some (vR (kO 6) 1), some (vI v1)]) (st' := [vI 1000, vI v1]) (u1 := u) [(oL 0 1, 1), (oL 2 0, 1), (oP (.getfield 9), 3), (oP .arraylength, 1)] (by decide +kernel) rfl rfl ?_
    refine g_ige (off := 12) (tgt := 22) (pc2 := 13) (by decide +kernel) (by decide) rfl ?_ ?_
    · refine g_seg0 (pc' := 23) (L' := [some (vR (kO 6) 1), some (vI v1)]) (st' := [vI 0]) (u1 := u) [(oC 0, 1)] (by decide +kernel) rfl rfl ?_
      exact g_cret (by decide +kernel) rfl
    · refine g_seg (pc' := 19) (L' := [some (vR (kO 6) 1), some (vI v1)]) (st' := [vI (u.1 2 (nc v1))]) (u1 := u) [(oL 2 0, 1), (oP (.getfield 9), 3), (oL 0 1, 1), (oP .caload, 1)] (by decide +kernel) rfl rfl ?_
      refine g_goto (off := 4) (tgt := 23) (by decide +kernel) (by decide) ?_
      exact g_cret (by decide +kernel) rfl
theorem CX6_signAt (v1 : Int32) (u : ab_S) : ab_C 0 yX6_signAt cX6_signAt 2 (some .char) 0 [vR (kO 6) 1, vI v1] u wI (fX6_signAt v1 u) := ab_entry (by decide +kernel) rfl (by decide) (by decide) (fun _ => Nat.le_of_ble_eq_true rfl) rfl (tX6_signAt v1 u)
def fJ1_indexOfChar_4cfef_7 : Nat → Int32 → Int32 → Int32 → ab_S → Option (Int32 × ab_S)
  | 0, _, _, _, _ => none
  | n + 1, v3, v4, v5, u =>
  bif decide (v5 < v3) then (
    ab_gd [ab_ix v5 8] (
      bif decide ((ab_by.getD (nc v5) 0) = v4) then (
        some (v5, u))
      else (
        (fJ1_indexOfChar_4cfef_7 n) v3 v4 (v5 + 1) u)))
  else (
    some ((-1), u))
theorem tJ1_indexOfChar_4cfef_7 : ∀ (n : Nat) (v3 : Int32) (v4 : Int32) (v5 : Int32) (u : ab_S), ab_G 0 14 cJ1_indexOfChar_4cfef (some .int) 0 7 [some (vR (kA 7 8) 0), none, none, some (vI v3), some (vI v4), some (vI v5)] [] u wI (fJ1_indexOfChar_4cfef_7 n v3 v4 v5 u) := by
  intro n
  induction n with
  | zero => intros; exact g_none
  | succ n ih =>
    intro v3 v4 v5 u
    rw [fJ1_indexOfChar_4cfef_7]
    refine g_seg0 (pc' := 10) (L' := [some (vR (kA 7 8) 0), none, none, some (vI v3), some (vI v4), some (vI v5)]) (st' := [vI v3, vI v5]) (u1 := u) [(oL 0 5, 2), (oL 0 3, 1)] (by decide +kernel) rfl rfl ?_
    refine g_ige (off := 21) (tgt := 31) (pc2 := 13) (by decide +kernel) (by decide) rfl ?_ ?_
    · refine g_seg0 (pc' := 32) (L' := [some (vR (kA 7 8) 0), none, none, some (vI v3), some (vI v4), some (vI v5)]) (st' := [vI (-1)]) (u1 := u) [(oC (-1), 1)] (by decide +kernel) rfl rfl ?_
      exact g_iret (by decide +kernel) rfl
    · refine g_seg (pc' := 19) (L' := [some (vR (kA 7 8) 0), none, none, some (vI v3), some (vI v4), some (vI v5)]) (st' := [vI v4, vI (ab_by.getD (nc v5) 0)]) (u1 := u) [(oL 2 0, 1), (oL 0 5, 2), (oP .baload, 1), (oL 0 4, 2)] (by decide +kernel) rfl rfl ?_
      refine g_ine (off := 6) (tgt := 25) (pc2 := 22) (by decide +kernel) (by decide) rfl ?_ ?_
      · refine g_seg0 (pc' := 28) (L' := [some (vR (kA 7 8) 0), none, none, some (vI v3), some (vI v4), some (vI (v5 + 1))]) (st' := []) (u1 := u) [(oN 5 1, 3)] (by decide +kernel) rfl rfl ?_
        refine g_goto (off := (-21)) (tgt := 7) (by decide +kernel) (by decide) ?_
        exact ih v3 v4 (v5 + 1) u
      · refine g_seg0 (pc' := 24) (L' := [some (vR (kA 7 8) 0), none, none, some (vI v3), some (vI v4), some (vI v5)]) (st' := [vI v5]) (u1 := u) [(oL 0 5, 2)] (by decide +kernel) rfl rfl ?_
        exact g_iret (by decide +kernel) rfl
def fJ1_indexOfChar_4cfef (v1 : Int32) (v2 : Int32) (v3 : Int32) (u : ab_S) : Option (Int32 × ab_S) :=
  fJ1_indexOfChar_4cfef_7 fu v3 ((Int32.toInt8 v1).toInt32) v2 u
theorem tJ1_indexOfChar_4cfef (v1 : Int32) (v2 : Int32) (v3 : Int32) (u : ab_S) : ab_G 0 14 cJ1_indexOfChar_4cfef (some .int) 0 0 [some (vR (kA 7 8) 0), some (vI v1), some (vI v2), some (vI v3), none, none] [] u wI (fJ1_indexOfChar_4cfef v1 v2 v3 u) := by
  rw [fJ1_indexOfChar_4cfef]
  refine g_seg0 (pc' := 7) (L' := [some (vR (kA 7 8) 0), some (vI v1), some (vI v2), some (vI v3), some (vI ((Int32.toInt8 v1).toInt32)), some (vI v2)]) (st' := []) (u1 := u) [(oL 0 1, 1), (oP .i2b, 1), (oL 3 4, 2), (oL 0 2, 1), (oL 3 5, 2)] (by decide +kernel) rfl rfl ?_
  exact g_jump [true, false, false, true, true, true] rfl (tJ1_indexOfChar_4cfef_7 fu v3 ((Int32.toInt8 v1).toInt32) v2 u)
theorem CJ1_indexOfChar_4cfef (v1 : Int32) (v2 : Int32) (v3 : Int32) (u : ab_S) : ab_C 0 yJ1_indexOfChar_4cfef cJ1_indexOfChar_4cfef 6 (some .int) 0 [vR (kA 7 8) 0, vI v1, vI v2, vI v3] u wI (fJ1_indexOfChar_4cfef v1 v2 v3 u) := ab_entry (by decide +kernel) rfl (by decide) (by decide) (fun _ => Nat.le_of_ble_eq_true rfl) rfl (tJ1_indexOfChar_4cfef v1 v2 v3 u)
def fJ1_canEncode_9a6ad (v0 : Int32) (u : ab_S) : Option (Int32 × ab_S) :=
  bif decide (v0 < 0) then (
    ab_gd [ab_b1 0] (some (0, u)))
  else (
    bif decide (v0 ≤ 255) then (
      ab_gd [ab_b1 1] (some (1, u)))
    else (
      ab_gd [ab_b1 0] (some (0, u))))
theorem tJ1_canEncode_9a6ad (v0 : Int32) (u : ab_S) : ab_G 0 14 cJ1_canEncode_9a6ad (some .boolean) 0 0 [some (vI v0)] [] u wI (fJ1_canEncode_9a6ad v0 u) := by
  rw [fJ1_canEncode_9a6ad]
  refine g_seg0 (pc' := 1) (L' := [some (vI v0)]) (st' := [vI v0]) (u1 := u) [(oL 0 0, 1)] (by decide +kernel) rfl rfl ?_
  refine g_zlt (off := 14) (tgt := 15) (pc2 := 4) (by decide +kernel) (by decide) rfl ?_ ?_
  · refine g_seg0 (pc' := 16) (L' := [some (vI v0)]) (st' := [vI 0]) (u1 := u) [(oC 0, 1)] (by decide +kernel) rfl rfl ?_
    exact g_zret (by decide +kernel) rfl
  · refine g_seg0 (pc' := 8) (L' := [some (vI v0)]) (st' := [vI 255, vI v0]) (u1 := u) [(oL 0 0, 1), (oC 255, 3)] (by decide +kernel) rfl rfl ?_
    refine g_igt (off := 7) (tgt := 15) (pc2 := 11) (by decide +kernel) (by decide) rfl ?_ ?_
    · refine g_seg0 (pc' := 16) (L' := [some (vI v0)]) (st' := [vI 0]) (u1 := u) [(oC 0, 1)] (by decide +kernel) rfl rfl ?_
      exact g_zret (by decide +kernel) rfl
    · refine g_seg0 (pc' := 12) (L' := [some (vI v0)]) (st' := [vI 1]) (u1 := u) [(oC 1, 1)] (by decide +kernel) rfl rfl ?_
      refine g_goto (off := 4) (tgt := 16) (by decide +kernel) (by decide) ?_
      exact g_zret (by decide +kernel) rfl
theorem CJ1_canEncode_9a6ad (v0 : Int32) (u : ab_S) : ab_C 0 yJ1_canEncode_9a6ad cJ1_canEncode_9a6ad 1 (some .boolean) 0 [vI v0] u wI (fJ1_canEncode_9a6ad v0 u) := ab_entry (by decide +kernel) rfl (by decide) (by decide) (fun _ => Nat.le_of_ble_eq_true rfl) rfl (tJ1_canEncode_9a6ad v0 u)
def fJ1_indexOf_4cfef (v1 : Int32) (v2 : Int32) (v3 : Int32) (u : ab_S) : Option (Int32 × ab_S) :=
  (fJ1_canEncode_9a6ad v1 u).bind fun q1 =>
    bif decide (q1.1 = 0) then (
      some ((-1), q1.2))
    else (
      bif decide ((if v2 < 0 then 0 else v2) < (if 8 < v3 then 8 else v3)) then (
        (fJ1_indexOfChar_4cfef v1 (if v2 < 0 then 0 else v2) (if 8 < v3 then 8 else v3) q1.2).bind fun q2 =>
          some (q2.1, q2.2))
      else (
        some ((-1), q1.2)))
theorem tJ1_indexOf_4cfef (v1 : Int32) (v2 : Int32) (v3 : Int32) (u : ab_S) : ab_G 0 14 cJ1_indexOf_4cfef (some .int) 1 0 [some (vR (kA 7 8) 0), some (vI v1), some (vI v2), some (vI v3)] [] u wI (fJ1_indexOf_4cfef v1 v2 v3 u) := by
  rw [fJ1_indexOf_4cfef]
  refine g_seg0 (pc' := 1) (L' := [some (vR (kA 7 8) 0), some (vI v1), some (vI v2), some (vI v3)]) (st' := [vI v1]) (u1 := u) [(oL 0 1, 1)] (by decide +kernel) rfl rfl ?_
  refine g_callS (k := 88) (pc2 := 4) (st := []) (CJ1_canEncode_9a6ad v1 u) miJ1_canEncode_9a6ad msJ1_canEncode_9a6ad lk14_88 wI_ok (by decide +kernel) rfl (Nat.le_of_ble_eq_true rfl) (by decide) rfl (fun q1 hq1 => ?_)
  refine g_zne (off := 5) (tgt := 9) (pc2 := 7) (by decide +kernel) (by decide) rfl ?_ ?_
  · refine g_seg0 (pc' := 11) (L' := [some (vR (kA 7 8) 0), some (vI v1), some (vI v2), some (vI v3)]) (st' := [vI 0, vI v2]) (u1 := q1.2) [(oL 0 2, 1), (oC 0, 1)] (by decide +kernel) rfl rfl ?_
    refine g_max (k := 92) (pc2 := 14) (st := []) lm14_92 (by decide +kernel) (Nat.le_of_ble_eq_true rfl) (by decide) rfl ?_
    refine g_seg0 (pc' := 18) (L' := [some (vR (kA 7 8) 0), some (vI v1), some (vI (if v2 < 0 then 0 else v2)), some (vI v3)]) (st' := [vI 8, vI v3]) (u1 := q1.2) [(oL 3 2, 1), (oL 0 3, 1), (oL 2 0, 1), (oP .arraylength, 1)] (by decide +kernel) rfl rfl ?_
    refine g_min (k := 38) (pc2 := 21) (st := []) lm14_38 (by decide +kernel) (Nat.le_of_ble_eq_true rfl) (by decide) rfl ?_
    refine g_seg0 (pc' := 24) (L' := [some (vR (kA 7 8) 0), some (vI v1), some (vI (if v2 < 0 then 0 else v2)), some (vI (if 8 < v3 then 8 else v3))]) (st' := [vI (if 8 < v3 then 8 else v3), vI (if v2 < 0 then 0 else v2)]) (u1 := q1.2) [(oL 3 3, 1), (oL 0 2, 1), (oL 0 3, 1)] (by decide +kernel) rfl rfl ?_
    refine g_ilt (off := 5) (tgt := 29) (pc2 := 27) (by decide +kernel) (by decide) rfl ?_ ?_
    · refine g_seg0 (pc' := 33) (L' := [some (vR (kA 7 8) 0), some (vI v1), some (vI (if v2 < 0 then 0 else v2)), some (vI (if 8 < v3 then 8 else v3))]) (st' := [vI (if 8 < v3 then 8 else v3), vI (if v2 < 0 then 0 else v2), vI v1, vR (kA 7 8) 0]) (u1 := q1.2) [(oL 2 0, 1), (oL 0 1, 1), (oL 0 2, 1), (oL 0 3, 1)] (by decide +kernel) rfl rfl ?_
      refine g_callS (k := 95) (pc2 := 36) (st := []) (CJ1_indexOfChar_4cfef v1 (if v2 < 0 then 0 else v2) (if 8 < v3 then 8 else v3) q1.2) miJ1_indexOfChar_4cfef msJ1_indexOfChar_4cfef lk14_95 wI_ok (by decide +kernel) rfl (Nat.le_of_ble_eq_true rfl) (by decide) rfl (fun q2 hq2 => ?_)
      exact g_iret (by decide +kernel) rfl
    · refine g_seg0 (pc' := 28) (L' := [some (vR (kA 7 8) 0), some (vI v1), some (vI (if v2 < 0 then 0 else v2)), some (vI (if 8 < v3 then 8 else v3))]) (st' := [vI (-1)]) (u1 := q1.2) [(oC (-1), 1)] (by decide +kernel) rfl rfl ?_
      exact g_iret (by decide +kernel) rfl
  · refine g_seg0 (pc' := 8) (L' := [some (vR (kA 7 8) 0), some (vI v1), some (vI v2), some (vI v3)]) (st' := [vI (-1)]) (u1 := q1.2) [(oC (-1), 1)] (by decide +kernel) rfl rfl ?_
    exact g_iret (by decide +kernel) rfl
theorem CJ1_indexOf_4cfef (v1 : Int32) (v2 : Int32) (v3 : Int32) (u : ab_S) : ab_C 0 yJ1_indexOf_4cfef cJ1_indexOf_4cfef 4 (some .int) 1 [vR (kA 7 8) 0, vI v1, vI v2, vI v3] u wI (fJ1_indexOf_4cfef v1 v2 v3 u) := ab_entry (by decide +kernel) rfl (by decide) (by decide) (fun _ => Nat.le_of_ble_eq_true rfl) rfl (tJ1_indexOf_4cfef v1 v2 v3 u)
def fJ0_isLatin1_aae02 (u : ab_S) : Option (Int32 × ab_S) :=
  bif decide (1 = 0) then (
    ab_gd [ab_b1 0] (some (0, u)))
  else (
    bif decide (0 = 0) then (
      ab_gd [ab_b1 1] (some (1, u)))
    else (
      ab_gd [ab_b1 0] (some (0, u))))
theorem tJ0_isLatin1_aae02 (u : ab_S) : ab_G 0 13 cJ0_isLatin1_aae02 (some .boolean) 0 0 [some (vR (kO 21) 0)] [] u wI (fJ0_isLatin1_aae02 u) := by
  rw [fJ0_isLatin1_aae02]
  refine g_seg0 (pc' := 3) (L' := [some (vR (kO 21) 0)]) (st' := [vI 1]) (u1 := u) [(oP (.getstatic 38), 3)] (by decide +kernel) rfl rfl ?_
  refine g_zeq (off := 14) (tgt := 17) (pc2 := 6) (by decide +kernel) (by decide) rfl ?_ ?_
  · refine g_seg0 (pc' := 18) (L' := [some (vR (kO 21) 0)]) (st' := [vI 0]) (u1 := u) [(oC 0, 1)] (by decide +kernel) rfl rfl ?_
    exact g_zret (by decide +kernel) rfl
  · refine g_seg0 (pc' := 10) (L' := [some (vR (kO 21) 0)]) (st' := [vI 0]) (u1 := u) [(oL 2 0, 1), (oP (.getfield 15), 3)] (by decide +kernel) rfl rfl ?_
    refine g_zne (off := 7) (tgt := 17) (pc2 := 13) (by decide +kernel) (by decide) rfl ?_ ?_
    · refine g_seg0 (pc' := 18) (L' := [some (vR (kO 21) 0)]) (st' := [vI 0]) (u1 := u) [(oC 0, 1)] (by decide +kernel) rfl rfl ?_
      exact g_zret (by decide +kernel) rfl
    · refine g_seg0 (pc' := 14) (L' := [some (vR (kO 21) 0)]) (st' := [vI 1]) (u1 := u) [(oC 1, 1)] (by decide +kernel) rfl rfl ?_
      refine g_goto (off := 4) (tgt := 18) (by decide +kernel) (by decide) ?_
      exact g_zret (by decide +kernel) rfl
theorem CJ0_isLatin1_aae02 (u : ab_S) : ab_C 0 yJ0_isLatin1_aae02 cJ0_isLatin1_aae02 1 (some .boolean) 0 [vR (kO 21) 0] u wI (fJ0_isLatin1_aae02 u) := ab_entry (by decide +kernel) rfl (by decide) (by decide) (fun _ => Nat.le_of_ble_eq_true rfl) rfl (tJ0_isLatin1_aae02 u)
def fJ0_coder_7d493 (u : ab_S) : Option (Int32 × ab_S) :=
  bif decide (1 = 0) then (
    ab_gd [ab_y1 1] (some (1, u)))
  else (
    ab_gd [ab_y1 0] (some (0, u)))
theorem tJ0_coder_7d493 (u : ab_S) : ab_G 0 13 cJ0_coder_7d493 (some .byte) 0 0 [some (vR (kO 21) 0)] [] u wI (fJ0_coder_7d493 u) := by
  rw [fJ0_coder_7d493]
  refine g_seg0 (pc' := 3) (L' := [some (vR (kO 21) 0)]) (st' := [vI 1]) (u1 := u) [(oP (.getstatic 38), 3)] (by decide +kernel) rfl rfl ?_
  refine g_zeq (off := 10) (tgt := 13) (pc2 := 6) (by decide +kernel) (by decide) rfl ?_ ?_
  · refine g_seg0 (pc' := 14) (L' := [some (vR (kO 21) 0)]) (st' := [vI 1]) (u1 := u) [(oC 1, 1)] (by decide +kernel) rfl rfl ?_
    exact g_bret (by decide +kernel) rfl
  · refine g_seg0 (pc' := 10) (L' := [some (vR (kO 21) 0)]) (st' := [vI 0]) (u1 := u) [(oL 2 0, 1), (oP (.getfield 15), 3)] (by decide +kernel) rfl rfl ?_
    refine g_goto (off := 4) (tgt := 14) (by decide +kernel) (by decide) ?_
    exact g_bret (by decide +kernel) rfl
theorem CJ0_coder_7d493 (u : ab_S) : ab_C 0 yJ0_coder_7d493 cJ0_coder_7d493 1 (some .byte) 0 [vR (kO 21) 0] u wI (fJ0_coder_7d493 u) := ab_entry (by decide +kernel) rfl (by decide) (by decide) (fun _ => Nat.le_of_ble_eq_true rfl) rfl (tJ0_coder_7d493 u)
def fJ0_length_8abf5 (u : ab_S) : Option (Int32 × ab_S) :=
  (fJ0_coder_7d493 u).bind fun q1 =>
    some (((8 : Int32) >>> (q1.1 &&& 31)), q1.2)
theorem tJ0_length_8abf5 (u : ab_S) : ab_G 0 13 cJ0_length_8abf5 (some .int) 1 0 [some (vR (kO 21) 0)] [] u wI (fJ0_length_8abf5 u) := by
  rw [fJ0_length_8abf5]
  refine g_seg0 (pc' := 6) (L' := [some (vR (kO 21) 0)]) (st' := [vR (kO 21) 0, vI 8]) (u1 := u) [(oL 2 0, 1), (oP (.getfield 9), 3), (oP .arraylength, 1), (oL 2 0, 1)] (by decide +kernel) rfl rfl ?_
  refine g_callK (k := 335) (pc2 := 9) (st := [vI 8]) (CJ0_coder_7d493 u) miJ0_coder_7d493 mvJ0_coder_7d493 lk13_335 wI_ok (by decide +kernel) rfl (Nat.le_of_ble_eq_true rfl) (by decide) rfl (fun q1 hq1 => ?_)
  refine g_seg0 (pc' := 10) (L' := [some (vR (kO 21) 0)]) (st' := [vI ((8 : Int32) >>> (q1.1 &&& 31))]) (u1 := q1.2) [(oP .ishr, 1)] (by decide +kernel) rfl rfl ?_
  exact g_iret (by decide +kernel) rfl
theorem CJ0_length_8abf5 (u : ab_S) : ab_C 0 yJ0_length_8abf5 cJ0_length_8abf5 1 (some .int) 1 [vR (kO 21) 0] u wI (fJ0_length_8abf5 u) := ab_entry (by decide +kernel) rfl (by decide) (by decide) (fun _ => Nat.le_of_ble_eq_true rfl) rfl (tJ0_length_8abf5 u)
def fJ0_indexOf_7cf53 (v1 : Int32) (v2 : Int32) (u : ab_S) : Option (Int32 × ab_S) :=
  (fJ0_isLatin1_aae02 u).bind fun q1 =>
    bif decide (q1.1 = 0) then (
      (fJ0_length_8abf5 q1.2).bind fun q2 =>
        none)
    else (
      (fJ0_length_8abf5 q1.2).bind fun q3 =>
        (fJ1_indexOf_4cfef v1 v2 q3.1 q3.2).bind fun q4 =>
          some (q4.1, q4.2))
theorem tJ0_indexOf_7cf53 (v1 : Int32) (v2 : Int32) (u : ab_S) : ab_G 0 13 cJ0_indexOf_7cf53 (some .int) 2 0 [some (vR (kO 21) 0), some (vI v1), some (vI v2)] [] u wI (fJ0_indexOf_7cf53 v1 v2 u) := by
  rw [fJ0_indexOf_7cf53]
  refine g_seg0 (pc' := 1) (L' := [some (vR (kO 21) 0), some (vI v1), some (vI v2)]) (st' := [vR (kO 21) 0]) (u1 := u) [(oL 2 0, 1)] (by decide +kernel) rfl rfl ?_
  refine g_callK (k := 492) (pc2 := 4) (st := []) (CJ0_isLatin1_aae02 u) miJ0_isLatin1_aae02 mvJ0_isLatin1_aae02 lk13_492 wI_ok (by decide +kernel) rfl (Nat.le_of_ble_eq_true rfl) (by decide) rfl (fun q1 hq1 => ?_)
  refine g_zeq (off := 19) (tgt := 23) (pc2 := 7) (by decide +kernel) (by decide) rfl ?_ ?_
  · refine g_seg0 (pc' := 30) (L' := [some (vR (kO 21) 0), some (vI v1), some (vI v2)]) (st' := [vR (kO 21) 0, vI v2, vI v1, vR (kA 7 8) 0]) (u1 := q1.2) [(oL 2 0, 1), (oP (.getfield 9), 3), (oL 0 1, 1), (oL 0 2, 1), (oL 2 0, 1)] (by decide +kernel) rfl rfl ?_
    refine g_callK (k := 505) (pc2 := 33) (st := [vI v2, vI v1, vR (kA 7 8) 0]) (CJ0_length_8abf5 q1.2) miJ0_length_8abf5 mvJ0_length_8abf5 lk13_505 wI_ok (by decide +kernel) rfl (Nat.le_of_ble_eq_true rfl) (by decide) rfl (fun q2 hq2 => ?_)
    exact g_none
  · refine g_seg0 (pc' := 14) (L' := [some (vR (kO 21) 0), some (vI v1), some (vI v2)]) (st' := [vR (kO 21) 0, vI v2, vI v1, vR (kA 7 8) 0]) (u1 := q1.2) [(oL 2 0, 1), (oP (.getfield 9), 3), (oL 0 1, 1), (oL 0 2, 1), (oL 2 0, 1)] (by decide +kernel) rfl rfl ?_
    refine g_callK (k := 505) (pc2 := 17) (st := [vI v2, vI v1, vR (kA 7 8) 0]) (CJ0_length_8abf5 q1.2) miJ0_length_8abf5 mvJ0_length_8abf5 lk13_505 wI_ok (by decide +kernel) rfl (Nat.le_of_ble_eq_true rfl) (by decide) rfl (fun q3 hq3 => ?_)
    refine g_callS (k := 637) (pc2 := 20) (st := []) (CJ1_indexOf_4cfef v1 v2 q3.1 q3.2) miJ1_indexOf_4cfef msJ1_indexOf_4cfef lk13_637 wI_ok (by decide +kernel) rfl (Nat.le_of_ble_eq_true rfl) (by decide) rfl (fun q4 hq4 => ?_)
    refine g_goto (off := 16) (tgt := 36) (by decide +kernel) (by decide) ?_
    exact g_iret (by decide +kernel) rfl
theorem CJ0_indexOf_7cf53 (v1 : Int32) (v2 : Int32) (u : ab_S) : ab_C 0 yJ0_indexOf_7cf53 cJ0_indexOf_7cf53 3 (some .int) 2 [vR (kO 21) 0, vI v1, vI v2] u wI (fJ0_indexOf_7cf53 v1 v2 u) := ab_entry (by decide +kernel) rfl (by decide) (by decide) (fun _ => Nat.le_of_ble_eq_true rfl) rfl (tJ0_indexOf_7cf53 v1 v2 u)
def fJ0_indexOf_0f7a4 (v1 : Int32) (u : ab_S) : Option (Int32 × ab_S) :=
  (fJ0_indexOf_7cf53 v1 0 u).bind fun q1 =>
    some (q1.1, q1.2)
theorem tJ0_indexOf_0f7a4 (v1 : Int32) (u : ab_S) : ab_G 0 13 cJ0_indexOf_0f7a4 (some .int) 3 0 [some (vR (kO 21) 0), some (vI v1)] [] u wI (fJ0_indexOf_0f7a4 v1 u) := by
  rw [fJ0_indexOf_0f7a4]
  refine g_seg0 (pc' := 3) (L' := [some (vR (kO 21) 0), some (vI v1)]) (st' := [vI 0, vI v1, vR (kO 21) 0]) (u1 := u) [(oL 2 0, 1), (oL 0 1, 1), (oC 0, 1)] (by decide +kernel) rfl rfl ?_
  refine g_callK (k := 633) (pc2 := 6) (st := []) (CJ0_indexOf_7cf53 v1 0 u) miJ0_indexOf_7cf53 mvJ0_indexOf_7cf53 lk13_633 wI_ok (by decide +kernel) rfl (Nat.le_of_ble_eq_true rfl) (by decide) rfl (fun q1 hq1 => ?_)
  exact g_iret (by decide +kernel) rfl
theorem CJ0_indexOf_0f7a4 (v1 : Int32) (u : ab_S) : ab_C 0 yJ0_indexOf_0f7a4 cJ0_indexOf_0f7a4 2 (some .int) 3 [vR (kO 21) 0, vI v1] u wI (fJ0_indexOf_0f7a4 v1 u) := ab_entry (by decide +kernel) rfl (by decide) (by decide) (fun _ => Nat.le_of_ble_eq_true rfl) rfl (tJ0_indexOf_0f7a4 v1 u)
def fX6_isDigit (v0 : Int32) (u : ab_S) : Option (Int32 × ab_S) :=
  bif decide (v0 < 48) then (
    ab_gd [ab_b1 0] (some (0, u)))
  else (
    bif decide (v0 ≤ 57) then (
      ab_gd [ab_b1 1] (some (1, u)))
    else (
      ab_gd [ab_b1 0] (some (0, u))))
theorem tX6_isDigit (v0 : Int32) (u : ab_S) : ab_G 0 6 cX6_isDigit (some .boolean) 0 0 [some (vI v0)] [] u wI (fX6_isDigit v0 u) := by
  rw [fX6_isDigit]
  refine g_seg0 (pc' := 3) (L' := [some (vI v0)]) (st' := [vI 48, vI v0]) (u1 := u) [(oL 0 0, 1), (oC 48, 2)] (by decide +kernel) rfl rfl ?_
  refine g_ilt (off := 13) (tgt := 16) (pc2 := 6) (by decide +kernel) (by decide) rfl ?_ ?_
  · refine g_seg0 (pc' := 17) (L' := [some (vI v0)]) (st' := [vI 0]) (u1 := u) [(oC 0, 1)] (by decide +kernel) rfl rfl ?_
    exact g_zret (by decide +kernel) rfl
  · refine g_seg0 (pc' := 9) (L' := [some (vI v0)]) (st' := [vI 57, vI v0]) (u1 := u) [(oL 0 0, 1), (oC 57, 2)] (by decide +kernel) rfl rfl ?_
    refine g_igt (off := 7) (tgt := 16) (pc2 := 12) (by decide +kernel) (by decide) rfl ?_ ?_
    · refine g_seg0 (pc' := 17) (L' := [some (vI v0)]) (st' := [vI 0]) (u1 := u) [(oC 0, 1)] (by decide +kernel) rfl rfl ?_
      exact g_zret (by decide +kernel) rfl
    · refine g_seg0 (pc' := 13) (L' := [some (vI v0)]) (st' := [vI 1]) (u1 := u) [(oC 1, 1)] (by decide +kernel) rfl rfl ?_
      refine g_goto (off := 4) (tgt := 17) (by decide +kernel) (by decide) ?_
      exact g_zret (by decide +kernel) rfl
theorem CX6_isDigit (v0 : Int32) (u : ab_S) : ab_C 0 yX6_isDigit cX6_isDigit 1 (some .boolean) 0 [vI v0] u wI (fX6_isDigit v0 u) := ab_entry (by decide +kernel) rfl (by decide) (by decide) (fun _ => Nat.le_of_ble_eq_true rfl) rfl (tX6_isDigit v0 u)
def fX6_isLetter (v0 : Int32) (u : ab_S) : Option (Int32 × ab_S) :=
  bif decide (v0 < 97) then (
    ab_gd [ab_b1 0] (some (0, u)))
  else (
    bif decide (v0 ≤ 122) then (
      ab_gd [ab_b1 1] (some (1, u)))
    else (
      ab_gd [ab_b1 0] (some (0, u))))
theorem tX6_isLetter (v0 : Int32) (u : ab_S) : ab_G 0 6 cX6_isLetter (some .boolean) 0 0 [some (vI v0)] [] u wI (fX6_isLetter v0 u) := by
  rw [fX6_isLetter]
  refine g_seg0 (pc' := 3) (L' := [some (vI v0)]) (st' := [vI 97, vI v0]) (u1 := u) [(oL 0 0, 1), (oC 97, 2)] (by decide +kernel) rfl rfl ?_
  refine g_ilt (off := 13) (tgt := 16) (pc2 := 6) (by decide +kernel) (by decide) rfl ?_ ?_
  · refine g_seg0 (pc' := 17) (L' := [some (vI v0)]) (st' := [vI 0]) (u1 := u) [(oC 0, 1)] (by decide +kernel) rfl rfl ?_
    exact g_zret (by decide +kernel) rfl
  · refine g_seg0 (pc' := 9) (L' := [some (vI v0)]) (st' := [vI 122, vI v0]) (u1 := u) [(oL 0 0, 1), (oC 122, 2)] (by decide +kernel) rfl rfl ?_
    refine g_igt (off := 7) (tgt := 16) (pc2 := 12) (by decide +kernel) (by decide) rfl ?_ ?_
    · refine g_seg0 (pc' := 17) (L' := [some (vI v0)]) (st' := [vI 0]) (u1 := u) [(oC 0, 1)] (by decide +kernel) rfl rfl ?_
      exact g_zret (by decide +kernel) rfl
    · refine g_seg0 (pc' := 13) (L' := [some (vI v0)]) (st' := [vI 1]) (u1 := u) [(oC 1, 1)] (by decide +kernel) rfl rfl ?_
      refine g_goto (off := 4) (tgt := 17) (by decide +kernel) (by decide) ?_
      exact g_zret (by decide +kernel) rfl
theorem CX6_isLetter (v0 : Int32) (u : ab_S) : ab_C 0 yX6_isLetter cX6_isLetter 1 (some .boolean) 0 [vI v0] u wI (fX6_isLetter v0 u) := ab_entry (by decide +kernel) rfl (by decide) (by decide) (fun _ => Nat.le_of_ble_eq_true rfl) rfl (tX6_isLetter v0 u)
def fX9_spell (v0 : Int64) (v2 : Int32) (u : ab_S) : Option (Int64 × ab_S) :=
  some (((v0 * 27) + (Int32.toInt64 ((v2 - 97) + 1))), u)
theorem tX9_spell (v0 : Int64) (v2 : Int32) (u : ab_S) : ab_G 0 8 cX9_spell (some .long) 0 0 [some (vL v0), none, some (vI v2)] [] u wJ (fX9_spell v0 v2 u) := by
  rw [fX9_spell]
  refine g_seg0 (pc' := 13) (L' := [some (vL v0), none, some (vI v2)]) (st' := [vL ((v0 * 27) + (Int32.toInt64 ((v2 - 97) + 1)))]) (u1 := u) [(oL 1 0, 1), (oD 27, 3), (oP .lmul, 1), (oL 0 2, 1), (oC 97, 2), (oP .isub, 1), (oC 1, 1), (oP .iadd, 1), (oP .i2l, 1), (oP .ladd, 1)] (by decide +kernel) rfl rfl ?_
  exact g_lret (by decide +kernel) rfl
theorem CX9_spell (v0 : Int64) (v2 : Int32) (u : ab_S) : ab_C 0 yX9_spell cX9_spell 3 (some .long) 0 [vL v0, vI v2] u wJ (fX9_spell v0 v2 u) := ab_entry (by decide +kernel) rfl (by decide) (by decide) (fun _ => Nat.le_of_ble_eq_true rfl) rfl (tX9_spell v0 v2 u)
def fX6_scanWord_53 (v1 : Int32) (v2 : Int32) (v3 : Int64) (s1 : Int32) (u : ab_S) : Option (Int32 × ab_S) :=
  (fX6_add s1 v1 v3 u).bind fun q1 =>
    some (v2, q1.2)
theorem tX6_scanWord_53 (v1 : Int32) (v2 : Int32) (v3 : Int64) (s1 : Int32) (u : ab_S) : ab_G 0 6 cX6_scanWord (some .int) 1 53 [none, some (vI v1), some (vI v2), some (vL v3), none] [vI s1, vR (kO 6) 1] u wI (fX6_scanWord_53 v1 v2 v3 s1 u) := by
  rw [fX6_scanWord_53]
  refine g_seg0 (pc' := 55) (L' := [none, some (vI v1), some (vI v2), some (vL v3), none]) (st' := [vL v3, vI v1, vI s1, vR (kO 6) 1]) (u1 := u) [(oL 0 1, 1), (oL 1 3, 1)] (by decide +kernel) rfl rfl ?_
  refine g_callV (k := 52) (pc2 := 58) (st := []) (CX6_add s1 v1 v3 u) miX6_add mvX6_add rfl (by decide) lk6_52 wV_ok (by decide +kernel) rfl (Nat.le_of_ble_eq_true rfl) (by decide) rfl (fun q1 hq1 => ?_)
  refine g_seg0 (pc' := 59) (L' := [none, some (vI v1), some (vI v2), some (vL v3), none]) (st' := [vI v2]) (u1 := q1.2) [(oL 0 2, 1)] (by decide +kernel) rfl rfl ?_
  exact g_iret (by decide +kernel) rfl
def fX6_scanWord_39 (v1 : Int32) (v2 : Int32) (v3 : Int64) (u : ab_S) : Option (Int32 × ab_S) :=
  bif decide ((v2 - v1) ≤ 8) then (
    fX6_scanWord_53 v1 v2 v3 2 u)
  else (
    fX6_scanWord_53 v1 v2 v3 1 u)
theorem tX6_scanWord_39 (v1 : Int32) (v2 : Int32) (v3 : Int64) (u : ab_S) : ab_G 0 6 cX6_scanWord (some .int) 1 39 [some (vR (kO 6) 1), some (vI v1), some (vI v2), some (vL v3), none] [] u wI (fX6_scanWord_39 v1 v2 v3 u) := by
  rw [fX6_scanWord_39]
  refine g_seg0 (pc' := 45) (L' := [some (vR (kO 6) 1), some (vI v1), some (vI v2), some (vL v3), none]) (st' := [vI 8, vI (v2 - v1), vR (kO 6) 1]) (u1 := u) [(oL 2 0, 1), (oL 0 2, 1), (oL 0 1, 1), (oP .isub, 1), (oC 8, 2)] (by decide +kernel) rfl rfl ?_
  refine g_igt (off := 7) (tgt := 52) (pc2 := 48) (by decide +kernel) (by decide) rfl ?_ ?_
  · refine g_seg0 (pc' := 53) (L' := [some (vR (kO 6) 1), some (vI v1), some (vI v2), some (vL v3), none]) (st' := [vI 1, vR (kO 6) 1]) (u1 := u) [(oC 1, 1)] (by decide +kernel) rfl rfl ?_
    exact g_jump [false, true, true, true, false] rfl (tX6_scanWord_53 v1 v2 v3 1 u)
  · refine g_seg0 (pc' := 49) (L' := [some (vR (kO 6) 1), some (vI v1), some (vI v2), some (vL v3), none]) (st' := [vI 2, vR (kO 6) 1]) (u1 := u) [(oC 2, 1)] (by decide +kernel) rfl rfl ?_
    refine g_goto (off := 4) (tgt := 53) (by decide +kernel) (by decide) ?_
    exact g_jump [false, true, true, true, false] rfl (tX6_scanWord_53 v1 v2 v3 2 u)
def fX6_scanWord_4 : Nat → Int32 → Int32 → Int64 → ab_S → Option (Int32 × ab_S)
  | 0, _, _, _, _ => none
  | n + 1, v1, v2, v3, u =>
  bif decide (v2 < (u.1 1 1)) then (
    (fX6_signAt v2 u).bind fun q2 =>
      (fX6_isLetter q2.1 q2.2).bind fun q3 =>
        bif decide (q3.1 = 0) then (
          fX6_scanWord_39 v1 v2 v3 q3.2)
        else (
          (fX6_signAt v2 q3.2).bind fun q4 =>
            (fX9_spell v3 q4.1 q4.2).bind fun q5 =>
              (fX6_scanWord_4 n) v1 (v2 + 1) q5.1 q5.2))
  else (
    fX6_scanWord_39 v1 v2 v3 u)
theorem tX6_scanWord_4 : ∀ (n : Nat) (v1 : Int32) (v2 : Int32) (v3 : Int64) (u : ab_S), ab_G 0 6 cX6_scanWord (some .int) 1 4 [some (vR (kO 6) 1), some (vI v1), some (vI v2), some (vL v3), none] [] u wI (fX6_scanWord_4 n v1 v2 v3 u) := by
  intro n
  induction n with
  | zero => intros; exact g_none
  | succ n ih =>
    intro v1 v2 v3 u
    rw [fX6_scanWord_4]
    refine g_seg0 (pc' := 9) (L' := [some (vR (kO 6) 1), some (vI v1), some (vI v2), some (vL v3), none]) (st' := [vI (u.1 1 1), vI v2]) (u1 := u) [(oL 0 2, 1), (oL 2 0, 1), (oP (.getfield 28), 3)] (by decide +kernel) rfl rfl ?_
    refine g_ige (off := 30) (tgt := 39) (pc2 := 12) (by decide +kernel) (by decide) rfl ?_ ?_
    · exact tX6_scanWord_39 v1 v2 v3 u
    · refine g_seg0 (pc' := 14) (L' := [some (vR (kO 6) 1), some (vI v1), some (vI v2), some (vL v3), none]) (st' := [vI v2, vR (kO 6) 1]) (u1 := u) [(oL 2 0, 1), (oL 0 2, 1)] (by decide +kernel) rfl rfl ?_
      refine g_callV (k := 38) (pc2 := 17) (st := []) (CX6_signAt v2 u) miX6_signAt mvX6_signAt rfl (by decide) lk6_38 wI_ok (by decide +kernel) rfl (Nat.le_of_ble_eq_true rfl) (by decide) rfl (fun q2 hq2 => ?_)
      refine g_callS (k := 62) (pc2 := 20) (st := []) (CX6_isLetter q2.1 q2.2) miX6_isLetter msX6_isLetter lk6_62 wI_ok (by decide +kernel) rfl (Nat.le_of_ble_eq_true rfl) (by decide) rfl (fun q3 hq3 => ?_)
      refine g_zeq (off := 19) (tgt := 39) (pc2 := 23) (by decide +kernel) (by decide) rfl ?_ ?_
      · exact tX6_scanWord_39 v1 v2 v3 q3.2
      · refine g_seg0 (pc' := 26) (L' := [some (vR (kO 6) 1), some (vI v1), some (vI v2), some (vL v3), none]) (st' := [vI v2, vR (kO 6) 1, vL v3]) (u1 := q3.2) [(oL 1 3, 1), (oL 2 0, 1), (oL 0 2, 1)] (by decide +kernel) rfl rfl ?_
        refine g_callV (k := 38) (pc2 := 29) (st := [vL v3]) (CX6_signAt v2 q3.2) miX6_signAt mvX6_signAt rfl (by decide) lk6_38 wI_ok (by decide +kernel) rfl (Nat.le_of_ble_eq_true rfl) (by decide) rfl (fun q4 hq4 => ?_)
        refine g_callS (k := 82) (pc2 := 32) (st := []) (CX9_spell v3 q4.1 q4.2) miX9_spell msX9_spell lk6_82 wJ_ok (by decide +kernel) rfl (Nat.le_of_ble_eq_true rfl) (by decide) rfl (fun q5 hq5 => ?_)
        refine g_seg0 (pc' := 36) (L' := [some (vR (kO 6) 1), some (vI v1), some (vI (v2 + 1)), some (vL (q5.1)), none]) (st' := []) (u1 := q5.2) [(oL 4 3, 1), (oN 2 1, 3)] (by decide +kernel) rfl rfl ?_
        refine g_goto (off := (-32)) (tgt := 4) (by decide +kernel) (by decide) ?_
        exact ih v1 (v2 + 1) q5.1 q5.2
def fX6_scanWord (v1 : Int32) (u : ab_S) : Option (Int32 × ab_S) :=
  fX6_scanWord_4 fu v1 v1 0 u
theorem tX6_scanWord (v1 : Int32) (u : ab_S) : ab_G 0 6 cX6_scanWord (some .int) 1 0 [some (vR (kO 6) 1), some (vI v1), none, none, none] [] u wI (fX6_scanWord v1 u) := by
  rw [fX6_scanWord]
  refine g_seg0 (pc' := 4) (L' := [some (vR (kO 6) 1), some (vI v1), some (vI v1), some (vL 0), none]) (st' := []) (u1 := u) [(oL 0 1, 1), (oL 3 2, 1), (oD 0, 1), (oL 4 3, 1)] (by decide +kernel) rfl rfl ?_
  exact tX6_scanWord_4 fu v1 v1 0 u
theorem CX6_scanWord (v1 : Int32) (u : ab_S) : ab_C 0 yX6_scanWord cX6_scanWord 5 (some .int) 1 [vR (kO 6) 1, vI v1] u wI (fX6_scanWord v1 u) := ab_entry (by decide +kernel) rfl (by decide) (by decide) (fun _ => Nat.le_of_ble_eq_true rfl) rfl (tX6_scanWord v1 u)
def fX6_scanNumber_58 (v1 : Int32) (v2 : Int32) (v3 : Int64) (s1 : Int32) (u : ab_S) : Option (Int32 × ab_S) :=
  (fX6_add s1 v1 v3 u).bind fun q1 =>
    some (v2, q1.2)
theorem tX6_scanNumber_58 (v1 : Int32) (v2 : Int32) (v3 : Int64) (s1 : Int32) (u : ab_S) : ab_G 0 6 cX6_scanNumber (some .int) 1 58 [none, some (vI v1), some (vI v2), some (vL v3), none] [vI s1, vR (kO 6) 1] u wI (fX6_scanNumber_58 v1 v2 v3 s1 u) := by
  rw [fX6_scanNumber_58]
  refine g_seg0 (pc' := 60) (L' := [none, some (vI v1), some (vI v2), some (vL v3), none]) (st' := [vL v3, vI v1, vI s1, vR (kO 6) 1]) (u1 := u) [(oL 0 1, 1), (oL 1 3, 1)] (by decide +kernel) rfl rfl ?_
  refine g_callV (k := 52) (pc2 := 63) (st := []) (CX6_add s1 v1 v3 u) miX6_add mvX6_add rfl (by decide) lk6_52 wV_ok (by decide +kernel) rfl (Nat.le_of_ble_eq_true rfl) (by decide) rfl (fun q1 hq1 => ?_)
  refine g_seg0 (pc' := 64) (L' := [none, some (vI v1), some (vI v2), some (vL v3), none]) (st' := [vI v2]) (u1 := q1.2) [(oL 0 2, 1)] (by decide +kernel) rfl rfl ?_
  exact g_iret (by decide +kernel) rfl
def fX6_scanNumber_45 (v1 : Int32) (v2 : Int32) (v3 : Int64) (u : ab_S) : Option (Int32 × ab_S) :=
  bif decide ((v2 - v1) ≤ 4) then (
    fX6_scanNumber_58 v1 v2 v3 3 u)
  else (
    fX6_scanNumber_58 v1 v2 v3 1 u)
theorem tX6_scanNumber_45 (v1 : Int32) (v2 : Int32) (v3 : Int64) (u : ab_S) : ab_G 0 6 cX6_scanNumber (some .int) 1 45 [some (vR (kO 6) 1), some (vI v1), some (vI v2), some (vL v3), none] [] u wI (fX6_scanNumber_45 v1 v2 v3 u) := by
  rw [fX6_scanNumber_45]
  refine g_seg0 (pc' := 50) (L' := [some (vR (kO 6) 1), some (vI v1), some (vI v2), some (vL v3), none]) (st' := [vI 4, vI (v2 - v1), vR (kO 6) 1]) (u1 := u) [(oL 2 0, 1), (oL 0 2, 1), (oL 0 1, 1), (oP .isub, 1), (oC 4, 1)] (by decide +kernel) rfl rfl ?_
  refine g_igt (off := 7) (tgt := 57) (pc2 := 53) (by decide +kernel) (by decide) rfl ?_ ?_
  · refine g_seg0 (pc' := 58) (L' := [some (vR (kO 6) 1), some (vI v1), some (vI v2), some (vL v3), none]) (st' := [vI 1, vR (kO 6) 1]) (u1 := u) [(oC 1, 1)] (by decide +kernel) rfl rfl ?_
    exact g_jump [false, true, true, true, false] rfl (tX6_scanNumber_58 v1 v2 v3 1 u)
  · refine g_seg0 (pc' := 54) (L' := [some (vR (kO 6) 1), some (vI v1), some (vI v2), some (vL v3), none]) (st' := [vI 3, vR (kO 6) 1]) (u1 := u) [(oC 3, 1)] (by decide +kernel) rfl rfl ?_
    refine g_goto (off := 4) (tgt := 58) (by decide +kernel) (by decide) ?_
    exact g_jump [false, true, true, true, false] rfl (tX6_scanNumber_58 v1 v2 v3 3 u)
def fX6_scanNumber_4 : Nat → Int32 → Int32 → Int64 → ab_S → Option (Int32 × ab_S)
  | 0, _, _, _, _ => none
  | n + 1, v1, v2, v3, u =>
  bif decide (v2 < (u.1 1 1)) then (
    (fX6_signAt v2 u).bind fun q2 =>
      (fX6_isDigit q2.1 q2.2).bind fun q3 =>
        bif decide (q3.1 = 0) then (
          fX6_scanNumber_45 v1 v2 v3 q3.2)
        else (
          (fX6_signAt v2 q3.2).bind fun q4 =>
            (fX6_scanNumber_4 n) v1 (v2 + 1) ((v3 * 10) + (Int32.toInt64 (q4.1 - 48))) q4.2))
  else (
    fX6_scanNumber_45 v1 v2 v3 u)
theorem tX6_scanNumber_4 : ∀ (n : Nat) (v1 : Int32) (v2 : Int32) (v3 : Int64) (u : ab_S), ab_G 0 6 cX6_scanNumber (some .int) 1 4 [some (vR (kO 6) 1), some (vI v1), some (vI v2), some (vL v3), none] [] u wI (fX6_scanNumber_4 n v1 v2 v3 u) := by
  intro n
  induction n with
  | zero => intros; exact g_none
  | succ n ih =>
    intro v1 v2 v3 u
    rw [fX6_scanNumber_4]
    refine g_seg0 (pc' := 9) (L' := [some (vR (kO 6) 1), some (vI v1), some (vI v2), some (vL v3), none]) (st' := [vI (u.1 1 1), vI v2]) (u1 := u) [(oL 0 2, 1), (oL 2 0, 1), (oP (.getfield 28), 3)] (by decide +kernel) rfl rfl ?_
    refine g_ige (off := 36) (tgt := 45) (pc2 := 12) (by decide +kernel) (by decide) rfl ?_ ?_
    · exact tX6_scanNumber_45 v1 v2 v3 u
    · refine g_seg0 (pc' := 14) (L' := [some (vR (kO 6) 1), some (vI v1), some (vI v2), some (vL v3), none]) (st' := [vI v2, vR (kO 6) 1]) (u1 := u) [(oL 2 0, 1), (oL 0 2, 1)] (by decide +kernel) rfl rfl ?_
      refine g_callV (k := 38) (pc2 := 17) (st := []) (CX6_signAt v2 u) miX6_signAt mvX6_signAt rfl (by decide) lk6_38 wI_ok (by decide +kernel) rfl (Nat.le_of_ble_eq_true rfl) (by decide) rfl (fun q2 hq2 => ?_)
      refine g_callS (k := 69) (pc2 := 20) (st := []) (CX6_isDigit q2.1 q2.2) miX6_isDigit msX6_isDigit lk6_69 wI_ok (by decide +kernel) rfl (Nat.le_of_ble_eq_true rfl) (by decide) rfl (fun q3 hq3 => ?_)
      refine g_zeq (off := 25) (tgt := 45) (pc2 := 23) (by decide +kernel) (by decide) rfl ?_ ?_
      · exact tX6_scanNumber_45 v1 v2 v3 q3.2
      · refine g_seg0 (pc' := 30) (L' := [some (vR (kO 6) 1), some (vI v1), some (vI v2), some (vL v3), none]) (st' := [vI v2, vR (kO 6) 1, vL (v3 * 10)]) (u1 := q3.2) [(oL 1 3, 1), (oD 10, 3), (oP .lmul, 1), (oL 2 0, 1), (oL 0 2, 1)] (by decide +kernel) rfl rfl ?_
        refine g_callV (k := 38) (pc2 := 33) (st := [vL (v3 * 10)]) (CX6_signAt v2 q3.2) miX6_signAt mvX6_signAt rfl (by decide) lk6_38 wI_ok (by decide +kernel) rfl (Nat.le_of_ble_eq_true rfl) (by decide) rfl (fun q4 hq4 => ?_)
        refine g_seg0 (pc' := 42) (L' := [some (vR (kO 6) 1), some (vI v1), some (vI (v2 + 1)), some (vL ((v3 * 10) + (Int32.toInt64 (q4.1 - 48)))), none]) (st' := []) (u1 := q4.2) [(oC 48, 2), (oP .isub, 1), (oP .i2l, 1), (oP .ladd, 1), (oL 4 3, 1), (oN 2 1, 3)] (by decide +kernel) rfl rfl ?_
        refine g_goto (off := (-38)) (tgt := 4) (by decide +kernel) (by decide) ?_
        exact ih v1 (v2 + 1) ((v3 * 10) + (Int32.toInt64 (q4.1 - 48))) q4.2
def fX6_scanNumber (v1 : Int32) (u : ab_S) : Option (Int32 × ab_S) :=
  fX6_scanNumber_4 fu v1 v1 0 u
theorem tX6_scanNumber (v1 : Int32) (u : ab_S) : ab_G 0 6 cX6_scanNumber (some .int) 1 0 [some (vR (kO 6) 1), some (vI v1), none, none, none] [] u wI (fX6_scanNumber v1 u) := by
  rw [fX6_scanNumber]
  refine g_seg0 (pc' := 4) (L' := [some (vR (kO 6) 1), some (vI v1), some (vI v1), some (vL 0), none]) (st' := []) (u1 := u) [(oL 0 1, 1), (oL 3 2, 1), (oD 0, 1), (oL 4 3, 1)] (by decide +kernel) rfl rfl ?_
  exact tX6_scanNumber_4 fu v1 v1 0 u
theorem CX6_scanNumber (v1 : Int32) (u : ab_S) : ab_C 0 yX6_scanNumber cX6_scanNumber 5 (some .int) 1 [vR (kO 6) 1, vI v1] u wI (fX6_scanNumber v1 u) := ab_entry (by decide +kernel) rfl (by decide) (by decide) (fun _ => Nat.le_of_ble_eq_true rfl) rfl (tX6_scanNumber v1 u)
def fX6_scan_47 (v1 : Int32) (v2 : Int32) (s1 : Int32) (u : ab_S) : Option (Int32 × ab_S) :=
  (fX6_add s1 v1 (Int32.toInt64 v2) u).bind fun q1 =>
    some ((v1 + 1), q1.2)
theorem tX6_scan_47 (v1 : Int32) (v2 : Int32) (s1 : Int32) (u : ab_S) : ab_G 0 6 cX6_scan (some .int) 4 47 [none, some (vI v1), some (vI v2)] [vI s1, vR (kO 6) 1] u wI (fX6_scan_47 v1 v2 s1 u) := by
  rw [fX6_scan_47]
  refine g_seg0 (pc' := 50) (L' := [none, some (vI v1), some (vI v2)]) (st' := [vL (Int32.toInt64 v2), vI v1, vI s1, vR (kO 6) 1]) (u1 := u) [(oL 0 1, 1), (oL 0 2, 1), (oP .i2l, 1)] (by decide +kernel) rfl rfl ?_
  refine g_callV (k := 52) (pc2 := 53) (st := []) (CX6_add s1 v1 (Int32.toInt64 v2) u) miX6_add mvX6_add rfl (by decide) lk6_52 wV_ok (by decide +kernel) rfl (Nat.le_of_ble_eq_true rfl) (by decide) rfl (fun q1 hq1 => ?_)
  refine g_seg0 (pc' := 56) (L' := [none, some (vI v1), some (vI v2)]) (st' := [vI (v1 + 1)]) (u1 := q1.2) [(oL 0 1, 1), (oC 1, 1), (oP .iadd, 1)] (by decide +kernel) rfl rfl ?_
  exact g_iret (by decide +kernel) rfl
def fX6_scan (v1 : Int32) (u : ab_S) : Option (Int32 × ab_S) :=
  (fX6_signAt v1 u).bind fun q2 =>
    (fX6_isLetter q2.1 q2.2).bind fun q3 =>
      bif decide (q3.1 = 0) then (
        (fX6_isDigit q2.1 q3.2).bind fun q4 =>
          bif decide (q4.1 = 0) then (
            (fJ0_indexOf_0f7a4 q2.1 q4.2).bind fun q5 =>
              bif decide (q5.1 < 0) then (
                fX6_scan_47 v1 q2.1 1 q5.2)
              else (
                fX6_scan_47 v1 q2.1 4 q5.2))
          else (
            (fX6_scanNumber v1 q4.2).bind fun q6 =>
              some (q6.1, q6.2)))
      else (
        (fX6_scanWord v1 q3.2).bind fun q7 =>
          some (q7.1, q7.2))
theorem tX6_scan (v1 : Int32) (u : ab_S) : ab_G 0 6 cX6_scan (some .int) 4 0 [some (vR (kO 6) 1), some (vI v1), none] [] u wI (fX6_scan v1 u) := by
  rw [fX6_scan]
  refine g_seg0 (pc' := 2) (L' := [some (vR (kO 6) 1), some (vI v1), none]) (st' := [vI v1, vR (kO 6) 1]) (u1 := u) [(oL 2 0, 1), (oL 0 1, 1)] (by decide +kernel) rfl rfl ?_
  refine g_callV (k := 38) (pc2 := 5) (st := []) (CX6_signAt v1 u) miX6_signAt mvX6_signAt rfl (by decide) lk6_38 wI_ok (by decide +kernel) rfl (Nat.le_of_ble_eq_true rfl) (by decide) rfl (fun q2 hq2 => ?_)
  refine g_seg0 (pc' := 7) (L' := [some (vR (kO 6) 1), some (vI v1), some (vI (q2.1))]) (st' := [vI (q2.1)]) (u1 := q2.2) [(oL 3 2, 1), (oL 0 2, 1)] (by decide +kernel) rfl rfl ?_
  refine g_callS (k := 62) (pc2 := 10) (st := []) (CX6_isLetter q2.1 q2.2) miX6_isLetter msX6_isLetter lk6_62 wI_ok (by decide +kernel) rfl (Nat.le_of_ble_eq_true rfl) (by decide) rfl (fun q3 hq3 => ?_)
  refine g_zeq (off := 9) (tgt := 19) (pc2 := 13) (by decide +kernel) (by decide) rfl ?_ ?_
  · refine g_seg0 (pc' := 20) (L' := [some (vR (kO 6) 1), some (vI v1), some (vI (q2.1))]) (st' := [vI (q2.1)]) (u1 := q3.2) [(oL 0 2, 1)] (by decide +kernel) rfl rfl ?_
    refine g_callS (k := 69) (pc2 := 23) (st := []) (CX6_isDigit q2.1 q3.2) miX6_isDigit msX6_isDigit lk6_69 wI_ok (by decide +kernel) rfl (Nat.le_of_ble_eq_true rfl) (by decide) rfl (fun q4 hq4 => ?_)
    refine g_zeq (off := 9) (tgt := 32) (pc2 := 26) (by decide +kernel) (by decide) rfl ?_ ?_
    · refine g_seg0 (pc' := 36) (L' := [some (vR (kO 6) 1), some (vI v1), some (vI (q2.1))]) (st' := [vI (q2.1), vR (kO 21) 0, vR (kO 6) 1]) (u1 := q4.2) [(oL 2 0, 1), (oP (.ldc 75), 2), (oL 0 2, 1)] (by decide +kernel) rfl rfl ?_
      refine g_callK (k := 77) (pc2 := 39) (st := [vR (kO 6) 1]) (CJ0_indexOf_0f7a4 q2.1 q4.2) miJ0_indexOf_0f7a4 mvJ0_indexOf_0f7a4 lk6_77 wI_ok (by decide +kernel) rfl (Nat.le_of_ble_eq_true rfl) (by decide) rfl (fun q5 hq5 => ?_)
      refine g_zlt (off := 7) (tgt := 46) (pc2 := 42) (by decide +kernel) (by decide) rfl ?_ ?_
      · refine g_seg0 (pc' := 47) (L' := [some (vR (kO 6) 1), some (vI v1), some (vI (q2.1))]) (st' := [vI 1, vR (kO 6) 1]) (u1 := q5.2) [(oC 1, 1)] (by decide +kernel) rfl rfl ?_
        exact g_jump [false, true, true] rfl (tX6_scan_47 v1 q2.1 1 q5.2)
      · refine g_seg0 (pc' := 43) (L' := [some (vR (kO 6) 1), some (vI v1), some (vI (q2.1))]) (st' := [vI 4, vR (kO 6) 1]) (u1 := q5.2) [(oC 4, 1)] (by decide +kernel) rfl rfl ?_
        refine g_goto (off := 4) (tgt := 47) (by decide +kernel) (by decide) ?_
        exact g_jump [false, true, true] rfl (tX6_scan_47 v1 q2.1 4 q5.2)
    · refine g_seg0 (pc' := 28) (L' := [some (vR (kO 6) 1), some (vI v1), some (vI (q2.1))]) (st' := [vI v1, vR (kO 6) 1]) (u1 := q4.2) [(oL 2 0, 1), (oL 0 1, 1)] (by decide +kernel) rfl rfl ?_
      refine g_callV (k := 72) (pc2 := 31) (st := []) (CX6_scanNumber v1 q4.2) miX6_scanNumber mvX6_scanNumber rfl (by decide) lk6_72 wI_ok (by decide +kernel) rfl (Nat.le_of_ble_eq_true rfl) (by decide) rfl (fun q6 hq6 => ?_)
      exact g_iret (by decide +kernel) rfl
  · refine g_seg0 (pc' := 15) (L' := [some (vR (kO 6) 1), some (vI v1), some (vI (q2.1))]) (st' := [vI v1, vR (kO 6) 1]) (u1 := q3.2) [(oL 2 0, 1), (oL 0 1, 1)] (by decide +kernel) rfl rfl ?_
    refine g_callV (k := 66) (pc2 := 18) (st := []) (CX6_scanWord v1 q3.2) miX6_scanWord mvX6_scanWord rfl (by decide) lk6_66 wI_ok (by decide +kernel) rfl (Nat.le_of_ble_eq_true rfl) (by decide) rfl (fun q7 hq7 => ?_)
    exact g_iret (by decide +kernel) rfl
theorem CX6_scan (v1 : Int32) (u : ab_S) : ab_C 0 yX6_scan cX6_scan 3 (some .int) 4 [vR (kO 6) 1, vI v1] u wI (fX6_scan v1 u) := ab_entry (by decide +kernel) rfl (by decide) (by decide) (fun _ => Nat.le_of_ble_eq_true rfl) rfl (tX6_scan v1 u)
def fX6_split_43 (k12 : Int32 → ab_S → Option (Unit × ab_S)) (v1 : Int32) (s0 : Int32) (u : ab_S) : Option (Unit × ab_S) :=
  bif decide (s0 = 0) then (
    (fX6_scan v1 u).bind fun q1 =>
      k12 (if q1.1 < (v1 + 1) then (v1 + 1) else q1.1) q1.2)
  else (
    k12 (v1 + 1) u)
theorem tX6_split_43 (k12 : Int32 → ab_S → Option (Unit × ab_S)) (hk12 : ∀ (v1 : Int32) (u : ab_S), ab_G 0 6 cX6_split none 5 12 [some (vR (kO 6) 1), some (vI v1), none, none] [] u wV (k12 v1 u)) (v1 : Int32) (s0 : Int32) (u : ab_S) : ab_G 0 6 cX6_split none 5 43 [some (vR (kO 6) 1), some (vI v1), none, none] [vI s0] u wV (fX6_split_43 k12 v1 s0 u) := by
  rw [fX6_split_43]
  refine g_seg0 (pc' := 45) (L' := [some (vR (kO 6) 1), some (vI v1), none, some (vI s0)]) (st' := [vI s0]) (u1 := u) [(oL 3 3, 1), (oL 0 3, 1)] (by decide +kernel) rfl rfl ?_
  refine g_zeq (off := 9) (tgt := 54) (pc2 := 48) (by decide +kernel) (by decide) rfl ?_ ?_
  · refine g_seg0 (pc' := 56) (L' := [some (vR (kO 6) 1), some (vI v1), none, some (vI s0)]) (st' := [vI v1, vR (kO 6) 1]) (u1 := u) [(oL 2 0, 1), (oL 0 1, 1)] (by decide +kernel) rfl rfl ?_
    refine g_callV (k := 42) (pc2 := 59) (st := []) (CX6_scan v1 u) miX6_scan mvX6_scan rfl (by decide) lk6_42 wI_ok (by decide +kernel) rfl (Nat.le_of_ble_eq_true rfl) (by decide) rfl (fun q1 hq1 => ?_)
    refine g_seg0 (pc' := 62) (L' := [some (vR (kO 6) 1), some (vI v1), none, some (vI s0)]) (st' := [vI (v1 + 1), vI (q1.1)]) (u1 := q1.2) [(oL 0 1, 1), (oC 1, 1), (oP .iadd, 1)] (by decide +kernel) rfl rfl ?_
    refine g_max (k := 46) (pc2 := 65) (st := []) lm6_46 (by decide +kernel) (Nat.le_of_ble_eq_true rfl) (by decide) rfl ?_
    refine g_seg0 (pc' := 66) (L' := [some (vR (kO 6) 1), some (vI (if q1.1 < (v1 + 1) then (v1 + 1) else q1.1)), none, some (vI s0)]) (st' := []) (u1 := q1.2) [(oL 3 1, 1)] (by decide +kernel) rfl rfl ?_
    refine g_goto (off := (-54)) (tgt := 12) (by decide +kernel) (by decide) ?_
    exact g_jump [true, true, false, false] rfl (hk12 (if q1.1 < (v1 + 1) then (v1 + 1) else q1.1) q1.2)
  · refine g_seg0 (pc' := 51) (L' := [some (vR (kO 6) 1), some (vI v1), none, some (vI s0)]) (st' := [vI (v1 + 1)]) (u1 := u) [(oL 0 1, 1), (oC 1, 1), (oP .iadd, 1)] (by decide +kernel) rfl rfl ?_
    refine g_goto (off := 14) (tgt := 65) (by decide +kernel) (by decide) ?_
    refine g_seg0 (pc' := 66) (L' := [some (vR (kO 6) 1), some (vI (v1 + 1)), none, some (vI s0)]) (st' := []) (u1 := u) [(oL 3 1, 1)] (by decide +kernel) rfl rfl ?_
    refine g_goto (off := (-54)) (tgt := 12) (by decide +kernel) (by decide) ?_
    exact g_jump [true, true, false, false] rfl (hk12 (v1 + 1) u)
def fX6_split_12 : Nat → Int32 → ab_S → Option (Unit × ab_S)
  | 0, _, _ => none
  | n + 1, v1, u =>
  bif decide (v1 < (u.1 1 1)) then (
    (fX6_signAt v1 u).bind fun q4 =>
      bif decide (q4.1 = 10) then (
        fX6_split_43 (fX6_split_12 n) v1 1 q4.2)
      else (
        bif decide (q4.1 = 32) then (
          fX6_split_43 (fX6_split_12 n) v1 1 q4.2)
        else (
          fX6_split_43 (fX6_split_12 n) v1 0 q4.2)))
  else (
    (fX6_add 0 (u.1 1 1) 0 u).bind fun q2 =>
      (fX6_step (sI (sI q2.2 1 1 0) 1 6 (-1))).bind fun q3 =>
        some ((), q3.2))
theorem tX6_split_12 : ∀ (n : Nat) (v1 : Int32) (u : ab_S), ab_G 0 6 cX6_split none 5 12 [some (vR (kO 6) 1), some (vI v1), none, none] [] u wV (fX6_split_12 n v1 u) := by
  intro n
  induction n with
  | zero => intros; exact g_none
  | succ n ih =>
    intro v1 u
    rw [fX6_split_12]
    refine g_seg0 (pc' := 17) (L' := [some (vR (kO 6) 1), some (vI v1), none, none]) (st' := [vI (u.1 1 1), vI v1]) (u1 := u) [(oL 0 1, 1), (oL 2 0, 1), (oP (.getfield 28), 3)] (by decide +kernel) rfl rfl ?_
    refine g_ige (off := 52) (tgt := 69) (pc2 := 20) (by decide +kernel) (by decide) rfl ?_ ?_
    · refine g_seg0 (pc' := 76) (L' := [some (vR (kO 6) 1), some (vI v1), none, none]) (st' := [vL 0, vI (u.1 1 1), vI 0, vR (kO 6) 1]) (u1 := u) [(oL 2 0, 1), (oC 0, 1), (oL 2 0, 1), (oP (.getfield 28), 3), (oD 0, 1)] (by decide +kernel) rfl rfl ?_
      refine g_callV (k := 52) (pc2 := 79) (st := []) (CX6_add 0 (u.1 1 1) 0 u) miX6_add mvX6_add rfl (by decide) lk6_52 wV_ok (by decide +kernel) rfl (Nat.le_of_ble_eq_true rfl) (by decide) rfl (fun q2 hq2 => ?_)
      refine g_seg0 (pc' := 90) (L' := [some (vR (kO 6) 1), some (vI v1), none, none]) (st' := [vR (kO 6) 1]) (u1 := (sI (sI q2.2 1 1 0) 1 6 (-1))) [(oL 2 0, 1), (oC 0, 1), (oP (.putfield 28), 3), (oL 2 0, 1), (oC (-1), 1), (oP (.putfield 56), 3), (oL 2 0, 1)] (by decide +kernel) rfl rfl ?_
      refine g_callV (k := 59) (pc2 := 93) (st := []) (CX6_step (sI (sI q2.2 1 1 0) 1 6 (-1))) miX6_step mvX6_step rfl (by decide) lk6_59 wV_ok (by decide +kernel) rfl (Nat.le_of_ble_eq_true rfl) (by decide) rfl (fun q3 hq3 => ?_)
      exact g_vret (by decide +kernel) rfl
    · refine g_seg0 (pc' := 22) (L' := [some (vR (kO 6) 1), some (vI v1), none, none]) (st' := [vI v1, vR (kO 6) 1]) (u1 := u) [(oL 2 0, 1), (oL 0 1, 1)] (by decide +kernel) rfl rfl ?_
      refine g_callV (k := 38) (pc2 := 25) (st := []) (CX6_signAt v1 u) miX6_signAt mvX6_signAt rfl (by decide) lk6_38 wI_ok (by decide +kernel) rfl (Nat.le_of_ble_eq_true rfl) (by decide) rfl (fun q4 hq4 => ?_)
      refine g_seg0 (pc' := 29) (L' := [some (vR (kO 6) 1), some (vI v1), some (vI (q4.1)), none]) (st' := [vI 10, vI (q4.1)]) (u1 := q4.2) [(oL 3 2, 1), (oL 0 2, 1), (oC 10, 2)] (by decide +kernel) rfl rfl ?_
      refine g_ieq (off := 9) (tgt := 38) (pc2 := 32) (by decide +kernel) (by decide) rfl ?_ ?_
      · refine g_seg0 (pc' := 39) (L' := [some (vR (kO 6) 1), some (vI v1), some (vI (q4.1)), none]) (st' := [vI 1]) (u1 := q4.2) [(oC 1, 1)] (by decide +kernel) rfl rfl ?_
        refine g_goto (off := 4) (tgt := 43) (by decide +kernel) (by decide) ?_
        exact g_jump [true, true, false, false] rfl (tX6_split_43 (fX6_split_12 n) ih v1 1 q4.2)
      · refine g_seg0 (pc' := 35) (L' := [some (vR (kO 6) 1), some (vI v1), some (vI (q4.1)), none]) (st' := [vI 32, vI (q4.1)]) (u1 := q4.2) [(oL 0 2, 1), (oC 32, 2)] (by decide +kernel) rfl rfl ?_
        refine g_ine (off := 7) (tgt := 42) (pc2 := 38) (by decide +kernel) (by decide) rfl ?_ ?_
        · refine g_seg0 (pc' := 43) (L' := [some (vR (kO 6) 1), some (vI v1), some (vI (q4.1)), none]) (st' := [vI 0]) (u1 := q4.2) [(oC 0, 1)] (by decide +kernel) rfl rfl ?_
          exact g_jump [true, true, false, false] rfl (tX6_split_43 (fX6_split_12 n) ih v1 0 q4.2)
        · refine g_seg0 (pc' := 39) (L' := [some (vR (kO 6) 1), some (vI v1), some (vI (q4.1)), none]) (st' := [vI 1]) (u1 := q4.2) [(oC 1, 1)] (by decide +kernel) rfl rfl ?_
          refine g_goto (off := 4) (tgt := 43) (by decide +kernel) (by decide) ?_
          exact g_jump [true, true, false, false] rfl (tX6_split_43 (fX6_split_12 n) ih v1 1 q4.2)
def fX6_split (u : ab_S) : Option (Unit × ab_S) :=
  fX6_split_12 fu 0 (sI (sI u 1 5 0) 1 10 0)
theorem tX6_split (u : ab_S) : ab_G 0 6 cX6_split none 5 0 [some (vR (kO 6) 1), none, none, none] [] u wV (fX6_split u) := by
  rw [fX6_split]
  refine g_seg0 (pc' := 12) (L' := [some (vR (kO 6) 1), some (vI 0), none, none]) (st' := []) (u1 := (sI (sI u 1 5 0) 1 10 0)) [(oL 2 0, 1), (oC 0, 1), (oP (.putfield 32), 3), (oL 2 0, 1), (oC 0, 1), (oP (.putfield 35), 3), (oC 0, 1), (oL 3 1, 1)] (by decide +kernel) rfl rfl ?_
  exact tX6_split_12 fu 0 (sI (sI u 1 5 0) 1 10 0)
theorem CX6_split (u : ab_S) : ab_C 0 yX6_split cX6_split 4 none 5 [vR (kO 6) 1] u wV (fX6_split u) := ab_entry (by decide +kernel) rfl (by decide) (by decide) (fun _ => Nat.le_of_ble_eq_true rfl) rfl (tX6_split u)
def fX9_put (n0 : Nat) (o0 : Nat) (v1 : Int32) (v2 : Int32) (u : ab_S) : Option (Unit × ab_S) :=
  bif decide (v1 < 0) then (
    some ((), u))
  else (
    bif decide (v1 < (Int32.ofNat n0)) then (
      ab_gd [ab_ix v1 n0] (
        some ((), (sI u o0 (nc v1) v2))))
    else (
      some ((), u)))
theorem tX9_put (n0 : Nat) (o0 : Nat) (v1 : Int32) (v2 : Int32) (u : ab_S) : ab_G 0 8 cX9_put none 0 0 [some (vR (kA 0 n0) o0), some (vI v1), some (vI v2)] [] u wV (fX9_put n0 o0 v1 v2 u) := by
  rw [fX9_put]
  refine g_seg0 (pc' := 1) (L' := [some (vR (kA 0 n0) o0), some (vI v1), some (vI v2)]) (st' := [vI v1]) (u1 := u) [(oL 0 1, 1)] (by decide +kernel) rfl rfl ?_
  refine g_zlt (off := 13) (tgt := 14) (pc2 := 4) (by decide +kernel) (by decide) rfl ?_ ?_
  · exact g_vret (by decide +kernel) rfl
  · refine g_seg0 (pc' := 7) (L' := [some (vR (kA 0 n0) o0), some (vI v1), some (vI v2)]) (st' := [vI (Int32.ofNat n0), vI v1]) (u1 := u) [(oL 0 1, 1), (oL 2 0, 1), (oP .arraylength, 1)] (by decide +kernel) rfl rfl ?_
    refine g_ige (off := 7) (tgt := 14) (pc2 := 10) (by decide +kernel) (by decide) rfl ?_ ?_
    · exact g_vret (by decide +kernel) rfl
    · refine g_seg (pc' := 14) (L' := [some (vR (kA 0 n0) o0), some (vI v1), some (vI v2)]) (st' := []) (u1 := (sI u o0 (nc v1) v2)) [(oL 2 0, 1), (oL 0 1, 1), (oL 0 2, 1), (oP .iastore, 1)] (by decide +kernel) rfl rfl ?_
      exact g_vret (by decide +kernel) rfl
theorem CX9_put (n0 : Nat) (o0 : Nat) (v1 : Int32) (v2 : Int32) (u : ab_S) : ab_C 0 yX9_put cX9_put 3 none 0 [vR (kA 0 n0) o0, vI v1, vI v2] u wV (fX9_put n0 o0 v1 v2 u) := ab_entry (by decide +kernel) rfl (by decide) (by decide) (fun _ => Nat.le_of_ble_eq_true rfl) rfl (tX9_put n0 o0 v1 v2 u)
def fX1_pop (o0 : Nat) (u : ab_S) : Option (Int32 × ab_S) :=
  bif decide ((u.1 o0 3) ≤ 0) then (
    some (0, u))
  else (
    bif decide ((u.1 o0 3) ≤ 32) then (
      ab_gd [ab_ix ((sI u o0 3 ((u.1 o0 3) - 1)).1 o0 3) 32] (
        some (((sI u o0 3 ((u.1 o0 3) - 1)).1 (o0 + 2) (nc ((sI u o0 3 ((u.1 o0 3) - 1)).1 o0 3))), (sI u o0 3 ((u.1 o0 3) - 1)))))
    else (
      some (0, u)))
theorem tX1_pop (o0 : Nat) (u : ab_S) : ab_G 0 1 cX1_pop (some .int) 0 0 [some (vR (kO 1) o0)] [] u wI (fX1_pop o0 u) := by
  rw [fX1_pop]
  refine g_seg0 (pc' := 4) (L' := [some (vR (kO 1) o0)]) (st' := [vI (u.1 o0 3)]) (u1 := u) [(oL 2 0, 1), (oP (.getfield 96), 3)] (by decide +kernel) rfl rfl ?_
  refine g_zle (off := 15) (tgt := 19) (pc2 := 7) (by decide +kernel) (by decide) rfl ?_ ?_
  · refine g_seg0 (pc' := 20) (L' := [some (vR (kO 1) o0)]) (st' := [vI 0]) (u1 := u) [(oC 0, 1)] (by decide +kernel) rfl rfl ?_
    exact g_iret (by decide +kernel) rfl
  · refine g_seg0 (pc' := 16) (L' := [some (vR (kO 1) o0)]) (st' := [vI 32, vI (u.1 o0 3)]) (u1 := u) [(oL 2 0, 1), (oP (.getfield 96), 3), (oL 2 0, 1), (oP (.getfield 15), 3), (oP .arraylength, 1)] (by decide +kernel) rfl rfl ?_
    refine g_ile (off := 5) (tgt := 21) (pc2 := 19) (by decide +kernel) (by decide) rfl ?_ ?_
    · refine g_seg (pc' := 40) (L' := [some (vR (kO 1) o0)]) (st' := [vI ((sI u o0 3 ((u.1 o0 3) - 1)).1 (o0 + 2) (nc ((sI u o0 3 ((u.1 o0 3) - 1)).1 o0 3)))]) (u1 := (sI u o0 3 ((u.1 o0 3) - 1))) [(oL 2 0, 1), (oP .dup, 1), (oP (.getfield 96), 3), (oC 1, 1), (oP .isub, 1), (oP (.putfield 96), 3), (oL 2 0, 1), (oP (.getfield 15), 3), (oL 2 0, 1), (oP (.getfield 96), 3), (oP .iaload, 1)] (by decide +kernel) rfl rfl ?_
      exact g_iret (by decide +kernel) rfl
    · refine g_seg0 (pc' := 20) (L' := [some (vR (kO 1) o0)]) (st' := [vI 0]) (u1 := u) [(oC 0, 1)] (by decide +kernel) rfl rfl ?_
      exact g_iret (by decide +kernel) rfl
theorem CX1_pop (o0 : Nat) (u : ab_S) : ab_C 0 yX1_pop cX1_pop 1 (some .int) 0 [vR (kO 1) o0] u wI (fX1_pop o0 u) := ab_entry (by decide +kernel) rfl (by decide) (by decide) (fun _ => Nat.le_of_ble_eq_true rfl) rfl (tX1_pop o0 u)
def fX1_push (o0 : Nat) (v1 : Int32) (u : ab_S) : Option (Unit × ab_S) :=
  bif decide ((u.1 o0 3) < 0) then (
    some ((), u))
  else (
    bif decide ((u.1 o0 3) < 32) then (
      ab_gd [ab_ix (u.1 o0 3) 32] (
        some ((), (sI (sI u (o0 + 2) (nc (u.1 o0 3)) v1) o0 3 (((sI u (o0 + 2) (nc (u.1 o0 3)) v1).1 o0 3) + 1)))))
    else (
      some ((), u)))
theorem tX1_push (o0 : Nat) (v1 : Int32) (u : ab_S) : ab_G 0 1 cX1_push none 0 0 [some (vR (kO 1) o0), some (vI v1)] [] u wV (fX1_push o0 v1 u) := by
  rw [fX1_push]
  refine g_seg0 (pc' := 4) (L' := [some (vR (kO 1) o0), some (vI v1)]) (st' := [vI (u.1 o0 3)]) (u1 := u) [(oL 2 0, 1), (oP (.getfield 96), 3)] (by decide +kernel) rfl rfl ?_
  refine g_zlt (off := 35) (tgt := 39) (pc2 := 7) (by decide +kernel) (by decide) rfl ?_ ?_
  · exact g_vret (by decide +kernel) rfl
  · refine g_seg0 (pc' := 16) (L' := [some (vR (kO 1) o0), some (vI v1)]) (st' := [vI 32, vI (u.1 o0 3)]) (u1 := u) [(oL 2 0, 1), (oP (.getfield 96), 3), (oL 2 0, 1), (oP (.getfield 15), 3), (oP .arraylength, 1)] (by decide +kernel) rfl rfl ?_
    refine g_ige (off := 23) (tgt := 39) (pc2 := 19) (by decide +kernel) (by decide) rfl ?_ ?_
    · exact g_vret (by decide +kernel) rfl
    · refine g_seg (pc' := 39) (L' := [some (vR (kO 1) o0), some (vI v1)]) (st' := []) (u1 := (sI (sI u (o0 + 2) (nc (u.1 o0 3)) v1) o0 3 (((sI u (o0 + 2) (nc (u.1 o0 3)) v1).1 o0 3) + 1))) [(oL 2 0, 1), (oP (.getfield 15), 3), (oL 2 0, 1), (oP (.getfield 96), 3), (oL 0 1, 1), (oP .iastore, 1), (oL 2 0, 1), (oP .dup, 1), (oP (.getfield 96), 3), (oC 1, 1), (oP .iadd, 1), (oP (.putfield 96), 3)] (by decide +kernel) rfl rfl ?_
      exact g_vret (by decide +kernel) rfl
theorem CX1_push (o0 : Nat) (v1 : Int32) (u : ab_S) : ab_C 0 yX1_push cX1_push 2 none 0 [vR (kO 1) o0, vI v1] u wV (fX1_push o0 v1 u) := ab_entry (by decide +kernel) rfl (by decide) (by decide) (fun _ => Nat.le_of_ble_eq_true rfl) rfl (tX1_push o0 v1 u)
def fX1_join (v0 : Int32) (v1 : Int32) (v2 : Int32) (u : ab_S) : Option (Int32 × ab_S) :=
  ab_sw v0 [
  ((-11),
    some ((v1 - v2), u)),
  ((-10),
    some ((v1 + v2), u)),
  ((-9),
    bif decide (v1 = v2) then (
      some (1, u))
    else (
      some (0, u))),
  ((-8),
    bif decide (v1 < v2) then (
      some (1, u))
    else (
      some (0, u))),
  ((-7),
    bif decide (v1 = 0) then (
      bif decide (v2 = 0) then (
        some (0, u))
      else (
        some (1, u)))
    else (
      some (1, u))),
  ((-6),
    bif decide (v1 = 0) then (
      some (0, u))
    else (
      bif decide (v2 = 0) then (
        some (0, u))
      else (
        some (1, u))))] (
    some ((v1 * v2), u))
theorem tX1_join (v0 : Int32) (v1 : Int32) (v2 : Int32) (u : ab_S) : ab_G 0 1 cX1_join (some .int) 0 0 [some (vI v0), some (vI v1), some (vI v2)] [] u wI (fX1_join v0 v1 v2 u) := by
  rw [fX1_join]
  refine g_seg0 (pc' := 1) (L' := [some (vI v0), some (vI v1), some (vI v2)]) (st' := [vI v0]) (u1 := u) [(oL 0 0, 1)] (by decide +kernel) rfl rfl ?_
  refine g_sw0 ?_
  refine g_sw1 (dflt := 97) (lo := (-11)) (hi := (-6)) (offs := #[93, 89, 78, 67, 53, 39]) (len := 39) (k := (-11)) (t := 94) (by decide +kernel) (by decide +kernel) ?_ ?_
  · refine g_seg0 (pc' := 97) (L' := [some (vI v0), some (vI v1), some (vI v2)]) (st' := [vI (v1 - v2)]) (u1 := u) [(oL 0 1, 1), (oL 0 2, 1), (oP .isub, 1)] (by decide +kernel) rfl rfl ?_
    exact g_iret (by decide +kernel) rfl
  refine g_sw1 (dflt := 97) (lo := (-11)) (hi := (-6)) (offs := #[93, 89, 78, 67, 53, 39]) (len := 39) (k := (-10)) (t := 90) (by decide +kernel) (by decide +kernel) ?_ ?_
  · refine g_seg0 (pc' := 93) (L' := [some (vI v0), some (vI v1), some (vI v2)]) (st' := [vI (v1 + v2)]) (u1 := u) [(oL 0 1, 1), (oL 0 2, 1), (oP .iadd, 1)] (by decide +kernel) rfl rfl ?_
    exact g_iret (by decide +kernel) rfl
  refine g_sw1 (dflt := 97) (lo := (-11)) (hi := (-6)) (offs := #[93, 89, 78, 67, 53, 39]) (len := 39) (k := (-9)) (t := 79) (by decide +kernel) (by decide +kernel) ?_ ?_
  · refine g_seg0 (pc' := 81) (L' := [some (vI v0), some (vI v1), some (vI v2)]) (st' := [vI v2, vI v1]) (u1 := u) [(oL 0 1, 1), (oL 0 2, 1)] (by decide +kernel) rfl rfl ?_
    refine g_ine (off := 7) (tgt := 88) (pc2 := 84) (by decide +kernel) (by decide) rfl ?_ ?_
    · refine g_seg0 (pc' := 89) (L' := [some (vI v0), some (vI v1), some (vI v2)]) (st' := [vI 0]) (u1 := u) [(oC 0, 1)] (by decide +kernel) rfl rfl ?_
      exact g_iret (by decide +kernel) rfl
    · refine g_seg0 (pc' := 85) (L' := [some (vI v0), some (vI v1), some (vI v2)]) (st' := [vI 1]) (u1 := u) [(oC 1, 1)] (by decide +kernel) rfl rfl ?_
      refine g_goto (off := 4) (tgt := 89) (by decide +kernel) (by decide) ?_
      exact g_iret (by decide +kernel) rfl
  refine g_sw1 (dflt := 97) (lo := (-11)) (hi := (-6)) (offs := #[93, 89, 78, 67, 53, 39]) (len := 39) (k := (-8)) (t := 68) (by decide +kernel) (by decide +kernel) ?_ ?_
  · refine g_seg0 (pc' := 70) (L' := [some (vI v0), some (vI v1), some (vI v2)]) (st' := [vI v2, vI v1]) (u1 := u) [(oL 0 1, 1), (oL 0 2, 1)] (by decide +kernel) rfl rfl ?_
    refine g_ige (off := 7) (tgt := 77) (pc2 := 73) (by decide +kernel) (by decide) rfl ?_ ?_
    · refine g_seg0 (pc' := 78) (L' := [some (vI v0), some (vI v1), some (vI v2)]) (st' := [vI 0]) (u1 := u) [(oC 0, 1)] (by decide +kernel) rfl rfl ?_
      exact g_iret (by decide +kernel) rfl
    · refine g_seg0 (pc' := 74) (L' := [some (vI v0), some (vI v1), some (vI v2)]) (st' := [vI 1]) (u1 := u) [(oC 1, 1)] (by decide +kernel) rfl rfl ?_
      refine g_goto (off := 4) (tgt := 78) (by decide +kernel) (by decide) ?_
      exact g_iret (by decide +kernel) rfl
  refine g_sw1 (dflt := 97) (lo := (-11)) (hi := (-6)) (offs := #[93, 89, 78, 67, 53, 39]) (len := 39) (k := (-7)) (t := 54) (by decide +kernel) (by decide +kernel) ?_ ?_
  · refine g_seg0 (pc' := 55) (L' := [some (vI v0), some (vI v1), some (vI v2)]) (st' := [vI v1]) (u1 := u) [(oL 0 1, 1)] (by decide +kernel) rfl rfl ?_
    refine g_zne (off := 7) (tgt := 62) (pc2 := 58) (by decide +kernel) (by decide) rfl ?_ ?_
    · refine g_seg0 (pc' := 63) (L' := [some (vI v0), some (vI v1), some (vI v2)]) (st' := [vI 1]) (u1 := u) [(oC 1, 1)] (by decide +kernel) rfl rfl ?_
      refine g_goto (off := 4) (tgt := 67) (by decide +kernel) (by decide) ?_
      exact g_iret (by decide +kernel) rfl
    · refine g_seg0 (pc' := 59) (L' := [some (vI v0), some (vI v1), some (vI v2)]) (st' := [vI v2]) (u1 := u) [(oL 0 2, 1)] (by decide +kernel) rfl rfl ?_
      refine g_zeq (off := 7) (tgt := 66) (pc2 := 62) (by decide +kernel) (by decide) rfl ?_ ?_
      · refine g_seg0 (pc' := 67) (L' := [some (vI v0), some (vI v1), some (vI v2)]) (st' := [vI 0]) (u1 := u) [(oC 0, 1)] (by decide +kernel) rfl rfl ?_
        exact g_iret (by decide +kernel) rfl
      · refine g_seg0 (pc' := 63) (L' := [some (vI v0), some (vI v1), some (vI v2)]) (st' := [vI 1]) (u1 := u) [(oC 1, 1)] (by decide +kernel) rfl rfl ?_
        refine g_goto (off := 4) (tgt := 67) (by decide +kernel) (by decide) ?_
        exact g_iret (by decide +kernel) rfl
  refine g_sw1 (dflt := 97) (lo := (-11)) (hi := (-6)) (offs := #[93, 89, 78, 67, 53, 39]) (len := 39) (k := (-6)) (t := 40) (by decide +kernel) (by decide +kernel) ?_ ?_
  · refine g_seg0 (pc' := 41) (L' := [some (vI v0), some (vI v1), some (vI v2)]) (st' := [vI v1]) (u1 := u) [(oL 0 1, 1)] (by decide +kernel) rfl rfl ?_
    refine g_zeq (off := 11) (tgt := 52) (pc2 := 44) (by decide +kernel) (by decide) rfl ?_ ?_
    · refine g_seg0 (pc' := 53) (L' := [some (vI v0), some (vI v1), some (vI v2)]) (st' := [vI 0]) (u1 := u) [(oC 0, 1)] (by decide +kernel) rfl rfl ?_
      exact g_iret (by decide +kernel) rfl
    · refine g_seg0 (pc' := 45) (L' := [some (vI v0), some (vI v1), some (vI v2)]) (st' := [vI v2]) (u1 := u) [(oL 0 2, 1)] (by decide +kernel) rfl rfl ?_
      refine g_zeq (off := 7) (tgt := 52) (pc2 := 48) (by decide +kernel) (by decide) rfl ?_ ?_
      · refine g_seg0 (pc' := 53) (L' := [some (vI v0), some (vI v1), some (vI v2)]) (st' := [vI 0]) (u1 := u) [(oC 0, 1)] (by decide +kernel) rfl rfl ?_
        exact g_iret (by decide +kernel) rfl
      · refine g_seg0 (pc' := 49) (L' := [some (vI v0), some (vI v1), some (vI v2)]) (st' := [vI 1]) (u1 := u) [(oC 1, 1)] (by decide +kernel) rfl rfl ?_
        refine g_goto (off := 4) (tgt := 53) (by decide +kernel) (by decide) ?_
        exact g_iret (by decide +kernel) rfl
  refine g_swd (dflt := 97) (lo := (-11)) (hi := (-6)) (offs := #[93, 89, 78, 67, 53, 39]) (len := 39) (tgd := 98) (by decide +kernel) (by decide) (by decide +kernel) ?_
  refine g_seg0 (pc' := 101) (L' := [some (vI v0), some (vI v1), some (vI v2)]) (st' := [vI (v1 * v2)]) (u1 := u) [(oL 0 1, 1), (oL 0 2, 1), (oP .imul, 1)] (by decide +kernel) rfl rfl ?_
  exact g_iret (by decide +kernel) rfl
theorem CX1_join (v0 : Int32) (v1 : Int32) (v2 : Int32) (u : ab_S) : ab_C 0 yX1_join cX1_join 3 (some .int) 0 [vI v0, vI v1, vI v2] u wI (fX1_join v0 v1 v2 u) := ab_entry (by decide +kernel) rfl (by decide) (by decide) (fun _ => Nat.le_of_ble_eq_true rfl) rfl (tX1_join v0 v1 v2 u)
def fX1_pushOrJoin (o0 : Nat) (v1 : Int32) (u : ab_S) : Option (Unit × ab_S) :=
  bif decide (v1 < 0) then (
    (fX1_pop o0 u).bind fun q1 =>
      (fX1_pop o0 q1.2).bind fun q2 =>
        (fX1_join v1 q2.1 q1.1 q2.2).bind fun q3 =>
          (fX1_push o0 q3.1 q3.2).bind fun q4 =>
            some ((), q4.2))
  else (
    (fX1_push o0 v1 u).bind fun q5 =>
      some ((), q5.2))
theorem tX1_pushOrJoin (o0 : Nat) (v1 : Int32) (u : ab_S) : ab_G 0 1 cX1_pushOrJoin none 1 0 [some (vR (kO 1) o0), some (vI v1), none, none] [] u wV (fX1_pushOrJoin o0 v1 u) := by
  rw [fX1_pushOrJoin]
  refine g_seg0 (pc' := 1) (L' := [some (vR (kO 1) o0), some (vI v1), none, none]) (st' := [vI v1]) (u1 := u) [(oL 0 1, 1)] (by decide +kernel) rfl rfl ?_
  refine g_zlt (off := 9) (tgt := 10) (pc2 := 4) (by decide +kernel) (by decide) rfl ?_ ?_
  · refine g_seg0 (pc' := 11) (L' := [some (vR (kO 1) o0), some (vI v1), none, none]) (st' := [vR (kO 1) o0]) (u1 := u) [(oL 2 0, 1)] (by decide +kernel) rfl rfl ?_
    refine g_callV (k := 102) (pc2 := 14) (st := []) (CX1_pop o0 u) miX1_pop mvX1_pop rfl (by decide) lk1_102 wI_ok (by decide +kernel) rfl (Nat.le_of_ble_eq_true rfl) (by decide) rfl (fun q1 hq1 => ?_)
    refine g_seg0 (pc' := 16) (L' := [some (vR (kO 1) o0), some (vI v1), some (vI (q1.1)), none]) (st' := [vR (kO 1) o0]) (u1 := q1.2) [(oL 3 2, 1), (oL 2 0, 1)] (by decide +kernel) rfl rfl ?_
    refine g_callV (k := 102) (pc2 := 19) (st := []) (CX1_pop o0 q1.2) miX1_pop mvX1_pop rfl (by decide) lk1_102 wI_ok (by decide +kernel) rfl (Nat.le_of_ble_eq_true rfl) (by decide) rfl (fun q2 hq2 => ?_)
    refine g_seg0 (pc' := 24) (L' := [some (vR (kO 1) o0), some (vI v1), some (vI (q1.1)), some (vI (q2.1))]) (st' := [vI (q1.1), vI (q2.1), vI v1, vR (kO 1) o0]) (u1 := q2.2) [(oL 3 3, 1), (oL 2 0, 1), (oL 0 1, 1), (oL 0 3, 1), (oL 0 2, 1)] (by decide +kernel) rfl rfl ?_
    refine g_callS (k := 109) (pc2 := 27) (st := [vR (kO 1) o0]) (CX1_join v1 q2.1 q1.1 q2.2) miX1_join msX1_join lk1_109 wI_ok (by decide +kernel) rfl (Nat.le_of_ble_eq_true rfl) (by decide) rfl (fun q3 hq3 => ?_)
    refine g_callV (k := 99) (pc2 := 30) (st := []) (CX1_push o0 q3.1 q3.2) miX1_push mvX1_push rfl (by decide) lk1_99 wV_ok (by decide +kernel) rfl (Nat.le_of_ble_eq_true rfl) (by decide) rfl (fun q4 hq4 => ?_)
    exact g_vret (by decide +kernel) rfl
  · refine g_seg0 (pc' := 6) (L' := [some (vR (kO 1) o0), some (vI v1), none, none]) (st' := [vI v1, vR (kO 1) o0]) (u1 := u) [(oL 2 0, 1), (oL 0 1, 1)] (by decide +kernel) rfl rfl ?_
    refine g_callV (k := 99) (pc2 := 9) (st := []) (CX1_push o0 v1 u) miX1_push mvX1_push rfl (by decide) lk1_99 wV_ok (by decide +kernel) rfl (Nat.le_of_ble_eq_true rfl) (by decide) rfl (fun q5 hq5 => ?_)
    exact g_vret (by decide +kernel) rfl
theorem CX1_pushOrJoin (o0 : Nat) (v1 : Int32) (u : ab_S) : ab_C 0 yX1_pushOrJoin cX1_pushOrJoin 4 none 1 [vR (kO 1) o0, vI v1] u wV (fX1_pushOrJoin o0 v1 u) := ab_entry (by decide +kernel) rfl (by decide) (by decide) (fun _ => Nat.le_of_ble_eq_true rfl) rfl (tX1_pushOrJoin o0 v1 u)
def fX1_work_136 (o0 : Nat) (u : ab_S) : Option (Int32 × ab_S) :=
  (fX1_pop o0 u).bind fun q1 =>
    some (q1.1, q1.2)
theorem tX1_work_136 (o0 : Nat) (u : ab_S) : ab_G 0 1 cX1_work (some .int) 2 136 [some (vR (kO 1) o0), none, none, none, none, none, none] [] u wI (fX1_work_136 o0 u) := by
  rw [fX1_work_136]
  refine g_seg0 (pc' := 137) (L' := [some (vR (kO 1) o0), none, none, none, none, none, none]) (st' := [vR (kO 1) o0]) (u1 := u) [(oL 2 0, 1)] (by decide +kernel) rfl rfl ?_
  refine g_callV (k := 102) (pc2 := 140) (st := []) (CX1_pop o0 u) miX1_pop mvX1_pop rfl (by decide) lk1_102 wI_ok (by decide +kernel) rfl (Nat.le_of_ble_eq_true rfl) (by decide) rfl (fun q1 hq1 => ?_)
  exact g_iret (by decide +kernel) rfl
def fX1_work_118 (o0 : Nat) (k8 : Int32 → Int32 → Int32 → Int32 → Int32 → ab_S → Option (Int32 × ab_S)) (v1 : Int32) (v2 : Int32) (v3 : Int32) (v4 : Int32) (v5 : Int32) (s1 : Int32) (u : ab_S) : Option (Int32 × ab_S) :=
  (fX1_push o0 s1 u).bind fun q2 =>
    k8 v1 v2 v3 v4 (v5 + 1) q2.2
theorem tX1_work_118 (o0 : Nat) (k8 : Int32 → Int32 → Int32 → Int32 → Int32 → ab_S → Option (Int32 × ab_S)) (hk8 : ∀ (v1 : Int32) (v2 : Int32) (v3 : Int32) (v4 : Int32) (v5 : Int32) (u : ab_S), ab_G 0 1 cX1_work (some .int) 2 8 [some (vR (kO 1) o0), some (vI v1), some (vI v2), some (vI v3), some (vI v4), some (vI v5), none] [] u wI (k8 v1 v2 v3 v4 v5 u)) (v1 : Int32) (v2 : Int32) (v3 : Int32) (v4 : Int32) (v5 : Int32) (s1 : Int32) (u : ab_S) : ab_G 0 1 cX1_work (some .int) 2 118 [some (vR (kO 1) o0), some (vI v1), some (vI v2), some (vI v3), some (vI v4), some (vI v5), none] [vI s1, vR (kO 1) o0] u wI (fX1_work_118 o0 k8 v1 v2 v3 v4 v5 s1 u) := by
  rw [fX1_work_118]
  refine g_callV (k := 99) (pc2 := 121) (st := []) (CX1_push o0 s1 u) miX1_push mvX1_push rfl (by decide) lk1_99 wV_ok (by decide +kernel) rfl (Nat.le_of_ble_eq_true rfl) (by decide) rfl (fun q2 hq2 => ?_)
  refine g_goto (off := 9) (tgt := 130) (by decide +kernel) (by decide) ?_
  refine g_seg0 (pc' := 133) (L' := [some (vR (kO 1) o0), some (vI v1), some (vI v2), some (vI v3), some (vI v4), some (vI (v5 + 1)), none]) (st' := []) (u1 := q2.2) [(oN 5 1, 3)] (by decide +kernel) rfl rfl ?_
  refine g_goto (off := (-125)) (tgt := 8) (by decide +kernel) (by decide) ?_
  exact hk8 v1 v2 v3 v4 (v5 + 1) q2.2
def fX1_work_8 (o0 : Nat) : Nat → Int32 → Int32 → Int32 → Int32 → Int32 → ab_S → Option (Int32 × ab_S)
  | 0, _, _, _, _, _, _ => none
  | n + 1, v1, v2, v3, v4, v5, u =>
  bif decide (v5 < (u.1 o0 1)) then (
    bif decide (v5 < 1000) then (
      ab_gd [ab_ix v5 1000] (
        ab_sw (u.1 (o0 + 1) (nc v5)) [
        ((-5),
          (fX1_pop o0 u).bind fun q3 =>
            bif decide (q3.1 = 0) then (
              fX1_work_118 o0 (fX1_work_8 o0 n) v1 v2 v3 v4 v5 1 q3.2)
            else (
              fX1_work_118 o0 (fX1_work_8 o0 n) v1 v2 v3 v4 v5 0 q3.2)),
        ((-4),
          (fX1_push o0 v4 u).bind fun q4 =>
            (fX1_work_8 o0 n) v1 v2 v3 v4 (v5 + 1) q4.2),
        ((-3),
          (fX1_push o0 v3 u).bind fun q5 =>
            (fX1_work_8 o0 n) v1 v2 v3 v4 (v5 + 1) q5.2),
        ((-2),
          (fX1_push o0 v2 u).bind fun q6 =>
            (fX1_work_8 o0 n) v1 v2 v3 v4 (v5 + 1) q6.2),
        ((-1),
          (fX1_push o0 v1 u).bind fun q7 =>
            (fX1_work_8 o0 n) v1 v2 v3 v4 (v5 + 1) q7.2)] (
          (fX1_pushOrJoin o0 (u.1 (o0 + 1) (nc v5)) u).bind fun q8 =>
            (fX1_work_8 o0 n) v1 v2 v3 v4 (v5 + 1) q8.2)))
    else (
      fX1_work_136 o0 u))
  else (
    fX1_work_136 o0 u)
theorem tX1_work_8 (o0 : Nat) : ∀ (n : Nat) (v1 : Int32) (v2 : Int32) (v3 : Int32) (v4 : Int32) (v5 : Int32) (u : ab_S), ab_G 0 1 cX1_work (some .int) 2 8 [some (vR (kO 1) o0), some (vI v1), some (vI v2), some (vI v3), some (vI v4), some (vI v5), none] [] u wI (fX1_work_8 o0 n v1 v2 v3 v4 v5 u) := by
  intro n
  induction n with
  | zero => intros; exact g_none
  | succ n ih =>
    intro v1 v2 v3 v4 v5 u
    rw [fX1_work_8]
    refine g_seg0 (pc' := 14) (L' := [some (vR (kO 1) o0), some (vI v1), some (vI v2), some (vI v3), some (vI v4), some (vI v5), none]) (st' := [vI (u.1 o0 1), vI v5]) (u1 := u) [(oL 0 5, 2), (oL 2 0, 1), (oP (.getfield 18), 3)] (by decide +kernel) rfl rfl ?_
    refine g_ige (off := 122) (tgt := 136) (pc2 := 17) (by decide +kernel) (by decide) rfl ?_ ?_
    · exact g_jump [true, false, false, false, false, false, false] rfl (tX1_work_136 o0 u)
    · refine g_seg0 (pc' := 24) (L' := [some (vR (kO 1) o0), some (vI v1), some (vI v2), some (vI v3), some (vI v4), some (vI v5), none]) (st' := [vI 1000, vI v5]) (u1 := u) [(oL 0 5, 2), (oL 2 0, 1), (oP (.getfield 9), 3), (oP .arraylength, 1)] (by decide +kernel) rfl rfl ?_
      refine g_ige (off := 112) (tgt := 136) (pc2 := 27) (by decide +kernel) (by decide) rfl ?_ ?_
      · exact g_jump [true, false, false, false, false, false, false] rfl (tX1_work_136 o0 u)
      · refine g_seg (pc' := 38) (L' := [some (vR (kO 1) o0), some (vI v1), some (vI v2), some (vI v3), some (vI v4), some (vI v5), some (vI (u.1 (o0 + 1) (nc v5)))]) (st' := [vI (u.1 (o0 + 1) (nc v5))]) (u1 := u) [(oL 2 0, 1), (oP (.getfield 9), 3), (oL 0 5, 2), (oP .iaload, 1), (oL 3 6, 2), (oL 0 6, 2)] (by decide +kernel) rfl rfl ?_
        refine g_sw0 ?_
        refine g_sw1 (dflt := 86) (lo := (-5)) (hi := (-1)) (offs := #[67, 58, 50, 42, 34]) (len := 34) (k := (-5)) (t := 105) (by decide +kernel) (by decide +kernel) ?_ ?_
        · refine g_seg0 (pc' := 107) (L' := [some (vR (kO 1) o0), some (vI v1), some (vI v2), some (vI v3), some (vI v4), some (vI v5), some (vI (u.1 (o0 + 1) (nc v5)))]) (st' := [vR (kO 1) o0, vR (kO 1) o0]) (u1 := u) [(oL 2 0, 1), (oL 2 0, 1)] (by decide +kernel) rfl rfl ?_
          refine g_callV (k := 102) (pc2 := 110) (st := [vR (kO 1) o0]) (CX1_pop o0 u) miX1_pop mvX1_pop rfl (by decide) lk1_102 wI_ok (by decide +kernel) rfl (Nat.le_of_ble_eq_true rfl) (by decide) rfl (fun q3 hq3 => ?_)
          refine g_zne (off := 7) (tgt := 117) (pc2 := 113) (by decide +kernel) (by decide) rfl ?_ ?_
          · refine g_seg0 (pc' := 118) (L' := [some (vR (kO 1) o0), some (vI v1), some (vI v2), some (vI v3), some (vI v4), some (vI v5), some (vI (u.1 (o0 + 1) (nc v5)))]) (st' := [vI 0, vR (kO 1) o0]) (u1 := q3.2) [(oC 0, 1)] (by decide +kernel) rfl rfl ?_
            exact g_jump [true, true, true, true, true, true, false] rfl (tX1_work_118 o0 (fX1_work_8 o0 n) ih v1 v2 v3 v4 v5 0 q3.2)
          · refine g_seg0 (pc' := 114) (L' := [some (vR (kO 1) o0), some (vI v1), some (vI v2), some (vI v3), some (vI v4), some (vI v5), some (vI (u.1 (o0 + 1) (nc v5)))]) (st' := [vI 1, vR (kO 1) o0]) (u1 := q3.2) [(oC 1, 1)] (by decide +kernel) rfl rfl ?_
            refine g_goto (off := 4) (tgt := 118) (by decide +kernel) (by decide) ?_
            exact g_jump [true, true, true, true, true, true, false] rfl (tX1_work_118 o0 (fX1_work_8 o0 n) ih v1 v2 v3 v4 v5 1 q3.2)
        refine g_sw1 (dflt := 86) (lo := (-5)) (hi := (-1)) (offs := #[67, 58, 50, 42, 34]) (len := 34) (k := (-4)) (t := 96) (by decide +kernel) (by decide +kernel) ?_ ?_
        · refine g_seg0 (pc' := 99) (L' := [some (vR (kO 1) o0), some (vI v1), some (vI v2), some (vI v3), some (vI v4), some (vI v5), some (vI (u.1 (o0 + 1) (nc v5)))]) (st' := [vI v4, vR (kO 1) o0]) (u1 := u) [(oL 2 0, 1), (oL 0 4, 2)] (by decide +kernel) rfl rfl ?_
          refine g_callV (k := 99) (pc2 := 102) (st := []) (CX1_push o0 v4 u) miX1_push mvX1_push rfl (by decide) lk1_99 wV_ok (by decide +kernel) rfl (Nat.le_of_ble_eq_true rfl) (by decide) rfl (fun q4 hq4 => ?_)
          refine g_goto (off := 28) (tgt := 130) (by decide +kernel) (by decide) ?_
          refine g_seg0 (pc' := 133) (L' := [some (vR (kO 1) o0), some (vI v1), some (vI v2), some (vI v3), some (vI v4), some (vI (v5 + 1)), some (vI (u.1 (o0 + 1) (nc v5)))]) (st' := []) (u1 := q4.2) [(oN 5 1, 3)] (by decide +kernel) rfl rfl ?_
          refine g_goto (off := (-125)) (tgt := 8) (by decide +kernel) (by decide) ?_
          exact g_jump [true, true, true, true, true, true, false] rfl (ih v1 v2 v3 v4 (v5 + 1) q4.2)
        refine g_sw1 (dflt := 86) (lo := (-5)) (hi := (-1)) (offs := #[67, 58, 50, 42, 34]) (len := 34) (k := (-3)) (t := 88) (by decide +kernel) (by decide +kernel) ?_ ?_
        · refine g_seg0 (pc' := 90) (L' := [some (vR (kO 1) o0), some (vI v1), some (vI v2), some (vI v3), some (vI v4), some (vI v5), some (vI (u.1 (o0 + 1) (nc v5)))]) (st' := [vI v3, vR (kO 1) o0]) (u1 := u) [(oL 2 0, 1), (oL 0 3, 1)] (by decide +kernel) rfl rfl ?_
          refine g_callV (k := 99) (pc2 := 93) (st := []) (CX1_push o0 v3 u) miX1_push mvX1_push rfl (by decide) lk1_99 wV_ok (by decide +kernel) rfl (Nat.le_of_ble_eq_true rfl) (by decide) rfl (fun q5 hq5 => ?_)
          refine g_goto (off := 37) (tgt := 130) (by decide +kernel) (by decide) ?_
          refine g_seg0 (pc' := 133) (L' := [some (vR (kO 1) o0), some (vI v1), some (vI v2), some (vI v3), some (vI v4), some (vI (v5 + 1)), some (vI (u.1 (o0 + 1) (nc v5)))]) (st' := []) (u1 := q5.2) [(oN 5 1, 3)] (by decide +kernel) rfl rfl ?_
          refine g_goto (off := (-125)) (tgt := 8) (by decide +kernel) (by decide) ?_
          exact g_jump [true, true, true, true, true, true, false] rfl (ih v1 v2 v3 v4 (v5 + 1) q5.2)
        refine g_sw1 (dflt := 86) (lo := (-5)) (hi := (-1)) (offs := #[67, 58, 50, 42, 34]) (len := 34) (k := (-2)) (t := 80) (by decide +kernel) (by decide +kernel) ?_ ?_
        · refine g_seg0 (pc' := 82) (L' := [some (vR (kO 1) o0), some (vI v1), some (vI v2), some (vI v3), some (vI v4), some (vI v5), some (vI (u.1 (o0 + 1) (nc v5)))]) (st' := [vI v2, vR (kO 1) o0]) (u1 := u) [(oL 2 0, 1), (oL 0 2, 1)] (by decide +kernel) rfl rfl ?_
          refine g_callV (k := 99) (pc2 := 85) (st := []) (CX1_push o0 v2 u) miX1_push mvX1_push rfl (by decide) lk1_99 wV_ok (by decide +kernel) rfl (Nat.le_of_ble_eq_true rfl) (by decide) rfl (fun q6 hq6 => ?_)
          refine g_goto (off := 45) (tgt := 130) (by decide +kernel) (by decide) ?_
          refine g_seg0 (pc' := 133) (L' := [some (vR (kO 1) o0), some (vI v1), some (vI v2), some (vI v3), some (vI v4), some (vI (v5 + 1)), some (vI (u.1 (o0 + 1) (nc v5)))]) (st' := []) (u1 := q6.2) [(oN 5 1, 3)] (by decide +kernel) rfl rfl ?_
          refine g_goto (off := (-125)) (tgt := 8) (by decide +kernel) (by decide) ?_
          exact g_jump [true, true, true, true, true, true, false] rfl (ih v1 v2 v3 v4 (v5 + 1) q6.2)
        refine g_sw1 (dflt := 86) (lo := (-5)) (hi := (-1)) (offs := #[67, 58, 50, 42, 34]) (len := 34) (k := (-1)) (t := 72) (by decide +kernel) (by decide +kernel) ?_ ?_
        · refine g_seg0 (pc' := 74) (L' := [some (vR (kO 1) o0), some (vI v1), some (vI v2), some (vI v3), some (vI v4), some (vI v5), some (vI (u.1 (o0 + 1) (nc v5)))]) (st' := [vI v1, vR (kO 1) o0]) (u1 := u) [(oL 2 0, 1), (oL 0 1, 1)] (by decide +kernel) rfl rfl ?_
          refine g_callV (k := 99) (pc2 := 77) (st := []) (CX1_push o0 v1 u) miX1_push mvX1_push rfl (by decide) lk1_99 wV_ok (by decide +kernel) rfl (Nat.le_of_ble_eq_true rfl) (by decide) rfl (fun q7 hq7 => ?_)
          refine g_goto (off := 53) (tgt := 130) (by decide +kernel) (by decide) ?_
          refine g_seg0 (pc' := 133) (L' := [some (vR (kO 1) o0), some (vI v1), some (vI v2), some (vI v3), some (vI v4), some (vI (v5 + 1)), some (vI (u.1 (o0 + 1) (nc v5)))]) (st' := []) (u1 := q7.2) [(oN 5 1, 3)] (by decide +kernel) rfl rfl ?_
          refine g_goto (off := (-125)) (tgt := 8) (by decide +kernel) (by decide) ?_
          exact g_jump [true, true, true, true, true, true, false] rfl (ih v1 v2 v3 v4 (v5 + 1) q7.2)
        refine g_swd (dflt := 86) (lo := (-5)) (hi := (-1)) (offs := #[67, 58, 50, 42, 34]) (len := 34) (tgd := 124) (by decide +kernel) (by decide) (by decide +kernel) ?_
        refine g_seg0 (pc' := 127) (L' := [some (vR (kO 1) o0), some (vI v1), some (vI v2), some (vI v3), some (vI v4), some (vI v5), some (vI (u.1 (o0 + 1) (nc v5)))]) (st' := [vI (u.1 (o0 + 1) (nc v5)), vR (kO 1) o0]) (u1 := u) [(oL 2 0, 1), (oL 0 6, 2)] (by decide +kernel) rfl rfl ?_
        refine g_callV (k := 106) (pc2 := 130) (st := []) (CX1_pushOrJoin o0 (u.1 (o0 + 1) (nc v5)) u) miX1_pushOrJoin mvX1_pushOrJoin rfl (by decide) lk1_106 wV_ok (by decide +kernel) rfl (Nat.le_of_ble_eq_true rfl) (by decide) rfl (fun q8 hq8 => ?_)
        refine g_seg0 (pc' := 133) (L' := [some (vR (kO 1) o0), some (vI v1), some (vI v2), some (vI v3), some (vI v4), some (vI (v5 + 1)), some (vI (u.1 (o0 + 1) (nc v5)))]) (st' := []) (u1 := q8.2) [(oN 5 1, 3)] (by decide +kernel) rfl rfl ?_
        refine g_goto (off := (-125)) (tgt := 8) (by decide +kernel) (by decide) ?_
        exact g_jump [true, true, true, true, true, true, false] rfl (ih v1 v2 v3 v4 (v5 + 1) q8.2)
def fX1_work (o0 : Nat) (v1 : Int32) (v2 : Int32) (v3 : Int32) (v4 : Int32) (u : ab_S) : Option (Int32 × ab_S) :=
  fX1_work_8 o0 fu v1 v2 v3 v4 0 (sI u o0 3 0)
theorem tX1_work (o0 : Nat) (v1 : Int32) (v2 : Int32) (v3 : Int32) (v4 : Int32) (u : ab_S) : ab_G 0 1 cX1_work (some .int) 2 0 [some (vR (kO 1) o0), some (vI v1), some (vI v2), some (vI v3), some (vI v4), none, none] [] u wI (fX1_work o0 v1 v2 v3 v4 u) := by
  rw [fX1_work]
  refine g_seg0 (pc' := 8) (L' := [some (vR (kO 1) o0), some (vI v1), some (vI v2), some (vI v3), some (vI v4), some (vI 0), none]) (st' := []) (u1 := (sI u o0 3 0)) [(oL 2 0, 1), (oC 0, 1), (oP (.putfield 96), 3), (oC 0, 1), (oL 3 5, 2)] (by decide +kernel) rfl rfl ?_
  exact tX1_work_8 o0 fu v1 v2 v3 v4 0 (sI u o0 3 0)
theorem CX1_work (o0 : Nat) (v1 : Int32) (v2 : Int32) (v3 : Int32) (v4 : Int32) (u : ab_S) : ab_C 0 yX1_work cX1_work 7 (some .int) 2 [vR (kO 1) o0, vI v1, vI v2, vI v3, vI v4] u wI (fX1_work o0 v1 v2 v3 v4 u) := ab_entry (by decide +kernel) rfl (by decide) (by decide) (fun _ => Nat.le_of_ble_eq_true rfl) rfl (tX1_work o0 v1 v2 v3 v4 u)
def fX9_at (n0 : Nat) (o0 : Nat) (v1 : Int32) (u : ab_S) : Option (Int32 × ab_S) :=
  bif decide (v1 < 0) then (
    some (0, u))
  else (
    bif decide (v1 < (Int32.ofNat n0)) then (
      ab_gd [ab_ix v1 n0] (
        some ((u.1 o0 (nc v1)), u)))
    else (
      some (0, u)))
theorem tX9_at (n0 : Nat) (o0 : Nat) (v1 : Int32) (u : ab_S) : ab_G 0 8 cX9_at (some .int) 0 0 [some (vR (kA 0 n0) o0), some (vI v1)] [] u wI (fX9_at n0 o0 v1 u) := by
  rw [fX9_at]
  refine g_seg0 (pc' := 1) (L' := [some (vR (kA 0 n0) o0), some (vI v1)]) (st' := [vI v1]) (u1 := u) [(oL 0 1, 1)] (by decide +kernel) rfl rfl ?_
  refine g_zlt (off := 15) (tgt := 16) (pc2 := 4) (by decide +kernel) (by decide) rfl ?_ ?_
  · refine g_seg0 (pc' := 17) (L' := [some (vR (kA 0 n0) o0), some (vI v1)]) (st' := [vI 0]) (u1 := u) [(oC 0, 1)] (by decide +kernel) rfl rfl ?_
    exact g_iret (by decide +kernel) rfl
  · refine g_seg0 (pc' := 7) (L' := [some (vR (kA 0 n0) o0), some (vI v1)]) (st' := [vI (Int32.ofNat n0), vI v1]) (u1 := u) [(oL 0 1, 1), (oL 2 0, 1), (oP .arraylength, 1)] (by decide +kernel) rfl rfl ?_
    refine g_ige (off := 9) (tgt := 16) (pc2 := 10) (by decide +kernel) (by decide) rfl ?_ ?_
    · refine g_seg0 (pc' := 17) (L' := [some (vR (kA 0 n0) o0), some (vI v1)]) (st' := [vI 0]) (u1 := u) [(oC 0, 1)] (by decide +kernel) rfl rfl ?_
      exact g_iret (by decide +kernel) rfl
    · refine g_seg (pc' := 13) (L' := [some (vR (kA 0 n0) o0), some (vI v1)]) (st' := [vI (u.1 o0 (nc v1))]) (u1 := u) [(oL 2 0, 1), (oL 0 1, 1), (oP .iaload, 1)] (by decide +kernel) rfl rfl ?_
      refine g_goto (off := 4) (tgt := 17) (by decide +kernel) (by decide) ?_
      exact g_iret (by decide +kernel) rfl
theorem CX9_at (n0 : Nat) (o0 : Nat) (v1 : Int32) (u : ab_S) : ab_C 0 yX9_at cX9_at 2 (some .int) 0 [vR (kA 0 n0) o0, vI v1] u wI (fX9_at n0 o0 v1 u) := ab_entry (by decide +kernel) rfl (by decide) (by decide) (fun _ => Nat.le_of_ble_eq_true rfl) rfl (tX9_at n0 o0 v1 u)
def fX2_ownerOf (o0 : Nat) (v1 : Int32) (u : ab_S) : Option (Int32 × ab_S) :=
  (fX9_at 8 (o0 + 6) v1 u).bind fun q1 =>
    some (q1.1, q1.2)
theorem tX2_ownerOf (o0 : Nat) (v1 : Int32) (u : ab_S) : ab_G 0 2 cX2_ownerOf (some .int) 1 0 [some (vR (kO 2) o0), some (vI v1)] [] u wI (fX2_ownerOf o0 v1 u) := by
  rw [fX2_ownerOf]
  refine g_seg0 (pc' := 5) (L' := [some (vR (kO 2) o0), some (vI v1)]) (st' := [vI v1, vR (kA 0 8) (o0 + 6)]) (u1 := u) [(oL 2 0, 1), (oP (.getfield 28), 3), (oL 0 1, 1)] (by decide +kernel) rfl rfl ?_
  refine g_callS (k := 224) (pc2 := 8) (st := []) (CX9_at 8 (o0 + 6) v1 u) miX9_at msX9_at lk2_224 wI_ok (by decide +kernel) rfl (Nat.le_of_ble_eq_true rfl) (by decide) rfl (fun q1 hq1 => ?_)
  exact g_iret (by decide +kernel) rfl
theorem CX2_ownerOf (o0 : Nat) (v1 : Int32) (u : ab_S) : ab_C 0 yX2_ownerOf cX2_ownerOf 2 (some .int) 1 [vR (kO 2) o0, vI v1] u wI (fX2_ownerOf o0 v1 u) := ab_entry (by decide +kernel) rfl (by decide) (by decide) (fun _ => Nat.le_of_ble_eq_true rfl) rfl (tX2_ownerOf o0 v1 u)
def fX2_fitIndex (v0 : Int32) (v1 : Int32) (v2 : Int32) (u : ab_S) : Option (Int32 × ab_S) :=
  some (((((v0 * 8) + v1) * 8) + v2), u)
theorem tX2_fitIndex (v0 : Int32) (v1 : Int32) (v2 : Int32) (u : ab_S) : ab_G 0 2 cX2_fitIndex (some .int) 0 0 [some (vI v0), some (vI v1), some (vI v2)] [] u wI (fX2_fitIndex v0 v1 v2 u) := by
  rw [fX2_fitIndex]
  refine g_seg0 (pc' := 11) (L' := [some (vI v0), some (vI v1), some (vI v2)]) (st' := [vI ((((v0 * 8) + v1) * 8) + v2)]) (u1 := u) [(oL 0 0, 1), (oC 8, 2), (oP .imul, 1), (oL 0 1, 1), (oP .iadd, 1), (oC 8, 2), (oP .imul, 1), (oL 0 2, 1), (oP .iadd, 1)] (by decide +kernel) rfl rfl ?_
  exact g_iret (by decide +kernel) rfl
theorem CX2_fitIndex (v0 : Int32) (v1 : Int32) (v2 : Int32) (u : ab_S) : ab_C 0 yX2_fitIndex cX2_fitIndex 3 (some .int) 0 [vI v0, vI v1, vI v2] u wI (fX2_fitIndex v0 v1 v2 u) := ab_entry (by decide +kernel) rfl (by decide) (by decide) (fun _ => Nat.le_of_ble_eq_true rfl) rfl (tX2_fitIndex v0 v1 v2 u)
def fX2_worthOf (o0 : Nat) (v1 : Int32) (u : ab_S) : Option (Int32 × ab_S) :=
  (fX9_at 8 (o0 + 5) v1 u).bind fun q1 =>
    some (q1.1, q1.2)
theorem tX2_worthOf (o0 : Nat) (v1 : Int32) (u : ab_S) : ab_G 0 2 cX2_worthOf (some .int) 1 0 [some (vR (kO 2) o0), some (vI v1)] [] u wI (fX2_worthOf o0 v1 u) := by
  rw [fX2_worthOf]
  refine g_seg0 (pc' := 5) (L' := [some (vR (kO 2) o0), some (vI v1)]) (st' := [vI v1, vR (kA 0 8) (o0 + 5)]) (u1 := u) [(oL 2 0, 1), (oP (.getfield 25), 3), (oL 0 1, 1)] (by decide +kernel) rfl rfl ?_
  refine g_callS (k := 224) (pc2 := 8) (st := []) (CX9_at 8 (o0 + 5) v1 u) miX9_at msX9_at lk2_224 wI_ok (by decide +kernel) rfl (Nat.le_of_ble_eq_true rfl) (by decide) rfl (fun q1 hq1 => ?_)
  exact g_iret (by decide +kernel) rfl
theorem CX2_worthOf (o0 : Nat) (v1 : Int32) (u : ab_S) : ab_C 0 yX2_worthOf cX2_worthOf 2 (some .int) 1 [vR (kO 2) o0, vI v1] u wI (fX2_worthOf o0 v1 u) := ab_entry (by decide +kernel) rfl (by decide) (by decide) (fun _ => Nat.le_of_ble_eq_true rfl) rfl (tX2_worthOf o0 v1 u)
def fX2_likeOf (o0 : Nat) (v1 : Int32) (v2 : Int32) (u : ab_S) : Option (Int32 × ab_S) :=
  (fX9_at 48 (o0 + 7) ((v1 * 8) + v2) u).bind fun q1 =>
    some (q1.1, q1.2)
theorem tX2_likeOf (o0 : Nat) (v1 : Int32) (v2 : Int32) (u : ab_S) : ab_G 0 2 cX2_likeOf (some .int) 1 0 [some (vR (kO 2) o0), some (vI v1), some (vI v2)] [] u wI (fX2_likeOf o0 v1 v2 u) := by
  rw [fX2_likeOf]
  refine g_seg0 (pc' := 10) (L' := [some (vR (kO 2) o0), some (vI v1), some (vI v2)]) (st' := [vI ((v1 * 8) + v2), vR (kA 0 48) (o0 + 7)]) (u1 := u) [(oL 2 0, 1), (oP (.getfield 31), 3), (oL 0 1, 1), (oC 8, 2), (oP .imul, 1), (oL 0 2, 1), (oP .iadd, 1)] (by decide +kernel) rfl rfl ?_
  refine g_callS (k := 224) (pc2 := 13) (st := []) (CX9_at 48 (o0 + 7) ((v1 * 8) + v2) u) miX9_at msX9_at lk2_224 wI_ok (by decide +kernel) rfl (Nat.le_of_ble_eq_true rfl) (by decide) rfl (fun q1 hq1 => ?_)
  exact g_iret (by decide +kernel) rfl
theorem CX2_likeOf (o0 : Nat) (v1 : Int32) (v2 : Int32) (u : ab_S) : ab_C 0 yX2_likeOf cX2_likeOf 3 (some .int) 1 [vR (kO 2) o0, vI v1, vI v2] u wI (fX2_likeOf o0 v1 v2 u) := ab_entry (by decide +kernel) rfl (by decide) (by decide) (fun _ => Nat.le_of_ble_eq_true rfl) rfl (tX2_likeOf o0 v1 v2 u)
