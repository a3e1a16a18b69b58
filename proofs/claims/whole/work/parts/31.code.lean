/-! methods, printed by program out of the listing: function, walk, contract -/
def fX10_swaps (v1 : Int32) (v2 : Int32) (v3 : Int32) (u : ab_S) : Option (Unit × ab_S) :=
  ab_gd [ab_ix ((v1 + 2) + v2) 1081, ab_ix ((v1 + 2) + v3) 1081, ab_ix ((v1 + 2) + v2) 1081, ab_ix ((v1 + 2) + v3) 1081] (
    some ((), (sI (sI u 16 (nc ((v1 + 2) + v2)) (u.1 16 (nc ((v1 + 2) + v3)))) 16 (nc ((v1 + 2) + v3)) (u.1 16 (nc ((v1 + 2) + v2))))))
theorem tX10_swaps (v1 : Int32) (v2 : Int32) (v3 : Int32) (u : ab_S) : ab_G 1 9 cX10_swaps none 0 0 [some (vR (kO 9) 0), some (vI v1), some (vI v2), some (vI v3), none] [] u wV (fX10_swaps v1 v2 v3 u) := by
  rw [fX10_swaps]
  refine g_seg (pc' := 44) (L' := [some (vR (kO 9) 0), some (vI v1), some (vI v2), some (vI v3), some (vI (u.1 16 (nc ((v1 + 2) + v2))))]) (st' := []) (u1 := (sI (sI u 16 (nc ((v1 + 2) + v2)) (u.1 16 (nc ((v1 + 2) + v3)))) 16 (nc ((v1 + 2) + v3)) (u.1 16 (nc ((v1 + 2) + v2))))) [(oL 2 0, 1), (oP (.getfield 113), 3), (oL 0 1, 1), (oC 2, 1), (oP .iadd, 1), (oL 0 2, 1), (oP .iadd, 1), (oP .iaload, 1), (oL 3 4, 2), (oL 2 0, 1), (oP (.getfield 113), 3), (oL 0 1, 1), (oC 2, 1), (oP .iadd, 1), (oL 0 2, 1), (oP .iadd, 1), (oL 2 0, 1), (oP (.getfield 113), 3), (oL 0 1, 1), (oC 2, 1), (oP .iadd, 1), (oL 0 3, 1), (oP .iadd, 1), (oP .iaload, 1), (oP .iastore, 1), (oL 2 0, 1), (oP (.getfield 113), 3), (oL 0 1, 1), (oC 2, 1), (oP .iadd, 1), (oL 0 3, 1), (oP .iadd, 1), (oL 0 4, 2), (oP .iastore, 1)] (by decide +kernel) rfl rfl ?_
  exact g_vret (by decide +kernel) rfl
theorem CX10_swaps (v1 : Int32) (v2 : Int32) (v3 : Int32) (u : ab_S) : ab_C 1 yX10_swaps cX10_swaps 5 none 0 [vR (kO 9) 0, vI v1, vI v2, vI v3] u wV (fX10_swaps v1 v2 v3 u) := ab_entry (by decide +kernel) rfl (by decide) (by decide) (fun _ => Nat.le_of_ble_eq_true rfl) rfl (tX10_swaps v1 v2 v3 u)
def fX10_draw (v1 : Int32) (v2 : Int32) (u : ab_S) : Option (Int32 × ab_S) :=
  ab_gd [ab_ix (v1 + 1) 1081, decide (¬ 2147483648 = 0), ab_ix (v1 + 1) 1081, decide (¬ 65536 = 0), decide (¬ (Int32.toInt64 v2) = 0)] (
    some ((Int64.toInt32 ((((((Int32.toInt64 (u.1 16 (nc (v1 + 1)))) * 1103515245) + 12345) - (((Int32.toInt64 (u.1 16 (nc (v1 + 1)))) * 1103515245) + 12345) / 2147483648 * 2147483648) / 65536) - (((((Int32.toInt64 (u.1 16 (nc (v1 + 1)))) * 1103515245) + 12345) - (((Int32.toInt64 (u.1 16 (nc (v1 + 1)))) * 1103515245) + 12345) / 2147483648 * 2147483648) / 65536) / (Int32.toInt64 v2) * (Int32.toInt64 v2))), (sI u 16 (nc (v1 + 1)) (Int64.toInt32 ((((Int32.toInt64 (u.1 16 (nc (v1 + 1)))) * 1103515245) + 12345) - (((Int32.toInt64 (u.1 16 (nc (v1 + 1)))) * 1103515245) + 12345) / 2147483648 * 2147483648)))))
theorem tX10_draw (v1 : Int32) (v2 : Int32) (u : ab_S) : ab_G 1 9 cX10_draw (some .int) 0 0 [some (vR (kO 9) 0), some (vI v1), some (vI v2), none, none] [] u wI (fX10_draw v1 v2 u) := by
  rw [fX10_draw]
  refine g_seg (pc' := 41) (L' := [some (vR (kO 9) 0), some (vI v1), some (vI v2), some (vL ((((Int32.toInt64 (u.1 16 (nc (v1 + 1)))) * 1103515245) + 12345) - (((Int32.toInt64 (u.1 16 (nc (v1 + 1)))) * 1103515245) + 12345) / 2147483648 * 2147483648)), none]) (st' := [vI (Int64.toInt32 ((((((Int32.toInt64 (u.1 16 (nc (v1 + 1)))) * 1103515245) + 12345) - (((Int32.toInt64 (u.1 16 (nc (v1 + 1)))) * 1103515245) + 12345) / 2147483648 * 2147483648) / 65536) - (((((Int32.toInt64 (u.1 16 (nc (v1 + 1)))) * 1103515245) + 12345) - (((Int32.toInt64 (u.1 16 (nc (v1 + 1)))) * 1103515245) + 12345) / 2147483648 * 2147483648) / 65536) / (Int32.toInt64 v2) * (Int32.toInt64 v2)))]) (u1 := (sI u 16 (nc (v1 + 1)) (Int64.toInt32 ((((Int32.toInt64 (u.1 16 (nc (v1 + 1)))) * 1103515245) + 12345) - (((Int32.toInt64 (u.1 16 (nc (v1 + 1)))) * 1103515245) + 12345) / 2147483648 * 2147483648)))) [(oL 2 0, 1), (oP (.getfield 113), 3), (oL 0 1, 1), (oC 1, 1), (oP .iadd, 1), (oP .iaload, 1), (oP .i2l, 1), (oD 1103515245, 3), (oP .lmul, 1), (oD 12345, 3), (oP .ladd, 1), (oD 2147483648, 3), (oP .lrem, 1), (oL 4 3, 1), (oL 2 0, 1), (oP (.getfield 113), 3), (oL 0 1, 1), (oC 1, 1), (oP .iadd, 1), (oL 1 3, 1), (oP .l2i, 1), (oP .iastore, 1), (oL 1 3, 1), (oD 65536, 3), (oP .ldiv, 1), (oL 0 2, 1), (oP .i2l, 1), (oP .lrem, 1), (oP .l2i, 1)] (by decide +kernel) rfl rfl ?_
  exact g_iret (by decide +kernel) rfl
theorem CX10_draw (v1 : Int32) (v2 : Int32) (u : ab_S) : ab_C 1 yX10_draw cX10_draw 5 (some .int) 0 [vR (kO 9) 0, vI v1, vI v2] u wI (fX10_draw v1 v2 u) := ab_entry (by decide +kernel) rfl (by decide) (by decide) (fun _ => Nat.le_of_ble_eq_true rfl) rfl (tX10_draw v1 v2 u)
def fX10_ownerOf_5 : Nat → Int32 → Int32 → Int32 → ab_S → Option (Int32 × ab_S)
  | 0, _, _, _, _ => none
  | n + 1, v1, v3, v4, u =>
  ab_gd [ab_ix ((v1 + 16) + v4) 1081] (
    bif decide (v3 < (u.1 16 (nc ((v1 + 16) + v4)))) then (
      some (v4, u))
    else (
      ab_gd [ab_ix ((v1 + 16) + v4) 1081] (
        (fX10_ownerOf_5 n) v1 (v3 - (u.1 16 (nc ((v1 + 16) + v4)))) (v4 + 1) u)))
theorem tX10_ownerOf_5 : ∀ (n : Nat) (v1 : Int32) (v3 : Int32) (v4 : Int32) (u : ab_S), ab_G 1 9 cX10_ownerOf (some .int) 0 5 [some (vR (kO 9) 0), some (vI v1), none, some (vI v3), some (vI v4)] [] u wI (fX10_ownerOf_5 n v1 v3 v4 u) := by
  intro n
  induction n with
  | zero => intros; exact g_none
  | succ n ih =>
    intro v1 v3 v4 u
    rw [fX10_ownerOf_5]
    refine g_seg (pc' := 18) (L' := [some (vR (kO 9) 0), some (vI v1), none, some (vI v3), some (vI v4)]) (st' := [vI (u.1 16 (nc ((v1 + 16) + v4))), vI v3]) (u1 := u) [(oL 0 3, 1), (oL 2 0, 1), (oP (.getfield 113), 3), (oL 0 1, 1), (oC 16, 2), (oP .iadd, 1), (oL 0 4, 2), (oP .iadd, 1), (oP .iaload, 1)] (by decide +kernel) rfl rfl ?_
    refine g_ilt (off := 24) (tgt := 42) (pc2 := 21) (by decide +kernel) (by decide) rfl ?_ ?_
    · refine g_seg0 (pc' := 44) (L' := [some (vR (kO 9) 0), some (vI v1), none, some (vI v3), some (vI v4)]) (st' := [vI v4]) (u1 := u) [(oL 0 4, 2)] (by decide +kernel) rfl rfl ?_
      exact g_iret (by decide +kernel) rfl
    · refine g_seg (pc' := 39) (L' := [some (vR (kO 9) 0), some (vI v1), none, some (vI (v3 - (u.1 16 (nc ((v1 + 16) + v4))))), some (vI (v4 + 1))]) (st' := []) (u1 := u) [(oL 0 3, 1), (oL 2 0, 1), (oP (.getfield 113), 3), (oL 0 1, 1), (oC 16, 2), (oP .iadd, 1), (oL 0 4, 2), (oP .iadd, 1), (oP .iaload, 1), (oP .isub, 1), (oL 3 3, 1), (oN 4 1, 3)] (by decide +kernel) rfl rfl ?_
      refine g_goto (off := (-34)) (tgt := 5) (by decide +kernel) (by decide) ?_
      exact ih v1 (v3 - (u.1 16 (nc ((v1 + 16) + v4)))) (v4 + 1) u
def fX10_ownerOf (v1 : Int32) (v2 : Int32) (u : ab_S) : Option (Int32 × ab_S) :=
  fX10_ownerOf_5 fu v1 v2 0 u
theorem tX10_ownerOf (v1 : Int32) (v2 : Int32) (u : ab_S) : ab_G 1 9 cX10_ownerOf (some .int) 0 0 [some (vR (kO 9) 0), some (vI v1), some (vI v2), none, none] [] u wI (fX10_ownerOf v1 v2 u) := by
  rw [fX10_ownerOf]
  refine g_seg0 (pc' := 5) (L' := [some (vR (kO 9) 0), some (vI v1), some (vI v2), some (vI v2), some (vI 0)]) (st' := []) (u1 := u) [(oL 0 2, 1), (oL 3 3, 1), (oC 0, 1), (oL 3 4, 2)] (by decide +kernel) rfl rfl ?_
  exact g_jump [true, true, false, true, true] rfl (tX10_ownerOf_5 fu v1 v2 0 u)
theorem CX10_ownerOf (v1 : Int32) (v2 : Int32) (u : ab_S) : ab_C 1 yX10_ownerOf cX10_ownerOf 5 (some .int) 0 [vR (kO 9) 0, vI v1, vI v2] u wI (fX10_ownerOf v1 v2 u) := ab_entry (by decide +kernel) rfl (by decide) (by decide) (fun _ => Nat.le_of_ble_eq_true rfl) rfl (tX10_ownerOf v1 v2 u)
def fX10_settles_70 (v1 : Int32) (v2 : Int32) (v4 : Int32) (v5 : Int32) (u : ab_S) : Option (Unit × ab_S) :=
  bif decide (v4 = 2) then (
    ab_gd [ab_ix ((v1 + 2) + v2) 1081] (
      some ((), (sI u 16 (nc ((v1 + 2) + v2)) v5))))
  else (
    some ((), u))
theorem tX10_settles_70 (v1 : Int32) (v2 : Int32) (v4 : Int32) (v5 : Int32) (u : ab_S) : ab_G 1 9 cX10_settles none 4 70 [some (vR (kO 9) 0), some (vI v1), some (vI v2), none, some (vI v4), some (vI v5)] [] u wV (fX10_settles_70 v1 v2 v4 v5 u) := by
  rw [fX10_settles_70]
  refine g_seg0 (pc' := 73) (L' := [some (vR (kO 9) 0), some (vI v1), some (vI v2), none, some (vI v4), some (vI v5)]) (st' := [vI 2, vI v4]) (u1 := u) [(oL 0 4, 2), (oC 2, 1)] (by decide +kernel) rfl rfl ?_
  refine g_ine (off := 15) (tgt := 88) (pc2 := 76) (by decide +kernel) (by decide) rfl ?_ ?_
  · exact g_vret (by decide +kernel) rfl
  · refine g_seg (pc' := 88) (L' := [some (vR (kO 9) 0), some (vI v1), some (vI v2), none, some (vI v4), some (vI v5)]) (st' := []) (u1 := (sI u 16 (nc ((v1 + 2) + v2)) v5)) [(oL 2 0, 1), (oP (.getfield 113), 3), (oL 0 1, 1), (oC 2, 1), (oP .iadd, 1), (oL 0 2, 1), (oP .iadd, 1), (oL 0 5, 2), (oP .iastore, 1)] (by decide +kernel) rfl rfl ?_
    exact g_vret (by decide +kernel) rfl
def fX10_settles_56 (v1 : Int32) (v2 : Int32) (u : ab_S) : Option (Unit × ab_S) :=
  ab_gd [ab_ix ((v1 + 2) + v2) 1081] (
    some ((), (sI u 16 (nc ((v1 + 2) + v2)) (-1))))
theorem tX10_settles_56 (v1 : Int32) (v2 : Int32) (u : ab_S) : ab_G 1 9 cX10_settles none 4 56 [some (vR (kO 9) 0), some (vI v1), some (vI v2), none, none, none] [] u wV (fX10_settles_56 v1 v2 u) := by
  rw [fX10_settles_56]
  refine g_seg (pc' := 67) (L' := [some (vR (kO 9) 0), some (vI v1), some (vI v2), none, none, none]) (st' := []) (u1 := (sI u 16 (nc ((v1 + 2) + v2)) (-1))) [(oL 2 0, 1), (oP (.getfield 113), 3), (oL 0 1, 1), (oC 2, 1), (oP .iadd, 1), (oL 0 2, 1), (oP .iadd, 1), (oC (-1), 1), (oP .iastore, 1)] (by decide +kernel) rfl rfl ?_
  refine g_goto (off := 21) (tgt := 88) (by decide +kernel) (by decide) ?_
  exact g_vret (by decide +kernel) rfl
def fX10_settles_44 (v1 : Int32) (v2 : Int32) (v3 : Int32) (v4 : Int32) (v5 : Int32) (u : ab_S) : Option (Unit × ab_S) :=
  bif decide (v4 = 3) then (
    bif decide (v5 = v3) then (
      fX10_settles_70 v1 v2 v4 v5 u)
    else (
      fX10_settles_56 v1 v2 u))
  else (
    fX10_settles_70 v1 v2 v4 v5 u)
theorem tX10_settles_44 (v1 : Int32) (v2 : Int32) (v3 : Int32) (v4 : Int32) (v5 : Int32) (u : ab_S) : ab_G 1 9 cX10_settles none 4 44 [some (vR (kO 9) 0), some (vI v1), some (vI v2), some (vI v3), some (vI v4), some (vI v5)] [] u wV (fX10_settles_44 v1 v2 v3 v4 v5 u) := by
  rw [fX10_settles_44]
  refine g_seg0 (pc' := 47) (L' := [some (vR (kO 9) 0), some (vI v1), some (vI v2), some (vI v3), some (vI v4), some (vI v5)]) (st' := [vI 3, vI v4]) (u1 := u) [(oL 0 4, 2), (oC 3, 1)] (by decide +kernel) rfl rfl ?_
  refine g_ine (off := 23) (tgt := 70) (pc2 := 50) (by decide +kernel) (by decide) rfl ?_ ?_
  · exact g_jump [true, true, true, false, true, true] rfl (tX10_settles_70 v1 v2 v4 v5 u)
  · refine g_seg0 (pc' := 53) (L' := [some (vR (kO 9) 0), some (vI v1), some (vI v2), some (vI v3), some (vI v4), some (vI v5)]) (st' := [vI v3, vI v5]) (u1 := u) [(oL 0 5, 2), (oL 0 3, 1)] (by decide +kernel) rfl rfl ?_
    refine g_ieq (off := 17) (tgt := 70) (pc2 := 56) (by decide +kernel) (by decide) rfl ?_ ?_
    · exact g_jump [true, true, true, false, true, true] rfl (tX10_settles_70 v1 v2 v4 v5 u)
    · exact g_jump [true, true, true, false, false, false] rfl (tX10_settles_56 v1 v2 u)
def fX10_settles (v1 : Int32) (v2 : Int32) (u : ab_S) : Option (Unit × ab_S) :=
  ab_gd [ab_ix ((v1 + 2) + v2) 1081] (
    (fX10_personOf (u.1 16 (nc ((v1 + 2) + v2))) 0 u).bind fun q1 =>
      (fX10_goodOf v2 1 q1.2).bind fun q2 =>
        bif decide (q1.1 = 1) then (
          (fX10_fitOf v1 (u.1 16 (nc ((v1 + 2) + v2))) v2 q2.2).bind fun q3 =>
            bif decide (q3.1 < 5) then (
              fX10_settles_56 v1 v2 q3.2)
            else (
              fX10_settles_44 v1 v2 (u.1 16 (nc ((v1 + 2) + v2))) q1.1 q2.1 q3.2))
        else (
          fX10_settles_44 v1 v2 (u.1 16 (nc ((v1 + 2) + v2))) q1.1 q2.1 q2.2))
theorem tX10_settles (v1 : Int32) (v2 : Int32) (u : ab_S) : ab_G 1 9 cX10_settles none 4 0 [some (vR (kO 9) 0), some (vI v1), some (vI v2), none, none, none] [] u wV (fX10_settles v1 v2 u) := by
  rw [fX10_settles]
  refine g_seg (pc' := 14) (L' := [some (vR (kO 9) 0), some (vI v1), some (vI v2), some (vI (u.1 16 (nc ((v1 + 2) + v2)))), none, none]) (st' := [vI 0, vI (u.1 16 (nc ((v1 + 2) + v2))), vR (kO 9) 0]) (u1 := u) [(oL 2 0, 1), (oP (.getfield 113), 3), (oL 0 1, 1), (oC 2, 1), (oP .iadd, 1), (oL 0 2, 1), (oP .iadd, 1), (oP .iaload, 1), (oL 3 3, 1), (oL 2 0, 1), (oL 0 3, 1), (oC 0, 1)] (by decide +kernel) rfl rfl ?_
  refine g_callV (k := 279) (pc2 := 17) (st := []) (CX10_personOf (u.1 16 (nc ((v1 + 2) + v2))) 0 u) miX10_personOf mvX10_personOf rfl (by decide) lk9_279 wI_ok (by decide +kernel) rfl (Nat.le_of_ble_eq_true rfl) (by decide) rfl (fun q1 hq1 => ?_)
  refine g_seg0 (pc' := 22) (L' := [some (vR (kO 9) 0), some (vI v1), some (vI v2), some (vI (u.1 16 (nc ((v1 + 2) + v2)))), some (vI (q1.1)), none]) (st' := [vI 1, vI v2, vR (kO 9) 0]) (u1 := q1.2) [(oL 3 4, 2), (oL 2 0, 1), (oL 0 2, 1), (oC 1, 1)] (by decide +kernel) rfl rfl ?_
  refine g_callV (k := 294) (pc2 := 25) (st := []) (CX10_goodOf v2 1 q1.2) miX10_goodOf mvX10_goodOf rfl (by decide) lk9_294 wI_ok (by decide +kernel) rfl (Nat.le_of_ble_eq_true rfl) (by decide) rfl (fun q2 hq2 => ?_)
  refine g_seg0 (pc' := 30) (L' := [some (vR (kO 9) 0), some (vI v1), some (vI v2), some (vI (u.1 16 (nc ((v1 + 2) + v2)))), some (vI (q1.1)), some (vI (q2.1))]) (st' := [vI 1, vI (q1.1)]) (u1 := q2.2) [(oL 3 5, 2), (oL 0 4, 2), (oC 1, 1)] (by decide +kernel) rfl rfl ?_
  refine g_ine (off := 14) (tgt := 44) (pc2 := 33) (by decide +kernel) (by decide) rfl ?_ ?_
  · exact tX10_settles_44 v1 v2 (u.1 16 (nc ((v1 + 2) + v2))) q1.1 q2.1 q2.2
  · refine g_seg0 (pc' := 37) (L' := [some (vR (kO 9) 0), some (vI v1), some (vI v2), some (vI (u.1 16 (nc ((v1 + 2) + v2)))), some (vI (q1.1)), some (vI (q2.1))]) (st' := [vI v2, vI (u.1 16 (nc ((v1 + 2) + v2))), vI v1, vR (kO 9) 0]) (u1 := q2.2) [(oL 2 0, 1), (oL 0 1, 1), (oL 0 3, 1), (oL 0 2, 1)] (by decide +kernel) rfl rfl ?_
    refine g_callV (k := 327) (pc2 := 40) (st := []) (CX10_fitOf v1 (u.1 16 (nc ((v1 + 2) + v2))) v2 q2.2) miX10_fitOf mvX10_fitOf rfl (by decide) lk9_327 wI_ok (by decide +kernel) rfl (Nat.le_of_ble_eq_true rfl) (by decide) rfl (fun q3 hq3 => ?_)
    refine g_seg0 (pc' := 41) (L' := [some (vR (kO 9) 0), some (vI v1), some (vI v2), some (vI (u.1 16 (nc ((v1 + 2) + v2)))), some (vI (q1.1)), some (vI (q2.1))]) (st' := [vI 5, vI (q3.1)]) (u1 := q3.2) [(oC 5, 1)] (by decide +kernel) rfl rfl ?_
    refine g_ilt (off := 15) (tgt := 56) (pc2 := 44) (by decide +kernel) (by decide) rfl ?_ ?_
    · exact g_jump [true, true, true, false, false, false] rfl (tX10_settles_56 v1 v2 q3.2)
    · exact tX10_settles_44 v1 v2 (u.1 16 (nc ((v1 + 2) + v2))) q1.1 q2.1 q3.2
theorem CX10_settles (v1 : Int32) (v2 : Int32) (u : ab_S) : ab_C 1 yX10_settles cX10_settles 6 none 4 [vR (kO 9) 0, vI v1, vI v2] u wV (fX10_settles v1 v2 u) := ab_entry (by decide +kernel) rfl (by decide) (by decide) (fun _ => Nat.le_of_ble_eq_true rfl) rfl (tX10_settles v1 v2 u)
def fX10_passes_111 : Nat → Int32 → Int32 → Int32 → ab_S → Option (Int32 × ab_S)
  | 0, _, _, _, _ => none
  | n + 1, v1, v4, v6, u =>
  (fX10_persons u).bind fun q1 =>
    bif decide (v6 < q1.1) then (
      ab_gd [ab_ix ((v1 + 10) + v6) 1081] (
        bif decide (((q1.2.1 16 (nc ((v1 + 10) + v6))) + 1) ≤ 50) then (
          ab_gd [ab_ix ((v1 + 10) + v6) 1081] (
            (fX10_passes_111 n) v1 v4 (v6 + 1) (sI q1.2 16 (nc ((v1 + 10) + v6)) ((q1.2.1 16 (nc ((v1 + 10) + v6))) + 1))))
        else (
          ab_gd [ab_ix ((v1 + 10) + v6) 1081] (
            (fX10_passes_111 n) v1 v4 (v6 + 1) (sI q1.2 16 (nc ((v1 + 10) + v6)) 50)))))
    else (
      ab_gd [ab_ix (v1 + 0) 1081, ab_ix (v1 + 0) 1081] (
        some (v4, (sI q1.2 16 (nc (v1 + 0)) ((q1.2.1 16 (nc (v1 + 0))) + 1)))))
theorem tX10_passes_111 : ∀ (n : Nat) (v1 : Int32) (v4 : Int32) (v6 : Int32) (u : ab_S), ab_G 1 9 cX10_passes (some .int) 5 111 [some (vR (kO 9) 0), some (vI v1), none, none, some (vI v4), none, some (vI v6), none] [] u wI (fX10_passes_111 n v1 v4 v6 u) := by
  intro n
  induction n with
  | zero => intros; exact g_none
  | succ n ih =>
    intro v1 v4 v6 u
    rw [fX10_passes_111]
    refine g_seg0 (pc' := 114) (L' := [some (vR (kO 9) 0), some (vI v1), none, none, some (vI v4), none, some (vI v6), none]) (st' := [vR (kO 9) 0, vI v6]) (u1 := u) [(oL 0 6, 2), (oL 2 0, 1)] (by decide +kernel) rfl rfl ?_
    refine g_callV (k := 275) (pc2 := 117) (st := [vI v6]) (CX10_persons u) miX10_persons mvX10_persons rfl (by decide) lk9_275 wI_ok (by decide +kernel) rfl (Nat.le_of_ble_eq_true rfl) (by decide) rfl (fun q1 hq1 => ?_)
    refine g_ige (off := 51) (tgt := 168) (pc2 := 120) (by decide +kernel) (by decide) rfl ?_ ?_
    · refine g_seg (pc' := 182) (L' := [some (vR (kO 9) 0), some (vI v1), none, none, some (vI v4), none, some (vI v6), none]) (st' := [vI v4]) (u1 := (sI q1.2 16 (nc (v1 + 0)) ((q1.2.1 16 (nc (v1 + 0))) + 1))) [(oL 2 0, 1), (oP (.getfield 113), 3), (oL 0 1, 1), (oC 0, 1), (oP .iadd, 1), (oP .dup2, 1), (oP .iaload, 1), (oC 1, 1), (oP .iadd, 1), (oP .iastore, 1), (oL 0 4, 2)] (by decide +kernel) rfl rfl ?_
      exact g_iret (by decide +kernel) rfl
    · refine g_seg (pc' := 151) (L' := [some (vR (kO 9) 0), some (vI v1), none, none, some (vI v4), none, some (vI v6), some (vI ((q1.2.1 16 (nc ((v1 + 10) + v6))) + 1))]) (st' := [vI 50, vI ((q1.2.1 16 (nc ((v1 + 10) + v6))) + 1), vI ((v1 + 10) + v6), vR (kA 0 1081) 16]) (u1 := q1.2) [(oL 2 0, 1), (oP (.getfield 113), 3), (oL 0 1, 1), (oC 10, 2), (oP .iadd, 1), (oL 0 6, 2), (oP .iadd, 1), (oP .iaload, 1), (oC 1, 1), (oP .iadd, 1), (oL 3 7, 2), (oL 2 0, 1), (oP (.getfield 113), 3), (oL 0 1, 1), (oC 10, 2), (oP .iadd, 1), (oL 0 6, 2), (oP .iadd, 1), (oL 0 7, 2), (oC 50, 2)] (by decide +kernel) rfl rfl ?_
      refine g_ile (off := 8) (tgt := 159) (pc2 := 154) (by decide +kernel) (by decide) rfl ?_ ?_
      · refine g_seg (pc' := 165) (L' := [some (vR (kO 9) 0), some (vI v1), none, none, some (vI v4), none, some (vI (v6 + 1)), some (vI ((q1.2.1 16 (nc ((v1 + 10) + v6))) + 1))]) (st' := []) (u1 := (sI q1.2 16 (nc ((v1 + 10) + v6)) ((q1.2.1 16 (nc ((v1 + 10) + v6))) + 1))) [(oL 0 7, 2), (oP .iastore, 1), (oN 6 1, 3)] (by decide +kernel) rfl rfl ?_
        refine g_goto (off := (-54)) (tgt := 111) (by decide +kernel) (by decide) ?_
        exact g_jump [true, true, false, false, true, false, true, false] rfl (ih v1 v4 (v6 + 1) (sI q1.2 16 (nc ((v1 + 10) + v6)) ((q1.2.1 16 (nc ((v1 + 10) + v6))) + 1)))
      · refine g_seg0 (pc' := 156) (L' := [some (vR (kO 9) 0), some (vI v1), none, none, some (vI v4), none, some (vI v6), some (vI ((q1.2.1 16 (nc ((v1 + 10) + v6))) + 1))]) (st' := [vI 50, vI ((v1 + 10) + v6), vR (kA 0 1081) 16]) (u1 := q1.2) [(oC 50, 2)] (by decide +kernel) rfl rfl ?_
        refine g_goto (off := 5) (tgt := 161) (by decide +kernel) (by decide) ?_
        refine g_seg (pc' := 165) (L' := [some (vR (kO 9) 0), some (vI v1), none, none, some (vI v4), none, some (vI (v6 + 1)), some (vI ((q1.2.1 16 (nc ((v1 + 10) + v6))) + 1))]) (st' := []) (u1 := (sI q1.2 16 (nc ((v1 + 10) + v6)) 50)) [(oP .iastore, 1), (oN 6 1, 3)] (by decide +kernel) rfl rfl ?_
        refine g_goto (off := (-54)) (tgt := 111) (by decide +kernel) (by decide) ?_
        exact g_jump [true, true, false, false, true, false, true, false] rfl (ih v1 v4 (v6 + 1) (sI q1.2 16 (nc ((v1 + 10) + v6)) 50))
def fX10_passes_77 : Nat → Int32 → Int32 → Int32 → Int32 → ab_S → Option (Int32 × ab_S)
  | 0, _, _, _, _, _ => none
  | n + 1, v1, v2, v4, v6, u =>
  (fX10_goods u).bind fun q2 =>
    bif decide (v6 < q2.1) then (
      bif decide (((v2 >>> (v6 &&& 31)) &&& 1) = 0) then (
        (fX10_settles v1 v6 q2.2).bind fun q3 =>
          (fX10_passes_77 n) v1 v2 v4 (v6 + 1) q3.2)
      else (
        (fX10_passes_77 n) v1 v2 v4 (v6 + 1) q2.2))
    else (
      fX10_passes_111 fu v1 v4 0 q2.2)
theorem tX10_passes_77 : ∀ (n : Nat) (v1 : Int32) (v2 : Int32) (v4 : Int32) (v6 : Int32) (u : ab_S), ab_G 1 9 cX10_passes (some .int) 5 77 [some (vR (kO 9) 0), some (vI v1), some (vI v2), none, some (vI v4), none, some (vI v6), none] [] u wI (fX10_passes_77 n v1 v2 v4 v6 u) := by
  intro n
  induction n with
  | zero => intros; exact g_none
  | succ n ih =>
    intro v1 v2 v4 v6 u
    rw [fX10_passes_77]
    refine g_seg0 (pc' := 80) (L' := [some (vR (kO 9) 0), some (vI v1), some (vI v2), none, some (vI v4), none, some (vI v6), none]) (st' := [vR (kO 9) 0, vI v6]) (u1 := u) [(oL 0 6, 2), (oL 2 0, 1)] (by decide +kernel) rfl rfl ?_
    refine g_callV (k := 291) (pc2 := 83) (st := [vI v6]) (CX10_goods u) miX10_goods mvX10_goods rfl (by decide) lk9_291 wI_ok (by decide +kernel) rfl (Nat.le_of_ble_eq_true rfl) (by decide) rfl (fun q2 hq2 => ?_)
    refine g_ige (off := 25) (tgt := 108) (pc2 := 86) (by decide +kernel) (by decide) rfl ?_ ?_
    · refine g_seg0 (pc' := 111) (L' := [some (vR (kO 9) 0), some (vI v1), some (vI v2), none, some (vI v4), none, some (vI 0), none]) (st' := []) (u1 := q2.2) [(oC 0, 1), (oL 3 6, 2)] (by decide +kernel) rfl rfl ?_
      exact g_jump [true, true, false, false, true, false, true, false] rfl (tX10_passes_111 fu v1 v4 0 q2.2)
    · refine g_seg0 (pc' := 92) (L' := [some (vR (kO 9) 0), some (vI v1), some (vI v2), none, some (vI v4), none, some (vI v6), none]) (st' := [vI ((v2 >>> (v6 &&& 31)) &&& 1)]) (u1 := q2.2) [(oL 0 2, 1), (oL 0 6, 2), (oP .ishr, 1), (oC 1, 1), (oP .iand, 1)] (by decide +kernel) rfl rfl ?_
      refine g_zne (off := 10) (tgt := 102) (pc2 := 95) (by decide +kernel) (by decide) rfl ?_ ?_
      · refine g_seg0 (pc' := 105) (L' := [some (vR (kO 9) 0), some (vI v1), some (vI v2), none, some (vI v4), none, some (vI (v6 + 1)), none]) (st' := []) (u1 := q2.2) [(oN 6 1, 3)] (by decide +kernel) rfl rfl ?_
        refine g_goto (off := (-28)) (tgt := 77) (by decide +kernel) (by decide) ?_
        exact ih v1 v2 v4 (v6 + 1) q2.2
      · refine g_seg0 (pc' := 99) (L' := [some (vR (kO 9) 0), some (vI v1), some (vI v2), none, some (vI v4), none, some (vI v6), none]) (st' := [vI v6, vI v1, vR (kO 9) 0]) (u1 := q2.2) [(oL 2 0, 1), (oL 0 1, 1), (oL 0 6, 2)] (by decide +kernel) rfl rfl ?_
        refine g_callV (k := 339) (pc2 := 102) (st := []) (CX10_settles v1 v6 q2.2) miX10_settles mvX10_settles rfl (by decide) lk9_339 wV_ok (by decide +kernel) rfl (Nat.le_of_ble_eq_true rfl) (by decide) rfl (fun q3 hq3 => ?_)
        refine g_seg0 (pc' := 105) (L' := [some (vR (kO 9) 0), some (vI v1), some (vI v2), none, some (vI v4), none, some (vI (v6 + 1)), none]) (st' := []) (u1 := q3.2) [(oN 6 1, 3)] (by decide +kernel) rfl rfl ?_
        refine g_goto (off := (-28)) (tgt := 77) (by decide +kernel) (by decide) ?_
        exact ih v1 v2 v4 (v6 + 1) q3.2
def fX10_passes_33 : Nat → Int32 → Int32 → Int32 → Int32 → ab_S → Option (Int32 × ab_S)
  | 0, _, _, _, _, _ => none
  | n + 1, v1, v2, v3, v5, u =>
  bif decide (((v2 >>> (v5 &&& 31)) &&& 1) = 0) then (
    (fX10_passes_33 n) v1 v2 v3 (v5 + 1) u)
  else (
    (fX10_draw v1 v3 u).bind fun q4 =>
      (fX10_ownerOf v1 q4.1 q4.2).bind fun q5 =>
        ab_gd [ab_ix ((v1 + 2) + v5) 1081] (
          fX10_passes_77 fu v1 v2 q5.1 0 (sI q5.2 16 (nc ((v1 + 2) + v5)) q5.1)))
theorem tX10_passes_33 : ∀ (n : Nat) (v1 : Int32) (v2 : Int32) (v3 : Int32) (v5 : Int32) (u : ab_S), ab_G 1 9 cX10_passes (some .int) 5 33 [some (vR (kO 9) 0), some (vI v1), some (vI v2), some (vI v3), none, some (vI v5), none, none] [] u wI (fX10_passes_33 n v1 v2 v3 v5 u) := by
  intro n
  induction n with
  | zero => intros; exact g_none
  | succ n ih =>
    intro v1 v2 v3 v5 u
    rw [fX10_passes_33]
    refine g_seg0 (pc' := 39) (L' := [some (vR (kO 9) 0), some (vI v1), some (vI v2), some (vI v3), none, some (vI v5), none, none]) (st' := [vI ((v2 >>> (v5 &&& 31)) &&& 1)]) (u1 := u) [(oL 0 2, 1), (oL 0 5, 2), (oP .ishr, 1), (oC 1, 1), (oP .iand, 1)] (by decide +kernel) rfl rfl ?_
    refine g_zne (off := 9) (tgt := 48) (pc2 := 42) (by decide +kernel) (by decide) rfl ?_ ?_
    · refine g_seg0 (pc' := 53) (L' := [some (vR (kO 9) 0), some (vI v1), some (vI v2), some (vI v3), none, some (vI v5), none, none]) (st' := [vI v3, vI v1, vR (kO 9) 0, vI v1, vR (kO 9) 0]) (u1 := u) [(oL 2 0, 1), (oL 0 1, 1), (oL 2 0, 1), (oL 0 1, 1), (oL 0 3, 1)] (by decide +kernel) rfl rfl ?_
      refine g_callV (k := 333) (pc2 := 56) (st := [vI v1, vR (kO 9) 0]) (CX10_draw v1 v3 u) miX10_draw mvX10_draw rfl (by decide) lk9_333 wI_ok (by decide +kernel) rfl (Nat.le_of_ble_eq_true rfl) (by decide) rfl (fun q4 hq4 => ?_)
      refine g_callV (k := 336) (pc2 := 59) (st := []) (CX10_ownerOf v1 q4.1 q4.2) miX10_ownerOf mvX10_ownerOf rfl (by decide) lk9_336 wI_ok (by decide +kernel) rfl (Nat.le_of_ble_eq_true rfl) (by decide) rfl (fun q5 hq5 => ?_)
      refine g_seg (pc' := 77) (L' := [some (vR (kO 9) 0), some (vI v1), some (vI v2), some (vI v3), some (vI (q5.1)), some (vI v5), some (vI 0), none]) (st' := []) (u1 := (sI q5.2 16 (nc ((v1 + 2) + v5)) q5.1)) [(oL 3 4, 2), (oL 2 0, 1), (oP (.getfield 113), 3), (oL 0 1, 1), (oC 2, 1), (oP .iadd, 1), (oL 0 5, 2), (oP .iadd, 1), (oL 0 4, 2), (oP .iastore, 1), (oC 0, 1), (oL 3 6, 2)] (by decide +kernel) rfl rfl ?_
      exact g_jump [true, true, true, false, true, false, true, false] rfl (tX10_passes_77 fu v1 v2 q5.1 0 (sI q5.2 16 (nc ((v1 + 2) + v5)) q5.1))
    · refine g_seg0 (pc' := 45) (L' := [some (vR (kO 9) 0), some (vI v1), some (vI v2), some (vI v3), none, some (vI (v5 + 1)), none, none]) (st' := []) (u1 := u) [(oN 5 1, 3)] (by decide +kernel) rfl rfl ?_
      refine g_goto (off := (-12)) (tgt := 33) (by decide +kernel) (by decide) ?_
      exact ih v1 v2 v3 (v5 + 1) u
def fX10_passes (v1 : Int32) (u : ab_S) : Option (Int32 × ab_S) :=
  (fX10_heldBy v1 (-1) u).bind fun q6 =>
    (fX10_sumOf (v1 + 16) q6.2).bind fun q7 =>
      bif decide (q6.1 = 0) then (
        fX10_passes_77 fu v1 q6.1 (-1) 0 q7.2)
      else (
        bif decide (q7.1 ≤ 0) then (
          fX10_passes_77 fu v1 q6.1 (-1) 0 q7.2)
        else (
          fX10_passes_33 fu v1 q6.1 q7.1 0 q7.2))
theorem tX10_passes (v1 : Int32) (u : ab_S) : ab_G 1 9 cX10_passes (some .int) 5 0 [some (vR (kO 9) 0), some (vI v1), none, none, none, none, none, none] [] u wI (fX10_passes v1 u) := by
  rw [fX10_passes]
  refine g_seg0 (pc' := 3) (L' := [some (vR (kO 9) 0), some (vI v1), none, none, none, none, none, none]) (st' := [vI (-1), vI v1, vR (kO 9) 0]) (u1 := u) [(oL 2 0, 1), (oL 0 1, 1), (oC (-1), 1)] (by decide +kernel) rfl rfl ?_
  refine g_callV (k := 300) (pc2 := 6) (st := []) (CX10_heldBy v1 (-1) u) miX10_heldBy mvX10_heldBy rfl (by decide) lk9_300 wI_ok (by decide +kernel) rfl (Nat.le_of_ble_eq_true rfl) (by decide) rfl (fun q6 hq6 => ?_)
  refine g_seg0 (pc' := 12) (L' := [some (vR (kO 9) 0), some (vI v1), some (vI (q6.1)), none, none, none, none, none]) (st' := [vI (v1 + 16), vR (kO 9) 0]) (u1 := q6.2) [(oL 3 2, 1), (oL 2 0, 1), (oL 0 1, 1), (oC 16, 2), (oP .iadd, 1)] (by decide +kernel) rfl rfl ?_
  refine g_callV (k := 330) (pc2 := 15) (st := []) (CX10_sumOf (v1 + 16) q6.2) miX10_sumOf mvX10_sumOf rfl (by decide) lk9_330 wI_ok (by decide +kernel) rfl (Nat.le_of_ble_eq_true rfl) (by decide) rfl (fun q7 hq7 => ?_)
  refine g_seg0 (pc' := 23) (L' := [some (vR (kO 9) 0), some (vI v1), some (vI (q6.1)), some (vI (q7.1)), some (vI (-1)), some (vI (-1)), none, none]) (st' := [vI (q6.1)]) (u1 := q7.2) [(oL 3 3, 1), (oC (-1), 1), (oL 3 4, 2), (oC (-1), 1), (oL 3 5, 2), (oL 0 2, 1)] (by decide +kernel) rfl rfl ?_
  refine g_zeq (off := 51) (tgt := 74) (pc2 := 26) (by decide +kernel) (by decide) rfl ?_ ?_
  · refine g_seg0 (pc' := 77) (L' := [some (vR (kO 9) 0), some (vI v1), some (vI (q6.1)), some (vI (q7.1)), some (vI (-1)), some (vI (-1)), some (vI 0), none]) (st' := []) (u1 := q7.2) [(oC 0, 1), (oL 3 6, 2)] (by decide +kernel) rfl rfl ?_
    exact g_jump [true, true, true, false, true, false, true, false] rfl (tX10_passes_77 fu v1 q6.1 (-1) 0 q7.2)
  · refine g_seg0 (pc' := 27) (L' := [some (vR (kO 9) 0), some (vI v1), some (vI (q6.1)), some (vI (q7.1)), some (vI (-1)), some (vI (-1)), none, none]) (st' := [vI (q7.1)]) (u1 := q7.2) [(oL 0 3, 1)] (by decide +kernel) rfl rfl ?_
    refine g_zle (off := 47) (tgt := 74) (pc2 := 30) (by decide +kernel) (by decide) rfl ?_ ?_
    · refine g_seg0 (pc' := 77) (L' := [some (vR (kO 9) 0), some (vI v1), some (vI (q6.1)), some (vI (q7.1)), some (vI (-1)), some (vI (-1)), some (vI 0), none]) (st' := []) (u1 := q7.2) [(oC 0, 1), (oL 3 6, 2)] (by decide +kernel) rfl rfl ?_
      exact g_jump [true, true, true, false, true, false, true, false] rfl (tX10_passes_77 fu v1 q6.1 (-1) 0 q7.2)
    · refine g_seg0 (pc' := 33) (L' := [some (vR (kO 9) 0), some (vI v1), some (vI (q6.1)), some (vI (q7.1)), some (vI (-1)), some (vI 0), none, none]) (st' := []) (u1 := q7.2) [(oC 0, 1), (oL 3 5, 2)] (by decide +kernel) rfl rfl ?_
      exact g_jump [true, true, true, true, false, true, false, false] rfl (tX10_passes_33 fu v1 q6.1 q7.1 0 q7.2)
theorem CX10_passes (v1 : Int32) (u : ab_S) : ab_C 1 yX10_passes cX10_passes 8 (some .int) 5 [vR (kO 9) 0, vI v1] u wI (fX10_passes v1 u) := ab_entry (by decide +kernel) rfl (by decide) (by decide) (fun _ => Nat.le_of_ble_eq_true rfl) rfl (tX10_passes v1 u)
def fX10_person (v1 : Int32) (v2 : Int32) (u : ab_S) : Option (Int32 × ab_S) :=
  (fX10_isPerson v1 (sI u 0 0 0)).bind fun q1 =>
    bif decide (q1.1 = 0) then (
      some ((-1), q1.2))
    else (
      (fX10_within v2 0 3 q1.2).bind fun q2 =>
        bif decide (q2.1 = 0) then (
          some ((-1), q2.2))
        else (
          bif decide (v2 = 0) then (
            (fX10_personOf v1 0 q2.2).bind fun q4 =>
              some (q4.1, q4.2))
          else (
            bif decide (v2 = 1) then (
              ab_gd [ab_ix (10 + v1) 1081] (
                some ((q2.2.1 16 (nc (10 + v1))), q2.2)))
            else (
              bif decide (v2 = 2) then (
                ab_gd [ab_ix (16 + v1) 1081] (
                  some ((q2.2.1 16 (nc (16 + v1))), q2.2)))
              else (
                (fX10_heldBy 0 v1 q2.2).bind fun q3 =>
                  some (q3.1, q3.2))))))
theorem tX10_person (v1 : Int32) (v2 : Int32) (u : ab_S) : ab_G 1 9 cX10_person (some .int) 2 0 [some (vR (kO 9) 0), some (vI v1), some (vI v2)] [] u wI (fX10_person v1 v2 u) := by
  rw [fX10_person]
  refine g_seg0 (pc' := 7) (L' := [some (vR (kO 9) 0), some (vI v1), some (vI v2)]) (st' := [vI v1, vR (kO 9) 0]) (u1 := (sI u 0 0 0)) [(oL 2 0, 1), (oC 0, 1), (oP (.putfield 1), 3), (oL 2 0, 1), (oL 0 1, 1)] (by decide +kernel) rfl rfl ?_
  refine g_callV (k := 342) (pc2 := 10) (st := []) (CX10_isPerson v1 (sI u 0 0 0)) miX10_isPerson mvX10_isPerson rfl (by decide) lk9_342 wI_ok (by decide +kernel) rfl (Nat.le_of_ble_eq_true rfl) (by decide) rfl (fun q1 hq1 => ?_)
  refine g_zeq (off := 12) (tgt := 22) (pc2 := 13) (by decide +kernel) (by decide) rfl ?_ ?_
  · refine g_seg0 (pc' := 23) (L' := [some (vR (kO 9) 0), some (vI v1), some (vI v2)]) (st' := [vI (-1)]) (u1 := q1.2) [(oC (-1), 1)] (by decide +kernel) rfl rfl ?_
    exact g_iret (by decide +kernel) rfl
  · refine g_seg0 (pc' := 16) (L' := [some (vR (kO 9) 0), some (vI v1), some (vI v2)]) (st' := [vI 3, vI 0, vI v2]) (u1 := q1.2) [(oL 0 2, 1), (oC 0, 1), (oC 3, 1)] (by decide +kernel) rfl rfl ?_
    refine g_callS (k := 207) (pc2 := 19) (st := []) (CX10_within v2 0 3 q1.2) miX10_within msX10_within lk9_207 wI_ok (by decide +kernel) rfl (Nat.le_of_ble_eq_true rfl) (by decide) rfl (fun q2 hq2 => ?_)
    refine g_zne (off := 5) (tgt := 24) (pc2 := 22) (by decide +kernel) (by decide) rfl ?_ ?_
    · refine g_seg0 (pc' := 25) (L' := [some (vR (kO 9) 0), some (vI v1), some (vI v2)]) (st' := [vI v2]) (u1 := q2.2) [(oL 0 2, 1)] (by decide +kernel) rfl rfl ?_
      refine g_zne (off := 12) (tgt := 37) (pc2 := 28) (by decide +kernel) (by decide) rfl ?_ ?_
      · refine g_seg0 (pc' := 39) (L' := [some (vR (kO 9) 0), some (vI v1), some (vI v2)]) (st' := [vI 1, vI v2]) (u1 := q2.2) [(oL 0 2, 1), (oC 1, 1)] (by decide +kernel) rfl rfl ?_
        refine g_ine (off := 15) (tgt := 54) (pc2 := 42) (by decide +kernel) (by decide) rfl ?_ ?_
        · refine g_seg0 (pc' := 56) (L' := [some (vR (kO 9) 0), some (vI v1), some (vI v2)]) (st' := [vI 2, vI v2]) (u1 := q2.2) [(oL 0 2, 1), (oC 2, 1)] (by decide +kernel) rfl rfl ?_
          refine g_ine (off := 15) (tgt := 71) (pc2 := 59) (by decide +kernel) (by decide) rfl ?_ ?_
          · refine g_seg0 (pc' := 74) (L' := [some (vR (kO 9) 0), some (vI v1), some (vI v2)]) (st' := [vI v1, vI 0, vR (kO 9) 0]) (u1 := q2.2) [(oL 2 0, 1), (oC 0, 1), (oL 0 1, 1)] (by decide +kernel) rfl rfl ?_
            refine g_callV (k := 300) (pc2 := 77) (st := []) (CX10_heldBy 0 v1 q2.2) miX10_heldBy mvX10_heldBy rfl (by decide) lk9_300 wI_ok (by decide +kernel) rfl (Nat.le_of_ble_eq_true rfl) (by decide) rfl (fun q3 hq3 => ?_)
            exact g_iret (by decide +kernel) rfl
          · refine g_seg (pc' := 68) (L' := [some (vR (kO 9) 0), some (vI v1), some (vI v2)]) (st' := [vI (q2.2.1 16 (nc (16 + v1)))]) (u1 := q2.2) [(oL 2 0, 1), (oP (.getfield 113), 3), (oC 16, 2), (oL 0 1, 1), (oP .iadd, 1), (oP .iaload, 1)] (by decide +kernel) rfl rfl ?_
            refine g_goto (off := 9) (tgt := 77) (by decide +kernel) (by decide) ?_
            exact g_iret (by decide +kernel) rfl
        · refine g_seg (pc' := 51) (L' := [some (vR (kO 9) 0), some (vI v1), some (vI v2)]) (st' := [vI (q2.2.1 16 (nc (10 + v1)))]) (u1 := q2.2) [(oL 2 0, 1), (oP (.getfield 113), 3), (oC 10, 2), (oL 0 1, 1), (oP .iadd, 1), (oP .iaload, 1)] (by decide +kernel) rfl rfl ?_
          refine g_goto (off := 26) (tgt := 77) (by decide +kernel) (by decide) ?_
          exact g_iret (by decide +kernel) rfl
      · refine g_seg0 (pc' := 31) (L' := [some (vR (kO 9) 0), some (vI v1), some (vI v2)]) (st' := [vI 0, vI v1, vR (kO 9) 0]) (u1 := q2.2) [(oL 2 0, 1), (oL 0 1, 1), (oC 0, 1)] (by decide +kernel) rfl rfl ?_
        refine g_callV (k := 279) (pc2 := 34) (st := []) (CX10_personOf v1 0 q2.2) miX10_personOf mvX10_personOf rfl (by decide) lk9_279 wI_ok (by decide +kernel) rfl (Nat.le_of_ble_eq_true rfl) (by decide) rfl (fun q4 hq4 => ?_)
        refine g_goto (off := 43) (tgt := 77) (by decide +kernel) (by decide) ?_
        exact g_iret (by decide +kernel) rfl
    · refine g_seg0 (pc' := 23) (L' := [some (vR (kO 9) 0), some (vI v1), some (vI v2)]) (st' := [vI (-1)]) (u1 := q2.2) [(oC (-1), 1)] (by decide +kernel) rfl rfl ?_
      exact g_iret (by decide +kernel) rfl
theorem CX10_person (v1 : Int32) (v2 : Int32) (u : ab_S) : ab_C 1 yX10_person cX10_person 3 (some .int) 2 [vR (kO 9) 0, vI v1, vI v2] u wI (fX10_person v1 v2 u) := ab_entry (by decide +kernel) rfl (by decide) (by decide) (fun _ => Nat.le_of_ble_eq_true rfl) rfl (tX10_person v1 v2 u)
def fX10_good (v1 : Int32) (v2 : Int32) (u : ab_S) : Option (Int32 × ab_S) :=
  (fX10_isGood v1 (sI u 0 0 0)).bind fun q1 =>
    bif decide (q1.1 = 0) then (
      some ((-2), q1.2))
    else (
      (fX10_within v2 0 2 q1.2).bind fun q2 =>
        bif decide (q2.1 = 0) then (
          some ((-2), q2.2))
        else (
          bif decide (v2 = 2) then (
            ab_gd [ab_ix (2 + v1) 1081] (
              some ((q2.2.1 16 (nc (2 + v1))), q2.2)))
          else (
            (fX10_goodOf v1 v2 q2.2).bind fun q3 =>
              some (q3.1, q3.2))))
theorem tX10_good (v1 : Int32) (v2 : Int32) (u : ab_S) : ab_G 1 9 cX10_good (some .int) 2 0 [some (vR (kO 9) 0), some (vI v1), some (vI v2)] [] u wI (fX10_good v1 v2 u) := by
  rw [fX10_good]
  refine g_seg0 (pc' := 7) (L' := [some (vR (kO 9) 0), some (vI v1), some (vI v2)]) (st' := [vI v1, vR (kO 9) 0]) (u1 := (sI u 0 0 0)) [(oL 2 0, 1), (oC 0, 1), (oP (.putfield 1), 3), (oL 2 0, 1), (oL 0 1, 1)] (by decide +kernel) rfl rfl ?_
  refine g_callV (k := 345) (pc2 := 10) (st := []) (CX10_isGood v1 (sI u 0 0 0)) miX10_isGood mvX10_isGood rfl (by decide) lk9_345 wI_ok (by decide +kernel) rfl (Nat.le_of_ble_eq_true rfl) (by decide) rfl (fun q1 hq1 => ?_)
  refine g_zeq (off := 12) (tgt := 22) (pc2 := 13) (by decide +kernel) (by decide) rfl ?_ ?_
  · refine g_seg0 (pc' := 24) (L' := [some (vR (kO 9) 0), some (vI v1), some (vI v2)]) (st' := [vI (-2)]) (u1 := q1.2) [(oC (-2), 2)] (by decide +kernel) rfl rfl ?_
    exact g_iret (by decide +kernel) rfl
  · refine g_seg0 (pc' := 16) (L' := [some (vR (kO 9) 0), some (vI v1), some (vI v2)]) (st' := [vI 2, vI 0, vI v2]) (u1 := q1.2) [(oL 0 2, 1), (oC 0, 1), (oC 2, 1)] (by decide +kernel) rfl rfl ?_
    refine g_callS (k := 207) (pc2 := 19) (st := []) (CX10_within v2 0 2 q1.2) miX10_within msX10_within lk9_207 wI_ok (by decide +kernel) rfl (Nat.le_of_ble_eq_true rfl) (by decide) rfl (fun q2 hq2 => ?_)
    refine g_zne (off := 6) (tgt := 25) (pc2 := 22) (by decide +kernel) (by decide) rfl ?_ ?_
    · refine g_seg0 (pc' := 27) (L' := [some (vR (kO 9) 0), some (vI v1), some (vI v2)]) (st' := [vI 2, vI v2]) (u1 := q2.2) [(oL 0 2, 1), (oC 2, 1)] (by decide +kernel) rfl rfl ?_
      refine g_ine (off := 14) (tgt := 41) (pc2 := 30) (by decide +kernel) (by decide) rfl ?_ ?_
      · refine g_seg0 (pc' := 44) (L' := [some (vR (kO 9) 0), some (vI v1), some (vI v2)]) (st' := [vI v2, vI v1, vR (kO 9) 0]) (u1 := q2.2) [(oL 2 0, 1), (oL 0 1, 1), (oL 0 2, 1)] (by decide +kernel) rfl rfl ?_
        refine g_callV (k := 294) (pc2 := 47) (st := []) (CX10_goodOf v1 v2 q2.2) miX10_goodOf mvX10_goodOf rfl (by decide) lk9_294 wI_ok (by decide +kernel) rfl (Nat.le_of_ble_eq_true rfl) (by decide) rfl (fun q3 hq3 => ?_)
        exact g_iret (by decide +kernel) rfl
      · refine g_seg (pc' := 38) (L' := [some (vR (kO 9) 0), some (vI v1), some (vI v2)]) (st' := [vI (q2.2.1 16 (nc (2 + v1)))]) (u1 := q2.2) [(oL 2 0, 1), (oP (.getfield 113), 3), (oC 2, 1), (oL 0 1, 1), (oP .iadd, 1), (oP .iaload, 1)] (by decide +kernel) rfl rfl ?_
        refine g_goto (off := 9) (tgt := 47) (by decide +kernel) (by decide) ?_
        exact g_iret (by decide +kernel) rfl
    · refine g_seg0 (pc' := 24) (L' := [some (vR (kO 9) 0), some (vI v1), some (vI v2)]) (st' := [vI (-2)]) (u1 := q2.2) [(oC (-2), 2)] (by decide +kernel) rfl rfl ?_
      exact g_iret (by decide +kernel) rfl
theorem CX10_good (v1 : Int32) (v2 : Int32) (u : ab_S) : ab_C 1 yX10_good cX10_good 3 (some .int) 2 [vR (kO 9) 0, vI v1, vI v2] u wI (fX10_good v1 v2 u) := ab_entry (by decide +kernel) rfl (by decide) (by decide) (fun _ => Nat.le_of_ble_eq_true rfl) rfl (tX10_good v1 v2 u)
def fX10_fit (v1 : Int32) (v2 : Int32) (u : ab_S) : Option (Int32 × ab_S) :=
  (fX10_isPerson v1 (sI u 0 0 0)).bind fun q1 =>
    bif decide (q1.1 = 0) then (
      some ((-1), q1.2))
    else (
      (fX10_isGood v2 q1.2).bind fun q2 =>
        bif decide (q2.1 = 0) then (
          some ((-1), q2.2))
        else (
          (fX10_fitOf 0 v1 v2 q2.2).bind fun q3 =>
            some (q3.1, q3.2)))
theorem tX10_fit (v1 : Int32) (v2 : Int32) (u : ab_S) : ab_G 1 9 cX10_fit (some .int) 4 0 [some (vR (kO 9) 0), some (vI v1), some (vI v2)] [] u wI (fX10_fit v1 v2 u) := by
  rw [fX10_fit]
  refine g_seg0 (pc' := 7) (L' := [some (vR (kO 9) 0), some (vI v1), some (vI v2)]) (st' := [vI v1, vR (kO 9) 0]) (u1 := (sI u 0 0 0)) [(oL 2 0, 1), (oC 0, 1), (oP (.putfield 1), 3), (oL 2 0, 1), (oL 0 1, 1)] (by decide +kernel) rfl rfl ?_
  refine g_callV (k := 342) (pc2 := 10) (st := []) (CX10_isPerson v1 (sI u 0 0 0)) miX10_isPerson mvX10_isPerson rfl (by decide) lk9_342 wI_ok (by decide +kernel) rfl (Nat.le_of_ble_eq_true rfl) (by decide) rfl (fun q1 hq1 => ?_)
  refine g_zeq (off := 21) (tgt := 31) (pc2 := 13) (by decide +kernel) (by decide) rfl ?_ ?_
  · refine g_seg0 (pc' := 32) (L' := [some (vR (kO 9) 0), some (vI v1), some (vI v2)]) (st' := [vI (-1)]) (u1 := q1.2) [(oC (-1), 1)] (by decide +kernel) rfl rfl ?_
    exact g_iret (by decide +kernel) rfl
  · refine g_seg0 (pc' := 15) (L' := [some (vR (kO 9) 0), some (vI v1), some (vI v2)]) (st' := [vI v2, vR (kO 9) 0]) (u1 := q1.2) [(oL 2 0, 1), (oL 0 2, 1)] (by decide +kernel) rfl rfl ?_
    refine g_callV (k := 345) (pc2 := 18) (st := []) (CX10_isGood v2 q1.2) miX10_isGood mvX10_isGood rfl (by decide) lk9_345 wI_ok (by decide +kernel) rfl (Nat.le_of_ble_eq_true rfl) (by decide) rfl (fun q2 hq2 => ?_)
    refine g_zeq (off := 13) (tgt := 31) (pc2 := 21) (by decide +kernel) (by decide) rfl ?_ ?_
    · refine g_seg0 (pc' := 32) (L' := [some (vR (kO 9) 0), some (vI v1), some (vI v2)]) (st' := [vI (-1)]) (u1 := q2.2) [(oC (-1), 1)] (by decide +kernel) rfl rfl ?_
      exact g_iret (by decide +kernel) rfl
    · refine g_seg0 (pc' := 25) (L' := [some (vR (kO 9) 0), some (vI v1), some (vI v2)]) (st' := [vI v2, vI v1, vI 0, vR (kO 9) 0]) (u1 := q2.2) [(oL 2 0, 1), (oC 0, 1), (oL 0 1, 1), (oL 0 2, 1)] (by decide +kernel) rfl rfl ?_
      refine g_callV (k := 327) (pc2 := 28) (st := []) (CX10_fitOf 0 v1 v2 q2.2) miX10_fitOf mvX10_fitOf rfl (by decide) lk9_327 wI_ok (by decide +kernel) rfl (Nat.le_of_ble_eq_true rfl) (by decide) rfl (fun q3 hq3 => ?_)
      refine g_goto (off := 4) (tgt := 32) (by decide +kernel) (by decide) ?_
      exact g_iret (by decide +kernel) rfl
theorem CX10_fit (v1 : Int32) (v2 : Int32) (u : ab_S) : ab_C 1 yX10_fit cX10_fit 3 (some .int) 4 [vR (kO 9) 0, vI v1, vI v2] u wI (fX10_fit v1 v2 u) := ab_entry (by decide +kernel) rfl (by decide) (by decide) (fun _ => Nat.le_of_ble_eq_true rfl) rfl (tX10_fit v1 v2 u)
def fX10_buy (v1 : Int32) (u : ab_S) : Option (Int32 × ab_S) :=
  (fX10_isPerson v1 (sI u 0 0 0)).bind fun q1 =>
    bif decide (q1.1 = 0) then (
      some ((-1), q1.2))
    else (
      (fX10_mayBuy 0 v1 q1.2).bind fun q2 =>
        bif decide (q2.1 = 0) then (
          some ((-1), q2.2))
        else (
          (fX10_keeps q2.2).bind fun q3 =>
            (fX10_buys 0 v1 q3.2).bind fun q4 =>
              ab_gd [ab_ix (16 + v1) 1081] (
                some ((q4.2.1 16 (nc (16 + v1))), q4.2))))
theorem tX10_buy (v1 : Int32) (u : ab_S) : ab_G 1 9 cX10_buy (some .int) 2 0 [some (vR (kO 9) 0), some (vI v1)] [] u wI (fX10_buy v1 u) := by
  rw [fX10_buy]
  refine g_seg0 (pc' := 7) (L' := [some (vR (kO 9) 0), some (vI v1)]) (st' := [vI v1, vR (kO 9) 0]) (u1 := (sI u 0 0 0)) [(oL 2 0, 1), (oC 0, 1), (oP (.putfield 1), 3), (oL 2 0, 1), (oL 0 1, 1)] (by decide +kernel) rfl rfl ?_
  refine g_callV (k := 342) (pc2 := 10) (st := []) (CX10_isPerson v1 (sI u 0 0 0)) miX10_isPerson mvX10_isPerson rfl (by decide) lk9_342 wI_ok (by decide +kernel) rfl (Nat.le_of_ble_eq_true rfl) (by decide) rfl (fun q1 hq1 => ?_)
  refine g_zeq (off := 12) (tgt := 22) (pc2 := 13) (by decide +kernel) (by decide) rfl ?_ ?_
  · refine g_seg0 (pc' := 23) (L' := [some (vR (kO 9) 0), some (vI v1)]) (st' := [vI (-1)]) (u1 := q1.2) [(oC (-1), 1)] (by decide +kernel) rfl rfl ?_
    exact g_iret (by decide +kernel) rfl
  · refine g_seg0 (pc' := 16) (L' := [some (vR (kO 9) 0), some (vI v1)]) (st' := [vI v1, vI 0, vR (kO 9) 0]) (u1 := q1.2) [(oL 2 0, 1), (oC 0, 1), (oL 0 1, 1)] (by decide +kernel) rfl rfl ?_
    refine g_callV (k := 348) (pc2 := 19) (st := []) (CX10_mayBuy 0 v1 q1.2) miX10_mayBuy mvX10_mayBuy rfl (by decide) lk9_348 wI_ok (by decide +kernel) rfl (Nat.le_of_ble_eq_true rfl) (by decide) rfl (fun q2 hq2 => ?_)
    refine g_zne (off := 5) (tgt := 24) (pc2 := 22) (by decide +kernel) (by decide) rfl ?_ ?_
    · refine g_seg0 (pc' := 25) (L' := [some (vR (kO 9) 0), some (vI v1)]) (st' := [vR (kO 9) 0]) (u1 := q2.2) [(oL 2 0, 1)] (by decide +kernel) rfl rfl ?_
      refine g_callV (k := 352) (pc2 := 28) (st := []) (CX10_keeps q2.2) miX10_keeps mvX10_keeps rfl (by decide) lk9_352 wV_ok (by decide +kernel) rfl (Nat.le_of_ble_eq_true rfl) (by decide) rfl (fun q3 hq3 => ?_)
      refine g_seg0 (pc' := 31) (L' := [some (vR (kO 9) 0), some (vI v1)]) (st' := [vI v1, vI 0, vR (kO 9) 0]) (u1 := q3.2) [(oL 2 0, 1), (oC 0, 1), (oL 0 1, 1)] (by decide +kernel) rfl rfl ?_
      refine g_callV (k := 355) (pc2 := 34) (st := []) (CX10_buys 0 v1 q3.2) miX10_buys mvX10_buys rfl (by decide) lk9_355 wV_ok (by decide +kernel) rfl (Nat.le_of_ble_eq_true rfl) (by decide) rfl (fun q4 hq4 => ?_)
      refine g_seg (pc' := 43) (L' := [some (vR (kO 9) 0), some (vI v1)]) (st' := [vI (q4.2.1 16 (nc (16 + v1)))]) (u1 := q4.2) [(oL 2 0, 1), (oP (.getfield 113), 3), (oC 16, 2), (oL 0 1, 1), (oP .iadd, 1), (oP .iaload, 1)] (by decide +kernel) rfl rfl ?_
      exact g_iret (by decide +kernel) rfl
    · refine g_seg0 (pc' := 23) (L' := [some (vR (kO 9) 0), some (vI v1)]) (st' := [vI (-1)]) (u1 := q2.2) [(oC (-1), 1)] (by decide +kernel) rfl rfl ?_
      exact g_iret (by decide +kernel) rfl
theorem CX10_buy (v1 : Int32) (u : ab_S) : ab_C 1 yX10_buy cX10_buy 2 (some .int) 2 [vR (kO 9) 0, vI v1] u wI (fX10_buy v1 u) := ab_entry (by decide +kernel) rfl (by decide) (by decide) (fun _ => Nat.le_of_ble_eq_true rfl) rfl (tX10_buy v1 u)
def fX10_swap (v1 : Int32) (v2 : Int32) (u : ab_S) : Option (Int32 × ab_S) :=
  (fX10_isGood v1 (sI u 0 0 0)).bind fun q1 =>
    bif decide (q1.1 = 0) then (
      ab_gd [ab_b1 0] (some (0, q1.2)))
    else (
      (fX10_isGood v2 q1.2).bind fun q2 =>
        bif decide (q2.1 = 0) then (
          ab_gd [ab_b1 0] (some (0, q2.2)))
        else (
          bif decide (v1 = v2) then (
            ab_gd [ab_b1 0] (some (0, q2.2)))
          else (
            (fX10_maySwap 0 v1 v2 q2.2).bind fun q3 =>
              bif decide (q3.1 = 0) then (
                ab_gd [ab_b1 0] (some (0, q3.2)))
              else (
                (fX10_keeps q3.2).bind fun q4 =>
                  (fX10_swaps 0 v1 v2 q4.2).bind fun q5 =>
                    ab_gd [ab_b1 1] (some (1, q5.2))))))
theorem tX10_swap (v1 : Int32) (v2 : Int32) (u : ab_S) : ab_G 1 9 cX10_swap (some .boolean) 5 0 [some (vR (kO 9) 0), some (vI v1), some (vI v2)] [] u wI (fX10_swap v1 v2 u) := by
  rw [fX10_swap]
  refine g_seg0 (pc' := 7) (L' := [some (vR (kO 9) 0), some (vI v1), some (vI v2)]) (st' := [vI v1, vR (kO 9) 0]) (u1 := (sI u 0 0 0)) [(oL 2 0, 1), (oC 0, 1), (oP (.putfield 1), 3), (oL 2 0, 1), (oL 0 1, 1)] (by decide +kernel) rfl rfl ?_
  refine g_callV (k := 345) (pc2 := 10) (st := []) (CX10_isGood v1 (sI u 0 0 0)) miX10_isGood mvX10_isGood rfl (by decide) lk9_345 wI_ok (by decide +kernel) rfl (Nat.le_of_ble_eq_true rfl) (by decide) rfl (fun q1 hq1 => ?_)
  refine g_zeq (off := 26) (tgt := 36) (pc2 := 13) (by decide +kernel) (by decide) rfl ?_ ?_
  · refine g_seg0 (pc' := 37) (L' := [some (vR (kO 9) 0), some (vI v1), some (vI v2)]) (st' := [vI 0]) (u1 := q1.2) [(oC 0, 1)] (by decide +kernel) rfl rfl ?_
    exact g_zret (by decide +kernel) rfl
  · refine g_seg0 (pc' := 15) (L' := [some (vR (kO 9) 0), some (vI v1), some (vI v2)]) (st' := [vI v2, vR (kO 9) 0]) (u1 := q1.2) [(oL 2 0, 1), (oL 0 2, 1)] (by decide +kernel) rfl rfl ?_
    refine g_callV (k := 345) (pc2 := 18) (st := []) (CX10_isGood v2 q1.2) miX10_isGood mvX10_isGood rfl (by decide) lk9_345 wI_ok (by decide +kernel) rfl (Nat.le_of_ble_eq_true rfl) (by decide) rfl (fun q2 hq2 => ?_)
    refine g_zeq (off := 18) (tgt := 36) (pc2 := 21) (by decide +kernel) (by decide) rfl ?_ ?_
    · refine g_seg0 (pc' := 37) (L' := [some (vR (kO 9) 0), some (vI v1), some (vI v2)]) (st' := [vI 0]) (u1 := q2.2) [(oC 0, 1)] (by decide +kernel) rfl rfl ?_
      exact g_zret (by decide +kernel) rfl
    · refine g_seg0 (pc' := 23) (L' := [some (vR (kO 9) 0), some (vI v1), some (vI v2)]) (st' := [vI v2, vI v1]) (u1 := q2.2) [(oL 0 1, 1), (oL 0 2, 1)] (by decide +kernel) rfl rfl ?_
      refine g_ieq (off := 13) (tgt := 36) (pc2 := 26) (by decide +kernel) (by decide) rfl ?_ ?_
      · refine g_seg0 (pc' := 37) (L' := [some (vR (kO 9) 0), some (vI v1), some (vI v2)]) (st' := [vI 0]) (u1 := q2.2) [(oC 0, 1)] (by decide +kernel) rfl rfl ?_
        exact g_zret (by decide +kernel) rfl
      · refine g_seg0 (pc' := 30) (L' := [some (vR (kO 9) 0), some (vI v1), some (vI v2)]) (st' := [vI v2, vI v1, vI 0, vR (kO 9) 0]) (u1 := q2.2) [(oL 2 0, 1), (oC 0, 1), (oL 0 1, 1), (oL 0 2, 1)] (by decide +kernel) rfl rfl ?_
        refine g_callV (k := 358) (pc2 := 33) (st := []) (CX10_maySwap 0 v1 v2 q2.2) miX10_maySwap mvX10_maySwap rfl (by decide) lk9_358 wI_ok (by decide +kernel) rfl (Nat.le_of_ble_eq_true rfl) (by decide) rfl (fun q3 hq3 => ?_)
        refine g_zne (off := 5) (tgt := 38) (pc2 := 36) (by decide +kernel) (by decide) rfl ?_ ?_
        · refine g_seg0 (pc' := 39) (L' := [some (vR (kO 9) 0), some (vI v1), some (vI v2)]) (st' := [vR (kO 9) 0]) (u1 := q3.2) [(oL 2 0, 1)] (by decide +kernel) rfl rfl ?_
          refine g_callV (k := 352) (pc2 := 42) (st := []) (CX10_keeps q3.2) miX10_keeps mvX10_keeps rfl (by decide) lk9_352 wV_ok (by decide +kernel) rfl (Nat.le_of_ble_eq_true rfl) (by decide) rfl (fun q4 hq4 => ?_)
          refine g_seg0 (pc' := 46) (L' := [some (vR (kO 9) 0), some (vI v1), some (vI v2)]) (st' := [vI v2, vI v1, vI 0, vR (kO 9) 0]) (u1 := q4.2) [(oL 2 0, 1), (oC 0, 1), (oL 0 1, 1), (oL 0 2, 1)] (by decide +kernel) rfl rfl ?_
          refine g_callV (k := 361) (pc2 := 49) (st := []) (CX10_swaps 0 v1 v2 q4.2) miX10_swaps mvX10_swaps rfl (by decide) lk9_361 wV_ok (by decide +kernel) rfl (Nat.le_of_ble_eq_true rfl) (by decide) rfl (fun q5 hq5 => ?_)
          refine g_seg0 (pc' := 50) (L' := [some (vR (kO 9) 0), some (vI v1), some (vI v2)]) (st' := [vI 1]) (u1 := q5.2) [(oC 1, 1)] (by decide +kernel) rfl rfl ?_
          exact g_zret (by decide +kernel) rfl
        · refine g_seg0 (pc' := 37) (L' := [some (vR (kO 9) 0), some (vI v1), some (vI v2)]) (st' := [vI 0]) (u1 := q3.2) [(oC 0, 1)] (by decide +kernel) rfl rfl ?_
          exact g_zret (by decide +kernel) rfl
theorem CX10_swap (v1 : Int32) (v2 : Int32) (u : ab_S) : ab_C 1 yX10_swap cX10_swap 3 (some .boolean) 5 [vR (kO 9) 0, vI v1, vI v2] u wI (fX10_swap v1 v2 u) := ab_entry (by decide +kernel) rfl (by decide) (by decide) (fun _ => Nat.le_of_ble_eq_true rfl) rfl (tX10_swap v1 v2 u)
def fX10_bring (v1 : Int32) (u : ab_S) : Option (Int32 × ab_S) :=
  (fX10_isGood v1 (sI u 0 0 0)).bind fun q1 =>
    bif decide (q1.1 = 0) then (
      some ((-1), q1.2))
    else (
      ab_gd [ab_ix (2 + v1) 1081] (
        bif decide ((q1.2.1 16 (nc (2 + v1))) < 0) then (
          some ((-1), q1.2))
        else (
          (fX10_keeps q1.2).bind fun q2 =>
            ab_gd [ab_ix (2 + v1) 1081, ab_ix (2 + v1) 1081] (
              some ((q2.2.1 16 (nc (2 + v1))), (sI q2.2 16 (nc (2 + v1)) (-1)))))))
theorem tX10_bring (v1 : Int32) (u : ab_S) : ab_G 1 9 cX10_bring (some .int) 2 0 [some (vR (kO 9) 0), some (vI v1), none] [] u wI (fX10_bring v1 u) := by
  rw [fX10_bring]
  refine g_seg0 (pc' := 7) (L' := [some (vR (kO 9) 0), some (vI v1), none]) (st' := [vI v1, vR (kO 9) 0]) (u1 := (sI u 0 0 0)) [(oL 2 0, 1), (oC 0, 1), (oP (.putfield 1), 3), (oL 2 0, 1), (oL 0 1, 1)] (by decide +kernel) rfl rfl ?_
  refine g_callV (k := 345) (pc2 := 10) (st := []) (CX10_isGood v1 (sI u 0 0 0)) miX10_isGood mvX10_isGood rfl (by decide) lk9_345 wI_ok (by decide +kernel) rfl (Nat.le_of_ble_eq_true rfl) (by decide) rfl (fun q1 hq1 => ?_)
  refine g_zeq (off := 14) (tgt := 24) (pc2 := 13) (by decide +kernel) (by decide) rfl ?_ ?_
  · refine g_seg0 (pc' := 25) (L' := [some (vR (kO 9) 0), some (vI v1), none]) (st' := [vI (-1)]) (u1 := q1.2) [(oC (-1), 1)] (by decide +kernel) rfl rfl ?_
    exact g_iret (by decide +kernel) rfl
  · refine g_seg (pc' := 21) (L' := [some (vR (kO 9) 0), some (vI v1), none]) (st' := [vI (q1.2.1 16 (nc (2 + v1)))]) (u1 := q1.2) [(oL 2 0, 1), (oP (.getfield 113), 3), (oC 2, 1), (oL 0 1, 1), (oP .iadd, 1), (oP .iaload, 1)] (by decide +kernel) rfl rfl ?_
    refine g_zge (off := 5) (tgt := 26) (pc2 := 24) (by decide +kernel) (by decide) rfl ?_ ?_
    · refine g_seg0 (pc' := 27) (L' := [some (vR (kO 9) 0), some (vI v1), none]) (st' := [vR (kO 9) 0]) (u1 := q1.2) [(oL 2 0, 1)] (by decide +kernel) rfl rfl ?_
      refine g_callV (k := 352) (pc2 := 30) (st := []) (CX10_keeps q1.2) miX10_keeps mvX10_keeps rfl (by decide) lk9_352 wV_ok (by decide +kernel) rfl (Nat.le_of_ble_eq_true rfl) (by decide) rfl (fun q2 hq2 => ?_)
      refine g_seg (pc' := 49) (L' := [some (vR (kO 9) 0), some (vI v1), some (vI (q2.2.1 16 (nc (2 + v1))))]) (st' := [vI (q2.2.1 16 (nc (2 + v1)))]) (u1 := (sI q2.2 16 (nc (2 + v1)) (-1))) [(oL 2 0, 1), (oP (.getfield 113), 3), (oC 2, 1), (oL 0 1, 1), (oP .iadd, 1), (oP .iaload, 1), (oL 3 2, 1), (oL 2 0, 1), (oP (.getfield 113), 3), (oC 2, 1), (oL 0 1, 1), (oP .iadd, 1), (oC (-1), 1), (oP .iastore, 1), (oL 0 2, 1)] (by decide +kernel) rfl rfl ?_
      exact g_iret (by decide +kernel) rfl
    · refine g_seg0 (pc' := 25) (L' := [some (vR (kO 9) 0), some (vI v1), none]) (st' := [vI (-1)]) (u1 := q1.2) [(oC (-1), 1)] (by decide +kernel) rfl rfl ?_
      exact g_iret (by decide +kernel) rfl
theorem CX10_bring (v1 : Int32) (u : ab_S) : ab_C 1 yX10_bring cX10_bring 3 (some .int) 2 [vR (kO 9) 0, vI v1] u wI (fX10_bring v1 u) := ab_entry (by decide +kernel) rfl (by decide) (by decide) (fun _ => Nat.le_of_ble_eq_true rfl) rfl (tX10_bring v1 u)
def fX10_quarter (u : ab_S) : Option (Int32 × ab_S) :=
  (fX10_keeps (sI u 0 0 0)).bind fun q1 =>
    (fX10_passes 0 q1.2).bind fun q2 =>
      some (q2.1, q2.2)
theorem tX10_quarter (u : ab_S) : ab_G 1 9 cX10_quarter (some .int) 6 0 [some (vR (kO 9) 0)] [] u wI (fX10_quarter u) := by
  rw [fX10_quarter]
  refine g_seg0 (pc' := 6) (L' := [some (vR (kO 9) 0)]) (st' := [vR (kO 9) 0]) (u1 := (sI u 0 0 0)) [(oL 2 0, 1), (oC 0, 1), (oP (.putfield 1), 3), (oL 2 0, 1)] (by decide +kernel) rfl rfl ?_
  refine g_callV (k := 352) (pc2 := 9) (st := []) (CX10_keeps (sI u 0 0 0)) miX10_keeps mvX10_keeps rfl (by decide) lk9_352 wV_ok (by decide +kernel) rfl (Nat.le_of_ble_eq_true rfl) (by decide) rfl (fun q1 hq1 => ?_)
  refine g_seg0 (pc' := 11) (L' := [some (vR (kO 9) 0)]) (st' := [vI 0, vR (kO 9) 0]) (u1 := q1.2) [(oL 2 0, 1), (oC 0, 1)] (by decide +kernel) rfl rfl ?_
  refine g_callV (k := 364) (pc2 := 14) (st := []) (CX10_passes 0 q1.2) miX10_passes mvX10_passes rfl (by decide) lk9_364 wI_ok (by decide +kernel) rfl (Nat.le_of_ble_eq_true rfl) (by decide) rfl (fun q2 hq2 => ?_)
  exact g_iret (by decide +kernel) rfl
theorem CX10_quarter (u : ab_S) : ab_C 1 yX10_quarter cX10_quarter 1 (some .int) 6 [vR (kO 9) 0] u wI (fX10_quarter u) := ab_entry (by decide +kernel) rfl (by decide) (by decide) (fun _ => Nat.le_of_ble_eq_true rfl) rfl (tX10_quarter u)
def fX10_undo (u : ab_S) : Option (Int32 × ab_S) :=
  bif decide (((sI u 0 0 0).1 0 25) = 0) then (
    ab_gd [ab_b1 0] (some (0, (sI u 0 0 0))))
  else (
    (fX10_copies (47 * (5 + ((sI (sI u 0 0 0) 0 25 (((sI u 0 0 0).1 0 25) - 1)).1 0 25))) 0 22 (sI (sI u 0 0 0) 0 25 (((sI u 0 0 0).1 0 25) - 1))).bind fun q1 =>
      ab_gd [ab_b1 1] (some (1, q1.2)))
theorem tX10_undo (u : ab_S) : ab_G 1 9 cX10_undo (some .boolean) 1 0 [some (vR (kO 9) 0)] [] u wI (fX10_undo u) := by
  rw [fX10_undo]
  refine g_seg0 (pc' := 9) (L' := [some (vR (kO 9) 0)]) (st' := [vI ((sI u 0 0 0).1 0 25)]) (u1 := (sI u 0 0 0)) [(oL 2 0, 1), (oC 0, 1), (oP (.putfield 1), 3), (oL 2 0, 1), (oP (.getfield 285), 3)] (by decide +kernel) rfl rfl ?_
  refine g_zne (off := 5) (tgt := 14) (pc2 := 12) (by decide +kernel) (by decide) rfl ?_ ?_
  · refine g_seg0 (pc' := 37) (L' := [some (vR (kO 9) 0)]) (st' := [vI 22, vI 0, vI (47 * (5 + ((sI (sI u 0 0 0) 0 25 (((sI u 0 0 0).1 0 25) - 1)).1 0 25))), vR (kO 9) 0]) (u1 := (sI (sI u 0 0 0) 0 25 (((sI u 0 0 0).1 0 25) - 1))) [(oL 2 0, 1), (oP .dup, 1), (oP (.getfield 285), 3), (oC 1, 1), (oP .isub, 1), (oP (.putfield 285), 3), (oL 2 0, 1), (oC 47, 2), (oC 5, 1), (oL 2 0, 1), (oP (.getfield 285), 3), (oP .iadd, 1), (oP .imul, 1), (oC 0, 1), (oC 22, 2)] (by decide +kernel) rfl rfl ?_
    refine g_callV (k := 288) (pc2 := 40) (st := []) (CX10_copies (47 * (5 + ((sI (sI u 0 0 0) 0 25 (((sI u 0 0 0).1 0 25) - 1)).1 0 25))) 0 22 (sI (sI u 0 0 0) 0 25 (((sI u 0 0 0).1 0 25) - 1))) miX10_copies mvX10_copies rfl (by decide) lk9_288 wV_ok (by decide +kernel) rfl (Nat.le_of_ble_eq_true rfl) (by decide) rfl (fun q1 hq1 => ?_)
    refine g_seg0 (pc' := 41) (L' := [some (vR (kO 9) 0)]) (st' := [vI 1]) (u1 := q1.2) [(oC 1, 1)] (by decide +kernel) rfl rfl ?_
    exact g_zret (by decide +kernel) rfl
  · refine g_seg0 (pc' := 13) (L' := [some (vR (kO 9) 0)]) (st' := [vI 0]) (u1 := (sI u 0 0 0)) [(oC 0, 1)] (by decide +kernel) rfl rfl ?_
    exact g_zret (by decide +kernel) rfl
theorem CX10_undo (u : ab_S) : ab_C 1 yX10_undo cX10_undo 1 (some .boolean) 1 [vR (kO 9) 0] u wI (fX10_undo u) := ab_entry (by decide +kernel) rfl (by decide) (by decide) (fun _ => Nat.le_of_ble_eq_true rfl) rfl (tX10_undo u)
def fX10_judged_248 (k31 : Int32 → Int32 → Int32 → Int32 → ab_S → Option (Int32 × ab_S)) (v1 : Int32) (v2 : Int32) (v3 : Int32) (v4 : Int32) (u : ab_S) : Option (Int32 × ab_S) :=
  (fX10_rightsOf 987 u).bind fun q1 =>
    bif decide (q1.1 = 0) then (
      k31 v1 v2 v3 (v4 + 1) q1.2)
    else (
      bif decide (v3 < 0) then (
        k31 v1 v2 v4 (v4 + 1) q1.2)
      else (
        k31 v1 v2 v3 (v4 + 1) q1.2))
theorem tX10_judged_248 (k31 : Int32 → Int32 → Int32 → Int32 → ab_S → Option (Int32 × ab_S)) (hk31 : ∀ (v1 : Int32) (v2 : Int32) (v3 : Int32) (v4 : Int32) (u : ab_S), ab_G 1 9 cX10_judged (some .int) 6 31 [some (vR (kO 9) 0), some (vI v1), some (vI v2), some (vI v3), some (vI v4), none, none, none, none] [] u wI (k31 v1 v2 v3 v4 u)) (v1 : Int32) (v2 : Int32) (v3 : Int32) (v4 : Int32) (u : ab_S) : ab_G 1 9 cX10_judged (some .int) 6 248 [some (vR (kO 9) 0), some (vI v1), some (vI v2), some (vI v3), some (vI v4), none, none, none, none] [] u wI (fX10_judged_248 k31 v1 v2 v3 v4 u) := by
  rw [fX10_judged_248]
  refine g_seg0 (pc' := 252) (L' := [some (vR (kO 9) 0), some (vI v1), some (vI v2), some (vI v3), some (vI v4), none, none, none, none]) (st' := [vI 987, vR (kO 9) 0]) (u1 := u) [(oL 2 0, 1), (oC 987, 3)] (by decide +kernel) rfl rfl ?_
  refine g_callV (k := 367) (pc2 := 255) (st := []) (CX10_rightsOf 987 u) miX10_rightsOf mvX10_rightsOf rfl (by decide) lk9_367 wI_ok (by decide +kernel) rfl (Nat.le_of_ble_eq_true rfl) (by decide) rfl (fun q1 hq1 => ?_)
  refine g_zeq (off := 12) (tgt := 267) (pc2 := 258) (by decide +kernel) (by decide) rfl ?_ ?_
  · refine g_seg0 (pc' := 272) (L' := [some (vR (kO 9) 0), some (vI v1), some (vI v2), some (vI v3), some (vI (v4 + 1)), none, none, none, none]) (st' := []) (u1 := q1.2) [(oL 0 3, 1), (oL 3 3, 1), (oN 4 1, 3)] (by decide +kernel) rfl rfl ?_
    refine g_goto (off := (-241)) (tgt := 31) (by decide +kernel) (by decide) ?_
    exact hk31 v1 v2 v3 (v4 + 1) q1.2
  · refine g_seg0 (pc' := 259) (L' := [some (vR (kO 9) 0), some (vI v1), some (vI v2), some (vI v3), some (vI v4), none, none, none, none]) (st' := [vI v3]) (u1 := q1.2) [(oL 0 3, 1)] (by decide +kernel) rfl rfl ?_
    refine g_zge (off := 8) (tgt := 267) (pc2 := 262) (by decide +kernel) (by decide) rfl ?_ ?_
    · refine g_seg0 (pc' := 272) (L' := [some (vR (kO 9) 0), some (vI v1), some (vI v2), some (vI v3), some (vI (v4 + 1)), none, none, none, none]) (st' := []) (u1 := q1.2) [(oL 0 3, 1), (oL 3 3, 1), (oN 4 1, 3)] (by decide +kernel) rfl rfl ?_
      refine g_goto (off := (-241)) (tgt := 31) (by decide +kernel) (by decide) ?_
      exact hk31 v1 v2 v3 (v4 + 1) q1.2
    · refine g_seg0 (pc' := 264) (L' := [some (vR (kO 9) 0), some (vI v1), some (vI v2), some (vI v3), some (vI v4), none, none, none, none]) (st' := [vI v4]) (u1 := q1.2) [(oL 0 4, 2)] (by decide +kernel) rfl rfl ?_
      refine g_goto (off := 4) (tgt := 268) (by decide +kernel) (by decide) ?_
      refine g_seg0 (pc' := 272) (L' := [some (vR (kO 9) 0), some (vI v1), some (vI v2), some (vI v4), some (vI (v4 + 1)), none, none, none, none]) (st' := []) (u1 := q1.2) [(oL 3 3, 1), (oN 4 1, 3)] (by decide +kernel) rfl rfl ?_
      refine g_goto (off := (-241)) (tgt := 31) (by decide +kernel) (by decide) ?_
      exact hk31 v1 v2 v4 (v4 + 1) q1.2
def fX10_judged_231 (k31 : Int32 → Int32 → Int32 → Int32 → ab_S → Option (Int32 × ab_S)) (v1 : Int32) (v2 : Int32) (v3 : Int32) (v4 : Int32) (v6 : Int32) (v8 : Int32) (u : ab_S) : Option (Int32 × ab_S) :=
  bif decide (v8 = 0) then (
    fX10_judged_248 k31 v1 v2 v3 v4 u)
  else (
    ab_gd [ab_ix (989 + v6) 1081] (
      fX10_judged_248 k31 v1 v2 v3 v4 (sI u 16 (nc (989 + v6)) (-1))))
theorem tX10_judged_231 (k31 : Int32 → Int32 → Int32 → Int32 → ab_S → Option (Int32 × ab_S)) (hk31 : ∀ (v1 : Int32) (v2 : Int32) (v3 : Int32) (v4 : Int32) (u : ab_S), ab_G 1 9 cX10_judged (some .int) 6 31 [some (vR (kO 9) 0), some (vI v1), some (vI v2), some (vI v3), some (vI v4), none, none, none, none] [] u wI (k31 v1 v2 v3 v4 u)) (v1 : Int32) (v2 : Int32) (v3 : Int32) (v4 : Int32) (v6 : Int32) (v8 : Int32) (u : ab_S) : ab_G 1 9 cX10_judged (some .int) 6 231 [some (vR (kO 9) 0), some (vI v1), some (vI v2), some (vI v3), some (vI v4), none, some (vI v6), none, some (vI v8)] [] u wI (fX10_judged_231 k31 v1 v2 v3 v4 v6 v8 u) := by
  rw [fX10_judged_231]
  refine g_seg0 (pc' := 233) (L' := [some (vR (kO 9) 0), some (vI v1), some (vI v2), some (vI v3), some (vI v4), none, some (vI v6), none, some (vI v8)]) (st' := [vI v8]) (u1 := u) [(oL 0 8, 2)] (by decide +kernel) rfl rfl ?_
  refine g_zeq (off := 15) (tgt := 248) (pc2 := 236) (by decide +kernel) (by decide) rfl ?_ ?_
  · exact g_jump [true, true, true, true, true, false, false, false, false] rfl (tX10_judged_248 k31 hk31 v1 v2 v3 v4 u)
  · refine g_seg (pc' := 248) (L' := [some (vR (kO 9) 0), some (vI v1), some (vI v2), some (vI v3), some (vI v4), none, some (vI v6), none, some (vI v8)]) (st' := []) (u1 := (sI u 16 (nc (989 + v6)) (-1))) [(oL 2 0, 1), (oP (.getfield 113), 3), (oC 989, 3), (oL 0 6, 2), (oP .iadd, 1), (oC (-1), 1), (oP .iastore, 1)] (by decide +kernel) rfl rfl ?_
    exact g_jump [true, true, true, true, true, false, false, false, false] rfl (tX10_judged_248 k31 hk31 v1 v2 v3 v4 (sI u 16 (nc (989 + v6)) (-1)))
def fX10_judged_206 (k31 : Int32 → Int32 → Int32 → Int32 → ab_S → Option (Int32 × ab_S)) (v1 : Int32) (v2 : Int32) (v3 : Int32) (v4 : Int32) (v5 : Int32) (v6 : Int32) (v7 : Int32) (v8 : Int32) (u : ab_S) : Option (Int32 × ab_S) :=
  bif decide (v8 = 0) then (
    fX10_judged_231 k31 v1 v2 v3 v4 v6 v8 u)
  else (
    bif decide (v5 = 2) then (
      (fX10_swaps 987 v6 v7 u).bind fun q2 =>
        fX10_judged_248 k31 v1 v2 v3 v4 q2.2)
    else (
      fX10_judged_231 k31 v1 v2 v3 v4 v6 v8 u))
theorem tX10_judged_206 (k31 : Int32 → Int32 → Int32 → Int32 → ab_S → Option (Int32 × ab_S)) (hk31 : ∀ (v1 : Int32) (v2 : Int32) (v3 : Int32) (v4 : Int32) (u : ab_S), ab_G 1 9 cX10_judged (some .int) 6 31 [some (vR (kO 9) 0), some (vI v1), some (vI v2), some (vI v3), some (vI v4), none, none, none, none] [] u wI (k31 v1 v2 v3 v4 u)) (v1 : Int32) (v2 : Int32) (v3 : Int32) (v4 : Int32) (v5 : Int32) (v6 : Int32) (v7 : Int32) (v8 : Int32) (u : ab_S) : ab_G 1 9 cX10_judged (some .int) 6 206 [some (vR (kO 9) 0), some (vI v1), some (vI v2), some (vI v3), some (vI v4), some (vI v5), some (vI v6), some (vI v7), some (vI v8)] [] u wI (fX10_judged_206 k31 v1 v2 v3 v4 v5 v6 v7 v8 u) := by
  rw [fX10_judged_206]
  refine g_seg0 (pc' := 208) (L' := [some (vR (kO 9) 0), some (vI v1), some (vI v2), some (vI v3), some (vI v4), some (vI v5), some (vI v6), some (vI v7), some (vI v8)]) (st' := [vI v8]) (u1 := u) [(oL 0 8, 2)] (by decide +kernel) rfl rfl ?_
  refine g_zeq (off := 23) (tgt := 231) (pc2 := 211) (by decide +kernel) (by decide) rfl ?_ ?_
  · exact g_jump [true, true, true, true, true, false, true, false, true] rfl (tX10_judged_231 k31 hk31 v1 v2 v3 v4 v6 v8 u)
  · refine g_seg0 (pc' := 214) (L' := [some (vR (kO 9) 0), some (vI v1), some (vI v2), some (vI v3), some (vI v4), some (vI v5), some (vI v6), some (vI v7), some (vI v8)]) (st' := [vI 2, vI v5]) (u1 := u) [(oL 0 5, 2), (oC 2, 1)] (by decide +kernel) rfl rfl ?_
    refine g_ine (off := 17) (tgt := 231) (pc2 := 217) (by decide +kernel) (by decide) rfl ?_ ?_
    · exact g_jump [true, true, true, true, true, false, true, false, true] rfl (tX10_judged_231 k31 hk31 v1 v2 v3 v4 v6 v8 u)
    · refine g_seg0 (pc' := 225) (L' := [some (vR (kO 9) 0), some (vI v1), some (vI v2), some (vI v3), some (vI v4), some (vI v5), some (vI v6), some (vI v7), some (vI v8)]) (st' := [vI v7, vI v6, vI 987, vR (kO 9) 0]) (u1 := u) [(oL 2 0, 1), (oC 987, 3), (oL 0 6, 2), (oL 0 7, 2)] (by decide +kernel) rfl rfl ?_
      refine g_callV (k := 361) (pc2 := 228) (st := []) (CX10_swaps 987 v6 v7 u) miX10_swaps mvX10_swaps rfl (by decide) lk9_361 wV_ok (by decide +kernel) rfl (Nat.le_of_ble_eq_true rfl) (by decide) rfl (fun q2 hq2 => ?_)
      refine g_goto (off := 20) (tgt := 248) (by decide +kernel) (by decide) ?_
      exact g_jump [true, true, true, true, true, false, false, false, false] rfl (tX10_judged_248 k31 hk31 v1 v2 v3 v4 q2.2)
def fX10_judged_166 (k31 : Int32 → Int32 → Int32 → Int32 → ab_S → Option (Int32 × ab_S)) (v1 : Int32) (v3 : Int32) (v4 : Int32) (v5 : Int32) (v6 : Int32) (v7 : Int32) (v8 : Int32) (s0 : Int32) (u : ab_S) : Option (Int32 × ab_S) :=
  bif decide (v5 = 0) then (
    (fX10_passes 987 u).bind fun q4 =>
      fX10_judged_248 k31 v1 s0 v3 v4 q4.2)
  else (
    bif decide (v8 = 0) then (
      fX10_judged_206 k31 v1 s0 v3 v4 v5 v6 v7 v8 u)
    else (
      bif decide (v5 = 1) then (
        (fX10_buys 987 v6 u).bind fun q3 =>
          fX10_judged_248 k31 v1 s0 v3 v4 q3.2)
      else (
        fX10_judged_206 k31 v1 s0 v3 v4 v5 v6 v7 v8 u)))
theorem tX10_judged_166 (k31 : Int32 → Int32 → Int32 → Int32 → ab_S → Option (Int32 × ab_S)) (hk31 : ∀ (v1 : Int32) (v2 : Int32) (v3 : Int32) (v4 : Int32) (u : ab_S), ab_G 1 9 cX10_judged (some .int) 6 31 [some (vR (kO 9) 0), some (vI v1), some (vI v2), some (vI v3), some (vI v4), none, none, none, none] [] u wI (k31 v1 v2 v3 v4 u)) (v1 : Int32) (v3 : Int32) (v4 : Int32) (v5 : Int32) (v6 : Int32) (v7 : Int32) (v8 : Int32) (s0 : Int32) (u : ab_S) : ab_G 1 9 cX10_judged (some .int) 6 166 [some (vR (kO 9) 0), some (vI v1), none, some (vI v3), some (vI v4), some (vI v5), some (vI v6), some (vI v7), some (vI v8)] [vI s0] u wI (fX10_judged_166 k31 v1 v3 v4 v5 v6 v7 v8 s0 u) := by
  rw [fX10_judged_166]
  refine g_seg0 (pc' := 169) (L' := [some (vR (kO 9) 0), some (vI v1), some (vI s0), some (vI v3), some (vI v4), some (vI v5), some (vI v6), some (vI v7), some (vI v8)]) (st' := [vI v5]) (u1 := u) [(oL 3 2, 1), (oL 0 5, 2)] (by decide +kernel) rfl rfl ?_
  refine g_zne (off := 14) (tgt := 183) (pc2 := 172) (by decide +kernel) (by decide) rfl ?_ ?_
  · refine g_seg0 (pc' := 185) (L' := [some (vR (kO 9) 0), some (vI v1), some (vI s0), some (vI v3), some (vI v4), some (vI v5), some (vI v6), some (vI v7), some (vI v8)]) (st' := [vI v8]) (u1 := u) [(oL 0 8, 2)] (by decide +kernel) rfl rfl ?_
    refine g_zeq (off := 21) (tgt := 206) (pc2 := 188) (by decide +kernel) (by decide) rfl ?_ ?_
    · exact tX10_judged_206 k31 hk31 v1 s0 v3 v4 v5 v6 v7 v8 u
    · refine g_seg0 (pc' := 191) (L' := [some (vR (kO 9) 0), some (vI v1), some (vI s0), some (vI v3), some (vI v4), some (vI v5), some (vI v6), some (vI v7), some (vI v8)]) (st' := [vI 1, vI v5]) (u1 := u) [(oL 0 5, 2), (oC 1, 1)] (by decide +kernel) rfl rfl ?_
      refine g_ine (off := 15) (tgt := 206) (pc2 := 194) (by decide +kernel) (by decide) rfl ?_ ?_
      · exact tX10_judged_206 k31 hk31 v1 s0 v3 v4 v5 v6 v7 v8 u
      · refine g_seg0 (pc' := 200) (L' := [some (vR (kO 9) 0), some (vI v1), some (vI s0), some (vI v3), some (vI v4), some (vI v5), some (vI v6), some (vI v7), some (vI v8)]) (st' := [vI v6, vI 987, vR (kO 9) 0]) (u1 := u) [(oL 2 0, 1), (oC 987, 3), (oL 0 6, 2)] (by decide +kernel) rfl rfl ?_
        refine g_callV (k := 355) (pc2 := 203) (st := []) (CX10_buys 987 v6 u) miX10_buys mvX10_buys rfl (by decide) lk9_355 wV_ok (by decide +kernel) rfl (Nat.le_of_ble_eq_true rfl) (by decide) rfl (fun q3 hq3 => ?_)
        refine g_goto (off := 45) (tgt := 248) (by decide +kernel) (by decide) ?_
        exact g_jump [true, true, true, true, true, false, false, false, false] rfl (tX10_judged_248 k31 hk31 v1 s0 v3 v4 q3.2)
  · refine g_seg0 (pc' := 176) (L' := [some (vR (kO 9) 0), some (vI v1), some (vI s0), some (vI v3), some (vI v4), some (vI v5), some (vI v6), some (vI v7), some (vI v8)]) (st' := [vI 987, vR (kO 9) 0]) (u1 := u) [(oL 2 0, 1), (oC 987, 3)] (by decide +kernel) rfl rfl ?_
    refine g_callV (k := 364) (pc2 := 179) (st := []) (CX10_passes 987 u) miX10_passes mvX10_passes rfl (by decide) lk9_364 wI_ok (by decide +kernel) rfl (Nat.le_of_ble_eq_true rfl) (by decide) rfl (fun q4 hq4 => ?_)
    refine g_seg0 (pc' := 180) (L' := [some (vR (kO 9) 0), some (vI v1), some (vI s0), some (vI v3), some (vI v4), some (vI v5), some (vI v6), some (vI v7), some (vI v8)]) (st' := []) (u1 := q4.2) [(oP .pop, 1)] (by decide +kernel) rfl rfl ?_
    refine g_goto (off := 68) (tgt := 248) (by decide +kernel) (by decide) ?_
    exact g_jump [true, true, true, true, true, false, false, false, false] rfl (tX10_judged_248 k31 hk31 v1 s0 v3 v4 q4.2)
def fX10_judged_149 (k31 : Int32 → Int32 → Int32 → Int32 → ab_S → Option (Int32 × ab_S)) (v1 : Int32) (v2 : Int32) (v3 : Int32) (v4 : Int32) (v5 : Int32) (v6 : Int32) (v7 : Int32) (s0 : Int32) (u : ab_S) : Option (Int32 × ab_S) :=
  bif decide (s0 = 0) then (
    bif decide (v2 < 0) then (
      fX10_judged_166 k31 v1 v3 v4 v5 v6 v7 s0 v4 u)
    else (
      fX10_judged_166 k31 v1 v3 v4 v5 v6 v7 s0 v2 u))
  else (
    fX10_judged_166 k31 v1 v3 v4 v5 v6 v7 s0 v2 u)
theorem tX10_judged_149 (k31 : Int32 → Int32 → Int32 → Int32 → ab_S → Option (Int32 × ab_S)) (hk31 : ∀ (v1 : Int32) (v2 : Int32) (v3 : Int32) (v4 : Int32) (u : ab_S), ab_G 1 9 cX10_judged (some .int) 6 31 [some (vR (kO 9) 0), some (vI v1), some (vI v2), some (vI v3), some (vI v4), none, none, none, none] [] u wI (k31 v1 v2 v3 v4 u)) (v1 : Int32) (v2 : Int32) (v3 : Int32) (v4 : Int32) (v5 : Int32) (v6 : Int32) (v7 : Int32) (s0 : Int32) (u : ab_S) : ab_G 1 9 cX10_judged (some .int) 6 149 [some (vR (kO 9) 0), some (vI v1), some (vI v2), some (vI v3), some (vI v4), some (vI v5), some (vI v6), some (vI v7), none] [vI s0] u wI (fX10_judged_149 k31 v1 v2 v3 v4 v5 v6 v7 s0 u) := by
  rw [fX10_judged_149]
  refine g_seg0 (pc' := 153) (L' := [some (vR (kO 9) 0), some (vI v1), some (vI v2), some (vI v3), some (vI v4), some (vI v5), some (vI v6), some (vI v7), some (vI s0)]) (st' := [vI s0]) (u1 := u) [(oL 3 8, 2), (oL 0 8, 2)] (by decide +kernel) rfl rfl ?_
  refine g_zne (off := 12) (tgt := 165) (pc2 := 156) (by decide +kernel) (by decide) rfl ?_ ?_
  · refine g_seg0 (pc' := 166) (L' := [some (vR (kO 9) 0), some (vI v1), some (vI v2), some (vI v3), some (vI v4), some (vI v5), some (vI v6), some (vI v7), some (vI s0)]) (st' := [vI v2]) (u1 := u) [(oL 0 2, 1)] (by decide +kernel) rfl rfl ?_
    exact g_jump [true, true, false, true, true, true, true, true, true] rfl (tX10_judged_166 k31 hk31 v1 v3 v4 v5 v6 v7 s0 v2 u)
  · refine g_seg0 (pc' := 157) (L' := [some (vR (kO 9) 0), some (vI v1), some (vI v2), some (vI v3), some (vI v4), some (vI v5), some (vI v6), some (vI v7), some (vI s0)]) (st' := [vI v2]) (u1 := u) [(oL 0 2, 1)] (by decide +kernel) rfl rfl ?_
    refine g_zge (off := 8) (tgt := 165) (pc2 := 160) (by decide +kernel) (by decide) rfl ?_ ?_
    · refine g_seg0 (pc' := 166) (L' := [some (vR (kO 9) 0), some (vI v1), some (vI v2), some (vI v3), some (vI v4), some (vI v5), some (vI v6), some (vI v7), some (vI s0)]) (st' := [vI v2]) (u1 := u) [(oL 0 2, 1)] (by decide +kernel) rfl rfl ?_
      exact g_jump [true, true, false, true, true, true, true, true, true] rfl (tX10_judged_166 k31 hk31 v1 v3 v4 v5 v6 v7 s0 v2 u)
    · refine g_seg0 (pc' := 162) (L' := [some (vR (kO 9) 0), some (vI v1), some (vI v2), some (vI v3), some (vI v4), some (vI v5), some (vI v6), some (vI v7), some (vI s0)]) (st' := [vI v4]) (u1 := u) [(oL 0 4, 2)] (by decide +kernel) rfl rfl ?_
      refine g_goto (off := 4) (tgt := 166) (by decide +kernel) (by decide) ?_
      exact g_jump [true, true, false, true, true, true, true, true, true] rfl (tX10_judged_166 k31 hk31 v1 v3 v4 v5 v6 v7 s0 v4 u)
def fX10_judged_31 : Nat → Int32 → Int32 → Int32 → Int32 → ab_S → Option (Int32 × ab_S)
  | 0, _, _, _, _, _ => none
  | n + 1, v1, v2, v3, v4, u =>
  ab_gd [ab_ix 0 250] (
    bif decide (v4 < (u.1 13 (nc 0))) then (
      ab_gd [ab_ix (1 + (3 * v4)) 250, ab_ix (2 + (3 * v4)) 250, ab_ix (3 + (3 * v4)) 250] (
        bif decide ((u.1 13 (nc (1 + (3 * v4)))) = 0) then (
          fX10_judged_149 (fX10_judged_31 n) v1 v2 v3 v4 (u.1 13 (nc (1 + (3 * v4)))) (u.1 13 (nc (2 + (3 * v4)))) (u.1 13 (nc (3 + (3 * v4)))) 1 u)
        else (
          bif decide ((u.1 13 (nc (1 + (3 * v4)))) = 1) then (
            (fX10_mayBuy 987 (u.1 13 (nc (2 + (3 * v4)))) u).bind fun q8 =>
              bif decide (q8.1 = 0) then (
                fX10_judged_149 (fX10_judged_31 n) v1 v2 v3 v4 (u.1 13 (nc (1 + (3 * v4)))) (u.1 13 (nc (2 + (3 * v4)))) (u.1 13 (nc (3 + (3 * v4)))) 0 q8.2)
              else (
                fX10_judged_149 (fX10_judged_31 n) v1 v2 v3 v4 (u.1 13 (nc (1 + (3 * v4)))) (u.1 13 (nc (2 + (3 * v4)))) (u.1 13 (nc (3 + (3 * v4)))) 1 q8.2))
          else (
            bif decide ((u.1 13 (nc (1 + (3 * v4)))) = 2) then (
              (fX10_maySwap 987 (u.1 13 (nc (2 + (3 * v4)))) (u.1 13 (nc (3 + (3 * v4)))) u).bind fun q7 =>
                bif decide (q7.1 = 0) then (
                  fX10_judged_149 (fX10_judged_31 n) v1 v2 v3 v4 (u.1 13 (nc (1 + (3 * v4)))) (u.1 13 (nc (2 + (3 * v4)))) (u.1 13 (nc (3 + (3 * v4)))) 0 q7.2)
                else (
                  fX10_judged_149 (fX10_judged_31 n) v1 v2 v3 v4 (u.1 13 (nc (1 + (3 * v4)))) (u.1 13 (nc (2 + (3 * v4)))) (u.1 13 (nc (3 + (3 * v4)))) 1 q7.2))
            else (
              ab_gd [ab_ix (989 + (u.1 13 (nc (2 + (3 * v4))))) 1081] (
                bif decide ((u.1 16 (nc (989 + (u.1 13 (nc (2 + (3 * v4))))))) < 0) then (
                  fX10_judged_149 (fX10_judged_31 n) v1 v2 v3 v4 (u.1 13 (nc (1 + (3 * v4)))) (u.1 13 (nc (2 + (3 * v4)))) (u.1 13 (nc (3 + (3 * v4)))) 0 u)
                else (
                  fX10_judged_149 (fX10_judged_31 n) v1 v2 v3 v4 (u.1 13 (nc (1 + (3 * v4)))) (u.1 13 (nc (2 + (3 * v4)))) (u.1 13 (nc (3 + (3 * v4)))) 1 u)))))))
    else (
      bif decide (v1 = 0) then (
        some (v2, u))
      else (
        bif decide (v1 = 1) then (
          some (v3, u))
        else (
          (fX10_rightsOf 987 u).bind fun q5 =>
            (fX10_bits q5.1 q5.2).bind fun q6 =>
              some (q6.1, q6.2)))))
theorem tX10_judged_31 : ∀ (n : Nat) (v1 : Int32) (v2 : Int32) (v3 : Int32) (v4 : Int32) (u : ab_S), ab_G 1 9 cX10_judged (some .int) 6 31 [some (vR (kO 9) 0), some (vI v1), some (vI v2), some (vI v3), some (vI v4), none, none, none, none] [] u wI (fX10_judged_31 n v1 v2 v3 v4 u) := by
  intro n
  induction n with
  | zero => intros; exact g_none
  | succ n ih =>
    intro v1 v2 v3 v4 u
    rw [fX10_judged_31]
    refine g_seg (pc' := 39) (L' := [some (vR (kO 9) 0), some (vI v1), some (vI v2), some (vI v3), some (vI v4), none, none, none, none]) (st' := [vI (u.1 13 (nc 0)), vI v4]) (u1 := u) [(oL 0 4, 2), (oL 2 0, 1), (oP (.getfield 104), 3), (oC 0, 1), (oP .iaload, 1)] (by decide +kernel) rfl rfl ?_
    refine g_ige (off := 236) (tgt := 275) (pc2 := 42) (by decide +kernel) (by decide) rfl ?_ ?_
    · refine g_seg0 (pc' := 276) (L' := [some (vR (kO 9) 0), some (vI v1), some (vI v2), some (vI v3), some (vI v4), none, none, none, none]) (st' := [vI v1]) (u1 := u) [(oL 0 1, 1)] (by decide +kernel) rfl rfl ?_
      refine g_zne (off := 7) (tgt := 283) (pc2 := 279) (by decide +kernel) (by decide) rfl ?_ ?_
      · refine g_seg0 (pc' := 285) (L' := [some (vR (kO 9) 0), some (vI v1), some (vI v2), some (vI v3), some (vI v4), none, none, none, none]) (st' := [vI 1, vI v1]) (u1 := u) [(oL 0 1, 1), (oC 1, 1)] (by decide +kernel) rfl rfl ?_
        refine g_ine (off := 7) (tgt := 292) (pc2 := 288) (by decide +kernel) (by decide) rfl ?_ ?_
        · refine g_seg0 (pc' := 296) (L' := [some (vR (kO 9) 0), some (vI v1), some (vI v2), some (vI v3), some (vI v4), none, none, none, none]) (st' := [vI 987, vR (kO 9) 0]) (u1 := u) [(oL 2 0, 1), (oC 987, 3)] (by decide +kernel) rfl rfl ?_
          refine g_callV (k := 367) (pc2 := 299) (st := []) (CX10_rightsOf 987 u) miX10_rightsOf mvX10_rightsOf rfl (by decide) lk9_367 wI_ok (by decide +kernel) rfl (Nat.le_of_ble_eq_true rfl) (by decide) rfl (fun q5 hq5 => ?_)
          refine g_callS (k := 303) (pc2 := 302) (st := []) (CX10_bits q5.1 q5.2) miX10_bits msX10_bits lk9_303 wI_ok (by decide +kernel) rfl (Nat.le_of_ble_eq_true rfl) (by decide) rfl (fun q6 hq6 => ?_)
          exact g_iret (by decide +kernel) rfl
        · refine g_seg0 (pc' := 289) (L' := [some (vR (kO 9) 0), some (vI v1), some (vI v2), some (vI v3), some (vI v4), none, none, none, none]) (st' := [vI v3]) (u1 := u) [(oL 0 3, 1)] (by decide +kernel) rfl rfl ?_
          refine g_goto (off := 13) (tgt := 302) (by decide +kernel) (by decide) ?_
          exact g_iret (by decide +kernel) rfl
      · refine g_seg0 (pc' := 280) (L' := [some (vR (kO 9) 0), some (vI v1), some (vI v2), some (vI v3), some (vI v4), none, none, none, none]) (st' := [vI v2]) (u1 := u) [(oL 0 2, 1)] (by decide +kernel) rfl rfl ?_
        refine g_goto (off := 22) (tgt := 302) (by decide +kernel) (by decide) ?_
        exact g_iret (by decide +kernel) rfl
    · refine g_seg (pc' := 83) (L' := [some (vR (kO 9) 0), some (vI v1), some (vI v2), some (vI v3), some (vI v4), some (vI (u.1 13 (nc (1 + (3 * v4))))), some (vI (u.1 13 (nc (2 + (3 * v4))))), some (vI (u.1 13 (nc (3 + (3 * v4))))), none]) (st' := [vI (u.1 13 (nc (1 + (3 * v4))))]) (u1 := u) [(oL 2 0, 1), (oP (.getfield 104), 3), (oC 1, 1), (oC 3, 1), (oL 0 4, 2), (oP .imul, 1), (oP .iadd, 1), (oP .iaload, 1), (oL 3 5, 2), (oL 2 0, 1), (oP (.getfield 104), 3), (oC 2, 1), (oC 3, 1), (oL 0 4, 2), (oP .imul, 1), (oP .iadd, 1), (oP .iaload, 1), (oL 3 6, 2), (oL 2 0, 1), (oP (.getfield 104), 3), (oC 3, 1), (oC 3, 1), (oL 0 4, 2), (oP .imul, 1), (oP .iadd, 1), (oP .iaload, 1), (oL 3 7, 2), (oL 0 5, 2)] (by decide +kernel) rfl rfl ?_
      refine g_zeq (off := 61) (tgt := 144) (pc2 := 86) (by decide +kernel) (by decide) rfl ?_ ?_
      · refine g_seg0 (pc' := 145) (L' := [some (vR (kO 9) 0), some (vI v1), some (vI v2), some (vI v3), some (vI v4), some (vI (u.1 13 (nc (1 + (3 * v4))))), some (vI (u.1 13 (nc (2 + (3 * v4))))), some (vI (u.1 13 (nc (3 + (3 * v4))))), none]) (st' := [vI 1]) (u1 := u) [(oC 1, 1)] (by decide +kernel) rfl rfl ?_
        refine g_goto (off := 4) (tgt := 149) (by decide +kernel) (by decide) ?_
        exact tX10_judged_149 (fX10_judged_31 n) ih v1 v2 v3 v4 (u.1 13 (nc (1 + (3 * v4)))) (u.1 13 (nc (2 + (3 * v4)))) (u.1 13 (nc (3 + (3 * v4)))) 1 u
      · refine g_seg0 (pc' := 89) (L' := [some (vR (kO 9) 0), some (vI v1), some (vI v2), some (vI v3), some (vI v4), some (vI (u.1 13 (nc (1 + (3 * v4))))), some (vI (u.1 13 (nc (2 + (3 * v4))))), some (vI (u.1 13 (nc (3 + (3 * v4))))), none]) (st' := [vI 1, vI (u.1 13 (nc (1 + (3 * v4))))]) (u1 := u) [(oL 0 5, 2), (oC 1, 1)] (by decide +kernel) rfl rfl ?_
        refine g_ine (off := 18) (tgt := 107) (pc2 := 92) (by decide +kernel) (by decide) rfl ?_ ?_
        · refine g_seg0 (pc' := 110) (L' := [some (vR (kO 9) 0), some (vI v1), some (vI v2), some (vI v3), some (vI v4), some (vI (u.1 13 (nc (1 + (3 * v4))))), some (vI (u.1 13 (nc (2 + (3 * v4))))), some (vI (u.1 13 (nc (3 + (3 * v4))))), none]) (st' := [vI 2, vI (u.1 13 (nc (1 + (3 * v4))))]) (u1 := u) [(oL 0 5, 2), (oC 2, 1)] (by decide +kernel) rfl rfl ?_
          refine g_ine (off := 20) (tgt := 130) (pc2 := 113) (by decide +kernel) (by decide) rfl ?_ ?_
          · refine g_seg (pc' := 141) (L' := [some (vR (kO 9) 0), some (vI v1), some (vI v2), some (vI v3), some (vI v4), some (vI (u.1 13 (nc (1 + (3 * v4))))), some (vI (u.1 13 (nc (2 + (3 * v4))))), some (vI (u.1 13 (nc (3 + (3 * v4))))), none]) (st' := [vI (u.1 16 (nc (989 + (u.1 13 (nc (2 + (3 * v4)))))))]) (u1 := u) [(oL 2 0, 1), (oP (.getfield 113), 3), (oC 989, 3), (oL 0 6, 2), (oP .iadd, 1), (oP .iaload, 1)] (by decide +kernel) rfl rfl ?_
            refine g_zlt (off := 7) (tgt := 148) (pc2 := 144) (by decide +kernel) (by decide) rfl ?_ ?_
            · refine g_seg0 (pc' := 149) (L' := [some (vR (kO 9) 0), some (vI v1), some (vI v2), some (vI v3), some (vI v4), some (vI (u.1 13 (nc (1 + (3 * v4))))), some (vI (u.1 13 (nc (2 + (3 * v4))))), some (vI (u.1 13 (nc (3 + (3 * v4))))), none]) (st' := [vI 0]) (u1 := u) [(oC 0, 1)] (by decide +kernel) rfl rfl ?_
              exact tX10_judged_149 (fX10_judged_31 n) ih v1 v2 v3 v4 (u.1 13 (nc (1 + (3 * v4)))) (u.1 13 (nc (2 + (3 * v4)))) (u.1 13 (nc (3 + (3 * v4)))) 0 u
            · refine g_seg0 (pc' := 145) (L' := [some (vR (kO 9) 0), some (vI v1), some (vI v2), some (vI v3), some (vI v4), some (vI (u.1 13 (nc (1 + (3 * v4))))), some (vI (u.1 13 (nc (2 + (3 * v4))))), some (vI (u.1 13 (nc (3 + (3 * v4))))), none]) (st' := [vI 1]) (u1 := u) [(oC 1, 1)] (by decide +kernel) rfl rfl ?_
              refine g_goto (off := 4) (tgt := 149) (by decide +kernel) (by decide) ?_
              exact tX10_judged_149 (fX10_judged_31 n) ih v1 v2 v3 v4 (u.1 13 (nc (1 + (3 * v4)))) (u.1 13 (nc (2 + (3 * v4)))) (u.1 13 (nc (3 + (3 * v4)))) 1 u
          · refine g_seg0 (pc' := 121) (L' := [some (vR (kO 9) 0), some (vI v1), some (vI v2), some (vI v3), some (vI v4), some (vI (u.1 13 (nc (1 + (3 * v4))))), some (vI (u.1 13 (nc (2 + (3 * v4))))), some (vI (u.1 13 (nc (3 + (3 * v4))))), none]) (st' := [vI (u.1 13 (nc (3 + (3 * v4)))), vI (u.1 13 (nc (2 + (3 * v4)))), vI 987, vR (kO 9) 0]) (u1 := u) [(oL 2 0, 1), (oC 987, 3), (oL 0 6, 2), (oL 0 7, 2)] (by decide +kernel) rfl rfl ?_
            refine g_callV (k := 358) (pc2 := 124) (st := []) (CX10_maySwap 987 (u.1 13 (nc (2 + (3 * v4)))) (u.1 13 (nc (3 + (3 * v4)))) u) miX10_maySwap mvX10_maySwap rfl (by decide) lk9_358 wI_ok (by decide +kernel) rfl (Nat.le_of_ble_eq_true rfl) (by decide) rfl (fun q7 hq7 => ?_)
            refine g_zeq (off := 24) (tgt := 148) (pc2 := 127) (by decide +kernel) (by decide) rfl ?_ ?_
            · refine g_seg0 (pc' := 149) (L' := [some (vR (kO 9) 0), some (vI v1), some (vI v2), some (vI v3), some (vI v4), some (vI (u.1 13 (nc (1 + (3 * v4))))), some (vI (u.1 13 (nc (2 + (3 * v4))))), some (vI (u.1 13 (nc (3 + (3 * v4))))), none]) (st' := [vI 0]) (u1 := q7.2) [(oC 0, 1)] (by decide +kernel) rfl rfl ?_
              exact tX10_judged_149 (fX10_judged_31 n) ih v1 v2 v3 v4 (u.1 13 (nc (1 + (3 * v4)))) (u.1 13 (nc (2 + (3 * v4)))) (u.1 13 (nc (3 + (3 * v4)))) 0 q7.2
            · refine g_goto (off := 17) (tgt := 144) (by decide +kernel) (by decide) ?_
              refine g_seg0 (pc' := 145) (L' := [some (vR (kO 9) 0), some (vI v1), some (vI v2), some (vI v3), some (vI v4), some (vI (u.1 13 (nc (1 + (3 * v4))))), some (vI (u.1 13 (nc (2 + (3 * v4))))), some (vI (u.1 13 (nc (3 + (3 * v4))))), none]) (st' := [vI 1]) (u1 := q7.2) [(oC 1, 1)] (by decide +kernel) rfl rfl ?_
              refine g_goto (off := 4) (tgt := 149) (by decide +kernel) (by decide) ?_
              exact tX10_judged_149 (fX10_judged_31 n) ih v1 v2 v3 v4 (u.1 13 (nc (1 + (3 * v4)))) (u.1 13 (nc (2 + (3 * v4)))) (u.1 13 (nc (3 + (3 * v4)))) 1 q7.2
        · refine g_seg0 (pc' := 98) (L' := [some (vR (kO 9) 0), some (vI v1), some (vI v2), some (vI v3), some (vI v4), some (vI (u.1 13 (nc (1 + (3 * v4))))), some (vI (u.1 13 (nc (2 + (3 * v4))))), some (vI (u.1 13 (nc (3 + (3 * v4))))), none]) (st' := [vI (u.1 13 (nc (2 + (3 * v4)))), vI 987, vR (kO 9) 0]) (u1 := u) [(oL 2 0, 1), (oC 987, 3), (oL 0 6, 2)] (by decide +kernel) rfl rfl ?_
          refine g_callV (k := 348) (pc2 := 101) (st := []) (CX10_mayBuy 987 (u.1 13 (nc (2 + (3 * v4)))) u) miX10_mayBuy mvX10_mayBuy rfl (by decide) lk9_348 wI_ok (by decide +kernel) rfl (Nat.le_of_ble_eq_true rfl) (by decide) rfl (fun q8 hq8 => ?_)
          refine g_zeq (off := 47) (tgt := 148) (pc2 := 104) (by decide +kernel) (by decide) rfl ?_ ?_
          · refine g_seg0 (pc' := 149) (L' := [some (vR (kO 9) 0), some (vI v1), some (vI v2), some (vI v3), some (vI v4), some (vI (u.1 13 (nc (1 + (3 * v4))))), some (vI (u.1 13 (nc (2 + (3 * v4))))), some (vI (u.1 13 (nc (3 + (3 * v4))))), none]) (st' := [vI 0]) (u1 := q8.2) [(oC 0, 1)] (by decide +kernel) rfl rfl ?_
            exact tX10_judged_149 (fX10_judged_31 n) ih v1 v2 v3 v4 (u.1 13 (nc (1 + (3 * v4)))) (u.1 13 (nc (2 + (3 * v4)))) (u.1 13 (nc (3 + (3 * v4)))) 0 q8.2
          · refine g_goto (off := 40) (tgt := 144) (by decide +kernel) (by decide) ?_
            refine g_seg0 (pc' := 145) (L' := [some (vR (kO 9) 0), some (vI v1), some (vI v2), some (vI v3), some (vI v4), some (vI (u.1 13 (nc (1 + (3 * v4))))), some (vI (u.1 13 (nc (2 + (3 * v4))))), some (vI (u.1 13 (nc (3 + (3 * v4))))), none]) (st' := [vI 1]) (u1 := q8.2) [(oC 1, 1)] (by decide +kernel) rfl rfl ?_
            refine g_goto (off := 4) (tgt := 149) (by decide +kernel) (by decide) ?_
            exact tX10_judged_149 (fX10_judged_31 n) ih v1 v2 v3 v4 (u.1 13 (nc (1 + (3 * v4)))) (u.1 13 (nc (2 + (3 * v4)))) (u.1 13 (nc (3 + (3 * v4)))) 1 q8.2
def fX10_judged (v1 : Int32) (u : ab_S) : Option (Int32 × ab_S) :=
  (fX10_within v1 0 2 (sI u 0 0 0)).bind fun q9 =>
    bif decide (q9.1 = 0) then (
      some ((-2), q9.2))
    else (
      (fX10_starts 987 q9.2).bind fun q10 =>
        fX10_judged_31 fu v1 (-1) (-1) 0 q10.2)
theorem tX10_judged (v1 : Int32) (u : ab_S) : ab_G 1 9 cX10_judged (some .int) 6 0 [some (vR (kO 9) 0), some (vI v1), none, none, none, none, none, none, none] [] u wI (fX10_judged v1 u) := by
  rw [fX10_judged]
  refine g_seg0 (pc' := 8) (L' := [some (vR (kO 9) 0), some (vI v1), none, none, none, none, none, none, none]) (st' := [vI 2, vI 0, vI v1]) (u1 := (sI u 0 0 0)) [(oL 2 0, 1), (oC 0, 1), (oP (.putfield 1), 3), (oL 0 1, 1), (oC 0, 1), (oC 2, 1)] (by decide +kernel) rfl rfl ?_
  refine g_callS (k := 207) (pc2 := 11) (st := []) (CX10_within v1 0 2 (sI u 0 0 0)) miX10_within msX10_within lk9_207 wI_ok (by decide +kernel) rfl (Nat.le_of_ble_eq_true rfl) (by decide) rfl (fun q9 hq9 => ?_)
  refine g_zne (off := 6) (tgt := 17) (pc2 := 14) (by decide +kernel) (by decide) rfl ?_ ?_
  · refine g_seg0 (pc' := 21) (L' := [some (vR (kO 9) 0), some (vI v1), none, none, none, none, none, none, none]) (st' := [vI 987, vR (kO 9) 0]) (u1 := q9.2) [(oL 2 0, 1), (oC 987, 3)] (by decide +kernel) rfl rfl ?_
    refine g_callV (k := 282) (pc2 := 24) (st := []) (CX10_starts 987 q9.2) miX10_starts mvX10_starts rfl (by decide) lk9_282 wV_ok (by decide +kernel) rfl (Nat.le_of_ble_eq_true rfl) (by decide) rfl (fun q10 hq10 => ?_)
    refine g_seg0 (pc' := 31) (L' := [some (vR (kO 9) 0), some (vI v1), some (vI (-1)), some (vI (-1)), some (vI 0), none, none, none, none]) (st' := []) (u1 := q10.2) [(oC (-1), 1), (oL 3 2, 1), (oC (-1), 1), (oL 3 3, 1), (oC 0, 1), (oL 3 4, 2)] (by decide +kernel) rfl rfl ?_
    exact tX10_judged_31 fu v1 (-1) (-1) 0 q10.2
  · refine g_seg0 (pc' := 16) (L' := [some (vR (kO 9) 0), some (vI v1), none, none, none, none, none, none, none]) (st' := [vI (-2)]) (u1 := q9.2) [(oC (-2), 2)] (by decide +kernel) rfl rfl ?_
    exact g_iret (by decide +kernel) rfl
theorem CX10_judged (v1 : Int32) (u : ab_S) : ab_C 1 yX10_judged cX10_judged 9 (some .int) 6 [vR (kO 9) 0, vI v1] u wI (fX10_judged v1 u) := ab_entry (by decide +kernel) rfl (by decide) (by decide) (fun _ => Nat.le_of_ble_eq_true rfl) rfl (tX10_judged v1 u)
def fX10_triesNow (u : ab_S) : Option (Unit × ab_S) :=
  (fX10_copies 0 987 22 u).bind fun q1 =>
    some ((), q1.2)
theorem tX10_triesNow (u : ab_S) : ab_G 1 9 cX10_triesNow none 1 0 [some (vR (kO 9) 0)] [] u wV (fX10_triesNow u) := by
  rw [fX10_triesNow]
  refine g_seg0 (pc' := 7) (L' := [some (vR (kO 9) 0)]) (st' := [vI 22, vI 987, vI 0, vR (kO 9) 0]) (u1 := u) [(oL 2 0, 1), (oC 0, 1), (oC 987, 3), (oC 22, 2)] (by decide +kernel) rfl rfl ?_
  refine g_callV (k := 288) (pc2 := 10) (st := []) (CX10_copies 0 987 22 u) miX10_copies mvX10_copies rfl (by decide) lk9_288 wV_ok (by decide +kernel) rfl (Nat.le_of_ble_eq_true rfl) (by decide) rfl (fun q1 hq1 => ?_)
  exact g_vret (by decide +kernel) rfl
theorem CX10_triesNow (u : ab_S) : ab_C 1 yX10_triesNow cX10_triesNow 1 none 1 [vR (kO 9) 0] u wV (fX10_triesNow u) := ab_entry (by decide +kernel) rfl (by decide) (by decide) (fun _ => Nat.le_of_ble_eq_true rfl) rfl (tX10_triesNow u)
def fX10_winner_25 : Nat → Int32 → Int32 → Int32 → ab_S → Option (Int32 × ab_S)
  | 0, _, _, _, _ => none
  | n + 1, v1, v2, v3, u =>
  bif decide (v3 < v1) then (
    (fX10_passes 987 u).bind fun q1 =>
      (fX10_winner_25 n) v1 q1.1 (v3 + 1) q1.2)
  else (
    some (v2, u))
theorem tX10_winner_25 : ∀ (n : Nat) (v1 : Int32) (v2 : Int32) (v3 : Int32) (u : ab_S), ab_G 1 9 cX10_winner (some .int) 6 25 [some (vR (kO 9) 0), some (vI v1), some (vI v2), some (vI v3)] [] u wI (fX10_winner_25 n v1 v2 v3 u) := by
  intro n
  induction n with
  | zero => intros; exact g_none
  | succ n ih =>
    intro v1 v2 v3 u
    rw [fX10_winner_25]
    refine g_seg0 (pc' := 27) (L' := [some (vR (kO 9) 0), some (vI v1), some (vI v2), some (vI v3)]) (st' := [vI v1, vI v3]) (u1 := u) [(oL 0 3, 1), (oL 0 1, 1)] (by decide +kernel) rfl rfl ?_
    refine g_ige (off := 17) (tgt := 44) (pc2 := 30) (by decide +kernel) (by decide) rfl ?_ ?_
    · refine g_seg0 (pc' := 45) (L' := [some (vR (kO 9) 0), some (vI v1), some (vI v2), some (vI v3)]) (st' := [vI v2]) (u1 := u) [(oL 0 2, 1)] (by decide +kernel) rfl rfl ?_
      exact g_iret (by decide +kernel) rfl
    · refine g_seg0 (pc' := 34) (L' := [some (vR (kO 9) 0), some (vI v1), some (vI v2), some (vI v3)]) (st' := [vI 987, vR (kO 9) 0]) (u1 := u) [(oL 2 0, 1), (oC 987, 3)] (by decide +kernel) rfl rfl ?_
      refine g_callV (k := 364) (pc2 := 37) (st := []) (CX10_passes 987 u) miX10_passes mvX10_passes rfl (by decide) lk9_364 wI_ok (by decide +kernel) rfl (Nat.le_of_ble_eq_true rfl) (by decide) rfl (fun q1 hq1 => ?_)
      refine g_seg0 (pc' := 41) (L' := [some (vR (kO 9) 0), some (vI v1), some (vI (q1.1)), some (vI (v3 + 1))]) (st' := []) (u1 := q1.2) [(oL 3 2, 1), (oN 3 1, 3)] (by decide +kernel) rfl rfl ?_
      refine g_goto (off := (-16)) (tgt := 25) (by decide +kernel) (by decide) ?_
      exact ih v1 q1.1 (v3 + 1) q1.2
def fX10_winner (v1 : Int32) (u : ab_S) : Option (Int32 × ab_S) :=
  (fX10_within v1 1 60 (sI u 0 0 0)).bind fun q2 =>
    bif decide (q2.1 = 0) then (
      some ((-1), q2.2))
    else (
      (fX10_triesNow q2.2).bind fun q3 =>
        fX10_winner_25 fu v1 (-1) 0 q3.2)
theorem tX10_winner (v1 : Int32) (u : ab_S) : ab_G 1 9 cX10_winner (some .int) 6 0 [some (vR (kO 9) 0), some (vI v1), none, none] [] u wI (fX10_winner v1 u) := by
  rw [fX10_winner]
  refine g_seg0 (pc' := 9) (L' := [some (vR (kO 9) 0), some (vI v1), none, none]) (st' := [vI 60, vI 1, vI v1]) (u1 := (sI u 0 0 0)) [(oL 2 0, 1), (oC 0, 1), (oP (.putfield 1), 3), (oL 0 1, 1), (oC 1, 1), (oC 60, 2)] (by decide +kernel) rfl rfl ?_
  refine g_callS (k := 207) (pc2 := 12) (st := []) (CX10_within v1 1 60 (sI u 0 0 0)) miX10_within msX10_within lk9_207 wI_ok (by decide +kernel) rfl (Nat.le_of_ble_eq_true rfl) (by decide) rfl (fun q2 hq2 => ?_)
  refine g_zne (off := 5) (tgt := 17) (pc2 := 15) (by decide +kernel) (by decide) rfl ?_ ?_
  · refine g_seg0 (pc' := 18) (L' := [some (vR (kO 9) 0), some (vI v1), none, none]) (st' := [vR (kO 9) 0]) (u1 := q2.2) [(oL 2 0, 1)] (by decide +kernel) rfl rfl ?_
    refine g_callV (k := 370) (pc2 := 21) (st := []) (CX10_triesNow q2.2) miX10_triesNow mvX10_triesNow rfl (by decide) lk9_370 wV_ok (by decide +kernel) rfl (Nat.le_of_ble_eq_true rfl) (by decide) rfl (fun q3 hq3 => ?_)
    refine g_seg0 (pc' := 25) (L' := [some (vR (kO 9) 0), some (vI v1), some (vI (-1)), some (vI 0)]) (st' := []) (u1 := q3.2) [(oC (-1), 1), (oL 3 2, 1), (oC 0, 1), (oL 3 3, 1)] (by decide +kernel) rfl rfl ?_
    exact tX10_winner_25 fu v1 (-1) 0 q3.2
  · refine g_seg0 (pc' := 16) (L' := [some (vR (kO 9) 0), some (vI v1), none, none]) (st' := [vI (-1)]) (u1 := q2.2) [(oC (-1), 1)] (by decide +kernel) rfl rfl ?_
    exact g_iret (by decide +kernel) rfl
theorem CX10_winner (v1 : Int32) (u : ab_S) : ab_C 1 yX10_winner cX10_winner 4 (some .int) 6 [vR (kO 9) 0, vI v1] u wI (fX10_winner v1 u) := ab_entry (by decide +kernel) rfl (by decide) (by decide) (fun _ => Nat.le_of_ble_eq_true rfl) rfl (tX10_winner v1 u)
