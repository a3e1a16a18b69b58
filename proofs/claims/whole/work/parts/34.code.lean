/-! methods, printed by program out of the listing: function, walk, contract -/
def fX10_whoNow_92 (k11 : Int32 → Int32 → ab_S → Option (Int32 × ab_S)) (k32 : Int32 → Int32 → Int32 → Int32 → ab_S → Option (Int32 × ab_S)) (v2 : Int32) (v3 : Int32) (v4 : Int32) (s0 : Int32) (s1 : Int32) (s2 : Int32) (u : ab_S) : Option (Int32 × ab_S) :=
  bif decide (s1 = s2) then (
    k32 (s0 &&& (-1)) v2 v3 (v4 + 1) u)
  else (
    k32 (s0 &&& (((1 : Int32) <<< (v4 &&& 31)) ^^^ (-1))) v2 v3 (v4 + 1) u)
theorem tX10_whoNow_92 (k11 : Int32 → Int32 → ab_S → Option (Int32 × ab_S)) (k32 : Int32 → Int32 → Int32 → Int32 → ab_S → Option (Int32 × ab_S)) (hk11 : ∀ (v1 : Int32) (v2 : Int32) (u : ab_S), ab_G 1 9 cX10_whoNow (some .int) 3 11 [some (vR (kO 9) 0), some (vI v1), some (vI v2), none, none, none] [] u wI (k11 v1 v2 u)) (hk32 : ∀ (v1 : Int32) (v2 : Int32) (v3 : Int32) (v4 : Int32) (u : ab_S), ab_G 1 9 cX10_whoNow (some .int) 3 32 [some (vR (kO 9) 0), some (vI v1), some (vI v2), some (vI v3), some (vI v4), none] [] u wI (k32 v1 v2 v3 v4 u)) (v2 : Int32) (v3 : Int32) (v4 : Int32) (s0 : Int32) (s1 : Int32) (s2 : Int32) (u : ab_S) : ab_G 1 9 cX10_whoNow (some .int) 3 92 [some (vR (kO 9) 0), none, some (vI v2), some (vI v3), some (vI v4), none] [vI s2, vI s1, vI s0] u wI (fX10_whoNow_92 k11 k32 v2 v3 v4 s0 s1 s2 u) := by
  rw [fX10_whoNow_92]
  refine g_ine (off := 7) (tgt := 99) (pc2 := 95) (by decide +kernel) (by decide) rfl ?_ ?_
  · refine g_seg0 (pc' := 110) (L' := [some (vR (kO 9) 0), some (vI (s0 &&& (((1 : Int32) <<< (v4 &&& 31)) ^^^ (-1)))), some (vI v2), some (vI v3), some (vI (v4 + 1)), none]) (st' := []) (u1 := u) [(oC 1, 1), (oL 0 4, 2), (oP .ishl, 1), (oC (-1), 1), (oP .ixor, 1), (oP .iand, 1), (oL 3 1, 1), (oN 4 1, 3)] (by decide +kernel) rfl rfl ?_
    refine g_goto (off := (-78)) (tgt := 32) (by decide +kernel) (by decide) ?_
    exact hk32 (s0 &&& (((1 : Int32) <<< (v4 &&& 31)) ^^^ (-1))) v2 v3 (v4 + 1) u
  · refine g_seg0 (pc' := 96) (L' := [some (vR (kO 9) 0), none, some (vI v2), some (vI v3), some (vI v4), none]) (st' := [vI (-1), vI s0]) (u1 := u) [(oC (-1), 1)] (by decide +kernel) rfl rfl ?_
    refine g_goto (off := 9) (tgt := 105) (by decide +kernel) (by decide) ?_
    refine g_seg0 (pc' := 110) (L' := [some (vR (kO 9) 0), some (vI (s0 &&& (-1))), some (vI v2), some (vI v3), some (vI (v4 + 1)), none]) (st' := []) (u1 := u) [(oP .iand, 1), (oL 3 1, 1), (oN 4 1, 3)] (by decide +kernel) rfl rfl ?_
    refine g_goto (off := (-78)) (tgt := 32) (by decide +kernel) (by decide) ?_
    exact hk32 (s0 &&& (-1)) v2 v3 (v4 + 1) u
def fX10_whoNow_70 (k11 : Int32 → Int32 → ab_S → Option (Int32 × ab_S)) (k32 : Int32 → Int32 → Int32 → Int32 → ab_S → Option (Int32 × ab_S)) (v1 : Int32) (v2 : Int32) (v3 : Int32) (v4 : Int32) (s0 : Int32) (u : ab_S) : Option (Int32 × ab_S) :=
  ab_gd [ab_ix (v3 + 2) 1081] (
    bif decide ((u.1 16 (nc (v3 + 2))) = 1) then (
      fX10_whoNow_92 k11 k32 v2 v3 v4 v1 s0 1 u)
    else (
      fX10_whoNow_92 k11 k32 v2 v3 v4 v1 s0 0 u))
theorem tX10_whoNow_70 (k11 : Int32 → Int32 → ab_S → Option (Int32 × ab_S)) (k32 : Int32 → Int32 → Int32 → Int32 → ab_S → Option (Int32 × ab_S)) (hk11 : ∀ (v1 : Int32) (v2 : Int32) (u : ab_S), ab_G 1 9 cX10_whoNow (some .int) 3 11 [some (vR (kO 9) 0), some (vI v1), some (vI v2), none, none, none] [] u wI (k11 v1 v2 u)) (hk32 : ∀ (v1 : Int32) (v2 : Int32) (v3 : Int32) (v4 : Int32) (u : ab_S), ab_G 1 9 cX10_whoNow (some .int) 3 32 [some (vR (kO 9) 0), some (vI v1), some (vI v2), some (vI v3), some (vI v4), none] [] u wI (k32 v1 v2 v3 v4 u)) (v1 : Int32) (v2 : Int32) (v3 : Int32) (v4 : Int32) (s0 : Int32) (u : ab_S) : ab_G 1 9 cX10_whoNow (some .int) 3 70 [some (vR (kO 9) 0), some (vI v1), some (vI v2), some (vI v3), some (vI v4), none] [vI s0] u wI (fX10_whoNow_70 k11 k32 v1 v2 v3 v4 s0 u) := by
  rw [fX10_whoNow_70]
  refine g_seg (pc' := 84) (L' := [some (vR (kO 9) 0), some (vI v1), some (vI v2), some (vI v3), some (vI v4), some (vI s0)]) (st' := [vI 1, vI (u.1 16 (nc (v3 + 2))), vI s0, vI v1]) (u1 := u) [(oL 3 5, 2), (oL 0 1, 1), (oL 0 5, 2), (oL 2 0, 1), (oP (.getfield 113), 3), (oL 0 3, 1), (oC 2, 1), (oP .iadd, 1), (oP .iaload, 1), (oC 1, 1)] (by decide +kernel) rfl rfl ?_
  refine g_ine (off := 7) (tgt := 91) (pc2 := 87) (by decide +kernel) (by decide) rfl ?_ ?_
  · refine g_seg0 (pc' := 92) (L' := [some (vR (kO 9) 0), some (vI v1), some (vI v2), some (vI v3), some (vI v4), some (vI s0)]) (st' := [vI 0, vI s0, vI v1]) (u1 := u) [(oC 0, 1)] (by decide +kernel) rfl rfl ?_
    exact g_jump [true, false, true, true, true, false] rfl (tX10_whoNow_92 k11 k32 hk11 hk32 v2 v3 v4 v1 s0 0 u)
  · refine g_seg0 (pc' := 88) (L' := [some (vR (kO 9) 0), some (vI v1), some (vI v2), some (vI v3), some (vI v4), some (vI s0)]) (st' := [vI 1, vI s0, vI v1]) (u1 := u) [(oC 1, 1)] (by decide +kernel) rfl rfl ?_
    refine g_goto (off := 4) (tgt := 92) (by decide +kernel) (by decide) ?_
    exact g_jump [true, false, true, true, true, false] rfl (tX10_whoNow_92 k11 k32 hk11 hk32 v2 v3 v4 v1 s0 1 u)
def fX10_whoNow_32 (k11 : Int32 → Int32 → ab_S → Option (Int32 × ab_S)) : Nat → Int32 → Int32 → Int32 → Int32 → ab_S → Option (Int32 × ab_S)
  | 0, _, _, _, _, _ => none
  | n + 1, v1, v2, v3, v4, u =>
  (fX10_persons u).bind fun q1 =>
    bif decide (v4 < q1.1) then (
      ab_gd [ab_ix v3 1081] (
        (fX10_fitBy v4 (q1.2.1 16 (nc v3)) 0 q1.2).bind fun q2 =>
          ab_gd [ab_ix (v3 + 1) 1081] (
            bif decide (q2.1 < (q2.2.1 16 (nc (v3 + 1)))) then (
              fX10_whoNow_70 k11 (fX10_whoNow_32 k11 n) v1 v2 v3 v4 0 q2.2)
            else (
              fX10_whoNow_70 k11 (fX10_whoNow_32 k11 n) v1 v2 v3 v4 1 q2.2))))
    else (
      k11 v1 (v2 + 1) q1.2)
theorem tX10_whoNow_32 (k11 : Int32 → Int32 → ab_S → Option (Int32 × ab_S)) (hk11 : ∀ (v1 : Int32) (v2 : Int32) (u : ab_S), ab_G 1 9 cX10_whoNow (some .int) 3 11 [some (vR (kO 9) 0), some (vI v1), some (vI v2), none, none, none] [] u wI (k11 v1 v2 u)) : ∀ (n : Nat) (v1 : Int32) (v2 : Int32) (v3 : Int32) (v4 : Int32) (u : ab_S), ab_G 1 9 cX10_whoNow (some .int) 3 32 [some (vR (kO 9) 0), some (vI v1), some (vI v2), some (vI v3), some (vI v4), none] [] u wI (fX10_whoNow_32 k11 n v1 v2 v3 v4 u) := by
  intro n
  induction n with
  | zero => intros; exact g_none
  | succ n ih =>
    intro v1 v2 v3 v4 u
    rw [fX10_whoNow_32]
    refine g_seg0 (pc' := 35) (L' := [some (vR (kO 9) 0), some (vI v1), some (vI v2), some (vI v3), some (vI v4), none]) (st' := [vR (kO 9) 0, vI v4]) (u1 := u) [(oL 0 4, 2), (oL 2 0, 1)] (by decide +kernel) rfl rfl ?_
    refine g_callV (k := 275) (pc2 := 38) (st := [vI v4]) (CX10_persons u) miX10_persons mvX10_persons rfl (by decide) lk9_275 wI_ok (by decide +kernel) rfl (Nat.le_of_ble_eq_true rfl) (by decide) rfl (fun q1 hq1 => ?_)
    refine g_ige (off := 75) (tgt := 113) (pc2 := 41) (by decide +kernel) (by decide) rfl ?_ ?_
    · refine g_seg0 (pc' := 116) (L' := [some (vR (kO 9) 0), some (vI v1), some (vI (v2 + 1)), some (vI v3), some (vI v4), none]) (st' := []) (u1 := q1.2) [(oN 2 1, 3)] (by decide +kernel) rfl rfl ?_
      refine g_goto (off := (-105)) (tgt := 11) (by decide +kernel) (by decide) ?_
      exact g_jump [true, true, true, false, false, false] rfl (hk11 v1 (v2 + 1) q1.2)
    · refine g_seg (pc' := 51) (L' := [some (vR (kO 9) 0), some (vI v1), some (vI v2), some (vI v3), some (vI v4), none]) (st' := [vI 0, vI (q1.2.1 16 (nc v3)), vI v4, vR (kO 9) 0]) (u1 := q1.2) [(oL 2 0, 1), (oL 0 4, 2), (oL 2 0, 1), (oP (.getfield 113), 3), (oL 0 3, 1), (oP .iaload, 1), (oC 0, 1)] (by decide +kernel) rfl rfl ?_
      refine g_callV (k := 306) (pc2 := 54) (st := []) (CX10_fitBy v4 (q1.2.1 16 (nc v3)) 0 q1.2) miX10_fitBy mvX10_fitBy rfl (by decide) lk9_306 wI_ok (by decide +kernel) rfl (Nat.le_of_ble_eq_true rfl) (by decide) rfl (fun q2 hq2 => ?_)
      refine g_seg (pc' := 62) (L' := [some (vR (kO 9) 0), some (vI v1), some (vI v2), some (vI v3), some (vI v4), none]) (st' := [vI (q2.2.1 16 (nc (v3 + 1))), vI (q2.1)]) (u1 := q2.2) [(oL 2 0, 1), (oP (.getfield 113), 3), (oL 0 3, 1), (oC 1, 1), (oP .iadd, 1), (oP .iaload, 1)] (by decide +kernel) rfl rfl ?_
      refine g_ilt (off := 7) (tgt := 69) (pc2 := 65) (by decide +kernel) (by decide) rfl ?_ ?_
      · refine g_seg0 (pc' := 70) (L' := [some (vR (kO 9) 0), some (vI v1), some (vI v2), some (vI v3), some (vI v4), none]) (st' := [vI 0]) (u1 := q2.2) [(oC 0, 1)] (by decide +kernel) rfl rfl ?_
        exact tX10_whoNow_70 k11 (fX10_whoNow_32 k11 n) hk11 ih v1 v2 v3 v4 0 q2.2
      · refine g_seg0 (pc' := 66) (L' := [some (vR (kO 9) 0), some (vI v1), some (vI v2), some (vI v3), some (vI v4), none]) (st' := [vI 1]) (u1 := q2.2) [(oC 1, 1)] (by decide +kernel) rfl rfl ?_
        refine g_goto (off := 4) (tgt := 70) (by decide +kernel) (by decide) ?_
        exact tX10_whoNow_70 k11 (fX10_whoNow_32 k11 n) hk11 ih v1 v2 v3 v4 1 q2.2
def fX10_whoNow_11 : Nat → Int32 → Int32 → ab_S → Option (Int32 × ab_S)
  | 0, _, _, _ => none
  | n + 1, v1, v2, u =>
  ab_gd [ab_ix 22 1081] (
    bif decide (v2 < (u.1 16 (nc 22))) then (
      fX10_whoNow_32 (fX10_whoNow_11 n) fu v1 v2 (23 + (3 * v2)) 0 u)
    else (
      some (v1, u)))
theorem tX10_whoNow_11 : ∀ (n : Nat) (v1 : Int32) (v2 : Int32) (u : ab_S), ab_G 1 9 cX10_whoNow (some .int) 3 11 [some (vR (kO 9) 0), some (vI v1), some (vI v2), none, none, none] [] u wI (fX10_whoNow_11 n v1 v2 u) := by
  intro n
  induction n with
  | zero => intros; exact g_none
  | succ n ih =>
    intro v1 v2 u
    rw [fX10_whoNow_11]
    refine g_seg (pc' := 19) (L' := [some (vR (kO 9) 0), some (vI v1), some (vI v2), none, none, none]) (st' := [vI (u.1 16 (nc 22)), vI v2]) (u1 := u) [(oL 0 2, 1), (oL 2 0, 1), (oP (.getfield 113), 3), (oC 22, 2), (oP .iaload, 1)] (by decide +kernel) rfl rfl ?_
    refine g_ige (off := 100) (tgt := 119) (pc2 := 22) (by decide +kernel) (by decide) rfl ?_ ?_
    · refine g_seg0 (pc' := 120) (L' := [some (vR (kO 9) 0), some (vI v1), some (vI v2), none, none, none]) (st' := [vI v1]) (u1 := u) [(oL 0 1, 1)] (by decide +kernel) rfl rfl ?_
      exact g_iret (by decide +kernel) rfl
    · refine g_seg0 (pc' := 32) (L' := [some (vR (kO 9) 0), some (vI v1), some (vI v2), some (vI (23 + (3 * v2))), some (vI 0), none]) (st' := []) (u1 := u) [(oC 23, 2), (oC 3, 1), (oL 0 2, 1), (oP .imul, 1), (oP .iadd, 1), (oL 3 3, 1), (oC 0, 1), (oL 3 4, 2)] (by decide +kernel) rfl rfl ?_
      exact tX10_whoNow_32 (fX10_whoNow_11 n) ih fu v1 v2 (23 + (3 * v2)) 0 u
def fX10_whoNow (u : ab_S) : Option (Int32 × ab_S) :=
  (fX10_persons u).bind fun q3 =>
    fX10_whoNow_11 fu (((1 : Int32) <<< (q3.1 &&& 31)) - 1) 0 q3.2
theorem tX10_whoNow (u : ab_S) : ab_G 1 9 cX10_whoNow (some .int) 3 0 [some (vR (kO 9) 0), none, none, none, none, none] [] u wI (fX10_whoNow u) := by
  rw [fX10_whoNow]
  refine g_seg0 (pc' := 2) (L' := [some (vR (kO 9) 0), none, none, none, none, none]) (st' := [vR (kO 9) 0, vI 1]) (u1 := u) [(oC 1, 1), (oL 2 0, 1)] (by decide +kernel) rfl rfl ?_
  refine g_callV (k := 275) (pc2 := 5) (st := [vI 1]) (CX10_persons u) miX10_persons mvX10_persons rfl (by decide) lk9_275 wI_ok (by decide +kernel) rfl (Nat.le_of_ble_eq_true rfl) (by decide) rfl (fun q3 hq3 => ?_)
  refine g_seg0 (pc' := 11) (L' := [some (vR (kO 9) 0), some (vI (((1 : Int32) <<< (q3.1 &&& 31)) - 1)), some (vI 0), none, none, none]) (st' := []) (u1 := q3.2) [(oP .ishl, 1), (oC 1, 1), (oP .isub, 1), (oL 3 1, 1), (oC 0, 1), (oL 3 2, 1)] (by decide +kernel) rfl rfl ?_
  exact tX10_whoNow_11 fu (((1 : Int32) <<< (q3.1 &&& 31)) - 1) 0 q3.2
theorem CX10_whoNow (u : ab_S) : ab_C 1 yX10_whoNow cX10_whoNow 6 (some .int) 3 [vR (kO 9) 0] u wI (fX10_whoNow u) := ab_entry (by decide +kernel) rfl (by decide) (by decide) (fun _ => Nat.le_of_ble_eq_true rfl) rfl (tX10_whoNow u)
def fX10_who (u : ab_S) : Option (Int32 × ab_S) :=
  (fX10_whoNow (sI u 0 0 0)).bind fun q1 =>
    some (q1.1, q1.2)
theorem tX10_who (u : ab_S) : ab_G 1 9 cX10_who (some .int) 4 0 [some (vR (kO 9) 0)] [] u wI (fX10_who u) := by
  rw [fX10_who]
  refine g_seg0 (pc' := 6) (L' := [some (vR (kO 9) 0)]) (st' := [vR (kO 9) 0]) (u1 := (sI u 0 0 0)) [(oL 2 0, 1), (oC 0, 1), (oP (.putfield 1), 3), (oL 2 0, 1)] (by decide +kernel) rfl rfl ?_
  refine g_callV (k := 402) (pc2 := 9) (st := []) (CX10_whoNow (sI u 0 0 0)) miX10_whoNow mvX10_whoNow rfl (by decide) lk9_402 wI_ok (by decide +kernel) rfl (Nat.le_of_ble_eq_true rfl) (by decide) rfl (fun q1 hq1 => ?_)
  exact g_iret (by decide +kernel) rfl
theorem CX10_who (u : ab_S) : ab_C 1 yX10_who cX10_who 1 (some .int) 4 [vR (kO 9) 0] u wI (fX10_who u) := ab_entry (by decide +kernel) rfl (by decide) (by decide) (fun _ => Nat.le_of_ble_eq_true rfl) rfl (tX10_who u)
def fX10_ask_136 (k23 : Int32 → Int32 → Int32 → Int32 → Int32 → ab_S → Option (Int32 × ab_S)) (k35 : Int32 → Int32 → Int32 → Int32 → Int32 → Int32 → ab_S → Option (Int32 × ab_S)) (v1 : Int32) (v2 : Int32) (v4 : Int32) (v5 : Int32) (v6 : Int32) (v8 : Int32) (s0 : Int32) (u : ab_S) : Option (Int32 × ab_S) :=
  bif decide (v8 < v4) then (
    k35 v1 v2 s0 v8 v5 (v6 + 1) u)
  else (
    k35 v1 v2 s0 v4 v5 (v6 + 1) u)
theorem tX10_ask_136 (k23 : Int32 → Int32 → Int32 → Int32 → Int32 → ab_S → Option (Int32 × ab_S)) (k35 : Int32 → Int32 → Int32 → Int32 → Int32 → Int32 → ab_S → Option (Int32 × ab_S)) (hk23 : ∀ (v1 : Int32) (v2 : Int32) (v3 : Int32) (v4 : Int32) (v5 : Int32) (u : ab_S), ab_G 1 9 cX10_ask (some .int) 4 23 [some (vR (kO 9) 0), some (vI v1), some (vI v2), some (vI v3), some (vI v4), some (vI v5), none, none, none] [] u wI (k23 v1 v2 v3 v4 v5 u)) (hk35 : ∀ (v1 : Int32) (v2 : Int32) (v3 : Int32) (v4 : Int32) (v5 : Int32) (v6 : Int32) (u : ab_S), ab_G 1 9 cX10_ask (some .int) 4 35 [some (vR (kO 9) 0), some (vI v1), some (vI v2), some (vI v3), some (vI v4), some (vI v5), some (vI v6), none, none] [] u wI (k35 v1 v2 v3 v4 v5 v6 u)) (v1 : Int32) (v2 : Int32) (v4 : Int32) (v5 : Int32) (v6 : Int32) (v8 : Int32) (s0 : Int32) (u : ab_S) : ab_G 1 9 cX10_ask (some .int) 4 136 [some (vR (kO 9) 0), some (vI v1), some (vI v2), none, some (vI v4), some (vI v5), some (vI v6), none, some (vI v8)] [vI s0] u wI (fX10_ask_136 k23 k35 v1 v2 v4 v5 v6 v8 s0 u) := by
  rw [fX10_ask_136]
  refine g_seg0 (pc' := 141) (L' := [some (vR (kO 9) 0), some (vI v1), some (vI v2), some (vI s0), some (vI v4), some (vI v5), some (vI v6), none, some (vI v8)]) (st' := [vI v4, vI v8]) (u1 := u) [(oL 3 3, 1), (oL 0 8, 2), (oL 0 4, 2)] (by decide +kernel) rfl rfl ?_
  refine g_ige (off := 8) (tgt := 149) (pc2 := 144) (by decide +kernel) (by decide) rfl ?_ ?_
  · refine g_seg0 (pc' := 156) (L' := [some (vR (kO 9) 0), some (vI v1), some (vI v2), some (vI s0), some (vI v4), some (vI v5), some (vI (v6 + 1)), none, some (vI v8)]) (st' := []) (u1 := u) [(oL 0 4, 2), (oL 3 4, 2), (oN 6 1, 3)] (by decide +kernel) rfl rfl ?_
    refine g_goto (off := (-121)) (tgt := 35) (by decide +kernel) (by decide) ?_
    exact g_jump [true, true, true, true, true, true, true, false, false] rfl (hk35 v1 v2 s0 v4 v5 (v6 + 1) u)
  · refine g_seg0 (pc' := 146) (L' := [some (vR (kO 9) 0), some (vI v1), some (vI v2), some (vI s0), some (vI v4), some (vI v5), some (vI v6), none, some (vI v8)]) (st' := [vI v8]) (u1 := u) [(oL 0 8, 2)] (by decide +kernel) rfl rfl ?_
    refine g_goto (off := 5) (tgt := 151) (by decide +kernel) (by decide) ?_
    refine g_seg0 (pc' := 156) (L' := [some (vR (kO 9) 0), some (vI v1), some (vI v2), some (vI s0), some (vI v8), some (vI v5), some (vI (v6 + 1)), none, some (vI v8)]) (st' := []) (u1 := u) [(oL 3 4, 2), (oN 6 1, 3)] (by decide +kernel) rfl rfl ?_
    refine g_goto (off := (-121)) (tgt := 35) (by decide +kernel) (by decide) ?_
    exact g_jump [true, true, true, true, true, true, true, false, false] rfl (hk35 v1 v2 s0 v8 v5 (v6 + 1) u)
def fX10_ask_115 (k23 : Int32 → Int32 → Int32 → Int32 → Int32 → ab_S → Option (Int32 × ab_S)) (k35 : Int32 → Int32 → Int32 → Int32 → Int32 → Int32 → ab_S → Option (Int32 × ab_S)) (v1 : Int32) (v2 : Int32) (v3 : Int32) (v4 : Int32) (v5 : Int32) (v6 : Int32) (s0 : Int32) (u : ab_S) : Option (Int32 × ab_S) :=
  bif decide (s0 < v4) then (
    fX10_ask_136 k23 k35 v1 v2 v4 v5 v6 s0 ((100 * v5) + v6) u)
  else (
    fX10_ask_136 k23 k35 v1 v2 v4 v5 v6 s0 v3 u)
theorem tX10_ask_115 (k23 : Int32 → Int32 → Int32 → Int32 → Int32 → ab_S → Option (Int32 × ab_S)) (k35 : Int32 → Int32 → Int32 → Int32 → Int32 → Int32 → ab_S → Option (Int32 × ab_S)) (hk23 : ∀ (v1 : Int32) (v2 : Int32) (v3 : Int32) (v4 : Int32) (v5 : Int32) (u : ab_S), ab_G 1 9 cX10_ask (some .int) 4 23 [some (vR (kO 9) 0), some (vI v1), some (vI v2), some (vI v3), some (vI v4), some (vI v5), none, none, none] [] u wI (k23 v1 v2 v3 v4 v5 u)) (hk35 : ∀ (v1 : Int32) (v2 : Int32) (v3 : Int32) (v4 : Int32) (v5 : Int32) (v6 : Int32) (u : ab_S), ab_G 1 9 cX10_ask (some .int) 4 35 [some (vR (kO 9) 0), some (vI v1), some (vI v2), some (vI v3), some (vI v4), some (vI v5), some (vI v6), none, none] [] u wI (k35 v1 v2 v3 v4 v5 v6 u)) (v1 : Int32) (v2 : Int32) (v3 : Int32) (v4 : Int32) (v5 : Int32) (v6 : Int32) (s0 : Int32) (u : ab_S) : ab_G 1 9 cX10_ask (some .int) 4 115 [some (vR (kO 9) 0), some (vI v1), some (vI v2), some (vI v3), some (vI v4), some (vI v5), some (vI v6), none, none] [vI s0] u wI (fX10_ask_115 k23 k35 v1 v2 v3 v4 v5 v6 s0 u) := by
  rw [fX10_ask_115]
  refine g_seg0 (pc' := 121) (L' := [some (vR (kO 9) 0), some (vI v1), some (vI v2), some (vI v3), some (vI v4), some (vI v5), some (vI v6), none, some (vI s0)]) (st' := [vI v4, vI s0]) (u1 := u) [(oL 3 8, 2), (oL 0 8, 2), (oL 0 4, 2)] (by decide +kernel) rfl rfl ?_
  refine g_ige (off := 14) (tgt := 135) (pc2 := 124) (by decide +kernel) (by decide) rfl ?_ ?_
  · refine g_seg0 (pc' := 136) (L' := [some (vR (kO 9) 0), some (vI v1), some (vI v2), some (vI v3), some (vI v4), some (vI v5), some (vI v6), none, some (vI s0)]) (st' := [vI v3]) (u1 := u) [(oL 0 3, 1)] (by decide +kernel) rfl rfl ?_
    exact g_jump [true, true, true, false, true, true, true, false, true] rfl (tX10_ask_136 k23 k35 hk23 hk35 v1 v2 v4 v5 v6 s0 v3 u)
  · refine g_seg0 (pc' := 132) (L' := [some (vR (kO 9) 0), some (vI v1), some (vI v2), some (vI v3), some (vI v4), some (vI v5), some (vI v6), none, some (vI s0)]) (st' := [vI ((100 * v5) + v6)]) (u1 := u) [(oC 100, 2), (oL 0 5, 2), (oP .imul, 1), (oL 0 6, 2), (oP .iadd, 1)] (by decide +kernel) rfl rfl ?_
    refine g_goto (off := 4) (tgt := 136) (by decide +kernel) (by decide) ?_
    exact g_jump [true, true, true, false, true, true, true, false, true] rfl (tX10_ask_136 k23 k35 hk23 hk35 v1 v2 v4 v5 v6 s0 ((100 * v5) + v6) u)
def fX10_ask_48 (k23 : Int32 → Int32 → Int32 → Int32 → Int32 → ab_S → Option (Int32 × ab_S)) (k35 : Int32 → Int32 → Int32 → Int32 → Int32 → Int32 → ab_S → Option (Int32 × ab_S)) : Nat → Int32 → Int32 → Int32 → Int32 → Int32 → Int32 → Int32 → Int32 → ab_S → Option (Int32 × ab_S)
  | 0, _, _, _, _, _, _, _, _, _ => none
  | n + 1, v1, v2, v3, v4, v5, v6, v7, v8, u =>
  (fX10_persons u).bind fun q1 =>
    bif decide (v8 < q1.1) then (
      bif decide (((v1 >>> (v8 &&& 31)) &&& 1) = 1) then (
        (fX10_fitBy v8 v5 0 q1.2).bind fun q2 =>
          bif decide (q2.1 < v6) then (
            (fX10_ask_48 k23 k35 n) v1 v2 v3 v4 v5 v6 (v7 + 0) (v8 + 1) q2.2)
          else (
            (fX10_ask_48 k23 k35 n) v1 v2 v3 v4 v5 v6 (v7 + 1) (v8 + 1) q2.2))
      else (
        (fX10_ask_48 k23 k35 n) v1 v2 v3 v4 v5 v6 (v7 + 0) (v8 + 1) q1.2))
    else (
      bif decide (v7 ≤ (v2 - v7)) then (
        fX10_ask_115 k23 k35 v1 v2 v3 v4 v5 v6 (v2 - v7) q1.2)
      else (
        fX10_ask_115 k23 k35 v1 v2 v3 v4 v5 v6 v7 q1.2))
theorem tX10_ask_48 (k23 : Int32 → Int32 → Int32 → Int32 → Int32 → ab_S → Option (Int32 × ab_S)) (k35 : Int32 → Int32 → Int32 → Int32 → Int32 → Int32 → ab_S → Option (Int32 × ab_S)) (hk23 : ∀ (v1 : Int32) (v2 : Int32) (v3 : Int32) (v4 : Int32) (v5 : Int32) (u : ab_S), ab_G 1 9 cX10_ask (some .int) 4 23 [some (vR (kO 9) 0), some (vI v1), some (vI v2), some (vI v3), some (vI v4), some (vI v5), none, none, none] [] u wI (k23 v1 v2 v3 v4 v5 u)) (hk35 : ∀ (v1 : Int32) (v2 : Int32) (v3 : Int32) (v4 : Int32) (v5 : Int32) (v6 : Int32) (u : ab_S), ab_G 1 9 cX10_ask (some .int) 4 35 [some (vR (kO 9) 0), some (vI v1), some (vI v2), some (vI v3), some (vI v4), some (vI v5), some (vI v6), none, none] [] u wI (k35 v1 v2 v3 v4 v5 v6 u)) : ∀ (n : Nat) (v1 : Int32) (v2 : Int32) (v3 : Int32) (v4 : Int32) (v5 : Int32) (v6 : Int32) (v7 : Int32) (v8 : Int32) (u : ab_S), ab_G 1 9 cX10_ask (some .int) 4 48 [some (vR (kO 9) 0), some (vI v1), some (vI v2), some (vI v3), some (vI v4), some (vI v5), some (vI v6), some (vI v7), some (vI v8)] [] u wI (fX10_ask_48 k23 k35 n v1 v2 v3 v4 v5 v6 v7 v8 u) := by
  intro n
  induction n with
  | zero => intros; exact g_none
  | succ n ih =>
    intro v1 v2 v3 v4 v5 v6 v7 v8 u
    rw [fX10_ask_48]
    refine g_seg0 (pc' := 51) (L' := [some (vR (kO 9) 0), some (vI v1), some (vI v2), some (vI v3), some (vI v4), some (vI v5), some (vI v6), some (vI v7), some (vI v8)]) (st' := [vR (kO 9) 0, vI v8]) (u1 := u) [(oL 0 8, 2), (oL 2 0, 1)] (by decide +kernel) rfl rfl ?_
    refine g_callV (k := 275) (pc2 := 54) (st := [vI v8]) (CX10_persons u) miX10_persons mvX10_persons rfl (by decide) lk9_275 wI_ok (by decide +kernel) rfl (Nat.le_of_ble_eq_true rfl) (by decide) rfl (fun q1 hq1 => ?_)
    refine g_ige (off := 43) (tgt := 97) (pc2 := 57) (by decide +kernel) (by decide) rfl ?_ ?_
    · refine g_seg0 (pc' := 103) (L' := [some (vR (kO 9) 0), some (vI v1), some (vI v2), some (vI v3), some (vI v4), some (vI v5), some (vI v6), some (vI v7), some (vI v8)]) (st' := [vI (v2 - v7), vI v7]) (u1 := q1.2) [(oL 0 7, 2), (oL 0 2, 1), (oL 0 7, 2), (oP .isub, 1)] (by decide +kernel) rfl rfl ?_
      refine g_ile (off := 8) (tgt := 111) (pc2 := 106) (by decide +kernel) (by decide) rfl ?_ ?_
      · refine g_seg0 (pc' := 115) (L' := [some (vR (kO 9) 0), some (vI v1), some (vI v2), some (vI v3), some (vI v4), some (vI v5), some (vI v6), some (vI v7), some (vI v8)]) (st' := [vI (v2 - v7)]) (u1 := q1.2) [(oL 0 2, 1), (oL 0 7, 2), (oP .isub, 1)] (by decide +kernel) rfl rfl ?_
        exact g_jump [true, true, true, true, true, true, true, false, false] rfl (tX10_ask_115 k23 k35 hk23 hk35 v1 v2 v3 v4 v5 v6 (v2 - v7) q1.2)
      · refine g_seg0 (pc' := 108) (L' := [some (vR (kO 9) 0), some (vI v1), some (vI v2), some (vI v3), some (vI v4), some (vI v5), some (vI v6), some (vI v7), some (vI v8)]) (st' := [vI v7]) (u1 := q1.2) [(oL 0 7, 2)] (by decide +kernel) rfl rfl ?_
        refine g_goto (off := 7) (tgt := 115) (by decide +kernel) (by decide) ?_
        exact g_jump [true, true, true, true, true, true, true, false, false] rfl (tX10_ask_115 k23 k35 hk23 hk35 v1 v2 v3 v4 v5 v6 v7 q1.2)
    · refine g_seg0 (pc' := 66) (L' := [some (vR (kO 9) 0), some (vI v1), some (vI v2), some (vI v3), some (vI v4), some (vI v5), some (vI v6), some (vI v7), some (vI v8)]) (st' := [vI 1, vI ((v1 >>> (v8 &&& 31)) &&& 1), vI v7]) (u1 := q1.2) [(oL 0 7, 2), (oL 0 1, 1), (oL 0 8, 2), (oP .ishr, 1), (oC 1, 1), (oP .iand, 1), (oC 1, 1)] (by decide +kernel) rfl rfl ?_
      refine g_ine (off := 21) (tgt := 87) (pc2 := 69) (by decide +kernel) (by decide) rfl ?_ ?_
      · refine g_seg0 (pc' := 94) (L' := [some (vR (kO 9) 0), some (vI v1), some (vI v2), some (vI v3), some (vI v4), some (vI v5), some (vI v6), some (vI (v7 + 0)), some (vI (v8 + 1))]) (st' := []) (u1 := q1.2) [(oC 0, 1), (oP .iadd, 1), (oL 3 7, 2), (oN 8 1, 3)] (by decide +kernel) rfl rfl ?_
        refine g_goto (off := (-46)) (tgt := 48) (by decide +kernel) (by decide) ?_
        exact ih v1 v2 v3 v4 v5 v6 (v7 + 0) (v8 + 1) q1.2
      · refine g_seg0 (pc' := 75) (L' := [some (vR (kO 9) 0), some (vI v1), some (vI v2), some (vI v3), some (vI v4), some (vI v5), some (vI v6), some (vI v7), some (vI v8)]) (st' := [vI 0, vI v5, vI v8, vR (kO 9) 0, vI v7]) (u1 := q1.2) [(oL 2 0, 1), (oL 0 8, 2), (oL 0 5, 2), (oC 0, 1)] (by decide +kernel) rfl rfl ?_
        refine g_callV (k := 306) (pc2 := 78) (st := [vI v7]) (CX10_fitBy v8 v5 0 q1.2) miX10_fitBy mvX10_fitBy rfl (by decide) lk9_306 wI_ok (by decide +kernel) rfl (Nat.le_of_ble_eq_true rfl) (by decide) rfl (fun q2 hq2 => ?_)
        refine g_seg0 (pc' := 80) (L' := [some (vR (kO 9) 0), some (vI v1), some (vI v2), some (vI v3), some (vI v4), some (vI v5), some (vI v6), some (vI v7), some (vI v8)]) (st' := [vI v6, vI (q2.1), vI v7]) (u1 := q2.2) [(oL 0 6, 2)] (by decide +kernel) rfl rfl ?_
        refine g_ilt (off := 7) (tgt := 87) (pc2 := 83) (by decide +kernel) (by decide) rfl ?_ ?_
        · refine g_seg0 (pc' := 94) (L' := [some (vR (kO 9) 0), some (vI v1), some (vI v2), some (vI v3), some (vI v4), some (vI v5), some (vI v6), some (vI (v7 + 0)), some (vI (v8 + 1))]) (st' := []) (u1 := q2.2) [(oC 0, 1), (oP .iadd, 1), (oL 3 7, 2), (oN 8 1, 3)] (by decide +kernel) rfl rfl ?_
          refine g_goto (off := (-46)) (tgt := 48) (by decide +kernel) (by decide) ?_
          exact ih v1 v2 v3 v4 v5 v6 (v7 + 0) (v8 + 1) q2.2
        · refine g_seg0 (pc' := 84) (L' := [some (vR (kO 9) 0), some (vI v1), some (vI v2), some (vI v3), some (vI v4), some (vI v5), some (vI v6), some (vI v7), some (vI v8)]) (st' := [vI 1, vI v7]) (u1 := q2.2) [(oC 1, 1)] (by decide +kernel) rfl rfl ?_
          refine g_goto (off := 4) (tgt := 88) (by decide +kernel) (by decide) ?_
          refine g_seg0 (pc' := 94) (L' := [some (vR (kO 9) 0), some (vI v1), some (vI v2), some (vI v3), some (vI v4), some (vI v5), some (vI v6), some (vI (v7 + 1)), some (vI (v8 + 1))]) (st' := []) (u1 := q2.2) [(oP .iadd, 1), (oL 3 7, 2), (oN 8 1, 3)] (by decide +kernel) rfl rfl ?_
          refine g_goto (off := (-46)) (tgt := 48) (by decide +kernel) (by decide) ?_
          exact ih v1 v2 v3 v4 v5 v6 (v7 + 1) (v8 + 1) q2.2
def fX10_ask_35 (k23 : Int32 → Int32 → Int32 → Int32 → Int32 → ab_S → Option (Int32 × ab_S)) : Nat → Int32 → Int32 → Int32 → Int32 → Int32 → Int32 → ab_S → Option (Int32 × ab_S)
  | 0, _, _, _, _, _, _, _ => none
  | n + 1, v1, v2, v3, v4, v5, v6, u =>
  bif decide (v6 ≤ 99) then (
    fX10_ask_48 k23 (fX10_ask_35 k23 n) fu v1 v2 v3 v4 v5 v6 0 0 u)
  else (
    k23 v1 v2 v3 v4 (v5 + 1) u)
theorem tX10_ask_35 (k23 : Int32 → Int32 → Int32 → Int32 → Int32 → ab_S → Option (Int32 × ab_S)) (hk23 : ∀ (v1 : Int32) (v2 : Int32) (v3 : Int32) (v4 : Int32) (v5 : Int32) (u : ab_S), ab_G 1 9 cX10_ask (some .int) 4 23 [some (vR (kO 9) 0), some (vI v1), some (vI v2), some (vI v3), some (vI v4), some (vI v5), none, none, none] [] u wI (k23 v1 v2 v3 v4 v5 u)) : ∀ (n : Nat) (v1 : Int32) (v2 : Int32) (v3 : Int32) (v4 : Int32) (v5 : Int32) (v6 : Int32) (u : ab_S), ab_G 1 9 cX10_ask (some .int) 4 35 [some (vR (kO 9) 0), some (vI v1), some (vI v2), some (vI v3), some (vI v4), some (vI v5), some (vI v6), none, none] [] u wI (fX10_ask_35 k23 n v1 v2 v3 v4 v5 v6 u) := by
  intro n
  induction n with
  | zero => intros; exact g_none
  | succ n ih =>
    intro v1 v2 v3 v4 v5 v6 u
    rw [fX10_ask_35]
    refine g_seg0 (pc' := 39) (L' := [some (vR (kO 9) 0), some (vI v1), some (vI v2), some (vI v3), some (vI v4), some (vI v5), some (vI v6), none, none]) (st' := [vI 99, vI v6]) (u1 := u) [(oL 0 6, 2), (oC 99, 2)] (by decide +kernel) rfl rfl ?_
    refine g_igt (off := 120) (tgt := 159) (pc2 := 42) (by decide +kernel) (by decide) rfl ?_ ?_
    · refine g_seg0 (pc' := 162) (L' := [some (vR (kO 9) 0), some (vI v1), some (vI v2), some (vI v3), some (vI v4), some (vI (v5 + 1)), some (vI v6), none, none]) (st' := []) (u1 := u) [(oN 5 1, 3)] (by decide +kernel) rfl rfl ?_
      refine g_goto (off := (-139)) (tgt := 23) (by decide +kernel) (by decide) ?_
      exact g_jump [true, true, true, true, true, true, false, false, false] rfl (hk23 v1 v2 v3 v4 (v5 + 1) u)
    · refine g_seg0 (pc' := 48) (L' := [some (vR (kO 9) 0), some (vI v1), some (vI v2), some (vI v3), some (vI v4), some (vI v5), some (vI v6), some (vI 0), some (vI 0)]) (st' := []) (u1 := u) [(oC 0, 1), (oL 3 7, 2), (oC 0, 1), (oL 3 8, 2)] (by decide +kernel) rfl rfl ?_
      exact tX10_ask_48 k23 (fX10_ask_35 k23 n) hk23 ih fu v1 v2 v3 v4 v5 v6 0 0 u
def fX10_ask_23 : Nat → Int32 → Int32 → Int32 → Int32 → Int32 → ab_S → Option (Int32 × ab_S)
  | 0, _, _, _, _, _, _ => none
  | n + 1, v1, v2, v3, v4, v5, u =>
  (fX10_goods u).bind fun q3 =>
    bif decide (v5 < q3.1) then (
      fX10_ask_35 (fX10_ask_23 n) fu v1 v2 v3 v4 v5 1 q3.2)
    else (
      some (v3, q3.2))
theorem tX10_ask_23 : ∀ (n : Nat) (v1 : Int32) (v2 : Int32) (v3 : Int32) (v4 : Int32) (v5 : Int32) (u : ab_S), ab_G 1 9 cX10_ask (some .int) 4 23 [some (vR (kO 9) 0), some (vI v1), some (vI v2), some (vI v3), some (vI v4), some (vI v5), none, none, none] [] u wI (fX10_ask_23 n v1 v2 v3 v4 v5 u) := by
  intro n
  induction n with
  | zero => intros; exact g_none
  | succ n ih =>
    intro v1 v2 v3 v4 v5 u
    rw [fX10_ask_23]
    refine g_seg0 (pc' := 26) (L' := [some (vR (kO 9) 0), some (vI v1), some (vI v2), some (vI v3), some (vI v4), some (vI v5), none, none, none]) (st' := [vR (kO 9) 0, vI v5]) (u1 := u) [(oL 0 5, 2), (oL 2 0, 1)] (by decide +kernel) rfl rfl ?_
    refine g_callV (k := 291) (pc2 := 29) (st := [vI v5]) (CX10_goods u) miX10_goods mvX10_goods rfl (by decide) lk9_291 wI_ok (by decide +kernel) rfl (Nat.le_of_ble_eq_true rfl) (by decide) rfl (fun q3 hq3 => ?_)
    refine g_ige (off := 136) (tgt := 165) (pc2 := 32) (by decide +kernel) (by decide) rfl ?_ ?_
    · refine g_seg0 (pc' := 166) (L' := [some (vR (kO 9) 0), some (vI v1), some (vI v2), some (vI v3), some (vI v4), some (vI v5), none, none, none]) (st' := [vI v3]) (u1 := q3.2) [(oL 0 3, 1)] (by decide +kernel) rfl rfl ?_
      exact g_iret (by decide +kernel) rfl
    · refine g_seg0 (pc' := 35) (L' := [some (vR (kO 9) 0), some (vI v1), some (vI v2), some (vI v3), some (vI v4), some (vI v5), some (vI 1), none, none]) (st' := []) (u1 := q3.2) [(oC 1, 1), (oL 3 6, 2)] (by decide +kernel) rfl rfl ?_
      exact tX10_ask_35 (fX10_ask_23 n) ih fu v1 v2 v3 v4 v5 1 q3.2
def fX10_ask (u : ab_S) : Option (Int32 × ab_S) :=
  (fX10_whoNow (sI u 0 0 0)).bind fun q4 =>
    (fX10_bits q4.1 q4.2).bind fun q5 =>
      fX10_ask_23 fu q4.1 q5.1 (-1) q5.1 0 q5.2
theorem tX10_ask (u : ab_S) : ab_G 1 9 cX10_ask (some .int) 4 0 [some (vR (kO 9) 0), none, none, none, none, none, none, none, none] [] u wI (fX10_ask u) := by
  rw [fX10_ask]
  refine g_seg0 (pc' := 6) (L' := [some (vR (kO 9) 0), none, none, none, none, none, none, none, none]) (st' := [vR (kO 9) 0]) (u1 := (sI u 0 0 0)) [(oL 2 0, 1), (oC 0, 1), (oP (.putfield 1), 3), (oL 2 0, 1)] (by decide +kernel) rfl rfl ?_
  refine g_callV (k := 402) (pc2 := 9) (st := []) (CX10_whoNow (sI u 0 0 0)) miX10_whoNow mvX10_whoNow rfl (by decide) lk9_402 wI_ok (by decide +kernel) rfl (Nat.le_of_ble_eq_true rfl) (by decide) rfl (fun q4 hq4 => ?_)
  refine g_seg0 (pc' := 11) (L' := [some (vR (kO 9) 0), some (vI (q4.1)), none, none, none, none, none, none, none]) (st' := [vI (q4.1)]) (u1 := q4.2) [(oL 3 1, 1), (oL 0 1, 1)] (by decide +kernel) rfl rfl ?_
  refine g_callS (k := 303) (pc2 := 14) (st := []) (CX10_bits q4.1 q4.2) miX10_bits msX10_bits lk9_303 wI_ok (by decide +kernel) rfl (Nat.le_of_ble_eq_true rfl) (by decide) rfl (fun q5 hq5 => ?_)
  refine g_seg0 (pc' := 23) (L' := [some (vR (kO 9) 0), some (vI (q4.1)), some (vI (q5.1)), some (vI (-1)), some (vI (q5.1)), some (vI 0), none, none, none]) (st' := []) (u1 := q5.2) [(oL 3 2, 1), (oC (-1), 1), (oL 3 3, 1), (oL 0 2, 1), (oL 3 4, 2), (oC 0, 1), (oL 3 5, 2)] (by decide +kernel) rfl rfl ?_
  exact tX10_ask_23 fu q4.1 q5.1 (-1) q5.1 0 q5.2
theorem CX10_ask (u : ab_S) : ab_C 1 yX10_ask cX10_ask 9 (some .int) 4 [vR (kO 9) 0] u wI (fX10_ask u) := ab_entry (by decide +kernel) rfl (by decide) (by decide) (fun _ => Nat.le_of_ble_eq_true rfl) rfl (tX10_ask u)
def fX10_rich_9 : Nat → Int32 → Int32 → ab_S → Option (Int32 × ab_S)
  | 0, _, _, _ => none
  | n + 1, v1, v2, u =>
  (fX10_persons u).bind fun q1 =>
    bif decide (v2 < q1.1) then (
      bif decide (v1 < 0) then (
        (fX10_rich_9 n) v2 (v2 + 1) q1.2)
      else (
        ab_gd [ab_ix (10 + v2) 1081, ab_ix (10 + v1) 1081] (
          bif decide ((q1.2.1 16 (nc (10 + v2))) ≤ (q1.2.1 16 (nc (10 + v1)))) then (
            (fX10_rich_9 n) v1 (v2 + 1) q1.2)
          else (
            (fX10_rich_9 n) v2 (v2 + 1) q1.2))))
    else (
      some (v1, q1.2))
theorem tX10_rich_9 : ∀ (n : Nat) (v1 : Int32) (v2 : Int32) (u : ab_S), ab_G 1 9 cX10_rich (some .int) 1 9 [some (vR (kO 9) 0), some (vI v1), some (vI v2)] [] u wI (fX10_rich_9 n v1 v2 u) := by
  intro n
  induction n with
  | zero => intros; exact g_none
  | succ n ih =>
    intro v1 v2 u
    rw [fX10_rich_9]
    refine g_seg0 (pc' := 11) (L' := [some (vR (kO 9) 0), some (vI v1), some (vI v2)]) (st' := [vR (kO 9) 0, vI v2]) (u1 := u) [(oL 0 2, 1), (oL 2 0, 1)] (by decide +kernel) rfl rfl ?_
    refine g_callV (k := 275) (pc2 := 14) (st := [vI v2]) (CX10_persons u) miX10_persons mvX10_persons rfl (by decide) lk9_275 wI_ok (by decide +kernel) rfl (Nat.le_of_ble_eq_true rfl) (by decide) rfl (fun q1 hq1 => ?_)
    refine g_ige (off := 40) (tgt := 54) (pc2 := 17) (by decide +kernel) (by decide) rfl ?_ ?_
    · refine g_seg0 (pc' := 55) (L' := [some (vR (kO 9) 0), some (vI v1), some (vI v2)]) (st' := [vI v1]) (u1 := q1.2) [(oL 0 1, 1)] (by decide +kernel) rfl rfl ?_
      exact g_iret (by decide +kernel) rfl
    · refine g_seg0 (pc' := 18) (L' := [some (vR (kO 9) 0), some (vI v1), some (vI v2)]) (st' := [vI v1]) (u1 := q1.2) [(oL 0 1, 1)] (by decide +kernel) rfl rfl ?_
      refine g_zlt (off := 24) (tgt := 42) (pc2 := 21) (by decide +kernel) (by decide) rfl ?_ ?_
      · refine g_seg0 (pc' := 43) (L' := [some (vR (kO 9) 0), some (vI v1), some (vI v2)]) (st' := [vI v2]) (u1 := q1.2) [(oL 0 2, 1)] (by decide +kernel) rfl rfl ?_
        refine g_goto (off := 4) (tgt := 47) (by decide +kernel) (by decide) ?_
        refine g_seg0 (pc' := 51) (L' := [some (vR (kO 9) 0), some (vI v2), some (vI (v2 + 1))]) (st' := []) (u1 := q1.2) [(oL 3 1, 1), (oN 2 1, 3)] (by decide +kernel) rfl rfl ?_
        refine g_goto (off := (-42)) (tgt := 9) (by decide +kernel) (by decide) ?_
        exact ih v2 (v2 + 1) q1.2
      · refine g_seg (pc' := 39) (L' := [some (vR (kO 9) 0), some (vI v1), some (vI v2)]) (st' := [vI (q1.2.1 16 (nc (10 + v1))), vI (q1.2.1 16 (nc (10 + v2)))]) (u1 := q1.2) [(oL 2 0, 1), (oP (.getfield 113), 3), (oC 10, 2), (oL 0 2, 1), (oP .iadd, 1), (oP .iaload, 1), (oL 2 0, 1), (oP (.getfield 113), 3), (oC 10, 2), (oL 0 1, 1), (oP .iadd, 1), (oP .iaload, 1)] (by decide +kernel) rfl rfl ?_
        refine g_ile (off := 7) (tgt := 46) (pc2 := 42) (by decide +kernel) (by decide) rfl ?_ ?_
        · refine g_seg0 (pc' := 51) (L' := [some (vR (kO 9) 0), some (vI v1), some (vI (v2 + 1))]) (st' := []) (u1 := q1.2) [(oL 0 1, 1), (oL 3 1, 1), (oN 2 1, 3)] (by decide +kernel) rfl rfl ?_
          refine g_goto (off := (-42)) (tgt := 9) (by decide +kernel) (by decide) ?_
          exact ih v1 (v2 + 1) q1.2
        · refine g_seg0 (pc' := 43) (L' := [some (vR (kO 9) 0), some (vI v1), some (vI v2)]) (st' := [vI v2]) (u1 := q1.2) [(oL 0 2, 1)] (by decide +kernel) rfl rfl ?_
          refine g_goto (off := 4) (tgt := 47) (by decide +kernel) (by decide) ?_
          refine g_seg0 (pc' := 51) (L' := [some (vR (kO 9) 0), some (vI v2), some (vI (v2 + 1))]) (st' := []) (u1 := q1.2) [(oL 3 1, 1), (oN 2 1, 3)] (by decide +kernel) rfl rfl ?_
          refine g_goto (off := (-42)) (tgt := 9) (by decide +kernel) (by decide) ?_
          exact ih v2 (v2 + 1) q1.2
def fX10_rich (u : ab_S) : Option (Int32 × ab_S) :=
  fX10_rich_9 fu (-1) 0 (sI u 0 0 0)
theorem tX10_rich (u : ab_S) : ab_G 1 9 cX10_rich (some .int) 1 0 [some (vR (kO 9) 0), none, none] [] u wI (fX10_rich u) := by
  rw [fX10_rich]
  refine g_seg0 (pc' := 9) (L' := [some (vR (kO 9) 0), some (vI (-1)), some (vI 0)]) (st' := []) (u1 := (sI u 0 0 0)) [(oL 2 0, 1), (oC 0, 1), (oP (.putfield 1), 3), (oC (-1), 1), (oL 3 1, 1), (oC 0, 1), (oL 3 2, 1)] (by decide +kernel) rfl rfl ?_
  exact tX10_rich_9 fu (-1) 0 (sI u 0 0 0)
theorem CX10_rich (u : ab_S) : ab_C 1 yX10_rich cX10_rich 3 (some .int) 1 [vR (kO 9) 0] u wI (fX10_rich u) := ab_entry (by decide +kernel) rfl (by decide) (by decide) (fun _ => Nat.le_of_ble_eq_true rfl) rfl (tX10_rich u)
def fX10_sad_9 : Nat → Int32 → Int32 → ab_S → Option (Int32 × ab_S)
  | 0, _, _, _ => none
  | n + 1, v1, v2, u =>
  (fX10_persons u).bind fun q1 =>
    bif decide (v2 < q1.1) then (
      bif decide (v1 < 0) then (
        (fX10_sad_9 n) v2 (v2 + 1) q1.2)
      else (
        (fX10_joyOf 0 v2 q1.2).bind fun q2 =>
          (fX10_joyOf 0 v1 q2.2).bind fun q3 =>
            bif decide (q2.1 < q3.1) then (
              (fX10_sad_9 n) v2 (v2 + 1) q3.2)
            else (
              (fX10_sad_9 n) v1 (v2 + 1) q3.2)))
    else (
      some (v1, q1.2))
theorem tX10_sad_9 : ∀ (n : Nat) (v1 : Int32) (v2 : Int32) (u : ab_S), ab_G 1 9 cX10_sad (some .int) 5 9 [some (vR (kO 9) 0), some (vI v1), some (vI v2)] [] u wI (fX10_sad_9 n v1 v2 u) := by
  intro n
  induction n with
  | zero => intros; exact g_none
  | succ n ih =>
    intro v1 v2 u
    rw [fX10_sad_9]
    refine g_seg0 (pc' := 11) (L' := [some (vR (kO 9) 0), some (vI v1), some (vI v2)]) (st' := [vR (kO 9) 0, vI v2]) (u1 := u) [(oL 0 2, 1), (oL 2 0, 1)] (by decide +kernel) rfl rfl ?_
    refine g_callV (k := 275) (pc2 := 14) (st := [vI v2]) (CX10_persons u) miX10_persons mvX10_persons rfl (by decide) lk9_275 wI_ok (by decide +kernel) rfl (Nat.le_of_ble_eq_true rfl) (by decide) rfl (fun q1 hq1 => ?_)
    refine g_ige (off := 34) (tgt := 48) (pc2 := 17) (by decide +kernel) (by decide) rfl ?_ ?_
    · refine g_seg0 (pc' := 49) (L' := [some (vR (kO 9) 0), some (vI v1), some (vI v2)]) (st' := [vI v1]) (u1 := q1.2) [(oL 0 1, 1)] (by decide +kernel) rfl rfl ?_
      exact g_iret (by decide +kernel) rfl
    · refine g_seg0 (pc' := 18) (L' := [some (vR (kO 9) 0), some (vI v1), some (vI v2)]) (st' := [vI v1]) (u1 := q1.2) [(oL 0 1, 1)] (by decide +kernel) rfl rfl ?_
      refine g_zlt (off := 18) (tgt := 36) (pc2 := 21) (by decide +kernel) (by decide) rfl ?_ ?_
      · refine g_seg0 (pc' := 37) (L' := [some (vR (kO 9) 0), some (vI v1), some (vI v2)]) (st' := [vI v2]) (u1 := q1.2) [(oL 0 2, 1)] (by decide +kernel) rfl rfl ?_
        refine g_goto (off := 4) (tgt := 41) (by decide +kernel) (by decide) ?_
        refine g_seg0 (pc' := 45) (L' := [some (vR (kO 9) 0), some (vI v2), some (vI (v2 + 1))]) (st' := []) (u1 := q1.2) [(oL 3 1, 1), (oN 2 1, 3)] (by decide +kernel) rfl rfl ?_
        refine g_goto (off := (-36)) (tgt := 9) (by decide +kernel) (by decide) ?_
        exact ih v2 (v2 + 1) q1.2
      · refine g_seg0 (pc' := 24) (L' := [some (vR (kO 9) 0), some (vI v1), some (vI v2)]) (st' := [vI v2, vI 0, vR (kO 9) 0]) (u1 := q1.2) [(oL 2 0, 1), (oC 0, 1), (oL 0 2, 1)] (by decide +kernel) rfl rfl ?_
        refine g_callV (k := 312) (pc2 := 27) (st := []) (CX10_joyOf 0 v2 q1.2) miX10_joyOf mvX10_joyOf rfl (by decide) lk9_312 wI_ok (by decide +kernel) rfl (Nat.le_of_ble_eq_true rfl) (by decide) rfl (fun q2 hq2 => ?_)
        refine g_seg0 (pc' := 30) (L' := [some (vR (kO 9) 0), some (vI v1), some (vI v2)]) (st' := [vI v1, vI 0, vR (kO 9) 0, vI (q2.1)]) (u1 := q2.2) [(oL 2 0, 1), (oC 0, 1), (oL 0 1, 1)] (by decide +kernel) rfl rfl ?_
        refine g_callV (k := 312) (pc2 := 33) (st := [vI (q2.1)]) (CX10_joyOf 0 v1 q2.2) miX10_joyOf mvX10_joyOf rfl (by decide) lk9_312 wI_ok (by decide +kernel) rfl (Nat.le_of_ble_eq_true rfl) (by decide) rfl (fun q3 hq3 => ?_)
        refine g_ige (off := 7) (tgt := 40) (pc2 := 36) (by decide +kernel) (by decide) rfl ?_ ?_
        · refine g_seg0 (pc' := 45) (L' := [some (vR (kO 9) 0), some (vI v1), some (vI (v2 + 1))]) (st' := []) (u1 := q3.2) [(oL 0 1, 1), (oL 3 1, 1), (oN 2 1, 3)] (by decide +kernel) rfl rfl ?_
          refine g_goto (off := (-36)) (tgt := 9) (by decide +kernel) (by decide) ?_
          exact ih v1 (v2 + 1) q3.2
        · refine g_seg0 (pc' := 37) (L' := [some (vR (kO 9) 0), some (vI v1), some (vI v2)]) (st' := [vI v2]) (u1 := q3.2) [(oL 0 2, 1)] (by decide +kernel) rfl rfl ?_
          refine g_goto (off := 4) (tgt := 41) (by decide +kernel) (by decide) ?_
          refine g_seg0 (pc' := 45) (L' := [some (vR (kO 9) 0), some (vI v2), some (vI (v2 + 1))]) (st' := []) (u1 := q3.2) [(oL 3 1, 1), (oN 2 1, 3)] (by decide +kernel) rfl rfl ?_
          refine g_goto (off := (-36)) (tgt := 9) (by decide +kernel) (by decide) ?_
          exact ih v2 (v2 + 1) q3.2
def fX10_sad (u : ab_S) : Option (Int32 × ab_S) :=
  fX10_sad_9 fu (-1) 0 (sI u 0 0 0)
theorem tX10_sad (u : ab_S) : ab_G 1 9 cX10_sad (some .int) 5 0 [some (vR (kO 9) 0), none, none] [] u wI (fX10_sad u) := by
  rw [fX10_sad]
  refine g_seg0 (pc' := 9) (L' := [some (vR (kO 9) 0), some (vI (-1)), some (vI 0)]) (st' := []) (u1 := (sI u 0 0 0)) [(oL 2 0, 1), (oC 0, 1), (oP (.putfield 1), 3), (oC (-1), 1), (oL 3 1, 1), (oC 0, 1), (oL 3 2, 1)] (by decide +kernel) rfl rfl ?_
  exact tX10_sad_9 fu (-1) 0 (sI u 0 0 0)
theorem CX10_sad (u : ab_S) : ab_C 1 yX10_sad cX10_sad 3 (some .int) 5 [vR (kO 9) 0] u wI (fX10_sad u) := ab_entry (by decide +kernel) rfl (by decide) (by decide) (fun _ => Nat.le_of_ble_eq_true rfl) rfl (tX10_sad u)
def fX10_lack_19 : Nat → Int32 → Int32 → Int32 → ab_S → Option (Int32 × ab_S)
  | 0, _, _, _, _ => none
  | n + 1, v1, v2, v3, u =>
  (fX10_goods u).bind fun q1 =>
    bif decide (v3 < q1.1) then (
      (fX10_goodOf v3 1 q1.2).bind fun q2 =>
        bif decide (q2.1 = v1) then (
          ab_gd [ab_ix (2 + v3) 1081] (
            bif decide ((q2.2.1 16 (nc (2 + v3))) = v1) then (
              (fX10_lack_19 n) v1 (v2 ||| 0) (v3 + 1) q2.2)
            else (
              (fX10_lack_19 n) v1 (v2 ||| ((1 : Int32) <<< (v3 &&& 31))) (v3 + 1) q2.2)))
        else (
          (fX10_lack_19 n) v1 (v2 ||| 0) (v3 + 1) q2.2))
    else (
      some (v2, q1.2))
theorem tX10_lack_19 : ∀ (n : Nat) (v1 : Int32) (v2 : Int32) (v3 : Int32) (u : ab_S), ab_G 1 9 cX10_lack (some .int) 2 19 [some (vR (kO 9) 0), some (vI v1), some (vI v2), some (vI v3)] [] u wI (fX10_lack_19 n v1 v2 v3 u) := by
  intro n
  induction n with
  | zero => intros; exact g_none
  | succ n ih =>
    intro v1 v2 v3 u
    rw [fX10_lack_19]
    refine g_seg0 (pc' := 21) (L' := [some (vR (kO 9) 0), some (vI v1), some (vI v2), some (vI v3)]) (st' := [vR (kO 9) 0, vI v3]) (u1 := u) [(oL 0 3, 1), (oL 2 0, 1)] (by decide +kernel) rfl rfl ?_
    refine g_callV (k := 291) (pc2 := 24) (st := [vI v3]) (CX10_goods u) miX10_goods mvX10_goods rfl (by decide) lk9_291 wI_ok (by decide +kernel) rfl (Nat.le_of_ble_eq_true rfl) (by decide) rfl (fun q1 hq1 => ?_)
    refine g_ige (off := 41) (tgt := 65) (pc2 := 27) (by decide +kernel) (by decide) rfl ?_ ?_
    · refine g_seg0 (pc' := 66) (L' := [some (vR (kO 9) 0), some (vI v1), some (vI v2), some (vI v3)]) (st' := [vI v2]) (u1 := q1.2) [(oL 0 2, 1)] (by decide +kernel) rfl rfl ?_
      exact g_iret (by decide +kernel) rfl
    · refine g_seg0 (pc' := 31) (L' := [some (vR (kO 9) 0), some (vI v1), some (vI v2), some (vI v3)]) (st' := [vI 1, vI v3, vR (kO 9) 0, vI v2]) (u1 := q1.2) [(oL 0 2, 1), (oL 2 0, 1), (oL 0 3, 1), (oC 1, 1)] (by decide +kernel) rfl rfl ?_
      refine g_callV (k := 294) (pc2 := 34) (st := [vI v2]) (CX10_goodOf v3 1 q1.2) miX10_goodOf mvX10_goodOf rfl (by decide) lk9_294 wI_ok (by decide +kernel) rfl (Nat.le_of_ble_eq_true rfl) (by decide) rfl (fun q2 hq2 => ?_)
      refine g_seg0 (pc' := 35) (L' := [some (vR (kO 9) 0), some (vI v1), some (vI v2), some (vI v3)]) (st' := [vI v1, vI (q2.1), vI v2]) (u1 := q2.2) [(oL 0 1, 1)] (by decide +kernel) rfl rfl ?_
      refine g_ine (off := 21) (tgt := 56) (pc2 := 38) (by decide +kernel) (by decide) rfl ?_ ?_
      · refine g_seg0 (pc' := 62) (L' := [some (vR (kO 9) 0), some (vI v1), some (vI (v2 ||| 0)), some (vI (v3 + 1))]) (st' := []) (u1 := q2.2) [(oC 0, 1), (oP .ior, 1), (oL 3 2, 1), (oN 3 1, 3)] (by decide +kernel) rfl rfl ?_
        refine g_goto (off := (-43)) (tgt := 19) (by decide +kernel) (by decide) ?_
        exact ih v1 (v2 ||| 0) (v3 + 1) q2.2
      · refine g_seg (pc' := 47) (L' := [some (vR (kO 9) 0), some (vI v1), some (vI v2), some (vI v3)]) (st' := [vI v1, vI (q2.2.1 16 (nc (2 + v3))), vI v2]) (u1 := q2.2) [(oL 2 0, 1), (oP (.getfield 113), 3), (oC 2, 1), (oL 0 3, 1), (oP .iadd, 1), (oP .iaload, 1), (oL 0 1, 1)] (by decide +kernel) rfl rfl ?_
        refine g_ieq (off := 9) (tgt := 56) (pc2 := 50) (by decide +kernel) (by decide) rfl ?_ ?_
        · refine g_seg0 (pc' := 62) (L' := [some (vR (kO 9) 0), some (vI v1), some (vI (v2 ||| 0)), some (vI (v3 + 1))]) (st' := []) (u1 := q2.2) [(oC 0, 1), (oP .ior, 1), (oL 3 2, 1), (oN 3 1, 3)] (by decide +kernel) rfl rfl ?_
          refine g_goto (off := (-43)) (tgt := 19) (by decide +kernel) (by decide) ?_
          exact ih v1 (v2 ||| 0) (v3 + 1) q2.2
        · refine g_seg0 (pc' := 53) (L' := [some (vR (kO 9) 0), some (vI v1), some (vI v2), some (vI v3)]) (st' := [vI ((1 : Int32) <<< (v3 &&& 31)), vI v2]) (u1 := q2.2) [(oC 1, 1), (oL 0 3, 1), (oP .ishl, 1)] (by decide +kernel) rfl rfl ?_
          refine g_goto (off := 4) (tgt := 57) (by decide +kernel) (by decide) ?_
          refine g_seg0 (pc' := 62) (L' := [some (vR (kO 9) 0), some (vI v1), some (vI (v2 ||| ((1 : Int32) <<< (v3 &&& 31)))), some (vI (v3 + 1))]) (st' := []) (u1 := q2.2) [(oP .ior, 1), (oL 3 2, 1), (oN 3 1, 3)] (by decide +kernel) rfl rfl ?_
          refine g_goto (off := (-43)) (tgt := 19) (by decide +kernel) (by decide) ?_
          exact ih v1 (v2 ||| ((1 : Int32) <<< (v3 &&& 31))) (v3 + 1) q2.2
def fX10_lack (v1 : Int32) (u : ab_S) : Option (Int32 × ab_S) :=
  (fX10_isPerson v1 (sI u 0 0 0)).bind fun q3 =>
    bif decide (q3.1 = 0) then (
      some ((-1), q3.2))
    else (
      fX10_lack_19 fu v1 0 0 q3.2)
theorem tX10_lack (v1 : Int32) (u : ab_S) : ab_G 1 9 cX10_lack (some .int) 2 0 [some (vR (kO 9) 0), some (vI v1), none, none] [] u wI (fX10_lack v1 u) := by
  rw [fX10_lack]
  refine g_seg0 (pc' := 7) (L' := [some (vR (kO 9) 0), some (vI v1), none, none]) (st' := [vI v1, vR (kO 9) 0]) (u1 := (sI u 0 0 0)) [(oL 2 0, 1), (oC 0, 1), (oP (.putfield 1), 3), (oL 2 0, 1), (oL 0 1, 1)] (by decide +kernel) rfl rfl ?_
  refine g_callV (k := 342) (pc2 := 10) (st := []) (CX10_isPerson v1 (sI u 0 0 0)) miX10_isPerson mvX10_isPerson rfl (by decide) lk9_342 wI_ok (by decide +kernel) rfl (Nat.le_of_ble_eq_true rfl) (by decide) rfl (fun q3 hq3 => ?_)
  refine g_zne (off := 5) (tgt := 15) (pc2 := 13) (by decide +kernel) (by decide) rfl ?_ ?_
  · refine g_seg0 (pc' := 19) (L' := [some (vR (kO 9) 0), some (vI v1), some (vI 0), some (vI 0)]) (st' := []) (u1 := q3.2) [(oC 0, 1), (oL 3 2, 1), (oC 0, 1), (oL 3 3, 1)] (by decide +kernel) rfl rfl ?_
    exact tX10_lack_19 fu v1 0 0 q3.2
  · refine g_seg0 (pc' := 14) (L' := [some (vR (kO 9) 0), some (vI v1), none, none]) (st' := [vI (-1)]) (u1 := q3.2) [(oC (-1), 1)] (by decide +kernel) rfl rfl ?_
    exact g_iret (by decide +kernel) rfl
theorem CX10_lack (v1 : Int32) (u : ab_S) : ab_C 1 yX10_lack cX10_lack 4 (some .int) 2 [vR (kO 9) 0, vI v1] u wI (fX10_lack v1 u) := ab_entry (by decide +kernel) rfl (by decide) (by decide) (fun _ => Nat.le_of_ble_eq_true rfl) rfl (tX10_lack v1 u)
def fX10_debt (u : ab_S) : Option (Int32 × ab_S) :=
  (fX10_goods (sI u 0 0 0)).bind fun q1 =>
    (fX10_heldBy 0 (-1) q1.2).bind fun q2 =>
      (fX10_bits q2.1 q2.2).bind fun q3 =>
        (fX10_rightsOf 0 q3.2).bind fun q4 =>
          (fX10_bits q4.1 q4.2).bind fun q5 =>
            some (((q1.1 - q3.1) - q5.1), q5.2)
theorem tX10_debt (u : ab_S) : ab_G 1 9 cX10_debt (some .int) 2 0 [some (vR (kO 9) 0)] [] u wI (fX10_debt u) := by
  rw [fX10_debt]
  refine g_seg0 (pc' := 6) (L' := [some (vR (kO 9) 0)]) (st' := [vR (kO 9) 0]) (u1 := (sI u 0 0 0)) [(oL 2 0, 1), (oC 0, 1), (oP (.putfield 1), 3), (oL 2 0, 1)] (by decide +kernel) rfl rfl ?_
  refine g_callV (k := 291) (pc2 := 9) (st := []) (CX10_goods (sI u 0 0 0)) miX10_goods mvX10_goods rfl (by decide) lk9_291 wI_ok (by decide +kernel) rfl (Nat.le_of_ble_eq_true rfl) (by decide) rfl (fun q1 hq1 => ?_)
  refine g_seg0 (pc' := 12) (L' := [some (vR (kO 9) 0)]) (st' := [vI (-1), vI 0, vR (kO 9) 0, vI (q1.1)]) (u1 := q1.2) [(oL 2 0, 1), (oC 0, 1), (oC (-1), 1)] (by decide +kernel) rfl rfl ?_
  refine g_callV (k := 300) (pc2 := 15) (st := [vI (q1.1)]) (CX10_heldBy 0 (-1) q1.2) miX10_heldBy mvX10_heldBy rfl (by decide) lk9_300 wI_ok (by decide +kernel) rfl (Nat.le_of_ble_eq_true rfl) (by decide) rfl (fun q2 hq2 => ?_)
  refine g_callS (k := 303) (pc2 := 18) (st := [vI (q1.1)]) (CX10_bits q2.1 q2.2) miX10_bits msX10_bits lk9_303 wI_ok (by decide +kernel) rfl (Nat.le_of_ble_eq_true rfl) (by decide) rfl (fun q3 hq3 => ?_)
  refine g_seg0 (pc' := 21) (L' := [some (vR (kO 9) 0)]) (st' := [vI 0, vR (kO 9) 0, vI (q1.1 - q3.1)]) (u1 := q3.2) [(oP .isub, 1), (oL 2 0, 1), (oC 0, 1)] (by decide +kernel) rfl rfl ?_
  refine g_callV (k := 367) (pc2 := 24) (st := [vI (q1.1 - q3.1)]) (CX10_rightsOf 0 q3.2) miX10_rightsOf mvX10_rightsOf rfl (by decide) lk9_367 wI_ok (by decide +kernel) rfl (Nat.le_of_ble_eq_true rfl) (by decide) rfl (fun q4 hq4 => ?_)
  refine g_callS (k := 303) (pc2 := 27) (st := [vI (q1.1 - q3.1)]) (CX10_bits q4.1 q4.2) miX10_bits msX10_bits lk9_303 wI_ok (by decide +kernel) rfl (Nat.le_of_ble_eq_true rfl) (by decide) rfl (fun q5 hq5 => ?_)
  refine g_seg0 (pc' := 28) (L' := [some (vR (kO 9) 0)]) (st' := [vI ((q1.1 - q3.1) - q5.1)]) (u1 := q5.2) [(oP .isub, 1)] (by decide +kernel) rfl rfl ?_
  exact g_iret (by decide +kernel) rfl
theorem CX10_debt (u : ab_S) : ab_C 1 yX10_debt cX10_debt 1 (some .int) 2 [vR (kO 9) 0] u wI (fX10_debt u) := ab_entry (by decide +kernel) rfl (by decide) (by decide) (fun _ => Nat.le_of_ble_eq_true rfl) rfl (tX10_debt u)
def fX10_poor_9 : Nat → Int32 → Int32 → ab_S → Option (Int32 × ab_S)
  | 0, _, _, _ => none
  | n + 1, v1, v2, u =>
  (fX10_persons u).bind fun q1 =>
    bif decide (v2 < q1.1) then (
      (fX10_heldBy 0 v2 q1.2).bind fun q2 =>
        bif decide (q2.1 = 0) then (
          ab_gd [ab_ix (16 + v2) 1081] (
            bif decide ((q2.2.1 16 (nc (16 + v2))) = 0) then (
              ab_gd [ab_ix (10 + v2) 1081] (
                bif decide ((q2.2.1 16 (nc (10 + v2))) = 0) then (
                  (fX10_poor_9 n) (v1 ||| ((1 : Int32) <<< (v2 &&& 31))) (v2 + 1) q2.2)
                else (
                  (fX10_poor_9 n) (v1 ||| 0) (v2 + 1) q2.2)))
            else (
              (fX10_poor_9 n) (v1 ||| 0) (v2 + 1) q2.2)))
        else (
          (fX10_poor_9 n) (v1 ||| 0) (v2 + 1) q2.2))
    else (
      some (v1, q1.2))
theorem tX10_poor_9 : ∀ (n : Nat) (v1 : Int32) (v2 : Int32) (u : ab_S), ab_G 1 9 cX10_poor (some .int) 2 9 [some (vR (kO 9) 0), some (vI v1), some (vI v2)] [] u wI (fX10_poor_9 n v1 v2 u) := by
  intro n
  induction n with
  | zero => intros; exact g_none
  | succ n ih =>
    intro v1 v2 u
    rw [fX10_poor_9]
    refine g_seg0 (pc' := 11) (L' := [some (vR (kO 9) 0), some (vI v1), some (vI v2)]) (st' := [vR (kO 9) 0, vI v2]) (u1 := u) [(oL 0 2, 1), (oL 2 0, 1)] (by decide +kernel) rfl rfl ?_
    refine g_callV (k := 275) (pc2 := 14) (st := [vI v2]) (CX10_persons u) miX10_persons mvX10_persons rfl (by decide) lk9_275 wI_ok (by decide +kernel) rfl (Nat.le_of_ble_eq_true rfl) (by decide) rfl (fun q1 hq1 => ?_)
    refine g_ige (off := 52) (tgt := 66) (pc2 := 17) (by decide +kernel) (by decide) rfl ?_ ?_
    · refine g_seg0 (pc' := 67) (L' := [some (vR (kO 9) 0), some (vI v1), some (vI v2)]) (st' := [vI v1]) (u1 := q1.2) [(oL 0 1, 1)] (by decide +kernel) rfl rfl ?_
      exact g_iret (by decide +kernel) rfl
    · refine g_seg0 (pc' := 21) (L' := [some (vR (kO 9) 0), some (vI v1), some (vI v2)]) (st' := [vI v2, vI 0, vR (kO 9) 0, vI v1]) (u1 := q1.2) [(oL 0 1, 1), (oL 2 0, 1), (oC 0, 1), (oL 0 2, 1)] (by decide +kernel) rfl rfl ?_
      refine g_callV (k := 300) (pc2 := 24) (st := [vI v1]) (CX10_heldBy 0 v2 q1.2) miX10_heldBy mvX10_heldBy rfl (by decide) lk9_300 wI_ok (by decide +kernel) rfl (Nat.le_of_ble_eq_true rfl) (by decide) rfl (fun q2 hq2 => ?_)
      refine g_zne (off := 33) (tgt := 57) (pc2 := 27) (by decide +kernel) (by decide) rfl ?_ ?_
      · refine g_seg0 (pc' := 63) (L' := [some (vR (kO 9) 0), some (vI (v1 ||| 0)), some (vI (v2 + 1))]) (st' := []) (u1 := q2.2) [(oC 0, 1), (oP .ior, 1), (oL 3 1, 1), (oN 2 1, 3)] (by decide +kernel) rfl rfl ?_
        refine g_goto (off := (-54)) (tgt := 9) (by decide +kernel) (by decide) ?_
        exact ih (v1 ||| 0) (v2 + 1) q2.2
      · refine g_seg (pc' := 36) (L' := [some (vR (kO 9) 0), some (vI v1), some (vI v2)]) (st' := [vI (q2.2.1 16 (nc (16 + v2))), vI v1]) (u1 := q2.2) [(oL 2 0, 1), (oP (.getfield 113), 3), (oC 16, 2), (oL 0 2, 1), (oP .iadd, 1), (oP .iaload, 1)] (by decide +kernel) rfl rfl ?_
        refine g_zne (off := 21) (tgt := 57) (pc2 := 39) (by decide +kernel) (by decide) rfl ?_ ?_
        · refine g_seg0 (pc' := 63) (L' := [some (vR (kO 9) 0), some (vI (v1 ||| 0)), some (vI (v2 + 1))]) (st' := []) (u1 := q2.2) [(oC 0, 1), (oP .ior, 1), (oL 3 1, 1), (oN 2 1, 3)] (by decide +kernel) rfl rfl ?_
          refine g_goto (off := (-54)) (tgt := 9) (by decide +kernel) (by decide) ?_
          exact ih (v1 ||| 0) (v2 + 1) q2.2
        · refine g_seg (pc' := 48) (L' := [some (vR (kO 9) 0), some (vI v1), some (vI v2)]) (st' := [vI (q2.2.1 16 (nc (10 + v2))), vI v1]) (u1 := q2.2) [(oL 2 0, 1), (oP (.getfield 113), 3), (oC 10, 2), (oL 0 2, 1), (oP .iadd, 1), (oP .iaload, 1)] (by decide +kernel) rfl rfl ?_
          refine g_zne (off := 9) (tgt := 57) (pc2 := 51) (by decide +kernel) (by decide) rfl ?_ ?_
          · refine g_seg0 (pc' := 63) (L' := [some (vR (kO 9) 0), some (vI (v1 ||| 0)), some (vI (v2 + 1))]) (st' := []) (u1 := q2.2) [(oC 0, 1), (oP .ior, 1), (oL 3 1, 1), (oN 2 1, 3)] (by decide +kernel) rfl rfl ?_
            refine g_goto (off := (-54)) (tgt := 9) (by decide +kernel) (by decide) ?_
            exact ih (v1 ||| 0) (v2 + 1) q2.2
          · refine g_seg0 (pc' := 54) (L' := [some (vR (kO 9) 0), some (vI v1), some (vI v2)]) (st' := [vI ((1 : Int32) <<< (v2 &&& 31)), vI v1]) (u1 := q2.2) [(oC 1, 1), (oL 0 2, 1), (oP .ishl, 1)] (by decide +kernel) rfl rfl ?_
            refine g_goto (off := 4) (tgt := 58) (by decide +kernel) (by decide) ?_
            refine g_seg0 (pc' := 63) (L' := [some (vR (kO 9) 0), some (vI (v1 ||| ((1 : Int32) <<< (v2 &&& 31)))), some (vI (v2 + 1))]) (st' := []) (u1 := q2.2) [(oP .ior, 1), (oL 3 1, 1), (oN 2 1, 3)] (by decide +kernel) rfl rfl ?_
            refine g_goto (off := (-54)) (tgt := 9) (by decide +kernel) (by decide) ?_
            exact ih (v1 ||| ((1 : Int32) <<< (v2 &&& 31))) (v2 + 1) q2.2
def fX10_poor (u : ab_S) : Option (Int32 × ab_S) :=
  fX10_poor_9 fu 0 0 (sI u 0 0 0)
theorem tX10_poor (u : ab_S) : ab_G 1 9 cX10_poor (some .int) 2 0 [some (vR (kO 9) 0), none, none] [] u wI (fX10_poor u) := by
  rw [fX10_poor]
  refine g_seg0 (pc' := 9) (L' := [some (vR (kO 9) 0), some (vI 0), some (vI 0)]) (st' := []) (u1 := (sI u 0 0 0)) [(oL 2 0, 1), (oC 0, 1), (oP (.putfield 1), 3), (oC 0, 1), (oL 3 1, 1), (oC 0, 1), (oL 3 2, 1)] (by decide +kernel) rfl rfl ?_
  exact tX10_poor_9 fu 0 0 (sI u 0 0 0)
theorem CX10_poor (u : ab_S) : ab_C 1 yX10_poor cX10_poor 3 (some .int) 2 [vR (kO 9) 0] u wI (fX10_poor u) := ab_entry (by decide +kernel) rfl (by decide) (by decide) (fun _ => Nat.le_of_ble_eq_true rfl) rfl (tX10_poor u)
def fX10_getsBy (v0 : Int32) (v1 : Int32) (v2 : Int32) (v3 : Int32) (v4 : Int32) (u : ab_S) : Option (Int32 × ab_S) :=
  bif decide (v0 = 1) then (
    bif decide (v1 = 1) then (
      some (v2, u))
    else (
      some ((-v3), u)))
  else (
    bif decide (v1 = 1) then (
      some (v4, u))
    else (
      some (0, u)))
theorem tX10_getsBy (v0 : Int32) (v1 : Int32) (v2 : Int32) (v3 : Int32) (v4 : Int32) (u : ab_S) : ab_G 1 9 cX10_getsBy (some .int) 0 0 [some (vI v0), some (vI v1), some (vI v2), some (vI v3), some (vI v4)] [] u wI (fX10_getsBy v0 v1 v2 v3 v4 u) := by
  rw [fX10_getsBy]
  refine g_seg0 (pc' := 2) (L' := [some (vI v0), some (vI v1), some (vI v2), some (vI v3), some (vI v4)]) (st' := [vI 1, vI v0]) (u1 := u) [(oL 0 0, 1), (oC 1, 1)] (by decide +kernel) rfl rfl ?_
  refine g_ine (off := 17) (tgt := 19) (pc2 := 5) (by decide +kernel) (by decide) rfl ?_ ?_
  · refine g_seg0 (pc' := 21) (L' := [some (vI v0), some (vI v1), some (vI v2), some (vI v3), some (vI v4)]) (st' := [vI 1, vI v1]) (u1 := u) [(oL 0 1, 1), (oC 1, 1)] (by decide +kernel) rfl rfl ?_
    refine g_ine (off := 8) (tgt := 29) (pc2 := 24) (by decide +kernel) (by decide) rfl ?_ ?_
    · refine g_seg0 (pc' := 30) (L' := [some (vI v0), some (vI v1), some (vI v2), some (vI v3), some (vI v4)]) (st' := [vI 0]) (u1 := u) [(oC 0, 1)] (by decide +kernel) rfl rfl ?_
      exact g_iret (by decide +kernel) rfl
    · refine g_seg0 (pc' := 26) (L' := [some (vI v0), some (vI v1), some (vI v2), some (vI v3), some (vI v4)]) (st' := [vI v4]) (u1 := u) [(oL 0 4, 2)] (by decide +kernel) rfl rfl ?_
      refine g_goto (off := 4) (tgt := 30) (by decide +kernel) (by decide) ?_
      exact g_iret (by decide +kernel) rfl
  · refine g_seg0 (pc' := 7) (L' := [some (vI v0), some (vI v1), some (vI v2), some (vI v3), some (vI v4)]) (st' := [vI 1, vI v1]) (u1 := u) [(oL 0 1, 1), (oC 1, 1)] (by decide +kernel) rfl rfl ?_
    refine g_ine (off := 7) (tgt := 14) (pc2 := 10) (by decide +kernel) (by decide) rfl ?_ ?_
    · refine g_seg0 (pc' := 16) (L' := [some (vI v0), some (vI v1), some (vI v2), some (vI v3), some (vI v4)]) (st' := [vI (-v3)]) (u1 := u) [(oL 0 3, 1), (oP .ineg, 1)] (by decide +kernel) rfl rfl ?_
      refine g_goto (off := 14) (tgt := 30) (by decide +kernel) (by decide) ?_
      exact g_iret (by decide +kernel) rfl
    · refine g_seg0 (pc' := 11) (L' := [some (vI v0), some (vI v1), some (vI v2), some (vI v3), some (vI v4)]) (st' := [vI v2]) (u1 := u) [(oL 0 2, 1)] (by decide +kernel) rfl rfl ?_
      refine g_goto (off := 19) (tgt := 30) (by decide +kernel) (by decide) ?_
      exact g_iret (by decide +kernel) rfl
theorem CX10_getsBy (v0 : Int32) (v1 : Int32) (v2 : Int32) (v3 : Int32) (v4 : Int32) (u : ab_S) : ab_C 1 yX10_getsBy cX10_getsBy 5 (some .int) 0 [vI v0, vI v1, vI v2, vI v3, vI v4] u wI (fX10_getsBy v0 v1 v2 v3 v4 u) := ab_entry (by decide +kernel) rfl (by decide) (by decide) (fun _ => Nat.le_of_ble_eq_true rfl) rfl (tX10_getsBy v0 v1 v2 v3 v4 u)
def fX10_rests_195 (v4 : Int32) (v6 : Int32) (v7 : Int32) (s1 : Int32) (u : ab_S) : Option (Int32 × ab_S) :=
  bif decide (((sI u 0 0 s1).1 0 0) ≤ 0) then (
    bif decide (v4 < 0) then (
      some (v6, (sI u 0 0 s1)))
    else (
      some (v7, (sI u 0 0 s1))))
  else (
    some (0, (sI u 0 0 s1)))
theorem tX10_rests_195 (v4 : Int32) (v6 : Int32) (v7 : Int32) (s1 : Int32) (u : ab_S) : ab_G 1 9 cX10_rests (some .int) 1 195 [some (vR (kO 9) 0), none, none, none, some (vI v4), none, some (vI v6), some (vI v7), none, none, none, none] [vI s1, vR (kO 9) 0] u wI (fX10_rests_195 v4 v6 v7 s1 u) := by
  rw [fX10_rests_195]
  refine g_seg0 (pc' := 202) (L' := [some (vR (kO 9) 0), none, none, none, some (vI v4), none, some (vI v6), some (vI v7), none, none, none, none]) (st' := [vI ((sI u 0 0 s1).1 0 0)]) (u1 := (sI u 0 0 s1)) [(oP (.putfield 1), 3), (oL 2 0, 1), (oP (.getfield 1), 3)] (by decide +kernel) rfl rfl ?_
  refine g_zle (off := 7) (tgt := 209) (pc2 := 205) (by decide +kernel) (by decide) rfl ?_ ?_
  · refine g_seg0 (pc' := 211) (L' := [some (vR (kO 9) 0), none, none, none, some (vI v4), none, some (vI v6), some (vI v7), none, none, none, none]) (st' := [vI v4]) (u1 := (sI u 0 0 s1)) [(oL 0 4, 2)] (by decide +kernel) rfl rfl ?_
    refine g_zge (off := 8) (tgt := 219) (pc2 := 214) (by decide +kernel) (by decide) rfl ?_ ?_
    · refine g_seg0 (pc' := 221) (L' := [some (vR (kO 9) 0), none, none, none, some (vI v4), none, some (vI v6), some (vI v7), none, none, none, none]) (st' := [vI v7]) (u1 := (sI u 0 0 s1)) [(oL 0 7, 2)] (by decide +kernel) rfl rfl ?_
      exact g_iret (by decide +kernel) rfl
    · refine g_seg0 (pc' := 216) (L' := [some (vR (kO 9) 0), none, none, none, some (vI v4), none, some (vI v6), some (vI v7), none, none, none, none]) (st' := [vI v6]) (u1 := (sI u 0 0 s1)) [(oL 0 6, 2)] (by decide +kernel) rfl rfl ?_
      refine g_goto (off := 5) (tgt := 221) (by decide +kernel) (by decide) ?_
      exact g_iret (by decide +kernel) rfl
  · refine g_seg0 (pc' := 206) (L' := [some (vR (kO 9) 0), none, none, none, some (vI v4), none, some (vI v6), some (vI v7), none, none, none, none]) (st' := [vI 0]) (u1 := (sI u 0 0 s1)) [(oC 0, 1)] (by decide +kernel) rfl rfl ?_
    refine g_goto (off := 15) (tgt := 221) (by decide +kernel) (by decide) ?_
    exact g_iret (by decide +kernel) rfl
def fX10_rests_174 (v4 : Int32) (v5 : Int32) (v6 : Int32) (v7 : Int32) (u : ab_S) : Option (Int32 × ab_S) :=
  bif decide (v5 = 0) then (
    fX10_rests_195 v4 v6 v7 1 u)
  else (
    bif decide (v4 < 0) then (
      fX10_rests_195 v4 v6 v7 0 u)
    else (
      bif decide (v7 < 0) then (
        fX10_rests_195 v4 v6 v7 1 u)
      else (
        fX10_rests_195 v4 v6 v7 0 u)))
theorem tX10_rests_174 (v4 : Int32) (v5 : Int32) (v6 : Int32) (v7 : Int32) (u : ab_S) : ab_G 1 9 cX10_rests (some .int) 1 174 [some (vR (kO 9) 0), none, none, none, some (vI v4), some (vI v5), some (vI v6), some (vI v7), none, none, none, none] [] u wI (fX10_rests_174 v4 v5 v6 v7 u) := by
  rw [fX10_rests_174]
  refine g_seg0 (pc' := 177) (L' := [some (vR (kO 9) 0), none, none, none, some (vI v4), some (vI v5), some (vI v6), some (vI v7), none, none, none, none]) (st' := [vI v5, vR (kO 9) 0]) (u1 := u) [(oL 2 0, 1), (oL 0 5, 2)] (by decide +kernel) rfl rfl ?_
  refine g_zeq (off := 17) (tgt := 194) (pc2 := 180) (by decide +kernel) (by decide) rfl ?_ ?_
  · refine g_seg0 (pc' := 195) (L' := [some (vR (kO 9) 0), none, none, none, some (vI v4), some (vI v5), some (vI v6), some (vI v7), none, none, none, none]) (st' := [vI 1, vR (kO 9) 0]) (u1 := u) [(oC 1, 1)] (by decide +kernel) rfl rfl ?_
    exact g_jump [true, false, false, false, true, false, true, true, false, false, false, false] rfl (tX10_rests_195 v4 v6 v7 1 u)
  · refine g_seg0 (pc' := 182) (L' := [some (vR (kO 9) 0), none, none, none, some (vI v4), some (vI v5), some (vI v6), some (vI v7), none, none, none, none]) (st' := [vI v4, vR (kO 9) 0]) (u1 := u) [(oL 0 4, 2)] (by decide +kernel) rfl rfl ?_
    refine g_zlt (off := 8) (tgt := 190) (pc2 := 185) (by decide +kernel) (by decide) rfl ?_ ?_
    · refine g_seg0 (pc' := 191) (L' := [some (vR (kO 9) 0), none, none, none, some (vI v4), some (vI v5), some (vI v6), some (vI v7), none, none, none, none]) (st' := [vI 0, vR (kO 9) 0]) (u1 := u) [(oC 0, 1)] (by decide +kernel) rfl rfl ?_
      refine g_goto (off := 4) (tgt := 195) (by decide +kernel) (by decide) ?_
      exact g_jump [true, false, false, false, true, false, true, true, false, false, false, false] rfl (tX10_rests_195 v4 v6 v7 0 u)
    · refine g_seg0 (pc' := 187) (L' := [some (vR (kO 9) 0), none, none, none, some (vI v4), some (vI v5), some (vI v6), some (vI v7), none, none, none, none]) (st' := [vI v7, vR (kO 9) 0]) (u1 := u) [(oL 0 7, 2)] (by decide +kernel) rfl rfl ?_
      refine g_zlt (off := 7) (tgt := 194) (pc2 := 190) (by decide +kernel) (by decide) rfl ?_ ?_
      · refine g_seg0 (pc' := 195) (L' := [some (vR (kO 9) 0), none, none, none, some (vI v4), some (vI v5), some (vI v6), some (vI v7), none, none, none, none]) (st' := [vI 1, vR (kO 9) 0]) (u1 := u) [(oC 1, 1)] (by decide +kernel) rfl rfl ?_
        exact g_jump [true, false, false, false, true, false, true, true, false, false, false, false] rfl (tX10_rests_195 v4 v6 v7 1 u)
      · refine g_seg0 (pc' := 191) (L' := [some (vR (kO 9) 0), none, none, none, some (vI v4), some (vI v5), some (vI v6), some (vI v7), none, none, none, none]) (st' := [vI 0, vR (kO 9) 0]) (u1 := u) [(oC 0, 1)] (by decide +kernel) rfl rfl ?_
        refine g_goto (off := 4) (tgt := 195) (by decide +kernel) (by decide) ?_
        exact g_jump [true, false, false, false, true, false, true, true, false, false, false, false] rfl (tX10_rests_195 v4 v6 v7 0 u)
def fX10_rests_151 (k52 : Int32 → Int32 → Int32 → Int32 → Int32 → Int32 → Int32 → Int32 → ab_S → Option (Int32 × ab_S)) (v1 : Int32) (v2 : Int32) (v3 : Int32) (v4 : Int32) (v5 : Int32) (v6 : Int32) (v8 : Int32) (v11 : Int32) (s0 : Int32) (u : ab_S) : Option (Int32 × ab_S) :=
  bif decide (v11 = 0) then (
    k52 v1 v2 v3 v4 v5 (v6 + 0) s0 (v8 + 1) u)
  else (
    k52 v1 v2 v3 v4 v5 (v6 + 1) s0 (v8 + 1) u)
theorem tX10_rests_151 (k52 : Int32 → Int32 → Int32 → Int32 → Int32 → Int32 → Int32 → Int32 → ab_S → Option (Int32 × ab_S)) (hk52 : ∀ (v1 : Int32) (v2 : Int32) (v3 : Int32) (v4 : Int32) (v5 : Int32) (v6 : Int32) (v7 : Int32) (v8 : Int32) (u : ab_S), ab_G 1 9 cX10_rests (some .int) 1 52 [some (vR (kO 9) 0), some (vI v1), some (vI v2), some (vI v3), some (vI v4), some (vI v5), some (vI v6), some (vI v7), some (vI v8), none, none, none] [] u wI (k52 v1 v2 v3 v4 v5 v6 v7 v8 u)) (v1 : Int32) (v2 : Int32) (v3 : Int32) (v4 : Int32) (v5 : Int32) (v6 : Int32) (v8 : Int32) (v11 : Int32) (s0 : Int32) (u : ab_S) : ab_G 1 9 cX10_rests (some .int) 1 151 [some (vR (kO 9) 0), some (vI v1), some (vI v2), some (vI v3), some (vI v4), some (vI v5), some (vI v6), none, some (vI v8), none, none, some (vI v11)] [vI s0] u wI (fX10_rests_151 k52 v1 v2 v3 v4 v5 v6 v8 v11 s0 u) := by
  rw [fX10_rests_151]
  refine g_seg0 (pc' := 157) (L' := [some (vR (kO 9) 0), some (vI v1), some (vI v2), some (vI v3), some (vI v4), some (vI v5), some (vI v6), some (vI s0), some (vI v8), none, none, some (vI v11)]) (st' := [vI v11, vI v6]) (u1 := u) [(oL 3 7, 2), (oL 0 6, 2), (oL 0 11, 2)] (by decide +kernel) rfl rfl ?_
  refine g_zeq (off := 7) (tgt := 164) (pc2 := 160) (by decide +kernel) (by decide) rfl ?_ ?_
  · refine g_seg0 (pc' := 171) (L' := [some (vR (kO 9) 0), some (vI v1), some (vI v2), some (vI v3), some (vI v4), some (vI v5), some (vI (v6 + 0)), some (vI s0), some (vI (v8 + 1)), none, none, some (vI v11)]) (st' := []) (u1 := u) [(oC 0, 1), (oP .iadd, 1), (oL 3 6, 2), (oN 8 1, 3)] (by decide +kernel) rfl rfl ?_
    refine g_goto (off := (-119)) (tgt := 52) (by decide +kernel) (by decide) ?_
    exact g_jump [true, true, true, true, true, true, true, true, true, false, false, false] rfl (hk52 v1 v2 v3 v4 v5 (v6 + 0) s0 (v8 + 1) u)
  · refine g_seg0 (pc' := 161) (L' := [some (vR (kO 9) 0), some (vI v1), some (vI v2), some (vI v3), some (vI v4), some (vI v5), some (vI v6), some (vI s0), some (vI v8), none, none, some (vI v11)]) (st' := [vI 1, vI v6]) (u1 := u) [(oC 1, 1)] (by decide +kernel) rfl rfl ?_
    refine g_goto (off := 4) (tgt := 165) (by decide +kernel) (by decide) ?_
    refine g_seg0 (pc' := 171) (L' := [some (vR (kO 9) 0), some (vI v1), some (vI v2), some (vI v3), some (vI v4), some (vI v5), some (vI (v6 + 1)), some (vI s0), some (vI (v8 + 1)), none, none, some (vI v11)]) (st' := []) (u1 := u) [(oP .iadd, 1), (oL 3 6, 2), (oN 8 1, 3)] (by decide +kernel) rfl rfl ?_
    refine g_goto (off := (-119)) (tgt := 52) (by decide +kernel) (by decide) ?_
    exact g_jump [true, true, true, true, true, true, true, true, true, false, false, false] rfl (hk52 v1 v2 v3 v4 v5 (v6 + 1) s0 (v8 + 1) u)
def fX10_rests_130 (k52 : Int32 → Int32 → Int32 → Int32 → Int32 → Int32 → Int32 → Int32 → ab_S → Option (Int32 × ab_S)) (v1 : Int32) (v2 : Int32) (v3 : Int32) (v4 : Int32) (v5 : Int32) (v6 : Int32) (v7 : Int32) (v8 : Int32) (s0 : Int32) (u : ab_S) : Option (Int32 × ab_S) :=
  bif decide (s0 = 0) then (
    fX10_rests_151 k52 v1 v2 v3 v4 v5 v6 v8 s0 v7 u)
  else (
    bif decide (v6 = v4) then (
      fX10_rests_151 k52 v1 v2 v3 v4 v5 v6 v8 s0 v8 u)
    else (
      fX10_rests_151 k52 v1 v2 v3 v4 v5 v6 v8 s0 v7 u))
theorem tX10_rests_130 (k52 : Int32 → Int32 → Int32 → Int32 → Int32 → Int32 → Int32 → Int32 → ab_S → Option (Int32 × ab_S)) (hk52 : ∀ (v1 : Int32) (v2 : Int32) (v3 : Int32) (v4 : Int32) (v5 : Int32) (v6 : Int32) (v7 : Int32) (v8 : Int32) (u : ab_S), ab_G 1 9 cX10_rests (some .int) 1 52 [some (vR (kO 9) 0), some (vI v1), some (vI v2), some (vI v3), some (vI v4), some (vI v5), some (vI v6), some (vI v7), some (vI v8), none, none, none] [] u wI (k52 v1 v2 v3 v4 v5 v6 v7 v8 u)) (v1 : Int32) (v2 : Int32) (v3 : Int32) (v4 : Int32) (v5 : Int32) (v6 : Int32) (v7 : Int32) (v8 : Int32) (s0 : Int32) (u : ab_S) : ab_G 1 9 cX10_rests (some .int) 1 130 [some (vR (kO 9) 0), some (vI v1), some (vI v2), some (vI v3), some (vI v4), some (vI v5), some (vI v6), some (vI v7), some (vI v8), none, none, none] [vI s0] u wI (fX10_rests_130 k52 v1 v2 v3 v4 v5 v6 v7 v8 s0 u) := by
  rw [fX10_rests_130]
  refine g_seg0 (pc' := 134) (L' := [some (vR (kO 9) 0), some (vI v1), some (vI v2), some (vI v3), some (vI v4), some (vI v5), some (vI v6), some (vI v7), some (vI v8), none, none, some (vI s0)]) (st' := [vI s0]) (u1 := u) [(oL 3 11, 2), (oL 0 11, 2)] (by decide +kernel) rfl rfl ?_
  refine g_zeq (off := 15) (tgt := 149) (pc2 := 137) (by decide +kernel) (by decide) rfl ?_ ?_
  · refine g_seg0 (pc' := 151) (L' := [some (vR (kO 9) 0), some (vI v1), some (vI v2), some (vI v3), some (vI v4), some (vI v5), some (vI v6), some (vI v7), some (vI v8), none, none, some (vI s0)]) (st' := [vI v7]) (u1 := u) [(oL 0 7, 2)] (by decide +kernel) rfl rfl ?_
    exact g_jump [true, true, true, true, true, true, true, false, true, false, false, true] rfl (tX10_rests_151 k52 hk52 v1 v2 v3 v4 v5 v6 v8 s0 v7 u)
  · refine g_seg0 (pc' := 141) (L' := [some (vR (kO 9) 0), some (vI v1), some (vI v2), some (vI v3), some (vI v4), some (vI v5), some (vI v6), some (vI v7), some (vI v8), none, none, some (vI s0)]) (st' := [vI v4, vI v6]) (u1 := u) [(oL 0 6, 2), (oL 0 4, 2)] (by decide +kernel) rfl rfl ?_
    refine g_ine (off := 8) (tgt := 149) (pc2 := 144) (by decide +kernel) (by decide) rfl ?_ ?_
    · refine g_seg0 (pc' := 151) (L' := [some (vR (kO 9) 0), some (vI v1), some (vI v2), some (vI v3), some (vI v4), some (vI v5), some (vI v6), some (vI v7), some (vI v8), none, none, some (vI s0)]) (st' := [vI v7]) (u1 := u) [(oL 0 7, 2)] (by decide +kernel) rfl rfl ?_
      exact g_jump [true, true, true, true, true, true, true, false, true, false, false, true] rfl (tX10_rests_151 k52 hk52 v1 v2 v3 v4 v5 v6 v8 s0 v7 u)
    · refine g_seg0 (pc' := 146) (L' := [some (vR (kO 9) 0), some (vI v1), some (vI v2), some (vI v3), some (vI v4), some (vI v5), some (vI v6), some (vI v7), some (vI v8), none, none, some (vI s0)]) (st' := [vI v8]) (u1 := u) [(oL 0 8, 2)] (by decide +kernel) rfl rfl ?_
      refine g_goto (off := 5) (tgt := 151) (by decide +kernel) (by decide) ?_
      exact g_jump [true, true, true, true, true, true, true, false, true, false, false, true] rfl (tX10_rests_151 k52 hk52 v1 v2 v3 v4 v5 v6 v8 s0 v8 u)
def fX10_rests_52 : Nat → Int32 → Int32 → Int32 → Int32 → Int32 → Int32 → Int32 → Int32 → ab_S → Option (Int32 × ab_S)
  | 0, _, _, _, _, _, _, _, _, _ => none
  | n + 1, v1, v2, v3, v4, v5, v6, v7, v8, u =>
  bif decide (v8 < 4) then (
    bif decide (v5 = 0) then (
      fX10_rests_174 v4 v5 v6 v7 u)
    else (
      ab_gd [decide (¬ 2 = 0), decide (¬ 2 = 0)] (
        (fX10_getsBy (1 - (v8 / 2)) (v8 - v8 / 2 * 2) v1 v2 v3 u).bind fun q1 =>
          (fX10_getsBy (v8 / 2) (v8 - v8 / 2 * 2) v1 v2 v3 q1.2).bind fun q2 =>
            bif decide (q1.1 ≤ q2.1) then (
              (fX10_getsBy (1 - (v8 - v8 / 2 * 2)) (v8 / 2) v1 v2 v3 q2.2).bind fun q3 =>
                (fX10_getsBy (v8 - v8 / 2 * 2) (v8 / 2) v1 v2 v3 q3.2).bind fun q4 =>
                  bif decide (q3.1 ≤ q4.1) then (
                    fX10_rests_130 (fX10_rests_52 n) v1 v2 v3 v4 v5 v6 v7 v8 1 q4.2)
                  else (
                    fX10_rests_130 (fX10_rests_52 n) v1 v2 v3 v4 v5 v6 v7 v8 0 q4.2))
            else (
              fX10_rests_130 (fX10_rests_52 n) v1 v2 v3 v4 v5 v6 v7 v8 0 q2.2))))
  else (
    fX10_rests_174 v4 v5 v6 v7 u)
theorem tX10_rests_52 : ∀ (n : Nat) (v1 : Int32) (v2 : Int32) (v3 : Int32) (v4 : Int32) (v5 : Int32) (v6 : Int32) (v7 : Int32) (v8 : Int32) (u : ab_S), ab_G 1 9 cX10_rests (some .int) 1 52 [some (vR (kO 9) 0), some (vI v1), some (vI v2), some (vI v3), some (vI v4), some (vI v5), some (vI v6), some (vI v7), some (vI v8), none, none, none] [] u wI (fX10_rests_52 n v1 v2 v3 v4 v5 v6 v7 v8 u) := by
  intro n
  induction n with
  | zero => intros; exact g_none
  | succ n ih =>
    intro v1 v2 v3 v4 v5 v6 v7 v8 u
    rw [fX10_rests_52]
    refine g_seg0 (pc' := 55) (L' := [some (vR (kO 9) 0), some (vI v1), some (vI v2), some (vI v3), some (vI v4), some (vI v5), some (vI v6), some (vI v7), some (vI v8), none, none, none]) (st' := [vI 4, vI v8]) (u1 := u) [(oL 0 8, 2), (oC 4, 1)] (by decide +kernel) rfl rfl ?_
    refine g_ige (off := 119) (tgt := 174) (pc2 := 58) (by decide +kernel) (by decide) rfl ?_ ?_
    · exact g_jump [true, false, false, false, true, true, true, true, false, false, false, false] rfl (tX10_rests_174 v4 v5 v6 v7 u)
    · refine g_seg0 (pc' := 60) (L' := [some (vR (kO 9) 0), some (vI v1), some (vI v2), some (vI v3), some (vI v4), some (vI v5), some (vI v6), some (vI v7), some (vI v8), none, none, none]) (st' := [vI v5]) (u1 := u) [(oL 0 5, 2)] (by decide +kernel) rfl rfl ?_
      refine g_zeq (off := 114) (tgt := 174) (pc2 := 63) (by decide +kernel) (by decide) rfl ?_ ?_
      · exact g_jump [true, false, false, false, true, true, true, true, false, false, false, false] rfl (tX10_rests_174 v4 v5 v6 v7 u)
      · refine g_seg (pc' := 84) (L' := [some (vR (kO 9) 0), some (vI v1), some (vI v2), some (vI v3), some (vI v4), some (vI v5), some (vI v6), some (vI v7), some (vI v8), some (vI (v8 / 2)), some (vI (v8 - v8 / 2 * 2)), none]) (st' := [vI v3, vI v2, vI v1, vI (v8 - v8 / 2 * 2), vI (1 - (v8 / 2))]) (u1 := u) [(oL 0 8, 2), (oC 2, 1), (oP .idiv, 1), (oL 3 9, 2), (oL 0 8, 2), (oC 2, 1), (oP .irem, 1), (oL 3 10, 2), (oC 1, 1), (oL 0 9, 2), (oP .isub, 1), (oL 0 10, 2), (oL 0 1, 1), (oL 0 2, 1), (oL 0 3, 1)] (by decide +kernel) rfl rfl ?_
        refine g_callS (k := 405) (pc2 := 87) (st := []) (CX10_getsBy (1 - (v8 / 2)) (v8 - v8 / 2 * 2) v1 v2 v3 u) miX10_getsBy msX10_getsBy lk9_405 wI_ok (by decide +kernel) rfl (Nat.le_of_ble_eq_true rfl) (by decide) rfl (fun q1 hq1 => ?_)
        refine g_seg0 (pc' := 94) (L' := [some (vR (kO 9) 0), some (vI v1), some (vI v2), some (vI v3), some (vI v4), some (vI v5), some (vI v6), some (vI v7), some (vI v8), some (vI (v8 / 2)), some (vI (v8 - v8 / 2 * 2)), none]) (st' := [vI v3, vI v2, vI v1, vI (v8 - v8 / 2 * 2), vI (v8 / 2), vI (q1.1)]) (u1 := q1.2) [(oL 0 9, 2), (oL 0 10, 2), (oL 0 1, 1), (oL 0 2, 1), (oL 0 3, 1)] (by decide +kernel) rfl rfl ?_
        refine g_callS (k := 405) (pc2 := 97) (st := [vI (q1.1)]) (CX10_getsBy (v8 / 2) (v8 - v8 / 2 * 2) v1 v2 v3 q1.2) miX10_getsBy msX10_getsBy lk9_405 wI_ok (by decide +kernel) rfl (Nat.le_of_ble_eq_true rfl) (by decide) rfl (fun q2 hq2 => ?_)
        refine g_igt (off := 32) (tgt := 129) (pc2 := 100) (by decide +kernel) (by decide) rfl ?_ ?_
        · refine g_seg0 (pc' := 130) (L' := [some (vR (kO 9) 0), some (vI v1), some (vI v2), some (vI v3), some (vI v4), some (vI v5), some (vI v6), some (vI v7), some (vI v8), some (vI (v8 / 2)), some (vI (v8 - v8 / 2 * 2)), none]) (st' := [vI 0]) (u1 := q2.2) [(oC 0, 1)] (by decide +kernel) rfl rfl ?_
          exact g_jump [true, true, true, true, true, true, true, true, true, false, false, false] rfl (tX10_rests_130 (fX10_rests_52 n) ih v1 v2 v3 v4 v5 v6 v7 v8 0 q2.2)
        · refine g_seg0 (pc' := 109) (L' := [some (vR (kO 9) 0), some (vI v1), some (vI v2), some (vI v3), some (vI v4), some (vI v5), some (vI v6), some (vI v7), some (vI v8), some (vI (v8 / 2)), some (vI (v8 - v8 / 2 * 2)), none]) (st' := [vI v3, vI v2, vI v1, vI (v8 / 2), vI (1 - (v8 - v8 / 2 * 2))]) (u1 := q2.2) [(oC 1, 1), (oL 0 10, 2), (oP .isub, 1), (oL 0 9, 2), (oL 0 1, 1), (oL 0 2, 1), (oL 0 3, 1)] (by decide +kernel) rfl rfl ?_
          refine g_callS (k := 405) (pc2 := 112) (st := []) (CX10_getsBy (1 - (v8 - v8 / 2 * 2)) (v8 / 2) v1 v2 v3 q2.2) miX10_getsBy msX10_getsBy lk9_405 wI_ok (by decide +kernel) rfl (Nat.le_of_ble_eq_true rfl) (by decide) rfl (fun q3 hq3 => ?_)
          refine g_seg0 (pc' := 119) (L' := [some (vR (kO 9) 0), some (vI v1), some (vI v2), some (vI v3), some (vI v4), some (vI v5), some (vI v6), some (vI v7), some (vI v8), some (vI (v8 / 2)), some (vI (v8 - v8 / 2 * 2)), none]) (st' := [vI v3, vI v2, vI v1, vI (v8 / 2), vI (v8 - v8 / 2 * 2), vI (q3.1)]) (u1 := q3.2) [(oL 0 10, 2), (oL 0 9, 2), (oL 0 1, 1), (oL 0 2, 1), (oL 0 3, 1)] (by decide +kernel) rfl rfl ?_
          refine g_callS (k := 405) (pc2 := 122) (st := [vI (q3.1)]) (CX10_getsBy (v8 - v8 / 2 * 2) (v8 / 2) v1 v2 v3 q3.2) miX10_getsBy msX10_getsBy lk9_405 wI_ok (by decide +kernel) rfl (Nat.le_of_ble_eq_true rfl) (by decide) rfl (fun q4 hq4 => ?_)
          refine g_igt (off := 7) (tgt := 129) (pc2 := 125) (by decide +kernel) (by decide) rfl ?_ ?_
          · refine g_seg0 (pc' := 130) (L' := [some (vR (kO 9) 0), some (vI v1), some (vI v2), some (vI v3), some (vI v4), some (vI v5), some (vI v6), some (vI v7), some (vI v8), some (vI (v8 / 2)), some (vI (v8 - v8 / 2 * 2)), none]) (st' := [vI 0]) (u1 := q4.2) [(oC 0, 1)] (by decide +kernel) rfl rfl ?_
            exact g_jump [true, true, true, true, true, true, true, true, true, false, false, false] rfl (tX10_rests_130 (fX10_rests_52 n) ih v1 v2 v3 v4 v5 v6 v7 v8 0 q4.2)
          · refine g_seg0 (pc' := 126) (L' := [some (vR (kO 9) 0), some (vI v1), some (vI v2), some (vI v3), some (vI v4), some (vI v5), some (vI v6), some (vI v7), some (vI v8), some (vI (v8 / 2)), some (vI (v8 - v8 / 2 * 2)), none]) (st' := [vI 1]) (u1 := q4.2) [(oC 1, 1)] (by decide +kernel) rfl rfl ?_
            refine g_goto (off := 4) (tgt := 130) (by decide +kernel) (by decide) ?_
            exact g_jump [true, true, true, true, true, true, true, true, true, false, false, false] rfl (tX10_rests_130 (fX10_rests_52 n) ih v1 v2 v3 v4 v5 v6 v7 v8 1 q4.2)
def fX10_rests_41 (v1 : Int32) (v2 : Int32) (v3 : Int32) (v4 : Int32) (s0 : Int32) (u : ab_S) : Option (Int32 × ab_S) :=
  fX10_rests_52 fu v1 v2 v3 v4 s0 0 (-1) 0 u
theorem tX10_rests_41 (v1 : Int32) (v2 : Int32) (v3 : Int32) (v4 : Int32) (s0 : Int32) (u : ab_S) : ab_G 1 9 cX10_rests (some .int) 1 41 [some (vR (kO 9) 0), some (vI v1), some (vI v2), some (vI v3), some (vI v4), none, none, none, none, none, none, none] [vI s0] u wI (fX10_rests_41 v1 v2 v3 v4 s0 u) := by
  rw [fX10_rests_41]
  refine g_seg0 (pc' := 52) (L' := [some (vR (kO 9) 0), some (vI v1), some (vI v2), some (vI v3), some (vI v4), some (vI s0), some (vI 0), some (vI (-1)), some (vI 0), none, none, none]) (st' := []) (u1 := u) [(oL 3 5, 2), (oC 0, 1), (oL 3 6, 2), (oC (-1), 1), (oL 3 7, 2), (oC 0, 1), (oL 3 8, 2)] (by decide +kernel) rfl rfl ?_
  exact tX10_rests_52 fu v1 v2 v3 v4 s0 0 (-1) 0 u
def fX10_rests (v1 : Int32) (v2 : Int32) (v3 : Int32) (v4 : Int32) (u : ab_S) : Option (Int32 × ab_S) :=
  (fX10_within v1 0 9 u).bind fun q5 =>
    bif decide (q5.1 = 0) then (
      fX10_rests_41 v1 v2 v3 v4 0 q5.2)
    else (
      (fX10_within v2 0 9 q5.2).bind fun q6 =>
        bif decide (q6.1 = 0) then (
          fX10_rests_41 v1 v2 v3 v4 0 q6.2)
        else (
          (fX10_within v3 0 9 q6.2).bind fun q7 =>
            bif decide (q7.1 = 0) then (
              fX10_rests_41 v1 v2 v3 v4 0 q7.2)
            else (
              bif decide (v4 < (-1)) then (
                fX10_rests_41 v1 v2 v3 v4 0 q7.2)
              else (
                fX10_rests_41 v1 v2 v3 v4 1 q7.2))))
theorem tX10_rests (v1 : Int32) (v2 : Int32) (v3 : Int32) (v4 : Int32) (u : ab_S) : ab_G 1 9 cX10_rests (some .int) 1 0 [some (vR (kO 9) 0), some (vI v1), some (vI v2), some (vI v3), some (vI v4), none, none, none, none, none, none, none] [] u wI (fX10_rests v1 v2 v3 v4 u) := by
  rw [fX10_rests]
  refine g_seg0 (pc' := 4) (L' := [some (vR (kO 9) 0), some (vI v1), some (vI v2), some (vI v3), some (vI v4), none, none, none, none, none, none, none]) (st' := [vI 9, vI 0, vI v1]) (u1 := u) [(oL 0 1, 1), (oC 0, 1), (oC 9, 2)] (by decide +kernel) rfl rfl ?_
  refine g_callS (k := 207) (pc2 := 7) (st := []) (CX10_within v1 0 9 u) miX10_within msX10_within lk9_207 wI_ok (by decide +kernel) rfl (Nat.le_of_ble_eq_true rfl) (by decide) rfl (fun q5 hq5 => ?_)
  refine g_zeq (off := 33) (tgt := 40) (pc2 := 10) (by decide +kernel) (by decide) rfl ?_ ?_
  · refine g_seg0 (pc' := 41) (L' := [some (vR (kO 9) 0), some (vI v1), some (vI v2), some (vI v3), some (vI v4), none, none, none, none, none, none, none]) (st' := [vI 0]) (u1 := q5.2) [(oC 0, 1)] (by decide +kernel) rfl rfl ?_
    exact tX10_rests_41 v1 v2 v3 v4 0 q5.2
  · refine g_seg0 (pc' := 14) (L' := [some (vR (kO 9) 0), some (vI v1), some (vI v2), some (vI v3), some (vI v4), none, none, none, none, none, none, none]) (st' := [vI 9, vI 0, vI v2]) (u1 := q5.2) [(oL 0 2, 1), (oC 0, 1), (oC 9, 2)] (by decide +kernel) rfl rfl ?_
    refine g_callS (k := 207) (pc2 := 17) (st := []) (CX10_within v2 0 9 q5.2) miX10_within msX10_within lk9_207 wI_ok (by decide +kernel) rfl (Nat.le_of_ble_eq_true rfl) (by decide) rfl (fun q6 hq6 => ?_)
    refine g_zeq (off := 23) (tgt := 40) (pc2 := 20) (by decide +kernel) (by decide) rfl ?_ ?_
    · refine g_seg0 (pc' := 41) (L' := [some (vR (kO 9) 0), some (vI v1), some (vI v2), some (vI v3), some (vI v4), none, none, none, none, none, none, none]) (st' := [vI 0]) (u1 := q6.2) [(oC 0, 1)] (by decide +kernel) rfl rfl ?_
      exact tX10_rests_41 v1 v2 v3 v4 0 q6.2
    · refine g_seg0 (pc' := 24) (L' := [some (vR (kO 9) 0), some (vI v1), some (vI v2), some (vI v3), some (vI v4), none, none, none, none, none, none, none]) (st' := [vI 9, vI 0, vI v3]) (u1 := q6.2) [(oL 0 3, 1), (oC 0, 1), (oC 9, 2)] (by decide +kernel) rfl rfl ?_
      refine g_callS (k := 207) (pc2 := 27) (st := []) (CX10_within v3 0 9 q6.2) miX10_within msX10_within lk9_207 wI_ok (by decide +kernel) rfl (Nat.le_of_ble_eq_true rfl) (by decide) rfl (fun q7 hq7 => ?_)
      refine g_zeq (off := 13) (tgt := 40) (pc2 := 30) (by decide +kernel) (by decide) rfl ?_ ?_
      · refine g_seg0 (pc' := 41) (L' := [some (vR (kO 9) 0), some (vI v1), some (vI v2), some (vI v3), some (vI v4), none, none, none, none, none, none, none]) (st' := [vI 0]) (u1 := q7.2) [(oC 0, 1)] (by decide +kernel) rfl rfl ?_
        exact tX10_rests_41 v1 v2 v3 v4 0 q7.2
      · refine g_seg0 (pc' := 33) (L' := [some (vR (kO 9) 0), some (vI v1), some (vI v2), some (vI v3), some (vI v4), none, none, none, none, none, none, none]) (st' := [vI (-1), vI v4]) (u1 := q7.2) [(oL 0 4, 2), (oC (-1), 1)] (by decide +kernel) rfl rfl ?_
        refine g_ilt (off := 7) (tgt := 40) (pc2 := 36) (by decide +kernel) (by decide) rfl ?_ ?_
        · refine g_seg0 (pc' := 41) (L' := [some (vR (kO 9) 0), some (vI v1), some (vI v2), some (vI v3), some (vI v4), none, none, none, none, none, none, none]) (st' := [vI 0]) (u1 := q7.2) [(oC 0, 1)] (by decide +kernel) rfl rfl ?_
          exact tX10_rests_41 v1 v2 v3 v4 0 q7.2
        · refine g_seg0 (pc' := 37) (L' := [some (vR (kO 9) 0), some (vI v1), some (vI v2), some (vI v3), some (vI v4), none, none, none, none, none, none, none]) (st' := [vI 1]) (u1 := q7.2) [(oC 1, 1)] (by decide +kernel) rfl rfl ?_
          refine g_goto (off := 4) (tgt := 41) (by decide +kernel) (by decide) ?_
          exact tX10_rests_41 v1 v2 v3 v4 1 q7.2
theorem CX10_rests (v1 : Int32) (v2 : Int32) (v3 : Int32) (v4 : Int32) (u : ab_S) : ab_C 1 yX10_rests cX10_rests 12 (some .int) 1 [vR (kO 9) 0, vI v1, vI v2, vI v3, vI v4] u wI (fX10_rests v1 v2 v3 v4 u) := ab_entry (by decide +kernel) rfl (by decide) (by decide) (fun _ => Nat.le_of_ble_eq_true rfl) rfl (tX10_rests v1 v2 v3 v4 u)
def fX10_drawsDeed_31 (u : ab_S) : Option (Unit × ab_S) :=
  (fX10_goods u).bind fun q1 =>
    bif decide (q1.1 ≤ 0) then (
      some ((), q1.2))
    else (
      (fX10_goods q1.2).bind fun q2 =>
        (fX10_draw 1034 q2.1 q2.2).bind fun q3 =>
          (fX10_goods q3.2).bind fun q4 =>
            (fX10_draw 1034 q4.1 q4.2).bind fun q5 =>
              bif decide (q3.1 = q5.1) then (
                some ((), q5.2))
              else (
                (fX10_maySwap 1034 q3.1 q5.1 q5.2).bind fun q6 =>
                  bif decide (q6.1 = 0) then (
                    some ((), q6.2))
                  else (
                    (fX10_swaps 1034 q3.1 q5.1 q6.2).bind fun q7 =>
                      some ((), q7.2))))
theorem tX10_drawsDeed_31 (u : ab_S) : ab_G 1 9 cX10_drawsDeed none 5 31 [some (vR (kO 9) 0), none, none, none] [] u wV (fX10_drawsDeed_31 u) := by
  rw [fX10_drawsDeed_31]
  refine g_seg0 (pc' := 32) (L' := [some (vR (kO 9) 0), none, none, none]) (st' := [vR (kO 9) 0]) (u1 := u) [(oL 2 0, 1)] (by decide +kernel) rfl rfl ?_
  refine g_callV (k := 291) (pc2 := 35) (st := []) (CX10_goods u) miX10_goods mvX10_goods rfl (by decide) lk9_291 wI_ok (by decide +kernel) rfl (Nat.le_of_ble_eq_true rfl) (by decide) rfl (fun q1 hq1 => ?_)
  refine g_zle (off := 53) (tgt := 88) (pc2 := 38) (by decide +kernel) (by decide) rfl ?_ ?_
  · exact g_vret (by decide +kernel) rfl
  · refine g_seg0 (pc' := 43) (L' := [some (vR (kO 9) 0), none, none, none]) (st' := [vR (kO 9) 0, vI 1034, vR (kO 9) 0]) (u1 := q1.2) [(oL 2 0, 1), (oC 1034, 3), (oL 2 0, 1)] (by decide +kernel) rfl rfl ?_
    refine g_callV (k := 291) (pc2 := 46) (st := [vI 1034, vR (kO 9) 0]) (CX10_goods q1.2) miX10_goods mvX10_goods rfl (by decide) lk9_291 wI_ok (by decide +kernel) rfl (Nat.le_of_ble_eq_true rfl) (by decide) rfl (fun q2 hq2 => ?_)
    refine g_callV (k := 333) (pc2 := 49) (st := []) (CX10_draw 1034 q2.1 q2.2) miX10_draw mvX10_draw rfl (by decide) lk9_333 wI_ok (by decide +kernel) rfl (Nat.le_of_ble_eq_true rfl) (by decide) rfl (fun q3 hq3 => ?_)
    refine g_seg0 (pc' := 55) (L' := [some (vR (kO 9) 0), none, some (vI (q3.1)), none]) (st' := [vR (kO 9) 0, vI 1034, vR (kO 9) 0]) (u1 := q3.2) [(oL 3 2, 1), (oL 2 0, 1), (oC 1034, 3), (oL 2 0, 1)] (by decide +kernel) rfl rfl ?_
    refine g_callV (k := 291) (pc2 := 58) (st := [vI 1034, vR (kO 9) 0]) (CX10_goods q3.2) miX10_goods mvX10_goods rfl (by decide) lk9_291 wI_ok (by decide +kernel) rfl (Nat.le_of_ble_eq_true rfl) (by decide) rfl (fun q4 hq4 => ?_)
    refine g_callV (k := 333) (pc2 := 61) (st := []) (CX10_draw 1034 q4.1 q4.2) miX10_draw mvX10_draw rfl (by decide) lk9_333 wI_ok (by decide +kernel) rfl (Nat.le_of_ble_eq_true rfl) (by decide) rfl (fun q5 hq5 => ?_)
    refine g_seg0 (pc' := 64) (L' := [some (vR (kO 9) 0), none, some (vI (q3.1)), some (vI (q5.1))]) (st' := [vI (q5.1), vI (q3.1)]) (u1 := q5.2) [(oL 3 3, 1), (oL 0 2, 1), (oL 0 3, 1)] (by decide +kernel) rfl rfl ?_
    refine g_ieq (off := 24) (tgt := 88) (pc2 := 67) (by decide +kernel) (by decide) rfl ?_ ?_
    · exact g_vret (by decide +kernel) rfl
    · refine g_seg0 (pc' := 73) (L' := [some (vR (kO 9) 0), none, some (vI (q3.1)), some (vI (q5.1))]) (st' := [vI (q5.1), vI (q3.1), vI 1034, vR (kO 9) 0]) (u1 := q5.2) [(oL 2 0, 1), (oC 1034, 3), (oL 0 2, 1), (oL 0 3, 1)] (by decide +kernel) rfl rfl ?_
      refine g_callV (k := 358) (pc2 := 76) (st := []) (CX10_maySwap 1034 q3.1 q5.1 q5.2) miX10_maySwap mvX10_maySwap rfl (by decide) lk9_358 wI_ok (by decide +kernel) rfl (Nat.le_of_ble_eq_true rfl) (by decide) rfl (fun q6 hq6 => ?_)
      refine g_zeq (off := 12) (tgt := 88) (pc2 := 79) (by decide +kernel) (by decide) rfl ?_ ?_
      · exact g_vret (by decide +kernel) rfl
      · refine g_seg0 (pc' := 85) (L' := [some (vR (kO 9) 0), none, some (vI (q3.1)), some (vI (q5.1))]) (st' := [vI (q5.1), vI (q3.1), vI 1034, vR (kO 9) 0]) (u1 := q6.2) [(oL 2 0, 1), (oC 1034, 3), (oL 0 2, 1), (oL 0 3, 1)] (by decide +kernel) rfl rfl ?_
        refine g_callV (k := 361) (pc2 := 88) (st := []) (CX10_swaps 1034 q3.1 q5.1 q6.2) miX10_swaps mvX10_swaps rfl (by decide) lk9_361 wV_ok (by decide +kernel) rfl (Nat.le_of_ble_eq_true rfl) (by decide) rfl (fun q7 hq7 => ?_)
        exact g_vret (by decide +kernel) rfl
def fX10_drawsDeed (u : ab_S) : Option (Unit × ab_S) :=
  (fX10_persons u).bind fun q8 =>
    (fX10_draw 1034 q8.1 q8.2).bind fun q9 =>
      (fX10_mayBuy 1034 q9.1 q9.2).bind fun q10 =>
        bif decide (q10.1 = 0) then (
          fX10_drawsDeed_31 q10.2)
        else (
          (fX10_buys 1034 q9.1 q10.2).bind fun q11 =>
            fX10_drawsDeed_31 q11.2)
theorem tX10_drawsDeed (u : ab_S) : ab_G 1 9 cX10_drawsDeed none 5 0 [some (vR (kO 9) 0), none, none, none] [] u wV (fX10_drawsDeed u) := by
  rw [fX10_drawsDeed]
  refine g_seg0 (pc' := 5) (L' := [some (vR (kO 9) 0), none, none, none]) (st' := [vR (kO 9) 0, vI 1034, vR (kO 9) 0]) (u1 := u) [(oL 2 0, 1), (oC 1034, 3), (oL 2 0, 1)] (by decide +kernel) rfl rfl ?_
  refine g_callV (k := 275) (pc2 := 8) (st := [vI 1034, vR (kO 9) 0]) (CX10_persons u) miX10_persons mvX10_persons rfl (by decide) lk9_275 wI_ok (by decide +kernel) rfl (Nat.le_of_ble_eq_true rfl) (by decide) rfl (fun q8 hq8 => ?_)
  refine g_callV (k := 333) (pc2 := 11) (st := []) (CX10_draw 1034 q8.1 q8.2) miX10_draw mvX10_draw rfl (by decide) lk9_333 wI_ok (by decide +kernel) rfl (Nat.le_of_ble_eq_true rfl) (by decide) rfl (fun q9 hq9 => ?_)
  refine g_seg0 (pc' := 17) (L' := [some (vR (kO 9) 0), some (vI (q9.1)), none, none]) (st' := [vI (q9.1), vI 1034, vR (kO 9) 0]) (u1 := q9.2) [(oL 3 1, 1), (oL 2 0, 1), (oC 1034, 3), (oL 0 1, 1)] (by decide +kernel) rfl rfl ?_
  refine g_callV (k := 348) (pc2 := 20) (st := []) (CX10_mayBuy 1034 q9.1 q9.2) miX10_mayBuy mvX10_mayBuy rfl (by decide) lk9_348 wI_ok (by decide +kernel) rfl (Nat.le_of_ble_eq_true rfl) (by decide) rfl (fun q10 hq10 => ?_)
  refine g_zeq (off := 11) (tgt := 31) (pc2 := 23) (by decide +kernel) (by decide) rfl ?_ ?_
  · exact g_jump [true, false, false, false] rfl (tX10_drawsDeed_31 q10.2)
  · refine g_seg0 (pc' := 28) (L' := [some (vR (kO 9) 0), some (vI (q9.1)), none, none]) (st' := [vI (q9.1), vI 1034, vR (kO 9) 0]) (u1 := q10.2) [(oL 2 0, 1), (oC 1034, 3), (oL 0 1, 1)] (by decide +kernel) rfl rfl ?_
    refine g_callV (k := 355) (pc2 := 31) (st := []) (CX10_buys 1034 q9.1 q10.2) miX10_buys mvX10_buys rfl (by decide) lk9_355 wV_ok (by decide +kernel) rfl (Nat.le_of_ble_eq_true rfl) (by decide) rfl (fun q11 hq11 => ?_)
    exact g_jump [true, false, false, false] rfl (tX10_drawsDeed_31 q11.2)
theorem CX10_drawsDeed (u : ab_S) : ab_C 1 yX10_drawsDeed cX10_drawsDeed 4 none 5 [vR (kO 9) 0] u wV (fX10_drawsDeed u) := ab_entry (by decide +kernel) rfl (by decide) (by decide) (fun _ => Nat.le_of_ble_eq_true rfl) rfl (tX10_drawsDeed u)
def fX10_luck_79 (k62 : Int32 → Int32 → Int32 → Int32 → ab_S → Option (Int32 × ab_S)) (v2 : Int32) (v3 : Int32) (v4 : Int32) (v5 : Int32) (u : ab_S) : Option (Int32 × ab_S) :=
  (fX10_passes 1034 u).bind fun q1 =>
    bif decide (q1.1 < 0) then (
      k62 v2 v3 (v4 + 0) (v5 + 1) q1.2)
    else (
      k62 v2 v3 (v4 + 1) (v5 + 1) q1.2)
theorem tX10_luck_79 (k62 : Int32 → Int32 → Int32 → Int32 → ab_S → Option (Int32 × ab_S)) (hk62 : ∀ (v2 : Int32) (v3 : Int32) (v4 : Int32) (v5 : Int32) (u : ab_S), ab_G 1 9 cX10_luck (some .int) 6 62 [some (vR (kO 9) 0), none, some (vI v2), some (vI v3), some (vI v4), some (vI v5)] [] u wI (k62 v2 v3 v4 v5 u)) (v2 : Int32) (v3 : Int32) (v4 : Int32) (v5 : Int32) (u : ab_S) : ab_G 1 9 cX10_luck (some .int) 6 79 [some (vR (kO 9) 0), none, some (vI v2), some (vI v3), some (vI v4), some (vI v5)] [] u wI (fX10_luck_79 k62 v2 v3 v4 v5 u) := by
  rw [fX10_luck_79]
  refine g_seg0 (pc' := 85) (L' := [some (vR (kO 9) 0), none, some (vI v2), some (vI v3), some (vI v4), some (vI v5)]) (st' := [vI 1034, vR (kO 9) 0, vI v4]) (u1 := u) [(oL 0 4, 2), (oL 2 0, 1), (oC 1034, 3)] (by decide +kernel) rfl rfl ?_
  refine g_callV (k := 364) (pc2 := 88) (st := [vI v4]) (CX10_passes 1034 u) miX10_passes mvX10_passes rfl (by decide) lk9_364 wI_ok (by decide +kernel) rfl (Nat.le_of_ble_eq_true rfl) (by decide) rfl (fun q1 hq1 => ?_)
  refine g_zlt (off := 7) (tgt := 95) (pc2 := 91) (by decide +kernel) (by decide) rfl ?_ ?_
  · refine g_seg0 (pc' := 102) (L' := [some (vR (kO 9) 0), none, some (vI v2), some (vI v3), some (vI (v4 + 0)), some (vI (v5 + 1))]) (st' := []) (u1 := q1.2) [(oC 0, 1), (oP .iadd, 1), (oL 3 4, 2), (oN 5 1, 3)] (by decide +kernel) rfl rfl ?_
    refine g_goto (off := (-40)) (tgt := 62) (by decide +kernel) (by decide) ?_
    exact hk62 v2 v3 (v4 + 0) (v5 + 1) q1.2
  · refine g_seg0 (pc' := 92) (L' := [some (vR (kO 9) 0), none, some (vI v2), some (vI v3), some (vI v4), some (vI v5)]) (st' := [vI 1, vI v4]) (u1 := q1.2) [(oC 1, 1)] (by decide +kernel) rfl rfl ?_
    refine g_goto (off := 4) (tgt := 96) (by decide +kernel) (by decide) ?_
    refine g_seg0 (pc' := 102) (L' := [some (vR (kO 9) 0), none, some (vI v2), some (vI v3), some (vI (v4 + 1)), some (vI (v5 + 1))]) (st' := []) (u1 := q1.2) [(oP .iadd, 1), (oL 3 4, 2), (oN 5 1, 3)] (by decide +kernel) rfl rfl ?_
    refine g_goto (off := (-40)) (tgt := 62) (by decide +kernel) (by decide) ?_
    exact hk62 v2 v3 (v4 + 1) (v5 + 1) q1.2
def fX10_luck_62 : Nat → Int32 → Int32 → Int32 → Int32 → ab_S → Option (Int32 × ab_S)
  | 0, _, _, _, _, _ => none
  | n + 1, v2, v3, v4, v5, u =>
  bif decide (v5 < v2) then (
    (fX10_persons u).bind fun q4 =>
      bif decide (q4.1 ≤ 0) then (
        fX10_luck_79 (fX10_luck_62 n) v2 v3 v4 v5 q4.2)
      else (
        (fX10_drawsDeed q4.2).bind fun q5 =>
          fX10_luck_79 (fX10_luck_62 n) v2 v3 v4 v5 q5.2))
  else (
    bif decide (v3 = 0) then (
      some (v4, u))
    else (
      bif decide (v3 = 1) then (
        (fX10_rightsOf 1034 u).bind fun q3 =>
          some (q3.1, q3.2))
      else (
        (fX10_joyOfAll 1034 u).bind fun q2 =>
          some (q2.1, q2.2))))
theorem tX10_luck_62 : ∀ (n : Nat) (v2 : Int32) (v3 : Int32) (v4 : Int32) (v5 : Int32) (u : ab_S), ab_G 1 9 cX10_luck (some .int) 6 62 [some (vR (kO 9) 0), none, some (vI v2), some (vI v3), some (vI v4), some (vI v5)] [] u wI (fX10_luck_62 n v2 v3 v4 v5 u) := by
  intro n
  induction n with
  | zero => intros; exact g_none
  | succ n ih =>
    intro v2 v3 v4 v5 u
    rw [fX10_luck_62]
    refine g_seg0 (pc' := 65) (L' := [some (vR (kO 9) 0), none, some (vI v2), some (vI v3), some (vI v4), some (vI v5)]) (st' := [vI v2, vI v5]) (u1 := u) [(oL 0 5, 2), (oL 0 2, 1)] (by decide +kernel) rfl rfl ?_
    refine g_ige (off := 40) (tgt := 105) (pc2 := 68) (by decide +kernel) (by decide) rfl ?_ ?_
    · refine g_seg0 (pc' := 106) (L' := [some (vR (kO 9) 0), none, some (vI v2), some (vI v3), some (vI v4), some (vI v5)]) (st' := [vI v3]) (u1 := u) [(oL 0 3, 1)] (by decide +kernel) rfl rfl ?_
      refine g_zne (off := 8) (tgt := 114) (pc2 := 109) (by decide +kernel) (by decide) rfl ?_ ?_
      · refine g_seg0 (pc' := 116) (L' := [some (vR (kO 9) 0), none, some (vI v2), some (vI v3), some (vI v4), some (vI v5)]) (st' := [vI 1, vI v3]) (u1 := u) [(oL 0 3, 1), (oC 1, 1)] (by decide +kernel) rfl rfl ?_
        refine g_ine (off := 13) (tgt := 129) (pc2 := 119) (by decide +kernel) (by decide) rfl ?_ ?_
        · refine g_seg0 (pc' := 133) (L' := [some (vR (kO 9) 0), none, some (vI v2), some (vI v3), some (vI v4), some (vI v5)]) (st' := [vI 1034, vR (kO 9) 0]) (u1 := u) [(oL 2 0, 1), (oC 1034, 3)] (by decide +kernel) rfl rfl ?_
          refine g_callV (k := 412) (pc2 := 136) (st := []) (CX10_joyOfAll 1034 u) miX10_joyOfAll mvX10_joyOfAll rfl (by decide) lk9_412 wI_ok (by decide +kernel) rfl (Nat.le_of_ble_eq_true rfl) (by decide) rfl (fun q2 hq2 => ?_)
          exact g_iret (by decide +kernel) rfl
        · refine g_seg0 (pc' := 123) (L' := [some (vR (kO 9) 0), none, some (vI v2), some (vI v3), some (vI v4), some (vI v5)]) (st' := [vI 1034, vR (kO 9) 0]) (u1 := u) [(oL 2 0, 1), (oC 1034, 3)] (by decide +kernel) rfl rfl ?_
          refine g_callV (k := 367) (pc2 := 126) (st := []) (CX10_rightsOf 1034 u) miX10_rightsOf mvX10_rightsOf rfl (by decide) lk9_367 wI_ok (by decide +kernel) rfl (Nat.le_of_ble_eq_true rfl) (by decide) rfl (fun q3 hq3 => ?_)
          refine g_goto (off := 10) (tgt := 136) (by decide +kernel) (by decide) ?_
          exact g_iret (by decide +kernel) rfl
      · refine g_seg0 (pc' := 111) (L' := [some (vR (kO 9) 0), none, some (vI v2), some (vI v3), some (vI v4), some (vI v5)]) (st' := [vI v4]) (u1 := u) [(oL 0 4, 2)] (by decide +kernel) rfl rfl ?_
        refine g_goto (off := 25) (tgt := 136) (by decide +kernel) (by decide) ?_
        exact g_iret (by decide +kernel) rfl
    · refine g_seg0 (pc' := 69) (L' := [some (vR (kO 9) 0), none, some (vI v2), some (vI v3), some (vI v4), some (vI v5)]) (st' := [vR (kO 9) 0]) (u1 := u) [(oL 2 0, 1)] (by decide +kernel) rfl rfl ?_
      refine g_callV (k := 275) (pc2 := 72) (st := []) (CX10_persons u) miX10_persons mvX10_persons rfl (by decide) lk9_275 wI_ok (by decide +kernel) rfl (Nat.le_of_ble_eq_true rfl) (by decide) rfl (fun q4 hq4 => ?_)
      refine g_zle (off := 7) (tgt := 79) (pc2 := 75) (by decide +kernel) (by decide) rfl ?_ ?_
      · exact tX10_luck_79 (fX10_luck_62 n) ih v2 v3 v4 v5 q4.2
      · refine g_seg0 (pc' := 76) (L' := [some (vR (kO 9) 0), none, some (vI v2), some (vI v3), some (vI v4), some (vI v5)]) (st' := [vR (kO 9) 0]) (u1 := q4.2) [(oL 2 0, 1)] (by decide +kernel) rfl rfl ?_
        refine g_callV (k := 409) (pc2 := 79) (st := []) (CX10_drawsDeed q4.2) miX10_drawsDeed mvX10_drawsDeed rfl (by decide) lk9_409 wV_ok (by decide +kernel) rfl (Nat.le_of_ble_eq_true rfl) (by decide) rfl (fun q5 hq5 => ?_)
        exact tX10_luck_79 (fX10_luck_62 n) ih v2 v3 v4 v5 q5.2
def fX10_luck (v1 : Int32) (v2 : Int32) (v3 : Int32) (u : ab_S) : Option (Int32 × ab_S) :=
  (fX10_within v1 0 9999 (sI u 0 0 0)).bind fun q6 =>
    bif decide (q6.1 = 0) then (
      some ((-1), q6.2))
    else (
      (fX10_within v2 1 99 q6.2).bind fun q7 =>
        bif decide (q7.1 = 0) then (
          some ((-1), q7.2))
        else (
          (fX10_within v3 0 2 q7.2).bind fun q8 =>
            bif decide (q8.1 = 0) then (
              some ((-1), q8.2))
            else (
              (fX10_copies 0 1034 22 q8.2).bind fun q9 =>
                ab_gd [ab_ix 1035 1081] (
                  fX10_luck_62 fu v2 v3 0 0 (sI q9.2 16 (nc 1035) v1)))))
theorem tX10_luck (v1 : Int32) (v2 : Int32) (v3 : Int32) (u : ab_S) : ab_G 1 9 cX10_luck (some .int) 6 0 [some (vR (kO 9) 0), some (vI v1), some (vI v2), some (vI v3), none, none] [] u wI (fX10_luck v1 v2 v3 u) := by
  rw [fX10_luck]
  refine g_seg0 (pc' := 10) (L' := [some (vR (kO 9) 0), some (vI v1), some (vI v2), some (vI v3), none, none]) (st' := [vI 9999, vI 0, vI v1]) (u1 := (sI u 0 0 0)) [(oL 2 0, 1), (oC 0, 1), (oP (.putfield 1), 3), (oL 0 1, 1), (oC 0, 1), (oC 9999, 3)] (by decide +kernel) rfl rfl ?_
  refine g_callS (k := 207) (pc2 := 13) (st := []) (CX10_within v1 0 9999 (sI u 0 0 0)) miX10_within msX10_within lk9_207 wI_ok (by decide +kernel) rfl (Nat.le_of_ble_eq_true rfl) (by decide) rfl (fun q6 hq6 => ?_)
  refine g_zeq (off := 22) (tgt := 35) (pc2 := 16) (by decide +kernel) (by decide) rfl ?_ ?_
  · refine g_seg0 (pc' := 36) (L' := [some (vR (kO 9) 0), some (vI v1), some (vI v2), some (vI v3), none, none]) (st' := [vI (-1)]) (u1 := q6.2) [(oC (-1), 1)] (by decide +kernel) rfl rfl ?_
    exact g_iret (by decide +kernel) rfl
  · refine g_seg0 (pc' := 20) (L' := [some (vR (kO 9) 0), some (vI v1), some (vI v2), some (vI v3), none, none]) (st' := [vI 99, vI 1, vI v2]) (u1 := q6.2) [(oL 0 2, 1), (oC 1, 1), (oC 99, 2)] (by decide +kernel) rfl rfl ?_
    refine g_callS (k := 207) (pc2 := 23) (st := []) (CX10_within v2 1 99 q6.2) miX10_within msX10_within lk9_207 wI_ok (by decide +kernel) rfl (Nat.le_of_ble_eq_true rfl) (by decide) rfl (fun q7 hq7 => ?_)
    refine g_zeq (off := 12) (tgt := 35) (pc2 := 26) (by decide +kernel) (by decide) rfl ?_ ?_
    · refine g_seg0 (pc' := 36) (L' := [some (vR (kO 9) 0), some (vI v1), some (vI v2), some (vI v3), none, none]) (st' := [vI (-1)]) (u1 := q7.2) [(oC (-1), 1)] (by decide +kernel) rfl rfl ?_
      exact g_iret (by decide +kernel) rfl
    · refine g_seg0 (pc' := 29) (L' := [some (vR (kO 9) 0), some (vI v1), some (vI v2), some (vI v3), none, none]) (st' := [vI 2, vI 0, vI v3]) (u1 := q7.2) [(oL 0 3, 1), (oC 0, 1), (oC 2, 1)] (by decide +kernel) rfl rfl ?_
      refine g_callS (k := 207) (pc2 := 32) (st := []) (CX10_within v3 0 2 q7.2) miX10_within msX10_within lk9_207 wI_ok (by decide +kernel) rfl (Nat.le_of_ble_eq_true rfl) (by decide) rfl (fun q8 hq8 => ?_)
      refine g_zne (off := 5) (tgt := 37) (pc2 := 35) (by decide +kernel) (by decide) rfl ?_ ?_
      · refine g_seg0 (pc' := 44) (L' := [some (vR (kO 9) 0), some (vI v1), some (vI v2), some (vI v3), none, none]) (st' := [vI 22, vI 1034, vI 0, vR (kO 9) 0]) (u1 := q8.2) [(oL 2 0, 1), (oC 0, 1), (oC 1034, 3), (oC 22, 2)] (by decide +kernel) rfl rfl ?_
        refine g_callV (k := 288) (pc2 := 47) (st := []) (CX10_copies 0 1034 22 q8.2) miX10_copies mvX10_copies rfl (by decide) lk9_288 wV_ok (by decide +kernel) rfl (Nat.le_of_ble_eq_true rfl) (by decide) rfl (fun q9 hq9 => ?_)
        refine g_seg (pc' := 62) (L' := [some (vR (kO 9) 0), some (vI v1), some (vI v2), some (vI v3), some (vI 0), some (vI 0)]) (st' := []) (u1 := (sI q9.2 16 (nc 1035) v1)) [(oL 2 0, 1), (oP (.getfield 113), 3), (oC 1035, 3), (oL 0 1, 1), (oP .iastore, 1), (oC 0, 1), (oL 3 4, 2), (oC 0, 1), (oL 3 5, 2)] (by decide +kernel) rfl rfl ?_
        exact g_jump [true, false, true, true, true, true] rfl (tX10_luck_62 fu v2 v3 0 0 (sI q9.2 16 (nc 1035) v1))
      · refine g_seg0 (pc' := 36) (L' := [some (vR (kO 9) 0), some (vI v1), some (vI v2), some (vI v3), none, none]) (st' := [vI (-1)]) (u1 := q8.2) [(oC (-1), 1)] (by decide +kernel) rfl rfl ?_
        exact g_iret (by decide +kernel) rfl
theorem CX10_luck (v1 : Int32) (v2 : Int32) (v3 : Int32) (u : ab_S) : ab_C 1 yX10_luck cX10_luck 6 (some .int) 6 [vR (kO 9) 0, vI v1, vI v2, vI v3] u wI (fX10_luck v1 v2 v3 u) := ab_entry (by decide +kernel) rfl (by decide) (by decide) (fun _ => Nat.le_of_ble_eq_true rfl) rfl (tX10_luck v1 v2 v3 u)
def fX10_mark_65 (v2 : Int32) (s1 : Int32) (s2 : Int32) (u : ab_S) : Option (Int32 × ab_S) :=
  (fX10_copies s1 s2 47 u).bind fun q1 =>
    bif decide (v2 = 0) then (
      ab_gd [ab_b1 1] (some (1, (sI q1.2 0 25 (q1.2.1 0 25)))))
    else (
      ab_gd [ab_b1 1] (some (1, (sI q1.2 0 25 0))))
theorem tX10_mark_65 (v2 : Int32) (s1 : Int32) (s2 : Int32) (u : ab_S) : ab_G 1 9 cX10_mark (some .boolean) 1 65 [some (vR (kO 9) 0), none, some (vI v2)] [vI s2, vI s1, vR (kO 9) 0] u wI (fX10_mark_65 v2 s1 s2 u) := by
  rw [fX10_mark_65]
  refine g_seg0 (pc' := 67) (L' := [some (vR (kO 9) 0), none, some (vI v2)]) (st' := [vI 47, vI s2, vI s1, vR (kO 9) 0]) (u1 := u) [(oC 47, 2)] (by decide +kernel) rfl rfl ?_
  refine g_callV (k := 288) (pc2 := 70) (st := []) (CX10_copies s1 s2 47 u) miX10_copies mvX10_copies rfl (by decide) lk9_288 wV_ok (by decide +kernel) rfl (Nat.le_of_ble_eq_true rfl) (by decide) rfl (fun q1 hq1 => ?_)
  refine g_seg0 (pc' := 72) (L' := [some (vR (kO 9) 0), none, some (vI v2)]) (st' := [vI v2, vR (kO 9) 0]) (u1 := q1.2) [(oL 2 0, 1), (oL 0 2, 1)] (by decide +kernel) rfl rfl ?_
  refine g_zeq (off := 7) (tgt := 79) (pc2 := 75) (by decide +kernel) (by decide) rfl ?_ ?_
  · refine g_seg0 (pc' := 87) (L' := [some (vR (kO 9) 0), none, some (vI v2)]) (st' := [vI 1]) (u1 := (sI q1.2 0 25 (q1.2.1 0 25))) [(oL 2 0, 1), (oP (.getfield 285), 3), (oP (.putfield 285), 3), (oC 1, 1)] (by decide +kernel) rfl rfl ?_
    exact g_zret (by decide +kernel) rfl
  · refine g_seg0 (pc' := 76) (L' := [some (vR (kO 9) 0), none, some (vI v2)]) (st' := [vI 0, vR (kO 9) 0]) (u1 := q1.2) [(oC 0, 1)] (by decide +kernel) rfl rfl ?_
    refine g_goto (off := 7) (tgt := 83) (by decide +kernel) (by decide) ?_
    refine g_seg0 (pc' := 87) (L' := [some (vR (kO 9) 0), none, some (vI v2)]) (st' := [vI 1]) (u1 := (sI q1.2 0 25 0)) [(oP (.putfield 285), 3), (oC 1, 1)] (by decide +kernel) rfl rfl ?_
    exact g_zret (by decide +kernel) rfl
def fX10_mark_51 (v1 : Int32) (v2 : Int32) (s1 : Int32) (u : ab_S) : Option (Int32 × ab_S) :=
  bif decide (v2 = 0) then (
    fX10_mark_65 v2 s1 (47 * (1 + v1)) u)
  else (
    fX10_mark_65 v2 s1 0 u)
theorem tX10_mark_51 (v1 : Int32) (v2 : Int32) (s1 : Int32) (u : ab_S) : ab_G 1 9 cX10_mark (some .boolean) 1 51 [some (vR (kO 9) 0), some (vI v1), some (vI v2)] [vI s1, vR (kO 9) 0] u wI (fX10_mark_51 v1 v2 s1 u) := by
  rw [fX10_mark_51]
  refine g_seg0 (pc' := 52) (L' := [some (vR (kO 9) 0), some (vI v1), some (vI v2)]) (st' := [vI v2, vI s1, vR (kO 9) 0]) (u1 := u) [(oL 0 2, 1)] (by decide +kernel) rfl rfl ?_
  refine g_zeq (off := 7) (tgt := 59) (pc2 := 55) (by decide +kernel) (by decide) rfl ?_ ?_
  · refine g_seg0 (pc' := 65) (L' := [some (vR (kO 9) 0), some (vI v1), some (vI v2)]) (st' := [vI (47 * (1 + v1)), vI s1, vR (kO 9) 0]) (u1 := u) [(oC 47, 2), (oC 1, 1), (oL 0 1, 1), (oP .iadd, 1), (oP .imul, 1)] (by decide +kernel) rfl rfl ?_
    exact g_jump [true, false, true] rfl (tX10_mark_65 v2 s1 (47 * (1 + v1)) u)
  · refine g_seg0 (pc' := 56) (L' := [some (vR (kO 9) 0), some (vI v1), some (vI v2)]) (st' := [vI 0, vI s1, vR (kO 9) 0]) (u1 := u) [(oC 0, 1)] (by decide +kernel) rfl rfl ?_
    refine g_goto (off := 9) (tgt := 65) (by decide +kernel) (by decide) ?_
    exact g_jump [true, false, true] rfl (tX10_mark_65 v2 s1 0 u)
def fX10_mark_29 (v1 : Int32) (v2 : Int32) (u : ab_S) : Option (Int32 × ab_S) :=
  ab_gd [ab_ix v1 4, ab_b1 1] (
    bif decide (v2 = 0) then (
      fX10_mark_51 v1 v2 0 (sI u 17 (nc v1) 1))
    else (
      fX10_mark_51 v1 v2 (47 * (1 + v1)) (sI u 17 (nc v1) 1)))
theorem tX10_mark_29 (v1 : Int32) (v2 : Int32) (u : ab_S) : ab_G 1 9 cX10_mark (some .boolean) 1 29 [some (vR (kO 9) 0), some (vI v1), some (vI v2)] [] u wI (fX10_mark_29 v1 v2 u) := by
  rw [fX10_mark_29]
  refine g_seg (pc' := 38) (L' := [some (vR (kO 9) 0), some (vI v1), some (vI v2)]) (st' := [vI v2, vR (kO 9) 0]) (u1 := (sI u 17 (nc v1) 1)) [(oL 2 0, 1), (oP (.getfield 116), 3), (oL 0 1, 1), (oC 1, 1), (oP .bastore, 1), (oL 2 0, 1), (oL 0 2, 1)] (by decide +kernel) rfl rfl ?_
  refine g_zeq (off := 12) (tgt := 50) (pc2 := 41) (by decide +kernel) (by decide) rfl ?_ ?_
  · refine g_seg0 (pc' := 51) (L' := [some (vR (kO 9) 0), some (vI v1), some (vI v2)]) (st' := [vI 0, vR (kO 9) 0]) (u1 := (sI u 17 (nc v1) 1)) [(oC 0, 1)] (by decide +kernel) rfl rfl ?_
    exact tX10_mark_51 v1 v2 0 (sI u 17 (nc v1) 1)
  · refine g_seg0 (pc' := 47) (L' := [some (vR (kO 9) 0), some (vI v1), some (vI v2)]) (st' := [vI (47 * (1 + v1)), vR (kO 9) 0]) (u1 := (sI u 17 (nc v1) 1)) [(oC 47, 2), (oC 1, 1), (oL 0 1, 1), (oP .iadd, 1), (oP .imul, 1)] (by decide +kernel) rfl rfl ?_
    refine g_goto (off := 4) (tgt := 51) (by decide +kernel) (by decide) ?_
    exact tX10_mark_51 v1 v2 (47 * (1 + v1)) (sI u 17 (nc v1) 1)
def fX10_mark (v1 : Int32) (v2 : Int32) (u : ab_S) : Option (Int32 × ab_S) :=
  (fX10_within v1 0 3 (sI u 0 0 0)).bind fun q2 =>
    bif decide (q2.1 = 0) then (
      ab_gd [ab_b1 0] (some (0, q2.2)))
    else (
      bif decide (v2 = 0) then (
        fX10_mark_29 v1 v2 q2.2)
      else (
        ab_gd [ab_ix v1 4] (
          bif decide ((q2.2.1 17 (nc v1)) = 0) then (
            ab_gd [ab_b1 0] (some (0, q2.2)))
          else (
            fX10_mark_29 v1 v2 q2.2))))
theorem tX10_mark (v1 : Int32) (v2 : Int32) (u : ab_S) : ab_G 1 9 cX10_mark (some .boolean) 1 0 [some (vR (kO 9) 0), some (vI v1), some (vI v2)] [] u wI (fX10_mark v1 v2 u) := by
  rw [fX10_mark]
  refine g_seg0 (pc' := 8) (L' := [some (vR (kO 9) 0), some (vI v1), some (vI v2)]) (st' := [vI 3, vI 0, vI v1]) (u1 := (sI u 0 0 0)) [(oL 2 0, 1), (oC 0, 1), (oP (.putfield 1), 3), (oL 0 1, 1), (oC 0, 1), (oC 3, 1)] (by decide +kernel) rfl rfl ?_
  refine g_callS (k := 207) (pc2 := 11) (st := []) (CX10_within v1 0 3 (sI u 0 0 0)) miX10_within msX10_within lk9_207 wI_ok (by decide +kernel) rfl (Nat.le_of_ble_eq_true rfl) (by decide) rfl (fun q2 hq2 => ?_)
  refine g_zeq (off := 16) (tgt := 27) (pc2 := 14) (by decide +kernel) (by decide) rfl ?_ ?_
  · refine g_seg0 (pc' := 28) (L' := [some (vR (kO 9) 0), some (vI v1), some (vI v2)]) (st' := [vI 0]) (u1 := q2.2) [(oC 0, 1)] (by decide +kernel) rfl rfl ?_
    exact g_zret (by decide +kernel) rfl
  · refine g_seg0 (pc' := 15) (L' := [some (vR (kO 9) 0), some (vI v1), some (vI v2)]) (st' := [vI v2]) (u1 := q2.2) [(oL 0 2, 1)] (by decide +kernel) rfl rfl ?_
    refine g_zeq (off := 14) (tgt := 29) (pc2 := 18) (by decide +kernel) (by decide) rfl ?_ ?_
    · exact tX10_mark_29 v1 v2 q2.2
    · refine g_seg (pc' := 24) (L' := [some (vR (kO 9) 0), some (vI v1), some (vI v2)]) (st' := [vI (q2.2.1 17 (nc v1))]) (u1 := q2.2) [(oL 2 0, 1), (oP (.getfield 116), 3), (oL 0 1, 1), (oP .baload, 1)] (by decide +kernel) rfl rfl ?_
      refine g_zne (off := 5) (tgt := 29) (pc2 := 27) (by decide +kernel) (by decide) rfl ?_ ?_
      · exact tX10_mark_29 v1 v2 q2.2
      · refine g_seg0 (pc' := 28) (L' := [some (vR (kO 9) 0), some (vI v1), some (vI v2)]) (st' := [vI 0]) (u1 := q2.2) [(oC 0, 1)] (by decide +kernel) rfl rfl ?_
        exact g_zret (by decide +kernel) rfl
theorem CX10_mark (v1 : Int32) (v2 : Int32) (u : ab_S) : ab_C 1 yX10_mark cX10_mark 3 (some .boolean) 1 [vR (kO 9) 0, vI v1, vI v2] u wI (fX10_mark v1 v2 u) := ab_entry (by decide +kernel) rfl (by decide) (by decide) (fun _ => Nat.le_of_ble_eq_true rfl) rfl (tX10_mark v1 v2 u)
def fX10_count (v1 : Int32) (u : ab_S) : Option (Int32 × ab_S) :=
  ab_sw v1 [
  (0,
    (fX10_persons (sI u 0 0 0)).bind fun q1 =>
      some (q1.1, q1.2)),
  (1,
    (fX10_goods (sI u 0 0 0)).bind fun q2 =>
      some (q2.1, q2.2)),
  (2,
    ab_gd [ab_ix 0 1081] (
      some (((sI u 0 0 0).1 16 (nc 0)), (sI u 0 0 0)))),
  (3,
    (fX10_heldBy 0 (-1) (sI u 0 0 0)).bind fun q3 =>
      some (q3.1, q3.2)),
  (4,
    (fX10_sumOf 16 (sI u 0 0 0)).bind fun q4 =>
      some (q4.1, q4.2)),
  (5,
    (fX10_sumOf 10 (sI u 0 0 0)).bind fun q5 =>
      some (q5.1, q5.2)),
  (6,
    (fX10_joyOfAll 0 (sI u 0 0 0)).bind fun q6 =>
      some (q6.1, q6.2)),
  (7,
    ab_gd [ab_ix 0 250] (
      some (((sI u 0 0 0).1 13 (nc 0)), (sI u 0 0 0)))),
  (8,
    ab_gd [ab_ix 22 1081] (
      some (((sI u 0 0 0).1 16 (nc 22)), (sI u 0 0 0)))),
  (9,
    some (((sI u 0 0 0).1 0 25), (sI u 0 0 0))),
  (10,
    some (((sI u 0 0 0).1 0 2), (sI u 0 0 0)))] (
    some ((-1), (sI u 0 0 0)))
theorem tX10_count (v1 : Int32) (u : ab_S) : ab_G 1 9 cX10_count (some .int) 6 0 [some (vR (kO 9) 0), some (vI v1)] [] u wI (fX10_count v1 u) := by
  rw [fX10_count]
  refine g_seg0 (pc' := 6) (L' := [some (vR (kO 9) 0), some (vI v1)]) (st' := [vI v1]) (u1 := (sI u 0 0 0)) [(oL 2 0, 1), (oC 0, 1), (oP (.putfield 1), 3), (oL 0 1, 1)] (by decide +kernel) rfl rfl ?_
  refine g_sw0 ?_
  refine g_sw1 (dflt := 127) (lo := 0) (hi := 10) (offs := #[58, 63, 68, 75, 82, 89, 96, 102, 109, 117, 122]) (len := 58) (k := 0) (t := 64) (by decide +kernel) (by decide +kernel) ?_ ?_
  · refine g_seg0 (pc' := 65) (L' := [some (vR (kO 9) 0), some (vI v1)]) (st' := [vR (kO 9) 0]) (u1 := (sI u 0 0 0)) [(oL 2 0, 1)] (by decide +kernel) rfl rfl ?_
    refine g_callV (k := 275) (pc2 := 68) (st := []) (CX10_persons (sI u 0 0 0)) miX10_persons mvX10_persons rfl (by decide) lk9_275 wI_ok (by decide +kernel) rfl (Nat.le_of_ble_eq_true rfl) (by decide) rfl (fun q1 hq1 => ?_)
    exact g_iret (by decide +kernel) rfl
  refine g_sw1 (dflt := 127) (lo := 0) (hi := 10) (offs := #[58, 63, 68, 75, 82, 89, 96, 102, 109, 117, 122]) (len := 58) (k := 1) (t := 69) (by decide +kernel) (by decide +kernel) ?_ ?_
  · refine g_seg0 (pc' := 70) (L' := [some (vR (kO 9) 0), some (vI v1)]) (st' := [vR (kO 9) 0]) (u1 := (sI u 0 0 0)) [(oL 2 0, 1)] (by decide +kernel) rfl rfl ?_
    refine g_callV (k := 291) (pc2 := 73) (st := []) (CX10_goods (sI u 0 0 0)) miX10_goods mvX10_goods rfl (by decide) lk9_291 wI_ok (by decide +kernel) rfl (Nat.le_of_ble_eq_true rfl) (by decide) rfl (fun q2 hq2 => ?_)
    exact g_iret (by decide +kernel) rfl
  refine g_sw1 (dflt := 127) (lo := 0) (hi := 10) (offs := #[58, 63, 68, 75, 82, 89, 96, 102, 109, 117, 122]) (len := 58) (k := 2) (t := 74) (by decide +kernel) (by decide +kernel) ?_ ?_
  · refine g_seg (pc' := 80) (L' := [some (vR (kO 9) 0), some (vI v1)]) (st' := [vI ((sI u 0 0 0).1 16 (nc 0))]) (u1 := (sI u 0 0 0)) [(oL 2 0, 1), (oP (.getfield 113), 3), (oC 0, 1), (oP .iaload, 1)] (by decide +kernel) rfl rfl ?_
    exact g_iret (by decide +kernel) rfl
  refine g_sw1 (dflt := 127) (lo := 0) (hi := 10) (offs := #[58, 63, 68, 75, 82, 89, 96, 102, 109, 117, 122]) (len := 58) (k := 3) (t := 81) (by decide +kernel) (by decide +kernel) ?_ ?_
  · refine g_seg0 (pc' := 84) (L' := [some (vR (kO 9) 0), some (vI v1)]) (st' := [vI (-1), vI 0, vR (kO 9) 0]) (u1 := (sI u 0 0 0)) [(oL 2 0, 1), (oC 0, 1), (oC (-1), 1)] (by decide +kernel) rfl rfl ?_
    refine g_callV (k := 300) (pc2 := 87) (st := []) (CX10_heldBy 0 (-1) (sI u 0 0 0)) miX10_heldBy mvX10_heldBy rfl (by decide) lk9_300 wI_ok (by decide +kernel) rfl (Nat.le_of_ble_eq_true rfl) (by decide) rfl (fun q3 hq3 => ?_)
    exact g_iret (by decide +kernel) rfl
  refine g_sw1 (dflt := 127) (lo := 0) (hi := 10) (offs := #[58, 63, 68, 75, 82, 89, 96, 102, 109, 117, 122]) (len := 58) (k := 4) (t := 88) (by decide +kernel) (by decide +kernel) ?_ ?_
  · refine g_seg0 (pc' := 91) (L' := [some (vR (kO 9) 0), some (vI v1)]) (st' := [vI 16, vR (kO 9) 0]) (u1 := (sI u 0 0 0)) [(oL 2 0, 1), (oC 16, 2)] (by decide +kernel) rfl rfl ?_
    refine g_callV (k := 330) (pc2 := 94) (st := []) (CX10_sumOf 16 (sI u 0 0 0)) miX10_sumOf mvX10_sumOf rfl (by decide) lk9_330 wI_ok (by decide +kernel) rfl (Nat.le_of_ble_eq_true rfl) (by decide) rfl (fun q4 hq4 => ?_)
    exact g_iret (by decide +kernel) rfl
  refine g_sw1 (dflt := 127) (lo := 0) (hi := 10) (offs := #[58, 63, 68, 75, 82, 89, 96, 102, 109, 117, 122]) (len := 58) (k := 5) (t := 95) (by decide +kernel) (by decide +kernel) ?_ ?_
  · refine g_seg0 (pc' := 98) (L' := [some (vR (kO 9) 0), some (vI v1)]) (st' := [vI 10, vR (kO 9) 0]) (u1 := (sI u 0 0 0)) [(oL 2 0, 1), (oC 10, 2)] (by decide +kernel) rfl rfl ?_
    refine g_callV (k := 330) (pc2 := 101) (st := []) (CX10_sumOf 10 (sI u 0 0 0)) miX10_sumOf mvX10_sumOf rfl (by decide) lk9_330 wI_ok (by decide +kernel) rfl (Nat.le_of_ble_eq_true rfl) (by decide) rfl (fun q5 hq5 => ?_)
    exact g_iret (by decide +kernel) rfl
  refine g_sw1 (dflt := 127) (lo := 0) (hi := 10) (offs := #[58, 63, 68, 75, 82, 89, 96, 102, 109, 117, 122]) (len := 58) (k := 6) (t := 102) (by decide +kernel) (by decide +kernel) ?_ ?_
  · refine g_seg0 (pc' := 104) (L' := [some (vR (kO 9) 0), some (vI v1)]) (st' := [vI 0, vR (kO 9) 0]) (u1 := (sI u 0 0 0)) [(oL 2 0, 1), (oC 0, 1)] (by decide +kernel) rfl rfl ?_
    refine g_callV (k := 412) (pc2 := 107) (st := []) (CX10_joyOfAll 0 (sI u 0 0 0)) miX10_joyOfAll mvX10_joyOfAll rfl (by decide) lk9_412 wI_ok (by decide +kernel) rfl (Nat.le_of_ble_eq_true rfl) (by decide) rfl (fun q6 hq6 => ?_)
    exact g_iret (by decide +kernel) rfl
  refine g_sw1 (dflt := 127) (lo := 0) (hi := 10) (offs := #[58, 63, 68, 75, 82, 89, 96, 102, 109, 117, 122]) (len := 58) (k := 7) (t := 108) (by decide +kernel) (by decide +kernel) ?_ ?_
  · refine g_seg (pc' := 114) (L' := [some (vR (kO 9) 0), some (vI v1)]) (st' := [vI ((sI u 0 0 0).1 13 (nc 0))]) (u1 := (sI u 0 0 0)) [(oL 2 0, 1), (oP (.getfield 104), 3), (oC 0, 1), (oP .iaload, 1)] (by decide +kernel) rfl rfl ?_
    exact g_iret (by decide +kernel) rfl
  refine g_sw1 (dflt := 127) (lo := 0) (hi := 10) (offs := #[58, 63, 68, 75, 82, 89, 96, 102, 109, 117, 122]) (len := 58) (k := 8) (t := 115) (by decide +kernel) (by decide +kernel) ?_ ?_
  · refine g_seg (pc' := 122) (L' := [some (vR (kO 9) 0), some (vI v1)]) (st' := [vI ((sI u 0 0 0).1 16 (nc 22))]) (u1 := (sI u 0 0 0)) [(oL 2 0, 1), (oP (.getfield 113), 3), (oC 22, 2), (oP .iaload, 1)] (by decide +kernel) rfl rfl ?_
    exact g_iret (by decide +kernel) rfl
  refine g_sw1 (dflt := 127) (lo := 0) (hi := 10) (offs := #[58, 63, 68, 75, 82, 89, 96, 102, 109, 117, 122]) (len := 58) (k := 9) (t := 123) (by decide +kernel) (by decide +kernel) ?_ ?_
  · refine g_seg0 (pc' := 127) (L' := [some (vR (kO 9) 0), some (vI v1)]) (st' := [vI ((sI u 0 0 0).1 0 25)]) (u1 := (sI u 0 0 0)) [(oL 2 0, 1), (oP (.getfield 285), 3)] (by decide +kernel) rfl rfl ?_
    exact g_iret (by decide +kernel) rfl
  refine g_sw1 (dflt := 127) (lo := 0) (hi := 10) (offs := #[58, 63, 68, 75, 82, 89, 96, 102, 109, 117, 122]) (len := 58) (k := 10) (t := 128) (by decide +kernel) (by decide +kernel) ?_ ?_
  · refine g_seg0 (pc' := 132) (L' := [some (vR (kO 9) 0), some (vI v1)]) (st' := [vI ((sI u 0 0 0).1 0 2)]) (u1 := (sI u 0 0 0)) [(oL 2 0, 1), (oP (.getfield 11), 3)] (by decide +kernel) rfl rfl ?_
    exact g_iret (by decide +kernel) rfl
  refine g_swd (dflt := 127) (lo := 0) (hi := 10) (offs := #[58, 63, 68, 75, 82, 89, 96, 102, 109, 117, 122]) (len := 58) (tgd := 133) (by decide +kernel) (by decide) (by decide +kernel) ?_
  refine g_seg0 (pc' := 134) (L' := [some (vR (kO 9) 0), some (vI v1)]) (st' := [vI (-1)]) (u1 := (sI u 0 0 0)) [(oC (-1), 1)] (by decide +kernel) rfl rfl ?_
  exact g_iret (by decide +kernel) rfl
theorem CX10_count (v1 : Int32) (u : ab_S) : ab_C 1 yX10_count cX10_count 2 (some .int) 6 [vR (kO 9) 0, vI v1] u wI (fX10_count v1 u) := ab_entry (by decide +kernel) rfl (by decide) (by decide) (fun _ => Nat.le_of_ble_eq_true rfl) rfl (tX10_count v1 u)
