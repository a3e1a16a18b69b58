/-! methods, printed by program out of the listing: function, walk, contract -/
def fX10_ringsNow_304 (k101 : Int32 → Int32 → ab_S → Option (Int32 × ab_S)) (k215 : Int32 → Int32 → Int32 → Int32 → ab_S → Option (Int32 × ab_S)) (v1 : Int32) (v2 : Int32) (v5 : Int32) (v7 : Int32) (s0 : Int32) (s1 : Int32) (u : ab_S) : Option (Int32 × ab_S) :=
  bif decide (v7 = 0) then (
    ab_gd [ab_ix v5 6, ab_ix v5 6] (
      k215 v1 v2 (s0 ||| s1) (v5 + 1) (sI u 20 (nc v5) (u.1 20 (nc v5)))))
  else (
    ab_gd [ab_ix v5 6] (
      ab_gd [ab_ix v5 6] (
        k215 v1 v2 (s0 ||| s1) (v5 + 1) (sI u 20 (nc v5) (u.1 19 (nc v5))))))
theorem tX10_ringsNow_304 (k101 : Int32 → Int32 → ab_S → Option (Int32 × ab_S)) (k215 : Int32 → Int32 → Int32 → Int32 → ab_S → Option (Int32 × ab_S)) (hk101 : ∀ (v1 : Int32) (v2 : Int32) (u : ab_S), ab_G 1 9 cX10_ringsNow (some .int) 5 101 [some (vR (kO 9) 0), some (vI v1), some (vI v2), none, none, none, none, none, none] [] u wI (k101 v1 v2 u)) (hk215 : ∀ (v1 : Int32) (v2 : Int32) (v4 : Int32) (v5 : Int32) (u : ab_S), ab_G 1 9 cX10_ringsNow (some .int) 5 215 [some (vR (kO 9) 0), some (vI v1), some (vI v2), none, some (vI v4), some (vI v5), none, none, none] [] u wI (k215 v1 v2 v4 v5 u)) (v1 : Int32) (v2 : Int32) (v5 : Int32) (v7 : Int32) (s0 : Int32) (s1 : Int32) (u : ab_S) : ab_G 1 9 cX10_ringsNow (some .int) 5 304 [some (vR (kO 9) 0), some (vI v1), some (vI v2), none, none, some (vI v5), none, some (vI v7), none] [vI s1, vI s0] u wI (fX10_ringsNow_304 k101 k215 v1 v2 v5 v7 s0 s1 u) := by
  rw [fX10_ringsNow_304]
  refine g_seg0 (pc' := 315) (L' := [some (vR (kO 9) 0), some (vI v1), some (vI v2), none, some (vI (s0 ||| s1)), some (vI v5), none, some (vI v7), none]) (st' := [vI v7, vI v5, vR (kA 0 6) 20]) (u1 := u) [(oP .ior, 1), (oL 3 4, 2), (oL 2 0, 1), (oP (.getfield 126), 3), (oL 0 5, 2), (oL 0 7, 2)] (by decide +kernel) rfl rfl ?_
  refine g_zeq (off := 13) (tgt := 328) (pc2 := 318) (by decide +kernel) (by decide) rfl ?_ ?_
  · refine g_seg (pc' := 339) (L' := [some (vR (kO 9) 0), some (vI v1), some (vI v2), none, some (vI (s0 ||| s1)), some (vI (v5 + 1)), none, some (vI v7), none]) (st' := []) (u1 := (sI u 20 (nc v5) (u.1 20 (nc v5)))) [(oL 2 0, 1), (oP (.getfield 126), 3), (oL 0 5, 2), (oP .iaload, 1), (oP .iastore, 1), (oN 5 1, 3)] (by decide +kernel) rfl rfl ?_
    refine g_goto (off := (-124)) (tgt := 215) (by decide +kernel) (by decide) ?_
    exact g_jump [true, true, true, false, true, true, false, false, false] rfl (hk215 v1 v2 (s0 ||| s1) (v5 + 1) (sI u 20 (nc v5) (u.1 20 (nc v5))))
  · refine g_seg (pc' := 325) (L' := [some (vR (kO 9) 0), some (vI v1), some (vI v2), none, some (vI (s0 ||| s1)), some (vI v5), none, some (vI v7), none]) (st' := [vI (u.1 19 (nc v5)), vI v5, vR (kA 0 6) 20]) (u1 := u) [(oL 2 0, 1), (oP (.getfield 123), 3), (oL 0 5, 2), (oP .iaload, 1)] (by decide +kernel) rfl rfl ?_
    refine g_goto (off := 10) (tgt := 335) (by decide +kernel) (by decide) ?_
    refine g_seg (pc' := 339) (L' := [some (vR (kO 9) 0), some (vI v1), some (vI v2), none, some (vI (s0 ||| s1)), some (vI (v5 + 1)), none, some (vI v7), none]) (st' := []) (u1 := (sI u 20 (nc v5) (u.1 19 (nc v5)))) [(oP .iastore, 1), (oN 5 1, 3)] (by decide +kernel) rfl rfl ?_
    refine g_goto (off := (-124)) (tgt := 215) (by decide +kernel) (by decide) ?_
    exact g_jump [true, true, true, false, true, true, false, false, false] rfl (hk215 v1 v2 (s0 ||| s1) (v5 + 1) (sI u 20 (nc v5) (u.1 19 (nc v5))))
def fX10_ringsNow_289 (k101 : Int32 → Int32 → ab_S → Option (Int32 × ab_S)) (k215 : Int32 → Int32 → Int32 → Int32 → ab_S → Option (Int32 × ab_S)) (v1 : Int32) (v2 : Int32) (v4 : Int32) (v5 : Int32) (v7 : Int32) (u : ab_S) : Option (Int32 × ab_S) :=
  bif decide (v7 = 0) then (
    fX10_ringsNow_304 k101 k215 v1 v2 v5 v7 v4 0 u)
  else (
    fX10_ringsNow_304 k101 k215 v1 v2 v5 v7 v4 ((1 : Int32) <<< (v5 &&& 31)) u)
theorem tX10_ringsNow_289 (k101 : Int32 → Int32 → ab_S → Option (Int32 × ab_S)) (k215 : Int32 → Int32 → Int32 → Int32 → ab_S → Option (Int32 × ab_S)) (hk101 : ∀ (v1 : Int32) (v2 : Int32) (u : ab_S), ab_G 1 9 cX10_ringsNow (some .int) 5 101 [some (vR (kO 9) 0), some (vI v1), some (vI v2), none, none, none, none, none, none] [] u wI (k101 v1 v2 u)) (hk215 : ∀ (v1 : Int32) (v2 : Int32) (v4 : Int32) (v5 : Int32) (u : ab_S), ab_G 1 9 cX10_ringsNow (some .int) 5 215 [some (vR (kO 9) 0), some (vI v1), some (vI v2), none, some (vI v4), some (vI v5), none, none, none] [] u wI (k215 v1 v2 v4 v5 u)) (v1 : Int32) (v2 : Int32) (v4 : Int32) (v5 : Int32) (v7 : Int32) (u : ab_S) : ab_G 1 9 cX10_ringsNow (some .int) 5 289 [some (vR (kO 9) 0), some (vI v1), some (vI v2), none, some (vI v4), some (vI v5), none, some (vI v7), none] [] u wI (fX10_ringsNow_289 k101 k215 v1 v2 v4 v5 v7 u) := by
  rw [fX10_ringsNow_289]
  refine g_seg0 (pc' := 293) (L' := [some (vR (kO 9) 0), some (vI v1), some (vI v2), none, some (vI v4), some (vI v5), none, some (vI v7), none]) (st' := [vI v7, vI v4]) (u1 := u) [(oL 0 4, 2), (oL 0 7, 2)] (by decide +kernel) rfl rfl ?_
  refine g_zeq (off := 10) (tgt := 303) (pc2 := 296) (by decide +kernel) (by decide) rfl ?_ ?_
  · refine g_seg0 (pc' := 304) (L' := [some (vR (kO 9) 0), some (vI v1), some (vI v2), none, some (vI v4), some (vI v5), none, some (vI v7), none]) (st' := [vI 0, vI v4]) (u1 := u) [(oC 0, 1)] (by decide +kernel) rfl rfl ?_
    exact g_jump [true, true, true, false, false, true, false, true, false] rfl (tX10_ringsNow_304 k101 k215 hk101 hk215 v1 v2 v5 v7 v4 0 u)
  · refine g_seg0 (pc' := 300) (L' := [some (vR (kO 9) 0), some (vI v1), some (vI v2), none, some (vI v4), some (vI v5), none, some (vI v7), none]) (st' := [vI ((1 : Int32) <<< (v5 &&& 31)), vI v4]) (u1 := u) [(oC 1, 1), (oL 0 5, 2), (oP .ishl, 1)] (by decide +kernel) rfl rfl ?_
    refine g_goto (off := 4) (tgt := 304) (by decide +kernel) (by decide) ?_
    exact g_jump [true, true, true, false, false, true, false, true, false] rfl (tX10_ringsNow_304 k101 k215 hk101 hk215 v1 v2 v5 v7 v4 ((1 : Int32) <<< (v5 &&& 31)) u)
def fX10_ringsNow_234 (k101 : Int32 → Int32 → ab_S → Option (Int32 × ab_S)) (k215 : Int32 → Int32 → Int32 → Int32 → ab_S → Option (Int32 × ab_S)) : Nat → Int32 → Int32 → Int32 → Int32 → Int32 → Int32 → Int32 → ab_S → Option (Int32 × ab_S)
  | 0, _, _, _, _, _, _, _, _ => none
  | n + 1, v1, v2, v4, v5, v6, v7, v8, u =>
  bif decide (v8 < 6) then (
    bif decide (((v1 >>> (v5 &&& 31)) &&& 1) = 1) then (
      ab_gd [ab_ix v6 6] (
        (fX10_ownerIn (u.1 19 (nc v6)) u).bind fun q1 =>
          bif decide (v7 = 0) then (
            bif decide (q1.1 = v5) then (
              (fX10_ringsNow_234 k101 k215 n) v1 v2 v4 v5 q1.1 1 (v8 + 1) q1.2)
            else (
              (fX10_ringsNow_234 k101 k215 n) v1 v2 v4 v5 q1.1 0 (v8 + 1) q1.2))
          else (
            (fX10_ringsNow_234 k101 k215 n) v1 v2 v4 v5 q1.1 1 (v8 + 1) q1.2)))
    else (
      fX10_ringsNow_289 k101 k215 v1 v2 v4 v5 v7 u))
  else (
    fX10_ringsNow_289 k101 k215 v1 v2 v4 v5 v7 u)
theorem tX10_ringsNow_234 (k101 : Int32 → Int32 → ab_S → Option (Int32 × ab_S)) (k215 : Int32 → Int32 → Int32 → Int32 → ab_S → Option (Int32 × ab_S)) (hk101 : ∀ (v1 : Int32) (v2 : Int32) (u : ab_S), ab_G 1 9 cX10_ringsNow (some .int) 5 101 [some (vR (kO 9) 0), some (vI v1), some (vI v2), none, none, none, none, none, none] [] u wI (k101 v1 v2 u)) (hk215 : ∀ (v1 : Int32) (v2 : Int32) (v4 : Int32) (v5 : Int32) (u : ab_S), ab_G 1 9 cX10_ringsNow (some .int) 5 215 [some (vR (kO 9) 0), some (vI v1), some (vI v2), none, some (vI v4), some (vI v5), none, none, none] [] u wI (k215 v1 v2 v4 v5 u)) : ∀ (n : Nat) (v1 : Int32) (v2 : Int32) (v4 : Int32) (v5 : Int32) (v6 : Int32) (v7 : Int32) (v8 : Int32) (u : ab_S), ab_G 1 9 cX10_ringsNow (some .int) 5 234 [some (vR (kO 9) 0), some (vI v1), some (vI v2), none, some (vI v4), some (vI v5), some (vI v6), some (vI v7), some (vI v8)] [] u wI (fX10_ringsNow_234 k101 k215 n v1 v2 v4 v5 v6 v7 v8 u) := by
  intro n
  induction n with
  | zero => intros; exact g_none
  | succ n ih =>
    intro v1 v2 v4 v5 v6 v7 v8 u
    rw [fX10_ringsNow_234]
    refine g_seg0 (pc' := 238) (L' := [some (vR (kO 9) 0), some (vI v1), some (vI v2), none, some (vI v4), some (vI v5), some (vI v6), some (vI v7), some (vI v8)]) (st' := [vI 6, vI v8]) (u1 := u) [(oL 0 8, 2), (oC 6, 2)] (by decide +kernel) rfl rfl ?_
    refine g_ige (off := 51) (tgt := 289) (pc2 := 241) (by decide +kernel) (by decide) rfl ?_ ?_
    · exact g_jump [true, true, true, false, true, true, false, true, false] rfl (tX10_ringsNow_289 k101 k215 hk101 hk215 v1 v2 v4 v5 v7 u)
    · refine g_seg0 (pc' := 248) (L' := [some (vR (kO 9) 0), some (vI v1), some (vI v2), none, some (vI v4), some (vI v5), some (vI v6), some (vI v7), some (vI v8)]) (st' := [vI 1, vI ((v1 >>> (v5 &&& 31)) &&& 1)]) (u1 := u) [(oL 0 1, 1), (oL 0 5, 2), (oP .ishr, 1), (oC 1, 1), (oP .iand, 1), (oC 1, 1)] (by decide +kernel) rfl rfl ?_
      refine g_ine (off := 41) (tgt := 289) (pc2 := 251) (by decide +kernel) (by decide) rfl ?_ ?_
      · exact g_jump [true, true, true, false, true, true, false, true, false] rfl (tX10_ringsNow_289 k101 k215 hk101 hk215 v1 v2 v4 v5 v7 u)
      · refine g_seg (pc' := 259) (L' := [some (vR (kO 9) 0), some (vI v1), some (vI v2), none, some (vI v4), some (vI v5), some (vI v6), some (vI v7), some (vI v8)]) (st' := [vI (u.1 19 (nc v6)), vR (kO 9) 0]) (u1 := u) [(oL 2 0, 1), (oL 2 0, 1), (oP (.getfield 123), 3), (oL 0 6, 2), (oP .iaload, 1)] (by decide +kernel) rfl rfl ?_
        refine g_callV (k := 382) (pc2 := 262) (st := []) (CX10_ownerIn (u.1 19 (nc v6)) u) miX10_ownerIn mvX10_ownerIn rfl (by decide) lk9_382 wI_ok (by decide +kernel) rfl (Nat.le_of_ble_eq_true rfl) (by decide) rfl (fun q1 hq1 => ?_)
        refine g_seg0 (pc' := 266) (L' := [some (vR (kO 9) 0), some (vI v1), some (vI v2), none, some (vI v4), some (vI v5), some (vI (q1.1)), some (vI v7), some (vI v8)]) (st' := [vI v7]) (u1 := q1.2) [(oL 3 6, 2), (oL 0 7, 2)] (by decide +kernel) rfl rfl ?_
        refine g_zne (off := 10) (tgt := 276) (pc2 := 269) (by decide +kernel) (by decide) rfl ?_ ?_
        · refine g_seg0 (pc' := 277) (L' := [some (vR (kO 9) 0), some (vI v1), some (vI v2), none, some (vI v4), some (vI v5), some (vI (q1.1)), some (vI v7), some (vI v8)]) (st' := [vI 1]) (u1 := q1.2) [(oC 1, 1)] (by decide +kernel) rfl rfl ?_
          refine g_goto (off := 4) (tgt := 281) (by decide +kernel) (by decide) ?_
          refine g_seg0 (pc' := 286) (L' := [some (vR (kO 9) 0), some (vI v1), some (vI v2), none, some (vI v4), some (vI v5), some (vI (q1.1)), some (vI 1), some (vI (v8 + 1))]) (st' := []) (u1 := q1.2) [(oL 3 7, 2), (oN 8 1, 3)] (by decide +kernel) rfl rfl ?_
          refine g_goto (off := (-52)) (tgt := 234) (by decide +kernel) (by decide) ?_
          exact ih v1 v2 v4 v5 q1.1 1 (v8 + 1) q1.2
        · refine g_seg0 (pc' := 273) (L' := [some (vR (kO 9) 0), some (vI v1), some (vI v2), none, some (vI v4), some (vI v5), some (vI (q1.1)), some (vI v7), some (vI v8)]) (st' := [vI v5, vI (q1.1)]) (u1 := q1.2) [(oL 0 6, 2), (oL 0 5, 2)] (by decide +kernel) rfl rfl ?_
          refine g_ine (off := 7) (tgt := 280) (pc2 := 276) (by decide +kernel) (by decide) rfl ?_ ?_
          · refine g_seg0 (pc' := 286) (L' := [some (vR (kO 9) 0), some (vI v1), some (vI v2), none, some (vI v4), some (vI v5), some (vI (q1.1)), some (vI 0), some (vI (v8 + 1))]) (st' := []) (u1 := q1.2) [(oC 0, 1), (oL 3 7, 2), (oN 8 1, 3)] (by decide +kernel) rfl rfl ?_
            refine g_goto (off := (-52)) (tgt := 234) (by decide +kernel) (by decide) ?_
            exact ih v1 v2 v4 v5 q1.1 0 (v8 + 1) q1.2
          · refine g_seg0 (pc' := 277) (L' := [some (vR (kO 9) 0), some (vI v1), some (vI v2), none, some (vI v4), some (vI v5), some (vI (q1.1)), some (vI v7), some (vI v8)]) (st' := [vI 1]) (u1 := q1.2) [(oC 1, 1)] (by decide +kernel) rfl rfl ?_
            refine g_goto (off := 4) (tgt := 281) (by decide +kernel) (by decide) ?_
            refine g_seg0 (pc' := 286) (L' := [some (vR (kO 9) 0), some (vI v1), some (vI v2), none, some (vI v4), some (vI v5), some (vI (q1.1)), some (vI 1), some (vI (v8 + 1))]) (st' := []) (u1 := q1.2) [(oL 3 7, 2), (oN 8 1, 3)] (by decide +kernel) rfl rfl ?_
            refine g_goto (off := (-52)) (tgt := 234) (by decide +kernel) (by decide) ?_
            exact ih v1 v2 v4 v5 q1.1 1 (v8 + 1) q1.2
def fX10_ringsNow_215 (k101 : Int32 → Int32 → ab_S → Option (Int32 × ab_S)) : Nat → Int32 → Int32 → Int32 → Int32 → ab_S → Option (Int32 × ab_S)
  | 0, _, _, _, _, _ => none
  | n + 1, v1, v2, v4, v5, u =>
  (fX10_persons u).bind fun q2 =>
    bif decide (v5 < q2.1) then (
      fX10_ringsNow_234 k101 (fX10_ringsNow_215 k101 n) fu v1 v2 v4 v5 v5 0 0 q2.2)
    else (
      k101 (v1 &&& (v4 ^^^ (-1))) (v2 + 1) q2.2)
theorem tX10_ringsNow_215 (k101 : Int32 → Int32 → ab_S → Option (Int32 × ab_S)) (hk101 : ∀ (v1 : Int32) (v2 : Int32) (u : ab_S), ab_G 1 9 cX10_ringsNow (some .int) 5 101 [some (vR (kO 9) 0), some (vI v1), some (vI v2), none, none, none, none, none, none] [] u wI (k101 v1 v2 u)) : ∀ (n : Nat) (v1 : Int32) (v2 : Int32) (v4 : Int32) (v5 : Int32) (u : ab_S), ab_G 1 9 cX10_ringsNow (some .int) 5 215 [some (vR (kO 9) 0), some (vI v1), some (vI v2), none, some (vI v4), some (vI v5), none, none, none] [] u wI (fX10_ringsNow_215 k101 n v1 v2 v4 v5 u) := by
  intro n
  induction n with
  | zero => intros; exact g_none
  | succ n ih =>
    intro v1 v2 v4 v5 u
    rw [fX10_ringsNow_215]
    refine g_seg0 (pc' := 218) (L' := [some (vR (kO 9) 0), some (vI v1), some (vI v2), none, some (vI v4), some (vI v5), none, none, none]) (st' := [vR (kO 9) 0, vI v5]) (u1 := u) [(oL 0 5, 2), (oL 2 0, 1)] (by decide +kernel) rfl rfl ?_
    refine g_callV (k := 275) (pc2 := 221) (st := [vI v5]) (CX10_persons u) miX10_persons mvX10_persons rfl (by decide) lk9_275 wI_ok (by decide +kernel) rfl (Nat.le_of_ble_eq_true rfl) (by decide) rfl (fun q2 hq2 => ?_)
    refine g_ige (off := 121) (tgt := 342) (pc2 := 224) (by decide +kernel) (by decide) rfl ?_ ?_
    · refine g_seg0 (pc' := 352) (L' := [some (vR (kO 9) 0), some (vI (v1 &&& (v4 ^^^ (-1)))), some (vI (v2 + 1)), none, some (vI v4), some (vI v5), none, none, none]) (st' := []) (u1 := q2.2) [(oL 0 1, 1), (oL 0 4, 2), (oC (-1), 1), (oP .ixor, 1), (oP .iand, 1), (oL 3 1, 1), (oN 2 1, 3)] (by decide +kernel) rfl rfl ?_
      refine g_goto (off := (-251)) (tgt := 101) (by decide +kernel) (by decide) ?_
      exact g_jump [true, true, true, false, false, false, false, false, false] rfl (hk101 (v1 &&& (v4 ^^^ (-1))) (v2 + 1) q2.2)
    · refine g_seg0 (pc' := 234) (L' := [some (vR (kO 9) 0), some (vI v1), some (vI v2), none, some (vI v4), some (vI v5), some (vI v5), some (vI 0), some (vI 0)]) (st' := []) (u1 := q2.2) [(oL 0 5, 2), (oL 3 6, 2), (oC 0, 1), (oL 3 7, 2), (oC 0, 1), (oL 3 8, 2)] (by decide +kernel) rfl rfl ?_
      exact tX10_ringsNow_234 k101 (fX10_ringsNow_215 k101 n) hk101 ih fu v1 v2 v4 v5 v5 0 0 q2.2
def fX10_ringsNow_154 (k101 : Int32 → Int32 → ab_S → Option (Int32 × ab_S)) : Nat → Int32 → Int32 → Int32 → Int32 → ab_S → Option (Int32 × ab_S)
  | 0, _, _, _, _, _ => none
  | n + 1, v1, v2, v3, v4, u =>
  (fX10_persons u).bind fun q3 =>
    bif decide (v4 < q3.1) then (
      bif decide (((v1 >>> (v4 &&& 31)) &&& 1) = 1) then (
        (fX10_heldBy 0 v4 q3.2).bind fun q4 =>
          (fX10_bits q4.1 q4.2).bind fun q5 =>
            (fX10_wantOf v4 v3 (q5.1 - 1) q5.2).bind fun q6 =>
              ab_gd [ab_ix v4 6] (
                (fX10_ringsNow_154 k101 n) v1 v2 v3 (v4 + 1) (sI q6.2 19 (nc v4) q6.1)))
      else (
        ab_gd [ab_ix v4 6] (
          (fX10_ringsNow_154 k101 n) v1 v2 v3 (v4 + 1) (sI q3.2 19 (nc v4) (-1)))))
    else (
      fX10_ringsNow_215 k101 fu v1 v2 0 0 q3.2)
theorem tX10_ringsNow_154 (k101 : Int32 → Int32 → ab_S → Option (Int32 × ab_S)) (hk101 : ∀ (v1 : Int32) (v2 : Int32) (u : ab_S), ab_G 1 9 cX10_ringsNow (some .int) 5 101 [some (vR (kO 9) 0), some (vI v1), some (vI v2), none, none, none, none, none, none] [] u wI (k101 v1 v2 u)) : ∀ (n : Nat) (v1 : Int32) (v2 : Int32) (v3 : Int32) (v4 : Int32) (u : ab_S), ab_G 1 9 cX10_ringsNow (some .int) 5 154 [some (vR (kO 9) 0), some (vI v1), some (vI v2), some (vI v3), some (vI v4), none, none, none, none] [] u wI (fX10_ringsNow_154 k101 n v1 v2 v3 v4 u) := by
  intro n
  induction n with
  | zero => intros; exact g_none
  | succ n ih =>
    intro v1 v2 v3 v4 u
    rw [fX10_ringsNow_154]
    refine g_seg0 (pc' := 157) (L' := [some (vR (kO 9) 0), some (vI v1), some (vI v2), some (vI v3), some (vI v4), none, none, none, none]) (st' := [vR (kO 9) 0, vI v4]) (u1 := u) [(oL 0 4, 2), (oL 2 0, 1)] (by decide +kernel) rfl rfl ?_
    refine g_callV (k := 275) (pc2 := 160) (st := [vI v4]) (CX10_persons u) miX10_persons mvX10_persons rfl (by decide) lk9_275 wI_ok (by decide +kernel) rfl (Nat.le_of_ble_eq_true rfl) (by decide) rfl (fun q3 hq3 => ?_)
    refine g_ige (off := 49) (tgt := 209) (pc2 := 163) (by decide +kernel) (by decide) rfl ?_ ?_
    · refine g_seg0 (pc' := 215) (L' := [some (vR (kO 9) 0), some (vI v1), some (vI v2), some (vI v3), some (vI 0), some (vI 0), none, none, none]) (st' := []) (u1 := q3.2) [(oC 0, 1), (oL 3 4, 2), (oC 0, 1), (oL 3 5, 2)] (by decide +kernel) rfl rfl ?_
      exact g_jump [true, true, true, false, true, true, false, false, false] rfl (tX10_ringsNow_215 k101 hk101 fu v1 v2 0 0 q3.2)
    · refine g_seg0 (pc' := 176) (L' := [some (vR (kO 9) 0), some (vI v1), some (vI v2), some (vI v3), some (vI v4), none, none, none, none]) (st' := [vI 1, vI ((v1 >>> (v4 &&& 31)) &&& 1), vI v4, vR (kA 0 6) 19]) (u1 := q3.2) [(oL 2 0, 1), (oP (.getfield 123), 3), (oL 0 4, 2), (oL 0 1, 1), (oL 0 4, 2), (oP .ishr, 1), (oC 1, 1), (oP .iand, 1), (oC 1, 1)] (by decide +kernel) rfl rfl ?_
      refine g_ine (off := 25) (tgt := 201) (pc2 := 179) (by decide +kernel) (by decide) rfl ?_ ?_
      · refine g_seg (pc' := 206) (L' := [some (vR (kO 9) 0), some (vI v1), some (vI v2), some (vI v3), some (vI (v4 + 1)), none, none, none, none]) (st' := []) (u1 := (sI q3.2 19 (nc v4) (-1))) [(oC (-1), 1), (oP .iastore, 1), (oN 4 1, 3)] (by decide +kernel) rfl rfl ?_
        refine g_goto (off := (-52)) (tgt := 154) (by decide +kernel) (by decide) ?_
        exact ih v1 v2 v3 (v4 + 1) (sI q3.2 19 (nc v4) (-1))
      · refine g_seg0 (pc' := 187) (L' := [some (vR (kO 9) 0), some (vI v1), some (vI v2), some (vI v3), some (vI v4), none, none, none, none]) (st' := [vI v4, vI 0, vR (kO 9) 0, vI v3, vI v4, vR (kO 9) 0, vI v4, vR (kA 0 6) 19]) (u1 := q3.2) [(oL 2 0, 1), (oL 0 4, 2), (oL 0 3, 1), (oL 2 0, 1), (oC 0, 1), (oL 0 4, 2)] (by decide +kernel) rfl rfl ?_
        refine g_callV (k := 300) (pc2 := 190) (st := [vI v3, vI v4, vR (kO 9) 0, vI v4, vR (kA 0 6) 19]) (CX10_heldBy 0 v4 q3.2) miX10_heldBy mvX10_heldBy rfl (by decide) lk9_300 wI_ok (by decide +kernel) rfl (Nat.le_of_ble_eq_true rfl) (by decide) rfl (fun q4 hq4 => ?_)
        refine g_callS (k := 303) (pc2 := 193) (st := [vI v3, vI v4, vR (kO 9) 0, vI v4, vR (kA 0 6) 19]) (CX10_bits q4.1 q4.2) miX10_bits msX10_bits lk9_303 wI_ok (by decide +kernel) rfl (Nat.le_of_ble_eq_true rfl) (by decide) rfl (fun q5 hq5 => ?_)
        refine g_seg0 (pc' := 195) (L' := [some (vR (kO 9) 0), some (vI v1), some (vI v2), some (vI v3), some (vI v4), none, none, none, none]) (st' := [vI (q5.1 - 1), vI v3, vI v4, vR (kO 9) 0, vI v4, vR (kA 0 6) 19]) (u1 := q5.2) [(oC 1, 1), (oP .isub, 1)] (by decide +kernel) rfl rfl ?_
        refine g_callV (k := 376) (pc2 := 198) (st := [vI v4, vR (kA 0 6) 19]) (CX10_wantOf v4 v3 (q5.1 - 1) q5.2) miX10_wantOf mvX10_wantOf rfl (by decide) lk9_376 wI_ok (by decide +kernel) rfl (Nat.le_of_ble_eq_true rfl) (by decide) rfl (fun q6 hq6 => ?_)
        refine g_goto (off := 4) (tgt := 202) (by decide +kernel) (by decide) ?_
        refine g_seg (pc' := 206) (L' := [some (vR (kO 9) 0), some (vI v1), some (vI v2), some (vI v3), some (vI (v4 + 1)), none, none, none, none]) (st' := []) (u1 := (sI q6.2 19 (nc v4) q6.1)) [(oP .iastore, 1), (oN 4 1, 3)] (by decide +kernel) rfl rfl ?_
        refine g_goto (off := (-52)) (tgt := 154) (by decide +kernel) (by decide) ?_
        exact ih v1 v2 v3 (v4 + 1) (sI q6.2 19 (nc v4) q6.1)
def fX10_ringsNow_110 (k101 : Int32 → Int32 → ab_S → Option (Int32 × ab_S)) : Nat → Int32 → Int32 → Int32 → Int32 → ab_S → Option (Int32 × ab_S)
  | 0, _, _, _, _, _ => none
  | n + 1, v1, v2, v3, v4, u =>
  (fX10_persons u).bind fun q7 =>
    bif decide (v4 < q7.1) then (
      bif decide (((v1 >>> (v4 &&& 31)) &&& 1) = 1) then (
        ab_gd [ab_ix v4 6] (
          (fX10_ringsNow_110 k101 n) v1 v2 (v3 ||| ((1 : Int32) <<< ((q7.2.1 18 (nc v4)) &&& 31))) (v4 + 1) q7.2))
      else (
        (fX10_ringsNow_110 k101 n) v1 v2 (v3 ||| 0) (v4 + 1) q7.2))
    else (
      fX10_ringsNow_154 k101 fu v1 v2 v3 0 q7.2)
theorem tX10_ringsNow_110 (k101 : Int32 → Int32 → ab_S → Option (Int32 × ab_S)) (hk101 : ∀ (v1 : Int32) (v2 : Int32) (u : ab_S), ab_G 1 9 cX10_ringsNow (some .int) 5 101 [some (vR (kO 9) 0), some (vI v1), some (vI v2), none, none, none, none, none, none] [] u wI (k101 v1 v2 u)) : ∀ (n : Nat) (v1 : Int32) (v2 : Int32) (v3 : Int32) (v4 : Int32) (u : ab_S), ab_G 1 9 cX10_ringsNow (some .int) 5 110 [some (vR (kO 9) 0), some (vI v1), some (vI v2), some (vI v3), some (vI v4), none, none, none, none] [] u wI (fX10_ringsNow_110 k101 n v1 v2 v3 v4 u) := by
  intro n
  induction n with
  | zero => intros; exact g_none
  | succ n ih =>
    intro v1 v2 v3 v4 u
    rw [fX10_ringsNow_110]
    refine g_seg0 (pc' := 113) (L' := [some (vR (kO 9) 0), some (vI v1), some (vI v2), some (vI v3), some (vI v4), none, none, none, none]) (st' := [vR (kO 9) 0, vI v4]) (u1 := u) [(oL 0 4, 2), (oL 2 0, 1)] (by decide +kernel) rfl rfl ?_
    refine g_callV (k := 275) (pc2 := 116) (st := [vI v4]) (CX10_persons u) miX10_persons mvX10_persons rfl (by decide) lk9_275 wI_ok (by decide +kernel) rfl (Nat.le_of_ble_eq_true rfl) (by decide) rfl (fun q7 hq7 => ?_)
    refine g_ige (off := 35) (tgt := 151) (pc2 := 119) (by decide +kernel) (by decide) rfl ?_ ?_
    · refine g_seg0 (pc' := 154) (L' := [some (vR (kO 9) 0), some (vI v1), some (vI v2), some (vI v3), some (vI 0), none, none, none, none]) (st' := []) (u1 := q7.2) [(oC 0, 1), (oL 3 4, 2)] (by decide +kernel) rfl rfl ?_
      exact tX10_ringsNow_154 k101 hk101 fu v1 v2 v3 0 q7.2
    · refine g_seg0 (pc' := 127) (L' := [some (vR (kO 9) 0), some (vI v1), some (vI v2), some (vI v3), some (vI v4), none, none, none, none]) (st' := [vI 1, vI ((v1 >>> (v4 &&& 31)) &&& 1), vI v3]) (u1 := q7.2) [(oL 0 3, 1), (oL 0 1, 1), (oL 0 4, 2), (oP .ishr, 1), (oC 1, 1), (oP .iand, 1), (oC 1, 1)] (by decide +kernel) rfl rfl ?_
      refine g_ine (off := 15) (tgt := 142) (pc2 := 130) (by decide +kernel) (by decide) rfl ?_ ?_
      · refine g_seg0 (pc' := 148) (L' := [some (vR (kO 9) 0), some (vI v1), some (vI v2), some (vI (v3 ||| 0)), some (vI (v4 + 1)), none, none, none, none]) (st' := []) (u1 := q7.2) [(oC 0, 1), (oP .ior, 1), (oL 3 3, 1), (oN 4 1, 3)] (by decide +kernel) rfl rfl ?_
        refine g_goto (off := (-38)) (tgt := 110) (by decide +kernel) (by decide) ?_
        exact ih v1 v2 (v3 ||| 0) (v4 + 1) q7.2
      · refine g_seg (pc' := 139) (L' := [some (vR (kO 9) 0), some (vI v1), some (vI v2), some (vI v3), some (vI v4), none, none, none, none]) (st' := [vI ((1 : Int32) <<< ((q7.2.1 18 (nc v4)) &&& 31)), vI v3]) (u1 := q7.2) [(oC 1, 1), (oL 2 0, 1), (oP (.getfield 120), 3), (oL 0 4, 2), (oP .iaload, 1), (oP .ishl, 1)] (by decide +kernel) rfl rfl ?_
        refine g_goto (off := 4) (tgt := 143) (by decide +kernel) (by decide) ?_
        refine g_seg0 (pc' := 148) (L' := [some (vR (kO 9) 0), some (vI v1), some (vI v2), some (vI (v3 ||| ((1 : Int32) <<< ((q7.2.1 18 (nc v4)) &&& 31)))), some (vI (v4 + 1)), none, none, none, none]) (st' := []) (u1 := q7.2) [(oP .ior, 1), (oL 3 3, 1), (oN 4 1, 3)] (by decide +kernel) rfl rfl ?_
        refine g_goto (off := (-38)) (tgt := 110) (by decide +kernel) (by decide) ?_
        exact ih v1 v2 (v3 ||| ((1 : Int32) <<< ((q7.2.1 18 (nc v4)) &&& 31))) (v4 + 1) q7.2
def fX10_ringsNow_101 : Nat → Int32 → Int32 → ab_S → Option (Int32 × ab_S)
  | 0, _, _, _ => none
  | n + 1, v1, v2, u =>
  bif decide (v1 = 0) then (
    some (v2, u))
  else (
    fX10_ringsNow_110 (fX10_ringsNow_101 n) fu v1 v2 0 0 u)
theorem tX10_ringsNow_101 : ∀ (n : Nat) (v1 : Int32) (v2 : Int32) (u : ab_S), ab_G 1 9 cX10_ringsNow (some .int) 5 101 [some (vR (kO 9) 0), some (vI v1), some (vI v2), none, none, none, none, none, none] [] u wI (fX10_ringsNow_101 n v1 v2 u) := by
  intro n
  induction n with
  | zero => intros; exact g_none
  | succ n ih =>
    intro v1 v2 u
    rw [fX10_ringsNow_101]
    refine g_seg0 (pc' := 102) (L' := [some (vR (kO 9) 0), some (vI v1), some (vI v2), none, none, none, none, none, none]) (st' := [vI v1]) (u1 := u) [(oL 0 1, 1)] (by decide +kernel) rfl rfl ?_
    refine g_zeq (off := 253) (tgt := 355) (pc2 := 105) (by decide +kernel) (by decide) rfl ?_ ?_
    · refine g_seg0 (pc' := 356) (L' := [some (vR (kO 9) 0), some (vI v1), some (vI v2), none, none, none, none, none, none]) (st' := [vI v2]) (u1 := u) [(oL 0 2, 1)] (by decide +kernel) rfl rfl ?_
      exact g_iret (by decide +kernel) rfl
    · refine g_seg0 (pc' := 110) (L' := [some (vR (kO 9) 0), some (vI v1), some (vI v2), some (vI 0), some (vI 0), none, none, none, none]) (st' := []) (u1 := u) [(oC 0, 1), (oL 3 3, 1), (oC 0, 1), (oL 3 4, 2)] (by decide +kernel) rfl rfl ?_
      exact tX10_ringsNow_110 (fX10_ringsNow_101 n) ih fu v1 v2 0 0 u
def fX10_ringsNow_41 (k4 : Int32 → Int32 → ab_S → Option (Int32 × ab_S)) : Nat → Int32 → Int32 → Int32 → Int32 → ab_S → Option (Int32 × ab_S)
  | 0, _, _, _, _, _ => none
  | n + 1, v1, v2, v3, v4, u =>
  bif decide (v4 < 0) then (
    bif decide (v3 = 0) then (
      k4 (v1 ||| 0) (v2 + 1) u)
    else (
      k4 (v1 ||| ((1 : Int32) <<< (v2 &&& 31))) (v2 + 1) u))
  else (
    bif decide (((v3 >>> (v4 &&& 31)) &&& 1) = 1) then (
      ab_gd [ab_ix v2 6] (
        (fX10_ringsNow_41 k4 n) v1 v2 v3 (v4 + (-1)) (sI u 18 (nc v2) v4)))
    else (
      ab_gd [ab_ix v2 6, ab_ix v2 6] (
        (fX10_ringsNow_41 k4 n) v1 v2 v3 (v4 + (-1)) (sI u 18 (nc v2) (u.1 18 (nc v2))))))
theorem tX10_ringsNow_41 (k4 : Int32 → Int32 → ab_S → Option (Int32 × ab_S)) (hk4 : ∀ (v1 : Int32) (v2 : Int32) (u : ab_S), ab_G 1 9 cX10_ringsNow (some .int) 5 4 [some (vR (kO 9) 0), some (vI v1), some (vI v2), none, none, none, none, none, none] [] u wI (k4 v1 v2 u)) : ∀ (n : Nat) (v1 : Int32) (v2 : Int32) (v3 : Int32) (v4 : Int32) (u : ab_S), ab_G 1 9 cX10_ringsNow (some .int) 5 41 [some (vR (kO 9) 0), some (vI v1), some (vI v2), some (vI v3), some (vI v4), none, none, none, none] [] u wI (fX10_ringsNow_41 k4 n v1 v2 v3 v4 u) := by
  intro n
  induction n with
  | zero => intros; exact g_none
  | succ n ih =>
    intro v1 v2 v3 v4 u
    rw [fX10_ringsNow_41]
    refine g_seg0 (pc' := 43) (L' := [some (vR (kO 9) 0), some (vI v1), some (vI v2), some (vI v3), some (vI v4), none, none, none, none]) (st' := [vI v4]) (u1 := u) [(oL 0 4, 2)] (by decide +kernel) rfl rfl ?_
    refine g_zlt (off := 36) (tgt := 79) (pc2 := 46) (by decide +kernel) (by decide) rfl ?_ ?_
    · refine g_seg0 (pc' := 81) (L' := [some (vR (kO 9) 0), some (vI v1), some (vI v2), some (vI v3), some (vI v4), none, none, none, none]) (st' := [vI v3, vI v1]) (u1 := u) [(oL 0 1, 1), (oL 0 3, 1)] (by decide +kernel) rfl rfl ?_
      refine g_zeq (off := 9) (tgt := 90) (pc2 := 84) (by decide +kernel) (by decide) rfl ?_ ?_
      · refine g_seg0 (pc' := 96) (L' := [some (vR (kO 9) 0), some (vI (v1 ||| 0)), some (vI (v2 + 1)), some (vI v3), some (vI v4), none, none, none, none]) (st' := []) (u1 := u) [(oC 0, 1), (oP .ior, 1), (oL 3 1, 1), (oN 2 1, 3)] (by decide +kernel) rfl rfl ?_
        refine g_goto (off := (-92)) (tgt := 4) (by decide +kernel) (by decide) ?_
        exact g_jump [true, true, true, false, false, false, false, false, false] rfl (hk4 (v1 ||| 0) (v2 + 1) u)
      · refine g_seg0 (pc' := 87) (L' := [some (vR (kO 9) 0), some (vI v1), some (vI v2), some (vI v3), some (vI v4), none, none, none, none]) (st' := [vI ((1 : Int32) <<< (v2 &&& 31)), vI v1]) (u1 := u) [(oC 1, 1), (oL 0 2, 1), (oP .ishl, 1)] (by decide +kernel) rfl rfl ?_
        refine g_goto (off := 4) (tgt := 91) (by decide +kernel) (by decide) ?_
        refine g_seg0 (pc' := 96) (L' := [some (vR (kO 9) 0), some (vI (v1 ||| ((1 : Int32) <<< (v2 &&& 31)))), some (vI (v2 + 1)), some (vI v3), some (vI v4), none, none, none, none]) (st' := []) (u1 := u) [(oP .ior, 1), (oL 3 1, 1), (oN 2 1, 3)] (by decide +kernel) rfl rfl ?_
        refine g_goto (off := (-92)) (tgt := 4) (by decide +kernel) (by decide) ?_
        exact g_jump [true, true, true, false, false, false, false, false, false] rfl (hk4 (v1 ||| ((1 : Int32) <<< (v2 &&& 31))) (v2 + 1) u)
    · refine g_seg0 (pc' := 58) (L' := [some (vR (kO 9) 0), some (vI v1), some (vI v2), some (vI v3), some (vI v4), none, none, none, none]) (st' := [vI 1, vI ((v3 >>> (v4 &&& 31)) &&& 1), vI v2, vR (kA 0 6) 18]) (u1 := u) [(oL 2 0, 1), (oP (.getfield 120), 3), (oL 0 2, 1), (oL 0 3, 1), (oL 0 4, 2), (oP .ishr, 1), (oC 1, 1), (oP .iand, 1), (oC 1, 1)] (by decide +kernel) rfl rfl ?_
      refine g_ine (off := 8) (tgt := 66) (pc2 := 61) (by decide +kernel) (by decide) rfl ?_ ?_
      · refine g_seg (pc' := 76) (L' := [some (vR (kO 9) 0), some (vI v1), some (vI v2), some (vI v3), some (vI (v4 + (-1))), none, none, none, none]) (st' := []) (u1 := (sI u 18 (nc v2) (u.1 18 (nc v2)))) [(oL 2 0, 1), (oP (.getfield 120), 3), (oL 0 2, 1), (oP .iaload, 1), (oP .iastore, 1), (oN 4 (-1), 3)] (by decide +kernel) rfl rfl ?_
        refine g_goto (off := (-35)) (tgt := 41) (by decide +kernel) (by decide) ?_
        exact ih v1 v2 v3 (v4 + (-1)) (sI u 18 (nc v2) (u.1 18 (nc v2)))
      · refine g_seg0 (pc' := 63) (L' := [some (vR (kO 9) 0), some (vI v1), some (vI v2), some (vI v3), some (vI v4), none, none, none, none]) (st' := [vI v4, vI v2, vR (kA 0 6) 18]) (u1 := u) [(oL 0 4, 2)] (by decide +kernel) rfl rfl ?_
        refine g_goto (off := 9) (tgt := 72) (by decide +kernel) (by decide) ?_
        refine g_seg (pc' := 76) (L' := [some (vR (kO 9) 0), some (vI v1), some (vI v2), some (vI v3), some (vI (v4 + (-1))), none, none, none, none]) (st' := []) (u1 := (sI u 18 (nc v2) v4)) [(oP .iastore, 1), (oN 4 (-1), 3)] (by decide +kernel) rfl rfl ?_
        refine g_goto (off := (-35)) (tgt := 41) (by decide +kernel) (by decide) ?_
        exact ih v1 v2 v3 (v4 + (-1)) (sI u 18 (nc v2) v4)
def fX10_ringsNow_4 : Nat → Int32 → Int32 → ab_S → Option (Int32 × ab_S)
  | 0, _, _, _ => none
  | n + 1, v1, v2, u =>
  (fX10_persons u).bind fun q8 =>
    bif decide (v2 < q8.1) then (
      (fX10_heldBy 0 v2 q8.2).bind fun q9 =>
        ab_gd [ab_ix v2 6, ab_ix v2 6] (
          (fX10_goods (sI (sI q9.2 18 (nc v2) (-1)) 20 (nc v2) (-1))).bind fun q10 =>
            fX10_ringsNow_41 (fX10_ringsNow_4 n) fu v1 v2 q9.1 (q10.1 - 1) q10.2))
    else (
      fX10_ringsNow_101 fu v1 0 q8.2)
theorem tX10_ringsNow_4 : ∀ (n : Nat) (v1 : Int32) (v2 : Int32) (u : ab_S), ab_G 1 9 cX10_ringsNow (some .int) 5 4 [some (vR (kO 9) 0), some (vI v1), some (vI v2), none, none, none, none, none, none] [] u wI (fX10_ringsNow_4 n v1 v2 u) := by
  intro n
  induction n with
  | zero => intros; exact g_none
  | succ n ih =>
    intro v1 v2 u
    rw [fX10_ringsNow_4]
    refine g_seg0 (pc' := 6) (L' := [some (vR (kO 9) 0), some (vI v1), some (vI v2), none, none, none, none, none, none]) (st' := [vR (kO 9) 0, vI v2]) (u1 := u) [(oL 0 2, 1), (oL 2 0, 1)] (by decide +kernel) rfl rfl ?_
    refine g_callV (k := 275) (pc2 := 9) (st := [vI v2]) (CX10_persons u) miX10_persons mvX10_persons rfl (by decide) lk9_275 wI_ok (by decide +kernel) rfl (Nat.le_of_ble_eq_true rfl) (by decide) rfl (fun q8 hq8 => ?_)
    refine g_ige (off := 90) (tgt := 99) (pc2 := 12) (by decide +kernel) (by decide) rfl ?_ ?_
    · refine g_seg0 (pc' := 101) (L' := [some (vR (kO 9) 0), some (vI v1), some (vI 0), none, none, none, none, none, none]) (st' := []) (u1 := q8.2) [(oC 0, 1), (oL 3 2, 1)] (by decide +kernel) rfl rfl ?_
      exact tX10_ringsNow_101 fu v1 0 q8.2
    · refine g_seg0 (pc' := 15) (L' := [some (vR (kO 9) 0), some (vI v1), some (vI v2), none, none, none, none, none, none]) (st' := [vI v2, vI 0, vR (kO 9) 0]) (u1 := q8.2) [(oL 2 0, 1), (oC 0, 1), (oL 0 2, 1)] (by decide +kernel) rfl rfl ?_
      refine g_callV (k := 300) (pc2 := 18) (st := []) (CX10_heldBy 0 v2 q8.2) miX10_heldBy mvX10_heldBy rfl (by decide) lk9_300 wI_ok (by decide +kernel) rfl (Nat.le_of_ble_eq_true rfl) (by decide) rfl (fun q9 hq9 => ?_)
      refine g_seg (pc' := 34) (L' := [some (vR (kO 9) 0), some (vI v1), some (vI v2), some (vI (q9.1)), none, none, none, none, none]) (st' := [vR (kO 9) 0]) (u1 := (sI (sI q9.2 18 (nc v2) (-1)) 20 (nc v2) (-1))) [(oL 3 3, 1), (oL 2 0, 1), (oP (.getfield 120), 3), (oL 0 2, 1), (oC (-1), 1), (oP .iastore, 1), (oL 2 0, 1), (oP (.getfield 126), 3), (oL 0 2, 1), (oC (-1), 1), (oP .iastore, 1), (oL 2 0, 1)] (by decide +kernel) rfl rfl ?_
      refine g_callV (k := 291) (pc2 := 37) (st := []) (CX10_goods (sI (sI q9.2 18 (nc v2) (-1)) 20 (nc v2) (-1))) miX10_goods mvX10_goods rfl (by decide) lk9_291 wI_ok (by decide +kernel) rfl (Nat.le_of_ble_eq_true rfl) (by decide) rfl (fun q10 hq10 => ?_)
      refine g_seg0 (pc' := 41) (L' := [some (vR (kO 9) 0), some (vI v1), some (vI v2), some (vI (q9.1)), some (vI (q10.1 - 1)), none, none, none, none]) (st' := []) (u1 := q10.2) [(oC 1, 1), (oP .isub, 1), (oL 3 4, 2)] (by decide +kernel) rfl rfl ?_
      exact tX10_ringsNow_41 (fX10_ringsNow_4 n) ih fu v1 v2 q9.1 (q10.1 - 1) q10.2
def fX10_ringsNow (u : ab_S) : Option (Int32 × ab_S) :=
  fX10_ringsNow_4 fu 0 0 u
theorem tX10_ringsNow (u : ab_S) : ab_G 1 9 cX10_ringsNow (some .int) 5 0 [some (vR (kO 9) 0), none, none, none, none, none, none, none, none] [] u wI (fX10_ringsNow u) := by
  rw [fX10_ringsNow]
  refine g_seg0 (pc' := 4) (L' := [some (vR (kO 9) 0), some (vI 0), some (vI 0), none, none, none, none, none, none]) (st' := []) (u1 := u) [(oC 0, 1), (oL 3 1, 1), (oC 0, 1), (oL 3 2, 1)] (by decide +kernel) rfl rfl ?_
  exact tX10_ringsNow_4 fu 0 0 u
theorem CX10_ringsNow (u : ab_S) : ab_C 1 yX10_ringsNow cX10_ringsNow 9 (some .int) 5 [vR (kO 9) 0] u wI (fX10_ringsNow u) := ab_entry (by decide +kernel) rfl (by decide) (by decide) (fun _ => Nat.le_of_ble_eq_true rfl) rfl (tX10_ringsNow u)
def fX10_gets (v1 : Int32) (u : ab_S) : Option (Int32 × ab_S) :=
  (fX10_ringsNow (sI u 0 0 0)).bind fun q1 =>
    (fX10_isPerson v1 q1.2).bind fun q2 =>
      bif decide (q2.1 = 0) then (
        some ((-1), q2.2))
      else (
        ab_gd [ab_ix v1 6] (
          some ((q2.2.1 20 (nc v1)), q2.2)))
theorem tX10_gets (v1 : Int32) (u : ab_S) : ab_G 1 9 cX10_gets (some .int) 6 0 [some (vR (kO 9) 0), some (vI v1)] [] u wI (fX10_gets v1 u) := by
  rw [fX10_gets]
  refine g_seg0 (pc' := 6) (L' := [some (vR (kO 9) 0), some (vI v1)]) (st' := [vR (kO 9) 0]) (u1 := (sI u 0 0 0)) [(oL 2 0, 1), (oC 0, 1), (oP (.putfield 1), 3), (oL 2 0, 1)] (by decide +kernel) rfl rfl ?_
  refine g_callV (k := 385) (pc2 := 9) (st := []) (CX10_ringsNow (sI u 0 0 0)) miX10_ringsNow mvX10_ringsNow rfl (by decide) lk9_385 wI_ok (by decide +kernel) rfl (Nat.le_of_ble_eq_true rfl) (by decide) rfl (fun q1 hq1 => ?_)
  refine g_seg0 (pc' := 12) (L' := [some (vR (kO 9) 0), some (vI v1)]) (st' := [vI v1, vR (kO 9) 0]) (u1 := q1.2) [(oP .pop, 1), (oL 2 0, 1), (oL 0 1, 1)] (by decide +kernel) rfl rfl ?_
  refine g_callV (k := 342) (pc2 := 15) (st := []) (CX10_isPerson v1 q1.2) miX10_isPerson mvX10_isPerson rfl (by decide) lk9_342 wI_ok (by decide +kernel) rfl (Nat.le_of_ble_eq_true rfl) (by decide) rfl (fun q2 hq2 => ?_)
  refine g_zeq (off := 12) (tgt := 27) (pc2 := 18) (by decide +kernel) (by decide) rfl ?_ ?_
  · refine g_seg0 (pc' := 28) (L' := [some (vR (kO 9) 0), some (vI v1)]) (st' := [vI (-1)]) (u1 := q2.2) [(oC (-1), 1)] (by decide +kernel) rfl rfl ?_
    exact g_iret (by decide +kernel) rfl
  · refine g_seg (pc' := 24) (L' := [some (vR (kO 9) 0), some (vI v1)]) (st' := [vI (q2.2.1 20 (nc v1))]) (u1 := q2.2) [(oL 2 0, 1), (oP (.getfield 126), 3), (oL 0 1, 1), (oP .iaload, 1)] (by decide +kernel) rfl rfl ?_
    refine g_goto (off := 4) (tgt := 28) (by decide +kernel) (by decide) ?_
    exact g_iret (by decide +kernel) rfl
theorem CX10_gets (v1 : Int32) (u : ab_S) : ab_C 1 yX10_gets cX10_gets 2 (some .int) 6 [vR (kO 9) 0, vI v1] u wI (fX10_gets v1 u) := ab_entry (by decide +kernel) rfl (by decide) (by decide) (fun _ => Nat.le_of_ble_eq_true rfl) rfl (tX10_gets v1 u)
def fX10_rounds (u : ab_S) : Option (Int32 × ab_S) :=
  (fX10_ringsNow (sI u 0 0 0)).bind fun q1 =>
    some (q1.1, q1.2)
theorem tX10_rounds (u : ab_S) : ab_G 1 9 cX10_rounds (some .int) 6 0 [some (vR (kO 9) 0)] [] u wI (fX10_rounds u) := by
  rw [fX10_rounds]
  refine g_seg0 (pc' := 6) (L' := [some (vR (kO 9) 0)]) (st' := [vR (kO 9) 0]) (u1 := (sI u 0 0 0)) [(oL 2 0, 1), (oC 0, 1), (oP (.putfield 1), 3), (oL 2 0, 1)] (by decide +kernel) rfl rfl ?_
  refine g_callV (k := 385) (pc2 := 9) (st := []) (CX10_ringsNow (sI u 0 0 0)) miX10_ringsNow mvX10_ringsNow rfl (by decide) lk9_385 wI_ok (by decide +kernel) rfl (Nat.le_of_ble_eq_true rfl) (by decide) rfl (fun q1 hq1 => ?_)
  exact g_iret (by decide +kernel) rfl
theorem CX10_rounds (u : ab_S) : ab_C 1 yX10_rounds cX10_rounds 1 (some .int) 6 [vR (kO 9) 0] u wI (fX10_rounds u) := ab_entry (by decide +kernel) rfl (by decide) (by decide) (fun _ => Nat.le_of_ble_eq_true rfl) rfl (tX10_rounds u)
def fX10_givesFrom_133 (rX10_givesFrom : Int32 → Int32 → Int32 → Int32 → ab_S → Option (Unit × ab_S)) (v1 : Int32) (v2 : Int32) (v3 : Int32) (v4 : Int32) (u : ab_S) : Option (Unit × ab_S) :=
  ab_gd [ab_ix v1 6] (
    (rX10_givesFrom (v1 + 1) v2 v3 v4 (sI u 21 (nc v1) (-1))).bind fun q1 =>
      some ((), q1.2))
theorem tX10_givesFrom_133 (rX10_givesFrom : Int32 → Int32 → Int32 → Int32 → ab_S → Option (Unit × ab_S)) {dd : Nat} (hX10_givesFrom : ∀ (v1 : Int32) (v2 : Int32) (v3 : Int32) (v4 : Int32) (u : ab_S), ab_C 1 yX10_givesFrom cX10_givesFrom 6 none dd [vR (kO 9) 0, vI v1, vI v2, vI v3, vI v4] u wV (rX10_givesFrom v1 v2 v3 v4 u)) (hdd : 2 ≤ dd) (v1 : Int32) (v2 : Int32) (v3 : Int32) (v4 : Int32) (u : ab_S) : ab_G 1 9 cX10_givesFrom none (dd + 1) 133 [some (vR (kO 9) 0), some (vI v1), some (vI v2), some (vI v3), some (vI v4), none] [] u wV (fX10_givesFrom_133 rX10_givesFrom v1 v2 v3 v4 u) := by
  rw [fX10_givesFrom_133]
  refine g_seg (pc' := 148) (L' := [some (vR (kO 9) 0), some (vI v1), some (vI v2), some (vI v3), some (vI v4), none]) (st' := [vI v4, vI v3, vI v2, vI (v1 + 1), vR (kO 9) 0]) (u1 := (sI u 21 (nc v1) (-1))) [(oL 2 0, 1), (oP (.getfield 129), 3), (oL 0 1, 1), (oC (-1), 1), (oP .iastore, 1), (oL 2 0, 1), (oL 0 1, 1), (oC 1, 1), (oP .iadd, 1), (oL 0 2, 1), (oL 0 3, 1), (oL 0 4, 2)] (by decide +kernel) rfl rfl ?_
  refine g_callV (k := 391) (pc2 := 151) (st := []) (hX10_givesFrom (v1 + 1) v2 v3 v4 (sI u 21 (nc v1) (-1))) miX10_givesFrom mvX10_givesFrom rfl (by decide) lk9_391 wV_ok (by decide +kernel) rfl (Nat.le_of_ble_eq_true rfl) (Nat.le_refl _) rfl (fun q1 hq1 => ?_)
  exact g_vret (by decide +kernel) rfl
def fX10_givesFrom_70 (rX10_givesFrom : Int32 → Int32 → Int32 → Int32 → ab_S → Option (Unit × ab_S)) : Nat → Int32 → Int32 → Int32 → Int32 → Int32 → ab_S → Option (Unit × ab_S)
  | 0, _, _, _, _, _, _ => none
  | n + 1, v1, v2, v3, v4, v5, u =>
  (fX10_goods u).bind fun q2 =>
    bif decide (v5 < q2.1) then (
      bif decide (v1 = v4) then (
        fX10_givesFrom_133 rX10_givesFrom v1 v2 v3 v4 q2.2)
      else (
        bif decide (((v2 >>> (v5 &&& 31)) &&& 1) = 0) then (
          ab_gd [ab_ix v1 6] (
            (fX10_fitBy v1 v5 0 (sI q2.2 21 (nc v1) v5)).bind fun q3 =>
              (rX10_givesFrom (v1 + 1) (v2 ||| ((1 : Int32) <<< (v5 &&& 31))) (v3 + q3.1) v4 q3.2).bind fun q4 =>
                (fX10_givesFrom_70 rX10_givesFrom n) v1 v2 v3 v4 (v5 + 1) q4.2))
        else (
          (fX10_givesFrom_70 rX10_givesFrom n) v1 v2 v3 v4 (v5 + 1) q2.2)))
    else (
      fX10_givesFrom_133 rX10_givesFrom v1 v2 v3 v4 q2.2)
theorem tX10_givesFrom_70 (rX10_givesFrom : Int32 → Int32 → Int32 → Int32 → ab_S → Option (Unit × ab_S)) {dd : Nat} (hX10_givesFrom : ∀ (v1 : Int32) (v2 : Int32) (v3 : Int32) (v4 : Int32) (u : ab_S), ab_C 1 yX10_givesFrom cX10_givesFrom 6 none dd [vR (kO 9) 0, vI v1, vI v2, vI v3, vI v4] u wV (rX10_givesFrom v1 v2 v3 v4 u)) (hdd : 2 ≤ dd) : ∀ (n : Nat) (v1 : Int32) (v2 : Int32) (v3 : Int32) (v4 : Int32) (v5 : Int32) (u : ab_S), ab_G 1 9 cX10_givesFrom none (dd + 1) 70 [some (vR (kO 9) 0), some (vI v1), some (vI v2), some (vI v3), some (vI v4), some (vI v5)] [] u wV (fX10_givesFrom_70 rX10_givesFrom n v1 v2 v3 v4 v5 u) := by
  intro n
  induction n with
  | zero => intros; exact g_none
  | succ n ih =>
    intro v1 v2 v3 v4 v5 u
    rw [fX10_givesFrom_70]
    refine g_seg0 (pc' := 73) (L' := [some (vR (kO 9) 0), some (vI v1), some (vI v2), some (vI v3), some (vI v4), some (vI v5)]) (st' := [vR (kO 9) 0, vI v5]) (u1 := u) [(oL 0 5, 2), (oL 2 0, 1)] (by decide +kernel) rfl rfl ?_
    refine g_callV (k := 291) (pc2 := 76) (st := [vI v5]) (CX10_goods u) miX10_goods mvX10_goods rfl (by decide) lk9_291 wI_ok (by decide +kernel) rfl (Nat.le_of_ble_eq_true rfl) (by omega) rfl (fun q2 hq2 => ?_)
    refine g_ige (off := 57) (tgt := 133) (pc2 := 79) (by decide +kernel) (by decide) rfl ?_ ?_
    · exact g_jump [true, true, true, true, true, false] rfl (tX10_givesFrom_133 rX10_givesFrom hX10_givesFrom hdd v1 v2 v3 v4 q2.2)
    · refine g_seg0 (pc' := 82) (L' := [some (vR (kO 9) 0), some (vI v1), some (vI v2), some (vI v3), some (vI v4), some (vI v5)]) (st' := [vI v4, vI v1]) (u1 := q2.2) [(oL 0 1, 1), (oL 0 4, 2)] (by decide +kernel) rfl rfl ?_
      refine g_ieq (off := 51) (tgt := 133) (pc2 := 85) (by decide +kernel) (by decide) rfl ?_ ?_
      · exact g_jump [true, true, true, true, true, false] rfl (tX10_givesFrom_133 rX10_givesFrom hX10_givesFrom hdd v1 v2 v3 v4 q2.2)
      · refine g_seg0 (pc' := 91) (L' := [some (vR (kO 9) 0), some (vI v1), some (vI v2), some (vI v3), some (vI v4), some (vI v5)]) (st' := [vI ((v2 >>> (v5 &&& 31)) &&& 1)]) (u1 := q2.2) [(oL 0 2, 1), (oL 0 5, 2), (oP .ishr, 1), (oC 1, 1), (oP .iand, 1)] (by decide +kernel) rfl rfl ?_
        refine g_zne (off := 36) (tgt := 127) (pc2 := 94) (by decide +kernel) (by decide) rfl ?_ ?_
        · refine g_seg0 (pc' := 130) (L' := [some (vR (kO 9) 0), some (vI v1), some (vI v2), some (vI v3), some (vI v4), some (vI (v5 + 1))]) (st' := []) (u1 := q2.2) [(oN 5 1, 3)] (by decide +kernel) rfl rfl ?_
          refine g_goto (off := (-60)) (tgt := 70) (by decide +kernel) (by decide) ?_
          exact ih v1 v2 v3 v4 (v5 + 1) q2.2
        · refine g_seg (pc' := 118) (L' := [some (vR (kO 9) 0), some (vI v1), some (vI v2), some (vI v3), some (vI v4), some (vI v5)]) (st' := [vI 0, vI v5, vI v1, vR (kO 9) 0, vI v3, vI (v2 ||| ((1 : Int32) <<< (v5 &&& 31))), vI (v1 + 1), vR (kO 9) 0]) (u1 := (sI q2.2 21 (nc v1) v5)) [(oL 2 0, 1), (oP (.getfield 129), 3), (oL 0 1, 1), (oL 0 5, 2), (oP .iastore, 1), (oL 2 0, 1), (oL 0 1, 1), (oC 1, 1), (oP .iadd, 1), (oL 0 2, 1), (oC 1, 1), (oL 0 5, 2), (oP .ishl, 1), (oP .ior, 1), (oL 0 3, 1), (oL 2 0, 1), (oL 0 1, 1), (oL 0 5, 2), (oC 0, 1)] (by decide +kernel) rfl rfl ?_
          refine g_callV (k := 306) (pc2 := 121) (st := [vI v3, vI (v2 ||| ((1 : Int32) <<< (v5 &&& 31))), vI (v1 + 1), vR (kO 9) 0]) (CX10_fitBy v1 v5 0 (sI q2.2 21 (nc v1) v5)) miX10_fitBy mvX10_fitBy rfl (by decide) lk9_306 wI_ok (by decide +kernel) rfl (Nat.le_of_ble_eq_true rfl) (by omega) rfl (fun q3 hq3 => ?_)
          refine g_seg0 (pc' := 124) (L' := [some (vR (kO 9) 0), some (vI v1), some (vI v2), some (vI v3), some (vI v4), some (vI v5)]) (st' := [vI v4, vI (v3 + q3.1), vI (v2 ||| ((1 : Int32) <<< (v5 &&& 31))), vI (v1 + 1), vR (kO 9) 0]) (u1 := q3.2) [(oP .iadd, 1), (oL 0 4, 2)] (by decide +kernel) rfl rfl ?_
          refine g_callV (k := 391) (pc2 := 127) (st := []) (hX10_givesFrom (v1 + 1) (v2 ||| ((1 : Int32) <<< (v5 &&& 31))) (v3 + q3.1) v4 q3.2) miX10_givesFrom mvX10_givesFrom rfl (by decide) lk9_391 wV_ok (by decide +kernel) rfl (Nat.le_of_ble_eq_true rfl) (Nat.le_refl _) rfl (fun q4 hq4 => ?_)
          refine g_seg0 (pc' := 130) (L' := [some (vR (kO 9) 0), some (vI v1), some (vI v2), some (vI v3), some (vI v4), some (vI (v5 + 1))]) (st' := []) (u1 := q4.2) [(oN 5 1, 3)] (by decide +kernel) rfl rfl ?_
          refine g_goto (off := (-60)) (tgt := 70) (by decide +kernel) (by decide) ?_
          exact ih v1 v2 v3 v4 (v5 + 1) q4.2
def fX10_givesFrom_46 (rX10_givesFrom : Int32 → Int32 → Int32 → Int32 → ab_S → Option (Unit × ab_S)) (v3 : Int32) (u : ab_S) : Option (Unit × ab_S) :=
  bif decide (v3 ≤ (u.1 0 32)) then (
    some ((), (sI u 0 32 (u.1 0 32))))
  else (
    some ((), (sI u 0 32 v3)))
theorem tX10_givesFrom_46 (rX10_givesFrom : Int32 → Int32 → Int32 → Int32 → ab_S → Option (Unit × ab_S)) {dd : Nat} (hX10_givesFrom : ∀ (v1 : Int32) (v2 : Int32) (v3 : Int32) (v4 : Int32) (u : ab_S), ab_C 1 yX10_givesFrom cX10_givesFrom 6 none dd [vR (kO 9) 0, vI v1, vI v2, vI v3, vI v4] u wV (rX10_givesFrom v1 v2 v3 v4 u)) (hdd : 2 ≤ dd) (v3 : Int32) (u : ab_S) : ab_G 1 9 cX10_givesFrom none (dd + 1) 46 [some (vR (kO 9) 0), none, none, some (vI v3), none, none] [] u wV (fX10_givesFrom_46 rX10_givesFrom v3 u) := by
  rw [fX10_givesFrom_46]
  refine g_seg0 (pc' := 52) (L' := [some (vR (kO 9) 0), none, none, some (vI v3), none, none]) (st' := [vI (u.1 0 32), vI v3, vR (kO 9) 0]) (u1 := u) [(oL 2 0, 1), (oL 0 3, 1), (oL 2 0, 1), (oP (.getfield 388), 3)] (by decide +kernel) rfl rfl ?_
  refine g_ile (off := 7) (tgt := 59) (pc2 := 55) (by decide +kernel) (by decide) rfl ?_ ?_
  · refine g_seg0 (pc' := 66) (L' := [some (vR (kO 9) 0), none, none, some (vI v3), none, none]) (st' := []) (u1 := (sI u 0 32 (u.1 0 32))) [(oL 2 0, 1), (oP (.getfield 388), 3), (oP (.putfield 388), 3)] (by decide +kernel) rfl rfl ?_
    exact g_vret (by decide +kernel) rfl
  · refine g_seg0 (pc' := 56) (L' := [some (vR (kO 9) 0), none, none, some (vI v3), none, none]) (st' := [vI v3, vR (kO 9) 0]) (u1 := u) [(oL 0 3, 1)] (by decide +kernel) rfl rfl ?_
    refine g_goto (off := 7) (tgt := 63) (by decide +kernel) (by decide) ?_
    refine g_seg0 (pc' := 66) (L' := [some (vR (kO 9) 0), none, none, some (vI v3), none, none]) (st' := []) (u1 := (sI u 0 32 v3)) [(oP (.putfield 388), 3)] (by decide +kernel) rfl rfl ?_
    exact g_vret (by decide +kernel) rfl
def fX10_givesFrom_11 (rX10_givesFrom : Int32 → Int32 → Int32 → Int32 → ab_S → Option (Unit × ab_S)) : Nat → Int32 → Int32 → ab_S → Option (Unit × ab_S)
  | 0, _, _, _ => none
  | n + 1, v3, v5, u =>
  bif decide (v5 < 6) then (
    bif decide (v3 ≤ (u.1 0 32)) then (
      fX10_givesFrom_46 rX10_givesFrom v3 u)
    else (
      ab_gd [ab_ix v5 6, ab_ix v5 6] (
        (fX10_givesFrom_11 rX10_givesFrom n) v3 (v5 + 1) (sI u 22 (nc v5) (u.1 21 (nc v5))))))
  else (
    fX10_givesFrom_46 rX10_givesFrom v3 u)
theorem tX10_givesFrom_11 (rX10_givesFrom : Int32 → Int32 → Int32 → Int32 → ab_S → Option (Unit × ab_S)) {dd : Nat} (hX10_givesFrom : ∀ (v1 : Int32) (v2 : Int32) (v3 : Int32) (v4 : Int32) (u : ab_S), ab_C 1 yX10_givesFrom cX10_givesFrom 6 none dd [vR (kO 9) 0, vI v1, vI v2, vI v3, vI v4] u wV (rX10_givesFrom v1 v2 v3 v4 u)) (hdd : 2 ≤ dd) : ∀ (n : Nat) (v3 : Int32) (v5 : Int32) (u : ab_S), ab_G 1 9 cX10_givesFrom none (dd + 1) 11 [some (vR (kO 9) 0), none, none, some (vI v3), none, some (vI v5)] [] u wV (fX10_givesFrom_11 rX10_givesFrom n v3 v5 u) := by
  intro n
  induction n with
  | zero => intros; exact g_none
  | succ n ih =>
    intro v3 v5 u
    rw [fX10_givesFrom_11]
    refine g_seg0 (pc' := 15) (L' := [some (vR (kO 9) 0), none, none, some (vI v3), none, some (vI v5)]) (st' := [vI 6, vI v5]) (u1 := u) [(oL 0 5, 2), (oC 6, 2)] (by decide +kernel) rfl rfl ?_
    refine g_ige (off := 31) (tgt := 46) (pc2 := 18) (by decide +kernel) (by decide) rfl ?_ ?_
    · exact g_jump [true, false, false, true, false, false] rfl (tX10_givesFrom_46 rX10_givesFrom hX10_givesFrom hdd v3 u)
    · refine g_seg0 (pc' := 23) (L' := [some (vR (kO 9) 0), none, none, some (vI v3), none, some (vI v5)]) (st' := [vI (u.1 0 32), vI v3]) (u1 := u) [(oL 0 3, 1), (oL 2 0, 1), (oP (.getfield 388), 3)] (by decide +kernel) rfl rfl ?_
      refine g_ile (off := 23) (tgt := 46) (pc2 := 26) (by decide +kernel) (by decide) rfl ?_ ?_
      · exact g_jump [true, false, false, true, false, false] rfl (tX10_givesFrom_46 rX10_givesFrom hX10_givesFrom hdd v3 u)
      · refine g_seg (pc' := 43) (L' := [some (vR (kO 9) 0), none, none, some (vI v3), none, some (vI (v5 + 1))]) (st' := []) (u1 := (sI u 22 (nc v5) (u.1 21 (nc v5)))) [(oL 2 0, 1), (oP (.getfield 132), 3), (oL 0 5, 2), (oL 2 0, 1), (oP (.getfield 129), 3), (oL 0 5, 2), (oP .iaload, 1), (oP .iastore, 1), (oN 5 1, 3)] (by decide +kernel) rfl rfl ?_
        refine g_goto (off := (-32)) (tgt := 11) (by decide +kernel) (by decide) ?_
        exact ih v3 (v5 + 1) (sI u 22 (nc v5) (u.1 21 (nc v5)))
def fX10_givesFrom (rX10_givesFrom : Int32 → Int32 → Int32 → Int32 → ab_S → Option (Unit × ab_S)) (v1 : Int32) (v2 : Int32) (v3 : Int32) (v4 : Int32) (u : ab_S) : Option (Unit × ab_S) :=
  (fX10_persons u).bind fun q5 =>
    bif decide (v1 = q5.1) then (
      fX10_givesFrom_11 rX10_givesFrom fu v3 0 q5.2)
    else (
      fX10_givesFrom_70 rX10_givesFrom fu v1 v2 v3 v4 0 q5.2)
theorem tX10_givesFrom (rX10_givesFrom : Int32 → Int32 → Int32 → Int32 → ab_S → Option (Unit × ab_S)) {dd : Nat} (hX10_givesFrom : ∀ (v1 : Int32) (v2 : Int32) (v3 : Int32) (v4 : Int32) (u : ab_S), ab_C 1 yX10_givesFrom cX10_givesFrom 6 none dd [vR (kO 9) 0, vI v1, vI v2, vI v3, vI v4] u wV (rX10_givesFrom v1 v2 v3 v4 u)) (hdd : 2 ≤ dd) (v1 : Int32) (v2 : Int32) (v3 : Int32) (v4 : Int32) (u : ab_S) : ab_G 1 9 cX10_givesFrom none (dd + 1) 0 [some (vR (kO 9) 0), some (vI v1), some (vI v2), some (vI v3), some (vI v4), none] [] u wV (fX10_givesFrom rX10_givesFrom v1 v2 v3 v4 u) := by
  rw [fX10_givesFrom]
  refine g_seg0 (pc' := 2) (L' := [some (vR (kO 9) 0), some (vI v1), some (vI v2), some (vI v3), some (vI v4), none]) (st' := [vR (kO 9) 0, vI v1]) (u1 := u) [(oL 0 1, 1), (oL 2 0, 1)] (by decide +kernel) rfl rfl ?_
  refine g_callV (k := 275) (pc2 := 5) (st := [vI v1]) (CX10_persons u) miX10_persons mvX10_persons rfl (by decide) lk9_275 wI_ok (by decide +kernel) rfl (Nat.le_of_ble_eq_true rfl) (by omega) rfl (fun q5 hq5 => ?_)
  refine g_ine (off := 62) (tgt := 67) (pc2 := 8) (by decide +kernel) (by decide) rfl ?_ ?_
  · refine g_seg0 (pc' := 70) (L' := [some (vR (kO 9) 0), some (vI v1), some (vI v2), some (vI v3), some (vI v4), some (vI 0)]) (st' := []) (u1 := q5.2) [(oC 0, 1), (oL 3 5, 2)] (by decide +kernel) rfl rfl ?_
    exact tX10_givesFrom_70 rX10_givesFrom hX10_givesFrom hdd fu v1 v2 v3 v4 0 q5.2
  · refine g_seg0 (pc' := 11) (L' := [some (vR (kO 9) 0), some (vI v1), some (vI v2), some (vI v3), some (vI v4), some (vI 0)]) (st' := []) (u1 := q5.2) [(oC 0, 1), (oL 3 5, 2)] (by decide +kernel) rfl rfl ?_
    exact g_jump [true, false, false, true, false, true] rfl (tX10_givesFrom_11 rX10_givesFrom hX10_givesFrom hdd fu v3 0 q5.2)
theorem CX10_givesFrom (rX10_givesFrom : Int32 → Int32 → Int32 → Int32 → ab_S → Option (Unit × ab_S)) {dd : Nat} (hX10_givesFrom : ∀ (v1 : Int32) (v2 : Int32) (v3 : Int32) (v4 : Int32) (u : ab_S), ab_C 1 yX10_givesFrom cX10_givesFrom 6 none dd [vR (kO 9) 0, vI v1, vI v2, vI v3, vI v4] u wV (rX10_givesFrom v1 v2 v3 v4 u)) (hdd : 2 ≤ dd) (v1 : Int32) (v2 : Int32) (v3 : Int32) (v4 : Int32) (u : ab_S) : ab_C 1 yX10_givesFrom cX10_givesFrom 6 none (dd + 1) [vR (kO 9) 0, vI v1, vI v2, vI v3, vI v4] u wV (fX10_givesFrom rX10_givesFrom v1 v2 v3 v4 u) := ab_entry (by decide +kernel) rfl (by decide) (by decide) (fun _ => Nat.le_of_ble_eq_true rfl) rfl (tX10_givesFrom rX10_givesFrom hX10_givesFrom hdd v1 v2 v3 v4 u)
def zX10_givesFrom : Nat → (Int32 → Int32 → Int32 → Int32 → ab_S → Option (Unit × ab_S))
  | 0 => (fun _ _ _ _ _ => none)
  | n + 1 => (fun v1 v2 v3 v4 u => fX10_givesFrom (zX10_givesFrom n) v1 v2 v3 v4 u)
theorem zX10_givesFrom_ok : ∀ n : Nat, (∀ (v1 : Int32) (v2 : Int32) (v3 : Int32) (v4 : Int32) (u : ab_S), ab_C 1 yX10_givesFrom cX10_givesFrom 6 none (3 + n) [vR (kO 9) 0, vI v1, vI v2, vI v3, vI v4] u wV ((zX10_givesFrom n) v1 v2 v3 v4 u))
  | 0 => fun _ _ _ _ _ _ _ h => (by cases h)
  | n + 1 => by
    have ih := zX10_givesFrom_ok n
    have h0 := ih
    exact fun v1 v2 v3 v4 u => CX10_givesFrom _ h0 (by omega) v1 v2 v3 v4 u
def wX10_givesFrom (v1 : Int32) (v2 : Int32) (v3 : Int32) (v4 : Int32) (u : ab_S) : Option (Unit × ab_S) := (zX10_givesFrom 10) v1 v2 v3 v4 u
theorem WX10_givesFrom (v1 : Int32) (v2 : Int32) (v3 : Int32) (v4 : Int32) (u : ab_S) : ab_C 1 yX10_givesFrom cX10_givesFrom 6 none 13 [vR (kO 9) 0, vI v1, vI v2, vI v3, vI v4] u wV (wX10_givesFrom v1 v2 v3 v4 u) := (zX10_givesFrom_ok 10) v1 v2 v3 v4 u
def fX10_givesOut (v1 : Int32) (u : ab_S) : Option (Unit × ab_S) :=
  (wX10_givesFrom 0 0 0 v1 (sI u 0 32 (-1))).bind fun q1 =>
    some ((), q1.2)
theorem tX10_givesOut (v1 : Int32) (u : ab_S) : ab_G 1 9 cX10_givesOut none 14 0 [some (vR (kO 9) 0), some (vI v1)] [] u wV (fX10_givesOut v1 u) := by
  rw [fX10_givesOut]
  refine g_seg0 (pc' := 10) (L' := [some (vR (kO 9) 0), some (vI v1)]) (st' := [vI v1, vI 0, vI 0, vI 0, vR (kO 9) 0]) (u1 := (sI u 0 32 (-1))) [(oL 2 0, 1), (oC (-1), 1), (oP (.putfield 388), 3), (oL 2 0, 1), (oC 0, 1), (oC 0, 1), (oC 0, 1), (oL 0 1, 1)] (by decide +kernel) rfl rfl ?_
  refine g_callV (k := 391) (pc2 := 13) (st := []) (WX10_givesFrom 0 0 0 v1 (sI u 0 32 (-1))) miX10_givesFrom mvX10_givesFrom rfl (by decide) lk9_391 wV_ok (by decide +kernel) rfl (Nat.le_of_ble_eq_true rfl) (by decide) rfl (fun q1 hq1 => ?_)
  exact g_vret (by decide +kernel) rfl
theorem CX10_givesOut (v1 : Int32) (u : ab_S) : ab_C 1 yX10_givesOut cX10_givesOut 2 none 14 [vR (kO 9) 0, vI v1] u wV (fX10_givesOut v1 u) := ab_entry (by decide +kernel) rfl (by decide) (by decide) (fun _ => Nat.le_of_ble_eq_true rfl) rfl (tX10_givesOut v1 u)
def fX10_best_21 (v1 : Int32) (u : ab_S) : Option (Int32 × ab_S) :=
  (fX10_givesOut (-1) u).bind fun q1 =>
    bif decide (v1 = (-1)) then (
      some ((q1.2.1 0 32), q1.2))
    else (
      ab_gd [ab_ix v1 6] (
        some ((q1.2.1 22 (nc v1)), q1.2)))
theorem tX10_best_21 (v1 : Int32) (u : ab_S) : ab_G 1 9 cX10_best (some .int) 15 21 [some (vR (kO 9) 0), some (vI v1)] [] u wI (fX10_best_21 v1 u) := by
  rw [fX10_best_21]
  refine g_seg0 (pc' := 23) (L' := [some (vR (kO 9) 0), some (vI v1)]) (st' := [vI (-1), vR (kO 9) 0]) (u1 := u) [(oL 2 0, 1), (oC (-1), 1)] (by decide +kernel) rfl rfl ?_
  refine g_callV (k := 395) (pc2 := 26) (st := []) (CX10_givesOut (-1) u) miX10_givesOut mvX10_givesOut rfl (by decide) lk9_395 wV_ok (by decide +kernel) rfl (Nat.le_of_ble_eq_true rfl) (by decide) rfl (fun q1 hq1 => ?_)
  refine g_seg0 (pc' := 28) (L' := [some (vR (kO 9) 0), some (vI v1)]) (st' := [vI (-1), vI v1]) (u1 := q1.2) [(oL 0 1, 1), (oC (-1), 1)] (by decide +kernel) rfl rfl ?_
  refine g_ine (off := 10) (tgt := 38) (pc2 := 31) (by decide +kernel) (by decide) rfl ?_ ?_
  · refine g_seg (pc' := 44) (L' := [some (vR (kO 9) 0), some (vI v1)]) (st' := [vI (q1.2.1 22 (nc v1))]) (u1 := q1.2) [(oL 2 0, 1), (oP (.getfield 132), 3), (oL 0 1, 1), (oP .iaload, 1)] (by decide +kernel) rfl rfl ?_
    exact g_iret (by decide +kernel) rfl
  · refine g_seg0 (pc' := 35) (L' := [some (vR (kO 9) 0), some (vI v1)]) (st' := [vI (q1.2.1 0 32)]) (u1 := q1.2) [(oL 2 0, 1), (oP (.getfield 388), 3)] (by decide +kernel) rfl rfl ?_
    refine g_goto (off := 9) (tgt := 44) (by decide +kernel) (by decide) ?_
    exact g_iret (by decide +kernel) rfl
def fX10_best (v1 : Int32) (u : ab_S) : Option (Int32 × ab_S) :=
  bif decide (v1 = (-1)) then (
    fX10_best_21 v1 (sI u 0 0 0))
  else (
    (fX10_isPerson v1 (sI u 0 0 0)).bind fun q2 =>
      bif decide (q2.1 = 0) then (
        some ((-2), q2.2))
      else (
        fX10_best_21 v1 q2.2))
theorem tX10_best (v1 : Int32) (u : ab_S) : ab_G 1 9 cX10_best (some .int) 15 0 [some (vR (kO 9) 0), some (vI v1)] [] u wI (fX10_best v1 u) := by
  rw [fX10_best]
  refine g_seg0 (pc' := 7) (L' := [some (vR (kO 9) 0), some (vI v1)]) (st' := [vI (-1), vI v1]) (u1 := (sI u 0 0 0)) [(oL 2 0, 1), (oC 0, 1), (oP (.putfield 1), 3), (oL 0 1, 1), (oC (-1), 1)] (by decide +kernel) rfl rfl ?_
  refine g_ieq (off := 14) (tgt := 21) (pc2 := 10) (by decide +kernel) (by decide) rfl ?_ ?_
  · exact tX10_best_21 v1 (sI u 0 0 0)
  · refine g_seg0 (pc' := 12) (L' := [some (vR (kO 9) 0), some (vI v1)]) (st' := [vI v1, vR (kO 9) 0]) (u1 := (sI u 0 0 0)) [(oL 2 0, 1), (oL 0 1, 1)] (by decide +kernel) rfl rfl ?_
    refine g_callV (k := 342) (pc2 := 15) (st := []) (CX10_isPerson v1 (sI u 0 0 0)) miX10_isPerson mvX10_isPerson rfl (by decide) lk9_342 wI_ok (by decide +kernel) rfl (Nat.le_of_ble_eq_true rfl) (by decide) rfl (fun q2 hq2 => ?_)
    refine g_zne (off := 6) (tgt := 21) (pc2 := 18) (by decide +kernel) (by decide) rfl ?_ ?_
    · exact tX10_best_21 v1 q2.2
    · refine g_seg0 (pc' := 20) (L' := [some (vR (kO 9) 0), some (vI v1)]) (st' := [vI (-2)]) (u1 := q2.2) [(oC (-2), 2)] (by decide +kernel) rfl rfl ?_
      exact g_iret (by decide +kernel) rfl
theorem CX10_best (v1 : Int32) (u : ab_S) : ab_C 1 yX10_best cX10_best 2 (some .int) 15 [vR (kO 9) 0, vI v1] u wI (fX10_best v1 u) := ab_entry (by decide +kernel) rfl (by decide) (by decide) (fun _ => Nat.le_of_ble_eq_true rfl) rfl (tX10_best v1 u)
def fX10_owes_49 (v1 : Int32) (s0 : Int32) (s1 : Int32) (u : ab_S) : Option (Int32 × ab_S) :=
  (fX10_givesOut v1 u).bind fun q1 =>
    some (((q1.2.1 0 32) - (s0 - s1)), q1.2)
theorem tX10_owes_49 (v1 : Int32) (s0 : Int32) (s1 : Int32) (u : ab_S) : ab_G 1 9 cX10_owes (some .int) 15 49 [some (vR (kO 9) 0), some (vI v1), none] [vI s1, vI s0] u wI (fX10_owes_49 v1 s0 s1 u) := by
  rw [fX10_owes_49]
  refine g_seg0 (pc' := 53) (L' := [some (vR (kO 9) 0), some (vI v1), some (vI (s0 - s1))]) (st' := [vI v1, vR (kO 9) 0]) (u1 := u) [(oP .isub, 1), (oL 3 2, 1), (oL 2 0, 1), (oL 0 1, 1)] (by decide +kernel) rfl rfl ?_
  refine g_callV (k := 395) (pc2 := 56) (st := []) (CX10_givesOut v1 u) miX10_givesOut mvX10_givesOut rfl (by decide) lk9_395 wV_ok (by decide +kernel) rfl (Nat.le_of_ble_eq_true rfl) (by decide) rfl (fun q1 hq1 => ?_)
  refine g_seg0 (pc' := 62) (L' := [some (vR (kO 9) 0), some (vI v1), some (vI (s0 - s1))]) (st' := [vI ((q1.2.1 0 32) - (s0 - s1))]) (u1 := q1.2) [(oL 2 0, 1), (oP (.getfield 388), 3), (oL 0 2, 1), (oP .isub, 1)] (by decide +kernel) rfl rfl ?_
  exact g_iret (by decide +kernel) rfl
def fX10_owes (v1 : Int32) (u : ab_S) : Option (Int32 × ab_S) :=
  (fX10_isPerson v1 (sI u 0 0 0)).bind fun q2 =>
    bif decide (q2.1 = 0) then (
      some ((-1), q2.2))
    else (
      (fX10_givesOut (-1) q2.2).bind fun q3 =>
        ab_gd [ab_ix v1 6] (
          bif decide ((q3.2.1 22 (nc v1)) < 0) then (
            fX10_owes_49 v1 (q3.2.1 0 32) 0 q3.2)
          else (
            ab_gd [ab_ix v1 6] (
              (fX10_fitBy v1 (q3.2.1 22 (nc v1)) 0 q3.2).bind fun q4 =>
                fX10_owes_49 v1 (q3.2.1 0 32) q4.1 q4.2))))
theorem tX10_owes (v1 : Int32) (u : ab_S) : ab_G 1 9 cX10_owes (some .int) 15 0 [some (vR (kO 9) 0), some (vI v1), none] [] u wI (fX10_owes v1 u) := by
  rw [fX10_owes]
  refine g_seg0 (pc' := 7) (L' := [some (vR (kO 9) 0), some (vI v1), none]) (st' := [vI v1, vR (kO 9) 0]) (u1 := (sI u 0 0 0)) [(oL 2 0, 1), (oC 0, 1), (oP (.putfield 1), 3), (oL 2 0, 1), (oL 0 1, 1)] (by decide +kernel) rfl rfl ?_
  refine g_callV (k := 342) (pc2 := 10) (st := []) (CX10_isPerson v1 (sI u 0 0 0)) miX10_isPerson mvX10_isPerson rfl (by decide) lk9_342 wI_ok (by decide +kernel) rfl (Nat.le_of_ble_eq_true rfl) (by decide) rfl (fun q2 hq2 => ?_)
  refine g_zne (off := 5) (tgt := 15) (pc2 := 13) (by decide +kernel) (by decide) rfl ?_ ?_
  · refine g_seg0 (pc' := 17) (L' := [some (vR (kO 9) 0), some (vI v1), none]) (st' := [vI (-1), vR (kO 9) 0]) (u1 := q2.2) [(oL 2 0, 1), (oC (-1), 1)] (by decide +kernel) rfl rfl ?_
    refine g_callV (k := 395) (pc2 := 20) (st := []) (CX10_givesOut (-1) q2.2) miX10_givesOut mvX10_givesOut rfl (by decide) lk9_395 wV_ok (by decide +kernel) rfl (Nat.le_of_ble_eq_true rfl) (by decide) rfl (fun q3 hq3 => ?_)
    refine g_seg (pc' := 30) (L' := [some (vR (kO 9) 0), some (vI v1), none]) (st' := [vI (q3.2.1 22 (nc v1)), vI (q3.2.1 0 32)]) (u1 := q3.2) [(oL 2 0, 1), (oP (.getfield 388), 3), (oL 2 0, 1), (oP (.getfield 132), 3), (oL 0 1, 1), (oP .iaload, 1)] (by decide +kernel) rfl rfl ?_
    refine g_zge (off := 7) (tgt := 37) (pc2 := 33) (by decide +kernel) (by decide) rfl ?_ ?_
    · refine g_seg (pc' := 46) (L' := [some (vR (kO 9) 0), some (vI v1), none]) (st' := [vI 0, vI (q3.2.1 22 (nc v1)), vI v1, vR (kO 9) 0, vI (q3.2.1 0 32)]) (u1 := q3.2) [(oL 2 0, 1), (oL 0 1, 1), (oL 2 0, 1), (oP (.getfield 132), 3), (oL 0 1, 1), (oP .iaload, 1), (oC 0, 1)] (by decide +kernel) rfl rfl ?_
      refine g_callV (k := 306) (pc2 := 49) (st := [vI (q3.2.1 0 32)]) (CX10_fitBy v1 (q3.2.1 22 (nc v1)) 0 q3.2) miX10_fitBy mvX10_fitBy rfl (by decide) lk9_306 wI_ok (by decide +kernel) rfl (Nat.le_of_ble_eq_true rfl) (by decide) rfl (fun q4 hq4 => ?_)
      exact tX10_owes_49 v1 (q3.2.1 0 32) q4.1 q4.2
    · refine g_seg0 (pc' := 34) (L' := [some (vR (kO 9) 0), some (vI v1), none]) (st' := [vI 0, vI (q3.2.1 0 32)]) (u1 := q3.2) [(oC 0, 1)] (by decide +kernel) rfl rfl ?_
      refine g_goto (off := 15) (tgt := 49) (by decide +kernel) (by decide) ?_
      exact tX10_owes_49 v1 (q3.2.1 0 32) 0 q3.2
  · refine g_seg0 (pc' := 14) (L' := [some (vR (kO 9) 0), some (vI v1), none]) (st' := [vI (-1)]) (u1 := q2.2) [(oC (-1), 1)] (by decide +kernel) rfl rfl ?_
    exact g_iret (by decide +kernel) rfl
theorem CX10_owes (v1 : Int32) (u : ab_S) : ab_C 1 yX10_owes cX10_owes 3 (some .int) 15 [vR (kO 9) 0, vI v1] u wI (fX10_owes v1 u) := ab_entry (by decide +kernel) rfl (by decide) (by decide) (fun _ => Nat.le_of_ble_eq_true rfl) rfl (tX10_owes v1 u)
def fX10_spare_17 : Nat → Int32 → Int32 → ab_S → Option (Int32 × ab_S)
  | 0, _, _, _ => none
  | n + 1, v1, v2, u =>
  (fX10_persons u).bind fun q1 =>
    bif decide (v2 < q1.1) then (
      ab_gd [ab_ix v2 6] (
        bif decide ((q1.2.1 22 (nc v2)) < 0) then (
          (fX10_spare_17 n) (v1 &&& (-1)) (v2 + 1) q1.2)
        else (
          ab_gd [ab_ix v2 6] (
            (fX10_spare_17 n) (v1 &&& (((1 : Int32) <<< ((q1.2.1 22 (nc v2)) &&& 31)) ^^^ (-1))) (v2 + 1) q1.2))))
    else (
      some (v1, q1.2))
theorem tX10_spare_17 : ∀ (n : Nat) (v1 : Int32) (v2 : Int32) (u : ab_S), ab_G 1 9 cX10_spare (some .int) 15 17 [some (vR (kO 9) 0), some (vI v1), some (vI v2)] [] u wI (fX10_spare_17 n v1 v2 u) := by
  intro n
  induction n with
  | zero => intros; exact g_none
  | succ n ih =>
    intro v1 v2 u
    rw [fX10_spare_17]
    refine g_seg0 (pc' := 19) (L' := [some (vR (kO 9) 0), some (vI v1), some (vI v2)]) (st' := [vR (kO 9) 0, vI v2]) (u1 := u) [(oL 0 2, 1), (oL 2 0, 1)] (by decide +kernel) rfl rfl ?_
    refine g_callV (k := 275) (pc2 := 22) (st := [vI v2]) (CX10_persons u) miX10_persons mvX10_persons rfl (by decide) lk9_275 wI_ok (by decide +kernel) rfl (Nat.le_of_ble_eq_true rfl) (by decide) rfl (fun q1 hq1 => ?_)
    refine g_ige (off := 35) (tgt := 57) (pc2 := 25) (by decide +kernel) (by decide) rfl ?_ ?_
    · refine g_seg0 (pc' := 58) (L' := [some (vR (kO 9) 0), some (vI v1), some (vI v2)]) (st' := [vI v1]) (u1 := q1.2) [(oL 0 1, 1)] (by decide +kernel) rfl rfl ?_
      exact g_iret (by decide +kernel) rfl
    · refine g_seg (pc' := 32) (L' := [some (vR (kO 9) 0), some (vI v1), some (vI v2)]) (st' := [vI (q1.2.1 22 (nc v2)), vI v1]) (u1 := q1.2) [(oL 0 1, 1), (oL 2 0, 1), (oP (.getfield 132), 3), (oL 0 2, 1), (oP .iaload, 1)] (by decide +kernel) rfl rfl ?_
      refine g_zge (off := 7) (tgt := 39) (pc2 := 35) (by decide +kernel) (by decide) rfl ?_ ?_
      · refine g_seg (pc' := 54) (L' := [some (vR (kO 9) 0), some (vI (v1 &&& (((1 : Int32) <<< ((q1.2.1 22 (nc v2)) &&& 31)) ^^^ (-1)))), some (vI (v2 + 1))]) (st' := []) (u1 := q1.2) [(oC 1, 1), (oL 2 0, 1), (oP (.getfield 132), 3), (oL 0 2, 1), (oP .iaload, 1), (oP .ishl, 1), (oC (-1), 1), (oP .ixor, 1), (oP .iand, 1), (oL 3 1, 1), (oN 2 1, 3)] (by decide +kernel) rfl rfl ?_
        refine g_goto (off := (-37)) (tgt := 17) (by decide +kernel) (by decide) ?_
        exact ih (v1 &&& (((1 : Int32) <<< ((q1.2.1 22 (nc v2)) &&& 31)) ^^^ (-1))) (v2 + 1) q1.2
      · refine g_seg0 (pc' := 36) (L' := [some (vR (kO 9) 0), some (vI v1), some (vI v2)]) (st' := [vI (-1), vI v1]) (u1 := q1.2) [(oC (-1), 1)] (by decide +kernel) rfl rfl ?_
        refine g_goto (off := 13) (tgt := 49) (by decide +kernel) (by decide) ?_
        refine g_seg0 (pc' := 54) (L' := [some (vR (kO 9) 0), some (vI (v1 &&& (-1))), some (vI (v2 + 1))]) (st' := []) (u1 := q1.2) [(oP .iand, 1), (oL 3 1, 1), (oN 2 1, 3)] (by decide +kernel) rfl rfl ?_
        refine g_goto (off := (-37)) (tgt := 17) (by decide +kernel) (by decide) ?_
        exact ih (v1 &&& (-1)) (v2 + 1) q1.2
def fX10_spare (u : ab_S) : Option (Int32 × ab_S) :=
  (fX10_givesOut (-1) (sI u 0 0 0)).bind fun q2 =>
    (fX10_allGoods q2.2).bind fun q3 =>
      fX10_spare_17 fu q3.1 0 q3.2
theorem tX10_spare (u : ab_S) : ab_G 1 9 cX10_spare (some .int) 15 0 [some (vR (kO 9) 0), none, none] [] u wI (fX10_spare u) := by
  rw [fX10_spare]
  refine g_seg0 (pc' := 7) (L' := [some (vR (kO 9) 0), none, none]) (st' := [vI (-1), vR (kO 9) 0]) (u1 := (sI u 0 0 0)) [(oL 2 0, 1), (oC 0, 1), (oP (.putfield 1), 3), (oL 2 0, 1), (oC (-1), 1)] (by decide +kernel) rfl rfl ?_
  refine g_callV (k := 395) (pc2 := 10) (st := []) (CX10_givesOut (-1) (sI u 0 0 0)) miX10_givesOut mvX10_givesOut rfl (by decide) lk9_395 wV_ok (by decide +kernel) rfl (Nat.le_of_ble_eq_true rfl) (by decide) rfl (fun q2 hq2 => ?_)
  refine g_seg0 (pc' := 11) (L' := [some (vR (kO 9) 0), none, none]) (st' := [vR (kO 9) 0]) (u1 := q2.2) [(oL 2 0, 1)] (by decide +kernel) rfl rfl ?_
  refine g_callV (k := 373) (pc2 := 14) (st := []) (CX10_allGoods q2.2) miX10_allGoods mvX10_allGoods rfl (by decide) lk9_373 wI_ok (by decide +kernel) rfl (Nat.le_of_ble_eq_true rfl) (by decide) rfl (fun q3 hq3 => ?_)
  refine g_seg0 (pc' := 17) (L' := [some (vR (kO 9) 0), some (vI (q3.1)), some (vI 0)]) (st' := []) (u1 := q3.2) [(oL 3 1, 1), (oC 0, 1), (oL 3 2, 1)] (by decide +kernel) rfl rfl ?_
  exact tX10_spare_17 fu q3.1 0 q3.2
theorem CX10_spare (u : ab_S) : ab_C 1 yX10_spare cX10_spare 3 (some .int) 15 [vR (kO 9) 0] u wI (fX10_spare u) := ab_entry (by decide +kernel) rfl (by decide) (by decide) (fun _ => Nat.le_of_ble_eq_true rfl) rfl (tX10_spare u)
def fX10_odds_45 : Nat → Int32 → Int32 → Int32 → Int64 → Int64 → Int32 → ab_S → Option (Int32 × ab_S)
  | 0, _, _, _, _, _, _, _ => none
  | n + 1, v1, v2, v3, v4, v6, v8, u =>
  bif decide (v8 < v2) then (
    ab_gd [ab_ix (16 + v1) 1081] (
      (fX10_odds_45 n) v1 v2 v3 (v4 * (Int32.toInt64 v3)) (v6 * (Int32.toInt64 (v3 - (u.1 16 (nc (16 + v1)))))) (v8 + 1) u))
  else (
    ab_gd [decide (¬ v4 = 0)] (
      some ((Int64.toInt32 (((v4 - v6) * 1000000) / v4)), u)))
theorem tX10_odds_45 : ∀ (n : Nat) (v1 : Int32) (v2 : Int32) (v3 : Int32) (v4 : Int64) (v6 : Int64) (v8 : Int32) (u : ab_S), ab_G 1 9 cX10_odds (some .int) 2 45 [some (vR (kO 9) 0), some (vI v1), some (vI v2), some (vI v3), some (vL v4), none, some (vL v6), none, some (vI v8)] [] u wI (fX10_odds_45 n v1 v2 v3 v4 v6 v8 u) := by
  intro n
  induction n with
  | zero => intros; exact g_none
  | succ n ih =>
    intro v1 v2 v3 v4 v6 v8 u
    rw [fX10_odds_45]
    refine g_seg0 (pc' := 48) (L' := [some (vR (kO 9) 0), some (vI v1), some (vI v2), some (vI v3), some (vL v4), none, some (vL v6), none, some (vI v8)]) (st' := [vI v2, vI v8]) (u1 := u) [(oL 0 8, 2), (oL 0 2, 1)] (by decide +kernel) rfl rfl ?_
    refine g_ige (off := 33) (tgt := 81) (pc2 := 51) (by decide +kernel) (by decide) rfl ?_ ?_
    · refine g_seg (pc' := 94) (L' := [some (vR (kO 9) 0), some (vI v1), some (vI v2), some (vI v3), some (vL v4), none, some (vL v6), none, some (vI v8)]) (st' := [vI (Int64.toInt32 (((v4 - v6) * 1000000) / v4))]) (u1 := u) [(oL 1 4, 2), (oL 1 6, 2), (oP .lsub, 1), (oD 1000000, 3), (oP .lmul, 1), (oL 1 4, 2), (oP .ldiv, 1), (oP .l2i, 1)] (by decide +kernel) rfl rfl ?_
      exact g_iret (by decide +kernel) rfl
    · refine g_seg (pc' := 78) (L' := [some (vR (kO 9) 0), some (vI v1), some (vI v2), some (vI v3), some (vL (v4 * (Int32.toInt64 v3))), none, some (vL (v6 * (Int32.toInt64 (v3 - (u.1 16 (nc (16 + v1))))))), none, some (vI (v8 + 1))]) (st' := []) (u1 := u) [(oL 1 4, 2), (oL 0 3, 1), (oP .i2l, 1), (oP .lmul, 1), (oL 4 4, 2), (oL 1 6, 2), (oL 0 3, 1), (oL 2 0, 1), (oP (.getfield 113), 3), (oC 16, 2), (oL 0 1, 1), (oP .iadd, 1), (oP .iaload, 1), (oP .isub, 1), (oP .i2l, 1), (oP .lmul, 1), (oL 4 6, 2), (oN 8 1, 3)] (by decide +kernel) rfl rfl ?_
      refine g_goto (off := (-33)) (tgt := 45) (by decide +kernel) (by decide) ?_
      exact ih v1 v2 v3 (v4 * (Int32.toInt64 v3)) (v6 * (Int32.toInt64 (v3 - (u.1 16 (nc (16 + v1)))))) (v8 + 1) u
def fX10_odds (v1 : Int32) (v2 : Int32) (u : ab_S) : Option (Int32 × ab_S) :=
  (fX10_sumOf 16 (sI u 0 0 0)).bind fun q1 =>
    (fX10_isPerson v1 q1.2).bind fun q2 =>
      bif decide (q2.1 = 0) then (
        some ((-1), q2.2))
      else (
        (fX10_within v2 1 6 q2.2).bind fun q3 =>
          bif decide (q3.1 = 0) then (
            some ((-1), q3.2))
          else (
            bif decide (q1.1 = 0) then (
              some ((-1), q3.2))
            else (
              fX10_odds_45 fu v1 v2 q1.1 1 1 0 q3.2)))
theorem tX10_odds (v1 : Int32) (v2 : Int32) (u : ab_S) : ab_G 1 9 cX10_odds (some .int) 2 0 [some (vR (kO 9) 0), some (vI v1), some (vI v2), none, none, none, none, none, none] [] u wI (fX10_odds v1 v2 u) := by
  rw [fX10_odds]
  refine g_seg0 (pc' := 8) (L' := [some (vR (kO 9) 0), some (vI v1), some (vI v2), none, none, none, none, none, none]) (st' := [vI 16, vR (kO 9) 0]) (u1 := (sI u 0 0 0)) [(oL 2 0, 1), (oC 0, 1), (oP (.putfield 1), 3), (oL 2 0, 1), (oC 16, 2)] (by decide +kernel) rfl rfl ?_
  refine g_callV (k := 330) (pc2 := 11) (st := []) (CX10_sumOf 16 (sI u 0 0 0)) miX10_sumOf mvX10_sumOf rfl (by decide) lk9_330 wI_ok (by decide +kernel) rfl (Nat.le_of_ble_eq_true rfl) (by decide) rfl (fun q1 hq1 => ?_)
  refine g_seg0 (pc' := 14) (L' := [some (vR (kO 9) 0), some (vI v1), some (vI v2), some (vI (q1.1)), none, none, none, none, none]) (st' := [vI v1, vR (kO 9) 0]) (u1 := q1.2) [(oL 3 3, 1), (oL 2 0, 1), (oL 0 1, 1)] (by decide +kernel) rfl rfl ?_
  refine g_callV (k := 342) (pc2 := 17) (st := []) (CX10_isPerson v1 q1.2) miX10_isPerson mvX10_isPerson rfl (by decide) lk9_342 wI_ok (by decide +kernel) rfl (Nat.le_of_ble_eq_true rfl) (by decide) rfl (fun q2 hq2 => ?_)
  refine g_zeq (off := 17) (tgt := 34) (pc2 := 20) (by decide +kernel) (by decide) rfl ?_ ?_
  · refine g_seg0 (pc' := 35) (L' := [some (vR (kO 9) 0), some (vI v1), some (vI v2), some (vI (q1.1)), none, none, none, none, none]) (st' := [vI (-1)]) (u1 := q2.2) [(oC (-1), 1)] (by decide +kernel) rfl rfl ?_
    exact g_iret (by decide +kernel) rfl
  · refine g_seg0 (pc' := 24) (L' := [some (vR (kO 9) 0), some (vI v1), some (vI v2), some (vI (q1.1)), none, none, none, none, none]) (st' := [vI 6, vI 1, vI v2]) (u1 := q2.2) [(oL 0 2, 1), (oC 1, 1), (oC 6, 2)] (by decide +kernel) rfl rfl ?_
    refine g_callS (k := 207) (pc2 := 27) (st := []) (CX10_within v2 1 6 q2.2) miX10_within msX10_within lk9_207 wI_ok (by decide +kernel) rfl (Nat.le_of_ble_eq_true rfl) (by decide) rfl (fun q3 hq3 => ?_)
    refine g_zeq (off := 7) (tgt := 34) (pc2 := 30) (by decide +kernel) (by decide) rfl ?_ ?_
    · refine g_seg0 (pc' := 35) (L' := [some (vR (kO 9) 0), some (vI v1), some (vI v2), some (vI (q1.1)), none, none, none, none, none]) (st' := [vI (-1)]) (u1 := q3.2) [(oC (-1), 1)] (by decide +kernel) rfl rfl ?_
      exact g_iret (by decide +kernel) rfl
    · refine g_seg0 (pc' := 31) (L' := [some (vR (kO 9) 0), some (vI v1), some (vI v2), some (vI (q1.1)), none, none, none, none, none]) (st' := [vI (q1.1)]) (u1 := q3.2) [(oL 0 3, 1)] (by decide +kernel) rfl rfl ?_
      refine g_zne (off := 5) (tgt := 36) (pc2 := 34) (by decide +kernel) (by decide) rfl ?_ ?_
      · refine g_seg0 (pc' := 45) (L' := [some (vR (kO 9) 0), some (vI v1), some (vI v2), some (vI (q1.1)), some (vL 1), none, some (vL 1), none, some (vI 0)]) (st' := []) (u1 := q3.2) [(oD 1, 1), (oL 4 4, 2), (oD 1, 1), (oL 4 6, 2), (oC 0, 1), (oL 3 8, 2)] (by decide +kernel) rfl rfl ?_
        exact tX10_odds_45 fu v1 v2 q1.1 1 1 0 q3.2
      · refine g_seg0 (pc' := 35) (L' := [some (vR (kO 9) 0), some (vI v1), some (vI v2), some (vI (q1.1)), none, none, none, none, none]) (st' := [vI (-1)]) (u1 := q3.2) [(oC (-1), 1)] (by decide +kernel) rfl rfl ?_
        exact g_iret (by decide +kernel) rfl
theorem CX10_odds (v1 : Int32) (v2 : Int32) (u : ab_S) : ab_C 1 yX10_odds cX10_odds 9 (some .int) 2 [vR (kO 9) 0, vI v1, vI v2] u wI (fX10_odds v1 v2 u) := ab_entry (by decide +kernel) rfl (by decide) (by decide) (fun _ => Nat.le_of_ble_eq_true rfl) rfl (tX10_odds v1 v2 u)
def fX10_enough_45 : Nat → Int32 → Int32 → Int32 → ab_S → Option (Int32 × ab_S)
  | 0, _, _, _, _ => none
  | n + 1, v2, v3, v4, u =>
  bif decide (v4 ≤ 99) then (
    bif decide ((100 * v4) < (v2 * (v4 + v3))) then (
      (fX10_enough_45 n) v2 v3 (v4 + 1) u)
    else (
      some (v4, u)))
  else (
    some ((-1), u))
theorem tX10_enough_45 : ∀ (n : Nat) (v2 : Int32) (v3 : Int32) (v4 : Int32) (u : ab_S), ab_G 1 9 cX10_enough (some .int) 2 45 [none, none, some (vI v2), some (vI v3), some (vI v4)] [] u wI (fX10_enough_45 n v2 v3 v4 u) := by
  intro n
  induction n with
  | zero => intros; exact g_none
  | succ n ih =>
    intro v2 v3 v4 u
    rw [fX10_enough_45]
    refine g_seg0 (pc' := 49) (L' := [none, none, some (vI v2), some (vI v3), some (vI v4)]) (st' := [vI 99, vI v4]) (u1 := u) [(oL 0 4, 2), (oC 99, 2)] (by decide +kernel) rfl rfl ?_
    refine g_igt (off := 26) (tgt := 75) (pc2 := 52) (by decide +kernel) (by decide) rfl ?_ ?_
    · refine g_seg0 (pc' := 76) (L' := [none, none, some (vI v2), some (vI v3), some (vI v4)]) (st' := [vI (-1)]) (u1 := u) [(oC (-1), 1)] (by decide +kernel) rfl rfl ?_
      exact g_iret (by decide +kernel) rfl
    · refine g_seg0 (pc' := 63) (L' := [none, none, some (vI v2), some (vI v3), some (vI v4)]) (st' := [vI (v2 * (v4 + v3)), vI (100 * v4)]) (u1 := u) [(oC 100, 2), (oL 0 4, 2), (oP .imul, 1), (oL 0 2, 1), (oL 0 4, 2), (oL 0 3, 1), (oP .iadd, 1), (oP .imul, 1)] (by decide +kernel) rfl rfl ?_
      refine g_ilt (off := 6) (tgt := 69) (pc2 := 66) (by decide +kernel) (by decide) rfl ?_ ?_
      · refine g_seg0 (pc' := 72) (L' := [none, none, some (vI v2), some (vI v3), some (vI (v4 + 1))]) (st' := []) (u1 := u) [(oN 4 1, 3)] (by decide +kernel) rfl rfl ?_
        refine g_goto (off := (-27)) (tgt := 45) (by decide +kernel) (by decide) ?_
        exact ih v2 v3 (v4 + 1) u
      · refine g_seg0 (pc' := 68) (L' := [none, none, some (vI v2), some (vI v3), some (vI v4)]) (st' := [vI v4]) (u1 := u) [(oL 0 4, 2)] (by decide +kernel) rfl rfl ?_
        exact g_iret (by decide +kernel) rfl
def fX10_enough (v1 : Int32) (v2 : Int32) (u : ab_S) : Option (Int32 × ab_S) :=
  (fX10_isPerson v1 (sI u 0 0 0)).bind fun q1 =>
    bif decide (q1.1 = 0) then (
      some ((-1), q1.2))
    else (
      (fX10_within v2 1 99 q1.2).bind fun q2 =>
        bif decide (q2.1 = 0) then (
          some ((-1), q2.2))
        else (
          (fX10_sumOf 16 q2.2).bind fun q3 =>
            ab_gd [ab_ix (16 + v1) 1081] (
              fX10_enough_45 fu v2 (q3.1 - (q3.2.1 16 (nc (16 + v1)))) 1 q3.2)))
theorem tX10_enough (v1 : Int32) (v2 : Int32) (u : ab_S) : ab_G 1 9 cX10_enough (some .int) 2 0 [some (vR (kO 9) 0), some (vI v1), some (vI v2), none, none] [] u wI (fX10_enough v1 v2 u) := by
  rw [fX10_enough]
  refine g_seg0 (pc' := 7) (L' := [some (vR (kO 9) 0), some (vI v1), some (vI v2), none, none]) (st' := [vI v1, vR (kO 9) 0]) (u1 := (sI u 0 0 0)) [(oL 2 0, 1), (oC 0, 1), (oP (.putfield 1), 3), (oL 2 0, 1), (oL 0 1, 1)] (by decide +kernel) rfl rfl ?_
  refine g_callV (k := 342) (pc2 := 10) (st := []) (CX10_isPerson v1 (sI u 0 0 0)) miX10_isPerson mvX10_isPerson rfl (by decide) lk9_342 wI_ok (by decide +kernel) rfl (Nat.le_of_ble_eq_true rfl) (by decide) rfl (fun q1 hq1 => ?_)
  refine g_zeq (off := 13) (tgt := 23) (pc2 := 13) (by decide +kernel) (by decide) rfl ?_ ?_
  · refine g_seg0 (pc' := 24) (L' := [some (vR (kO 9) 0), some (vI v1), some (vI v2), none, none]) (st' := [vI (-1)]) (u1 := q1.2) [(oC (-1), 1)] (by decide +kernel) rfl rfl ?_
    exact g_iret (by decide +kernel) rfl
  · refine g_seg0 (pc' := 17) (L' := [some (vR (kO 9) 0), some (vI v1), some (vI v2), none, none]) (st' := [vI 99, vI 1, vI v2]) (u1 := q1.2) [(oL 0 2, 1), (oC 1, 1), (oC 99, 2)] (by decide +kernel) rfl rfl ?_
    refine g_callS (k := 207) (pc2 := 20) (st := []) (CX10_within v2 1 99 q1.2) miX10_within msX10_within lk9_207 wI_ok (by decide +kernel) rfl (Nat.le_of_ble_eq_true rfl) (by decide) rfl (fun q2 hq2 => ?_)
    refine g_zne (off := 5) (tgt := 25) (pc2 := 23) (by decide +kernel) (by decide) rfl ?_ ?_
    · refine g_seg0 (pc' := 28) (L' := [some (vR (kO 9) 0), some (vI v1), some (vI v2), none, none]) (st' := [vI 16, vR (kO 9) 0]) (u1 := q2.2) [(oL 2 0, 1), (oC 16, 2)] (by decide +kernel) rfl rfl ?_
      refine g_callV (k := 330) (pc2 := 31) (st := []) (CX10_sumOf 16 q2.2) miX10_sumOf mvX10_sumOf rfl (by decide) lk9_330 wI_ok (by decide +kernel) rfl (Nat.le_of_ble_eq_true rfl) (by decide) rfl (fun q3 hq3 => ?_)
      refine g_seg (pc' := 45) (L' := [some (vR (kO 9) 0), some (vI v1), some (vI v2), some (vI (q3.1 - (q3.2.1 16 (nc (16 + v1))))), some (vI 1)]) (st' := []) (u1 := q3.2) [(oL 2 0, 1), (oP (.getfield 113), 3), (oC 16, 2), (oL 0 1, 1), (oP .iadd, 1), (oP .iaload, 1), (oP .isub, 1), (oL 3 3, 1), (oC 1, 1), (oL 3 4, 2)] (by decide +kernel) rfl rfl ?_
      exact g_jump [false, false, true, true, true] rfl (tX10_enough_45 fu v2 (q3.1 - (q3.2.1 16 (nc (16 + v1)))) 1 q3.2)
    · refine g_seg0 (pc' := 24) (L' := [some (vR (kO 9) 0), some (vI v1), some (vI v2), none, none]) (st' := [vI (-1)]) (u1 := q2.2) [(oC (-1), 1)] (by decide +kernel) rfl rfl ?_
      exact g_iret (by decide +kernel) rfl
theorem CX10_enough (v1 : Int32) (v2 : Int32) (u : ab_S) : ab_C 1 yX10_enough cX10_enough 5 (some .int) 2 [vR (kO 9) 0, vI v1, vI v2] u wI (fX10_enough v1 v2 u) := ab_entry (by decide +kernel) rfl (by decide) (by decide) (fun _ => Nat.le_of_ble_eq_true rfl) rfl (tX10_enough v1 v2 u)
def fX10_run_19 : Nat → Int32 → Int32 → Int64 → Int32 → ab_S → Option (Int32 × ab_S)
  | 0, _, _, _, _, _ => none
  | n + 1, v1, v2, v3, v5, u =>
  bif decide (v5 ≤ 99) then (
    (fX10_isPerson v1 u).bind fun q1 =>
      bif decide (q1.1 = 0) then (
        some ((-1), q1.2))
      else (
        ab_gd [ab_ix (16 + v1) 1081] (
          bif decide ((q1.2.1 16 (nc (16 + v1))) ≤ 0) then (
            some ((-1), q1.2))
          else (
            ab_gd [ab_ix (16 + v1) 1081, decide (¬ (Int32.toInt64 v2) = 0)] (
              bif decide (((v3 * (Int32.toInt64 (v2 - (q1.2.1 16 (nc (16 + v1)))))) / (Int32.toInt64 v2)) ≤ 500000) then (
                some (v5, q1.2))
              else (
                (fX10_run_19 n) v1 v2 ((v3 * (Int32.toInt64 (v2 - (q1.2.1 16 (nc (16 + v1)))))) / (Int32.toInt64 v2)) (v5 + 1) q1.2))))))
  else (
    some ((-1), u))
theorem tX10_run_19 : ∀ (n : Nat) (v1 : Int32) (v2 : Int32) (v3 : Int64) (v5 : Int32) (u : ab_S), ab_G 1 9 cX10_run (some .int) 2 19 [some (vR (kO 9) 0), some (vI v1), some (vI v2), some (vL v3), none, some (vI v5)] [] u wI (fX10_run_19 n v1 v2 v3 v5 u) := by
  intro n
  induction n with
  | zero => intros; exact g_none
  | succ n ih =>
    intro v1 v2 v3 v5 u
    rw [fX10_run_19]
    refine g_seg0 (pc' := 23) (L' := [some (vR (kO 9) 0), some (vI v1), some (vI v2), some (vL v3), none, some (vI v5)]) (st' := [vI 99, vI v5]) (u1 := u) [(oL 0 5, 2), (oC 99, 2)] (by decide +kernel) rfl rfl ?_
    refine g_igt (off := 58) (tgt := 81) (pc2 := 26) (by decide +kernel) (by decide) rfl ?_ ?_
    · refine g_seg0 (pc' := 82) (L' := [some (vR (kO 9) 0), some (vI v1), some (vI v2), some (vL v3), none, some (vI v5)]) (st' := [vI (-1)]) (u1 := u) [(oC (-1), 1)] (by decide +kernel) rfl rfl ?_
      exact g_iret (by decide +kernel) rfl
    · refine g_seg0 (pc' := 28) (L' := [some (vR (kO 9) 0), some (vI v1), some (vI v2), some (vL v3), none, some (vI v5)]) (st' := [vI v1, vR (kO 9) 0]) (u1 := u) [(oL 2 0, 1), (oL 0 1, 1)] (by decide +kernel) rfl rfl ?_
      refine g_callV (k := 342) (pc2 := 31) (st := []) (CX10_isPerson v1 u) miX10_isPerson mvX10_isPerson rfl (by decide) lk9_342 wI_ok (by decide +kernel) rfl (Nat.le_of_ble_eq_true rfl) (by decide) rfl (fun q1 hq1 => ?_)
      refine g_zeq (off := 50) (tgt := 81) (pc2 := 34) (by decide +kernel) (by decide) rfl ?_ ?_
      · refine g_seg0 (pc' := 82) (L' := [some (vR (kO 9) 0), some (vI v1), some (vI v2), some (vL v3), none, some (vI v5)]) (st' := [vI (-1)]) (u1 := q1.2) [(oC (-1), 1)] (by decide +kernel) rfl rfl ?_
        exact g_iret (by decide +kernel) rfl
      · refine g_seg (pc' := 43) (L' := [some (vR (kO 9) 0), some (vI v1), some (vI v2), some (vL v3), none, some (vI v5)]) (st' := [vI (q1.2.1 16 (nc (16 + v1)))]) (u1 := q1.2) [(oL 2 0, 1), (oP (.getfield 113), 3), (oC 16, 2), (oL 0 1, 1), (oP .iadd, 1), (oP .iaload, 1)] (by decide +kernel) rfl rfl ?_
        refine g_zle (off := 38) (tgt := 81) (pc2 := 46) (by decide +kernel) (by decide) rfl ?_ ?_
        · refine g_seg0 (pc' := 82) (L' := [some (vR (kO 9) 0), some (vI v1), some (vI v2), some (vL v3), none, some (vI v5)]) (st' := [vI (-1)]) (u1 := q1.2) [(oC (-1), 1)] (by decide +kernel) rfl rfl ?_
          exact g_iret (by decide +kernel) rfl
        · refine g_seg (pc' := 68) (L' := [some (vR (kO 9) 0), some (vI v1), some (vI v2), some (vL ((v3 * (Int32.toInt64 (v2 - (q1.2.1 16 (nc (16 + v1)))))) / (Int32.toInt64 v2))), none, some (vI v5)]) (st' := [vL 500000, vL ((v3 * (Int32.toInt64 (v2 - (q1.2.1 16 (nc (16 + v1)))))) / (Int32.toInt64 v2))]) (u1 := q1.2) [(oL 1 3, 1), (oL 0 2, 1), (oL 2 0, 1), (oP (.getfield 113), 3), (oC 16, 2), (oL 0 1, 1), (oP .iadd, 1), (oP .iaload, 1), (oP .isub, 1), (oP .i2l, 1), (oP .lmul, 1), (oL 0 2, 1), (oP .i2l, 1), (oP .ldiv, 1), (oL 4 3, 1), (oL 1 3, 1), (oD 500000, 3)] (by decide +kernel) rfl rfl ?_
          refine g_lgt (off := 6) (tgt := 75) (pc1 := 69) (pc2 := 72) (by decide +kernel) rfl (by decide +kernel) (by decide) rfl ?_ ?_
          · refine g_seg0 (pc' := 78) (L' := [some (vR (kO 9) 0), some (vI v1), some (vI v2), some (vL ((v3 * (Int32.toInt64 (v2 - (q1.2.1 16 (nc (16 + v1)))))) / (Int32.toInt64 v2))), none, some (vI (v5 + 1))]) (st' := []) (u1 := q1.2) [(oN 5 1, 3)] (by decide +kernel) rfl rfl ?_
            refine g_goto (off := (-59)) (tgt := 19) (by decide +kernel) (by decide) ?_
            exact ih v1 v2 ((v3 * (Int32.toInt64 (v2 - (q1.2.1 16 (nc (16 + v1)))))) / (Int32.toInt64 v2)) (v5 + 1) q1.2
          · refine g_seg0 (pc' := 74) (L' := [some (vR (kO 9) 0), some (vI v1), some (vI v2), some (vL ((v3 * (Int32.toInt64 (v2 - (q1.2.1 16 (nc (16 + v1)))))) / (Int32.toInt64 v2))), none, some (vI v5)]) (st' := [vI v5]) (u1 := q1.2) [(oL 0 5, 2)] (by decide +kernel) rfl rfl ?_
            exact g_iret (by decide +kernel) rfl
def fX10_run (v1 : Int32) (u : ab_S) : Option (Int32 × ab_S) :=
  (fX10_sumOf 16 (sI u 0 0 0)).bind fun q2 =>
    fX10_run_19 fu v1 q2.1 1000000 1 q2.2
theorem tX10_run (v1 : Int32) (u : ab_S) : ab_G 1 9 cX10_run (some .int) 2 0 [some (vR (kO 9) 0), some (vI v1), none, none, none, none] [] u wI (fX10_run v1 u) := by
  rw [fX10_run]
  refine g_seg0 (pc' := 8) (L' := [some (vR (kO 9) 0), some (vI v1), none, none, none, none]) (st' := [vI 16, vR (kO 9) 0]) (u1 := (sI u 0 0 0)) [(oL 2 0, 1), (oC 0, 1), (oP (.putfield 1), 3), (oL 2 0, 1), (oC 16, 2)] (by decide +kernel) rfl rfl ?_
  refine g_callV (k := 330) (pc2 := 11) (st := []) (CX10_sumOf 16 (sI u 0 0 0)) miX10_sumOf mvX10_sumOf rfl (by decide) lk9_330 wI_ok (by decide +kernel) rfl (Nat.le_of_ble_eq_true rfl) (by decide) rfl (fun q2 hq2 => ?_)
  refine g_seg0 (pc' := 19) (L' := [some (vR (kO 9) 0), some (vI v1), some (vI (q2.1)), some (vL 1000000), none, some (vI 1)]) (st' := []) (u1 := q2.2) [(oL 3 2, 1), (oD 1000000, 3), (oL 4 3, 1), (oC 1, 1), (oL 3 5, 2)] (by decide +kernel) rfl rfl ?_
  exact tX10_run_19 fu v1 q2.1 1000000 1 q2.2
theorem CX10_run (v1 : Int32) (u : ab_S) : ab_C 1 yX10_run cX10_run 6 (some .int) 2 [vR (kO 9) 0, vI v1] u wI (fX10_run v1 u) := ab_entry (by decide +kernel) rfl (by decide) (by decide) (fun _ => Nat.le_of_ble_eq_true rfl) rfl (tX10_run v1 u)
def fX10_see_86 (s1 : Int32) (s2 : Int32) (u : ab_S) : Option (Int32 × ab_S) :=
  ab_gd [ab_ix s1 1081, ab_ix 22 1081, ab_ix 22 1081] (
    ab_gd [ab_b1 1] (some (1, (sI (sI u 16 (nc s1) s2) 16 (nc 22) (((sI u 16 (nc s1) s2).1 16 (nc 22)) + 1)))))
theorem tX10_see_86 (s1 : Int32) (s2 : Int32) (u : ab_S) : ab_G 1 9 cX10_see (some .boolean) 2 86 [some (vR (kO 9) 0), none, none, none, none] [vI s2, vI s1, vR (kA 0 1081) 16] u wI (fX10_see_86 s1 s2 u) := by
  rw [fX10_see_86]
  refine g_seg (pc' := 99) (L' := [some (vR (kO 9) 0), none, none, none, none]) (st' := [vI 1]) (u1 := (sI (sI u 16 (nc s1) s2) 16 (nc 22) (((sI u 16 (nc s1) s2).1 16 (nc 22)) + 1))) [(oP .iastore, 1), (oL 2 0, 1), (oP (.getfield 113), 3), (oC 22, 2), (oP .dup2, 1), (oP .iaload, 1), (oC 1, 1), (oP .iadd, 1), (oP .iastore, 1), (oC 1, 1)] (by decide +kernel) rfl rfl ?_
  exact g_zret (by decide +kernel) rfl
def fX10_see (v1 : Int32) (v2 : Int32) (v3 : Int32) (u : ab_S) : Option (Int32 × ab_S) :=
  (fX10_isGood v1 (sI u 0 0 0)).bind fun q1 =>
    bif decide (q1.1 = 0) then (
      ab_gd [ab_b1 0] (some (0, q1.2)))
    else (
      (fX10_within v2 0 99 q1.2).bind fun q2 =>
        bif decide (q2.1 = 0) then (
          ab_gd [ab_b1 0] (some (0, q2.2)))
        else (
          ab_gd [ab_ix 22 1081] (
            bif decide ((q2.2.1 16 (nc 22)) = 8) then (
              ab_gd [ab_b1 0] (some (0, q2.2)))
            else (
              ab_gd [ab_ix 22 1081, ab_ix (23 + (3 * (q2.2.1 16 (nc 22)))) 1081, ab_ix ((23 + (3 * (q2.2.1 16 (nc 22)))) + 1) 1081] (
                bif decide (v3 = 0) then (
                  fX10_see_86 ((23 + (3 * (q2.2.1 16 (nc 22)))) + 2) 0 (sI (sI q2.2 16 (nc (23 + (3 * (q2.2.1 16 (nc 22))))) v1) 16 (nc ((23 + (3 * (q2.2.1 16 (nc 22)))) + 1)) v2))
                else (
                  fX10_see_86 ((23 + (3 * (q2.2.1 16 (nc 22)))) + 2) 1 (sI (sI q2.2 16 (nc (23 + (3 * (q2.2.1 16 (nc 22))))) v1) 16 (nc ((23 + (3 * (q2.2.1 16 (nc 22)))) + 1)) v2)))))))
theorem tX10_see (v1 : Int32) (v2 : Int32) (v3 : Int32) (u : ab_S) : ab_G 1 9 cX10_see (some .boolean) 2 0 [some (vR (kO 9) 0), some (vI v1), some (vI v2), some (vI v3), none] [] u wI (fX10_see v1 v2 v3 u) := by
  rw [fX10_see]
  refine g_seg0 (pc' := 7) (L' := [some (vR (kO 9) 0), some (vI v1), some (vI v2), some (vI v3), none]) (st' := [vI v1, vR (kO 9) 0]) (u1 := (sI u 0 0 0)) [(oL 2 0, 1), (oC 0, 1), (oP (.putfield 1), 3), (oL 2 0, 1), (oL 0 1, 1)] (by decide +kernel) rfl rfl ?_
  refine g_callV (k := 345) (pc2 := 10) (st := []) (CX10_isGood v1 (sI u 0 0 0)) miX10_isGood mvX10_isGood rfl (by decide) lk9_345 wI_ok (by decide +kernel) rfl (Nat.le_of_ble_eq_true rfl) (by decide) rfl (fun q1 hq1 => ?_)
  refine g_zeq (off := 25) (tgt := 35) (pc2 := 13) (by decide +kernel) (by decide) rfl ?_ ?_
  · refine g_seg0 (pc' := 36) (L' := [some (vR (kO 9) 0), some (vI v1), some (vI v2), some (vI v3), none]) (st' := [vI 0]) (u1 := q1.2) [(oC 0, 1)] (by decide +kernel) rfl rfl ?_
    exact g_zret (by decide +kernel) rfl
  · refine g_seg0 (pc' := 17) (L' := [some (vR (kO 9) 0), some (vI v1), some (vI v2), some (vI v3), none]) (st' := [vI 99, vI 0, vI v2]) (u1 := q1.2) [(oL 0 2, 1), (oC 0, 1), (oC 99, 2)] (by decide +kernel) rfl rfl ?_
    refine g_callS (k := 207) (pc2 := 20) (st := []) (CX10_within v2 0 99 q1.2) miX10_within msX10_within lk9_207 wI_ok (by decide +kernel) rfl (Nat.le_of_ble_eq_true rfl) (by decide) rfl (fun q2 hq2 => ?_)
    refine g_zeq (off := 15) (tgt := 35) (pc2 := 23) (by decide +kernel) (by decide) rfl ?_ ?_
    · refine g_seg0 (pc' := 36) (L' := [some (vR (kO 9) 0), some (vI v1), some (vI v2), some (vI v3), none]) (st' := [vI 0]) (u1 := q2.2) [(oC 0, 1)] (by decide +kernel) rfl rfl ?_
      exact g_zret (by decide +kernel) rfl
    · refine g_seg (pc' := 32) (L' := [some (vR (kO 9) 0), some (vI v1), some (vI v2), some (vI v3), none]) (st' := [vI 8, vI (q2.2.1 16 (nc 22))]) (u1 := q2.2) [(oL 2 0, 1), (oP (.getfield 113), 3), (oC 22, 2), (oP .iaload, 1), (oC 8, 2)] (by decide +kernel) rfl rfl ?_
      refine g_ine (off := 5) (tgt := 37) (pc2 := 35) (by decide +kernel) (by decide) rfl ?_ ?_
      · refine g_seg (pc' := 78) (L' := [some (vR (kO 9) 0), some (vI v1), some (vI v2), some (vI v3), some (vI (23 + (3 * (q2.2.1 16 (nc 22)))))]) (st' := [vI v3, vI ((23 + (3 * (q2.2.1 16 (nc 22)))) + 2), vR (kA 0 1081) 16]) (u1 := (sI (sI q2.2 16 (nc (23 + (3 * (q2.2.1 16 (nc 22))))) v1) 16 (nc ((23 + (3 * (q2.2.1 16 (nc 22)))) + 1)) v2)) [(oC 23, 2), (oC 3, 1), (oL 2 0, 1), (oP (.getfield 113), 3), (oC 22, 2), (oP .iaload, 1), (oP .imul, 1), (oP .iadd, 1), (oL 3 4, 2), (oL 2 0, 1), (oP (.getfield 113), 3), (oL 0 4, 2), (oL 0 1, 1), (oP .iastore, 1), (oL 2 0, 1), (oP (.getfield 113), 3), (oL 0 4, 2), (oC 1, 1), (oP .iadd, 1), (oL 0 2, 1), (oP .iastore, 1), (oL 2 0, 1), (oP (.getfield 113), 3), (oL 0 4, 2), (oC 2, 1), (oP .iadd, 1), (oL 0 3, 1)] (by decide +kernel) rfl rfl ?_
        refine g_zeq (off := 7) (tgt := 85) (pc2 := 81) (by decide +kernel) (by decide) rfl ?_ ?_
        · refine g_seg0 (pc' := 86) (L' := [some (vR (kO 9) 0), some (vI v1), some (vI v2), some (vI v3), some (vI (23 + (3 * (q2.2.1 16 (nc 22)))))]) (st' := [vI 0, vI ((23 + (3 * (q2.2.1 16 (nc 22)))) + 2), vR (kA 0 1081) 16]) (u1 := (sI (sI q2.2 16 (nc (23 + (3 * (q2.2.1 16 (nc 22))))) v1) 16 (nc ((23 + (3 * (q2.2.1 16 (nc 22)))) + 1)) v2)) [(oC 0, 1)] (by decide +kernel) rfl rfl ?_
          exact g_jump [true, false, false, false, false] rfl (tX10_see_86 ((23 + (3 * (q2.2.1 16 (nc 22)))) + 2) 0 (sI (sI q2.2 16 (nc (23 + (3 * (q2.2.1 16 (nc 22))))) v1) 16 (nc ((23 + (3 * (q2.2.1 16 (nc 22)))) + 1)) v2))
        · refine g_seg0 (pc' := 82) (L' := [some (vR (kO 9) 0), some (vI v1), some (vI v2), some (vI v3), some (vI (23 + (3 * (q2.2.1 16 (nc 22)))))]) (st' := [vI 1, vI ((23 + (3 * (q2.2.1 16 (nc 22)))) + 2), vR (kA 0 1081) 16]) (u1 := (sI (sI q2.2 16 (nc (23 + (3 * (q2.2.1 16 (nc 22))))) v1) 16 (nc ((23 + (3 * (q2.2.1 16 (nc 22)))) + 1)) v2)) [(oC 1, 1)] (by decide +kernel) rfl rfl ?_
          refine g_goto (off := 4) (tgt := 86) (by decide +kernel) (by decide) ?_
          exact g_jump [true, false, false, false, false] rfl (tX10_see_86 ((23 + (3 * (q2.2.1 16 (nc 22)))) + 2) 1 (sI (sI q2.2 16 (nc (23 + (3 * (q2.2.1 16 (nc 22))))) v1) 16 (nc ((23 + (3 * (q2.2.1 16 (nc 22)))) + 1)) v2))
      · refine g_seg0 (pc' := 36) (L' := [some (vR (kO 9) 0), some (vI v1), some (vI v2), some (vI v3), none]) (st' := [vI 0]) (u1 := q2.2) [(oC 0, 1)] (by decide +kernel) rfl rfl ?_
        exact g_zret (by decide +kernel) rfl
theorem CX10_see (v1 : Int32) (v2 : Int32) (v3 : Int32) (u : ab_S) : ab_C 1 yX10_see cX10_see 5 (some .boolean) 2 [vR (kO 9) 0, vI v1, vI v2, vI v3] u wI (fX10_see v1 v2 v3 u) := ab_entry (by decide +kernel) rfl (by decide) (by decide) (fun _ => Nat.le_of_ble_eq_true rfl) rfl (tX10_see v1 v2 v3 u)
