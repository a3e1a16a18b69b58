/-! methods, printed by program out of the listing: function, walk, contract -/
def fX9_envy_32 : Nat → Int32 → Int32 → Int32 → Int32 → ab_S → Option (Int32 × ab_S)
  | 0, _, _, _, _, _ => none
  | n + 1, v1, v2, v3, v4, u =>
  bif decide (v4 < (u.1 (u.2.2 0) 0)) then (
    (fX5_fitOfAll 38 (u.2.2 0) v1 v4 u).bind fun q1 =>
      bif decide (q1.1 ≤ v2) then (
        (fX9_envy_32 n) v1 v2 v3 (v4 + 1) q1.2)
      else (
        (fX9_envy_32 n) v1 v2 (v3 ||| ((1 : Int32) <<< (v4 &&& 31))) (v4 + 1) q1.2))
  else (
    some (v3, u))
theorem tX9_envy_32 : ∀ (n : Nat) (v1 : Int32) (v2 : Int32) (v3 : Int32) (v4 : Int32) (u : ab_S), ab_G 0 8 cX9_envy (some .int) 3 32 [some (vR (kO 8) 0), some (vI v1), some (vI v2), some (vI v3), some (vI v4)] [] u wI (fX9_envy_32 n v1 v2 v3 v4 u) := by
  intro n
  induction n with
  | zero => intros; exact g_none
  | succ n ih =>
    intro v1 v2 v3 v4 u
    rw [fX9_envy_32]
    refine g_seg0 (pc' := 41) (L' := [some (vR (kO 8) 0), some (vI v1), some (vI v2), some (vI v3), some (vI v4)]) (st' := [vI (u.1 (u.2.2 0) 0), vI v4]) (u1 := u) [(oL 0 4, 2), (oL 2 0, 1), (oP (.getfield 19), 3), (oP (.getfield 216), 3)] (by decide +kernel) rfl rfl ?_
    refine g_ige (off := 34) (tgt := 75) (pc2 := 44) (by decide +kernel) (by decide) rfl ?_ ?_
    · refine g_seg0 (pc' := 76) (L' := [some (vR (kO 8) 0), some (vI v1), some (vI v2), some (vI v3), some (vI v4)]) (st' := [vI v3]) (u1 := u) [(oL 0 3, 1)] (by decide +kernel) rfl rfl ?_
      exact g_iret (by decide +kernel) rfl
    · refine g_seg0 (pc' := 55) (L' := [some (vR (kO 8) 0), some (vI v1), some (vI v2), some (vI v3), some (vI v4)]) (st' := [vI v4, vI v1, vR (kO 2) (u.2.2 0), vR (kO 5) 38]) (u1 := u) [(oL 2 0, 1), (oP (.getfield 39), 3), (oL 2 0, 1), (oP (.getfield 19), 3), (oL 0 1, 1), (oL 0 4, 2)] (by decide +kernel) rfl rfl ?_
      refine g_callV (k := 223) (pc2 := 58) (st := []) (CX5_fitOfAll 38 (u.2.2 0) v1 v4 u) miX5_fitOfAll mvX5_fitOfAll rfl (by decide) lk8_223 wI_ok (by decide +kernel) rfl (Nat.le_of_ble_eq_true rfl) (by decide) rfl (fun q1 hq1 => ?_)
      refine g_seg0 (pc' := 59) (L' := [some (vR (kO 8) 0), some (vI v1), some (vI v2), some (vI v3), some (vI v4)]) (st' := [vI v2, vI (q1.1)]) (u1 := q1.2) [(oL 0 2, 1)] (by decide +kernel) rfl rfl ?_
      refine g_ile (off := 10) (tgt := 69) (pc2 := 62) (by decide +kernel) (by decide) rfl ?_ ?_
      · refine g_seg0 (pc' := 72) (L' := [some (vR (kO 8) 0), some (vI v1), some (vI v2), some (vI v3), some (vI (v4 + 1))]) (st' := []) (u1 := q1.2) [(oN 4 1, 3)] (by decide +kernel) rfl rfl ?_
        refine g_goto (off := (-40)) (tgt := 32) (by decide +kernel) (by decide) ?_
        exact ih v1 v2 v3 (v4 + 1) q1.2
      · refine g_seg0 (pc' := 72) (L' := [some (vR (kO 8) 0), some (vI v1), some (vI v2), some (vI (v3 ||| ((1 : Int32) <<< (v4 &&& 31)))), some (vI (v4 + 1))]) (st' := []) (u1 := q1.2) [(oL 0 3, 1), (oC 1, 1), (oL 0 4, 2), (oP .ishl, 1), (oP .ior, 1), (oL 3 3, 1), (oN 4 1, 3)] (by decide +kernel) rfl rfl ?_
        refine g_goto (off := (-40)) (tgt := 32) (by decide +kernel) (by decide) ?_
        exact ih v1 v2 (v3 ||| ((1 : Int32) <<< (v4 &&& 31))) (v4 + 1) q1.2
def fX9_envy (v1 : Int32) (u : ab_S) : Option (Int32 × ab_S) :=
  (fX2_hasPerson (u.2.2 0) v1 u).bind fun q2 =>
    bif decide (q2.1 = 0) then (
      some ((-1), q2.2))
    else (
      (fX5_fitOfAll 38 (q2.2.2.2 0) v1 v1 q2.2).bind fun q3 =>
        fX9_envy_32 fu v1 q3.1 0 0 q3.2)
theorem tX9_envy (v1 : Int32) (u : ab_S) : ab_G 0 8 cX9_envy (some .int) 3 0 [some (vR (kO 8) 0), some (vI v1), none, none, none] [] u wI (fX9_envy v1 u) := by
  rw [fX9_envy]
  refine g_seg0 (pc' := 5) (L' := [some (vR (kO 8) 0), some (vI v1), none, none, none]) (st' := [vI v1, vR (kO 2) (u.2.2 0)]) (u1 := u) [(oL 2 0, 1), (oP (.getfield 19), 3), (oL 0 1, 1)] (by decide +kernel) rfl rfl ?_
  refine g_callV (k := 120) (pc2 := 8) (st := []) (CX2_hasPerson (u.2.2 0) v1 u) miX2_hasPerson mvX2_hasPerson rfl (by decide) lk8_120 wI_ok (by decide +kernel) rfl (Nat.le_of_ble_eq_true rfl) (by decide) rfl (fun q2 hq2 => ?_)
  refine g_zne (off := 5) (tgt := 13) (pc2 := 11) (by decide +kernel) (by decide) rfl ?_ ?_
  · refine g_seg0 (pc' := 23) (L' := [some (vR (kO 8) 0), some (vI v1), none, none, none]) (st' := [vI v1, vI v1, vR (kO 2) (q2.2.2.2 0), vR (kO 5) 38]) (u1 := q2.2) [(oL 2 0, 1), (oP (.getfield 39), 3), (oL 2 0, 1), (oP (.getfield 19), 3), (oL 0 1, 1), (oL 0 1, 1)] (by decide +kernel) rfl rfl ?_
    refine g_callV (k := 223) (pc2 := 26) (st := []) (CX5_fitOfAll 38 (q2.2.2.2 0) v1 v1 q2.2) miX5_fitOfAll mvX5_fitOfAll rfl (by decide) lk8_223 wI_ok (by decide +kernel) rfl (Nat.le_of_ble_eq_true rfl) (by decide) rfl (fun q3 hq3 => ?_)
    refine g_seg0 (pc' := 32) (L' := [some (vR (kO 8) 0), some (vI v1), some (vI (q3.1)), some (vI 0), some (vI 0)]) (st' := []) (u1 := q3.2) [(oL 3 2, 1), (oC 0, 1), (oL 3 3, 1), (oC 0, 1), (oL 3 4, 2)] (by decide +kernel) rfl rfl ?_
    exact tX9_envy_32 fu v1 q3.1 0 0 q3.2
  · refine g_seg0 (pc' := 12) (L' := [some (vR (kO 8) 0), some (vI v1), none, none, none]) (st' := [vI (-1)]) (u1 := q2.2) [(oC (-1), 1)] (by decide +kernel) rfl rfl ?_
    exact g_iret (by decide +kernel) rfl
theorem CX9_envy (v1 : Int32) (u : ab_S) : ab_C 0 yX9_envy cX9_envy 5 (some .int) 3 [vR (kO 8) 0, vI v1] u wI (fX9_envy v1 u) := ab_entry (by decide +kernel) rfl (by decide) (by decide) (fun _ => Nat.le_of_ble_eq_true rfl) rfl (tX9_envy v1 u)
def fX9_offers_36 (k18 : Int32 → Int32 → Int32 → Int32 → ab_S → Option (Int32 × ab_S)) : Nat → Int32 → Int32 → Int32 → Int32 → Int32 → ab_S → Option (Int32 × ab_S)
  | 0, _, _, _, _, _, _ => none
  | n + 1, v1, v2, v3, v4, v5, u =>
  bif decide (v5 < (u.1 (u.2.2 0) 1)) then (
    (fX5_canTrade 38 (u.2.2 0) v4 v5 u).bind fun q1 =>
      bif decide (q1.1 = 0) then (
        (fX9_offers_36 k18 n) v1 v2 v3 v4 (v5 + 1) q1.2)
      else (
        bif decide (v2 = 0) then (
          (fX9_offers_36 k18 n) v1 (v2 + 1) ((8 * v4) + v5) v4 (v5 + 1) q1.2)
        else (
          (fX9_offers_36 k18 n) v1 (v2 + 1) v3 v4 (v5 + 1) q1.2)))
  else (
    k18 v1 v2 v3 (v4 + 1) u)
theorem tX9_offers_36 (k18 : Int32 → Int32 → Int32 → Int32 → ab_S → Option (Int32 × ab_S)) (hk18 : ∀ (v1 : Int32) (v2 : Int32) (v3 : Int32) (v4 : Int32) (u : ab_S), ab_G 0 8 cX9_offers (some .int) 4 18 [some (vR (kO 8) 0), some (vI v1), some (vI v2), some (vI v3), some (vI v4), none] [] u wI (k18 v1 v2 v3 v4 u)) : ∀ (n : Nat) (v1 : Int32) (v2 : Int32) (v3 : Int32) (v4 : Int32) (v5 : Int32) (u : ab_S), ab_G 0 8 cX9_offers (some .int) 4 36 [some (vR (kO 8) 0), some (vI v1), some (vI v2), some (vI v3), some (vI v4), some (vI v5)] [] u wI (fX9_offers_36 k18 n v1 v2 v3 v4 v5 u) := by
  intro n
  induction n with
  | zero => intros; exact g_none
  | succ n ih =>
    intro v1 v2 v3 v4 v5 u
    rw [fX9_offers_36]
    refine g_seg0 (pc' := 45) (L' := [some (vR (kO 8) 0), some (vI v1), some (vI v2), some (vI v3), some (vI v4), some (vI v5)]) (st' := [vI (u.1 (u.2.2 0) 1), vI v5]) (u1 := u) [(oL 0 5, 2), (oL 2 0, 1), (oP (.getfield 19), 3), (oP (.getfield 213), 3)] (by decide +kernel) rfl rfl ?_
    refine g_ige (off := 47) (tgt := 92) (pc2 := 48) (by decide +kernel) (by decide) rfl ?_ ?_
    · refine g_seg0 (pc' := 95) (L' := [some (vR (kO 8) 0), some (vI v1), some (vI v2), some (vI v3), some (vI (v4 + 1)), some (vI v5)]) (st' := []) (u1 := u) [(oN 4 1, 3)] (by decide +kernel) rfl rfl ?_
      refine g_goto (off := (-77)) (tgt := 18) (by decide +kernel) (by decide) ?_
      exact g_jump [true, true, true, true, true, false] rfl (hk18 v1 v2 v3 (v4 + 1) u)
    · refine g_seg0 (pc' := 60) (L' := [some (vR (kO 8) 0), some (vI v1), some (vI v2), some (vI v3), some (vI v4), some (vI v5)]) (st' := [vI v5, vI v4, vR (kO 2) (u.2.2 0), vR (kO 5) 38]) (u1 := u) [(oL 2 0, 1), (oP (.getfield 39), 3), (oL 2 0, 1), (oP (.getfield 19), 3), (oL 0 4, 2), (oL 0 5, 2)] (by decide +kernel) rfl rfl ?_
      refine g_callV (k := 163) (pc2 := 63) (st := []) (CX5_canTrade 38 (u.2.2 0) v4 v5 u) miX5_canTrade mvX5_canTrade rfl (by decide) lk8_163 wI_ok (by decide +kernel) rfl (Nat.le_of_ble_eq_true rfl) (by decide) rfl (fun q1 hq1 => ?_)
      refine g_zeq (off := 23) (tgt := 86) (pc2 := 66) (by decide +kernel) (by decide) rfl ?_ ?_
      · refine g_seg0 (pc' := 89) (L' := [some (vR (kO 8) 0), some (vI v1), some (vI v2), some (vI v3), some (vI v4), some (vI (v5 + 1))]) (st' := []) (u1 := q1.2) [(oN 5 1, 3)] (by decide +kernel) rfl rfl ?_
        refine g_goto (off := (-53)) (tgt := 36) (by decide +kernel) (by decide) ?_
        exact ih v1 v2 v3 v4 (v5 + 1) q1.2
      · refine g_seg0 (pc' := 67) (L' := [some (vR (kO 8) 0), some (vI v1), some (vI v2), some (vI v3), some (vI v4), some (vI v5)]) (st' := [vI v2]) (u1 := q1.2) [(oL 0 2, 1)] (by decide +kernel) rfl rfl ?_
        refine g_zne (off := 14) (tgt := 81) (pc2 := 70) (by decide +kernel) (by decide) rfl ?_ ?_
        · refine g_seg0 (pc' := 89) (L' := [some (vR (kO 8) 0), some (vI v1), some (vI (v2 + 1)), some (vI v3), some (vI v4), some (vI (v5 + 1))]) (st' := []) (u1 := q1.2) [(oL 0 3, 1), (oL 3 3, 1), (oN 2 1, 3), (oN 5 1, 3)] (by decide +kernel) rfl rfl ?_
          refine g_goto (off := (-53)) (tgt := 36) (by decide +kernel) (by decide) ?_
          exact ih v1 (v2 + 1) v3 v4 (v5 + 1) q1.2
        · refine g_seg0 (pc' := 78) (L' := [some (vR (kO 8) 0), some (vI v1), some (vI v2), some (vI v3), some (vI v4), some (vI v5)]) (st' := [vI ((8 * v4) + v5)]) (u1 := q1.2) [(oC 8, 2), (oL 0 4, 2), (oP .imul, 1), (oL 0 5, 2), (oP .iadd, 1)] (by decide +kernel) rfl rfl ?_
          refine g_goto (off := 4) (tgt := 82) (by decide +kernel) (by decide) ?_
          refine g_seg0 (pc' := 89) (L' := [some (vR (kO 8) 0), some (vI v1), some (vI (v2 + 1)), some (vI ((8 * v4) + v5)), some (vI v4), some (vI (v5 + 1))]) (st' := []) (u1 := q1.2) [(oL 3 3, 1), (oN 2 1, 3), (oN 5 1, 3)] (by decide +kernel) rfl rfl ?_
          refine g_goto (off := (-53)) (tgt := 36) (by decide +kernel) (by decide) ?_
          exact ih v1 (v2 + 1) ((8 * v4) + v5) v4 (v5 + 1) q1.2
def fX9_offers_18 : Nat → Int32 → Int32 → Int32 → Int32 → ab_S → Option (Int32 × ab_S)
  | 0, _, _, _, _, _ => none
  | n + 1, v1, v2, v3, v4, u =>
  bif decide (v4 < (u.1 (u.2.2 0) 1)) then (
    fX9_offers_36 (fX9_offers_18 n) fu v1 v2 v3 v4 (v4 + 1) u)
  else (
    bif decide (v1 = 0) then (
      some (v2, u))
    else (
      some (v3, u)))
theorem tX9_offers_18 : ∀ (n : Nat) (v1 : Int32) (v2 : Int32) (v3 : Int32) (v4 : Int32) (u : ab_S), ab_G 0 8 cX9_offers (some .int) 4 18 [some (vR (kO 8) 0), some (vI v1), some (vI v2), some (vI v3), some (vI v4), none] [] u wI (fX9_offers_18 n v1 v2 v3 v4 u) := by
  intro n
  induction n with
  | zero => intros; exact g_none
  | succ n ih =>
    intro v1 v2 v3 v4 u
    rw [fX9_offers_18]
    refine g_seg0 (pc' := 27) (L' := [some (vR (kO 8) 0), some (vI v1), some (vI v2), some (vI v3), some (vI v4), none]) (st' := [vI (u.1 (u.2.2 0) 1), vI v4]) (u1 := u) [(oL 0 4, 2), (oL 2 0, 1), (oP (.getfield 19), 3), (oP (.getfield 213), 3)] (by decide +kernel) rfl rfl ?_
    refine g_ige (off := 71) (tgt := 98) (pc2 := 30) (by decide +kernel) (by decide) rfl ?_ ?_
    · refine g_seg0 (pc' := 99) (L' := [some (vR (kO 8) 0), some (vI v1), some (vI v2), some (vI v3), some (vI v4), none]) (st' := [vI v1]) (u1 := u) [(oL 0 1, 1)] (by decide +kernel) rfl rfl ?_
      refine g_zne (off := 7) (tgt := 106) (pc2 := 102) (by decide +kernel) (by decide) rfl ?_ ?_
      · refine g_seg0 (pc' := 107) (L' := [some (vR (kO 8) 0), some (vI v1), some (vI v2), some (vI v3), some (vI v4), none]) (st' := [vI v3]) (u1 := u) [(oL 0 3, 1)] (by decide +kernel) rfl rfl ?_
        exact g_iret (by decide +kernel) rfl
      · refine g_seg0 (pc' := 103) (L' := [some (vR (kO 8) 0), some (vI v1), some (vI v2), some (vI v3), some (vI v4), none]) (st' := [vI v2]) (u1 := u) [(oL 0 2, 1)] (by decide +kernel) rfl rfl ?_
        refine g_goto (off := 4) (tgt := 107) (by decide +kernel) (by decide) ?_
        exact g_iret (by decide +kernel) rfl
    · refine g_seg0 (pc' := 36) (L' := [some (vR (kO 8) 0), some (vI v1), some (vI v2), some (vI v3), some (vI v4), some (vI (v4 + 1))]) (st' := []) (u1 := u) [(oL 0 4, 2), (oC 1, 1), (oP .iadd, 1), (oL 3 5, 2)] (by decide +kernel) rfl rfl ?_
      exact tX9_offers_36 (fX9_offers_18 n) ih fu v1 v2 v3 v4 (v4 + 1) u
def fX9_offers_11 (v1 : Int32) (u : ab_S) : Option (Int32 × ab_S) :=
  fX9_offers_18 fu v1 0 (-1) 0 u
theorem tX9_offers_11 (v1 : Int32) (u : ab_S) : ab_G 0 8 cX9_offers (some .int) 4 11 [some (vR (kO 8) 0), some (vI v1), none, none, none, none] [] u wI (fX9_offers_11 v1 u) := by
  rw [fX9_offers_11]
  refine g_seg0 (pc' := 18) (L' := [some (vR (kO 8) 0), some (vI v1), some (vI 0), some (vI (-1)), some (vI 0), none]) (st' := []) (u1 := u) [(oC 0, 1), (oL 3 2, 1), (oC (-1), 1), (oL 3 3, 1), (oC 0, 1), (oL 3 4, 2)] (by decide +kernel) rfl rfl ?_
  exact tX9_offers_18 fu v1 0 (-1) 0 u
def fX9_offers (v1 : Int32) (u : ab_S) : Option (Int32 × ab_S) :=
  bif decide (v1 = 0) then (
    fX9_offers_11 v1 u)
  else (
    bif decide (v1 = 1) then (
      fX9_offers_11 v1 u)
    else (
      some ((-1), u)))
theorem tX9_offers (v1 : Int32) (u : ab_S) : ab_G 0 8 cX9_offers (some .int) 4 0 [some (vR (kO 8) 0), some (vI v1), none, none, none, none] [] u wI (fX9_offers v1 u) := by
  rw [fX9_offers]
  refine g_seg0 (pc' := 1) (L' := [some (vR (kO 8) 0), some (vI v1), none, none, none, none]) (st' := [vI v1]) (u1 := u) [(oL 0 1, 1)] (by decide +kernel) rfl rfl ?_
  refine g_zeq (off := 10) (tgt := 11) (pc2 := 4) (by decide +kernel) (by decide) rfl ?_ ?_
  · exact tX9_offers_11 v1 u
  · refine g_seg0 (pc' := 6) (L' := [some (vR (kO 8) 0), some (vI v1), none, none, none, none]) (st' := [vI 1, vI v1]) (u1 := u) [(oL 0 1, 1), (oC 1, 1)] (by decide +kernel) rfl rfl ?_
    refine g_ieq (off := 5) (tgt := 11) (pc2 := 9) (by decide +kernel) (by decide) rfl ?_ ?_
    · exact tX9_offers_11 v1 u
    · refine g_seg0 (pc' := 10) (L' := [some (vR (kO 8) 0), some (vI v1), none, none, none, none]) (st' := [vI (-1)]) (u1 := u) [(oC (-1), 1)] (by decide +kernel) rfl rfl ?_
      exact g_iret (by decide +kernel) rfl
theorem CX9_offers (v1 : Int32) (u : ab_S) : ab_C 0 yX9_offers cX9_offers 6 (some .int) 4 [vR (kO 8) 0, vI v1] u wI (fX9_offers v1 u) := ab_entry (by decide +kernel) rfl (by decide) (by decide) (fun _ => Nat.le_of_ble_eq_true rfl) rfl (tX9_offers v1 u)
def fX9_want_20 : Nat → Int32 → Int32 → Int32 → Int32 → ab_S → Option (Int32 × ab_S)
  | 0, _, _, _, _, _ => none
  | n + 1, v1, v2, v3, v4, u =>
  bif decide (v4 < (u.1 (u.2.2 0) 1)) then (
    (fX5_fitOf 38 (u.2.2 0) v1 v4 u).bind fun q1 =>
      bif decide (q1.1 ≤ v3) then (
        (fX9_want_20 n) v1 v2 v3 (v4 + 1) q1.2)
      else (
        (fX9_want_20 n) v1 v4 q1.1 (v4 + 1) q1.2))
  else (
    some (v2, u))
theorem tX9_want_20 : ∀ (n : Nat) (v1 : Int32) (v2 : Int32) (v3 : Int32) (v4 : Int32) (u : ab_S), ab_G 0 8 cX9_want (some .int) 3 20 [some (vR (kO 8) 0), some (vI v1), some (vI v2), some (vI v3), some (vI v4), none] [] u wI (fX9_want_20 n v1 v2 v3 v4 u) := by
  intro n
  induction n with
  | zero => intros; exact g_none
  | succ n ih =>
    intro v1 v2 v3 v4 u
    rw [fX9_want_20]
    refine g_seg0 (pc' := 29) (L' := [some (vR (kO 8) 0), some (vI v1), some (vI v2), some (vI v3), some (vI v4), none]) (st' := [vI (u.1 (u.2.2 0) 1), vI v4]) (u1 := u) [(oL 0 4, 2), (oL 2 0, 1), (oP (.getfield 19), 3), (oP (.getfield 213), 3)] (by decide +kernel) rfl rfl ?_
    refine g_ige (off := 37) (tgt := 66) (pc2 := 32) (by decide +kernel) (by decide) rfl ?_ ?_
    · refine g_seg0 (pc' := 67) (L' := [some (vR (kO 8) 0), some (vI v1), some (vI v2), some (vI v3), some (vI v4), none]) (st' := [vI v2]) (u1 := u) [(oL 0 2, 1)] (by decide +kernel) rfl rfl ?_
      exact g_iret (by decide +kernel) rfl
    · refine g_seg0 (pc' := 43) (L' := [some (vR (kO 8) 0), some (vI v1), some (vI v2), some (vI v3), some (vI v4), none]) (st' := [vI v4, vI v1, vR (kO 2) (u.2.2 0), vR (kO 5) 38]) (u1 := u) [(oL 2 0, 1), (oP (.getfield 39), 3), (oL 2 0, 1), (oP (.getfield 19), 3), (oL 0 1, 1), (oL 0 4, 2)] (by decide +kernel) rfl rfl ?_
      refine g_callV (k := 149) (pc2 := 46) (st := []) (CX5_fitOf 38 (u.2.2 0) v1 v4 u) miX5_fitOf mvX5_fitOf rfl (by decide) lk8_149 wI_ok (by decide +kernel) rfl (Nat.le_of_ble_eq_true rfl) (by decide) rfl (fun q1 hq1 => ?_)
      refine g_seg0 (pc' := 51) (L' := [some (vR (kO 8) 0), some (vI v1), some (vI v2), some (vI v3), some (vI v4), some (vI (q1.1))]) (st' := [vI v3, vI (q1.1)]) (u1 := q1.2) [(oL 3 5, 2), (oL 0 5, 2), (oL 0 3, 1)] (by decide +kernel) rfl rfl ?_
      refine g_ile (off := 9) (tgt := 60) (pc2 := 54) (by decide +kernel) (by decide) rfl ?_ ?_
      · refine g_seg0 (pc' := 63) (L' := [some (vR (kO 8) 0), some (vI v1), some (vI v2), some (vI v3), some (vI (v4 + 1)), some (vI (q1.1))]) (st' := []) (u1 := q1.2) [(oN 4 1, 3)] (by decide +kernel) rfl rfl ?_
        refine g_goto (off := (-43)) (tgt := 20) (by decide +kernel) (by decide) ?_
        exact g_jump [true, true, true, true, true, false] rfl (ih v1 v2 v3 (v4 + 1) q1.2)
      · refine g_seg0 (pc' := 63) (L' := [some (vR (kO 8) 0), some (vI v1), some (vI v4), some (vI (q1.1)), some (vI (v4 + 1)), some (vI (q1.1))]) (st' := []) (u1 := q1.2) [(oL 0 4, 2), (oL 3 2, 1), (oL 0 5, 2), (oL 3 3, 1), (oN 4 1, 3)] (by decide +kernel) rfl rfl ?_
        refine g_goto (off := (-43)) (tgt := 20) (by decide +kernel) (by decide) ?_
        exact g_jump [true, true, true, true, true, false] rfl (ih v1 v4 q1.1 (v4 + 1) q1.2)
def fX9_want (v1 : Int32) (u : ab_S) : Option (Int32 × ab_S) :=
  (fX2_hasPerson (u.2.2 0) v1 u).bind fun q2 =>
    bif decide (q2.1 = 0) then (
      some ((-1), q2.2))
    else (
      fX9_want_20 fu v1 (-1) (-1) 0 q2.2)
theorem tX9_want (v1 : Int32) (u : ab_S) : ab_G 0 8 cX9_want (some .int) 3 0 [some (vR (kO 8) 0), some (vI v1), none, none, none, none] [] u wI (fX9_want v1 u) := by
  rw [fX9_want]
  refine g_seg0 (pc' := 5) (L' := [some (vR (kO 8) 0), some (vI v1), none, none, none, none]) (st' := [vI v1, vR (kO 2) (u.2.2 0)]) (u1 := u) [(oL 2 0, 1), (oP (.getfield 19), 3), (oL 0 1, 1)] (by decide +kernel) rfl rfl ?_
  refine g_callV (k := 120) (pc2 := 8) (st := []) (CX2_hasPerson (u.2.2 0) v1 u) miX2_hasPerson mvX2_hasPerson rfl (by decide) lk8_120 wI_ok (by decide +kernel) rfl (Nat.le_of_ble_eq_true rfl) (by decide) rfl (fun q2 hq2 => ?_)
  refine g_zne (off := 5) (tgt := 13) (pc2 := 11) (by decide +kernel) (by decide) rfl ?_ ?_
  · refine g_seg0 (pc' := 20) (L' := [some (vR (kO 8) 0), some (vI v1), some (vI (-1)), some (vI (-1)), some (vI 0), none]) (st' := []) (u1 := q2.2) [(oC (-1), 1), (oL 3 2, 1), (oC (-1), 1), (oL 3 3, 1), (oC 0, 1), (oL 3 4, 2)] (by decide +kernel) rfl rfl ?_
    exact tX9_want_20 fu v1 (-1) (-1) 0 q2.2
  · refine g_seg0 (pc' := 12) (L' := [some (vR (kO 8) 0), some (vI v1), none, none, none, none]) (st' := [vI (-1)]) (u1 := q2.2) [(oC (-1), 1)] (by decide +kernel) rfl rfl ?_
    exact g_iret (by decide +kernel) rfl
theorem CX9_want (v1 : Int32) (u : ab_S) : ab_C 0 yX9_want cX9_want 6 (some .int) 3 [vR (kO 8) 0, vI v1] u wI (fX9_want v1 u) := ab_entry (by decide +kernel) rfl (by decide) (by decide) (fun _ => Nat.le_of_ble_eq_true rfl) rfl (tX9_want v1 u)
def fX9_isFan_17 : Nat → Int32 → Int32 → Int32 → ab_S → Option (Int32 × ab_S)
  | 0, _, _, _, _ => none
  | n + 1, v1, v3, v4, u =>
  bif decide (v4 < (u.1 (u.2.2 0) 1)) then (
    (fX5_fitOf 38 (u.2.2 0) v1 v4 u).bind fun q1 =>
      bif decide (q1.1 ≤ v3) then (
        (fX9_isFan_17 n) v1 v3 (v4 + 1) q1.2)
      else (
        ab_gd [ab_b1 0] (some (0, q1.2))))
  else (
    ab_gd [ab_b1 1] (some (1, u)))
theorem tX9_isFan_17 : ∀ (n : Nat) (v1 : Int32) (v3 : Int32) (v4 : Int32) (u : ab_S), ab_G 0 8 cX9_isFan (some .boolean) 3 17 [some (vR (kO 8) 0), some (vI v1), none, some (vI v3), some (vI v4)] [] u wI (fX9_isFan_17 n v1 v3 v4 u) := by
  intro n
  induction n with
  | zero => intros; exact g_none
  | succ n ih =>
    intro v1 v3 v4 u
    rw [fX9_isFan_17]
    refine g_seg0 (pc' := 26) (L' := [some (vR (kO 8) 0), some (vI v1), none, some (vI v3), some (vI v4)]) (st' := [vI (u.1 (u.2.2 0) 1), vI v4]) (u1 := u) [(oL 0 4, 2), (oL 2 0, 1), (oP (.getfield 19), 3), (oP (.getfield 213), 3)] (by decide +kernel) rfl rfl ?_
    refine g_ige (off := 29) (tgt := 55) (pc2 := 29) (by decide +kernel) (by decide) rfl ?_ ?_
    · refine g_seg0 (pc' := 56) (L' := [some (vR (kO 8) 0), some (vI v1), none, some (vI v3), some (vI v4)]) (st' := [vI 1]) (u1 := u) [(oC 1, 1)] (by decide +kernel) rfl rfl ?_
      exact g_zret (by decide +kernel) rfl
    · refine g_seg0 (pc' := 40) (L' := [some (vR (kO 8) 0), some (vI v1), none, some (vI v3), some (vI v4)]) (st' := [vI v4, vI v1, vR (kO 2) (u.2.2 0), vR (kO 5) 38]) (u1 := u) [(oL 2 0, 1), (oP (.getfield 39), 3), (oL 2 0, 1), (oP (.getfield 19), 3), (oL 0 1, 1), (oL 0 4, 2)] (by decide +kernel) rfl rfl ?_
      refine g_callV (k := 149) (pc2 := 43) (st := []) (CX5_fitOf 38 (u.2.2 0) v1 v4 u) miX5_fitOf mvX5_fitOf rfl (by decide) lk8_149 wI_ok (by decide +kernel) rfl (Nat.le_of_ble_eq_true rfl) (by decide) rfl (fun q1 hq1 => ?_)
      refine g_seg0 (pc' := 44) (L' := [some (vR (kO 8) 0), some (vI v1), none, some (vI v3), some (vI v4)]) (st' := [vI v3, vI (q1.1)]) (u1 := q1.2) [(oL 0 3, 1)] (by decide +kernel) rfl rfl ?_
      refine g_ile (off := 5) (tgt := 49) (pc2 := 47) (by decide +kernel) (by decide) rfl ?_ ?_
      · refine g_seg0 (pc' := 52) (L' := [some (vR (kO 8) 0), some (vI v1), none, some (vI v3), some (vI (v4 + 1))]) (st' := []) (u1 := q1.2) [(oN 4 1, 3)] (by decide +kernel) rfl rfl ?_
        refine g_goto (off := (-35)) (tgt := 17) (by decide +kernel) (by decide) ?_
        exact ih v1 v3 (v4 + 1) q1.2
      · refine g_seg0 (pc' := 48) (L' := [some (vR (kO 8) 0), some (vI v1), none, some (vI v3), some (vI v4)]) (st' := [vI 0]) (u1 := q1.2) [(oC 0, 1)] (by decide +kernel) rfl rfl ?_
        exact g_zret (by decide +kernel) rfl
def fX9_isFan (v1 : Int32) (v2 : Int32) (u : ab_S) : Option (Int32 × ab_S) :=
  (fX5_fitOf 38 (u.2.2 0) v1 v2 u).bind fun q2 =>
    fX9_isFan_17 fu v1 q2.1 0 q2.2
theorem tX9_isFan (v1 : Int32) (v2 : Int32) (u : ab_S) : ab_G 0 8 cX9_isFan (some .boolean) 3 0 [some (vR (kO 8) 0), some (vI v1), some (vI v2), none, none] [] u wI (fX9_isFan v1 v2 u) := by
  rw [fX9_isFan]
  refine g_seg0 (pc' := 10) (L' := [some (vR (kO 8) 0), some (vI v1), some (vI v2), none, none]) (st' := [vI v2, vI v1, vR (kO 2) (u.2.2 0), vR (kO 5) 38]) (u1 := u) [(oL 2 0, 1), (oP (.getfield 39), 3), (oL 2 0, 1), (oP (.getfield 19), 3), (oL 0 1, 1), (oL 0 2, 1)] (by decide +kernel) rfl rfl ?_
  refine g_callV (k := 149) (pc2 := 13) (st := []) (CX5_fitOf 38 (u.2.2 0) v1 v2 u) miX5_fitOf mvX5_fitOf rfl (by decide) lk8_149 wI_ok (by decide +kernel) rfl (Nat.le_of_ble_eq_true rfl) (by decide) rfl (fun q2 hq2 => ?_)
  refine g_seg0 (pc' := 17) (L' := [some (vR (kO 8) 0), some (vI v1), some (vI v2), some (vI (q2.1)), some (vI 0)]) (st' := []) (u1 := q2.2) [(oL 3 3, 1), (oC 0, 1), (oL 3 4, 2)] (by decide +kernel) rfl rfl ?_
  exact g_jump [true, true, false, true, true] rfl (tX9_isFan_17 fu v1 q2.1 0 q2.2)
theorem CX9_isFan (v1 : Int32) (v2 : Int32) (u : ab_S) : ab_C 0 yX9_isFan cX9_isFan 5 (some .boolean) 3 [vR (kO 8) 0, vI v1, vI v2] u wI (fX9_isFan v1 v2 u) := ab_entry (by decide +kernel) rfl (by decide) (by decide) (fun _ => Nat.le_of_ble_eq_true rfl) rfl (tX9_isFan v1 v2 u)
def fX9_fanBits_4 : Nat → Int32 → Int32 → Int32 → ab_S → Option (Int32 × ab_S)
  | 0, _, _, _, _ => none
  | n + 1, v1, v2, v3, u =>
  bif decide (v3 < (u.1 (u.2.2 0) 0)) then (
    (fX9_isFan v3 v1 u).bind fun q1 =>
      bif decide (q1.1 = 0) then (
        (fX9_fanBits_4 n) v1 v2 (v3 + 1) q1.2)
      else (
        (fX9_fanBits_4 n) v1 (v2 ||| ((1 : Int32) <<< (v3 &&& 31))) (v3 + 1) q1.2))
  else (
    some (v2, u))
theorem tX9_fanBits_4 : ∀ (n : Nat) (v1 : Int32) (v2 : Int32) (v3 : Int32) (u : ab_S), ab_G 0 8 cX9_fanBits (some .int) 4 4 [some (vR (kO 8) 0), some (vI v1), some (vI v2), some (vI v3)] [] u wI (fX9_fanBits_4 n v1 v2 v3 u) := by
  intro n
  induction n with
  | zero => intros; exact g_none
  | succ n ih =>
    intro v1 v2 v3 u
    rw [fX9_fanBits_4]
    refine g_seg0 (pc' := 12) (L' := [some (vR (kO 8) 0), some (vI v1), some (vI v2), some (vI v3)]) (st' := [vI (u.1 (u.2.2 0) 0), vI v3]) (u1 := u) [(oL 0 3, 1), (oL 2 0, 1), (oP (.getfield 19), 3), (oP (.getfield 216), 3)] (by decide +kernel) rfl rfl ?_
    refine g_ige (off := 24) (tgt := 36) (pc2 := 15) (by decide +kernel) (by decide) rfl ?_ ?_
    · refine g_seg0 (pc' := 37) (L' := [some (vR (kO 8) 0), some (vI v1), some (vI v2), some (vI v3)]) (st' := [vI v2]) (u1 := u) [(oL 0 2, 1)] (by decide +kernel) rfl rfl ?_
      exact g_iret (by decide +kernel) rfl
    · refine g_seg0 (pc' := 18) (L' := [some (vR (kO 8) 0), some (vI v1), some (vI v2), some (vI v3)]) (st' := [vI v1, vI v3, vR (kO 8) 0]) (u1 := u) [(oL 2 0, 1), (oL 0 3, 1), (oL 0 1, 1)] (by decide +kernel) rfl rfl ?_
      refine g_callV (k := 229) (pc2 := 21) (st := []) (CX9_isFan v3 v1 u) miX9_isFan mvX9_isFan rfl (by decide) lk8_229 wI_ok (by decide +kernel) rfl (Nat.le_of_ble_eq_true rfl) (by decide) rfl (fun q1 hq1 => ?_)
      refine g_zeq (off := 9) (tgt := 30) (pc2 := 24) (by decide +kernel) (by decide) rfl ?_ ?_
      · refine g_seg0 (pc' := 33) (L' := [some (vR (kO 8) 0), some (vI v1), some (vI v2), some (vI (v3 + 1))]) (st' := []) (u1 := q1.2) [(oN 3 1, 3)] (by decide +kernel) rfl rfl ?_
        refine g_goto (off := (-29)) (tgt := 4) (by decide +kernel) (by decide) ?_
        exact ih v1 v2 (v3 + 1) q1.2
      · refine g_seg0 (pc' := 33) (L' := [some (vR (kO 8) 0), some (vI v1), some (vI (v2 ||| ((1 : Int32) <<< (v3 &&& 31)))), some (vI (v3 + 1))]) (st' := []) (u1 := q1.2) [(oL 0 2, 1), (oC 1, 1), (oL 0 3, 1), (oP .ishl, 1), (oP .ior, 1), (oL 3 2, 1), (oN 3 1, 3)] (by decide +kernel) rfl rfl ?_
        refine g_goto (off := (-29)) (tgt := 4) (by decide +kernel) (by decide) ?_
        exact ih v1 (v2 ||| ((1 : Int32) <<< (v3 &&& 31))) (v3 + 1) q1.2
def fX9_fanBits (v1 : Int32) (u : ab_S) : Option (Int32 × ab_S) :=
  fX9_fanBits_4 fu v1 0 0 u
theorem tX9_fanBits (v1 : Int32) (u : ab_S) : ab_G 0 8 cX9_fanBits (some .int) 4 0 [some (vR (kO 8) 0), some (vI v1), none, none] [] u wI (fX9_fanBits v1 u) := by
  rw [fX9_fanBits]
  refine g_seg0 (pc' := 4) (L' := [some (vR (kO 8) 0), some (vI v1), some (vI 0), some (vI 0)]) (st' := []) (u1 := u) [(oC 0, 1), (oL 3 2, 1), (oC 0, 1), (oL 3 3, 1)] (by decide +kernel) rfl rfl ?_
  exact tX9_fanBits_4 fu v1 0 0 u
theorem CX9_fanBits (v1 : Int32) (u : ab_S) : ab_C 0 yX9_fanBits cX9_fanBits 4 (some .int) 4 [vR (kO 8) 0, vI v1] u wI (fX9_fanBits v1 u) := ab_entry (by decide +kernel) rfl (by decide) (by decide) (fun _ => Nat.le_of_ble_eq_true rfl) rfl (tX9_fanBits v1 u)
def fX9_fans (v1 : Int32) (u : ab_S) : Option (Int32 × ab_S) :=
  (fX2_hasGood (u.2.2 0) v1 u).bind fun q1 =>
    bif decide (q1.1 = 0) then (
      some ((-1), q1.2))
    else (
      (fX9_fanBits v1 q1.2).bind fun q2 =>
        some (q2.1, q2.2))
theorem tX9_fans (v1 : Int32) (u : ab_S) : ab_G 0 8 cX9_fans (some .int) 5 0 [some (vR (kO 8) 0), some (vI v1)] [] u wI (fX9_fans v1 u) := by
  rw [fX9_fans]
  refine g_seg0 (pc' := 5) (L' := [some (vR (kO 8) 0), some (vI v1)]) (st' := [vI v1, vR (kO 2) (u.2.2 0)]) (u1 := u) [(oL 2 0, 1), (oP (.getfield 19), 3), (oL 0 1, 1)] (by decide +kernel) rfl rfl ?_
  refine g_callV (k := 137) (pc2 := 8) (st := []) (CX2_hasGood (u.2.2 0) v1 u) miX2_hasGood mvX2_hasGood rfl (by decide) lk8_137 wI_ok (by decide +kernel) rfl (Nat.le_of_ble_eq_true rfl) (by decide) rfl (fun q1 hq1 => ?_)
  refine g_zeq (off := 11) (tgt := 19) (pc2 := 11) (by decide +kernel) (by decide) rfl ?_ ?_
  · refine g_seg0 (pc' := 20) (L' := [some (vR (kO 8) 0), some (vI v1)]) (st' := [vI (-1)]) (u1 := q1.2) [(oC (-1), 1)] (by decide +kernel) rfl rfl ?_
    exact g_iret (by decide +kernel) rfl
  · refine g_seg0 (pc' := 13) (L' := [some (vR (kO 8) 0), some (vI v1)]) (st' := [vI v1, vR (kO 8) 0]) (u1 := q1.2) [(oL 2 0, 1), (oL 0 1, 1)] (by decide +kernel) rfl rfl ?_
    refine g_callV (k := 226) (pc2 := 16) (st := []) (CX9_fanBits v1 q1.2) miX9_fanBits mvX9_fanBits rfl (by decide) lk8_226 wI_ok (by decide +kernel) rfl (Nat.le_of_ble_eq_true rfl) (by decide) rfl (fun q2 hq2 => ?_)
    refine g_goto (off := 4) (tgt := 20) (by decide +kernel) (by decide) ?_
    exact g_iret (by decide +kernel) rfl
theorem CX9_fans (v1 : Int32) (u : ab_S) : ab_C 0 yX9_fans cX9_fans 2 (some .int) 5 [vR (kO 8) 0, vI v1] u wI (fX9_fans v1 u) := ab_entry (by decide +kernel) rfl (by decide) (by decide) (fun _ => Nat.le_of_ble_eq_true rfl) rfl (tX9_fans v1 u)
def fX9_dull_4 : Nat → Int32 → Int32 → ab_S → Option (Int32 × ab_S)
  | 0, _, _, _ => none
  | n + 1, v1, v2, u =>
  bif decide (v2 < (u.1 (u.2.2 0) 1)) then (
    (fX9_fanBits v2 u).bind fun q1 =>
      bif decide (q1.1 = 0) then (
        (fX9_dull_4 n) (v1 ||| ((1 : Int32) <<< (v2 &&& 31))) (v2 + 1) q1.2)
      else (
        (fX9_dull_4 n) v1 (v2 + 1) q1.2))
  else (
    some (v1, u))
theorem tX9_dull_4 : ∀ (n : Nat) (v1 : Int32) (v2 : Int32) (u : ab_S), ab_G 0 8 cX9_dull (some .int) 5 4 [some (vR (kO 8) 0), some (vI v1), some (vI v2)] [] u wI (fX9_dull_4 n v1 v2 u) := by
  intro n
  induction n with
  | zero => intros; exact g_none
  | succ n ih =>
    intro v1 v2 u
    rw [fX9_dull_4]
    refine g_seg0 (pc' := 12) (L' := [some (vR (kO 8) 0), some (vI v1), some (vI v2)]) (st' := [vI (u.1 (u.2.2 0) 1), vI v2]) (u1 := u) [(oL 0 2, 1), (oL 2 0, 1), (oP (.getfield 19), 3), (oP (.getfield 213), 3)] (by decide +kernel) rfl rfl ?_
    refine g_ige (off := 23) (tgt := 35) (pc2 := 15) (by decide +kernel) (by decide) rfl ?_ ?_
    · refine g_seg0 (pc' := 36) (L' := [some (vR (kO 8) 0), some (vI v1), some (vI v2)]) (st' := [vI v1]) (u1 := u) [(oL 0 1, 1)] (by decide +kernel) rfl rfl ?_
      exact g_iret (by decide +kernel) rfl
    · refine g_seg0 (pc' := 17) (L' := [some (vR (kO 8) 0), some (vI v1), some (vI v2)]) (st' := [vI v2, vR (kO 8) 0]) (u1 := u) [(oL 2 0, 1), (oL 0 2, 1)] (by decide +kernel) rfl rfl ?_
      refine g_callV (k := 226) (pc2 := 20) (st := []) (CX9_fanBits v2 u) miX9_fanBits mvX9_fanBits rfl (by decide) lk8_226 wI_ok (by decide +kernel) rfl (Nat.le_of_ble_eq_true rfl) (by decide) rfl (fun q1 hq1 => ?_)
      refine g_zne (off := 9) (tgt := 29) (pc2 := 23) (by decide +kernel) (by decide) rfl ?_ ?_
      · refine g_seg0 (pc' := 32) (L' := [some (vR (kO 8) 0), some (vI v1), some (vI (v2 + 1))]) (st' := []) (u1 := q1.2) [(oN 2 1, 3)] (by decide +kernel) rfl rfl ?_
        refine g_goto (off := (-28)) (tgt := 4) (by decide +kernel) (by decide) ?_
        exact ih v1 (v2 + 1) q1.2
      · refine g_seg0 (pc' := 32) (L' := [some (vR (kO 8) 0), some (vI (v1 ||| ((1 : Int32) <<< (v2 &&& 31)))), some (vI (v2 + 1))]) (st' := []) (u1 := q1.2) [(oL 0 1, 1), (oC 1, 1), (oL 0 2, 1), (oP .ishl, 1), (oP .ior, 1), (oL 3 1, 1), (oN 2 1, 3)] (by decide +kernel) rfl rfl ?_
        refine g_goto (off := (-28)) (tgt := 4) (by decide +kernel) (by decide) ?_
        exact ih (v1 ||| ((1 : Int32) <<< (v2 &&& 31))) (v2 + 1) q1.2
def fX9_dull (u : ab_S) : Option (Int32 × ab_S) :=
  fX9_dull_4 fu 0 0 u
theorem tX9_dull (u : ab_S) : ab_G 0 8 cX9_dull (some .int) 5 0 [some (vR (kO 8) 0), none, none] [] u wI (fX9_dull u) := by
  rw [fX9_dull]
  refine g_seg0 (pc' := 4) (L' := [some (vR (kO 8) 0), some (vI 0), some (vI 0)]) (st' := []) (u1 := u) [(oC 0, 1), (oL 3 1, 1), (oC 0, 1), (oL 3 2, 1)] (by decide +kernel) rfl rfl ?_
  exact tX9_dull_4 fu 0 0 u
theorem CX9_dull (u : ab_S) : ab_C 0 yX9_dull cX9_dull 3 (some .int) 5 [vR (kO 8) 0] u wI (fX9_dull u) := ab_entry (by decide +kernel) rfl (by decide) (by decide) (fun _ => Nat.le_of_ble_eq_true rfl) rfl (tX9_dull u)
def fX3_comesRound_4 : Nat → Int32 → Int32 → Int32 → ab_S → Option (Int32 × ab_S)
  | 0, _, _, _, _ => none
  | n + 1, v1, v2, v3, u =>
  bif decide (v3 < 6) then (
    (fX9_at 6 152 v2 u).bind fun q1 =>
      bif decide (q1.1 = v1) then (
        ab_gd [ab_b1 1] (some (1, q1.2)))
      else (
        (fX3_comesRound_4 n) v1 q1.1 (v3 + 1) q1.2))
  else (
    ab_gd [ab_b1 0] (some (0, u)))
theorem tX3_comesRound_4 : ∀ (n : Nat) (v1 : Int32) (v2 : Int32) (v3 : Int32) (u : ab_S), ab_G 0 3 cX3_comesRound (some .boolean) 1 4 [some (vR (kO 3) 150), some (vI v1), some (vI v2), some (vI v3)] [] u wI (fX3_comesRound_4 n v1 v2 v3 u) := by
  intro n
  induction n with
  | zero => intros; exact g_none
  | succ n ih =>
    intro v1 v2 v3 u
    rw [fX3_comesRound_4]
    refine g_seg0 (pc' := 7) (L' := [some (vR (kO 3) 150), some (vI v1), some (vI v2), some (vI v3)]) (st' := [vI 6, vI v3]) (u1 := u) [(oL 0 3, 1), (oC 6, 2)] (by decide +kernel) rfl rfl ?_
    refine g_ige (off := 25) (tgt := 32) (pc2 := 10) (by decide +kernel) (by decide) rfl ?_ ?_
    · refine g_seg0 (pc' := 33) (L' := [some (vR (kO 3) 150), some (vI v1), some (vI v2), some (vI v3)]) (st' := [vI 0]) (u1 := u) [(oC 0, 1)] (by decide +kernel) rfl rfl ?_
      exact g_zret (by decide +kernel) rfl
    · refine g_seg0 (pc' := 15) (L' := [some (vR (kO 3) 150), some (vI v1), some (vI v2), some (vI v3)]) (st' := [vI v2, vR (kA 0 6) 152]) (u1 := u) [(oL 2 0, 1), (oP (.getfield 15), 3), (oL 0 2, 1)] (by decide +kernel) rfl rfl ?_
      refine g_callS (k := 60) (pc2 := 18) (st := []) (CX9_at 6 152 v2 u) miX9_at msX9_at lk3_60 wI_ok (by decide +kernel) rfl (Nat.le_of_ble_eq_true rfl) (by decide) rfl (fun q1 hq1 => ?_)
      refine g_seg0 (pc' := 21) (L' := [some (vR (kO 3) 150), some (vI v1), some (vI (q1.1)), some (vI v3)]) (st' := [vI v1, vI (q1.1)]) (u1 := q1.2) [(oL 3 2, 1), (oL 0 2, 1), (oL 0 1, 1)] (by decide +kernel) rfl rfl ?_
      refine g_ine (off := 5) (tgt := 26) (pc2 := 24) (by decide +kernel) (by decide) rfl ?_ ?_
      · refine g_seg0 (pc' := 29) (L' := [some (vR (kO 3) 150), some (vI v1), some (vI (q1.1)), some (vI (v3 + 1))]) (st' := []) (u1 := q1.2) [(oN 3 1, 3)] (by decide +kernel) rfl rfl ?_
        refine g_goto (off := (-25)) (tgt := 4) (by decide +kernel) (by decide) ?_
        exact ih v1 q1.1 (v3 + 1) q1.2
      · refine g_seg0 (pc' := 25) (L' := [some (vR (kO 3) 150), some (vI v1), some (vI (q1.1)), some (vI v3)]) (st' := [vI 1]) (u1 := q1.2) [(oC 1, 1)] (by decide +kernel) rfl rfl ?_
        exact g_zret (by decide +kernel) rfl
def fX3_comesRound (v1 : Int32) (u : ab_S) : Option (Int32 × ab_S) :=
  fX3_comesRound_4 fu v1 v1 0 u
theorem tX3_comesRound (v1 : Int32) (u : ab_S) : ab_G 0 3 cX3_comesRound (some .boolean) 1 0 [some (vR (kO 3) 150), some (vI v1), none, none] [] u wI (fX3_comesRound v1 u) := by
  rw [fX3_comesRound]
  refine g_seg0 (pc' := 4) (L' := [some (vR (kO 3) 150), some (vI v1), some (vI v1), some (vI 0)]) (st' := []) (u1 := u) [(oL 0 1, 1), (oL 3 2, 1), (oC 0, 1), (oL 3 3, 1)] (by decide +kernel) rfl rfl ?_
  exact tX3_comesRound_4 fu v1 v1 0 u
theorem CX3_comesRound (v1 : Int32) (u : ab_S) : ab_C 0 yX3_comesRound cX3_comesRound 4 (some .boolean) 1 [vR (kO 3) 150, vI v1] u wI (fX3_comesRound v1 u) := ab_entry (by decide +kernel) rfl (by decide) (by decide) (fun _ => Nat.le_of_ble_eq_true rfl) rfl (tX3_comesRound v1 u)
def fX3_handOut_5 (o1 : Nat) : Nat → Int32 → Int32 → Int32 → ab_S → Option (Int32 × ab_S)
  | 0, _, _, _, _ => none
  | n + 1, v2, v3, v4, u =>
  bif decide (v4 < (u.1 o1 0)) then (
    bif decide (((v2 >>> (v4 &&& 31)) &&& 1) = 1) then (
      (fX3_comesRound v4 u).bind fun q1 =>
        bif decide (q1.1 = 0) then (
          (fX3_handOut_5 o1 n) v2 v3 (v4 + 1) q1.2)
        else (
          (fX9_at 6 152 v4 q1.2).bind fun q2 =>
            (fX9_at 6 151 q2.1 q2.2).bind fun q3 =>
              (fX9_put 6 153 v4 q3.1 q3.2).bind fun q4 =>
                (fX3_handOut_5 o1 n) v2 (v3 ||| ((1 : Int32) <<< (v4 &&& 31))) (v4 + 1) q4.2))
    else (
      (fX3_handOut_5 o1 n) v2 v3 (v4 + 1) u))
  else (
    some (v3, u))
theorem tX3_handOut_5 (o1 : Nat) : ∀ (n : Nat) (v2 : Int32) (v3 : Int32) (v4 : Int32) (u : ab_S), ab_G 0 3 cX3_handOut (some .int) 2 5 [some (vR (kO 3) 150), some (vR (kO 2) o1), some (vI v2), some (vI v3), some (vI v4)] [] u wI (fX3_handOut_5 o1 n v2 v3 v4 u) := by
  intro n
  induction n with
  | zero => intros; exact g_none
  | succ n ih =>
    intro v2 v3 v4 u
    rw [fX3_handOut_5]
    refine g_seg0 (pc' := 11) (L' := [some (vR (kO 3) 150), some (vR (kO 2) o1), some (vI v2), some (vI v3), some (vI v4)]) (st' := [vI (u.1 o1 0), vI v4]) (u1 := u) [(oL 0 4, 2), (oL 2 1, 1), (oP (.getfield 29), 3)] (by decide +kernel) rfl rfl ?_
    refine g_ige (off := 60) (tgt := 71) (pc2 := 14) (by decide +kernel) (by decide) rfl ?_ ?_
    · refine g_seg0 (pc' := 72) (L' := [some (vR (kO 3) 150), some (vR (kO 2) o1), some (vI v2), some (vI v3), some (vI v4)]) (st' := [vI v3]) (u1 := u) [(oL 0 3, 1)] (by decide +kernel) rfl rfl ?_
      exact g_iret (by decide +kernel) rfl
    · refine g_seg0 (pc' := 21) (L' := [some (vR (kO 3) 150), some (vR (kO 2) o1), some (vI v2), some (vI v3), some (vI v4)]) (st' := [vI 1, vI ((v2 >>> (v4 &&& 31)) &&& 1)]) (u1 := u) [(oL 0 2, 1), (oL 0 4, 2), (oP .ishr, 1), (oC 1, 1), (oP .iand, 1), (oC 1, 1)] (by decide +kernel) rfl rfl ?_
      refine g_ine (off := 44) (tgt := 65) (pc2 := 24) (by decide +kernel) (by decide) rfl ?_ ?_
      · refine g_seg0 (pc' := 68) (L' := [some (vR (kO 3) 150), some (vR (kO 2) o1), some (vI v2), some (vI v3), some (vI (v4 + 1))]) (st' := []) (u1 := u) [(oN 4 1, 3)] (by decide +kernel) rfl rfl ?_
        refine g_goto (off := (-63)) (tgt := 5) (by decide +kernel) (by decide) ?_
        exact ih v2 v3 (v4 + 1) u
      · refine g_seg0 (pc' := 27) (L' := [some (vR (kO 3) 150), some (vR (kO 2) o1), some (vI v2), some (vI v3), some (vI v4)]) (st' := [vI v4, vR (kO 3) 150]) (u1 := u) [(oL 2 0, 1), (oL 0 4, 2)] (by decide +kernel) rfl rfl ?_
        refine g_callV (k := 68) (pc2 := 30) (st := []) (CX3_comesRound v4 u) miX3_comesRound mvX3_comesRound rfl (by decide) lk3_68 wI_ok (by decide +kernel) rfl (Nat.le_of_ble_eq_true rfl) (by decide) rfl (fun q1 hq1 => ?_)
        refine g_zeq (off := 35) (tgt := 65) (pc2 := 33) (by decide +kernel) (by decide) rfl ?_ ?_
        · refine g_seg0 (pc' := 68) (L' := [some (vR (kO 3) 150), some (vR (kO 2) o1), some (vI v2), some (vI v3), some (vI (v4 + 1))]) (st' := []) (u1 := q1.2) [(oN 4 1, 3)] (by decide +kernel) rfl rfl ?_
          refine g_goto (off := (-63)) (tgt := 5) (by decide +kernel) (by decide) ?_
          exact ih v2 v3 (v4 + 1) q1.2
        · refine g_seg0 (pc' := 49) (L' := [some (vR (kO 3) 150), some (vR (kO 2) o1), some (vI v2), some (vI v3), some (vI v4)]) (st' := [vI v4, vR (kA 0 6) 152, vR (kA 0 6) 151, vI v4, vR (kA 0 6) 153]) (u1 := q1.2) [(oL 2 0, 1), (oP (.getfield 18), 3), (oL 0 4, 2), (oL 2 0, 1), (oP (.getfield 9), 3), (oL 2 0, 1), (oP (.getfield 15), 3), (oL 0 4, 2)] (by decide +kernel) rfl rfl ?_
          refine g_callS (k := 60) (pc2 := 52) (st := [vR (kA 0 6) 151, vI v4, vR (kA 0 6) 153]) (CX9_at 6 152 v4 q1.2) miX9_at msX9_at lk3_60 wI_ok (by decide +kernel) rfl (Nat.le_of_ble_eq_true rfl) (by decide) rfl (fun q2 hq2 => ?_)
          refine g_callS (k := 60) (pc2 := 55) (st := [vI v4, vR (kA 0 6) 153]) (CX9_at 6 151 q2.1 q2.2) miX9_at msX9_at lk3_60 wI_ok (by decide +kernel) rfl (Nat.le_of_ble_eq_true rfl) (by decide) rfl (fun q3 hq3 => ?_)
          refine g_callS (k := 38) (pc2 := 58) (st := []) (CX9_put 6 153 v4 q3.1 q3.2) miX9_put msX9_put lk3_38 wV_ok (by decide +kernel) rfl (Nat.le_of_ble_eq_true rfl) (by decide) rfl (fun q4 hq4 => ?_)
          refine g_seg0 (pc' := 68) (L' := [some (vR (kO 3) 150), some (vR (kO 2) o1), some (vI v2), some (vI (v3 ||| ((1 : Int32) <<< (v4 &&& 31)))), some (vI (v4 + 1))]) (st' := []) (u1 := q4.2) [(oL 0 3, 1), (oC 1, 1), (oL 0 4, 2), (oP .ishl, 1), (oP .ior, 1), (oL 3 3, 1), (oN 4 1, 3)] (by decide +kernel) rfl rfl ?_
          refine g_goto (off := (-63)) (tgt := 5) (by decide +kernel) (by decide) ?_
          exact ih v2 (v3 ||| ((1 : Int32) <<< (v4 &&& 31))) (v4 + 1) q4.2
def fX3_handOut (o1 : Nat) (v2 : Int32) (u : ab_S) : Option (Int32 × ab_S) :=
  fX3_handOut_5 o1 fu v2 0 0 u
theorem tX3_handOut (o1 : Nat) (v2 : Int32) (u : ab_S) : ab_G 0 3 cX3_handOut (some .int) 2 0 [some (vR (kO 3) 150), some (vR (kO 2) o1), some (vI v2), none, none] [] u wI (fX3_handOut o1 v2 u) := by
  rw [fX3_handOut]
  refine g_seg0 (pc' := 5) (L' := [some (vR (kO 3) 150), some (vR (kO 2) o1), some (vI v2), some (vI 0), some (vI 0)]) (st' := []) (u1 := u) [(oC 0, 1), (oL 3 3, 1), (oC 0, 1), (oL 3 4, 2)] (by decide +kernel) rfl rfl ?_
  exact tX3_handOut_5 o1 fu v2 0 0 u
theorem CX3_handOut (o1 : Nat) (v2 : Int32) (u : ab_S) : ab_C 0 yX3_handOut cX3_handOut 5 (some .int) 2 [vR (kO 3) 150, vR (kO 2) o1, vI v2] u wI (fX3_handOut o1 v2 u) := ab_entry (by decide +kernel) rfl (by decide) (by decide) (fun _ => Nat.le_of_ble_eq_true rfl) rfl (tX3_handOut o1 v2 u)
def fX5_firstOf_2 (o0 : Nat) : Nat → Int32 → Int32 → ab_S → Option (Int32 × ab_S)
  | 0, _, _, _ => none
  | n + 1, v1, v2, u =>
  bif decide (v2 < 8) then (
    ab_gd [ab_ix v2 8] (
      bif decide ((u.1 (o0 + 1) (nc v2)) = v1) then (
        some (v2, u))
      else (
        (fX5_firstOf_2 o0 n) v1 (v2 + 1) u)))
  else (
    some ((-1), u))
theorem tX5_firstOf_2 (o0 : Nat) : ∀ (n : Nat) (v1 : Int32) (v2 : Int32) (u : ab_S), ab_G 0 5 cX5_firstOf (some .int) 0 2 [some (vR (kO 5) o0), some (vI v1), some (vI v2)] [] u wI (fX5_firstOf_2 o0 n v1 v2 u) := by
  intro n
  induction n with
  | zero => intros; exact g_none
  | succ n ih =>
    intro v1 v2 u
    rw [fX5_firstOf_2]
    refine g_seg0 (pc' := 8) (L' := [some (vR (kO 5) o0), some (vI v1), some (vI v2)]) (st' := [vI 8, vI v2]) (u1 := u) [(oL 0 2, 1), (oL 2 0, 1), (oP (.getfield 9), 3), (oP .arraylength, 1)] (by decide +kernel) rfl rfl ?_
    refine g_ige (off := 21) (tgt := 29) (pc2 := 11) (by decide +kernel) (by decide) rfl ?_ ?_
    · refine g_seg0 (pc' := 30) (L' := [some (vR (kO 5) o0), some (vI v1), some (vI v2)]) (st' := [vI (-1)]) (u1 := u) [(oC (-1), 1)] (by decide +kernel) rfl rfl ?_
      exact g_iret (by decide +kernel) rfl
    · refine g_seg (pc' := 18) (L' := [some (vR (kO 5) o0), some (vI v1), some (vI v2)]) (st' := [vI v1, vI (u.1 (o0 + 1) (nc v2))]) (u1 := u) [(oL 2 0, 1), (oP (.getfield 9), 3), (oL 0 2, 1), (oP .iaload, 1), (oL 0 1, 1)] (by decide +kernel) rfl rfl ?_
      refine g_ine (off := 5) (tgt := 23) (pc2 := 21) (by decide +kernel) (by decide) rfl ?_ ?_
      · refine g_seg0 (pc' := 26) (L' := [some (vR (kO 5) o0), some (vI v1), some (vI (v2 + 1))]) (st' := []) (u1 := u) [(oN 2 1, 3)] (by decide +kernel) rfl rfl ?_
        refine g_goto (off := (-24)) (tgt := 2) (by decide +kernel) (by decide) ?_
        exact ih v1 (v2 + 1) u
      · refine g_seg0 (pc' := 22) (L' := [some (vR (kO 5) o0), some (vI v1), some (vI v2)]) (st' := [vI v2]) (u1 := u) [(oL 0 2, 1)] (by decide +kernel) rfl rfl ?_
        exact g_iret (by decide +kernel) rfl
def fX5_firstOf (o0 : Nat) (v1 : Int32) (u : ab_S) : Option (Int32 × ab_S) :=
  fX5_firstOf_2 o0 fu v1 0 u
theorem tX5_firstOf (o0 : Nat) (v1 : Int32) (u : ab_S) : ab_G 0 5 cX5_firstOf (some .int) 0 0 [some (vR (kO 5) o0), some (vI v1), none] [] u wI (fX5_firstOf o0 v1 u) := by
  rw [fX5_firstOf]
  refine g_seg0 (pc' := 2) (L' := [some (vR (kO 5) o0), some (vI v1), some (vI 0)]) (st' := []) (u1 := u) [(oC 0, 1), (oL 3 2, 1)] (by decide +kernel) rfl rfl ?_
  exact tX5_firstOf_2 o0 fu v1 0 u
theorem CX5_firstOf (o0 : Nat) (v1 : Int32) (u : ab_S) : ab_C 0 yX5_firstOf cX5_firstOf 3 (some .int) 0 [vR (kO 5) o0, vI v1] u wI (fX5_firstOf o0 v1 u) := ab_entry (by decide +kernel) rfl (by decide) (by decide) (fun _ => Nat.le_of_ble_eq_true rfl) rfl (tX5_firstOf o0 v1 u)
def fX3_putIn_5 (o1 : Nat) (o2 : Nat) : Nat → Int32 → Int32 → ab_S → Option (Int32 × ab_S)
  | 0, _, _, _ => none
  | n + 1, v3, v4, u =>
  bif decide (v4 < (u.1 o1 0)) then (
    (fX5_firstOf o2 v4 u).bind fun q1 =>
      (fX9_put 6 151 v4 q1.1 q1.2).bind fun q2 =>
        (fX9_put 6 153 v4 (-1) q2.2).bind fun q3 =>
          bif decide (q1.1 = (-1)) then (
            (fX3_putIn_5 o1 o2 n) v3 (v4 + 1) q3.2)
          else (
            (fX3_putIn_5 o1 o2 n) (v3 ||| ((1 : Int32) <<< (v4 &&& 31))) (v4 + 1) q3.2))
  else (
    some (v3, u))
theorem tX3_putIn_5 (o1 : Nat) (o2 : Nat) : ∀ (n : Nat) (v3 : Int32) (v4 : Int32) (u : ab_S), ab_G 0 3 cX3_putIn (some .int) 1 5 [some (vR (kO 3) 150), some (vR (kO 2) o1), some (vR (kO 5) o2), some (vI v3), some (vI v4), none] [] u wI (fX3_putIn_5 o1 o2 n v3 v4 u) := by
  intro n
  induction n with
  | zero => intros; exact g_none
  | succ n ih =>
    intro v3 v4 u
    rw [fX3_putIn_5]
    refine g_seg0 (pc' := 11) (L' := [some (vR (kO 3) 150), some (vR (kO 2) o1), some (vR (kO 5) o2), some (vI v3), some (vI v4), none]) (st' := [vI (u.1 o1 0), vI v4]) (u1 := u) [(oL 0 4, 2), (oL 2 1, 1), (oP (.getfield 29), 3)] (by decide +kernel) rfl rfl ?_
    refine g_ige (off := 51) (tgt := 62) (pc2 := 14) (by decide +kernel) (by decide) rfl ?_ ?_
    · refine g_seg0 (pc' := 63) (L' := [some (vR (kO 3) 150), some (vR (kO 2) o1), some (vR (kO 5) o2), some (vI v3), some (vI v4), none]) (st' := [vI v3]) (u1 := u) [(oL 0 3, 1)] (by decide +kernel) rfl rfl ?_
      exact g_iret (by decide +kernel) rfl
    · refine g_seg0 (pc' := 17) (L' := [some (vR (kO 3) 150), some (vR (kO 2) o1), some (vR (kO 5) o2), some (vI v3), some (vI v4), none]) (st' := [vI v4, vR (kO 5) o2]) (u1 := u) [(oL 2 2, 1), (oL 0 4, 2)] (by decide +kernel) rfl rfl ?_
      refine g_callV (k := 46) (pc2 := 20) (st := []) (CX5_firstOf o2 v4 u) miX5_firstOf mvX5_firstOf rfl (by decide) lk3_46 wI_ok (by decide +kernel) rfl (Nat.le_of_ble_eq_true rfl) (by decide) rfl (fun q1 hq1 => ?_)
      refine g_seg0 (pc' := 30) (L' := [some (vR (kO 3) 150), some (vR (kO 2) o1), some (vR (kO 5) o2), some (vI v3), some (vI v4), some (vI (q1.1))]) (st' := [vI (q1.1), vI v4, vR (kA 0 6) 151]) (u1 := q1.2) [(oL 3 5, 2), (oL 2 0, 1), (oP (.getfield 9), 3), (oL 0 4, 2), (oL 0 5, 2)] (by decide +kernel) rfl rfl ?_
      refine g_callS (k := 38) (pc2 := 33) (st := []) (CX9_put 6 151 v4 q1.1 q1.2) miX9_put msX9_put lk3_38 wV_ok (by decide +kernel) rfl (Nat.le_of_ble_eq_true rfl) (by decide) rfl (fun q2 hq2 => ?_)
      refine g_seg0 (pc' := 40) (L' := [some (vR (kO 3) 150), some (vR (kO 2) o1), some (vR (kO 5) o2), some (vI v3), some (vI v4), some (vI (q1.1))]) (st' := [vI (-1), vI v4, vR (kA 0 6) 153]) (u1 := q2.2) [(oL 2 0, 1), (oP (.getfield 18), 3), (oL 0 4, 2), (oC (-1), 1)] (by decide +kernel) rfl rfl ?_
      refine g_callS (k := 38) (pc2 := 43) (st := []) (CX9_put 6 153 v4 (-1) q2.2) miX9_put msX9_put lk3_38 wV_ok (by decide +kernel) rfl (Nat.le_of_ble_eq_true rfl) (by decide) rfl (fun q3 hq3 => ?_)
      refine g_seg0 (pc' := 46) (L' := [some (vR (kO 3) 150), some (vR (kO 2) o1), some (vR (kO 5) o2), some (vI v3), some (vI v4), some (vI (q1.1))]) (st' := [vI (-1), vI (q1.1)]) (u1 := q3.2) [(oL 0 5, 2), (oC (-1), 1)] (by decide +kernel) rfl rfl ?_
      refine g_ieq (off := 10) (tgt := 56) (pc2 := 49) (by decide +kernel) (by decide) rfl ?_ ?_
      · refine g_seg0 (pc' := 59) (L' := [some (vR (kO 3) 150), some (vR (kO 2) o1), some (vR (kO 5) o2), some (vI v3), some (vI (v4 + 1)), some (vI (q1.1))]) (st' := []) (u1 := q3.2) [(oN 4 1, 3)] (by decide +kernel) rfl rfl ?_
        refine g_goto (off := (-54)) (tgt := 5) (by decide +kernel) (by decide) ?_
        exact g_jump [true, true, true, true, true, false] rfl (ih v3 (v4 + 1) q3.2)
      · refine g_seg0 (pc' := 59) (L' := [some (vR (kO 3) 150), some (vR (kO 2) o1), some (vR (kO 5) o2), some (vI (v3 ||| ((1 : Int32) <<< (v4 &&& 31)))), some (vI (v4 + 1)), some (vI (q1.1))]) (st' := []) (u1 := q3.2) [(oL 0 3, 1), (oC 1, 1), (oL 0 4, 2), (oP .ishl, 1), (oP .ior, 1), (oL 3 3, 1), (oN 4 1, 3)] (by decide +kernel) rfl rfl ?_
        refine g_goto (off := (-54)) (tgt := 5) (by decide +kernel) (by decide) ?_
        exact g_jump [true, true, true, true, true, false] rfl (ih (v3 ||| ((1 : Int32) <<< (v4 &&& 31))) (v4 + 1) q3.2)
def fX3_putIn (o1 : Nat) (o2 : Nat) (u : ab_S) : Option (Int32 × ab_S) :=
  fX3_putIn_5 o1 o2 fu 0 0 u
theorem tX3_putIn (o1 : Nat) (o2 : Nat) (u : ab_S) : ab_G 0 3 cX3_putIn (some .int) 1 0 [some (vR (kO 3) 150), some (vR (kO 2) o1), some (vR (kO 5) o2), none, none, none] [] u wI (fX3_putIn o1 o2 u) := by
  rw [fX3_putIn]
  refine g_seg0 (pc' := 5) (L' := [some (vR (kO 3) 150), some (vR (kO 2) o1), some (vR (kO 5) o2), some (vI 0), some (vI 0), none]) (st' := []) (u1 := u) [(oC 0, 1), (oL 3 3, 1), (oC 0, 1), (oL 3 4, 2)] (by decide +kernel) rfl rfl ?_
  exact tX3_putIn_5 o1 o2 fu 0 0 u
theorem CX3_putIn (o1 : Nat) (o2 : Nat) (u : ab_S) : ab_C 0 yX3_putIn cX3_putIn 6 (some .int) 1 [vR (kO 3) 150, vR (kO 2) o1, vR (kO 5) o2] u wI (fX3_putIn o1 o2 u) := ab_entry (by decide +kernel) rfl (by decide) (by decide) (fun _ => Nat.le_of_ble_eq_true rfl) rfl (tX3_putIn o1 o2 u)
def fX3_pointsTo_92 (o1 : Nat) (o2 : Nat) (k21 : Int32 → Int32 → Int32 → Int32 → Int32 → Int32 → ab_S → Option (Int32 × ab_S)) (v3 : Int32) (v4 : Int32) (v5 : Int32) (v6 : Int32) (v7 : Int32) (v8 : Int32) (v9 : Int32) (s0 : Int32) (u : ab_S) : Option (Int32 × ab_S) :=
  bif decide (v9 ≤ v7) then (
    bif decide (s0 = 0) then (
      k21 v3 v4 v5 v6 v7 (v8 + 1) u)
    else (
      k21 v3 v4 v5 v8 v9 (v8 + 1) u))
  else (
    k21 v3 v4 v5 v8 v9 (v8 + 1) u)
theorem tX3_pointsTo_92 (o1 : Nat) (o2 : Nat) (k21 : Int32 → Int32 → Int32 → Int32 → Int32 → Int32 → ab_S → Option (Int32 × ab_S)) (hk21 : ∀ (v3 : Int32) (v4 : Int32) (v5 : Int32) (v6 : Int32) (v7 : Int32) (v8 : Int32) (u : ab_S), ab_G 0 3 cX3_pointsTo (some .int) 2 21 [some (vR (kO 3) 150), some (vR (kO 2) o1), none, some (vI v3), some (vI v4), some (vI v5), some (vI v6), some (vI v7), some (vI v8), none, none] [] u wI (k21 v3 v4 v5 v6 v7 v8 u)) (v3 : Int32) (v4 : Int32) (v5 : Int32) (v6 : Int32) (v7 : Int32) (v8 : Int32) (v9 : Int32) (s0 : Int32) (u : ab_S) : ab_G 0 3 cX3_pointsTo (some .int) 2 92 [some (vR (kO 3) 150), some (vR (kO 2) o1), none, some (vI v3), some (vI v4), some (vI v5), some (vI v6), some (vI v7), some (vI v8), some (vI v9), none] [vI s0] u wI (fX3_pointsTo_92 o1 o2 k21 v3 v4 v5 v6 v7 v8 v9 s0 u) := by
  rw [fX3_pointsTo_92]
  refine g_seg0 (pc' := 98) (L' := [some (vR (kO 3) 150), some (vR (kO 2) o1), none, some (vI v3), some (vI v4), some (vI v5), some (vI v6), some (vI v7), some (vI v8), some (vI v9), some (vI s0)]) (st' := [vI v7, vI v9]) (u1 := u) [(oL 3 10, 2), (oL 0 9, 2), (oL 0 7, 2)] (by decide +kernel) rfl rfl ?_
  refine g_igt (off := 8) (tgt := 106) (pc2 := 101) (by decide +kernel) (by decide) rfl ?_ ?_
  · refine g_seg0 (pc' := 117) (L' := [some (vR (kO 3) 150), some (vR (kO 2) o1), none, some (vI v3), some (vI v4), some (vI v5), some (vI v8), some (vI v9), some (vI (v8 + 1)), some (vI v9), some (vI s0)]) (st' := []) (u1 := u) [(oL 0 8, 2), (oL 3 6, 2), (oL 0 9, 2), (oL 3 7, 2), (oN 8 1, 3)] (by decide +kernel) rfl rfl ?_
    refine g_goto (off := (-96)) (tgt := 21) (by decide +kernel) (by decide) ?_
    exact g_jump [true, true, false, true, true, true, true, true, true, false, false] rfl (hk21 v3 v4 v5 v8 v9 (v8 + 1) u)
  · refine g_seg0 (pc' := 103) (L' := [some (vR (kO 3) 150), some (vR (kO 2) o1), none, some (vI v3), some (vI v4), some (vI v5), some (vI v6), some (vI v7), some (vI v8), some (vI v9), some (vI s0)]) (st' := [vI s0]) (u1 := u) [(oL 0 10, 2)] (by decide +kernel) rfl rfl ?_
    refine g_zeq (off := 11) (tgt := 114) (pc2 := 106) (by decide +kernel) (by decide) rfl ?_ ?_
    · refine g_seg0 (pc' := 117) (L' := [some (vR (kO 3) 150), some (vR (kO 2) o1), none, some (vI v3), some (vI v4), some (vI v5), some (vI v6), some (vI v7), some (vI (v8 + 1)), some (vI v9), some (vI s0)]) (st' := []) (u1 := u) [(oN 8 1, 3)] (by decide +kernel) rfl rfl ?_
      refine g_goto (off := (-96)) (tgt := 21) (by decide +kernel) (by decide) ?_
      exact g_jump [true, true, false, true, true, true, true, true, true, false, false] rfl (hk21 v3 v4 v5 v6 v7 (v8 + 1) u)
    · refine g_seg0 (pc' := 117) (L' := [some (vR (kO 3) 150), some (vR (kO 2) o1), none, some (vI v3), some (vI v4), some (vI v5), some (vI v8), some (vI v9), some (vI (v8 + 1)), some (vI v9), some (vI s0)]) (st' := []) (u1 := u) [(oL 0 8, 2), (oL 3 6, 2), (oL 0 9, 2), (oL 3 7, 2), (oN 8 1, 3)] (by decide +kernel) rfl rfl ?_
      refine g_goto (off := (-96)) (tgt := 21) (by decide +kernel) (by decide) ?_
      exact g_jump [true, true, false, true, true, true, true, true, true, false, false] rfl (hk21 v3 v4 v5 v8 v9 (v8 + 1) u)
def fX3_pointsTo_21 (o1 : Nat) (o2 : Nat) : Nat → Int32 → Int32 → Int32 → Int32 → Int32 → Int32 → ab_S → Option (Int32 × ab_S)
  | 0, _, _, _, _, _, _, _ => none
  | n + 1, v3, v4, v5, v6, v7, v8, u =>
  bif decide (v8 < (u.1 o1 0)) then (
    bif decide (((v4 >>> (v8 &&& 31)) &&& 1) = 1) then (
      (fX9_at 6 151 v8 u).bind fun q1 =>
        (fX2_fitBy o1 v3 q1.1 v5 q1.2).bind fun q2 =>
          bif decide (q2.1 = v7) then (
            (fX9_at 6 151 v8 q2.2).bind fun q3 =>
              (fX9_at 6 151 v6 q3.2).bind fun q4 =>
                bif decide (q3.1 < q4.1) then (
                  fX3_pointsTo_92 o1 o2 (fX3_pointsTo_21 o1 o2 n) v3 v4 v5 v6 v7 v8 q2.1 1 q4.2)
                else (
                  fX3_pointsTo_92 o1 o2 (fX3_pointsTo_21 o1 o2 n) v3 v4 v5 v6 v7 v8 q2.1 0 q4.2))
          else (
            fX3_pointsTo_92 o1 o2 (fX3_pointsTo_21 o1 o2 n) v3 v4 v5 v6 v7 v8 q2.1 0 q2.2))
    else (
      (fX3_pointsTo_21 o1 o2 n) v3 v4 v5 v6 v7 (v8 + 1) u))
  else (
    some (v6, u))
theorem tX3_pointsTo_21 (o1 : Nat) (o2 : Nat) : ∀ (n : Nat) (v3 : Int32) (v4 : Int32) (v5 : Int32) (v6 : Int32) (v7 : Int32) (v8 : Int32) (u : ab_S), ab_G 0 3 cX3_pointsTo (some .int) 2 21 [some (vR (kO 3) 150), some (vR (kO 2) o1), none, some (vI v3), some (vI v4), some (vI v5), some (vI v6), some (vI v7), some (vI v8), none, none] [] u wI (fX3_pointsTo_21 o1 o2 n v3 v4 v5 v6 v7 v8 u) := by
  intro n
  induction n with
  | zero => intros; exact g_none
  | succ n ih =>
    intro v3 v4 v5 v6 v7 v8 u
    rw [fX3_pointsTo_21]
    refine g_seg0 (pc' := 27) (L' := [some (vR (kO 3) 150), some (vR (kO 2) o1), none, some (vI v3), some (vI v4), some (vI v5), some (vI v6), some (vI v7), some (vI v8), none, none]) (st' := [vI (u.1 o1 0), vI v8]) (u1 := u) [(oL 0 8, 2), (oL 2 1, 1), (oP (.getfield 29), 3)] (by decide +kernel) rfl rfl ?_
    refine g_ige (off := 93) (tgt := 120) (pc2 := 30) (by decide +kernel) (by decide) rfl ?_ ?_
    · refine g_seg0 (pc' := 122) (L' := [some (vR (kO 3) 150), some (vR (kO 2) o1), none, some (vI v3), some (vI v4), some (vI v5), some (vI v6), some (vI v7), some (vI v8), none, none]) (st' := [vI v6]) (u1 := u) [(oL 0 6, 2)] (by decide +kernel) rfl rfl ?_
      exact g_iret (by decide +kernel) rfl
    · refine g_seg0 (pc' := 38) (L' := [some (vR (kO 3) 150), some (vR (kO 2) o1), none, some (vI v3), some (vI v4), some (vI v5), some (vI v6), some (vI v7), some (vI v8), none, none]) (st' := [vI 1, vI ((v4 >>> (v8 &&& 31)) &&& 1)]) (u1 := u) [(oL 0 4, 2), (oL 0 8, 2), (oP .ishr, 1), (oC 1, 1), (oP .iand, 1), (oC 1, 1)] (by decide +kernel) rfl rfl ?_
      refine g_ine (off := 76) (tgt := 114) (pc2 := 41) (by decide +kernel) (by decide) rfl ?_ ?_
      · refine g_seg0 (pc' := 117) (L' := [some (vR (kO 3) 150), some (vR (kO 2) o1), none, some (vI v3), some (vI v4), some (vI v5), some (vI v6), some (vI v7), some (vI (v8 + 1)), none, none]) (st' := []) (u1 := u) [(oN 8 1, 3)] (by decide +kernel) rfl rfl ?_
        refine g_goto (off := (-96)) (tgt := 21) (by decide +kernel) (by decide) ?_
        exact ih v3 v4 v5 v6 v7 (v8 + 1) u
      · refine g_seg0 (pc' := 49) (L' := [some (vR (kO 3) 150), some (vR (kO 2) o1), none, some (vI v3), some (vI v4), some (vI v5), some (vI v6), some (vI v7), some (vI v8), none, none]) (st' := [vI v8, vR (kA 0 6) 151, vI v3, vR (kO 2) o1]) (u1 := u) [(oL 2 1, 1), (oL 0 3, 1), (oL 2 0, 1), (oP (.getfield 9), 3), (oL 0 8, 2)] (by decide +kernel) rfl rfl ?_
        refine g_callS (k := 60) (pc2 := 52) (st := [vI v3, vR (kO 2) o1]) (CX9_at 6 151 v8 u) miX9_at msX9_at lk3_60 wI_ok (by decide +kernel) rfl (Nat.le_of_ble_eq_true rfl) (by decide) rfl (fun q1 hq1 => ?_)
        refine g_seg0 (pc' := 54) (L' := [some (vR (kO 3) 150), some (vR (kO 2) o1), none, some (vI v3), some (vI v4), some (vI v5), some (vI v6), some (vI v7), some (vI v8), none, none]) (st' := [vI v5, vI (q1.1), vI v3, vR (kO 2) o1]) (u1 := q1.2) [(oL 0 5, 2)] (by decide +kernel) rfl rfl ?_
        refine g_callV (k := 64) (pc2 := 57) (st := []) (CX2_fitBy o1 v3 q1.1 v5 q1.2) miX2_fitBy mvX2_fitBy rfl (by decide) lk3_64 wI_ok (by decide +kernel) rfl (Nat.le_of_ble_eq_true rfl) (by decide) rfl (fun q2 hq2 => ?_)
        refine g_seg0 (pc' := 63) (L' := [some (vR (kO 3) 150), some (vR (kO 2) o1), none, some (vI v3), some (vI v4), some (vI v5), some (vI v6), some (vI v7), some (vI v8), some (vI (q2.1)), none]) (st' := [vI v7, vI (q2.1)]) (u1 := q2.2) [(oL 3 9, 2), (oL 0 9, 2), (oL 0 7, 2)] (by decide +kernel) rfl rfl ?_
        refine g_ine (off := 28) (tgt := 91) (pc2 := 66) (by decide +kernel) (by decide) rfl ?_ ?_
        · refine g_seg0 (pc' := 92) (L' := [some (vR (kO 3) 150), some (vR (kO 2) o1), none, some (vI v3), some (vI v4), some (vI v5), some (vI v6), some (vI v7), some (vI v8), some (vI (q2.1)), none]) (st' := [vI 0]) (u1 := q2.2) [(oC 0, 1)] (by decide +kernel) rfl rfl ?_
          exact tX3_pointsTo_92 o1 o2 (fX3_pointsTo_21 o1 o2 n) ih v3 v4 v5 v6 v7 v8 q2.1 0 q2.2
        · refine g_seg0 (pc' := 72) (L' := [some (vR (kO 3) 150), some (vR (kO 2) o1), none, some (vI v3), some (vI v4), some (vI v5), some (vI v6), some (vI v7), some (vI v8), some (vI (q2.1)), none]) (st' := [vI v8, vR (kA 0 6) 151]) (u1 := q2.2) [(oL 2 0, 1), (oP (.getfield 9), 3), (oL 0 8, 2)] (by decide +kernel) rfl rfl ?_
          refine g_callS (k := 60) (pc2 := 75) (st := []) (CX9_at 6 151 v8 q2.2) miX9_at msX9_at lk3_60 wI_ok (by decide +kernel) rfl (Nat.le_of_ble_eq_true rfl) (by decide) rfl (fun q3 hq3 => ?_)
          refine g_seg0 (pc' := 81) (L' := [some (vR (kO 3) 150), some (vR (kO 2) o1), none, some (vI v3), some (vI v4), some (vI v5), some (vI v6), some (vI v7), some (vI v8), some (vI (q2.1)), none]) (st' := [vI v6, vR (kA 0 6) 151, vI (q3.1)]) (u1 := q3.2) [(oL 2 0, 1), (oP (.getfield 9), 3), (oL 0 6, 2)] (by decide +kernel) rfl rfl ?_
          refine g_callS (k := 60) (pc2 := 84) (st := [vI (q3.1)]) (CX9_at 6 151 v6 q3.2) miX9_at msX9_at lk3_60 wI_ok (by decide +kernel) rfl (Nat.le_of_ble_eq_true rfl) (by decide) rfl (fun q4 hq4 => ?_)
          refine g_ige (off := 7) (tgt := 91) (pc2 := 87) (by decide +kernel) (by decide) rfl ?_ ?_
          · refine g_seg0 (pc' := 92) (L' := [some (vR (kO 3) 150), some (vR (kO 2) o1), none, some (vI v3), some (vI v4), some (vI v5), some (vI v6), some (vI v7), some (vI v8), some (vI (q2.1)), none]) (st' := [vI 0]) (u1 := q4.2) [(oC 0, 1)] (by decide +kernel) rfl rfl ?_
            exact tX3_pointsTo_92 o1 o2 (fX3_pointsTo_21 o1 o2 n) ih v3 v4 v5 v6 v7 v8 q2.1 0 q4.2
          · refine g_seg0 (pc' := 88) (L' := [some (vR (kO 3) 150), some (vR (kO 2) o1), none, some (vI v3), some (vI v4), some (vI v5), some (vI v6), some (vI v7), some (vI v8), some (vI (q2.1)), none]) (st' := [vI 1]) (u1 := q4.2) [(oC 1, 1)] (by decide +kernel) rfl rfl ?_
            refine g_goto (off := 4) (tgt := 92) (by decide +kernel) (by decide) ?_
            exact tX3_pointsTo_92 o1 o2 (fX3_pointsTo_21 o1 o2 n) ih v3 v4 v5 v6 v7 v8 q2.1 1 q4.2
def fX3_pointsTo (o1 : Nat) (o2 : Nat) (v3 : Int32) (v4 : Int32) (u : ab_S) : Option (Int32 × ab_S) :=
  (fX5_bitsOf o2 v3 u).bind fun q5 =>
    (fJ6_bitCount_0f7a4 q5.1 q5.2).bind fun q6 =>
      fX3_pointsTo_21 o1 o2 fu v3 v4 (q6.1 - 1) (-1) (-1) 0 q6.2
theorem tX3_pointsTo (o1 : Nat) (o2 : Nat) (v3 : Int32) (v4 : Int32) (u : ab_S) : ab_G 0 3 cX3_pointsTo (some .int) 2 0 [some (vR (kO 3) 150), some (vR (kO 2) o1), some (vR (kO 5) o2), some (vI v3), some (vI v4), none, none, none, none, none, none] [] u wI (fX3_pointsTo o1 o2 v3 v4 u) := by
  rw [fX3_pointsTo]
  refine g_seg0 (pc' := 2) (L' := [some (vR (kO 3) 150), some (vR (kO 2) o1), some (vR (kO 5) o2), some (vI v3), some (vI v4), none, none, none, none, none, none]) (st' := [vI v3, vR (kO 5) o2]) (u1 := u) [(oL 2 2, 1), (oL 0 3, 1)] (by decide +kernel) rfl rfl ?_
  refine g_callV (k := 52) (pc2 := 5) (st := []) (CX5_bitsOf o2 v3 u) miX5_bitsOf mvX5_bitsOf rfl (by decide) lk3_52 wI_ok (by decide +kernel) rfl (Nat.le_of_ble_eq_true rfl) (by decide) rfl (fun q5 hq5 => ?_)
  refine g_callS (k := 55) (pc2 := 8) (st := []) (CJ6_bitCount_0f7a4 q5.1 q5.2) miJ6_bitCount_0f7a4 msJ6_bitCount_0f7a4 lk3_55 wI_ok (by decide +kernel) rfl (Nat.le_of_ble_eq_true rfl) (by decide) rfl (fun q6 hq6 => ?_)
  refine g_seg0 (pc' := 21) (L' := [some (vR (kO 3) 150), some (vR (kO 2) o1), some (vR (kO 5) o2), some (vI v3), some (vI v4), some (vI (q6.1 - 1)), some (vI (-1)), some (vI (-1)), some (vI 0), none, none]) (st' := []) (u1 := q6.2) [(oC 1, 1), (oP .isub, 1), (oL 3 5, 2), (oC (-1), 1), (oL 3 6, 2), (oC (-1), 1), (oL 3 7, 2), (oC 0, 1), (oL 3 8, 2)] (by decide +kernel) rfl rfl ?_
  exact g_jump [true, true, false, true, true, true, true, true, true, false, false] rfl (tX3_pointsTo_21 o1 o2 fu v3 v4 (q6.1 - 1) (-1) (-1) 0 q6.2)
theorem CX3_pointsTo (o1 : Nat) (o2 : Nat) (v3 : Int32) (v4 : Int32) (u : ab_S) : ab_C 0 yX3_pointsTo cX3_pointsTo 11 (some .int) 2 [vR (kO 3) 150, vR (kO 2) o1, vR (kO 5) o2, vI v3, vI v4] u wI (fX3_pointsTo o1 o2 v3 v4 u) := ab_entry (by decide +kernel) rfl (by decide) (by decide) (fun _ => Nat.le_of_ble_eq_true rfl) rfl (tX3_pointsTo o1 o2 v3 v4 u)
def fX3_trade_29 (o1 : Nat) (o2 : Nat) (k15 : Int32 → Int32 → ab_S → Option (Unit × ab_S)) : Nat → Int32 → Int32 → Int32 → ab_S → Option (Unit × ab_S)
  | 0, _, _, _, _ => none
  | n + 1, v3, v4, v5, u =>
  bif decide (v5 < (u.1 o1 0)) then (
    bif decide (((v3 >>> (v5 &&& 31)) &&& 1) = 1) then (
      (fX3_pointsTo o1 o2 v5 v3 u).bind fun q2 =>
        (fX9_put 6 152 v5 q2.1 q2.2).bind fun q3 =>
          (fX3_trade_29 o1 o2 k15 n) v3 v4 (v5 + 1) q3.2)
    else (
      (fX3_trade_29 o1 o2 k15 n) v3 v4 (v5 + 1) u))
  else (
    (fX3_handOut o1 v3 u).bind fun q1 =>
      k15 (v3 &&& (q1.1 ^^^ (-1))) (v4 + 1) (sI q1.2 150 3 ((q1.2.1 150 3) + 1)))
theorem tX3_trade_29 (o1 : Nat) (o2 : Nat) (k15 : Int32 → Int32 → ab_S → Option (Unit × ab_S)) (hk15 : ∀ (v3 : Int32) (v4 : Int32) (u : ab_S), ab_G 0 3 cX3_trade none 3 15 [some (vR (kO 3) 150), some (vR (kO 2) o1), some (vR (kO 5) o2), some (vI v3), some (vI v4), none] [] u wV (k15 v3 v4 u)) : ∀ (n : Nat) (v3 : Int32) (v4 : Int32) (v5 : Int32) (u : ab_S), ab_G 0 3 cX3_trade none 3 29 [some (vR (kO 3) 150), some (vR (kO 2) o1), some (vR (kO 5) o2), some (vI v3), some (vI v4), some (vI v5)] [] u wV (fX3_trade_29 o1 o2 k15 n v3 v4 v5 u) := by
  intro n
  induction n with
  | zero => intros; exact g_none
  | succ n ih =>
    intro v3 v4 v5 u
    rw [fX3_trade_29]
    refine g_seg0 (pc' := 35) (L' := [some (vR (kO 3) 150), some (vR (kO 2) o1), some (vR (kO 5) o2), some (vI v3), some (vI v4), some (vI v5)]) (st' := [vI (u.1 o1 0), vI v5]) (u1 := u) [(oL 0 5, 2), (oL 2 1, 1), (oP (.getfield 29), 3)] (by decide +kernel) rfl rfl ?_
    refine g_ige (off := 37) (tgt := 72) (pc2 := 38) (by decide +kernel) (by decide) rfl ?_ ?_
    · refine g_seg0 (pc' := 76) (L' := [some (vR (kO 3) 150), some (vR (kO 2) o1), some (vR (kO 5) o2), some (vI v3), some (vI v4), some (vI v5)]) (st' := [vI v3, vR (kO 2) o1, vR (kO 3) 150, vI v3]) (u1 := u) [(oL 0 3, 1), (oL 2 0, 1), (oL 2 1, 1), (oL 0 3, 1)] (by decide +kernel) rfl rfl ?_
      refine g_callV (k := 42) (pc2 := 79) (st := [vI v3]) (CX3_handOut o1 v3 u) miX3_handOut mvX3_handOut rfl (by decide) lk3_42 wI_ok (by decide +kernel) rfl (Nat.le_of_ble_eq_true rfl) (by decide) rfl (fun q1 hq1 => ?_)
      refine g_seg0 (pc' := 96) (L' := [some (vR (kO 3) 150), some (vR (kO 2) o1), some (vR (kO 5) o2), some (vI (v3 &&& (q1.1 ^^^ (-1)))), some (vI (v4 + 1)), some (vI v5)]) (st' := []) (u1 := (sI q1.2 150 3 ((q1.2.1 150 3) + 1))) [(oC (-1), 1), (oP .ixor, 1), (oP .iand, 1), (oL 3 3, 1), (oL 2 0, 1), (oP .dup, 1), (oP (.getfield 21), 3), (oC 1, 1), (oP .iadd, 1), (oP (.putfield 21), 3), (oN 4 1, 3)] (by decide +kernel) rfl rfl ?_
      refine g_goto (off := (-81)) (tgt := 15) (by decide +kernel) (by decide) ?_
      exact g_jump [true, true, true, true, true, false] rfl (hk15 (v3 &&& (q1.1 ^^^ (-1))) (v4 + 1) (sI q1.2 150 3 ((q1.2.1 150 3) + 1)))
    · refine g_seg0 (pc' := 45) (L' := [some (vR (kO 3) 150), some (vR (kO 2) o1), some (vR (kO 5) o2), some (vI v3), some (vI v4), some (vI v5)]) (st' := [vI 1, vI ((v3 >>> (v5 &&& 31)) &&& 1)]) (u1 := u) [(oL 0 3, 1), (oL 0 5, 2), (oP .ishr, 1), (oC 1, 1), (oP .iand, 1), (oC 1, 1)] (by decide +kernel) rfl rfl ?_
      refine g_ine (off := 21) (tgt := 66) (pc2 := 48) (by decide +kernel) (by decide) rfl ?_ ?_
      · refine g_seg0 (pc' := 69) (L' := [some (vR (kO 3) 150), some (vR (kO 2) o1), some (vR (kO 5) o2), some (vI v3), some (vI v4), some (vI (v5 + 1))]) (st' := []) (u1 := u) [(oN 5 1, 3)] (by decide +kernel) rfl rfl ?_
        refine g_goto (off := (-40)) (tgt := 29) (by decide +kernel) (by decide) ?_
        exact ih v3 v4 (v5 + 1) u
      · refine g_seg0 (pc' := 60) (L' := [some (vR (kO 3) 150), some (vR (kO 2) o1), some (vR (kO 5) o2), some (vI v3), some (vI v4), some (vI v5)]) (st' := [vI v3, vI v5, vR (kO 5) o2, vR (kO 2) o1, vR (kO 3) 150, vI v5, vR (kA 0 6) 152]) (u1 := u) [(oL 2 0, 1), (oP (.getfield 15), 3), (oL 0 5, 2), (oL 2 0, 1), (oL 2 1, 1), (oL 2 2, 1), (oL 0 5, 2), (oL 0 3, 1)] (by decide +kernel) rfl rfl ?_
        refine g_callV (k := 34) (pc2 := 63) (st := [vI v5, vR (kA 0 6) 152]) (CX3_pointsTo o1 o2 v5 v3 u) miX3_pointsTo mvX3_pointsTo rfl (by decide) lk3_34 wI_ok (by decide +kernel) rfl (Nat.le_of_ble_eq_true rfl) (by decide) rfl (fun q2 hq2 => ?_)
        refine g_callS (k := 38) (pc2 := 66) (st := []) (CX9_put 6 152 v5 q2.1 q2.2) miX9_put msX9_put lk3_38 wV_ok (by decide +kernel) rfl (Nat.le_of_ble_eq_true rfl) (by decide) rfl (fun q3 hq3 => ?_)
        refine g_seg0 (pc' := 69) (L' := [some (vR (kO 3) 150), some (vR (kO 2) o1), some (vR (kO 5) o2), some (vI v3), some (vI v4), some (vI (v5 + 1))]) (st' := []) (u1 := q3.2) [(oN 5 1, 3)] (by decide +kernel) rfl rfl ?_
        refine g_goto (off := (-40)) (tgt := 29) (by decide +kernel) (by decide) ?_
        exact ih v3 v4 (v5 + 1) q3.2
def fX3_trade_15 (o1 : Nat) (o2 : Nat) : Nat → Int32 → Int32 → ab_S → Option (Unit × ab_S)
  | 0, _, _, _ => none
  | n + 1, v3, v4, u =>
  bif decide (v4 < 6) then (
    bif decide (v3 = 0) then (
      some ((), u))
    else (
      fX3_trade_29 o1 o2 (fX3_trade_15 o1 o2 n) fu v3 v4 0 u))
  else (
    some ((), u))
theorem tX3_trade_15 (o1 : Nat) (o2 : Nat) : ∀ (n : Nat) (v3 : Int32) (v4 : Int32) (u : ab_S), ab_G 0 3 cX3_trade none 3 15 [some (vR (kO 3) 150), some (vR (kO 2) o1), some (vR (kO 5) o2), some (vI v3), some (vI v4), none] [] u wV (fX3_trade_15 o1 o2 n v3 v4 u) := by
  intro n
  induction n with
  | zero => intros; exact g_none
  | succ n ih =>
    intro v3 v4 u
    rw [fX3_trade_15]
    refine g_seg0 (pc' := 19) (L' := [some (vR (kO 3) 150), some (vR (kO 2) o1), some (vR (kO 5) o2), some (vI v3), some (vI v4), none]) (st' := [vI 6, vI v4]) (u1 := u) [(oL 0 4, 2), (oC 6, 2)] (by decide +kernel) rfl rfl ?_
    refine g_ige (off := 80) (tgt := 99) (pc2 := 22) (by decide +kernel) (by decide) rfl ?_ ?_
    · exact g_vret (by decide +kernel) rfl
    · refine g_seg0 (pc' := 23) (L' := [some (vR (kO 3) 150), some (vR (kO 2) o1), some (vR (kO 5) o2), some (vI v3), some (vI v4), none]) (st' := [vI v3]) (u1 := u) [(oL 0 3, 1)] (by decide +kernel) rfl rfl ?_
      refine g_zeq (off := 76) (tgt := 99) (pc2 := 26) (by decide +kernel) (by decide) rfl ?_ ?_
      · exact g_vret (by decide +kernel) rfl
      · refine g_seg0 (pc' := 29) (L' := [some (vR (kO 3) 150), some (vR (kO 2) o1), some (vR (kO 5) o2), some (vI v3), some (vI v4), some (vI 0)]) (st' := []) (u1 := u) [(oC 0, 1), (oL 3 5, 2)] (by decide +kernel) rfl rfl ?_
        exact tX3_trade_29 o1 o2 (fX3_trade_15 o1 o2 n) ih fu v3 v4 0 u
def fX3_trade (o1 : Nat) (o2 : Nat) (u : ab_S) : Option (Unit × ab_S) :=
  (fX3_putIn o1 o2 (sI u 150 3 0)).bind fun q4 =>
    fX3_trade_15 o1 o2 fu q4.1 0 q4.2
theorem tX3_trade (o1 : Nat) (o2 : Nat) (u : ab_S) : ab_G 0 3 cX3_trade none 3 0 [some (vR (kO 3) 150), some (vR (kO 2) o1), some (vR (kO 5) o2), none, none, none] [] u wV (fX3_trade o1 o2 u) := by
  rw [fX3_trade]
  refine g_seg0 (pc' := 8) (L' := [some (vR (kO 3) 150), some (vR (kO 2) o1), some (vR (kO 5) o2), none, none, none]) (st' := [vR (kO 5) o2, vR (kO 2) o1, vR (kO 3) 150]) (u1 := (sI u 150 3 0)) [(oL 2 0, 1), (oC 0, 1), (oP (.putfield 21), 3), (oL 2 0, 1), (oL 2 1, 1), (oL 2 2, 1)] (by decide +kernel) rfl rfl ?_
  refine g_callV (k := 25) (pc2 := 11) (st := []) (CX3_putIn o1 o2 (sI u 150 3 0)) miX3_putIn mvX3_putIn rfl (by decide) lk3_25 wI_ok (by decide +kernel) rfl (Nat.le_of_ble_eq_true rfl) (by decide) rfl (fun q4 hq4 => ?_)
  refine g_seg0 (pc' := 15) (L' := [some (vR (kO 3) 150), some (vR (kO 2) o1), some (vR (kO 5) o2), some (vI (q4.1)), some (vI 0), none]) (st' := []) (u1 := q4.2) [(oL 3 3, 1), (oC 0, 1), (oL 3 4, 2)] (by decide +kernel) rfl rfl ?_
  exact tX3_trade_15 o1 o2 fu q4.1 0 q4.2
theorem CX3_trade (o1 : Nat) (o2 : Nat) (u : ab_S) : ab_C 0 yX3_trade cX3_trade 6 none 3 [vR (kO 3) 150, vR (kO 2) o1, vR (kO 5) o2] u wV (fX3_trade o1 o2 u) := ab_entry (by decide +kernel) rfl (by decide) (by decide) (fun _ => Nat.le_of_ble_eq_true rfl) rfl (tX3_trade o1 o2 u)
def fX3_gotBy (v1 : Int32) (u : ab_S) : Option (Int32 × ab_S) :=
  bif decide (v1 < 0) then (
    some ((-1), u))
  else (
    bif decide (v1 < 6) then (
      ab_gd [ab_ix v1 6] (
        some ((u.1 153 (nc v1)), u)))
    else (
      some ((-1), u)))
theorem tX3_gotBy (v1 : Int32) (u : ab_S) : ab_G 0 3 cX3_gotBy (some .int) 0 0 [some (vR (kO 3) 150), some (vI v1)] [] u wI (fX3_gotBy v1 u) := by
  rw [fX3_gotBy]
  refine g_seg0 (pc' := 1) (L' := [some (vR (kO 3) 150), some (vI v1)]) (st' := [vI v1]) (u1 := u) [(oL 0 1, 1)] (by decide +kernel) rfl rfl ?_
  refine g_zlt (off := 21) (tgt := 22) (pc2 := 4) (by decide +kernel) (by decide) rfl ?_ ?_
  · refine g_seg0 (pc' := 23) (L' := [some (vR (kO 3) 150), some (vI v1)]) (st' := [vI (-1)]) (u1 := u) [(oC (-1), 1)] (by decide +kernel) rfl rfl ?_
    exact g_iret (by decide +kernel) rfl
  · refine g_seg0 (pc' := 10) (L' := [some (vR (kO 3) 150), some (vI v1)]) (st' := [vI 6, vI v1]) (u1 := u) [(oL 0 1, 1), (oL 2 0, 1), (oP (.getfield 18), 3), (oP .arraylength, 1)] (by decide +kernel) rfl rfl ?_
    refine g_ige (off := 12) (tgt := 22) (pc2 := 13) (by decide +kernel) (by decide) rfl ?_ ?_
    · refine g_seg0 (pc' := 23) (L' := [some (vR (kO 3) 150), some (vI v1)]) (st' := [vI (-1)]) (u1 := u) [(oC (-1), 1)] (by decide +kernel) rfl rfl ?_
      exact g_iret (by decide +kernel) rfl
    · refine g_seg (pc' := 19) (L' := [some (vR (kO 3) 150), some (vI v1)]) (st' := [vI (u.1 153 (nc v1))]) (u1 := u) [(oL 2 0, 1), (oP (.getfield 18), 3), (oL 0 1, 1), (oP .iaload, 1)] (by decide +kernel) rfl rfl ?_
      refine g_goto (off := 4) (tgt := 23) (by decide +kernel) (by decide) ?_
      exact g_iret (by decide +kernel) rfl
theorem CX3_gotBy (v1 : Int32) (u : ab_S) : ab_C 0 yX3_gotBy cX3_gotBy 2 (some .int) 0 [vR (kO 3) 150, vI v1] u wI (fX3_gotBy v1 u) := ab_entry (by decide +kernel) rfl (by decide) (by decide) (fun _ => Nat.le_of_ble_eq_true rfl) rfl (tX3_gotBy v1 u)
def fX9_gets (v1 : Int32) (u : ab_S) : Option (Int32 × ab_S) :=
  (fX2_hasPerson (u.2.2 0) v1 u).bind fun q1 =>
    bif decide (q1.1 = 0) then (
      some ((-1), q1.2))
    else (
      (fX3_trade (q1.2.2.2 0) 38 q1.2).bind fun q2 =>
        (fX3_gotBy v1 q2.2).bind fun q3 =>
          some (q3.1, q3.2))
theorem tX9_gets (v1 : Int32) (u : ab_S) : ab_G 0 8 cX9_gets (some .int) 4 0 [some (vR (kO 8) 0), some (vI v1)] [] u wI (fX9_gets v1 u) := by
  rw [fX9_gets]
  refine g_seg0 (pc' := 5) (L' := [some (vR (kO 8) 0), some (vI v1)]) (st' := [vI v1, vR (kO 2) (u.2.2 0)]) (u1 := u) [(oL 2 0, 1), (oP (.getfield 19), 3), (oL 0 1, 1)] (by decide +kernel) rfl rfl ?_
  refine g_callV (k := 120) (pc2 := 8) (st := []) (CX2_hasPerson (u.2.2 0) v1 u) miX2_hasPerson mvX2_hasPerson rfl (by decide) lk8_120 wI_ok (by decide +kernel) rfl (Nat.le_of_ble_eq_true rfl) (by decide) rfl (fun q1 hq1 => ?_)
  refine g_zne (off := 5) (tgt := 13) (pc2 := 11) (by decide +kernel) (by decide) rfl ?_ ?_
  · refine g_seg0 (pc' := 25) (L' := [some (vR (kO 8) 0), some (vI v1)]) (st' := [vR (kO 5) 38, vR (kO 2) (q1.2.2.2 0), vR (kO 3) 150]) (u1 := q1.2) [(oL 2 0, 1), (oP (.getfield 71), 3), (oL 2 0, 1), (oP (.getfield 19), 3), (oL 2 0, 1), (oP (.getfield 39), 3)] (by decide +kernel) rfl rfl ?_
    refine g_callV (k := 233) (pc2 := 28) (st := []) (CX3_trade (q1.2.2.2 0) 38 q1.2) miX3_trade mvX3_trade rfl (by decide) lk8_233 wV_ok (by decide +kernel) rfl (Nat.le_of_ble_eq_true rfl) (by decide) rfl (fun q2 hq2 => ?_)
    refine g_seg0 (pc' := 33) (L' := [some (vR (kO 8) 0), some (vI v1)]) (st' := [vI v1, vR (kO 3) 150]) (u1 := q2.2) [(oL 2 0, 1), (oP (.getfield 71), 3), (oL 0 1, 1)] (by decide +kernel) rfl rfl ?_
    refine g_callV (k := 236) (pc2 := 36) (st := []) (CX3_gotBy v1 q2.2) miX3_gotBy mvX3_gotBy rfl (by decide) lk8_236 wI_ok (by decide +kernel) rfl (Nat.le_of_ble_eq_true rfl) (by decide) rfl (fun q3 hq3 => ?_)
    exact g_iret (by decide +kernel) rfl
  · refine g_seg0 (pc' := 12) (L' := [some (vR (kO 8) 0), some (vI v1)]) (st' := [vI (-1)]) (u1 := q1.2) [(oC (-1), 1)] (by decide +kernel) rfl rfl ?_
    exact g_iret (by decide +kernel) rfl
theorem CX9_gets (v1 : Int32) (u : ab_S) : ab_C 0 yX9_gets cX9_gets 2 (some .int) 4 [vR (kO 8) 0, vI v1] u wI (fX9_gets v1 u) := ab_entry (by decide +kernel) rfl (by decide) (by decide) (fun _ => Nat.le_of_ble_eq_true rfl) rfl (tX9_gets v1 u)
def fX9_rounds (u : ab_S) : Option (Int32 × ab_S) :=
  (fX3_trade (u.2.2 0) 38 u).bind fun q1 =>
    some ((q1.2.1 150 3), q1.2)
theorem tX9_rounds (u : ab_S) : ab_G 0 8 cX9_rounds (some .int) 4 0 [some (vR (kO 8) 0)] [] u wI (fX9_rounds u) := by
  rw [fX9_rounds]
  refine g_seg0 (pc' := 12) (L' := [some (vR (kO 8) 0)]) (st' := [vR (kO 5) 38, vR (kO 2) (u.2.2 0), vR (kO 3) 150]) (u1 := u) [(oL 2 0, 1), (oP (.getfield 71), 3), (oL 2 0, 1), (oP (.getfield 19), 3), (oL 2 0, 1), (oP (.getfield 39), 3)] (by decide +kernel) rfl rfl ?_
  refine g_callV (k := 233) (pc2 := 15) (st := []) (CX3_trade (u.2.2 0) 38 u) miX3_trade mvX3_trade rfl (by decide) lk8_233 wV_ok (by decide +kernel) rfl (Nat.le_of_ble_eq_true rfl) (by decide) rfl (fun q1 hq1 => ?_)
  refine g_seg0 (pc' := 22) (L' := [some (vR (kO 8) 0)]) (st' := [vI (q1.2.1 150 3)]) (u1 := q1.2) [(oL 2 0, 1), (oP (.getfield 71), 3), (oP (.getfield 239), 3)] (by decide +kernel) rfl rfl ?_
  exact g_iret (by decide +kernel) rfl
theorem CX9_rounds (u : ab_S) : ab_C 0 yX9_rounds cX9_rounds 1 (some .int) 4 [vR (kO 8) 0] u wI (fX9_rounds u) := ab_entry (by decide +kernel) rfl (by decide) (by decide) (fun _ => Nat.le_of_ble_eq_true rfl) rfl (tX9_rounds u)
def fX0_mostBy (o1 : Nat) (v2 : Int32) (v3 : Int32) (v4 : Int32) (u : ab_S) : Option (Int32 × ab_S) :=
  (fX2_fitBy o1 v2 v4 0 u).bind fun q1 =>
    (fX9_at 1792 156 (((v2 + 1) * 256) + (v3 ||| ((1 : Int32) <<< (v4 &&& 31)))) q1.2).bind fun q2 =>
      some ((q1.1 + q2.1), q2.2)
theorem tX0_mostBy (o1 : Nat) (v2 : Int32) (v3 : Int32) (v4 : Int32) (u : ab_S) : ab_G 0 0 cX0_mostBy (some .int) 2 0 [some (vR (kO 0) 154), some (vR (kO 2) o1), some (vI v2), some (vI v3), some (vI v4)] [] u wI (fX0_mostBy o1 v2 v3 v4 u) := by
  rw [fX0_mostBy]
  refine g_seg0 (pc' := 5) (L' := [some (vR (kO 0) 154), some (vR (kO 2) o1), some (vI v2), some (vI v3), some (vI v4)]) (st' := [vI 0, vI v4, vI v2, vR (kO 2) o1]) (u1 := u) [(oL 2 1, 1), (oL 0 2, 1), (oL 0 4, 2), (oC 0, 1)] (by decide +kernel) rfl rfl ?_
  refine g_callV (k := 54) (pc2 := 8) (st := []) (CX2_fitBy o1 v2 v4 0 u) miX2_fitBy mvX2_fitBy rfl (by decide) lk0_54 wI_ok (by decide +kernel) rfl (Nat.le_of_ble_eq_true rfl) (by decide) rfl (fun q1 hq1 => ?_)
  refine g_seg0 (pc' := 26) (L' := [some (vR (kO 0) 154), some (vR (kO 2) o1), some (vI v2), some (vI v3), some (vI v4)]) (st' := [vI (((v2 + 1) * 256) + (v3 ||| ((1 : Int32) <<< (v4 &&& 31)))), vR (kA 0 1792) 156, vI (q1.1)]) (u1 := q1.2) [(oL 2 0, 1), (oP (.getfield 15), 3), (oL 0 2, 1), (oC 1, 1), (oP .iadd, 1), (oC 256, 3), (oP .imul, 1), (oL 0 3, 1), (oC 1, 1), (oL 0 4, 2), (oP .ishl, 1), (oP .ior, 1), (oP .iadd, 1)] (by decide +kernel) rfl rfl ?_
  refine g_callS (k := 43) (pc2 := 29) (st := [vI (q1.1)]) (CX9_at 1792 156 (((v2 + 1) * 256) + (v3 ||| ((1 : Int32) <<< (v4 &&& 31)))) q1.2) miX9_at msX9_at lk0_43 wI_ok (by decide +kernel) rfl (Nat.le_of_ble_eq_true rfl) (by decide) rfl (fun q2 hq2 => ?_)
  refine g_seg0 (pc' := 30) (L' := [some (vR (kO 0) 154), some (vR (kO 2) o1), some (vI v2), some (vI v3), some (vI v4)]) (st' := [vI (q1.1 + q2.1)]) (u1 := q2.2) [(oP .iadd, 1)] (by decide +kernel) rfl rfl ?_
  exact g_iret (by decide +kernel) rfl
theorem CX0_mostBy (o1 : Nat) (v2 : Int32) (v3 : Int32) (v4 : Int32) (u : ab_S) : ab_C 0 yX0_mostBy cX0_mostBy 5 (some .int) 2 [vR (kO 0) 154, vR (kO 2) o1, vI v2, vI v3, vI v4] u wI (fX0_mostBy o1 v2 v3 v4 u) := ab_entry (by decide +kernel) rfl (by decide) (by decide) (fun _ => Nat.le_of_ble_eq_true rfl) rfl (tX0_mostBy o1 v2 v3 v4 u)
def fX0_firstBest_19 (o1 : Nat) : Nat → Int32 → Int32 → Int32 → Int32 → ab_S → Option (Int32 × ab_S)
  | 0, _, _, _, _, _ => none
  | n + 1, v2, v3, v4, v5, u =>
  bif decide (v5 < (u.1 o1 1)) then (
    bif decide (((v3 >>> (v5 &&& 31)) &&& 1) = 0) then (
      (fX0_mostBy o1 v2 v3 v5 u).bind fun q1 =>
        bif decide (q1.1 = v4) then (
          some (v5, q1.2))
        else (
          (fX0_firstBest_19 o1 n) v2 v3 v4 (v5 + 1) q1.2))
    else (
      (fX0_firstBest_19 o1 n) v2 v3 v4 (v5 + 1) u))
  else (
    some ((-1), u))
theorem tX0_firstBest_19 (o1 : Nat) : ∀ (n : Nat) (v2 : Int32) (v3 : Int32) (v4 : Int32) (v5 : Int32) (u : ab_S), ab_G 0 0 cX0_firstBest (some .int) 3 19 [some (vR (kO 0) 154), some (vR (kO 2) o1), some (vI v2), some (vI v3), some (vI v4), some (vI v5)] [] u wI (fX0_firstBest_19 o1 n v2 v3 v4 v5 u) := by
  intro n
  induction n with
  | zero => intros; exact g_none
  | succ n ih =>
    intro v2 v3 v4 v5 u
    rw [fX0_firstBest_19]
    refine g_seg0 (pc' := 25) (L' := [some (vR (kO 0) 154), some (vR (kO 2) o1), some (vI v2), some (vI v3), some (vI v4), some (vI v5)]) (st' := [vI (u.1 o1 1), vI v5]) (u1 := u) [(oL 0 5, 2), (oL 2 1, 1), (oP (.getfield 47), 3)] (by decide +kernel) rfl rfl ?_
    refine g_ige (off := 35) (tgt := 60) (pc2 := 28) (by decide +kernel) (by decide) rfl ?_ ?_
    · refine g_seg0 (pc' := 61) (L' := [some (vR (kO 0) 154), some (vR (kO 2) o1), some (vI v2), some (vI v3), some (vI v4), some (vI v5)]) (st' := [vI (-1)]) (u1 := u) [(oC (-1), 1)] (by decide +kernel) rfl rfl ?_
      exact g_iret (by decide +kernel) rfl
    · refine g_seg0 (pc' := 34) (L' := [some (vR (kO 0) 154), some (vR (kO 2) o1), some (vI v2), some (vI v3), some (vI v4), some (vI v5)]) (st' := [vI ((v3 >>> (v5 &&& 31)) &&& 1)]) (u1 := u) [(oL 0 3, 1), (oL 0 5, 2), (oP .ishr, 1), (oC 1, 1), (oP .iand, 1)] (by decide +kernel) rfl rfl ?_
      refine g_zne (off := 20) (tgt := 54) (pc2 := 37) (by decide +kernel) (by decide) rfl ?_ ?_
      · refine g_seg0 (pc' := 57) (L' := [some (vR (kO 0) 154), some (vR (kO 2) o1), some (vI v2), some (vI v3), some (vI v4), some (vI (v5 + 1))]) (st' := []) (u1 := u) [(oN 5 1, 3)] (by decide +kernel) rfl rfl ?_
        refine g_goto (off := (-38)) (tgt := 19) (by decide +kernel) (by decide) ?_
        exact ih v2 v3 v4 (v5 + 1) u
      · refine g_seg0 (pc' := 43) (L' := [some (vR (kO 0) 154), some (vR (kO 2) o1), some (vI v2), some (vI v3), some (vI v4), some (vI v5)]) (st' := [vI v5, vI v3, vI v2, vR (kO 2) o1, vR (kO 0) 154]) (u1 := u) [(oL 2 0, 1), (oL 2 1, 1), (oL 0 2, 1), (oL 0 3, 1), (oL 0 5, 2)] (by decide +kernel) rfl rfl ?_
        refine g_callV (k := 50) (pc2 := 46) (st := []) (CX0_mostBy o1 v2 v3 v5 u) miX0_mostBy mvX0_mostBy rfl (by decide) lk0_50 wI_ok (by decide +kernel) rfl (Nat.le_of_ble_eq_true rfl) (by decide) rfl (fun q1 hq1 => ?_)
        refine g_seg0 (pc' := 48) (L' := [some (vR (kO 0) 154), some (vR (kO 2) o1), some (vI v2), some (vI v3), some (vI v4), some (vI v5)]) (st' := [vI v4, vI (q1.1)]) (u1 := q1.2) [(oL 0 4, 2)] (by decide +kernel) rfl rfl ?_
        refine g_ine (off := 6) (tgt := 54) (pc2 := 51) (by decide +kernel) (by decide) rfl ?_ ?_
        · refine g_seg0 (pc' := 57) (L' := [some (vR (kO 0) 154), some (vR (kO 2) o1), some (vI v2), some (vI v3), some (vI v4), some (vI (v5 + 1))]) (st' := []) (u1 := q1.2) [(oN 5 1, 3)] (by decide +kernel) rfl rfl ?_
          refine g_goto (off := (-38)) (tgt := 19) (by decide +kernel) (by decide) ?_
          exact ih v2 v3 v4 (v5 + 1) q1.2
        · refine g_seg0 (pc' := 53) (L' := [some (vR (kO 0) 154), some (vR (kO 2) o1), some (vI v2), some (vI v3), some (vI v4), some (vI v5)]) (st' := [vI v5]) (u1 := q1.2) [(oL 0 5, 2)] (by decide +kernel) rfl rfl ?_
          exact g_iret (by decide +kernel) rfl
def fX0_firstBest (o1 : Nat) (v2 : Int32) (v3 : Int32) (u : ab_S) : Option (Int32 × ab_S) :=
  (fX9_at 1792 156 ((v2 * 256) + v3) u).bind fun q2 =>
    fX0_firstBest_19 o1 fu v2 v3 q2.1 0 q2.2
theorem tX0_firstBest (o1 : Nat) (v2 : Int32) (v3 : Int32) (u : ab_S) : ab_G 0 0 cX0_firstBest (some .int) 3 0 [some (vR (kO 0) 154), some (vR (kO 2) o1), some (vI v2), some (vI v3), none, none] [] u wI (fX0_firstBest o1 v2 v3 u) := by
  rw [fX0_firstBest]
  refine g_seg0 (pc' := 11) (L' := [some (vR (kO 0) 154), some (vR (kO 2) o1), some (vI v2), some (vI v3), none, none]) (st' := [vI ((v2 * 256) + v3), vR (kA 0 1792) 156]) (u1 := u) [(oL 2 0, 1), (oP (.getfield 15), 3), (oL 0 2, 1), (oC 256, 3), (oP .imul, 1), (oL 0 3, 1), (oP .iadd, 1)] (by decide +kernel) rfl rfl ?_
  refine g_callS (k := 43) (pc2 := 14) (st := []) (CX9_at 1792 156 ((v2 * 256) + v3) u) miX9_at msX9_at lk0_43 wI_ok (by decide +kernel) rfl (Nat.le_of_ble_eq_true rfl) (by decide) rfl (fun q2 hq2 => ?_)
  refine g_seg0 (pc' := 19) (L' := [some (vR (kO 0) 154), some (vR (kO 2) o1), some (vI v2), some (vI v3), some (vI (q2.1)), some (vI 0)]) (st' := []) (u1 := q2.2) [(oL 3 4, 2), (oC 0, 1), (oL 3 5, 2)] (by decide +kernel) rfl rfl ?_
  exact tX0_firstBest_19 o1 fu v2 v3 q2.1 0 q2.2
theorem CX0_firstBest (o1 : Nat) (v2 : Int32) (v3 : Int32) (u : ab_S) : ab_C 0 yX0_firstBest cX0_firstBest 6 (some .int) 3 [vR (kO 0) 154, vR (kO 2) o1, vI v2, vI v3] u wI (fX0_firstBest o1 v2 v3 u) := ab_entry (by decide +kernel) rfl (by decide) (by decide) (fun _ => Nat.le_of_ble_eq_true rfl) rfl (tX0_firstBest o1 v2 v3 u)
def fX0_mostFrom_21 (o1 : Nat) : Nat → Int32 → Int32 → Int32 → Int32 → Int32 → ab_S → Option (Int32 × ab_S)
  | 0, _, _, _, _, _, _ => none
  | n + 1, v2, v3, v4, v5, v6, u =>
  bif decide (v6 < (u.1 o1 1)) then (
    bif decide (v4 = 0) then (
      bif decide (((v3 >>> (v6 &&& 31)) &&& 1) = 0) then (
        (fX0_mostBy o1 v2 v3 v6 u).bind fun q1 =>
          (fX0_mostFrom_21 o1 n) v2 v3 v4 (if v5 < q1.1 then q1.1 else v5) (v6 + 1) q1.2)
      else (
        (fX0_mostFrom_21 o1 n) v2 v3 v4 v5 (v6 + 1) u))
    else (
      some (v5, u)))
  else (
    some (v5, u))
theorem tX0_mostFrom_21 (o1 : Nat) : ∀ (n : Nat) (v2 : Int32) (v3 : Int32) (v4 : Int32) (v5 : Int32) (v6 : Int32) (u : ab_S), ab_G 0 0 cX0_mostFrom (some .int) 3 21 [some (vR (kO 0) 154), some (vR (kO 2) o1), some (vI v2), some (vI v3), some (vI v4), some (vI v5), some (vI v6)] [] u wI (fX0_mostFrom_21 o1 n v2 v3 v4 v5 v6 u) := by
  intro n
  induction n with
  | zero => intros; exact g_none
  | succ n ih =>
    intro v2 v3 v4 v5 v6 u
    rw [fX0_mostFrom_21]
    refine g_seg0 (pc' := 27) (L' := [some (vR (kO 0) 154), some (vR (kO 2) o1), some (vI v2), some (vI v3), some (vI v4), some (vI v5), some (vI v6)]) (st' := [vI (u.1 o1 1), vI v6]) (u1 := u) [(oL 0 6, 2), (oL 2 1, 1), (oP (.getfield 47), 3)] (by decide +kernel) rfl rfl ?_
    refine g_ige (off := 39) (tgt := 66) (pc2 := 30) (by decide +kernel) (by decide) rfl ?_ ?_
    · refine g_seg0 (pc' := 68) (L' := [some (vR (kO 0) 154), some (vR (kO 2) o1), some (vI v2), some (vI v3), some (vI v4), some (vI v5), some (vI v6)]) (st' := [vI v5]) (u1 := u) [(oL 0 5, 2)] (by decide +kernel) rfl rfl ?_
      exact g_iret (by decide +kernel) rfl
    · refine g_seg0 (pc' := 32) (L' := [some (vR (kO 0) 154), some (vR (kO 2) o1), some (vI v2), some (vI v3), some (vI v4), some (vI v5), some (vI v6)]) (st' := [vI v4]) (u1 := u) [(oL 0 4, 2)] (by decide +kernel) rfl rfl ?_
      refine g_zne (off := 34) (tgt := 66) (pc2 := 35) (by decide +kernel) (by decide) rfl ?_ ?_
      · refine g_seg0 (pc' := 68) (L' := [some (vR (kO 0) 154), some (vR (kO 2) o1), some (vI v2), some (vI v3), some (vI v4), some (vI v5), some (vI v6)]) (st' := [vI v5]) (u1 := u) [(oL 0 5, 2)] (by decide +kernel) rfl rfl ?_
        exact g_iret (by decide +kernel) rfl
      · refine g_seg0 (pc' := 41) (L' := [some (vR (kO 0) 154), some (vR (kO 2) o1), some (vI v2), some (vI v3), some (vI v4), some (vI v5), some (vI v6)]) (st' := [vI ((v3 >>> (v6 &&& 31)) &&& 1)]) (u1 := u) [(oL 0 3, 1), (oL 0 6, 2), (oP .ishr, 1), (oC 1, 1), (oP .iand, 1)] (by decide +kernel) rfl rfl ?_
        refine g_zne (off := 19) (tgt := 60) (pc2 := 44) (by decide +kernel) (by decide) rfl ?_ ?_
        · refine g_seg0 (pc' := 63) (L' := [some (vR (kO 0) 154), some (vR (kO 2) o1), some (vI v2), some (vI v3), some (vI v4), some (vI v5), some (vI (v6 + 1))]) (st' := []) (u1 := u) [(oN 6 1, 3)] (by decide +kernel) rfl rfl ?_
          refine g_goto (off := (-42)) (tgt := 21) (by decide +kernel) (by decide) ?_
          exact ih v2 v3 v4 v5 (v6 + 1) u
        · refine g_seg0 (pc' := 52) (L' := [some (vR (kO 0) 154), some (vR (kO 2) o1), some (vI v2), some (vI v3), some (vI v4), some (vI v5), some (vI v6)]) (st' := [vI v6, vI v3, vI v2, vR (kO 2) o1, vR (kO 0) 154, vI v5]) (u1 := u) [(oL 0 5, 2), (oL 2 0, 1), (oL 2 1, 1), (oL 0 2, 1), (oL 0 3, 1), (oL 0 6, 2)] (by decide +kernel) rfl rfl ?_
          refine g_callV (k := 50) (pc2 := 55) (st := [vI v5]) (CX0_mostBy o1 v2 v3 v6 u) miX0_mostBy mvX0_mostBy rfl (by decide) lk0_50 wI_ok (by decide +kernel) rfl (Nat.le_of_ble_eq_true rfl) (by decide) rfl (fun q1 hq1 => ?_)
          refine g_max (k := 72) (pc2 := 58) (st := []) lm0_72 (by decide +kernel) (Nat.le_of_ble_eq_true rfl) (by decide) rfl ?_
          refine g_seg0 (pc' := 63) (L' := [some (vR (kO 0) 154), some (vR (kO 2) o1), some (vI v2), some (vI v3), some (vI v4), some (vI (if v5 < q1.1 then q1.1 else v5)), some (vI (v6 + 1))]) (st' := []) (u1 := q1.2) [(oL 3 5, 2), (oN 6 1, 3)] (by decide +kernel) rfl rfl ?_
          refine g_goto (off := (-42)) (tgt := 21) (by decide +kernel) (by decide) ?_
          exact ih v2 v3 v4 (if v5 < q1.1 then q1.1 else v5) (v6 + 1) q1.2
def fX0_mostFrom (o1 : Nat) (v2 : Int32) (v3 : Int32) (v4 : Int32) (u : ab_S) : Option (Int32 × ab_S) :=
  (fX9_at 1792 156 (((v2 + 1) * 256) + v3) u).bind fun q2 =>
    fX0_mostFrom_21 o1 fu v2 v3 v4 q2.1 0 q2.2
theorem tX0_mostFrom (o1 : Nat) (v2 : Int32) (v3 : Int32) (v4 : Int32) (u : ab_S) : ab_G 0 0 cX0_mostFrom (some .int) 3 0 [some (vR (kO 0) 154), some (vR (kO 2) o1), some (vI v2), some (vI v3), some (vI v4), none, none] [] u wI (fX0_mostFrom o1 v2 v3 v4 u) := by
  rw [fX0_mostFrom]
  refine g_seg0 (pc' := 13) (L' := [some (vR (kO 0) 154), some (vR (kO 2) o1), some (vI v2), some (vI v3), some (vI v4), none, none]) (st' := [vI (((v2 + 1) * 256) + v3), vR (kA 0 1792) 156]) (u1 := u) [(oL 2 0, 1), (oP (.getfield 15), 3), (oL 0 2, 1), (oC 1, 1), (oP .iadd, 1), (oC 256, 3), (oP .imul, 1), (oL 0 3, 1), (oP .iadd, 1)] (by decide +kernel) rfl rfl ?_
  refine g_callS (k := 43) (pc2 := 16) (st := []) (CX9_at 1792 156 (((v2 + 1) * 256) + v3) u) miX9_at msX9_at lk0_43 wI_ok (by decide +kernel) rfl (Nat.le_of_ble_eq_true rfl) (by decide) rfl (fun q2 hq2 => ?_)
  refine g_seg0 (pc' := 21) (L' := [some (vR (kO 0) 154), some (vR (kO 2) o1), some (vI v2), some (vI v3), some (vI v4), some (vI (q2.1)), some (vI 0)]) (st' := []) (u1 := q2.2) [(oL 3 5, 2), (oC 0, 1), (oL 3 6, 2)] (by decide +kernel) rfl rfl ?_
  exact tX0_mostFrom_21 o1 fu v2 v3 v4 q2.1 0 q2.2
theorem CX0_mostFrom (o1 : Nat) (v2 : Int32) (v3 : Int32) (v4 : Int32) (u : ab_S) : ab_C 0 yX0_mostFrom cX0_mostFrom 7 (some .int) 3 [vR (kO 0) 154, vR (kO 2) o1, vI v2, vI v3, vI v4] u wI (fX0_mostFrom o1 v2 v3 v4 u) := ab_entry (by decide +kernel) rfl (by decide) (by decide) (fun _ => Nat.le_of_ble_eq_true rfl) rfl (tX0_mostFrom o1 v2 v3 v4 u)
def fX0_mostWithout_92 (o1 : Nat) (k40 : Int32 → Int32 → ab_S → Option (Int32 × ab_S)) (k47 : Int32 → Int32 → Int32 → ab_S → Option (Int32 × ab_S)) (v2 : Int32) (v3 : Int32) (v4 : Int32) (s1 : Int32) (s4 : Int32) (s5 : Int32) (s6 : Int32) (u : ab_S) : Option (Int32 × ab_S) :=
  (fX0_mostFrom o1 s4 s5 s6 u).bind fun q1 =>
    (fX9_put 1792 156 s1 q1.1 q1.2).bind fun q2 =>
      k47 v2 v3 (v4 + 1) q2.2
theorem tX0_mostWithout_92 (o1 : Nat) (k40 : Int32 → Int32 → ab_S → Option (Int32 × ab_S)) (k47 : Int32 → Int32 → Int32 → ab_S → Option (Int32 × ab_S)) (hk40 : ∀ (v2 : Int32) (v3 : Int32) (u : ab_S), ab_G 0 0 cX0_mostWithout (some .int) 4 40 [some (vR (kO 0) 154), some (vR (kO 2) o1), some (vI v2), some (vI v3), none] [] u wI (k40 v2 v3 u)) (hk47 : ∀ (v2 : Int32) (v3 : Int32) (v4 : Int32) (u : ab_S), ab_G 0 0 cX0_mostWithout (some .int) 4 47 [some (vR (kO 0) 154), some (vR (kO 2) o1), some (vI v2), some (vI v3), some (vI v4)] [] u wI (k47 v2 v3 v4 u)) (v2 : Int32) (v3 : Int32) (v4 : Int32) (s1 : Int32) (s4 : Int32) (s5 : Int32) (s6 : Int32) (u : ab_S) : ab_G 0 0 cX0_mostWithout (some .int) 4 92 [some (vR (kO 0) 154), some (vR (kO 2) o1), some (vI v2), some (vI v3), some (vI v4)] [vI s6, vI s5, vI s4, vR (kO 2) o1, vR (kO 0) 154, vI s1, vR (kA 0 1792) 156] u wI (fX0_mostWithout_92 o1 k40 k47 v2 v3 v4 s1 s4 s5 s6 u) := by
  rw [fX0_mostWithout_92]
  refine g_callV (k := 68) (pc2 := 95) (st := [vI s1, vR (kA 0 1792) 156]) (CX0_mostFrom o1 s4 s5 s6 u) miX0_mostFrom mvX0_mostFrom rfl (by decide) lk0_68 wI_ok (by decide +kernel) rfl (Nat.le_of_ble_eq_true rfl) (by decide) rfl (fun q1 hq1 => ?_)
  refine g_callS (k := 39) (pc2 := 98) (st := []) (CX9_put 1792 156 s1 q1.1 q1.2) miX9_put msX9_put lk0_39 wV_ok (by decide +kernel) rfl (Nat.le_of_ble_eq_true rfl) (by decide) rfl (fun q2 hq2 => ?_)
  refine g_seg0 (pc' := 101) (L' := [some (vR (kO 0) 154), some (vR (kO 2) o1), some (vI v2), some (vI v3), some (vI (v4 + 1))]) (st' := []) (u1 := q2.2) [(oN 4 1, 3)] (by decide +kernel) rfl rfl ?_
  refine g_goto (off := (-54)) (tgt := 47) (by decide +kernel) (by decide) ?_
  exact hk47 v2 v3 (v4 + 1) q2.2
def fX0_mostWithout_47 (o1 : Nat) (k40 : Int32 → Int32 → ab_S → Option (Int32 × ab_S)) : Nat → Int32 → Int32 → Int32 → ab_S → Option (Int32 × ab_S)
  | 0, _, _, _, _ => none
  | n + 1, v2, v3, v4, u =>
  (fX2_allGoods o1 u).bind fun q3 =>
    bif decide (v4 ≤ q3.1) then (
      (fJ6_bitCount_0f7a4 v4 q3.2).bind fun q4 =>
        bif decide (q4.1 ≤ v3) then (
          bif decide (v3 = v2) then (
            fX0_mostWithout_92 o1 k40 (fX0_mostWithout_47 o1 k40 n) v2 v3 v4 ((v3 * 256) + v4) v3 v4 1 q4.2)
          else (
            fX0_mostWithout_92 o1 k40 (fX0_mostWithout_47 o1 k40 n) v2 v3 v4 ((v3 * 256) + v4) v3 v4 0 q4.2))
        else (
          (fX0_mostWithout_47 o1 k40 n) v2 v3 (v4 + 1) q4.2))
    else (
      k40 v2 (v3 + (-1)) q3.2)
theorem tX0_mostWithout_47 (o1 : Nat) (k40 : Int32 → Int32 → ab_S → Option (Int32 × ab_S)) (hk40 : ∀ (v2 : Int32) (v3 : Int32) (u : ab_S), ab_G 0 0 cX0_mostWithout (some .int) 4 40 [some (vR (kO 0) 154), some (vR (kO 2) o1), some (vI v2), some (vI v3), none] [] u wI (k40 v2 v3 u)) : ∀ (n : Nat) (v2 : Int32) (v3 : Int32) (v4 : Int32) (u : ab_S), ab_G 0 0 cX0_mostWithout (some .int) 4 47 [some (vR (kO 0) 154), some (vR (kO 2) o1), some (vI v2), some (vI v3), some (vI v4)] [] u wI (fX0_mostWithout_47 o1 k40 n v2 v3 v4 u) := by
  intro n
  induction n with
  | zero => intros; exact g_none
  | succ n ih =>
    intro v2 v3 v4 u
    rw [fX0_mostWithout_47]
    refine g_seg0 (pc' := 50) (L' := [some (vR (kO 0) 154), some (vR (kO 2) o1), some (vI v2), some (vI v3), some (vI v4)]) (st' := [vR (kO 2) o1, vI v4]) (u1 := u) [(oL 0 4, 2), (oL 2 1, 1)] (by decide +kernel) rfl rfl ?_
    refine g_callV (k := 58) (pc2 := 53) (st := [vI v4]) (CX2_allGoods o1 u) miX2_allGoods mvX2_allGoods rfl (by decide) lk0_58 wI_ok (by decide +kernel) rfl (Nat.le_of_ble_eq_true rfl) (by decide) rfl (fun q3 hq3 => ?_)
    refine g_igt (off := 51) (tgt := 104) (pc2 := 56) (by decide +kernel) (by decide) rfl ?_ ?_
    · refine g_seg0 (pc' := 107) (L' := [some (vR (kO 0) 154), some (vR (kO 2) o1), some (vI v2), some (vI (v3 + (-1))), some (vI v4)]) (st' := []) (u1 := q3.2) [(oN 3 (-1), 3)] (by decide +kernel) rfl rfl ?_
      refine g_goto (off := (-67)) (tgt := 40) (by decide +kernel) (by decide) ?_
      exact g_jump [true, true, true, true, false] rfl (hk40 v2 (v3 + (-1)) q3.2)
    · refine g_seg0 (pc' := 58) (L' := [some (vR (kO 0) 154), some (vR (kO 2) o1), some (vI v2), some (vI v3), some (vI v4)]) (st' := [vI v4]) (u1 := q3.2) [(oL 0 4, 2)] (by decide +kernel) rfl rfl ?_
      refine g_callS (k := 62) (pc2 := 61) (st := []) (CJ6_bitCount_0f7a4 v4 q3.2) miJ6_bitCount_0f7a4 msJ6_bitCount_0f7a4 lk0_62 wI_ok (by decide +kernel) rfl (Nat.le_of_ble_eq_true rfl) (by decide) rfl (fun q4 hq4 => ?_)
      refine g_seg0 (pc' := 62) (L' := [some (vR (kO 0) 154), some (vR (kO 2) o1), some (vI v2), some (vI v3), some (vI v4)]) (st' := [vI v3, vI (q4.1)]) (u1 := q4.2) [(oL 0 3, 1)] (by decide +kernel) rfl rfl ?_
      refine g_igt (off := 36) (tgt := 98) (pc2 := 65) (by decide +kernel) (by decide) rfl ?_ ?_
      · refine g_seg0 (pc' := 101) (L' := [some (vR (kO 0) 154), some (vR (kO 2) o1), some (vI v2), some (vI v3), some (vI (v4 + 1))]) (st' := []) (u1 := q4.2) [(oN 4 1, 3)] (by decide +kernel) rfl rfl ?_
        refine g_goto (off := (-54)) (tgt := 47) (by decide +kernel) (by decide) ?_
        exact ih v2 v3 (v4 + 1) q4.2
      · refine g_seg0 (pc' := 84) (L' := [some (vR (kO 0) 154), some (vR (kO 2) o1), some (vI v2), some (vI v3), some (vI v4)]) (st' := [vI v2, vI v3, vI v4, vI v3, vR (kO 2) o1, vR (kO 0) 154, vI ((v3 * 256) + v4), vR (kA 0 1792) 156]) (u1 := q4.2) [(oL 2 0, 1), (oP (.getfield 15), 3), (oL 0 3, 1), (oC 256, 3), (oP .imul, 1), (oL 0 4, 2), (oP .iadd, 1), (oL 2 0, 1), (oL 2 1, 1), (oL 0 3, 1), (oL 0 4, 2), (oL 0 3, 1), (oL 0 2, 1)] (by decide +kernel) rfl rfl ?_
        refine g_ine (off := 7) (tgt := 91) (pc2 := 87) (by decide +kernel) (by decide) rfl ?_ ?_
        · refine g_seg0 (pc' := 92) (L' := [some (vR (kO 0) 154), some (vR (kO 2) o1), some (vI v2), some (vI v3), some (vI v4)]) (st' := [vI 0, vI v4, vI v3, vR (kO 2) o1, vR (kO 0) 154, vI ((v3 * 256) + v4), vR (kA 0 1792) 156]) (u1 := q4.2) [(oC 0, 1)] (by decide +kernel) rfl rfl ?_
          exact tX0_mostWithout_92 o1 k40 (fX0_mostWithout_47 o1 k40 n) hk40 ih v2 v3 v4 ((v3 * 256) + v4) v3 v4 0 q4.2
        · refine g_seg0 (pc' := 88) (L' := [some (vR (kO 0) 154), some (vR (kO 2) o1), some (vI v2), some (vI v3), some (vI v4)]) (st' := [vI 1, vI v4, vI v3, vR (kO 2) o1, vR (kO 0) 154, vI ((v3 * 256) + v4), vR (kA 0 1792) 156]) (u1 := q4.2) [(oC 1, 1)] (by decide +kernel) rfl rfl ?_
          refine g_goto (off := 4) (tgt := 92) (by decide +kernel) (by decide) ?_
          exact tX0_mostWithout_92 o1 k40 (fX0_mostWithout_47 o1 k40 n) hk40 ih v2 v3 v4 ((v3 * 256) + v4) v3 v4 1 q4.2
def fX0_mostWithout_40 (o1 : Nat) : Nat → Int32 → Int32 → ab_S → Option (Int32 × ab_S)
  | 0, _, _, _ => none
  | n + 1, v2, v3, u =>
  bif decide (v3 < 0) then (
    (fX9_at 1792 156 0 u).bind fun q5 =>
      some (q5.1, q5.2))
  else (
    fX0_mostWithout_47 o1 (fX0_mostWithout_40 o1 n) fu v2 v3 0 u)
theorem tX0_mostWithout_40 (o1 : Nat) : ∀ (n : Nat) (v2 : Int32) (v3 : Int32) (u : ab_S), ab_G 0 0 cX0_mostWithout (some .int) 4 40 [some (vR (kO 0) 154), some (vR (kO 2) o1), some (vI v2), some (vI v3), none] [] u wI (fX0_mostWithout_40 o1 n v2 v3 u) := by
  intro n
  induction n with
  | zero => intros; exact g_none
  | succ n ih =>
    intro v2 v3 u
    rw [fX0_mostWithout_40]
    refine g_seg0 (pc' := 41) (L' := [some (vR (kO 0) 154), some (vR (kO 2) o1), some (vI v2), some (vI v3), none]) (st' := [vI v3]) (u1 := u) [(oL 0 3, 1)] (by decide +kernel) rfl rfl ?_
    refine g_zlt (off := 69) (tgt := 110) (pc2 := 44) (by decide +kernel) (by decide) rfl ?_ ?_
    · refine g_seg0 (pc' := 115) (L' := [some (vR (kO 0) 154), some (vR (kO 2) o1), some (vI v2), some (vI v3), none]) (st' := [vI 0, vR (kA 0 1792) 156]) (u1 := u) [(oL 2 0, 1), (oP (.getfield 15), 3), (oC 0, 1)] (by decide +kernel) rfl rfl ?_
      refine g_callS (k := 43) (pc2 := 118) (st := []) (CX9_at 1792 156 0 u) miX9_at msX9_at lk0_43 wI_ok (by decide +kernel) rfl (Nat.le_of_ble_eq_true rfl) (by decide) rfl (fun q5 hq5 => ?_)
      exact g_iret (by decide +kernel) rfl
    · refine g_seg0 (pc' := 47) (L' := [some (vR (kO 0) 154), some (vR (kO 2) o1), some (vI v2), some (vI v3), some (vI 0)]) (st' := []) (u1 := u) [(oC 0, 1), (oL 3 4, 2)] (by decide +kernel) rfl rfl ?_
      exact tX0_mostWithout_47 o1 (fX0_mostWithout_40 o1 n) ih fu v2 v3 0 u
def fX0_mostWithout_2 (o1 : Nat) : Nat → Int32 → Int32 → ab_S → Option (Int32 × ab_S)
  | 0, _, _, _ => none
  | n + 1, v2, v3, u =>
  bif decide (v3 < 256) then (
    (fX9_put 1792 156 (((u.1 o1 0) * 256) + v3) 0 u).bind fun q6 =>
      (fX0_mostWithout_2 o1 n) v2 (v3 + 1) q6.2)
  else (
    fX0_mostWithout_40 o1 fu v2 ((u.1 o1 0) - 1) u)
theorem tX0_mostWithout_2 (o1 : Nat) : ∀ (n : Nat) (v2 : Int32) (v3 : Int32) (u : ab_S), ab_G 0 0 cX0_mostWithout (some .int) 4 2 [some (vR (kO 0) 154), some (vR (kO 2) o1), some (vI v2), some (vI v3), none] [] u wI (fX0_mostWithout_2 o1 n v2 v3 u) := by
  intro n
  induction n with
  | zero => intros; exact g_none
  | succ n ih =>
    intro v2 v3 u
    rw [fX0_mostWithout_2]
    refine g_seg0 (pc' := 6) (L' := [some (vR (kO 0) 154), some (vR (kO 2) o1), some (vI v2), some (vI v3), none]) (st' := [vI 256, vI v3]) (u1 := u) [(oL 0 3, 1), (oC 256, 3)] (by decide +kernel) rfl rfl ?_
    refine g_ige (off := 27) (tgt := 33) (pc2 := 9) (by decide +kernel) (by decide) rfl ?_ ?_
    · refine g_seg0 (pc' := 40) (L' := [some (vR (kO 0) 154), some (vR (kO 2) o1), some (vI v2), some (vI ((u.1 o1 0) - 1)), none]) (st' := []) (u1 := u) [(oL 2 1, 1), (oP (.getfield 30), 3), (oC 1, 1), (oP .isub, 1), (oL 3 3, 1)] (by decide +kernel) rfl rfl ?_
      exact tX0_mostWithout_40 o1 fu v2 ((u.1 o1 0) - 1) u
    · refine g_seg0 (pc' := 24) (L' := [some (vR (kO 0) 154), some (vR (kO 2) o1), some (vI v2), some (vI v3), none]) (st' := [vI 0, vI (((u.1 o1 0) * 256) + v3), vR (kA 0 1792) 156]) (u1 := u) [(oL 2 0, 1), (oP (.getfield 15), 3), (oL 2 1, 1), (oP (.getfield 30), 3), (oC 256, 3), (oP .imul, 1), (oL 0 3, 1), (oP .iadd, 1), (oC 0, 1)] (by decide +kernel) rfl rfl ?_
      refine g_callS (k := 39) (pc2 := 27) (st := []) (CX9_put 1792 156 (((u.1 o1 0) * 256) + v3) 0 u) miX9_put msX9_put lk0_39 wV_ok (by decide +kernel) rfl (Nat.le_of_ble_eq_true rfl) (by decide) rfl (fun q6 hq6 => ?_)
      refine g_seg0 (pc' := 30) (L' := [some (vR (kO 0) 154), some (vR (kO 2) o1), some (vI v2), some (vI (v3 + 1)), none]) (st' := []) (u1 := q6.2) [(oN 3 1, 3)] (by decide +kernel) rfl rfl ?_
      refine g_goto (off := (-28)) (tgt := 2) (by decide +kernel) (by decide) ?_
      exact ih v2 (v3 + 1) q6.2
def fX0_mostWithout (o1 : Nat) (v2 : Int32) (u : ab_S) : Option (Int32 × ab_S) :=
  fX0_mostWithout_2 o1 fu v2 0 u
theorem tX0_mostWithout (o1 : Nat) (v2 : Int32) (u : ab_S) : ab_G 0 0 cX0_mostWithout (some .int) 4 0 [some (vR (kO 0) 154), some (vR (kO 2) o1), some (vI v2), none, none] [] u wI (fX0_mostWithout o1 v2 u) := by
  rw [fX0_mostWithout]
  refine g_seg0 (pc' := 2) (L' := [some (vR (kO 0) 154), some (vR (kO 2) o1), some (vI v2), some (vI 0), none]) (st' := []) (u1 := u) [(oC 0, 1), (oL 3 3, 1)] (by decide +kernel) rfl rfl ?_
  exact tX0_mostWithout_2 o1 fu v2 0 u
theorem CX0_mostWithout (o1 : Nat) (v2 : Int32) (u : ab_S) : ab_C 0 yX0_mostWithout cX0_mostWithout 5 (some .int) 4 [vR (kO 0) 154, vR (kO 2) o1, vI v2] u wI (fX0_mostWithout o1 v2 u) := ab_entry (by decide +kernel) rfl (by decide) (by decide) (fun _ => Nat.le_of_ble_eq_true rfl) rfl (tX0_mostWithout o1 v2 u)
