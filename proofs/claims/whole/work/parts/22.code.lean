/-! methods, printed by program out of the listing: function, walk, contract -/
def fX1_readLevel_29 (rX1_readLevel : Nat → Int32 → Int32 → ab_S → Option (Int32 × ab_S)) (rX1_readPart : Nat → Int32 → ab_S → Option (Int32 × ab_S)) (rX1_readNot : Nat → Int32 → ab_S → Option (Int32 × ab_S)) (rX1_readBrackets : Nat → Int32 → ab_S → Option (Int32 × ab_S)) (o0 : Nat) : Nat → Int32 → Int32 → Int32 → ab_S → Option (Int32 × ab_S)
  | 0, _, _, _, _ => none
  | n + 1, v2, v3, v4, u =>
  bif decide (v4 < 1000) then (
    (fX1_operatorAt v2 u).bind fun q1 =>
      bif decide (q1.1 = 0) then (
        ab_gd [ab_b1 1] (some (1, q1.2)))
      else (
        (fX6_step q1.2).bind fun q2 =>
          (rX1_readLevel o0 (v2 + 1) v3 q2.2).bind fun q3 =>
            bif decide (q3.1 = 0) then (
              ab_gd [ab_b1 0] (some (0, q3.2)))
            else (
              (fX1_add o0 q1.1 q3.2).bind fun q4 =>
                bif decide (v2 = 1) then (
                  ab_gd [ab_b1 1] (some (1, q4.2)))
                else (
                  (fX1_readLevel_29 rX1_readLevel rX1_readPart rX1_readNot rX1_readBrackets o0 n) v2 v3 (v4 + 1) q4.2))))
  else (
    ab_gd [ab_b1 1] (some (1, u)))
theorem tX1_readLevel_29 (rX1_readLevel : Nat → Int32 → Int32 → ab_S → Option (Int32 × ab_S)) (rX1_readPart : Nat → Int32 → ab_S → Option (Int32 × ab_S)) (rX1_readNot : Nat → Int32 → ab_S → Option (Int32 × ab_S)) (rX1_readBrackets : Nat → Int32 → ab_S → Option (Int32 × ab_S)) {dd : Nat} (hX1_readLevel : ∀ (o0 : Nat) (v2 : Int32) (v3 : Int32) (u : ab_S), ab_C 0 yX1_readLevel cX1_readLevel 6 (some .boolean) dd [vR (kO 1) o0, vR (kO 6) 1, vI v2, vI v3] u wI (rX1_readLevel o0 v2 v3 u)) (hX1_readPart : ∀ (o0 : Nat) (v2 : Int32) (u : ab_S), ab_C 0 yX1_readPart cX1_readPart 7 (some .boolean) dd [vR (kO 1) o0, vR (kO 6) 1, vI v2] u wI (rX1_readPart o0 v2 u)) (hX1_readNot : ∀ (o0 : Nat) (v2 : Int32) (u : ab_S), ab_C 0 yX1_readNot cX1_readNot 3 (some .boolean) dd [vR (kO 1) o0, vR (kO 6) 1, vI v2] u wI (rX1_readNot o0 v2 u)) (hX1_readBrackets : ∀ (o0 : Nat) (v2 : Int32) (u : ab_S), ab_C 0 yX1_readBrackets cX1_readBrackets 3 (some .boolean) dd [vR (kO 1) o0, vR (kO 6) 1, vI v2] u wI (rX1_readBrackets o0 v2 u)) (hdd : 1 ≤ dd) (o0 : Nat) : ∀ (n : Nat) (v2 : Int32) (v3 : Int32) (v4 : Int32) (u : ab_S), ab_G 0 1 cX1_readLevel (some .boolean) (dd + 1) 29 [some (vR (kO 1) o0), some (vR (kO 6) 1), some (vI v2), some (vI v3), some (vI v4), none] [] u wI (fX1_readLevel_29 rX1_readLevel rX1_readPart rX1_readNot rX1_readBrackets o0 n v2 v3 v4 u) := by
  intro n
  induction n with
  | zero => intros; exact g_none
  | succ n ih =>
    intro v2 v3 v4 u
    rw [fX1_readLevel_29]
    refine g_seg0 (pc' := 34) (L' := [some (vR (kO 1) o0), some (vR (kO 6) 1), some (vI v2), some (vI v3), some (vI v4), none]) (st' := [vI 1000, vI v4]) (u1 := u) [(oL 0 4, 2), (oC 1000, 3)] (by decide +kernel) rfl rfl ?_
    refine g_ige (off := 54) (tgt := 88) (pc2 := 37) (by decide +kernel) (by decide) rfl ?_ ?_
    · refine g_seg0 (pc' := 89) (L' := [some (vR (kO 1) o0), some (vR (kO 6) 1), some (vI v2), some (vI v3), some (vI v4), none]) (st' := [vI 1]) (u1 := u) [(oC 1, 1)] (by decide +kernel) rfl rfl ?_
      exact g_zret (by decide +kernel) rfl
    · refine g_seg0 (pc' := 39) (L' := [some (vR (kO 1) o0), some (vR (kO 6) 1), some (vI v2), some (vI v3), some (vI v4), none]) (st' := [vI v2, vR (kO 6) 1]) (u1 := u) [(oL 2 1, 1), (oL 0 2, 1)] (by decide +kernel) rfl rfl ?_
      refine g_callS (k := 34) (pc2 := 42) (st := []) (CX1_operatorAt v2 u) miX1_operatorAt msX1_operatorAt lk1_34 wI_ok (by decide +kernel) rfl (Nat.le_of_ble_eq_true rfl) (by omega) rfl (fun q1 hq1 => ?_)
      refine g_seg0 (pc' := 46) (L' := [some (vR (kO 1) o0), some (vR (kO 6) 1), some (vI v2), some (vI v3), some (vI v4), some (vI (q1.1))]) (st' := [vI (q1.1)]) (u1 := q1.2) [(oL 3 5, 2), (oL 0 5, 2)] (by decide +kernel) rfl rfl ?_
      refine g_zne (off := 5) (tgt := 51) (pc2 := 49) (by decide +kernel) (by decide) rfl ?_ ?_
      · refine g_seg0 (pc' := 52) (L' := [some (vR (kO 1) o0), some (vR (kO 6) 1), some (vI v2), some (vI v3), some (vI v4), some (vI (q1.1))]) (st' := [vR (kO 6) 1]) (u1 := q1.2) [(oL 2 1, 1)] (by decide +kernel) rfl rfl ?_
        refine g_callV (k := 38) (pc2 := 55) (st := []) (CX6_step q1.2) miX6_step mvX6_step rfl (by decide) lk1_38 wV_ok (by decide +kernel) rfl (Nat.le_of_ble_eq_true rfl) (by omega) rfl (fun q2 hq2 => ?_)
        refine g_seg0 (pc' := 61) (L' := [some (vR (kO 1) o0), some (vR (kO 6) 1), some (vI v2), some (vI v3), some (vI v4), some (vI (q1.1))]) (st' := [vI v3, vI (v2 + 1), vR (kO 6) 1, vR (kO 1) o0]) (u1 := q2.2) [(oL 2 0, 1), (oL 2 1, 1), (oL 0 2, 1), (oC 1, 1), (oP .iadd, 1), (oL 0 3, 1)] (by decide +kernel) rfl rfl ?_
        refine g_callV (k := 30) (pc2 := 64) (st := []) (hX1_readLevel o0 (v2 + 1) v3 q2.2) miX1_readLevel mvX1_readLevel rfl (by decide) lk1_30 wI_ok (by decide +kernel) rfl (Nat.le_of_ble_eq_true rfl) (Nat.le_refl _) rfl (fun q3 hq3 => ?_)
        refine g_zne (off := 5) (tgt := 69) (pc2 := 67) (by decide +kernel) (by decide) rfl ?_ ?_
        · refine g_seg0 (pc' := 72) (L' := [some (vR (kO 1) o0), some (vR (kO 6) 1), some (vI v2), some (vI v3), some (vI v4), some (vI (q1.1))]) (st' := [vI (q1.1), vR (kO 1) o0]) (u1 := q3.2) [(oL 2 0, 1), (oL 0 5, 2)] (by decide +kernel) rfl rfl ?_
          refine g_callV (k := 22) (pc2 := 75) (st := []) (CX1_add o0 q1.1 q3.2) miX1_add mvX1_add rfl (by decide) lk1_22 wV_ok (by decide +kernel) rfl (Nat.le_of_ble_eq_true rfl) (by omega) rfl (fun q4 hq4 => ?_)
          refine g_seg0 (pc' := 77) (L' := [some (vR (kO 1) o0), some (vR (kO 6) 1), some (vI v2), some (vI v3), some (vI v4), some (vI (q1.1))]) (st' := [vI 1, vI v2]) (u1 := q4.2) [(oL 0 2, 1), (oC 1, 1)] (by decide +kernel) rfl rfl ?_
          refine g_ine (off := 5) (tgt := 82) (pc2 := 80) (by decide +kernel) (by decide) rfl ?_ ?_
          · refine g_seg0 (pc' := 85) (L' := [some (vR (kO 1) o0), some (vR (kO 6) 1), some (vI v2), some (vI v3), some (vI (v4 + 1)), some (vI (q1.1))]) (st' := []) (u1 := q4.2) [(oN 4 1, 3)] (by decide +kernel) rfl rfl ?_
            refine g_goto (off := (-56)) (tgt := 29) (by decide +kernel) (by decide) ?_
            exact g_jump [true, true, true, true, true, false] rfl (ih v2 v3 (v4 + 1) q4.2)
          · refine g_seg0 (pc' := 81) (L' := [some (vR (kO 1) o0), some (vR (kO 6) 1), some (vI v2), some (vI v3), some (vI v4), some (vI (q1.1))]) (st' := [vI 1]) (u1 := q4.2) [(oC 1, 1)] (by decide +kernel) rfl rfl ?_
            exact g_zret (by decide +kernel) rfl
        · refine g_seg0 (pc' := 68) (L' := [some (vR (kO 1) o0), some (vR (kO 6) 1), some (vI v2), some (vI v3), some (vI v4), some (vI (q1.1))]) (st' := [vI 0]) (u1 := q3.2) [(oC 0, 1)] (by decide +kernel) rfl rfl ?_
          exact g_zret (by decide +kernel) rfl
      · refine g_seg0 (pc' := 50) (L' := [some (vR (kO 1) o0), some (vR (kO 6) 1), some (vI v2), some (vI v3), some (vI v4), some (vI (q1.1))]) (st' := [vI 1]) (u1 := q1.2) [(oC 1, 1)] (by decide +kernel) rfl rfl ?_
        exact g_zret (by decide +kernel) rfl
def fX1_readLevel (rX1_readLevel : Nat → Int32 → Int32 → ab_S → Option (Int32 × ab_S)) (rX1_readPart : Nat → Int32 → ab_S → Option (Int32 × ab_S)) (rX1_readNot : Nat → Int32 → ab_S → Option (Int32 × ab_S)) (rX1_readBrackets : Nat → Int32 → ab_S → Option (Int32 × ab_S)) (o0 : Nat) (v2 : Int32) (v3 : Int32) (u : ab_S) : Option (Int32 × ab_S) :=
  bif decide (v2 ≤ 3) then (
    (rX1_readLevel o0 (v2 + 1) v3 u).bind fun q5 =>
      bif decide (q5.1 = 0) then (
        ab_gd [ab_b1 0] (some (0, q5.2)))
      else (
        fX1_readLevel_29 rX1_readLevel rX1_readPart rX1_readNot rX1_readBrackets o0 fu v2 v3 0 q5.2))
  else (
    (rX1_readPart o0 v3 u).bind fun q6 =>
      ab_gd [ab_b1 q6.1] (some (q6.1, q6.2)))
theorem tX1_readLevel (rX1_readLevel : Nat → Int32 → Int32 → ab_S → Option (Int32 × ab_S)) (rX1_readPart : Nat → Int32 → ab_S → Option (Int32 × ab_S)) (rX1_readNot : Nat → Int32 → ab_S → Option (Int32 × ab_S)) (rX1_readBrackets : Nat → Int32 → ab_S → Option (Int32 × ab_S)) {dd : Nat} (hX1_readLevel : ∀ (o0 : Nat) (v2 : Int32) (v3 : Int32) (u : ab_S), ab_C 0 yX1_readLevel cX1_readLevel 6 (some .boolean) dd [vR (kO 1) o0, vR (kO 6) 1, vI v2, vI v3] u wI (rX1_readLevel o0 v2 v3 u)) (hX1_readPart : ∀ (o0 : Nat) (v2 : Int32) (u : ab_S), ab_C 0 yX1_readPart cX1_readPart 7 (some .boolean) dd [vR (kO 1) o0, vR (kO 6) 1, vI v2] u wI (rX1_readPart o0 v2 u)) (hX1_readNot : ∀ (o0 : Nat) (v2 : Int32) (u : ab_S), ab_C 0 yX1_readNot cX1_readNot 3 (some .boolean) dd [vR (kO 1) o0, vR (kO 6) 1, vI v2] u wI (rX1_readNot o0 v2 u)) (hX1_readBrackets : ∀ (o0 : Nat) (v2 : Int32) (u : ab_S), ab_C 0 yX1_readBrackets cX1_readBrackets 3 (some .boolean) dd [vR (kO 1) o0, vR (kO 6) 1, vI v2] u wI (rX1_readBrackets o0 v2 u)) (hdd : 1 ≤ dd) (o0 : Nat) (v2 : Int32) (v3 : Int32) (u : ab_S) : ab_G 0 1 cX1_readLevel (some .boolean) (dd + 1) 0 [some (vR (kO 1) o0), some (vR (kO 6) 1), some (vI v2), some (vI v3), none, none] [] u wI (fX1_readLevel rX1_readLevel rX1_readPart rX1_readNot rX1_readBrackets o0 v2 v3 u) := by
  rw [fX1_readLevel]
  refine g_seg0 (pc' := 2) (L' := [some (vR (kO 1) o0), some (vR (kO 6) 1), some (vI v2), some (vI v3), none, none]) (st' := [vI 3, vI v2]) (u1 := u) [(oL 0 2, 1), (oC 3, 1)] (by decide +kernel) rfl rfl ?_
  refine g_ile (off := 10) (tgt := 12) (pc2 := 5) (by decide +kernel) (by decide) rfl ?_ ?_
  · refine g_seg0 (pc' := 18) (L' := [some (vR (kO 1) o0), some (vR (kO 6) 1), some (vI v2), some (vI v3), none, none]) (st' := [vI v3, vI (v2 + 1), vR (kO 6) 1, vR (kO 1) o0]) (u1 := u) [(oL 2 0, 1), (oL 2 1, 1), (oL 0 2, 1), (oC 1, 1), (oP .iadd, 1), (oL 0 3, 1)] (by decide +kernel) rfl rfl ?_
    refine g_callV (k := 30) (pc2 := 21) (st := []) (hX1_readLevel o0 (v2 + 1) v3 u) miX1_readLevel mvX1_readLevel rfl (by decide) lk1_30 wI_ok (by decide +kernel) rfl (Nat.le_of_ble_eq_true rfl) (Nat.le_refl _) rfl (fun q5 hq5 => ?_)
    refine g_zne (off := 5) (tgt := 26) (pc2 := 24) (by decide +kernel) (by decide) rfl ?_ ?_
    · refine g_seg0 (pc' := 29) (L' := [some (vR (kO 1) o0), some (vR (kO 6) 1), some (vI v2), some (vI v3), some (vI 0), none]) (st' := []) (u1 := q5.2) [(oC 0, 1), (oL 3 4, 2)] (by decide +kernel) rfl rfl ?_
      exact tX1_readLevel_29 rX1_readLevel rX1_readPart rX1_readNot rX1_readBrackets hX1_readLevel hX1_readPart hX1_readNot hX1_readBrackets hdd o0 fu v2 v3 0 q5.2
    · refine g_seg0 (pc' := 25) (L' := [some (vR (kO 1) o0), some (vR (kO 6) 1), some (vI v2), some (vI v3), none, none]) (st' := [vI 0]) (u1 := q5.2) [(oC 0, 1)] (by decide +kernel) rfl rfl ?_
      exact g_zret (by decide +kernel) rfl
  · refine g_seg0 (pc' := 8) (L' := [some (vR (kO 1) o0), some (vR (kO 6) 1), some (vI v2), some (vI v3), none, none]) (st' := [vI v3, vR (kO 6) 1, vR (kO 1) o0]) (u1 := u) [(oL 2 0, 1), (oL 2 1, 1), (oL 0 3, 1)] (by decide +kernel) rfl rfl ?_
    refine g_callV (k := 26) (pc2 := 11) (st := []) (hX1_readPart o0 v3 u) miX1_readPart mvX1_readPart rfl (by decide) lk1_26 wI_ok (by decide +kernel) rfl (Nat.le_of_ble_eq_true rfl) (Nat.le_refl _) rfl (fun q6 hq6 => ?_)
    exact g_zret (by decide +kernel) rfl
theorem CX1_readLevel (rX1_readLevel : Nat → Int32 → Int32 → ab_S → Option (Int32 × ab_S)) (rX1_readPart : Nat → Int32 → ab_S → Option (Int32 × ab_S)) (rX1_readNot : Nat → Int32 → ab_S → Option (Int32 × ab_S)) (rX1_readBrackets : Nat → Int32 → ab_S → Option (Int32 × ab_S)) {dd : Nat} (hX1_readLevel : ∀ (o0 : Nat) (v2 : Int32) (v3 : Int32) (u : ab_S), ab_C 0 yX1_readLevel cX1_readLevel 6 (some .boolean) dd [vR (kO 1) o0, vR (kO 6) 1, vI v2, vI v3] u wI (rX1_readLevel o0 v2 v3 u)) (hX1_readPart : ∀ (o0 : Nat) (v2 : Int32) (u : ab_S), ab_C 0 yX1_readPart cX1_readPart 7 (some .boolean) dd [vR (kO 1) o0, vR (kO 6) 1, vI v2] u wI (rX1_readPart o0 v2 u)) (hX1_readNot : ∀ (o0 : Nat) (v2 : Int32) (u : ab_S), ab_C 0 yX1_readNot cX1_readNot 3 (some .boolean) dd [vR (kO 1) o0, vR (kO 6) 1, vI v2] u wI (rX1_readNot o0 v2 u)) (hX1_readBrackets : ∀ (o0 : Nat) (v2 : Int32) (u : ab_S), ab_C 0 yX1_readBrackets cX1_readBrackets 3 (some .boolean) dd [vR (kO 1) o0, vR (kO 6) 1, vI v2] u wI (rX1_readBrackets o0 v2 u)) (hdd : 1 ≤ dd) (o0 : Nat) (v2 : Int32) (v3 : Int32) (u : ab_S) : ab_C 0 yX1_readLevel cX1_readLevel 6 (some .boolean) (dd + 1) [vR (kO 1) o0, vR (kO 6) 1, vI v2, vI v3] u wI (fX1_readLevel rX1_readLevel rX1_readPart rX1_readNot rX1_readBrackets o0 v2 v3 u) := ab_entry (by decide +kernel) rfl (by decide) (by decide) (fun _ => Nat.le_of_ble_eq_true rfl) rfl (tX1_readLevel rX1_readLevel rX1_readPart rX1_readNot rX1_readBrackets hX1_readLevel hX1_readPart hX1_readNot hX1_readBrackets hdd o0 v2 v3 u)
def fX1_readPart_97 (rX1_readLevel : Nat → Int32 → Int32 → ab_S → Option (Int32 × ab_S)) (rX1_readPart : Nat → Int32 → ab_S → Option (Int32 × ab_S)) (rX1_readNot : Nat → Int32 → ab_S → Option (Int32 × ab_S)) (rX1_readBrackets : Nat → Int32 → ab_S → Option (Int32 × ab_S)) (o0 : Nat) (s1 : Int32) (u : ab_S) : Option (Int32 × ab_S) :=
  (fX1_add o0 s1 u).bind fun q1 =>
    (fX6_step q1.2).bind fun q2 =>
      ab_gd [ab_b1 1] (some (1, q2.2))
theorem tX1_readPart_97 (rX1_readLevel : Nat → Int32 → Int32 → ab_S → Option (Int32 × ab_S)) (rX1_readPart : Nat → Int32 → ab_S → Option (Int32 × ab_S)) (rX1_readNot : Nat → Int32 → ab_S → Option (Int32 × ab_S)) (rX1_readBrackets : Nat → Int32 → ab_S → Option (Int32 × ab_S)) {dd : Nat} (hX1_readLevel : ∀ (o0 : Nat) (v2 : Int32) (v3 : Int32) (u : ab_S), ab_C 0 yX1_readLevel cX1_readLevel 6 (some .boolean) dd [vR (kO 1) o0, vR (kO 6) 1, vI v2, vI v3] u wI (rX1_readLevel o0 v2 v3 u)) (hX1_readPart : ∀ (o0 : Nat) (v2 : Int32) (u : ab_S), ab_C 0 yX1_readPart cX1_readPart 7 (some .boolean) dd [vR (kO 1) o0, vR (kO 6) 1, vI v2] u wI (rX1_readPart o0 v2 u)) (hX1_readNot : ∀ (o0 : Nat) (v2 : Int32) (u : ab_S), ab_C 0 yX1_readNot cX1_readNot 3 (some .boolean) dd [vR (kO 1) o0, vR (kO 6) 1, vI v2] u wI (rX1_readNot o0 v2 u)) (hX1_readBrackets : ∀ (o0 : Nat) (v2 : Int32) (u : ab_S), ab_C 0 yX1_readBrackets cX1_readBrackets 3 (some .boolean) dd [vR (kO 1) o0, vR (kO 6) 1, vI v2] u wI (rX1_readBrackets o0 v2 u)) (hdd : 1 ≤ dd) (o0 : Nat) (s1 : Int32) (u : ab_S) : ab_G 0 1 cX1_readPart (some .boolean) (dd + 1) 97 [none, some (vR (kO 6) 1), none, none, none, none, none] [vI s1, vR (kO 1) o0] u wI (fX1_readPart_97 rX1_readLevel rX1_readPart rX1_readNot rX1_readBrackets o0 s1 u) := by
  rw [fX1_readPart_97]
  refine g_callV (k := 22) (pc2 := 100) (st := []) (CX1_add o0 s1 u) miX1_add mvX1_add rfl (by decide) lk1_22 wV_ok (by decide +kernel) rfl (Nat.le_of_ble_eq_true rfl) (by omega) rfl (fun q1 hq1 => ?_)
  refine g_seg0 (pc' := 101) (L' := [none, some (vR (kO 6) 1), none, none, none, none, none]) (st' := [vR (kO 6) 1]) (u1 := q1.2) [(oL 2 1, 1)] (by decide +kernel) rfl rfl ?_
  refine g_callV (k := 38) (pc2 := 104) (st := []) (CX6_step q1.2) miX6_step mvX6_step rfl (by decide) lk1_38 wV_ok (by decide +kernel) rfl (Nat.le_of_ble_eq_true rfl) (by omega) rfl (fun q2 hq2 => ?_)
  refine g_seg0 (pc' := 105) (L' := [none, some (vR (kO 6) 1), none, none, none, none, none]) (st' := [vI 1]) (u1 := q2.2) [(oC 1, 1)] (by decide +kernel) rfl rfl ?_
  exact g_zret (by decide +kernel) rfl
def fX1_readPart_82 (rX1_readLevel : Nat → Int32 → Int32 → ab_S → Option (Int32 × ab_S)) (rX1_readPart : Nat → Int32 → ab_S → Option (Int32 × ab_S)) (rX1_readNot : Nat → Int32 → ab_S → Option (Int32 × ab_S)) (rX1_readBrackets : Nat → Int32 → ab_S → Option (Int32 × ab_S)) (o0 : Nat) (v3 : Int32) (v6 : Int32) (u : ab_S) : Option (Int32 × ab_S) :=
  bif decide (v3 = 0) then (
    fX1_readPart_97 rX1_readLevel rX1_readPart rX1_readNot rX1_readBrackets o0 v6 u)
  else (
    fX1_readPart_97 rX1_readLevel rX1_readPart rX1_readNot rX1_readBrackets o0 (Int64.toInt32 (u.2.1 1 9)) u)
theorem tX1_readPart_82 (rX1_readLevel : Nat → Int32 → Int32 → ab_S → Option (Int32 × ab_S)) (rX1_readPart : Nat → Int32 → ab_S → Option (Int32 × ab_S)) (rX1_readNot : Nat → Int32 → ab_S → Option (Int32 × ab_S)) (rX1_readBrackets : Nat → Int32 → ab_S → Option (Int32 × ab_S)) {dd : Nat} (hX1_readLevel : ∀ (o0 : Nat) (v2 : Int32) (v3 : Int32) (u : ab_S), ab_C 0 yX1_readLevel cX1_readLevel 6 (some .boolean) dd [vR (kO 1) o0, vR (kO 6) 1, vI v2, vI v3] u wI (rX1_readLevel o0 v2 v3 u)) (hX1_readPart : ∀ (o0 : Nat) (v2 : Int32) (u : ab_S), ab_C 0 yX1_readPart cX1_readPart 7 (some .boolean) dd [vR (kO 1) o0, vR (kO 6) 1, vI v2] u wI (rX1_readPart o0 v2 u)) (hX1_readNot : ∀ (o0 : Nat) (v2 : Int32) (u : ab_S), ab_C 0 yX1_readNot cX1_readNot 3 (some .boolean) dd [vR (kO 1) o0, vR (kO 6) 1, vI v2] u wI (rX1_readNot o0 v2 u)) (hX1_readBrackets : ∀ (o0 : Nat) (v2 : Int32) (u : ab_S), ab_C 0 yX1_readBrackets cX1_readBrackets 3 (some .boolean) dd [vR (kO 1) o0, vR (kO 6) 1, vI v2] u wI (rX1_readBrackets o0 v2 u)) (hdd : 1 ≤ dd) (o0 : Nat) (v3 : Int32) (v6 : Int32) (u : ab_S) : ab_G 0 1 cX1_readPart (some .boolean) (dd + 1) 82 [some (vR (kO 1) o0), some (vR (kO 6) 1), none, some (vI v3), none, none, some (vI v6)] [] u wI (fX1_readPart_82 rX1_readLevel rX1_readPart rX1_readNot rX1_readBrackets o0 v3 v6 u) := by
  rw [fX1_readPart_82]
  refine g_seg0 (pc' := 84) (L' := [some (vR (kO 1) o0), some (vR (kO 6) 1), none, some (vI v3), none, none, some (vI v6)]) (st' := [vI v3, vR (kO 1) o0]) (u1 := u) [(oL 2 0, 1), (oL 0 3, 1)] (by decide +kernel) rfl rfl ?_
  refine g_zeq (off := 11) (tgt := 95) (pc2 := 87) (by decide +kernel) (by decide) rfl ?_ ?_
  · refine g_seg0 (pc' := 97) (L' := [some (vR (kO 1) o0), some (vR (kO 6) 1), none, some (vI v3), none, none, some (vI v6)]) (st' := [vI v6, vR (kO 1) o0]) (u1 := u) [(oL 0 6, 2)] (by decide +kernel) rfl rfl ?_
    exact g_jump [false, true, false, false, false, false, false] rfl (tX1_readPart_97 rX1_readLevel rX1_readPart rX1_readNot rX1_readBrackets hX1_readLevel hX1_readPart hX1_readNot hX1_readBrackets hdd o0 v6 u)
  · refine g_seg0 (pc' := 92) (L' := [some (vR (kO 1) o0), some (vR (kO 6) 1), none, some (vI v3), none, none, some (vI v6)]) (st' := [vI (Int64.toInt32 (u.2.1 1 9)), vR (kO 1) o0]) (u1 := u) [(oL 2 1, 1), (oP (.getfield 74), 3), (oP .l2i, 1)] (by decide +kernel) rfl rfl ?_
    refine g_goto (off := 5) (tgt := 97) (by decide +kernel) (by decide) ?_
    exact g_jump [false, true, false, false, false, false, false] rfl (tX1_readPart_97 rX1_readLevel rX1_readPart rX1_readNot rX1_readBrackets hX1_readLevel hX1_readPart hX1_readNot hX1_readBrackets hdd o0 (Int64.toInt32 (u.2.1 1 9)) u)
def fX1_readPart_62 (rX1_readLevel : Nat → Int32 → Int32 → ab_S → Option (Int32 × ab_S)) (rX1_readPart : Nat → Int32 → ab_S → Option (Int32 × ab_S)) (rX1_readNot : Nat → Int32 → ab_S → Option (Int32 × ab_S)) (rX1_readBrackets : Nat → Int32 → ab_S → Option (Int32 × ab_S)) (o0 : Nat) (v2 : Int32) (v3 : Int32) (v4 : Int32) (v6 : Int32) (u : ab_S) : Option (Int32 × ab_S) :=
  bif decide (v2 ≤ 4) then (
    bif decide (v3 = 0) then (
      bif decide (v6 = 0) then (
        (fX6_step u).bind fun q3 =>
          bif decide (v4 = 0) then (
            (rX1_readBrackets o0 v2 q3.2).bind fun q4 =>
              ab_gd [ab_b1 q4.1] (some (q4.1, q4.2)))
          else (
            (rX1_readNot o0 v2 q3.2).bind fun q5 =>
              ab_gd [ab_b1 q5.1] (some (q5.1, q5.2))))
      else (
        fX1_readPart_82 rX1_readLevel rX1_readPart rX1_readNot rX1_readBrackets o0 v3 v6 u))
    else (
      fX1_readPart_82 rX1_readLevel rX1_readPart rX1_readNot rX1_readBrackets o0 v3 v6 u))
  else (
    (fX6_fail 5 u).bind fun q6 =>
      ab_gd [ab_b1 q6.1] (some (q6.1, q6.2)))
theorem tX1_readPart_62 (rX1_readLevel : Nat → Int32 → Int32 → ab_S → Option (Int32 × ab_S)) (rX1_readPart : Nat → Int32 → ab_S → Option (Int32 × ab_S)) (rX1_readNot : Nat → Int32 → ab_S → Option (Int32 × ab_S)) (rX1_readBrackets : Nat → Int32 → ab_S → Option (Int32 × ab_S)) {dd : Nat} (hX1_readLevel : ∀ (o0 : Nat) (v2 : Int32) (v3 : Int32) (u : ab_S), ab_C 0 yX1_readLevel cX1_readLevel 6 (some .boolean) dd [vR (kO 1) o0, vR (kO 6) 1, vI v2, vI v3] u wI (rX1_readLevel o0 v2 v3 u)) (hX1_readPart : ∀ (o0 : Nat) (v2 : Int32) (u : ab_S), ab_C 0 yX1_readPart cX1_readPart 7 (some .boolean) dd [vR (kO 1) o0, vR (kO 6) 1, vI v2] u wI (rX1_readPart o0 v2 u)) (hX1_readNot : ∀ (o0 : Nat) (v2 : Int32) (u : ab_S), ab_C 0 yX1_readNot cX1_readNot 3 (some .boolean) dd [vR (kO 1) o0, vR (kO 6) 1, vI v2] u wI (rX1_readNot o0 v2 u)) (hX1_readBrackets : ∀ (o0 : Nat) (v2 : Int32) (u : ab_S), ab_C 0 yX1_readBrackets cX1_readBrackets 3 (some .boolean) dd [vR (kO 1) o0, vR (kO 6) 1, vI v2] u wI (rX1_readBrackets o0 v2 u)) (hdd : 1 ≤ dd) (o0 : Nat) (v2 : Int32) (v3 : Int32) (v4 : Int32) (v6 : Int32) (u : ab_S) : ab_G 0 1 cX1_readPart (some .boolean) (dd + 1) 62 [some (vR (kO 1) o0), some (vR (kO 6) 1), some (vI v2), some (vI v3), some (vI v4), none, some (vI v6)] [] u wI (fX1_readPart_62 rX1_readLevel rX1_readPart rX1_readNot rX1_readBrackets o0 v2 v3 v4 v6 u) := by
  rw [fX1_readPart_62]
  refine g_seg0 (pc' := 64) (L' := [some (vR (kO 1) o0), some (vR (kO 6) 1), some (vI v2), some (vI v3), some (vI v4), none, some (vI v6)]) (st' := [vI 4, vI v2]) (u1 := u) [(oL 0 2, 1), (oC 4, 1)] (by decide +kernel) rfl rfl ?_
  refine g_ile (off := 9) (tgt := 73) (pc2 := 67) (by decide +kernel) (by decide) rfl ?_ ?_
  · refine g_seg0 (pc' := 74) (L' := [some (vR (kO 1) o0), some (vR (kO 6) 1), some (vI v2), some (vI v3), some (vI v4), none, some (vI v6)]) (st' := [vI v3]) (u1 := u) [(oL 0 3, 1)] (by decide +kernel) rfl rfl ?_
    refine g_zne (off := 8) (tgt := 82) (pc2 := 77) (by decide +kernel) (by decide) rfl ?_ ?_
    · exact g_jump [true, true, false, true, false, false, true] rfl (tX1_readPart_82 rX1_readLevel rX1_readPart rX1_readNot rX1_readBrackets hX1_readLevel hX1_readPart hX1_readNot hX1_readBrackets hdd o0 v3 v6 u)
    · refine g_seg0 (pc' := 79) (L' := [some (vR (kO 1) o0), some (vR (kO 6) 1), some (vI v2), some (vI v3), some (vI v4), none, some (vI v6)]) (st' := [vI v6]) (u1 := u) [(oL 0 6, 2)] (by decide +kernel) rfl rfl ?_
      refine g_zeq (off := 27) (tgt := 106) (pc2 := 82) (by decide +kernel) (by decide) rfl ?_ ?_
      · refine g_seg0 (pc' := 107) (L' := [some (vR (kO 1) o0), some (vR (kO 6) 1), some (vI v2), some (vI v3), some (vI v4), none, some (vI v6)]) (st' := [vR (kO 6) 1]) (u1 := u) [(oL 2 1, 1)] (by decide +kernel) rfl rfl ?_
        refine g_callV (k := 38) (pc2 := 110) (st := []) (CX6_step u) miX6_step mvX6_step rfl (by decide) lk1_38 wV_ok (by decide +kernel) rfl (Nat.le_of_ble_eq_true rfl) (by omega) rfl (fun q3 hq3 => ?_)
        refine g_seg0 (pc' := 112) (L' := [some (vR (kO 1) o0), some (vR (kO 6) 1), some (vI v2), some (vI v3), some (vI v4), none, some (vI v6)]) (st' := [vI v4]) (u1 := q3.2) [(oL 0 4, 2)] (by decide +kernel) rfl rfl ?_
        refine g_zeq (off := 12) (tgt := 124) (pc2 := 115) (by decide +kernel) (by decide) rfl ?_ ?_
        · refine g_seg0 (pc' := 127) (L' := [some (vR (kO 1) o0), some (vR (kO 6) 1), some (vI v2), some (vI v3), some (vI v4), none, some (vI v6)]) (st' := [vI v2, vR (kO 6) 1, vR (kO 1) o0]) (u1 := q3.2) [(oL 2 0, 1), (oL 2 1, 1), (oL 0 2, 1)] (by decide +kernel) rfl rfl ?_
          refine g_callV (k := 81) (pc2 := 130) (st := []) (hX1_readBrackets o0 v2 q3.2) miX1_readBrackets mvX1_readBrackets rfl (by decide) lk1_81 wI_ok (by decide +kernel) rfl (Nat.le_of_ble_eq_true rfl) (Nat.le_refl _) rfl (fun q4 hq4 => ?_)
          exact g_zret (by decide +kernel) rfl
        · refine g_seg0 (pc' := 118) (L' := [some (vR (kO 1) o0), some (vR (kO 6) 1), some (vI v2), some (vI v3), some (vI v4), none, some (vI v6)]) (st' := [vI v2, vR (kO 6) 1, vR (kO 1) o0]) (u1 := q3.2) [(oL 2 0, 1), (oL 2 1, 1), (oL 0 2, 1)] (by decide +kernel) rfl rfl ?_
          refine g_callV (k := 78) (pc2 := 121) (st := []) (hX1_readNot o0 v2 q3.2) miX1_readNot mvX1_readNot rfl (by decide) lk1_78 wI_ok (by decide +kernel) rfl (Nat.le_of_ble_eq_true rfl) (Nat.le_refl _) rfl (fun q5 hq5 => ?_)
          refine g_goto (off := 9) (tgt := 130) (by decide +kernel) (by decide) ?_
          exact g_zret (by decide +kernel) rfl
      · exact g_jump [true, true, false, true, false, false, true] rfl (tX1_readPart_82 rX1_readLevel rX1_readPart rX1_readNot rX1_readBrackets hX1_readLevel hX1_readPart hX1_readNot hX1_readBrackets hdd o0 v3 v6 u)
  · refine g_seg0 (pc' := 69) (L' := [some (vR (kO 1) o0), some (vR (kO 6) 1), some (vI v2), some (vI v3), some (vI v4), none, some (vI v6)]) (st' := [vI 5, vR (kO 6) 1]) (u1 := u) [(oL 2 1, 1), (oC 5, 1)] (by decide +kernel) rfl rfl ?_
    refine g_callV (k := 70) (pc2 := 72) (st := []) (CX6_fail 5 u) miX6_fail mvX6_fail rfl (by decide) lk1_70 wI_ok (by decide +kernel) rfl (Nat.le_of_ble_eq_true rfl) (by omega) rfl (fun q6 hq6 => ?_)
    exact g_zret (by decide +kernel) rfl
def fX1_readPart_13 (rX1_readLevel : Nat → Int32 → Int32 → ab_S → Option (Int32 × ab_S)) (rX1_readPart : Nat → Int32 → ab_S → Option (Int32 × ab_S)) (rX1_readNot : Nat → Int32 → ab_S → Option (Int32 × ab_S)) (rX1_readBrackets : Nat → Int32 → ab_S → Option (Int32 × ab_S)) (o0 : Nat) (v2 : Int32) (s0 : Int32) (u : ab_S) : Option (Int32 × ab_S) :=
  (fX6_isWord 16 u).bind fun q7 =>
    (fX6_isSign 40 q7.2).bind fun q8 =>
      (fX1_factAt q8.2).bind fun q9 =>
        bif decide (s0 = 0) then (
          bif decide (q7.1 = 0) then (
            bif decide (q8.1 = 0) then (
              bif decide (q9.1 = 0) then (
                (fX6_fail 1 q9.2).bind fun q10 =>
                  ab_gd [ab_b1 q10.1] (some (q10.1, q10.2)))
              else (
                fX1_readPart_62 rX1_readLevel rX1_readPart rX1_readNot rX1_readBrackets o0 v2 s0 q7.1 q9.1 q9.2))
            else (
              fX1_readPart_62 rX1_readLevel rX1_readPart rX1_readNot rX1_readBrackets o0 v2 s0 q7.1 q9.1 q9.2))
          else (
            fX1_readPart_62 rX1_readLevel rX1_readPart rX1_readNot rX1_readBrackets o0 v2 s0 q7.1 q9.1 q9.2))
        else (
          fX1_readPart_62 rX1_readLevel rX1_readPart rX1_readNot rX1_readBrackets o0 v2 s0 q7.1 q9.1 q9.2)
theorem tX1_readPart_13 (rX1_readLevel : Nat → Int32 → Int32 → ab_S → Option (Int32 × ab_S)) (rX1_readPart : Nat → Int32 → ab_S → Option (Int32 × ab_S)) (rX1_readNot : Nat → Int32 → ab_S → Option (Int32 × ab_S)) (rX1_readBrackets : Nat → Int32 → ab_S → Option (Int32 × ab_S)) {dd : Nat} (hX1_readLevel : ∀ (o0 : Nat) (v2 : Int32) (v3 : Int32) (u : ab_S), ab_C 0 yX1_readLevel cX1_readLevel 6 (some .boolean) dd [vR (kO 1) o0, vR (kO 6) 1, vI v2, vI v3] u wI (rX1_readLevel o0 v2 v3 u)) (hX1_readPart : ∀ (o0 : Nat) (v2 : Int32) (u : ab_S), ab_C 0 yX1_readPart cX1_readPart 7 (some .boolean) dd [vR (kO 1) o0, vR (kO 6) 1, vI v2] u wI (rX1_readPart o0 v2 u)) (hX1_readNot : ∀ (o0 : Nat) (v2 : Int32) (u : ab_S), ab_C 0 yX1_readNot cX1_readNot 3 (some .boolean) dd [vR (kO 1) o0, vR (kO 6) 1, vI v2] u wI (rX1_readNot o0 v2 u)) (hX1_readBrackets : ∀ (o0 : Nat) (v2 : Int32) (u : ab_S), ab_C 0 yX1_readBrackets cX1_readBrackets 3 (some .boolean) dd [vR (kO 1) o0, vR (kO 6) 1, vI v2] u wI (rX1_readBrackets o0 v2 u)) (hdd : 1 ≤ dd) (o0 : Nat) (v2 : Int32) (s0 : Int32) (u : ab_S) : ab_G 0 1 cX1_readPart (some .boolean) (dd + 1) 13 [some (vR (kO 1) o0), some (vR (kO 6) 1), some (vI v2), none, none, none, none] [vI s0] u wI (fX1_readPart_13 rX1_readLevel rX1_readPart rX1_readNot rX1_readBrackets o0 v2 s0 u) := by
  rw [fX1_readPart_13]
  refine g_seg0 (pc' := 18) (L' := [some (vR (kO 1) o0), some (vR (kO 6) 1), some (vI v2), some (vI s0), none, none, none]) (st' := [vR (kO 20) 16, vR (kO 6) 1]) (u1 := u) [(oL 3 3, 1), (oL 2 1, 1), (oP (.getstatic 63), 3)] (by decide +kernel) rfl rfl ?_
  refine g_callV (k := 49) (pc2 := 21) (st := []) (CX6_isWord 16 u) miX6_isWord mvX6_isWord rfl (by decide) lk1_49 wI_ok (by decide +kernel) rfl (Nat.le_of_ble_eq_true rfl) (by omega) rfl (fun q7 hq7 => ?_)
  refine g_seg0 (pc' := 26) (L' := [some (vR (kO 1) o0), some (vR (kO 6) 1), some (vI v2), some (vI s0), some (vI (q7.1)), none, none]) (st' := [vI 40, vR (kO 6) 1]) (u1 := q7.2) [(oL 3 4, 2), (oL 2 1, 1), (oC 40, 2)] (by decide +kernel) rfl rfl ?_
  refine g_callV (k := 56) (pc2 := 29) (st := []) (CX6_isSign 40 q7.2) miX6_isSign mvX6_isSign rfl (by decide) lk1_56 wI_ok (by decide +kernel) rfl (Nat.le_of_ble_eq_true rfl) (by omega) rfl (fun q8 hq8 => ?_)
  refine g_seg0 (pc' := 32) (L' := [some (vR (kO 1) o0), some (vR (kO 6) 1), some (vI v2), some (vI s0), some (vI (q7.1)), some (vI (q8.1)), none]) (st' := [vR (kO 6) 1]) (u1 := q8.2) [(oL 3 5, 2), (oL 2 1, 1)] (by decide +kernel) rfl rfl ?_
  refine g_callS (k := 66) (pc2 := 35) (st := []) (CX1_factAt q8.2) miX1_factAt msX1_factAt lk1_66 wI_ok (by decide +kernel) rfl (Nat.le_of_ble_eq_true rfl) (by omega) rfl (fun q9 hq9 => ?_)
  refine g_seg0 (pc' := 38) (L' := [some (vR (kO 1) o0), some (vR (kO 6) 1), some (vI v2), some (vI s0), some (vI (q7.1)), some (vI (q8.1)), some (vI (q9.1))]) (st' := [vI s0]) (u1 := q9.2) [(oL 3 6, 2), (oL 0 3, 1)] (by decide +kernel) rfl rfl ?_
  refine g_zne (off := 24) (tgt := 62) (pc2 := 41) (by decide +kernel) (by decide) rfl ?_ ?_
  · exact g_jump [true, true, true, true, true, false, true] rfl (tX1_readPart_62 rX1_readLevel rX1_readPart rX1_readNot rX1_readBrackets hX1_readLevel hX1_readPart hX1_readNot hX1_readBrackets hdd o0 v2 s0 q7.1 q9.1 q9.2)
  · refine g_seg0 (pc' := 43) (L' := [some (vR (kO 1) o0), some (vR (kO 6) 1), some (vI v2), some (vI s0), some (vI (q7.1)), some (vI (q8.1)), some (vI (q9.1))]) (st' := [vI (q7.1)]) (u1 := q9.2) [(oL 0 4, 2)] (by decide +kernel) rfl rfl ?_
    refine g_zne (off := 19) (tgt := 62) (pc2 := 46) (by decide +kernel) (by decide) rfl ?_ ?_
    · exact g_jump [true, true, true, true, true, false, true] rfl (tX1_readPart_62 rX1_readLevel rX1_readPart rX1_readNot rX1_readBrackets hX1_readLevel hX1_readPart hX1_readNot hX1_readBrackets hdd o0 v2 s0 q7.1 q9.1 q9.2)
    · refine g_seg0 (pc' := 48) (L' := [some (vR (kO 1) o0), some (vR (kO 6) 1), some (vI v2), some (vI s0), some (vI (q7.1)), some (vI (q8.1)), some (vI (q9.1))]) (st' := [vI (q8.1)]) (u1 := q9.2) [(oL 0 5, 2)] (by decide +kernel) rfl rfl ?_
      refine g_zne (off := 14) (tgt := 62) (pc2 := 51) (by decide +kernel) (by decide) rfl ?_ ?_
      · exact g_jump [true, true, true, true, true, false, true] rfl (tX1_readPart_62 rX1_readLevel rX1_readPart rX1_readNot rX1_readBrackets hX1_readLevel hX1_readPart hX1_readNot hX1_readBrackets hdd o0 v2 s0 q7.1 q9.1 q9.2)
      · refine g_seg0 (pc' := 53) (L' := [some (vR (kO 1) o0), some (vR (kO 6) 1), some (vI v2), some (vI s0), some (vI (q7.1)), some (vI (q8.1)), some (vI (q9.1))]) (st' := [vI (q9.1)]) (u1 := q9.2) [(oL 0 6, 2)] (by decide +kernel) rfl rfl ?_
        refine g_zne (off := 9) (tgt := 62) (pc2 := 56) (by decide +kernel) (by decide) rfl ?_ ?_
        · exact g_jump [true, true, true, true, true, false, true] rfl (tX1_readPart_62 rX1_readLevel rX1_readPart rX1_readNot rX1_readBrackets hX1_readLevel hX1_readPart hX1_readNot hX1_readBrackets hdd o0 v2 s0 q7.1 q9.1 q9.2)
        · refine g_seg0 (pc' := 58) (L' := [some (vR (kO 1) o0), some (vR (kO 6) 1), some (vI v2), some (vI s0), some (vI (q7.1)), some (vI (q8.1)), some (vI (q9.1))]) (st' := [vI 1, vR (kO 6) 1]) (u1 := q9.2) [(oL 2 1, 1), (oC 1, 1)] (by decide +kernel) rfl rfl ?_
          refine g_callV (k := 70) (pc2 := 61) (st := []) (CX6_fail 1 q9.2) miX6_fail mvX6_fail rfl (by decide) lk1_70 wI_ok (by decide +kernel) rfl (Nat.le_of_ble_eq_true rfl) (by omega) rfl (fun q10 hq10 => ?_)
          exact g_zret (by decide +kernel) rfl
def fX1_readPart (rX1_readLevel : Nat → Int32 → Int32 → ab_S → Option (Int32 × ab_S)) (rX1_readPart : Nat → Int32 → ab_S → Option (Int32 × ab_S)) (rX1_readNot : Nat → Int32 → ab_S → Option (Int32 × ab_S)) (rX1_readBrackets : Nat → Int32 → ab_S → Option (Int32 × ab_S)) (o0 : Nat) (v2 : Int32) (u : ab_S) : Option (Int32 × ab_S) :=
  bif decide ((u.1 1 7) = 3) then (
    fX1_readPart_13 rX1_readLevel rX1_readPart rX1_readNot rX1_readBrackets o0 v2 1 u)
  else (
    fX1_readPart_13 rX1_readLevel rX1_readPart rX1_readNot rX1_readBrackets o0 v2 0 u)
theorem tX1_readPart (rX1_readLevel : Nat → Int32 → Int32 → ab_S → Option (Int32 × ab_S)) (rX1_readPart : Nat → Int32 → ab_S → Option (Int32 × ab_S)) (rX1_readNot : Nat → Int32 → ab_S → Option (Int32 × ab_S)) (rX1_readBrackets : Nat → Int32 → ab_S → Option (Int32 × ab_S)) {dd : Nat} (hX1_readLevel : ∀ (o0 : Nat) (v2 : Int32) (v3 : Int32) (u : ab_S), ab_C 0 yX1_readLevel cX1_readLevel 6 (some .boolean) dd [vR (kO 1) o0, vR (kO 6) 1, vI v2, vI v3] u wI (rX1_readLevel o0 v2 v3 u)) (hX1_readPart : ∀ (o0 : Nat) (v2 : Int32) (u : ab_S), ab_C 0 yX1_readPart cX1_readPart 7 (some .boolean) dd [vR (kO 1) o0, vR (kO 6) 1, vI v2] u wI (rX1_readPart o0 v2 u)) (hX1_readNot : ∀ (o0 : Nat) (v2 : Int32) (u : ab_S), ab_C 0 yX1_readNot cX1_readNot 3 (some .boolean) dd [vR (kO 1) o0, vR (kO 6) 1, vI v2] u wI (rX1_readNot o0 v2 u)) (hX1_readBrackets : ∀ (o0 : Nat) (v2 : Int32) (u : ab_S), ab_C 0 yX1_readBrackets cX1_readBrackets 3 (some .boolean) dd [vR (kO 1) o0, vR (kO 6) 1, vI v2] u wI (rX1_readBrackets o0 v2 u)) (hdd : 1 ≤ dd) (o0 : Nat) (v2 : Int32) (u : ab_S) : ab_G 0 1 cX1_readPart (some .boolean) (dd + 1) 0 [some (vR (kO 1) o0), some (vR (kO 6) 1), some (vI v2), none, none, none, none] [] u wI (fX1_readPart rX1_readLevel rX1_readPart rX1_readNot rX1_readBrackets o0 v2 u) := by
  rw [fX1_readPart]
  refine g_seg0 (pc' := 5) (L' := [some (vR (kO 1) o0), some (vR (kO 6) 1), some (vI v2), none, none, none, none]) (st' := [vI 3, vI (u.1 1 7)]) (u1 := u) [(oL 2 1, 1), (oP (.getfield 60), 3), (oC 3, 1)] (by decide +kernel) rfl rfl ?_
  refine g_ine (off := 7) (tgt := 12) (pc2 := 8) (by decide +kernel) (by decide) rfl ?_ ?_
  · refine g_seg0 (pc' := 13) (L' := [some (vR (kO 1) o0), some (vR (kO 6) 1), some (vI v2), none, none, none, none]) (st' := [vI 0]) (u1 := u) [(oC 0, 1)] (by decide +kernel) rfl rfl ?_
    exact tX1_readPart_13 rX1_readLevel rX1_readPart rX1_readNot rX1_readBrackets hX1_readLevel hX1_readPart hX1_readNot hX1_readBrackets hdd o0 v2 0 u
  · refine g_seg0 (pc' := 9) (L' := [some (vR (kO 1) o0), some (vR (kO 6) 1), some (vI v2), none, none, none, none]) (st' := [vI 1]) (u1 := u) [(oC 1, 1)] (by decide +kernel) rfl rfl ?_
    refine g_goto (off := 4) (tgt := 13) (by decide +kernel) (by decide) ?_
    exact tX1_readPart_13 rX1_readLevel rX1_readPart rX1_readNot rX1_readBrackets hX1_readLevel hX1_readPart hX1_readNot hX1_readBrackets hdd o0 v2 1 u
theorem CX1_readPart (rX1_readLevel : Nat → Int32 → Int32 → ab_S → Option (Int32 × ab_S)) (rX1_readPart : Nat → Int32 → ab_S → Option (Int32 × ab_S)) (rX1_readNot : Nat → Int32 → ab_S → Option (Int32 × ab_S)) (rX1_readBrackets : Nat → Int32 → ab_S → Option (Int32 × ab_S)) {dd : Nat} (hX1_readLevel : ∀ (o0 : Nat) (v2 : Int32) (v3 : Int32) (u : ab_S), ab_C 0 yX1_readLevel cX1_readLevel 6 (some .boolean) dd [vR (kO 1) o0, vR (kO 6) 1, vI v2, vI v3] u wI (rX1_readLevel o0 v2 v3 u)) (hX1_readPart : ∀ (o0 : Nat) (v2 : Int32) (u : ab_S), ab_C 0 yX1_readPart cX1_readPart 7 (some .boolean) dd [vR (kO 1) o0, vR (kO 6) 1, vI v2] u wI (rX1_readPart o0 v2 u)) (hX1_readNot : ∀ (o0 : Nat) (v2 : Int32) (u : ab_S), ab_C 0 yX1_readNot cX1_readNot 3 (some .boolean) dd [vR (kO 1) o0, vR (kO 6) 1, vI v2] u wI (rX1_readNot o0 v2 u)) (hX1_readBrackets : ∀ (o0 : Nat) (v2 : Int32) (u : ab_S), ab_C 0 yX1_readBrackets cX1_readBrackets 3 (some .boolean) dd [vR (kO 1) o0, vR (kO 6) 1, vI v2] u wI (rX1_readBrackets o0 v2 u)) (hdd : 1 ≤ dd) (o0 : Nat) (v2 : Int32) (u : ab_S) : ab_C 0 yX1_readPart cX1_readPart 7 (some .boolean) (dd + 1) [vR (kO 1) o0, vR (kO 6) 1, vI v2] u wI (fX1_readPart rX1_readLevel rX1_readPart rX1_readNot rX1_readBrackets o0 v2 u) := ab_entry (by decide +kernel) rfl (by decide) (by decide) (fun _ => Nat.le_of_ble_eq_true rfl) rfl (tX1_readPart rX1_readLevel rX1_readPart rX1_readNot rX1_readBrackets hX1_readLevel hX1_readPart hX1_readNot hX1_readBrackets hdd o0 v2 u)
def fX1_readNot (rX1_readLevel : Nat → Int32 → Int32 → ab_S → Option (Int32 × ab_S)) (rX1_readPart : Nat → Int32 → ab_S → Option (Int32 × ab_S)) (rX1_readNot : Nat → Int32 → ab_S → Option (Int32 × ab_S)) (rX1_readBrackets : Nat → Int32 → ab_S → Option (Int32 × ab_S)) (o0 : Nat) (v2 : Int32) (u : ab_S) : Option (Int32 × ab_S) :=
  (rX1_readPart o0 (v2 + 1) u).bind fun q1 =>
    bif decide (q1.1 = 0) then (
      ab_gd [ab_b1 0] (some (0, q1.2)))
    else (
      (fX1_add o0 (-5) q1.2).bind fun q2 =>
        ab_gd [ab_b1 1] (some (1, q2.2)))
theorem tX1_readNot (rX1_readLevel : Nat → Int32 → Int32 → ab_S → Option (Int32 × ab_S)) (rX1_readPart : Nat → Int32 → ab_S → Option (Int32 × ab_S)) (rX1_readNot : Nat → Int32 → ab_S → Option (Int32 × ab_S)) (rX1_readBrackets : Nat → Int32 → ab_S → Option (Int32 × ab_S)) {dd : Nat} (hX1_readLevel : ∀ (o0 : Nat) (v2 : Int32) (v3 : Int32) (u : ab_S), ab_C 0 yX1_readLevel cX1_readLevel 6 (some .boolean) dd [vR (kO 1) o0, vR (kO 6) 1, vI v2, vI v3] u wI (rX1_readLevel o0 v2 v3 u)) (hX1_readPart : ∀ (o0 : Nat) (v2 : Int32) (u : ab_S), ab_C 0 yX1_readPart cX1_readPart 7 (some .boolean) dd [vR (kO 1) o0, vR (kO 6) 1, vI v2] u wI (rX1_readPart o0 v2 u)) (hX1_readNot : ∀ (o0 : Nat) (v2 : Int32) (u : ab_S), ab_C 0 yX1_readNot cX1_readNot 3 (some .boolean) dd [vR (kO 1) o0, vR (kO 6) 1, vI v2] u wI (rX1_readNot o0 v2 u)) (hX1_readBrackets : ∀ (o0 : Nat) (v2 : Int32) (u : ab_S), ab_C 0 yX1_readBrackets cX1_readBrackets 3 (some .boolean) dd [vR (kO 1) o0, vR (kO 6) 1, vI v2] u wI (rX1_readBrackets o0 v2 u)) (hdd : 0 ≤ dd) (o0 : Nat) (v2 : Int32) (u : ab_S) : ab_G 0 1 cX1_readNot (some .boolean) (dd + 1) 0 [some (vR (kO 1) o0), some (vR (kO 6) 1), some (vI v2)] [] u wI (fX1_readNot rX1_readLevel rX1_readPart rX1_readNot rX1_readBrackets o0 v2 u) := by
  rw [fX1_readNot]
  refine g_seg0 (pc' := 5) (L' := [some (vR (kO 1) o0), some (vR (kO 6) 1), some (vI v2)]) (st' := [vI (v2 + 1), vR (kO 6) 1, vR (kO 1) o0]) (u1 := u) [(oL 2 0, 1), (oL 2 1, 1), (oL 0 2, 1), (oC 1, 1), (oP .iadd, 1)] (by decide +kernel) rfl rfl ?_
  refine g_callV (k := 26) (pc2 := 8) (st := []) (hX1_readPart o0 (v2 + 1) u) miX1_readPart mvX1_readPart rfl (by decide) lk1_26 wI_ok (by decide +kernel) rfl (Nat.le_of_ble_eq_true rfl) (Nat.le_refl _) rfl (fun q1 hq1 => ?_)
  refine g_zne (off := 5) (tgt := 13) (pc2 := 11) (by decide +kernel) (by decide) rfl ?_ ?_
  · refine g_seg0 (pc' := 16) (L' := [some (vR (kO 1) o0), some (vR (kO 6) 1), some (vI v2)]) (st' := [vI (-5), vR (kO 1) o0]) (u1 := q1.2) [(oL 2 0, 1), (oC (-5), 2)] (by decide +kernel) rfl rfl ?_
    refine g_callV (k := 22) (pc2 := 19) (st := []) (CX1_add o0 (-5) q1.2) miX1_add mvX1_add rfl (by decide) lk1_22 wV_ok (by decide +kernel) rfl (Nat.le_of_ble_eq_true rfl) (by omega) rfl (fun q2 hq2 => ?_)
    refine g_seg0 (pc' := 20) (L' := [some (vR (kO 1) o0), some (vR (kO 6) 1), some (vI v2)]) (st' := [vI 1]) (u1 := q2.2) [(oC 1, 1)] (by decide +kernel) rfl rfl ?_
    exact g_zret (by decide +kernel) rfl
  · refine g_seg0 (pc' := 12) (L' := [some (vR (kO 1) o0), some (vR (kO 6) 1), some (vI v2)]) (st' := [vI 0]) (u1 := q1.2) [(oC 0, 1)] (by decide +kernel) rfl rfl ?_
    exact g_zret (by decide +kernel) rfl
theorem CX1_readNot (rX1_readLevel : Nat → Int32 → Int32 → ab_S → Option (Int32 × ab_S)) (rX1_readPart : Nat → Int32 → ab_S → Option (Int32 × ab_S)) (rX1_readNot : Nat → Int32 → ab_S → Option (Int32 × ab_S)) (rX1_readBrackets : Nat → Int32 → ab_S → Option (Int32 × ab_S)) {dd : Nat} (hX1_readLevel : ∀ (o0 : Nat) (v2 : Int32) (v3 : Int32) (u : ab_S), ab_C 0 yX1_readLevel cX1_readLevel 6 (some .boolean) dd [vR (kO 1) o0, vR (kO 6) 1, vI v2, vI v3] u wI (rX1_readLevel o0 v2 v3 u)) (hX1_readPart : ∀ (o0 : Nat) (v2 : Int32) (u : ab_S), ab_C 0 yX1_readPart cX1_readPart 7 (some .boolean) dd [vR (kO 1) o0, vR (kO 6) 1, vI v2] u wI (rX1_readPart o0 v2 u)) (hX1_readNot : ∀ (o0 : Nat) (v2 : Int32) (u : ab_S), ab_C 0 yX1_readNot cX1_readNot 3 (some .boolean) dd [vR (kO 1) o0, vR (kO 6) 1, vI v2] u wI (rX1_readNot o0 v2 u)) (hX1_readBrackets : ∀ (o0 : Nat) (v2 : Int32) (u : ab_S), ab_C 0 yX1_readBrackets cX1_readBrackets 3 (some .boolean) dd [vR (kO 1) o0, vR (kO 6) 1, vI v2] u wI (rX1_readBrackets o0 v2 u)) (hdd : 0 ≤ dd) (o0 : Nat) (v2 : Int32) (u : ab_S) : ab_C 0 yX1_readNot cX1_readNot 3 (some .boolean) (dd + 1) [vR (kO 1) o0, vR (kO 6) 1, vI v2] u wI (fX1_readNot rX1_readLevel rX1_readPart rX1_readNot rX1_readBrackets o0 v2 u) := ab_entry (by decide +kernel) rfl (by decide) (by decide) (fun _ => Nat.le_of_ble_eq_true rfl) rfl (tX1_readNot rX1_readLevel rX1_readPart rX1_readNot rX1_readBrackets hX1_readLevel hX1_readPart hX1_readNot hX1_readBrackets hdd o0 v2 u)
def fX1_readBrackets (rX1_readLevel : Nat → Int32 → Int32 → ab_S → Option (Int32 × ab_S)) (rX1_readPart : Nat → Int32 → ab_S → Option (Int32 × ab_S)) (rX1_readNot : Nat → Int32 → ab_S → Option (Int32 × ab_S)) (rX1_readBrackets : Nat → Int32 → ab_S → Option (Int32 × ab_S)) (o0 : Nat) (v2 : Int32) (u : ab_S) : Option (Int32 × ab_S) :=
  (rX1_readLevel o0 0 (v2 + 1) u).bind fun q1 =>
    bif decide (q1.1 = 0) then (
      ab_gd [ab_b1 0] (some (0, q1.2)))
    else (
      (fX6_isSign 41 q1.2).bind fun q2 =>
        bif decide (q2.1 = 0) then (
          (fX6_fail 1 q2.2).bind fun q4 =>
            ab_gd [ab_b1 q4.1] (some (q4.1, q4.2)))
        else (
          (fX6_step q2.2).bind fun q3 =>
            ab_gd [ab_b1 1] (some (1, q3.2))))
theorem tX1_readBrackets (rX1_readLevel : Nat → Int32 → Int32 → ab_S → Option (Int32 × ab_S)) (rX1_readPart : Nat → Int32 → ab_S → Option (Int32 × ab_S)) (rX1_readNot : Nat → Int32 → ab_S → Option (Int32 × ab_S)) (rX1_readBrackets : Nat → Int32 → ab_S → Option (Int32 × ab_S)) {dd : Nat} (hX1_readLevel : ∀ (o0 : Nat) (v2 : Int32) (v3 : Int32) (u : ab_S), ab_C 0 yX1_readLevel cX1_readLevel 6 (some .boolean) dd [vR (kO 1) o0, vR (kO 6) 1, vI v2, vI v3] u wI (rX1_readLevel o0 v2 v3 u)) (hX1_readPart : ∀ (o0 : Nat) (v2 : Int32) (u : ab_S), ab_C 0 yX1_readPart cX1_readPart 7 (some .boolean) dd [vR (kO 1) o0, vR (kO 6) 1, vI v2] u wI (rX1_readPart o0 v2 u)) (hX1_readNot : ∀ (o0 : Nat) (v2 : Int32) (u : ab_S), ab_C 0 yX1_readNot cX1_readNot 3 (some .boolean) dd [vR (kO 1) o0, vR (kO 6) 1, vI v2] u wI (rX1_readNot o0 v2 u)) (hX1_readBrackets : ∀ (o0 : Nat) (v2 : Int32) (u : ab_S), ab_C 0 yX1_readBrackets cX1_readBrackets 3 (some .boolean) dd [vR (kO 1) o0, vR (kO 6) 1, vI v2] u wI (rX1_readBrackets o0 v2 u)) (hdd : 0 ≤ dd) (o0 : Nat) (v2 : Int32) (u : ab_S) : ab_G 0 1 cX1_readBrackets (some .boolean) (dd + 1) 0 [some (vR (kO 1) o0), some (vR (kO 6) 1), some (vI v2)] [] u wI (fX1_readBrackets rX1_readLevel rX1_readPart rX1_readNot rX1_readBrackets o0 v2 u) := by
  rw [fX1_readBrackets]
  refine g_seg0 (pc' := 6) (L' := [some (vR (kO 1) o0), some (vR (kO 6) 1), some (vI v2)]) (st' := [vI (v2 + 1), vI 0, vR (kO 6) 1, vR (kO 1) o0]) (u1 := u) [(oL 2 0, 1), (oL 2 1, 1), (oC 0, 1), (oL 0 2, 1), (oC 1, 1), (oP .iadd, 1)] (by decide +kernel) rfl rfl ?_
  refine g_callV (k := 30) (pc2 := 9) (st := []) (hX1_readLevel o0 0 (v2 + 1) u) miX1_readLevel mvX1_readLevel rfl (by decide) lk1_30 wI_ok (by decide +kernel) rfl (Nat.le_of_ble_eq_true rfl) (Nat.le_refl _) rfl (fun q1 hq1 => ?_)
  refine g_zne (off := 5) (tgt := 14) (pc2 := 12) (by decide +kernel) (by decide) rfl ?_ ?_
  · refine g_seg0 (pc' := 17) (L' := [some (vR (kO 1) o0), some (vR (kO 6) 1), some (vI v2)]) (st' := [vI 41, vR (kO 6) 1]) (u1 := q1.2) [(oL 2 1, 1), (oC 41, 2)] (by decide +kernel) rfl rfl ?_
    refine g_callV (k := 56) (pc2 := 20) (st := []) (CX6_isSign 41 q1.2) miX6_isSign mvX6_isSign rfl (by decide) lk1_56 wI_ok (by decide +kernel) rfl (Nat.le_of_ble_eq_true rfl) (by omega) rfl (fun q2 hq2 => ?_)
    refine g_zne (off := 9) (tgt := 29) (pc2 := 23) (by decide +kernel) (by decide) rfl ?_ ?_
    · refine g_seg0 (pc' := 30) (L' := [some (vR (kO 1) o0), some (vR (kO 6) 1), some (vI v2)]) (st' := [vR (kO 6) 1]) (u1 := q2.2) [(oL 2 1, 1)] (by decide +kernel) rfl rfl ?_
      refine g_callV (k := 38) (pc2 := 33) (st := []) (CX6_step q2.2) miX6_step mvX6_step rfl (by decide) lk1_38 wV_ok (by decide +kernel) rfl (Nat.le_of_ble_eq_true rfl) (by omega) rfl (fun q3 hq3 => ?_)
      refine g_seg0 (pc' := 34) (L' := [some (vR (kO 1) o0), some (vR (kO 6) 1), some (vI v2)]) (st' := [vI 1]) (u1 := q3.2) [(oC 1, 1)] (by decide +kernel) rfl rfl ?_
      exact g_zret (by decide +kernel) rfl
    · refine g_seg0 (pc' := 25) (L' := [some (vR (kO 1) o0), some (vR (kO 6) 1), some (vI v2)]) (st' := [vI 1, vR (kO 6) 1]) (u1 := q2.2) [(oL 2 1, 1), (oC 1, 1)] (by decide +kernel) rfl rfl ?_
      refine g_callV (k := 70) (pc2 := 28) (st := []) (CX6_fail 1 q2.2) miX6_fail mvX6_fail rfl (by decide) lk1_70 wI_ok (by decide +kernel) rfl (Nat.le_of_ble_eq_true rfl) (by omega) rfl (fun q4 hq4 => ?_)
      exact g_zret (by decide +kernel) rfl
  · refine g_seg0 (pc' := 13) (L' := [some (vR (kO 1) o0), some (vR (kO 6) 1), some (vI v2)]) (st' := [vI 0]) (u1 := q1.2) [(oC 0, 1)] (by decide +kernel) rfl rfl ?_
    exact g_zret (by decide +kernel) rfl
theorem CX1_readBrackets (rX1_readLevel : Nat → Int32 → Int32 → ab_S → Option (Int32 × ab_S)) (rX1_readPart : Nat → Int32 → ab_S → Option (Int32 × ab_S)) (rX1_readNot : Nat → Int32 → ab_S → Option (Int32 × ab_S)) (rX1_readBrackets : Nat → Int32 → ab_S → Option (Int32 × ab_S)) {dd : Nat} (hX1_readLevel : ∀ (o0 : Nat) (v2 : Int32) (v3 : Int32) (u : ab_S), ab_C 0 yX1_readLevel cX1_readLevel 6 (some .boolean) dd [vR (kO 1) o0, vR (kO 6) 1, vI v2, vI v3] u wI (rX1_readLevel o0 v2 v3 u)) (hX1_readPart : ∀ (o0 : Nat) (v2 : Int32) (u : ab_S), ab_C 0 yX1_readPart cX1_readPart 7 (some .boolean) dd [vR (kO 1) o0, vR (kO 6) 1, vI v2] u wI (rX1_readPart o0 v2 u)) (hX1_readNot : ∀ (o0 : Nat) (v2 : Int32) (u : ab_S), ab_C 0 yX1_readNot cX1_readNot 3 (some .boolean) dd [vR (kO 1) o0, vR (kO 6) 1, vI v2] u wI (rX1_readNot o0 v2 u)) (hX1_readBrackets : ∀ (o0 : Nat) (v2 : Int32) (u : ab_S), ab_C 0 yX1_readBrackets cX1_readBrackets 3 (some .boolean) dd [vR (kO 1) o0, vR (kO 6) 1, vI v2] u wI (rX1_readBrackets o0 v2 u)) (hdd : 0 ≤ dd) (o0 : Nat) (v2 : Int32) (u : ab_S) : ab_C 0 yX1_readBrackets cX1_readBrackets 3 (some .boolean) (dd + 1) [vR (kO 1) o0, vR (kO 6) 1, vI v2] u wI (fX1_readBrackets rX1_readLevel rX1_readPart rX1_readNot rX1_readBrackets o0 v2 u) := ab_entry (by decide +kernel) rfl (by decide) (by decide) (fun _ => Nat.le_of_ble_eq_true rfl) rfl (tX1_readBrackets rX1_readLevel rX1_readPart rX1_readNot rX1_readBrackets hX1_readLevel hX1_readPart hX1_readNot hX1_readBrackets hdd o0 v2 u)
def zX1_readLevel : Nat → (Nat → Int32 → Int32 → ab_S → Option (Int32 × ab_S)) × (Nat → Int32 → ab_S → Option (Int32 × ab_S)) × (Nat → Int32 → ab_S → Option (Int32 × ab_S)) × (Nat → Int32 → ab_S → Option (Int32 × ab_S))
  | 0 => (fun _ _ _ _ => none, fun _ _ _ => none, fun _ _ _ => none, fun _ _ _ => none)
  | n + 1 => (fun o0 v2 v3 u => fX1_readLevel (zX1_readLevel n).1 (zX1_readLevel n).2.1 (zX1_readLevel n).2.2.1 (zX1_readLevel n).2.2.2 o0 v2 v3 u, fun o0 v2 u => fX1_readPart (zX1_readLevel n).1 (zX1_readLevel n).2.1 (zX1_readLevel n).2.2.1 (zX1_readLevel n).2.2.2 o0 v2 u, fun o0 v2 u => fX1_readNot (zX1_readLevel n).1 (zX1_readLevel n).2.1 (zX1_readLevel n).2.2.1 (zX1_readLevel n).2.2.2 o0 v2 u, fun o0 v2 u => fX1_readBrackets (zX1_readLevel n).1 (zX1_readLevel n).2.1 (zX1_readLevel n).2.2.1 (zX1_readLevel n).2.2.2 o0 v2 u)
theorem zX1_readLevel_ok : ∀ n : Nat, (∀ (o0 : Nat) (v2 : Int32) (v3 : Int32) (u : ab_S), ab_C 0 yX1_readLevel cX1_readLevel 6 (some .boolean) (2 + n) [vR (kO 1) o0, vR (kO 6) 1, vI v2, vI v3] u wI ((zX1_readLevel n).1 o0 v2 v3 u)) ∧ (∀ (o0 : Nat) (v2 : Int32) (u : ab_S), ab_C 0 yX1_readPart cX1_readPart 7 (some .boolean) (2 + n) [vR (kO 1) o0, vR (kO 6) 1, vI v2] u wI ((zX1_readLevel n).2.1 o0 v2 u)) ∧ (∀ (o0 : Nat) (v2 : Int32) (u : ab_S), ab_C 0 yX1_readNot cX1_readNot 3 (some .boolean) (2 + n) [vR (kO 1) o0, vR (kO 6) 1, vI v2] u wI ((zX1_readLevel n).2.2.1 o0 v2 u)) ∧ (∀ (o0 : Nat) (v2 : Int32) (u : ab_S), ab_C 0 yX1_readBrackets cX1_readBrackets 3 (some .boolean) (2 + n) [vR (kO 1) o0, vR (kO 6) 1, vI v2] u wI ((zX1_readLevel n).2.2.2 o0 v2 u))
  | 0 => ⟨fun _ _ _ _ _ _ h => (by cases h), fun _ _ _ _ _ h => (by cases h), fun _ _ _ _ _ h => (by cases h), fun _ _ _ _ _ h => (by cases h)⟩
  | n + 1 => by
    have ih := zX1_readLevel_ok n
    obtain ⟨h0, h1, h2, h3⟩ := ih
    exact ⟨fun o0 v2 v3 u => CX1_readLevel _ _ _ _ h0 h1 h2 h3 (by omega) o0 v2 v3 u, fun o0 v2 u => CX1_readPart _ _ _ _ h0 h1 h2 h3 (by omega) o0 v2 u, fun o0 v2 u => CX1_readNot _ _ _ _ h0 h1 h2 h3 (by omega) o0 v2 u, fun o0 v2 u => CX1_readBrackets _ _ _ _ h0 h1 h2 h3 (by omega) o0 v2 u⟩
def wX1_readLevel (o0 : Nat) (v2 : Int32) (v3 : Int32) (u : ab_S) : Option (Int32 × ab_S) := (zX1_readLevel 60).1 o0 v2 v3 u
theorem WX1_readLevel (o0 : Nat) (v2 : Int32) (v3 : Int32) (u : ab_S) : ab_C 0 yX1_readLevel cX1_readLevel 6 (some .boolean) 62 [vR (kO 1) o0, vR (kO 6) 1, vI v2, vI v3] u wI (wX1_readLevel o0 v2 v3 u) := (zX1_readLevel_ok 60).1 o0 v2 v3 u
def wX1_readPart (o0 : Nat) (v2 : Int32) (u : ab_S) : Option (Int32 × ab_S) := (zX1_readLevel 60).2.1 o0 v2 u
theorem WX1_readPart (o0 : Nat) (v2 : Int32) (u : ab_S) : ab_C 0 yX1_readPart cX1_readPart 7 (some .boolean) 62 [vR (kO 1) o0, vR (kO 6) 1, vI v2] u wI (wX1_readPart o0 v2 u) := (zX1_readLevel_ok 60).2.1 o0 v2 u
def wX1_readNot (o0 : Nat) (v2 : Int32) (u : ab_S) : Option (Int32 × ab_S) := (zX1_readLevel 60).2.2.1 o0 v2 u
theorem WX1_readNot (o0 : Nat) (v2 : Int32) (u : ab_S) : ab_C 0 yX1_readNot cX1_readNot 3 (some .boolean) 62 [vR (kO 1) o0, vR (kO 6) 1, vI v2] u wI (wX1_readNot o0 v2 u) := (zX1_readLevel_ok 60).2.2.1 o0 v2 u
def wX1_readBrackets (o0 : Nat) (v2 : Int32) (u : ab_S) : Option (Int32 × ab_S) := (zX1_readLevel 60).2.2.2 o0 v2 u
theorem WX1_readBrackets (o0 : Nat) (v2 : Int32) (u : ab_S) : ab_C 0 yX1_readBrackets cX1_readBrackets 3 (some .boolean) 62 [vR (kO 1) o0, vR (kO 6) 1, vI v2] u wI (wX1_readBrackets o0 v2 u) := (zX1_readLevel_ok 60).2.2.2 o0 v2 u
def fX2_readFits (o0 : Nat) (u : ab_S) : Option (Int32 × ab_S) :=
  bif decide ((u.1 o0 11) = 0) then (
    (fX6_step u).bind fun q1 =>
      ab_gd [ab_b1 1] (
        (wX1_readLevel (o0 + 8) 0 0 (sI (sI q1.2 o0 11 1) (o0 + 8) 1 0)).bind fun q2 =>
          bif decide (q2.1 = 0) then (
            ab_gd [ab_b1 0] (some (0, q2.2)))
          else (
            (fX6_takeEnd q2.2).bind fun q3 =>
              bif decide (q3.1 = 0) then (
                ab_gd [ab_b1 0] (some (0, q3.2)))
              else (
                ab_gd [ab_b1 1] (some (1, q3.2))))))
  else (
    (fX6_fail 3 u).bind fun q4 =>
      ab_gd [ab_b1 q4.1] (some (q4.1, q4.2)))
theorem tX2_readFits (o0 : Nat) (u : ab_S) : ab_G 0 2 cX2_readFits (some .boolean) 63 0 [some (vR (kO 2) o0), some (vR (kO 6) 1)] [] u wI (fX2_readFits o0 u) := by
  rw [fX2_readFits]
  refine g_seg0 (pc' := 4) (L' := [some (vR (kO 2) o0), some (vR (kO 6) 1)]) (st' := [vI (u.1 o0 11)]) (u1 := u) [(oL 2 0, 1), (oP (.getfield 76), 3)] (by decide +kernel) rfl rfl ?_
  refine g_zeq (off := 9) (tgt := 13) (pc2 := 7) (by decide +kernel) (by decide) rfl ?_ ?_
  · refine g_seg0 (pc' := 14) (L' := [some (vR (kO 2) o0), some (vR (kO 6) 1)]) (st' := [vR (kO 6) 1]) (u1 := u) [(oL 2 1, 1)] (by decide +kernel) rfl rfl ?_
    refine g_callV (k := 123) (pc2 := 17) (st := []) (CX6_step u) miX6_step mvX6_step rfl (by decide) lk2_123 wV_ok (by decide +kernel) rfl (Nat.le_of_ble_eq_true rfl) (by decide) rfl (fun q1 hq1 => ?_)
    refine g_seg (pc' := 37) (L' := [some (vR (kO 2) o0), some (vR (kO 6) 1)]) (st' := [vI 0, vI 0, vR (kO 6) 1, vR (kO 1) (o0 + 8)]) (u1 := (sI (sI q1.2 o0 11 1) (o0 + 8) 1 0)) [(oL 2 0, 1), (oC 1, 1), (oP (.putfield 76), 3), (oL 2 0, 1), (oP (.getfield 37), 3), (oC 0, 1), (oP (.putfield 194), 3), (oL 2 0, 1), (oP (.getfield 37), 3), (oL 2 1, 1), (oC 0, 1), (oC 0, 1)] (by decide +kernel) rfl rfl ?_
    refine g_callV (k := 197) (pc2 := 40) (st := []) (WX1_readLevel (o0 + 8) 0 0 (sI (sI q1.2 o0 11 1) (o0 + 8) 1 0)) miX1_readLevel mvX1_readLevel rfl (by decide) lk2_197 wI_ok (by decide +kernel) rfl (Nat.le_of_ble_eq_true rfl) (by decide) rfl (fun q2 hq2 => ?_)
    refine g_zeq (off := 14) (tgt := 54) (pc2 := 43) (by decide +kernel) (by decide) rfl ?_ ?_
    · refine g_seg0 (pc' := 55) (L' := [some (vR (kO 2) o0), some (vR (kO 6) 1)]) (st' := [vI 0]) (u1 := q2.2) [(oC 0, 1)] (by decide +kernel) rfl rfl ?_
      exact g_zret (by decide +kernel) rfl
    · refine g_seg0 (pc' := 44) (L' := [some (vR (kO 2) o0), some (vR (kO 6) 1)]) (st' := [vR (kO 6) 1]) (u1 := q2.2) [(oL 2 1, 1)] (by decide +kernel) rfl rfl ?_
      refine g_callV (k := 147) (pc2 := 47) (st := []) (CX6_takeEnd q2.2) miX6_takeEnd mvX6_takeEnd rfl (by decide) lk2_147 wI_ok (by decide +kernel) rfl (Nat.le_of_ble_eq_true rfl) (by decide) rfl (fun q3 hq3 => ?_)
      refine g_zeq (off := 7) (tgt := 54) (pc2 := 50) (by decide +kernel) (by decide) rfl ?_ ?_
      · refine g_seg0 (pc' := 55) (L' := [some (vR (kO 2) o0), some (vR (kO 6) 1)]) (st' := [vI 0]) (u1 := q3.2) [(oC 0, 1)] (by decide +kernel) rfl rfl ?_
        exact g_zret (by decide +kernel) rfl
      · refine g_seg0 (pc' := 51) (L' := [some (vR (kO 2) o0), some (vR (kO 6) 1)]) (st' := [vI 1]) (u1 := q3.2) [(oC 1, 1)] (by decide +kernel) rfl rfl ?_
        refine g_goto (off := 4) (tgt := 55) (by decide +kernel) (by decide) ?_
        exact g_zret (by decide +kernel) rfl
  · refine g_seg0 (pc' := 9) (L' := [some (vR (kO 2) o0), some (vR (kO 6) 1)]) (st' := [vI 3, vR (kO 6) 1]) (u1 := u) [(oL 2 1, 1), (oC 3, 1)] (by decide +kernel) rfl rfl ?_
    refine g_callV (k := 119) (pc2 := 12) (st := []) (CX6_fail 3 u) miX6_fail mvX6_fail rfl (by decide) lk2_119 wI_ok (by decide +kernel) rfl (Nat.le_of_ble_eq_true rfl) (by decide) rfl (fun q4 hq4 => ?_)
    exact g_zret (by decide +kernel) rfl
theorem CX2_readFits (o0 : Nat) (u : ab_S) : ab_C 0 yX2_readFits cX2_readFits 2 (some .boolean) 63 [vR (kO 2) o0, vR (kO 6) 1] u wI (fX2_readFits o0 u) := ab_entry (by decide +kernel) rfl (by decide) (by decide) (fun _ => Nat.le_of_ble_eq_true rfl) rfl (tX2_readFits o0 u)
def fX2_readLikes_71 (o0 : Nat) (v2 : Int32) (u : ab_S) : Option (Int32 × ab_S) :=
  (fX6_takeToldName 8 (o0 + 2) (u.1 o0 1) u).bind fun q1 =>
    bif decide (q1.1 = (-1)) then (
      ab_gd [ab_b1 0] (some (0, q1.2)))
    else (
      (fX6_takeNumber 1 20 q1.2).bind fun q2 =>
        bif decide (q2.1 = (-1)) then (
          ab_gd [ab_b1 0] (some (0, q2.2)))
        else (
          (fX6_takeEnd q2.2).bind fun q3 =>
            bif decide (q3.1 = 0) then (
              ab_gd [ab_b1 0] (some (0, q3.2)))
            else (
              (fX9_put 48 (o0 + 7) ((v2 * 8) + q1.1) q2.1 q3.2).bind fun q4 =>
                ab_gd [ab_b1 1] (some (1, q4.2)))))
theorem tX2_readLikes_71 (o0 : Nat) (v2 : Int32) (u : ab_S) : ab_G 0 2 cX2_readLikes (some .boolean) 2 71 [some (vR (kO 2) o0), some (vR (kO 6) 1), some (vI v2), none, none, none] [] u wI (fX2_readLikes_71 o0 v2 u) := by
  rw [fX2_readLikes_71]
  refine g_seg0 (pc' := 80) (L' := [some (vR (kO 2) o0), some (vR (kO 6) 1), some (vI v2), none, none, none]) (st' := [vI (u.1 o0 1), vR (kA 1 8) (o0 + 2), vR (kO 6) 1]) (u1 := u) [(oL 2 1, 1), (oL 2 0, 1), (oP (.getfield 15), 3), (oL 2 0, 1), (oP (.getfield 66), 3)] (by decide +kernel) rfl rfl ?_
  refine g_callV (k := 165) (pc2 := 83) (st := []) (CX6_takeToldName 8 (o0 + 2) (u.1 o0 1) u) miX6_takeToldName mvX6_takeToldName rfl (by decide) lk2_165 wI_ok (by decide +kernel) rfl (Nat.le_of_ble_eq_true rfl) (by decide) rfl (fun q1 hq1 => ?_)
  refine g_seg0 (pc' := 88) (L' := [some (vR (kO 2) o0), some (vR (kO 6) 1), some (vI v2), none, some (vI (q1.1)), none]) (st' := [vI (-1), vI (q1.1)]) (u1 := q1.2) [(oL 3 4, 2), (oL 0 4, 2), (oC (-1), 1)] (by decide +kernel) rfl rfl ?_
  refine g_ine (off := 5) (tgt := 93) (pc2 := 91) (by decide +kernel) (by decide) rfl ?_ ?_
  · refine g_seg0 (pc' := 97) (L' := [some (vR (kO 2) o0), some (vR (kO 6) 1), some (vI v2), none, some (vI (q1.1)), none]) (st' := [vI 20, vI 1, vR (kO 6) 1]) (u1 := q1.2) [(oL 2 1, 1), (oC 1, 1), (oC 20, 2)] (by decide +kernel) rfl rfl ?_
    refine g_callV (k := 143) (pc2 := 100) (st := []) (CX6_takeNumber 1 20 q1.2) miX6_takeNumber mvX6_takeNumber rfl (by decide) lk2_143 wI_ok (by decide +kernel) rfl (Nat.le_of_ble_eq_true rfl) (by decide) rfl (fun q2 hq2 => ?_)
    refine g_seg0 (pc' := 105) (L' := [some (vR (kO 2) o0), some (vR (kO 6) 1), some (vI v2), none, some (vI (q1.1)), some (vI (q2.1))]) (st' := [vI (-1), vI (q2.1)]) (u1 := q2.2) [(oL 3 5, 2), (oL 0 5, 2), (oC (-1), 1)] (by decide +kernel) rfl rfl ?_
    refine g_ieq (off := 10) (tgt := 115) (pc2 := 108) (by decide +kernel) (by decide) rfl ?_ ?_
    · refine g_seg0 (pc' := 116) (L' := [some (vR (kO 2) o0), some (vR (kO 6) 1), some (vI v2), none, some (vI (q1.1)), some (vI (q2.1))]) (st' := [vI 0]) (u1 := q2.2) [(oC 0, 1)] (by decide +kernel) rfl rfl ?_
      exact g_zret (by decide +kernel) rfl
    · refine g_seg0 (pc' := 109) (L' := [some (vR (kO 2) o0), some (vR (kO 6) 1), some (vI v2), none, some (vI (q1.1)), some (vI (q2.1))]) (st' := [vR (kO 6) 1]) (u1 := q2.2) [(oL 2 1, 1)] (by decide +kernel) rfl rfl ?_
      refine g_callV (k := 147) (pc2 := 112) (st := []) (CX6_takeEnd q2.2) miX6_takeEnd mvX6_takeEnd rfl (by decide) lk2_147 wI_ok (by decide +kernel) rfl (Nat.le_of_ble_eq_true rfl) (by decide) rfl (fun q3 hq3 => ?_)
      refine g_zne (off := 5) (tgt := 117) (pc2 := 115) (by decide +kernel) (by decide) rfl ?_ ?_
      · refine g_seg0 (pc' := 130) (L' := [some (vR (kO 2) o0), some (vR (kO 6) 1), some (vI v2), none, some (vI (q1.1)), some (vI (q2.1))]) (st' := [vI (q2.1), vI ((v2 * 8) + q1.1), vR (kA 0 48) (o0 + 7)]) (u1 := q3.2) [(oL 2 0, 1), (oP (.getfield 31), 3), (oL 0 2, 1), (oC 8, 2), (oP .imul, 1), (oL 0 4, 2), (oP .iadd, 1), (oL 0 5, 2)] (by decide +kernel) rfl rfl ?_
        refine g_callS (k := 155) (pc2 := 133) (st := []) (CX9_put 48 (o0 + 7) ((v2 * 8) + q1.1) q2.1 q3.2) miX9_put msX9_put lk2_155 wV_ok (by decide +kernel) rfl (Nat.le_of_ble_eq_true rfl) (by decide) rfl (fun q4 hq4 => ?_)
        refine g_seg0 (pc' := 134) (L' := [some (vR (kO 2) o0), some (vR (kO 6) 1), some (vI v2), none, some (vI (q1.1)), some (vI (q2.1))]) (st' := [vI 1]) (u1 := q4.2) [(oC 1, 1)] (by decide +kernel) rfl rfl ?_
        exact g_zret (by decide +kernel) rfl
      · refine g_seg0 (pc' := 116) (L' := [some (vR (kO 2) o0), some (vR (kO 6) 1), some (vI v2), none, some (vI (q1.1)), some (vI (q2.1))]) (st' := [vI 0]) (u1 := q3.2) [(oC 0, 1)] (by decide +kernel) rfl rfl ?_
        exact g_zret (by decide +kernel) rfl
  · refine g_seg0 (pc' := 92) (L' := [some (vR (kO 2) o0), some (vR (kO 6) 1), some (vI v2), none, some (vI (q1.1)), none]) (st' := [vI 0]) (u1 := q1.2) [(oC 0, 1)] (by decide +kernel) rfl rfl ?_
    exact g_zret (by decide +kernel) rfl
def fX2_readLikes_50 (o0 : Nat) (v2 : Int32) (s0 : Int32) (u : ab_S) : Option (Int32 × ab_S) :=
  bif decide (s0 = (-1)) then (
    fX2_readLikes_71 o0 v2 u)
  else (
    (fX2_likeOf o0 v2 s0 u).bind fun q5 =>
      bif decide (q5.1 = 0) then (
        fX2_readLikes_71 o0 v2 q5.2)
      else (
        (fX6_fail 3 q5.2).bind fun q6 =>
          ab_gd [ab_b1 q6.1] (some (q6.1, q6.2))))
theorem tX2_readLikes_50 (o0 : Nat) (v2 : Int32) (s0 : Int32) (u : ab_S) : ab_G 0 2 cX2_readLikes (some .boolean) 2 50 [some (vR (kO 2) o0), some (vR (kO 6) 1), some (vI v2), none, none, none] [vI s0] u wI (fX2_readLikes_50 o0 v2 s0 u) := by
  rw [fX2_readLikes_50]
  refine g_seg0 (pc' := 53) (L' := [some (vR (kO 2) o0), some (vR (kO 6) 1), some (vI v2), some (vI s0), none, none]) (st' := [vI (-1), vI s0]) (u1 := u) [(oL 3 3, 1), (oL 0 3, 1), (oC (-1), 1)] (by decide +kernel) rfl rfl ?_
  refine g_ieq (off := 18) (tgt := 71) (pc2 := 56) (by decide +kernel) (by decide) rfl ?_ ?_
  · exact g_jump [true, true, true, false, false, false] rfl (tX2_readLikes_71 o0 v2 u)
  · refine g_seg0 (pc' := 59) (L' := [some (vR (kO 2) o0), some (vR (kO 6) 1), some (vI v2), some (vI s0), none, none]) (st' := [vI s0, vI v2, vR (kO 2) o0]) (u1 := u) [(oL 2 0, 1), (oL 0 2, 1), (oL 0 3, 1)] (by decide +kernel) rfl rfl ?_
    refine g_callV (k := 191) (pc2 := 62) (st := []) (CX2_likeOf o0 v2 s0 u) miX2_likeOf mvX2_likeOf rfl (by decide) lk2_191 wI_ok (by decide +kernel) rfl (Nat.le_of_ble_eq_true rfl) (by decide) rfl (fun q5 hq5 => ?_)
    refine g_zeq (off := 9) (tgt := 71) (pc2 := 65) (by decide +kernel) (by decide) rfl ?_ ?_
    · exact g_jump [true, true, true, false, false, false] rfl (tX2_readLikes_71 o0 v2 q5.2)
    · refine g_seg0 (pc' := 67) (L' := [some (vR (kO 2) o0), some (vR (kO 6) 1), some (vI v2), some (vI s0), none, none]) (st' := [vI 3, vR (kO 6) 1]) (u1 := q5.2) [(oL 2 1, 1), (oC 3, 1)] (by decide +kernel) rfl rfl ?_
      refine g_callV (k := 119) (pc2 := 70) (st := []) (CX6_fail 3 q5.2) miX6_fail mvX6_fail rfl (by decide) lk2_119 wI_ok (by decide +kernel) rfl (Nat.le_of_ble_eq_true rfl) (by decide) rfl (fun q6 hq6 => ?_)
      exact g_zret (by decide +kernel) rfl
def fX2_readLikes (o0 : Nat) (u : ab_S) : Option (Int32 × ab_S) :=
  (fX6_step u).bind fun q7 =>
    (fX6_takeToldName 6 (o0 + 1) (q7.2.1 o0 0) q7.2).bind fun q8 =>
      bif decide (q8.1 = (-1)) then (
        ab_gd [ab_b1 0] (some (0, q8.2)))
      else (
        (fX6_isName q8.2).bind fun q9 =>
          bif decide (q9.1 = 0) then (
            fX2_readLikes_50 o0 q8.1 (-1) q9.2)
          else (
            (fX9_indexOf 8 (o0 + 2) (q9.2.1 o0 1) (q9.2.2.1 1 9) q9.2).bind fun q10 =>
              fX2_readLikes_50 o0 q8.1 q10.1 q10.2))
theorem tX2_readLikes (o0 : Nat) (u : ab_S) : ab_G 0 2 cX2_readLikes (some .boolean) 2 0 [some (vR (kO 2) o0), some (vR (kO 6) 1), none, none, none, none] [] u wI (fX2_readLikes o0 u) := by
  rw [fX2_readLikes]
  refine g_seg0 (pc' := 1) (L' := [some (vR (kO 2) o0), some (vR (kO 6) 1), none, none, none, none]) (st' := [vR (kO 6) 1]) (u1 := u) [(oL 2 1, 1)] (by decide +kernel) rfl rfl ?_
  refine g_callV (k := 123) (pc2 := 4) (st := []) (CX6_step u) miX6_step mvX6_step rfl (by decide) lk2_123 wV_ok (by decide +kernel) rfl (Nat.le_of_ble_eq_true rfl) (by decide) rfl (fun q7 hq7 => ?_)
  refine g_seg0 (pc' := 13) (L' := [some (vR (kO 2) o0), some (vR (kO 6) 1), none, none, none, none]) (st' := [vI (q7.2.1 o0 0), vR (kA 1 6) (o0 + 1), vR (kO 6) 1]) (u1 := q7.2) [(oL 2 1, 1), (oL 2 0, 1), (oP (.getfield 9), 3), (oL 2 0, 1), (oP (.getfield 63), 3)] (by decide +kernel) rfl rfl ?_
  refine g_callV (k := 165) (pc2 := 16) (st := []) (CX6_takeToldName 6 (o0 + 1) (q7.2.1 o0 0) q7.2) miX6_takeToldName mvX6_takeToldName rfl (by decide) lk2_165 wI_ok (by decide +kernel) rfl (Nat.le_of_ble_eq_true rfl) (by decide) rfl (fun q8 hq8 => ?_)
  refine g_seg0 (pc' := 19) (L' := [some (vR (kO 2) o0), some (vR (kO 6) 1), some (vI (q8.1)), none, none, none]) (st' := [vI (-1), vI (q8.1)]) (u1 := q8.2) [(oL 3 2, 1), (oL 0 2, 1), (oC (-1), 1)] (by decide +kernel) rfl rfl ?_
  refine g_ine (off := 5) (tgt := 24) (pc2 := 22) (by decide +kernel) (by decide) rfl ?_ ?_
  · refine g_seg0 (pc' := 25) (L' := [some (vR (kO 2) o0), some (vR (kO 6) 1), some (vI (q8.1)), none, none, none]) (st' := [vR (kO 6) 1]) (u1 := q8.2) [(oL 2 1, 1)] (by decide +kernel) rfl rfl ?_
    refine g_callV (k := 172) (pc2 := 28) (st := []) (CX6_isName q8.2) miX6_isName mvX6_isName rfl (by decide) lk2_172 wI_ok (by decide +kernel) rfl (Nat.le_of_ble_eq_true rfl) (by decide) rfl (fun q9 hq9 => ?_)
    refine g_zeq (off := 21) (tgt := 49) (pc2 := 31) (by decide +kernel) (by decide) rfl ?_ ?_
    · refine g_seg0 (pc' := 50) (L' := [some (vR (kO 2) o0), some (vR (kO 6) 1), some (vI (q8.1)), none, none, none]) (st' := [vI (-1)]) (u1 := q9.2) [(oC (-1), 1)] (by decide +kernel) rfl rfl ?_
      exact tX2_readLikes_50 o0 q8.1 (-1) q9.2
    · refine g_seg0 (pc' := 43) (L' := [some (vR (kO 2) o0), some (vR (kO 6) 1), some (vI (q8.1)), none, none, none]) (st' := [vL (q9.2.2.1 1 9), vI (q9.2.1 o0 1), vR (kA 1 8) (o0 + 2)]) (u1 := q9.2) [(oL 2 0, 1), (oP (.getfield 15), 3), (oL 2 0, 1), (oP (.getfield 66), 3), (oL 2 1, 1), (oP (.getfield 129), 3)] (by decide +kernel) rfl rfl ?_
      refine g_callS (k := 175) (pc2 := 46) (st := []) (CX9_indexOf 8 (o0 + 2) (q9.2.1 o0 1) (q9.2.2.1 1 9) q9.2) miX9_indexOf msX9_indexOf lk2_175 wI_ok (by decide +kernel) rfl (Nat.le_of_ble_eq_true rfl) (by decide) rfl (fun q10 hq10 => ?_)
      refine g_goto (off := 4) (tgt := 50) (by decide +kernel) (by decide) ?_
      exact tX2_readLikes_50 o0 q8.1 q10.1 q10.2
  · refine g_seg0 (pc' := 23) (L' := [some (vR (kO 2) o0), some (vR (kO 6) 1), some (vI (q8.1)), none, none, none]) (st' := [vI 0]) (u1 := q8.2) [(oC 0, 1)] (by decide +kernel) rfl rfl ?_
    exact g_zret (by decide +kernel) rfl
theorem CX2_readLikes (o0 : Nat) (u : ab_S) : ab_C 0 yX2_readLikes cX2_readLikes 6 (some .boolean) 2 [vR (kO 2) o0, vR (kO 6) 1] u wI (fX2_readLikes o0 u) := ab_entry (by decide +kernel) rfl (by decide) (by decide) (fun _ => Nat.le_of_ble_eq_true rfl) rfl (tX2_readLikes o0 u)
def fX2_readLine (o0 : Nat) (u : ab_S) : Option (Int32 × ab_S) :=
  (fX6_isWord 0 u).bind fun q1 =>
    bif decide (q1.1 = 0) then (
      (fX6_isWord 2 q1.2).bind fun q2 =>
        bif decide (q2.1 = 0) then (
          (fX6_isWord 5 q2.2).bind fun q3 =>
            bif decide (q3.1 = 0) then (
              (fX6_isWord 6 q3.2).bind fun q4 =>
                bif decide (q4.1 = 0) then (
                  (fX6_isWord 7 q4.2).bind fun q5 =>
                    bif decide (q5.1 = 0) then (
                      (fX6_fail 1 q5.2).bind fun q6 =>
                        ab_gd [ab_b1 q6.1] (some (q6.1, q6.2)))
                    else (
                      (fX2_readFits o0 q5.2).bind fun q7 =>
                        ab_gd [ab_b1 q7.1] (some (q7.1, q7.2))))
                else (
                  (fX2_readSeed o0 q4.2).bind fun q8 =>
                    ab_gd [ab_b1 q8.1] (some (q8.1, q8.2))))
            else (
              (fX2_readLikes o0 q3.2).bind fun q9 =>
                ab_gd [ab_b1 q9.1] (some (q9.1, q9.2))))
        else (
          (fX2_readGood o0 q2.2).bind fun q10 =>
            ab_gd [ab_b1 q10.1] (some (q10.1, q10.2))))
    else (
      (fX2_readPerson o0 q1.2).bind fun q11 =>
        ab_gd [ab_b1 q11.1] (some (q11.1, q11.2)))
theorem tX2_readLine (o0 : Nat) (u : ab_S) : ab_G 0 2 cX2_readLine (some .boolean) 64 0 [some (vR (kO 2) o0), some (vR (kO 6) 1)] [] u wI (fX2_readLine o0 u) := by
  rw [fX2_readLine]
  refine g_seg0 (pc' := 4) (L' := [some (vR (kO 2) o0), some (vR (kO 6) 1)]) (st' := [vR (kO 20) 0, vR (kO 6) 1]) (u1 := u) [(oL 2 1, 1), (oP (.getstatic 82), 3)] (by decide +kernel) rfl rfl ?_
  refine g_callV (k := 88) (pc2 := 7) (st := []) (CX6_isWord 0 u) miX6_isWord mvX6_isWord rfl (by decide) lk2_88 wI_ok (by decide +kernel) rfl (Nat.le_of_ble_eq_true rfl) (by decide) rfl (fun q1 hq1 => ?_)
  refine g_zeq (off := 9) (tgt := 16) (pc2 := 10) (by decide +kernel) (by decide) rfl ?_ ?_
  · refine g_seg0 (pc' := 20) (L' := [some (vR (kO 2) o0), some (vR (kO 6) 1)]) (st' := [vR (kO 20) 2, vR (kO 6) 1]) (u1 := q1.2) [(oL 2 1, 1), (oP (.getstatic 95), 3)] (by decide +kernel) rfl rfl ?_
    refine g_callV (k := 88) (pc2 := 23) (st := []) (CX6_isWord 2 q1.2) miX6_isWord mvX6_isWord rfl (by decide) lk2_88 wI_ok (by decide +kernel) rfl (Nat.le_of_ble_eq_true rfl) (by decide) rfl (fun q2 hq2 => ?_)
    refine g_zeq (off := 9) (tgt := 32) (pc2 := 26) (by decide +kernel) (by decide) rfl ?_ ?_
    · refine g_seg0 (pc' := 36) (L' := [some (vR (kO 2) o0), some (vR (kO 6) 1)]) (st' := [vR (kO 20) 5, vR (kO 6) 1]) (u1 := q2.2) [(oL 2 1, 1), (oP (.getstatic 101), 3)] (by decide +kernel) rfl rfl ?_
      refine g_callV (k := 88) (pc2 := 39) (st := []) (CX6_isWord 5 q2.2) miX6_isWord mvX6_isWord rfl (by decide) lk2_88 wI_ok (by decide +kernel) rfl (Nat.le_of_ble_eq_true rfl) (by decide) rfl (fun q3 hq3 => ?_)
      refine g_zeq (off := 9) (tgt := 48) (pc2 := 42) (by decide +kernel) (by decide) rfl ?_ ?_
      · refine g_seg0 (pc' := 52) (L' := [some (vR (kO 2) o0), some (vR (kO 6) 1)]) (st' := [vR (kO 20) 6, vR (kO 6) 1]) (u1 := q3.2) [(oL 2 1, 1), (oP (.getstatic 107), 3)] (by decide +kernel) rfl rfl ?_
        refine g_callV (k := 88) (pc2 := 55) (st := []) (CX6_isWord 6 q3.2) miX6_isWord mvX6_isWord rfl (by decide) lk2_88 wI_ok (by decide +kernel) rfl (Nat.le_of_ble_eq_true rfl) (by decide) rfl (fun q4 hq4 => ?_)
        refine g_zeq (off := 9) (tgt := 64) (pc2 := 58) (by decide +kernel) (by decide) rfl ?_ ?_
        · refine g_seg0 (pc' := 68) (L' := [some (vR (kO 2) o0), some (vR (kO 6) 1)]) (st' := [vR (kO 20) 7, vR (kO 6) 1]) (u1 := q4.2) [(oL 2 1, 1), (oP (.getstatic 113), 3)] (by decide +kernel) rfl rfl ?_
          refine g_callV (k := 88) (pc2 := 71) (st := []) (CX6_isWord 7 q4.2) miX6_isWord mvX6_isWord rfl (by decide) lk2_88 wI_ok (by decide +kernel) rfl (Nat.le_of_ble_eq_true rfl) (by decide) rfl (fun q5 hq5 => ?_)
          refine g_zeq (off := 11) (tgt := 82) (pc2 := 74) (by decide +kernel) (by decide) rfl ?_ ?_
          · refine g_seg0 (pc' := 84) (L' := [some (vR (kO 2) o0), some (vR (kO 6) 1)]) (st' := [vI 1, vR (kO 6) 1]) (u1 := q5.2) [(oL 2 1, 1), (oC 1, 1)] (by decide +kernel) rfl rfl ?_
            refine g_callV (k := 119) (pc2 := 87) (st := []) (CX6_fail 1 q5.2) miX6_fail mvX6_fail rfl (by decide) lk2_119 wI_ok (by decide +kernel) rfl (Nat.le_of_ble_eq_true rfl) (by decide) rfl (fun q6 hq6 => ?_)
            exact g_zret (by decide +kernel) rfl
          · refine g_seg0 (pc' := 76) (L' := [some (vR (kO 2) o0), some (vR (kO 6) 1)]) (st' := [vR (kO 6) 1, vR (kO 2) o0]) (u1 := q5.2) [(oL 2 0, 1), (oL 2 1, 1)] (by decide +kernel) rfl rfl ?_
            refine g_callV (k := 116) (pc2 := 79) (st := []) (CX2_readFits o0 q5.2) miX2_readFits mvX2_readFits rfl (by decide) lk2_116 wI_ok (by decide +kernel) rfl (Nat.le_of_ble_eq_true rfl) (by decide) rfl (fun q7 hq7 => ?_)
            refine g_goto (off := 8) (tgt := 87) (by decide +kernel) (by decide) ?_
            exact g_zret (by decide +kernel) rfl
        · refine g_seg0 (pc' := 60) (L' := [some (vR (kO 2) o0), some (vR (kO 6) 1)]) (st' := [vR (kO 6) 1, vR (kO 2) o0]) (u1 := q4.2) [(oL 2 0, 1), (oL 2 1, 1)] (by decide +kernel) rfl rfl ?_
          refine g_callV (k := 110) (pc2 := 63) (st := []) (CX2_readSeed o0 q4.2) miX2_readSeed mvX2_readSeed rfl (by decide) lk2_110 wI_ok (by decide +kernel) rfl (Nat.le_of_ble_eq_true rfl) (by decide) rfl (fun q8 hq8 => ?_)
          exact g_zret (by decide +kernel) rfl
      · refine g_seg0 (pc' := 44) (L' := [some (vR (kO 2) o0), some (vR (kO 6) 1)]) (st' := [vR (kO 6) 1, vR (kO 2) o0]) (u1 := q3.2) [(oL 2 0, 1), (oL 2 1, 1)] (by decide +kernel) rfl rfl ?_
        refine g_callV (k := 104) (pc2 := 47) (st := []) (CX2_readLikes o0 q3.2) miX2_readLikes mvX2_readLikes rfl (by decide) lk2_104 wI_ok (by decide +kernel) rfl (Nat.le_of_ble_eq_true rfl) (by decide) rfl (fun q9 hq9 => ?_)
        exact g_zret (by decide +kernel) rfl
    · refine g_seg0 (pc' := 28) (L' := [some (vR (kO 2) o0), some (vR (kO 6) 1)]) (st' := [vR (kO 6) 1, vR (kO 2) o0]) (u1 := q2.2) [(oL 2 0, 1), (oL 2 1, 1)] (by decide +kernel) rfl rfl ?_
      refine g_callV (k := 98) (pc2 := 31) (st := []) (CX2_readGood o0 q2.2) miX2_readGood mvX2_readGood rfl (by decide) lk2_98 wI_ok (by decide +kernel) rfl (Nat.le_of_ble_eq_true rfl) (by decide) rfl (fun q10 hq10 => ?_)
      exact g_zret (by decide +kernel) rfl
  · refine g_seg0 (pc' := 12) (L' := [some (vR (kO 2) o0), some (vR (kO 6) 1)]) (st' := [vR (kO 6) 1, vR (kO 2) o0]) (u1 := q1.2) [(oL 2 0, 1), (oL 2 1, 1)] (by decide +kernel) rfl rfl ?_
    refine g_callV (k := 92) (pc2 := 15) (st := []) (CX2_readPerson o0 q1.2) miX2_readPerson mvX2_readPerson rfl (by decide) lk2_92 wI_ok (by decide +kernel) rfl (Nat.le_of_ble_eq_true rfl) (by decide) rfl (fun q11 hq11 => ?_)
    exact g_zret (by decide +kernel) rfl
theorem CX2_readLine (o0 : Nat) (u : ab_S) : ab_C 0 yX2_readLine cX2_readLine 2 (some .boolean) 64 [vR (kO 2) o0, vR (kO 6) 1] u wI (fX2_readLine o0 u) := ab_entry (by decide +kernel) rfl (by decide) (by decide) (fun _ => Nat.le_of_ble_eq_true rfl) rfl (tX2_readLine o0 u)
def fX1_setUsual (o0 : Nat) (u : ab_S) : Option (Unit × ab_S) :=
  (fX1_add o0 (-1) (sI u o0 1 0)).bind fun q1 =>
    (fX1_add o0 (-3) q1.2).bind fun q2 =>
      (fX1_add o0 (-10) q2.2).bind fun q3 =>
        some ((), q3.2)
theorem tX1_setUsual (o0 : Nat) (u : ab_S) : ab_G 0 1 cX1_setUsual none 1 0 [some (vR (kO 1) o0)] [] u wV (fX1_setUsual o0 u) := by
  rw [fX1_setUsual]
  refine g_seg0 (pc' := 7) (L' := [some (vR (kO 1) o0)]) (st' := [vI (-1), vR (kO 1) o0]) (u1 := (sI u o0 1 0)) [(oL 2 0, 1), (oC 0, 1), (oP (.putfield 18), 3), (oL 2 0, 1), (oC (-1), 1)] (by decide +kernel) rfl rfl ?_
  refine g_callV (k := 22) (pc2 := 10) (st := []) (CX1_add o0 (-1) (sI u o0 1 0)) miX1_add mvX1_add rfl (by decide) lk1_22 wV_ok (by decide +kernel) rfl (Nat.le_of_ble_eq_true rfl) (by decide) rfl (fun q1 hq1 => ?_)
  refine g_seg0 (pc' := 13) (L' := [some (vR (kO 1) o0)]) (st' := [vI (-3), vR (kO 1) o0]) (u1 := q1.2) [(oL 2 0, 1), (oC (-3), 2)] (by decide +kernel) rfl rfl ?_
  refine g_callV (k := 22) (pc2 := 16) (st := []) (CX1_add o0 (-3) q1.2) miX1_add mvX1_add rfl (by decide) lk1_22 wV_ok (by decide +kernel) rfl (Nat.le_of_ble_eq_true rfl) (by decide) rfl (fun q2 hq2 => ?_)
  refine g_seg0 (pc' := 19) (L' := [some (vR (kO 1) o0)]) (st' := [vI (-10), vR (kO 1) o0]) (u1 := q2.2) [(oL 2 0, 1), (oC (-10), 2)] (by decide +kernel) rfl rfl ?_
  refine g_callV (k := 22) (pc2 := 22) (st := []) (CX1_add o0 (-10) q2.2) miX1_add mvX1_add rfl (by decide) lk1_22 wV_ok (by decide +kernel) rfl (Nat.le_of_ble_eq_true rfl) (by decide) rfl (fun q3 hq3 => ?_)
  exact g_vret (by decide +kernel) rfl
theorem CX1_setUsual (o0 : Nat) (u : ab_S) : ab_C 0 yX1_setUsual cX1_setUsual 1 none 1 [vR (kO 1) o0] u wV (fX1_setUsual o0 u) := ab_entry (by decide +kernel) rfl (by decide) (by decide) (fun _ => Nat.le_of_ble_eq_true rfl) rfl (tX1_setUsual o0 u)
def fX2_clear_12 (o0 : Nat) : Nat → Int32 → ab_S → Option (Unit × ab_S)
  | 0, _, _ => none
  | n + 1, v1, u =>
  bif decide (v1 < 48) then (
    ab_gd [ab_ix v1 48] (
      (fX2_clear_12 o0 n) (v1 + 1) (sI u (o0 + 7) (nc v1) 0)))
  else (
    ab_gd [ab_b1 0, ab_b1 0] (
      (fX1_setUsual (o0 + 8) (sI (sI (sI u o0 9 0) o0 10 0) o0 11 0)).bind fun q1 =>
        some ((), q1.2)))
theorem tX2_clear_12 (o0 : Nat) : ∀ (n : Nat) (v1 : Int32) (u : ab_S), ab_G 0 2 cX2_clear none 2 12 [some (vR (kO 2) o0), some (vI v1)] [] u wV (fX2_clear_12 o0 n v1 u) := by
  intro n
  induction n with
  | zero => intros; exact g_none
  | succ n ih =>
    intro v1 u
    rw [fX2_clear_12]
    refine g_seg0 (pc' := 18) (L' := [some (vR (kO 2) o0), some (vI v1)]) (st' := [vI 48, vI v1]) (u1 := u) [(oL 0 1, 1), (oL 2 0, 1), (oP (.getfield 31), 3), (oP .arraylength, 1)] (by decide +kernel) rfl rfl ?_
    refine g_ige (off := 16) (tgt := 34) (pc2 := 21) (by decide +kernel) (by decide) rfl ?_ ?_
    · refine g_seg (pc' := 53) (L' := [some (vR (kO 2) o0), some (vI v1)]) (st' := [vR (kO 1) (o0 + 8)]) (u1 := (sI (sI (sI u o0 9 0) o0 10 0) o0 11 0)) [(oL 2 0, 1), (oC 0, 1), (oP (.putfield 69), 3), (oL 2 0, 1), (oC 0, 1), (oP (.putfield 72), 3), (oL 2 0, 1), (oC 0, 1), (oP (.putfield 76), 3), (oL 2 0, 1), (oP (.getfield 37), 3)] (by decide +kernel) rfl rfl ?_
      refine g_callV (k := 79) (pc2 := 56) (st := []) (CX1_setUsual (o0 + 8) (sI (sI (sI u o0 9 0) o0 10 0) o0 11 0)) miX1_setUsual mvX1_setUsual rfl (by decide) lk2_79 wV_ok (by decide +kernel) rfl (Nat.le_of_ble_eq_true rfl) (by decide) rfl (fun q1 hq1 => ?_)
      exact g_vret (by decide +kernel) rfl
    · refine g_seg (pc' := 31) (L' := [some (vR (kO 2) o0), some (vI (v1 + 1))]) (st' := []) (u1 := (sI u (o0 + 7) (nc v1) 0)) [(oL 2 0, 1), (oP (.getfield 31), 3), (oL 0 1, 1), (oC 0, 1), (oP .iastore, 1), (oN 1 1, 3)] (by decide +kernel) rfl rfl ?_
      refine g_goto (off := (-19)) (tgt := 12) (by decide +kernel) (by decide) ?_
      exact ih (v1 + 1) (sI u (o0 + 7) (nc v1) 0)
def fX2_clear (o0 : Nat) (u : ab_S) : Option (Unit × ab_S) :=
  fX2_clear_12 o0 fu 0 (sI (sI u o0 0 0) o0 1 0)
theorem tX2_clear (o0 : Nat) (u : ab_S) : ab_G 0 2 cX2_clear none 2 0 [some (vR (kO 2) o0), none] [] u wV (fX2_clear o0 u) := by
  rw [fX2_clear]
  refine g_seg0 (pc' := 12) (L' := [some (vR (kO 2) o0), some (vI 0)]) (st' := []) (u1 := (sI (sI u o0 0 0) o0 1 0)) [(oL 2 0, 1), (oC 0, 1), (oP (.putfield 63), 3), (oL 2 0, 1), (oC 0, 1), (oP (.putfield 66), 3), (oC 0, 1), (oL 3 1, 1)] (by decide +kernel) rfl rfl ?_
  exact tX2_clear_12 o0 fu 0 (sI (sI u o0 0 0) o0 1 0)
theorem CX2_clear (o0 : Nat) (u : ab_S) : ab_C 0 yX2_clear cX2_clear 2 none 2 [vR (kO 2) o0] u wV (fX2_clear o0 u) := ab_entry (by decide +kernel) rfl (by decide) (by decide) (fun _ => Nat.le_of_ble_eq_true rfl) rfl (tX2_clear o0 u)
def fX2_readLines_39 (o0 : Nat) (u : ab_S) : Option (Int32 × ab_S) :=
  (fX2_workOutFits o0 u).bind fun q1 =>
    some (0, q1.2)
theorem tX2_readLines_39 (o0 : Nat) (u : ab_S) : ab_G 0 2 cX2_readLines (some .int) 65 39 [some (vR (kO 2) o0), none, none] [] u wI (fX2_readLines_39 o0 u) := by
  rw [fX2_readLines_39]
  refine g_seg0 (pc' := 40) (L' := [some (vR (kO 2) o0), none, none]) (st' := [vR (kO 2) o0]) (u1 := u) [(oL 2 0, 1)] (by decide +kernel) rfl rfl ?_
  refine g_callV (k := 60) (pc2 := 43) (st := []) (CX2_workOutFits o0 u) miX2_workOutFits mvX2_workOutFits rfl (by decide) lk2_60 wV_ok (by decide +kernel) rfl (Nat.le_of_ble_eq_true rfl) (by decide) rfl (fun q1 hq1 => ?_)
  refine g_seg0 (pc' := 44) (L' := [some (vR (kO 2) o0), none, none]) (st' := [vI 0]) (u1 := q1.2) [(oC 0, 1)] (by decide +kernel) rfl rfl ?_
  exact g_iret (by decide +kernel) rfl
def fX2_readLines_6 (o0 : Nat) : Nat → Int32 → ab_S → Option (Int32 × ab_S)
  | 0, _, _ => none
  | n + 1, v2, u =>
  bif decide (v2 < 1000) then (
    bif decide ((u.1 1 7) = 0) then (
      fX2_readLines_39 o0 u)
    else (
      (fX2_readLine o0 u).bind fun q2 =>
        bif decide (q2.1 = 0) then (
          some ((q2.2.1 1 10), q2.2))
        else (
          (fX2_readLines_6 o0 n) (v2 + 1) q2.2)))
  else (
    fX2_readLines_39 o0 u)
theorem tX2_readLines_6 (o0 : Nat) : ∀ (n : Nat) (v2 : Int32) (u : ab_S), ab_G 0 2 cX2_readLines (some .int) 65 6 [some (vR (kO 2) o0), some (vR (kO 6) 1), some (vI v2)] [] u wI (fX2_readLines_6 o0 n v2 u) := by
  intro n
  induction n with
  | zero => intros; exact g_none
  | succ n ih =>
    intro v2 u
    rw [fX2_readLines_6]
    refine g_seg0 (pc' := 10) (L' := [some (vR (kO 2) o0), some (vR (kO 6) 1), some (vI v2)]) (st' := [vI 1000, vI v2]) (u1 := u) [(oL 0 2, 1), (oC 1000, 3)] (by decide +kernel) rfl rfl ?_
    refine g_ige (off := 29) (tgt := 39) (pc2 := 13) (by decide +kernel) (by decide) rfl ?_ ?_
    · exact g_jump [true, false, false] rfl (tX2_readLines_39 o0 u)
    · refine g_seg0 (pc' := 17) (L' := [some (vR (kO 2) o0), some (vR (kO 6) 1), some (vI v2)]) (st' := [vI (u.1 1 7)]) (u1 := u) [(oL 2 1, 1), (oP (.getfield 47), 3)] (by decide +kernel) rfl rfl ?_
      refine g_zeq (off := 22) (tgt := 39) (pc2 := 20) (by decide +kernel) (by decide) rfl ?_ ?_
      · exact g_jump [true, false, false] rfl (tX2_readLines_39 o0 u)
      · refine g_seg0 (pc' := 22) (L' := [some (vR (kO 2) o0), some (vR (kO 6) 1), some (vI v2)]) (st' := [vR (kO 6) 1, vR (kO 2) o0]) (u1 := u) [(oL 2 0, 1), (oL 2 1, 1)] (by decide +kernel) rfl rfl ?_
        refine g_callV (k := 53) (pc2 := 25) (st := []) (CX2_readLine o0 u) miX2_readLine mvX2_readLine rfl (by decide) lk2_53 wI_ok (by decide +kernel) rfl (Nat.le_of_ble_eq_true rfl) (by decide) rfl (fun q2 hq2 => ?_)
        refine g_zne (off := 8) (tgt := 33) (pc2 := 28) (by decide +kernel) (by decide) rfl ?_ ?_
        · refine g_seg0 (pc' := 36) (L' := [some (vR (kO 2) o0), some (vR (kO 6) 1), some (vI (v2 + 1))]) (st' := []) (u1 := q2.2) [(oN 2 1, 3)] (by decide +kernel) rfl rfl ?_
          refine g_goto (off := (-30)) (tgt := 6) (by decide +kernel) (by decide) ?_
          exact ih (v2 + 1) q2.2
        · refine g_seg0 (pc' := 32) (L' := [some (vR (kO 2) o0), some (vR (kO 6) 1), some (vI v2)]) (st' := [vI (q2.2.1 1 10)]) (u1 := q2.2) [(oL 2 1, 1), (oP (.getfield 57), 3)] (by decide +kernel) rfl rfl ?_
          exact g_iret (by decide +kernel) rfl
def fX2_readLines (o0 : Nat) (u : ab_S) : Option (Int32 × ab_S) :=
  (fX2_clear o0 u).bind fun q3 =>
    fX2_readLines_6 o0 fu 0 q3.2
theorem tX2_readLines (o0 : Nat) (u : ab_S) : ab_G 0 2 cX2_readLines (some .int) 65 0 [some (vR (kO 2) o0), some (vR (kO 6) 1), none] [] u wI (fX2_readLines o0 u) := by
  rw [fX2_readLines]
  refine g_seg0 (pc' := 1) (L' := [some (vR (kO 2) o0), some (vR (kO 6) 1), none]) (st' := [vR (kO 2) o0]) (u1 := u) [(oL 2 0, 1)] (by decide +kernel) rfl rfl ?_
  refine g_callV (k := 44) (pc2 := 4) (st := []) (CX2_clear o0 u) miX2_clear mvX2_clear rfl (by decide) lk2_44 wV_ok (by decide +kernel) rfl (Nat.le_of_ble_eq_true rfl) (by decide) rfl (fun q3 hq3 => ?_)
  refine g_seg0 (pc' := 6) (L' := [some (vR (kO 2) o0), some (vR (kO 6) 1), some (vI 0)]) (st' := []) (u1 := q3.2) [(oC 0, 1), (oL 3 2, 1)] (by decide +kernel) rfl rfl ?_
  exact tX2_readLines_6 o0 fu 0 q3.2
theorem CX2_readLines (o0 : Nat) (u : ab_S) : ab_C 0 yX2_readLines cX2_readLines 3 (some .int) 65 [vR (kO 2) o0, vR (kO 6) 1] u wI (fX2_readLines o0 u) := ab_entry (by decide +kernel) rfl (by decide) (by decide) (fun _ => Nat.le_of_ble_eq_true rfl) rfl (tX2_readLines o0 u)
def fX5_startOf_66 (o0 : Nat) (o1 : Nat) (k26 : Int32 → ab_S → Option (Unit × ab_S)) (v2 : Int32) (s1 : Int32) (s2 : Int32) (u : ab_S) : Option (Unit × ab_S) :=
  (fX9_put 6 (o0 + 2) s1 s2 u).bind fun q1 =>
    k26 (v2 + 1) q1.2
theorem tX5_startOf_66 (o0 : Nat) (o1 : Nat) (k26 : Int32 → ab_S → Option (Unit × ab_S)) (hk26 : ∀ (v2 : Int32) (u : ab_S), ab_G 0 5 cX5_startOf none 1 26 [some (vR (kO 5) o0), some (vR (kO 2) o1), some (vI v2)] [] u wV (k26 v2 u)) (v2 : Int32) (s1 : Int32) (s2 : Int32) (u : ab_S) : ab_G 0 5 cX5_startOf none 1 66 [some (vR (kO 5) o0), some (vR (kO 2) o1), some (vI v2)] [vI s2, vI s1, vR (kA 0 6) (o0 + 2)] u wV (fX5_startOf_66 o0 o1 k26 v2 s1 s2 u) := by
  rw [fX5_startOf_66]
  refine g_callS (k := 21) (pc2 := 69) (st := []) (CX9_put 6 (o0 + 2) s1 s2 u) miX9_put msX9_put lk5_21 wV_ok (by decide +kernel) rfl (Nat.le_of_ble_eq_true rfl) (by decide) rfl (fun q1 hq1 => ?_)
  refine g_seg0 (pc' := 72) (L' := [some (vR (kO 5) o0), some (vR (kO 2) o1), some (vI (v2 + 1))]) (st' := []) (u1 := q1.2) [(oN 2 1, 3)] (by decide +kernel) rfl rfl ?_
  refine g_goto (off := (-46)) (tgt := 26) (by decide +kernel) (by decide) ?_
  exact hk26 (v2 + 1) q1.2
def fX5_startOf_26 (o0 : Nat) (o1 : Nat) : Nat → Int32 → ab_S → Option (Unit × ab_S)
  | 0, _, _ => none
  | n + 1, v2, u =>
  bif decide (v2 < 6) then (
    (fX9_put 6 (o0 + 3) v2 0 u).bind fun q2 =>
      bif decide (v2 < (q2.2.1 o1 0)) then (
        (fX9_at 6 (o1 + 4) v2 q2.2).bind fun q3 =>
          fX5_startOf_66 o0 o1 (fX5_startOf_26 o0 o1 n) v2 v2 q3.1 q3.2)
      else (
        fX5_startOf_66 o0 o1 (fX5_startOf_26 o0 o1 n) v2 v2 0 q2.2))
  else (
    some ((), (sI (sJ u o0 3 (Int32.toInt64 (u.1 o1 9))) o0 4 0)))
theorem tX5_startOf_26 (o0 : Nat) (o1 : Nat) : ∀ (n : Nat) (v2 : Int32) (u : ab_S), ab_G 0 5 cX5_startOf none 1 26 [some (vR (kO 5) o0), some (vR (kO 2) o1), some (vI v2)] [] u wV (fX5_startOf_26 o0 o1 n v2 u) := by
  intro n
  induction n with
  | zero => intros; exact g_none
  | succ n ih =>
    intro v2 u
    rw [fX5_startOf_26]
    refine g_seg0 (pc' := 29) (L' := [some (vR (kO 5) o0), some (vR (kO 2) o1), some (vI v2)]) (st' := [vI 6, vI v2]) (u1 := u) [(oL 0 2, 1), (oC 6, 2)] (by decide +kernel) rfl rfl ?_
    refine g_ige (off := 46) (tgt := 75) (pc2 := 32) (by decide +kernel) (by decide) rfl ?_ ?_
    · refine g_seg0 (pc' := 89) (L' := [some (vR (kO 5) o0), some (vR (kO 2) o1), some (vI v2)]) (st' := []) (u1 := (sI (sJ u o0 3 (Int32.toInt64 (u.1 o1 9))) o0 4 0)) [(oL 2 0, 1), (oL 2 1, 1), (oP (.getfield 38), 3), (oP .i2l, 1), (oP (.putfield 41), 3), (oL 2 0, 1), (oC 0, 1), (oP (.putfield 45), 3)] (by decide +kernel) rfl rfl ?_
      exact g_vret (by decide +kernel) rfl
    · refine g_seg0 (pc' := 38) (L' := [some (vR (kO 5) o0), some (vR (kO 2) o1), some (vI v2)]) (st' := [vI 0, vI v2, vR (kA 0 6) (o0 + 3)]) (u1 := u) [(oL 2 0, 1), (oP (.getfield 18), 3), (oL 0 2, 1), (oC 0, 1)] (by decide +kernel) rfl rfl ?_
      refine g_callS (k := 21) (pc2 := 41) (st := []) (CX9_put 6 (o0 + 3) v2 0 u) miX9_put msX9_put lk5_21 wV_ok (by decide +kernel) rfl (Nat.le_of_ble_eq_true rfl) (by decide) rfl (fun q2 hq2 => ?_)
      refine g_seg0 (pc' := 51) (L' := [some (vR (kO 5) o0), some (vR (kO 2) o1), some (vI v2)]) (st' := [vI (q2.2.1 o1 0), vI v2, vI v2, vR (kA 0 6) (o0 + 2)]) (u1 := q2.2) [(oL 2 0, 1), (oP (.getfield 15), 3), (oL 0 2, 1), (oL 0 2, 1), (oL 2 1, 1), (oP (.getfield 25), 3)] (by decide +kernel) rfl rfl ?_
      refine g_ige (off := 14) (tgt := 65) (pc2 := 54) (by decide +kernel) (by decide) rfl ?_ ?_
      · refine g_seg0 (pc' := 66) (L' := [some (vR (kO 5) o0), some (vR (kO 2) o1), some (vI v2)]) (st' := [vI 0, vI v2, vR (kA 0 6) (o0 + 2)]) (u1 := q2.2) [(oC 0, 1)] (by decide +kernel) rfl rfl ?_
        exact tX5_startOf_66 o0 o1 (fX5_startOf_26 o0 o1 n) ih v2 v2 0 q2.2
      · refine g_seg0 (pc' := 59) (L' := [some (vR (kO 5) o0), some (vR (kO 2) o1), some (vI v2)]) (st' := [vI v2, vR (kA 0 6) (o1 + 4), vI v2, vR (kA 0 6) (o0 + 2)]) (u1 := q2.2) [(oL 2 1, 1), (oP (.getfield 31), 3), (oL 0 2, 1)] (by decide +kernel) rfl rfl ?_
        refine g_callS (k := 34) (pc2 := 62) (st := [vI v2, vR (kA 0 6) (o0 + 2)]) (CX9_at 6 (o1 + 4) v2 q2.2) miX9_at msX9_at lk5_34 wI_ok (by decide +kernel) rfl (Nat.le_of_ble_eq_true rfl) (by decide) rfl (fun q3 hq3 => ?_)
        refine g_goto (off := 4) (tgt := 66) (by decide +kernel) (by decide) ?_
        exact tX5_startOf_66 o0 o1 (fX5_startOf_26 o0 o1 n) ih v2 v2 q3.1 q3.2
def fX5_startOf_2 (o0 : Nat) (o1 : Nat) : Nat → Int32 → ab_S → Option (Unit × ab_S)
  | 0, _, _ => none
  | n + 1, v2, u =>
  bif decide (v2 < 8) then (
    ab_gd [ab_ix v2 8] (
      (fX5_startOf_2 o0 o1 n) (v2 + 1) (sI u (o0 + 1) (nc v2) (-1))))
  else (
    fX5_startOf_26 o0 o1 fu 0 u)
theorem tX5_startOf_2 (o0 : Nat) (o1 : Nat) : ∀ (n : Nat) (v2 : Int32) (u : ab_S), ab_G 0 5 cX5_startOf none 1 2 [some (vR (kO 5) o0), some (vR (kO 2) o1), some (vI v2)] [] u wV (fX5_startOf_2 o0 o1 n v2 u) := by
  intro n
  induction n with
  | zero => intros; exact g_none
  | succ n ih =>
    intro v2 u
    rw [fX5_startOf_2]
    refine g_seg0 (pc' := 8) (L' := [some (vR (kO 5) o0), some (vR (kO 2) o1), some (vI v2)]) (st' := [vI 8, vI v2]) (u1 := u) [(oL 0 2, 1), (oL 2 0, 1), (oP (.getfield 9), 3), (oP .arraylength, 1)] (by decide +kernel) rfl rfl ?_
    refine g_ige (off := 16) (tgt := 24) (pc2 := 11) (by decide +kernel) (by decide) rfl ?_ ?_
    · refine g_seg0 (pc' := 26) (L' := [some (vR (kO 5) o0), some (vR (kO 2) o1), some (vI 0)]) (st' := []) (u1 := u) [(oC 0, 1), (oL 3 2, 1)] (by decide +kernel) rfl rfl ?_
      exact tX5_startOf_26 o0 o1 fu 0 u
    · refine g_seg (pc' := 21) (L' := [some (vR (kO 5) o0), some (vR (kO 2) o1), some (vI (v2 + 1))]) (st' := []) (u1 := (sI u (o0 + 1) (nc v2) (-1))) [(oL 2 0, 1), (oP (.getfield 9), 3), (oL 0 2, 1), (oC (-1), 1), (oP .iastore, 1), (oN 2 1, 3)] (by decide +kernel) rfl rfl ?_
      refine g_goto (off := (-19)) (tgt := 2) (by decide +kernel) (by decide) ?_
      exact ih (v2 + 1) (sI u (o0 + 1) (nc v2) (-1))
def fX5_startOf (o0 : Nat) (o1 : Nat) (u : ab_S) : Option (Unit × ab_S) :=
  fX5_startOf_2 o0 o1 fu 0 u
theorem tX5_startOf (o0 : Nat) (o1 : Nat) (u : ab_S) : ab_G 0 5 cX5_startOf none 1 0 [some (vR (kO 5) o0), some (vR (kO 2) o1), none] [] u wV (fX5_startOf o0 o1 u) := by
  rw [fX5_startOf]
  refine g_seg0 (pc' := 2) (L' := [some (vR (kO 5) o0), some (vR (kO 2) o1), some (vI 0)]) (st' := []) (u1 := u) [(oC 0, 1), (oL 3 2, 1)] (by decide +kernel) rfl rfl ?_
  exact tX5_startOf_2 o0 o1 fu 0 u
theorem CX5_startOf (o0 : Nat) (o1 : Nat) (u : ab_S) : ab_C 0 yX5_startOf cX5_startOf 3 none 1 [vR (kO 5) o0, vR (kO 2) o1] u wV (fX5_startOf o0 o1 u) := ab_entry (by decide +kernel) rfl (by decide) (by decide) (fun _ => Nat.le_of_ble_eq_true rfl) rfl (tX5_startOf o0 o1 u)
def fX9_openOffice_34 : Nat → Int32 → ab_S → Option (Unit × ab_S)
  | 0, _, _ => none
  | n + 1, v1, u =>
  bif decide (v1 < 4) then (
    ab_gd [ab_ix v1 4, ab_b1 0] (
      (fX9_openOffice_34 n) (v1 + 1) (sI u 149 (nc v1) 0)))
  else (
    ab_gd [ab_b1 0] (
      some ((), (sI u 154 0 0))))
theorem tX9_openOffice_34 : ∀ (n : Nat) (v1 : Int32) (u : ab_S), ab_G 0 8 cX9_openOffice none 2 34 [some (vR (kO 8) 0), some (vI v1)] [] u wV (fX9_openOffice_34 n v1 u) := by
  intro n
  induction n with
  | zero => intros; exact g_none
  | succ n ih =>
    intro v1 u
    rw [fX9_openOffice_34]
    refine g_seg0 (pc' := 40) (L' := [some (vR (kO 8) 0), some (vI v1)]) (st' := [vI 4, vI v1]) (u1 := u) [(oL 0 1, 1), (oL 2 0, 1), (oP (.getfield 64), 3), (oP .arraylength, 1)] (by decide +kernel) rfl rfl ?_
    refine g_ige (off := 16) (tgt := 56) (pc2 := 43) (by decide +kernel) (by decide) rfl ?_ ?_
    · refine g_seg (pc' := 64) (L' := [some (vR (kO 8) 0), some (vI v1)]) (st' := []) (u1 := (sI u 154 0 0)) [(oL 2 0, 1), (oP (.getfield 78), 3), (oC 0, 1), (oP (.putfield 113), 3)] (by decide +kernel) rfl rfl ?_
      exact g_vret (by decide +kernel) rfl
    · refine g_seg (pc' := 53) (L' := [some (vR (kO 8) 0), some (vI (v1 + 1))]) (st' := []) (u1 := (sI u 149 (nc v1) 0)) [(oL 2 0, 1), (oP (.getfield 64), 3), (oL 0 1, 1), (oC 0, 1), (oP .bastore, 1), (oN 1 1, 3)] (by decide +kernel) rfl rfl ?_
      refine g_goto (off := (-19)) (tgt := 34) (by decide +kernel) (by decide) ?_
      exact ih (v1 + 1) (sI u 149 (nc v1) 0)
def fX9_openOffice (u : ab_S) : Option (Unit × ab_S) :=
  (fX5_startOf 38 (u.2.2 0) u).bind fun q1 =>
    fX9_openOffice_34 fu 0 (sI (sI (sI q1.2 (q1.2.2.2 2) 0 0) 46 3 0) 0 10 0)
theorem tX9_openOffice (u : ab_S) : ab_G 0 8 cX9_openOffice none 2 0 [some (vR (kO 8) 0), none] [] u wV (fX9_openOffice u) := by
  rw [fX9_openOffice]
  refine g_seg0 (pc' := 8) (L' := [some (vR (kO 8) 0), none]) (st' := [vR (kO 2) (u.2.2 0), vR (kO 5) 38]) (u1 := u) [(oL 2 0, 1), (oP (.getfield 39), 3), (oL 2 0, 1), (oP (.getfield 19), 3)] (by decide +kernel) rfl rfl ?_
  refine g_callV (k := 100) (pc2 := 11) (st := []) (CX5_startOf 38 (u.2.2 0) u) miX5_startOf mvX5_startOf rfl (by decide) lk8_100 wV_ok (by decide +kernel) rfl (Nat.le_of_ble_eq_true rfl) (by decide) rfl (fun q1 hq1 => ?_)
  refine g_seg0 (pc' := 34) (L' := [some (vR (kO 8) 0), some (vI 0)]) (st' := []) (u1 := (sI (sI (sI q1.2 (q1.2.2.2 2) 0 0) 46 3 0) 0 10 0)) [(oL 2 0, 1), (oP (.getfield 29), 3), (oC 0, 1), (oP (.putfield 104), 3), (oL 2 0, 1), (oP (.getfield 49), 3), (oC 0, 1), (oP (.putfield 107), 3), (oL 2 0, 1), (oC 0, 1), (oP (.putfield 110), 3), (oC 0, 1), (oL 3 1, 1)] (by decide +kernel) rfl rfl ?_
  exact tX9_openOffice_34 fu 0 (sI (sI (sI q1.2 (q1.2.2.2 2) 0 0) 46 3 0) 0 10 0)
theorem CX9_openOffice (u : ab_S) : ab_C 0 yX9_openOffice cX9_openOffice 2 none 2 [vR (kO 8) 0] u wV (fX9_openOffice u) := ab_entry (by decide +kernel) rfl (by decide) (by decide) (fun _ => Nat.le_of_ble_eq_true rfl) rfl (tX9_openOffice u)
def fX9_office (u : ab_S) : Option (Int32 × ab_S) :=
  (fX6_split u).bind fun q1 =>
    (fX2_readLines (q1.2.2.2 1) q1.2).bind fun q2 =>
      bif decide (q2.1 = 0) then (
        (fX9_openOffice (sM (sM q2.2 0 (q2.2.2.2 1)) 1 (q2.2.2.2 0))).bind fun q3 =>
          some (0, q3.2))
      else (
        some (q2.1, q2.2))
theorem tX9_office (u : ab_S) : ab_G 0 8 cX9_office (some .int) 66 0 [some (vR (kO 8) 0), none, none] [] u wI (fX9_office u) := by
  rw [fX9_office]
  refine g_seg0 (pc' := 4) (L' := [some (vR (kO 8) 0), none, none]) (st' := [vR (kO 6) 1]) (u1 := u) [(oL 2 0, 1), (oP (.getfield 10), 3)] (by decide +kernel) rfl rfl ?_
  refine g_callV (k := 90) (pc2 := 7) (st := []) (CX6_split u) miX6_split mvX6_split rfl (by decide) lk8_90 wV_ok (by decide +kernel) rfl (Nat.le_of_ble_eq_true rfl) (by decide) rfl (fun q1 hq1 => ?_)
  refine g_seg0 (pc' := 15) (L' := [some (vR (kO 8) 0), none, none]) (st' := [vR (kO 6) 1, vR (kO 2) (q1.2.2.2 1)]) (u1 := q1.2) [(oL 2 0, 1), (oP (.getfield 23), 3), (oL 2 0, 1), (oP (.getfield 10), 3)] (by decide +kernel) rfl rfl ?_
  refine g_callV (k := 93) (pc2 := 18) (st := []) (CX2_readLines (q1.2.2.2 1) q1.2) miX2_readLines mvX2_readLines rfl (by decide) lk8_93 wI_ok (by decide +kernel) rfl (Nat.le_of_ble_eq_true rfl) (by decide) rfl (fun q2 hq2 => ?_)
  refine g_seg0 (pc' := 20) (L' := [some (vR (kO 8) 0), some (vI (q2.1)), none]) (st' := [vI (q2.1)]) (u1 := q2.2) [(oL 3 1, 1), (oL 0 1, 1)] (by decide +kernel) rfl rfl ?_
  refine g_zeq (off := 5) (tgt := 25) (pc2 := 23) (by decide +kernel) (by decide) rfl ?_ ?_
  · refine g_seg0 (pc' := 44) (L' := [some (vR (kO 8) 0), some (vI (q2.1)), some (vR (kO 2) (q2.2.2.2 0))]) (st' := [vR (kO 8) 0]) (u1 := (sM (sM q2.2 0 (q2.2.2.2 1)) 1 (q2.2.2.2 0))) [(oL 2 0, 1), (oP (.getfield 19), 3), (oL 5 2, 1), (oL 2 0, 1), (oL 2 0, 1), (oP (.getfield 23), 3), (oP (.putfield 19), 3), (oL 2 0, 1), (oL 2 2, 1), (oP (.putfield 23), 3), (oL 2 0, 1)] (by decide +kernel) rfl rfl ?_
    refine g_callV (k := 97) (pc2 := 47) (st := []) (CX9_openOffice (sM (sM q2.2 0 (q2.2.2.2 1)) 1 (q2.2.2.2 0))) miX9_openOffice mvX9_openOffice rfl (by decide) lk8_97 wV_ok (by decide +kernel) rfl (Nat.le_of_ble_eq_true rfl) (by decide) rfl (fun q3 hq3 => ?_)
    refine g_seg0 (pc' := 48) (L' := [some (vR (kO 8) 0), some (vI (q2.1)), some (vR (kO 2) (q2.2.2.2 0))]) (st' := [vI 0]) (u1 := q3.2) [(oC 0, 1)] (by decide +kernel) rfl rfl ?_
    exact g_iret (by decide +kernel) rfl
  · refine g_seg0 (pc' := 24) (L' := [some (vR (kO 8) 0), some (vI (q2.1)), none]) (st' := [vI (q2.1)]) (u1 := q2.2) [(oL 0 1, 1)] (by decide +kernel) rfl rfl ?_
    exact g_iret (by decide +kernel) rfl
theorem CX9_office (u : ab_S) : ab_C 0 yX9_office cX9_office 3 (some .int) 66 [vR (kO 8) 0] u wI (fX9_office u) := ab_entry (by decide +kernel) rfl (by decide) (by decide) (fun _ => Nat.le_of_ble_eq_true rfl) rfl (tX9_office u)
def fX8_readNames_64 (o0 : Nat) (o2 : Nat) (v4 : Int32) (u : ab_S) : Option (Int32 × ab_S) :=
  bif decide (v4 = (-1)) then (
    ab_gd [ab_b1 0] (some (0, u)))
  else (
    ab_gd [ab_b1 1] (some (1, u)))
theorem tX8_readNames_64 (o0 : Nat) (o2 : Nat) (v4 : Int32) (u : ab_S) : ab_G 0 7 cX8_readNames (some .boolean) 2 64 [none, none, none, none, some (vI v4), none, none] [] u wI (fX8_readNames_64 o0 o2 v4 u) := by
  rw [fX8_readNames_64]
  refine g_seg0 (pc' := 67) (L' := [none, none, none, none, some (vI v4), none, none]) (st' := [vI (-1), vI v4]) (u1 := u) [(oL 0 4, 2), (oC (-1), 1)] (by decide +kernel) rfl rfl ?_
  refine g_ieq (off := 7) (tgt := 74) (pc2 := 70) (by decide +kernel) (by decide) rfl ?_ ?_
  · refine g_seg0 (pc' := 75) (L' := [none, none, none, none, some (vI v4), none, none]) (st' := [vI 0]) (u1 := u) [(oC 0, 1)] (by decide +kernel) rfl rfl ?_
    exact g_zret (by decide +kernel) rfl
  · refine g_seg0 (pc' := 71) (L' := [none, none, none, none, some (vI v4), none, none]) (st' := [vI 1]) (u1 := u) [(oC 1, 1)] (by decide +kernel) rfl rfl ?_
    refine g_goto (off := 4) (tgt := 75) (by decide +kernel) (by decide) ?_
    exact g_zret (by decide +kernel) rfl
def fX8_readNames_102 (o0 : Nat) (o2 : Nat) (v4 : Int32) (s0 : Int32) (u : ab_S) : Option (Int32 × ab_S) :=
  bif decide (s0 = v4) then (
    (fX6_fail 3 u).bind fun q3 =>
      ab_gd [ab_b1 q3.1] (some (q3.1, q3.2)))
  else (
    (fX6_takeToldName 8 (o2 + 2) (u.1 o2 1) u).bind fun q1 =>
      (fX9_put 40 (o0 + 3) (q1.2.1 o0 0) q1.1 q1.2).bind fun q2 =>
        bif decide (q1.1 = (-1)) then (
          ab_gd [ab_b1 0] (some (0, q2.2)))
        else (
          ab_gd [ab_b1 1] (some (1, q2.2))))
theorem tX8_readNames_102 (o0 : Nat) (o2 : Nat) (v4 : Int32) (s0 : Int32) (u : ab_S) : ab_G 0 7 cX8_readNames (some .boolean) 2 102 [some (vR (kO 7) o0), some (vR (kO 6) 1), some (vR (kO 2) o2), none, some (vI v4), none, none] [vI s0] u wI (fX8_readNames_102 o0 o2 v4 s0 u) := by
  rw [fX8_readNames_102]
  refine g_seg0 (pc' := 108) (L' := [some (vR (kO 7) o0), some (vR (kO 6) 1), some (vR (kO 2) o2), none, some (vI v4), some (vI s0), none]) (st' := [vI v4, vI s0]) (u1 := u) [(oL 3 5, 2), (oL 0 5, 2), (oL 0 4, 2)] (by decide +kernel) rfl rfl ?_
  refine g_ine (off := 9) (tgt := 117) (pc2 := 111) (by decide +kernel) (by decide) rfl ?_ ?_
  · refine g_seg0 (pc' := 126) (L' := [some (vR (kO 7) o0), some (vR (kO 6) 1), some (vR (kO 2) o2), none, some (vI v4), some (vI s0), none]) (st' := [vI (u.1 o2 1), vR (kA 1 8) (o2 + 2), vR (kO 6) 1]) (u1 := u) [(oL 2 1, 1), (oL 2 2, 1), (oP (.getfield 92), 3), (oL 2 2, 1), (oP (.getfield 95), 3)] (by decide +kernel) rfl rfl ?_
    refine g_callV (k := 88) (pc2 := 129) (st := []) (CX6_takeToldName 8 (o2 + 2) (u.1 o2 1) u) miX6_takeToldName mvX6_takeToldName rfl (by decide) lk7_88 wI_ok (by decide +kernel) rfl (Nat.le_of_ble_eq_true rfl) (by decide) rfl (fun q1 hq1 => ?_)
    refine g_seg0 (pc' := 141) (L' := [some (vR (kO 7) o0), some (vR (kO 6) 1), some (vR (kO 2) o2), none, some (vI v4), some (vI s0), some (vI (q1.1))]) (st' := [vI (q1.1), vI (q1.2.1 o0 0), vR (kA 0 40) (o0 + 3)]) (u1 := q1.2) [(oL 3 6, 2), (oL 2 0, 1), (oP (.getfield 18), 3), (oL 2 0, 1), (oP (.getfield 21), 3), (oL 0 6, 2)] (by decide +kernel) rfl rfl ?_
    refine g_callS (k := 48) (pc2 := 144) (st := []) (CX9_put 40 (o0 + 3) (q1.2.1 o0 0) q1.1 q1.2) miX9_put msX9_put lk7_48 wV_ok (by decide +kernel) rfl (Nat.le_of_ble_eq_true rfl) (by decide) rfl (fun q2 hq2 => ?_)
    refine g_seg0 (pc' := 147) (L' := [some (vR (kO 7) o0), some (vR (kO 6) 1), some (vR (kO 2) o2), none, some (vI v4), some (vI s0), some (vI (q1.1))]) (st' := [vI (-1), vI (q1.1)]) (u1 := q2.2) [(oL 0 6, 2), (oC (-1), 1)] (by decide +kernel) rfl rfl ?_
    refine g_ieq (off := 7) (tgt := 154) (pc2 := 150) (by decide +kernel) (by decide) rfl ?_ ?_
    · refine g_seg0 (pc' := 155) (L' := [some (vR (kO 7) o0), some (vR (kO 6) 1), some (vR (kO 2) o2), none, some (vI v4), some (vI s0), some (vI (q1.1))]) (st' := [vI 0]) (u1 := q2.2) [(oC 0, 1)] (by decide +kernel) rfl rfl ?_
      exact g_zret (by decide +kernel) rfl
    · refine g_seg0 (pc' := 151) (L' := [some (vR (kO 7) o0), some (vR (kO 6) 1), some (vR (kO 2) o2), none, some (vI v4), some (vI s0), some (vI (q1.1))]) (st' := [vI 1]) (u1 := q2.2) [(oC 1, 1)] (by decide +kernel) rfl rfl ?_
      refine g_goto (off := 4) (tgt := 155) (by decide +kernel) (by decide) ?_
      exact g_zret (by decide +kernel) rfl
  · refine g_seg0 (pc' := 113) (L' := [some (vR (kO 7) o0), some (vR (kO 6) 1), some (vR (kO 2) o2), none, some (vI v4), some (vI s0), none]) (st' := [vI 3, vR (kO 6) 1]) (u1 := u) [(oL 2 1, 1), (oC 3, 1)] (by decide +kernel) rfl rfl ?_
    refine g_callV (k := 41) (pc2 := 116) (st := []) (CX6_fail 3 u) miX6_fail mvX6_fail rfl (by decide) lk7_41 wI_ok (by decide +kernel) rfl (Nat.le_of_ble_eq_true rfl) (by decide) rfl (fun q3 hq3 => ?_)
    exact g_zret (by decide +kernel) rfl
def fX8_readNames_38 (o0 : Nat) (o2 : Nat) (v3 : Int32) (s0 : Int32) (u : ab_S) : Option (Int32 × ab_S) :=
  (fX9_put 40 (o0 + 2) (u.1 o0 0) s0 u).bind fun q4 =>
    bif decide (s0 = (-1)) then (
      fX8_readNames_64 o0 o2 s0 q4.2)
    else (
      bif decide (v3 = 2) then (
        (fX6_isName q4.2).bind fun q5 =>
          bif decide (q5.1 = 0) then (
            fX8_readNames_102 o0 o2 s0 (-1) q5.2)
          else (
            (fX9_indexOf 8 (o2 + 2) (q5.2.1 o2 1) (q5.2.2.1 1 9) q5.2).bind fun q6 =>
              fX8_readNames_102 o0 o2 s0 q6.1 q6.2))
      else (
        fX8_readNames_64 o0 o2 s0 q4.2))
theorem tX8_readNames_38 (o0 : Nat) (o2 : Nat) (v3 : Int32) (s0 : Int32) (u : ab_S) : ab_G 0 7 cX8_readNames (some .boolean) 2 38 [some (vR (kO 7) o0), some (vR (kO 6) 1), some (vR (kO 2) o2), some (vI v3), none, none, none] [vI s0] u wI (fX8_readNames_38 o0 o2 v3 s0 u) := by
  rw [fX8_readNames_38]
  refine g_seg0 (pc' := 50) (L' := [some (vR (kO 7) o0), some (vR (kO 6) 1), some (vR (kO 2) o2), some (vI v3), some (vI s0), none, none]) (st' := [vI s0, vI (u.1 o0 0), vR (kA 0 40) (o0 + 2)]) (u1 := u) [(oL 3 4, 2), (oL 2 0, 1), (oP (.getfield 15), 3), (oL 2 0, 1), (oP (.getfield 21), 3), (oL 0 4, 2)] (by decide +kernel) rfl rfl ?_
  refine g_callS (k := 48) (pc2 := 53) (st := []) (CX9_put 40 (o0 + 2) (u.1 o0 0) s0 u) miX9_put msX9_put lk7_48 wV_ok (by decide +kernel) rfl (Nat.le_of_ble_eq_true rfl) (by decide) rfl (fun q4 hq4 => ?_)
  refine g_seg0 (pc' := 56) (L' := [some (vR (kO 7) o0), some (vR (kO 6) 1), some (vR (kO 2) o2), some (vI v3), some (vI s0), none, none]) (st' := [vI (-1), vI s0]) (u1 := q4.2) [(oL 0 4, 2), (oC (-1), 1)] (by decide +kernel) rfl rfl ?_
  refine g_ieq (off := 8) (tgt := 64) (pc2 := 59) (by decide +kernel) (by decide) rfl ?_ ?_
  · exact g_jump [false, false, false, false, true, false, false] rfl (tX8_readNames_64 o0 o2 s0 q4.2)
  · refine g_seg0 (pc' := 61) (L' := [some (vR (kO 7) o0), some (vR (kO 6) 1), some (vR (kO 2) o2), some (vI v3), some (vI s0), none, none]) (st' := [vI 2, vI v3]) (u1 := q4.2) [(oL 0 3, 1), (oC 2, 1)] (by decide +kernel) rfl rfl ?_
    refine g_ieq (off := 15) (tgt := 76) (pc2 := 64) (by decide +kernel) (by decide) rfl ?_ ?_
    · refine g_seg0 (pc' := 77) (L' := [some (vR (kO 7) o0), some (vR (kO 6) 1), some (vR (kO 2) o2), some (vI v3), some (vI s0), none, none]) (st' := [vR (kO 6) 1]) (u1 := q4.2) [(oL 2 1, 1)] (by decide +kernel) rfl rfl ?_
      refine g_callV (k := 98) (pc2 := 80) (st := []) (CX6_isName q4.2) miX6_isName mvX6_isName rfl (by decide) lk7_98 wI_ok (by decide +kernel) rfl (Nat.le_of_ble_eq_true rfl) (by decide) rfl (fun q5 hq5 => ?_)
      refine g_zeq (off := 21) (tgt := 101) (pc2 := 83) (by decide +kernel) (by decide) rfl ?_ ?_
      · refine g_seg0 (pc' := 102) (L' := [some (vR (kO 7) o0), some (vR (kO 6) 1), some (vR (kO 2) o2), some (vI v3), some (vI s0), none, none]) (st' := [vI (-1)]) (u1 := q5.2) [(oC (-1), 1)] (by decide +kernel) rfl rfl ?_
        exact g_jump [true, true, true, false, true, false, false] rfl (tX8_readNames_102 o0 o2 s0 (-1) q5.2)
      · refine g_seg0 (pc' := 95) (L' := [some (vR (kO 7) o0), some (vR (kO 6) 1), some (vR (kO 2) o2), some (vI v3), some (vI s0), none, none]) (st' := [vL (q5.2.2.1 1 9), vI (q5.2.1 o2 1), vR (kA 1 8) (o2 + 2)]) (u1 := q5.2) [(oL 2 2, 1), (oP (.getfield 92), 3), (oL 2 2, 1), (oP (.getfield 95), 3), (oL 2 1, 1), (oP (.getfield 101), 3)] (by decide +kernel) rfl rfl ?_
        refine g_callS (k := 105) (pc2 := 98) (st := []) (CX9_indexOf 8 (o2 + 2) (q5.2.1 o2 1) (q5.2.2.1 1 9) q5.2) miX9_indexOf msX9_indexOf lk7_105 wI_ok (by decide +kernel) rfl (Nat.le_of_ble_eq_true rfl) (by decide) rfl (fun q6 hq6 => ?_)
        refine g_goto (off := 4) (tgt := 102) (by decide +kernel) (by decide) ?_
        exact g_jump [true, true, true, false, true, false, false] rfl (tX8_readNames_102 o0 o2 s0 q6.1 q6.2)
    · exact g_jump [false, false, false, false, true, false, false] rfl (tX8_readNames_64 o0 o2 s0 q4.2)
def fX8_readNames (o0 : Nat) (o2 : Nat) (v3 : Int32) (u : ab_S) : Option (Int32 × ab_S) :=
  bif decide (v3 = 0) then (
    ab_gd [ab_b1 1] (some (1, u)))
  else (
    bif decide (v3 = 1) then (
      (fX6_takeToldName 6 (o2 + 1) (u.1 o2 0) u).bind fun q8 =>
        fX8_readNames_38 o0 o2 v3 q8.1 q8.2)
    else (
      (fX6_takeToldName 8 (o2 + 2) (u.1 o2 1) u).bind fun q7 =>
        fX8_readNames_38 o0 o2 v3 q7.1 q7.2))
theorem tX8_readNames (o0 : Nat) (o2 : Nat) (v3 : Int32) (u : ab_S) : ab_G 0 7 cX8_readNames (some .boolean) 2 0 [some (vR (kO 7) o0), some (vR (kO 6) 1), some (vR (kO 2) o2), some (vI v3), none, none, none] [] u wI (fX8_readNames o0 o2 v3 u) := by
  rw [fX8_readNames]
  refine g_seg0 (pc' := 1) (L' := [some (vR (kO 7) o0), some (vR (kO 6) 1), some (vR (kO 2) o2), some (vI v3), none, none, none]) (st' := [vI v3]) (u1 := u) [(oL 0 3, 1)] (by decide +kernel) rfl rfl ?_
  refine g_zne (off := 5) (tgt := 6) (pc2 := 4) (by decide +kernel) (by decide) rfl ?_ ?_
  · refine g_seg0 (pc' := 8) (L' := [some (vR (kO 7) o0), some (vR (kO 6) 1), some (vR (kO 2) o2), some (vI v3), none, none, none]) (st' := [vI 1, vI v3]) (u1 := u) [(oL 0 3, 1), (oC 1, 1)] (by decide +kernel) rfl rfl ?_
    refine g_ine (off := 18) (tgt := 26) (pc2 := 11) (by decide +kernel) (by decide) rfl ?_ ?_
    · refine g_seg0 (pc' := 35) (L' := [some (vR (kO 7) o0), some (vR (kO 6) 1), some (vR (kO 2) o2), some (vI v3), none, none, none]) (st' := [vI (u.1 o2 1), vR (kA 1 8) (o2 + 2), vR (kO 6) 1]) (u1 := u) [(oL 2 1, 1), (oL 2 2, 1), (oP (.getfield 92), 3), (oL 2 2, 1), (oP (.getfield 95), 3)] (by decide +kernel) rfl rfl ?_
      refine g_callV (k := 88) (pc2 := 38) (st := []) (CX6_takeToldName 8 (o2 + 2) (u.1 o2 1) u) miX6_takeToldName mvX6_takeToldName rfl (by decide) lk7_88 wI_ok (by decide +kernel) rfl (Nat.le_of_ble_eq_true rfl) (by decide) rfl (fun q7 hq7 => ?_)
      exact tX8_readNames_38 o0 o2 v3 q7.1 q7.2
    · refine g_seg0 (pc' := 20) (L' := [some (vR (kO 7) o0), some (vR (kO 6) 1), some (vR (kO 2) o2), some (vI v3), none, none, none]) (st' := [vI (u.1 o2 0), vR (kA 1 6) (o2 + 1), vR (kO 6) 1]) (u1 := u) [(oL 2 1, 1), (oL 2 2, 1), (oP (.getfield 79), 3), (oL 2 2, 1), (oP (.getfield 85), 3)] (by decide +kernel) rfl rfl ?_
      refine g_callV (k := 88) (pc2 := 23) (st := []) (CX6_takeToldName 6 (o2 + 1) (u.1 o2 0) u) miX6_takeToldName mvX6_takeToldName rfl (by decide) lk7_88 wI_ok (by decide +kernel) rfl (Nat.le_of_ble_eq_true rfl) (by decide) rfl (fun q8 hq8 => ?_)
      refine g_goto (off := 15) (tgt := 38) (by decide +kernel) (by decide) ?_
      exact tX8_readNames_38 o0 o2 v3 q8.1 q8.2
  · refine g_seg0 (pc' := 5) (L' := [some (vR (kO 7) o0), some (vR (kO 6) 1), some (vR (kO 2) o2), some (vI v3), none, none, none]) (st' := [vI 1]) (u1 := u) [(oC 1, 1)] (by decide +kernel) rfl rfl ?_
    exact g_zret (by decide +kernel) rfl
theorem CX8_readNames (o0 : Nat) (o2 : Nat) (v3 : Int32) (u : ab_S) : ab_C 0 yX8_readNames cX8_readNames 7 (some .boolean) 2 [vR (kO 7) o0, vR (kO 6) 1, vR (kO 2) o2, vI v3] u wI (fX8_readNames o0 o2 v3 u) := ab_entry (by decide +kernel) rfl (by decide) (by decide) (fun _ => Nat.le_of_ble_eq_true rfl) rfl (tX8_readNames o0 o2 v3 u)
def fX8_deedAt (u : ab_S) : Option (Int32 × ab_S) :=
  (fX6_isWord 8 u).bind fun q1 =>
    bif decide (q1.1 = 0) then (
      (fX6_isWord 9 q1.2).bind fun q2 =>
        bif decide (q2.1 = 0) then (
          (fX6_isWord 10 q2.2).bind fun q3 =>
            bif decide (q3.1 = 0) then (
              (fX6_isWord 11 q3.2).bind fun q4 =>
                bif decide (q4.1 = 0) then (
                  some ((-1), q4.2))
                else (
                  some (3, q4.2)))
            else (
              some (2, q3.2)))
        else (
          some (1, q2.2)))
    else (
      some (0, q1.2))
theorem tX8_deedAt (u : ab_S) : ab_G 0 7 cX8_deedAt (some .int) 1 0 [some (vR (kO 6) 1)] [] u wI (fX8_deedAt u) := by
  rw [fX8_deedAt]
  refine g_seg0 (pc' := 4) (L' := [some (vR (kO 6) 1)]) (st' := [vR (kO 20) 8, vR (kO 6) 1]) (u1 := u) [(oL 2 0, 1), (oP (.getstatic 60), 3)] (by decide +kernel) rfl rfl ?_
  refine g_callV (k := 66) (pc2 := 7) (st := []) (CX6_isWord 8 u) miX6_isWord mvX6_isWord rfl (by decide) lk7_66 wI_ok (by decide +kernel) rfl (Nat.le_of_ble_eq_true rfl) (by decide) rfl (fun q1 hq1 => ?_)
  refine g_zeq (off := 5) (tgt := 12) (pc2 := 10) (by decide +kernel) (by decide) rfl ?_ ?_
  · refine g_seg0 (pc' := 16) (L' := [some (vR (kO 6) 1)]) (st' := [vR (kO 20) 9, vR (kO 6) 1]) (u1 := q1.2) [(oL 2 0, 1), (oP (.getstatic 70), 3)] (by decide +kernel) rfl rfl ?_
    refine g_callV (k := 66) (pc2 := 19) (st := []) (CX6_isWord 9 q1.2) miX6_isWord mvX6_isWord rfl (by decide) lk7_66 wI_ok (by decide +kernel) rfl (Nat.le_of_ble_eq_true rfl) (by decide) rfl (fun q2 hq2 => ?_)
    refine g_zeq (off := 5) (tgt := 24) (pc2 := 22) (by decide +kernel) (by decide) rfl ?_ ?_
    · refine g_seg0 (pc' := 28) (L' := [some (vR (kO 6) 1)]) (st' := [vR (kO 20) 10, vR (kO 6) 1]) (u1 := q2.2) [(oL 2 0, 1), (oP (.getstatic 73), 3)] (by decide +kernel) rfl rfl ?_
      refine g_callV (k := 66) (pc2 := 31) (st := []) (CX6_isWord 10 q2.2) miX6_isWord mvX6_isWord rfl (by decide) lk7_66 wI_ok (by decide +kernel) rfl (Nat.le_of_ble_eq_true rfl) (by decide) rfl (fun q3 hq3 => ?_)
      refine g_zeq (off := 5) (tgt := 36) (pc2 := 34) (by decide +kernel) (by decide) rfl ?_ ?_
      · refine g_seg0 (pc' := 40) (L' := [some (vR (kO 6) 1)]) (st' := [vR (kO 20) 11, vR (kO 6) 1]) (u1 := q3.2) [(oL 2 0, 1), (oP (.getstatic 76), 3)] (by decide +kernel) rfl rfl ?_
        refine g_callV (k := 66) (pc2 := 43) (st := []) (CX6_isWord 11 q3.2) miX6_isWord mvX6_isWord rfl (by decide) lk7_66 wI_ok (by decide +kernel) rfl (Nat.le_of_ble_eq_true rfl) (by decide) rfl (fun q4 hq4 => ?_)
        refine g_zeq (off := 7) (tgt := 50) (pc2 := 46) (by decide +kernel) (by decide) rfl ?_ ?_
        · refine g_seg0 (pc' := 51) (L' := [some (vR (kO 6) 1)]) (st' := [vI (-1)]) (u1 := q4.2) [(oC (-1), 1)] (by decide +kernel) rfl rfl ?_
          exact g_iret (by decide +kernel) rfl
        · refine g_seg0 (pc' := 47) (L' := [some (vR (kO 6) 1)]) (st' := [vI 3]) (u1 := q4.2) [(oC 3, 1)] (by decide +kernel) rfl rfl ?_
          refine g_goto (off := 4) (tgt := 51) (by decide +kernel) (by decide) ?_
          exact g_iret (by decide +kernel) rfl
      · refine g_seg0 (pc' := 35) (L' := [some (vR (kO 6) 1)]) (st' := [vI 2]) (u1 := q3.2) [(oC 2, 1)] (by decide +kernel) rfl rfl ?_
        exact g_iret (by decide +kernel) rfl
    · refine g_seg0 (pc' := 23) (L' := [some (vR (kO 6) 1)]) (st' := [vI 1]) (u1 := q2.2) [(oC 1, 1)] (by decide +kernel) rfl rfl ?_
      exact g_iret (by decide +kernel) rfl
  · refine g_seg0 (pc' := 11) (L' := [some (vR (kO 6) 1)]) (st' := [vI 0]) (u1 := q1.2) [(oC 0, 1)] (by decide +kernel) rfl rfl ?_
    exact g_iret (by decide +kernel) rfl
theorem CX8_deedAt (u : ab_S) : ab_C 0 yX8_deedAt cX8_deedAt 1 (some .int) 1 [vR (kO 6) 1] u wI (fX8_deedAt u) := ab_entry (by decide +kernel) rfl (by decide) (by decide) (fun _ => Nat.le_of_ble_eq_true rfl) rfl (tX8_deedAt u)
def fX8_readLine (o0 : Nat) (o2 : Nat) (u : ab_S) : Option (Int32 × ab_S) :=
  (fX8_deedAt u).bind fun q1 =>
    bif decide (q1.1 = (-1)) then (
      (fX6_fail 1 q1.2).bind fun q7 =>
        ab_gd [ab_b1 q7.1] (some (q7.1, q7.2)))
    else (
      bif decide ((q1.2.1 o0 0) < 40) then (
        (fX6_step q1.2).bind fun q2 =>
          (fX9_put 40 (o0 + 1) (q2.2.1 o0 0) q1.1 q2.2).bind fun q3 =>
            (fX8_readNames o0 o2 q1.1 q3.2).bind fun q4 =>
              bif decide (q4.1 = 0) then (
                ab_gd [ab_b1 0] (some (0, q4.2)))
              else (
                (fX6_takeEnd q4.2).bind fun q5 =>
                  bif decide (q5.1 = 0) then (
                    ab_gd [ab_b1 0] (some (0, q5.2)))
                  else (
                    ab_gd [ab_b1 1] (some (1, (sI q5.2 o0 0 ((q5.2.1 o0 0) + 1)))))))
      else (
        (fX6_fail 5 q1.2).bind fun q6 =>
          ab_gd [ab_b1 q6.1] (some (q6.1, q6.2))))
theorem tX8_readLine (o0 : Nat) (o2 : Nat) (u : ab_S) : ab_G 0 7 cX8_readLine (some .boolean) 3 0 [some (vR (kO 7) o0), some (vR (kO 6) 1), some (vR (kO 2) o2), none] [] u wI (fX8_readLine o0 o2 u) := by
  rw [fX8_readLine]
  refine g_seg0 (pc' := 1) (L' := [some (vR (kO 7) o0), some (vR (kO 6) 1), some (vR (kO 2) o2), none]) (st' := [vR (kO 6) 1]) (u1 := u) [(oL 2 1, 1)] (by decide +kernel) rfl rfl ?_
  refine g_callS (k := 37) (pc2 := 4) (st := []) (CX8_deedAt u) miX8_deedAt msX8_deedAt lk7_37 wI_ok (by decide +kernel) rfl (Nat.le_of_ble_eq_true rfl) (by decide) rfl (fun q1 hq1 => ?_)
  refine g_seg0 (pc' := 7) (L' := [some (vR (kO 7) o0), some (vR (kO 6) 1), some (vR (kO 2) o2), some (vI (q1.1))]) (st' := [vI (-1), vI (q1.1)]) (u1 := q1.2) [(oL 3 3, 1), (oL 0 3, 1), (oC (-1), 1)] (by decide +kernel) rfl rfl ?_
  refine g_ine (off := 9) (tgt := 16) (pc2 := 10) (by decide +kernel) (by decide) rfl ?_ ?_
  · refine g_seg0 (pc' := 22) (L' := [some (vR (kO 7) o0), some (vR (kO 6) 1), some (vR (kO 2) o2), some (vI (q1.1))]) (st' := [vI 40, vI (q1.2.1 o0 0)]) (u1 := q1.2) [(oL 2 0, 1), (oP (.getfield 21), 3), (oC 40, 2)] (by decide +kernel) rfl rfl ?_
    refine g_ilt (off := 9) (tgt := 31) (pc2 := 25) (by decide +kernel) (by decide) rfl ?_ ?_
    · refine g_seg0 (pc' := 32) (L' := [some (vR (kO 7) o0), some (vR (kO 6) 1), some (vR (kO 2) o2), some (vI (q1.1))]) (st' := [vR (kO 6) 1]) (u1 := q1.2) [(oL 2 1, 1)] (by decide +kernel) rfl rfl ?_
      refine g_callV (k := 45) (pc2 := 35) (st := []) (CX6_step q1.2) miX6_step mvX6_step rfl (by decide) lk7_45 wV_ok (by decide +kernel) rfl (Nat.le_of_ble_eq_true rfl) (by decide) rfl (fun q2 hq2 => ?_)
      refine g_seg0 (pc' := 44) (L' := [some (vR (kO 7) o0), some (vR (kO 6) 1), some (vR (kO 2) o2), some (vI (q1.1))]) (st' := [vI (q1.1), vI (q2.2.1 o0 0), vR (kA 0 40) (o0 + 1)]) (u1 := q2.2) [(oL 2 0, 1), (oP (.getfield 9), 3), (oL 2 0, 1), (oP (.getfield 21), 3), (oL 0 3, 1)] (by decide +kernel) rfl rfl ?_
      refine g_callS (k := 48) (pc2 := 47) (st := []) (CX9_put 40 (o0 + 1) (q2.2.1 o0 0) q1.1 q2.2) miX9_put msX9_put lk7_48 wV_ok (by decide +kernel) rfl (Nat.le_of_ble_eq_true rfl) (by decide) rfl (fun q3 hq3 => ?_)
      refine g_seg0 (pc' := 51) (L' := [some (vR (kO 7) o0), some (vR (kO 6) 1), some (vR (kO 2) o2), some (vI (q1.1))]) (st' := [vI (q1.1), vR (kO 2) o2, vR (kO 6) 1, vR (kO 7) o0]) (u1 := q3.2) [(oL 2 0, 1), (oL 2 1, 1), (oL 2 2, 1), (oL 0 3, 1)] (by decide +kernel) rfl rfl ?_
      refine g_callV (k := 52) (pc2 := 54) (st := []) (CX8_readNames o0 o2 q1.1 q3.2) miX8_readNames mvX8_readNames rfl (by decide) lk7_52 wI_ok (by decide +kernel) rfl (Nat.le_of_ble_eq_true rfl) (by decide) rfl (fun q4 hq4 => ?_)
      refine g_zeq (off := 10) (tgt := 64) (pc2 := 57) (by decide +kernel) (by decide) rfl ?_ ?_
      · refine g_seg0 (pc' := 65) (L' := [some (vR (kO 7) o0), some (vR (kO 6) 1), some (vR (kO 2) o2), some (vI (q1.1))]) (st' := [vI 0]) (u1 := q4.2) [(oC 0, 1)] (by decide +kernel) rfl rfl ?_
        exact g_zret (by decide +kernel) rfl
      · refine g_seg0 (pc' := 58) (L' := [some (vR (kO 7) o0), some (vR (kO 6) 1), some (vR (kO 2) o2), some (vI (q1.1))]) (st' := [vR (kO 6) 1]) (u1 := q4.2) [(oL 2 1, 1)] (by decide +kernel) rfl rfl ?_
        refine g_callV (k := 56) (pc2 := 61) (st := []) (CX6_takeEnd q4.2) miX6_takeEnd mvX6_takeEnd rfl (by decide) lk7_56 wI_ok (by decide +kernel) rfl (Nat.le_of_ble_eq_true rfl) (by decide) rfl (fun q5 hq5 => ?_)
        refine g_zne (off := 5) (tgt := 66) (pc2 := 64) (by decide +kernel) (by decide) rfl ?_ ?_
        · refine g_seg0 (pc' := 77) (L' := [some (vR (kO 7) o0), some (vR (kO 6) 1), some (vR (kO 2) o2), some (vI (q1.1))]) (st' := [vI 1]) (u1 := (sI q5.2 o0 0 ((q5.2.1 o0 0) + 1))) [(oL 2 0, 1), (oP .dup, 1), (oP (.getfield 21), 3), (oC 1, 1), (oP .iadd, 1), (oP (.putfield 21), 3), (oC 1, 1)] (by decide +kernel) rfl rfl ?_
          exact g_zret (by decide +kernel) rfl
        · refine g_seg0 (pc' := 65) (L' := [some (vR (kO 7) o0), some (vR (kO 6) 1), some (vR (kO 2) o2), some (vI (q1.1))]) (st' := [vI 0]) (u1 := q5.2) [(oC 0, 1)] (by decide +kernel) rfl rfl ?_
          exact g_zret (by decide +kernel) rfl
    · refine g_seg0 (pc' := 27) (L' := [some (vR (kO 7) o0), some (vR (kO 6) 1), some (vR (kO 2) o2), some (vI (q1.1))]) (st' := [vI 5, vR (kO 6) 1]) (u1 := q1.2) [(oL 2 1, 1), (oC 5, 1)] (by decide +kernel) rfl rfl ?_
      refine g_callV (k := 41) (pc2 := 30) (st := []) (CX6_fail 5 q1.2) miX6_fail mvX6_fail rfl (by decide) lk7_41 wI_ok (by decide +kernel) rfl (Nat.le_of_ble_eq_true rfl) (by decide) rfl (fun q6 hq6 => ?_)
      exact g_zret (by decide +kernel) rfl
  · refine g_seg0 (pc' := 12) (L' := [some (vR (kO 7) o0), some (vR (kO 6) 1), some (vR (kO 2) o2), some (vI (q1.1))]) (st' := [vI 1, vR (kO 6) 1]) (u1 := q1.2) [(oL 2 1, 1), (oC 1, 1)] (by decide +kernel) rfl rfl ?_
    refine g_callV (k := 41) (pc2 := 15) (st := []) (CX6_fail 1 q1.2) miX6_fail mvX6_fail rfl (by decide) lk7_41 wI_ok (by decide +kernel) rfl (Nat.le_of_ble_eq_true rfl) (by decide) rfl (fun q7 hq7 => ?_)
    exact g_zret (by decide +kernel) rfl
theorem CX8_readLine (o0 : Nat) (o2 : Nat) (u : ab_S) : ab_C 0 yX8_readLine cX8_readLine 4 (some .boolean) 3 [vR (kO 7) o0, vR (kO 6) 1, vR (kO 2) o2] u wI (fX8_readLine o0 o2 u) := ab_entry (by decide +kernel) rfl (by decide) (by decide) (fun _ => Nat.le_of_ble_eq_true rfl) rfl (tX8_readLine o0 o2 u)
def fX8_readLines_7 (o0 : Nat) (o2 : Nat) : Nat → Int32 → ab_S → Option (Int32 × ab_S)
  | 0, _, _ => none
  | n + 1, v3, u =>
  bif decide (v3 < 1000) then (
    bif decide ((u.1 1 7) = 0) then (
      some (0, u))
    else (
      (fX8_readLine o0 o2 u).bind fun q1 =>
        bif decide (q1.1 = 0) then (
          some ((q1.2.1 1 10), q1.2))
        else (
          (fX8_readLines_7 o0 o2 n) (v3 + 1) q1.2)))
  else (
    some (0, u))
theorem tX8_readLines_7 (o0 : Nat) (o2 : Nat) : ∀ (n : Nat) (v3 : Int32) (u : ab_S), ab_G 0 7 cX8_readLines (some .int) 4 7 [some (vR (kO 7) o0), some (vR (kO 6) 1), some (vR (kO 2) o2), some (vI v3)] [] u wI (fX8_readLines_7 o0 o2 n v3 u) := by
  intro n
  induction n with
  | zero => intros; exact g_none
  | succ n ih =>
    intro v3 u
    rw [fX8_readLines_7]
    refine g_seg0 (pc' := 11) (L' := [some (vR (kO 7) o0), some (vR (kO 6) 1), some (vR (kO 2) o2), some (vI v3)]) (st' := [vI 1000, vI v3]) (u1 := u) [(oL 0 3, 1), (oC 1000, 3)] (by decide +kernel) rfl rfl ?_
    refine g_ige (off := 30) (tgt := 41) (pc2 := 14) (by decide +kernel) (by decide) rfl ?_ ?_
    · refine g_seg0 (pc' := 42) (L' := [some (vR (kO 7) o0), some (vR (kO 6) 1), some (vR (kO 2) o2), some (vI v3)]) (st' := [vI 0]) (u1 := u) [(oC 0, 1)] (by decide +kernel) rfl rfl ?_
      exact g_iret (by decide +kernel) rfl
    · refine g_seg0 (pc' := 18) (L' := [some (vR (kO 7) o0), some (vR (kO 6) 1), some (vR (kO 2) o2), some (vI v3)]) (st' := [vI (u.1 1 7)]) (u1 := u) [(oL 2 1, 1), (oP (.getfield 25), 3)] (by decide +kernel) rfl rfl ?_
      refine g_zeq (off := 23) (tgt := 41) (pc2 := 21) (by decide +kernel) (by decide) rfl ?_ ?_
      · refine g_seg0 (pc' := 42) (L' := [some (vR (kO 7) o0), some (vR (kO 6) 1), some (vR (kO 2) o2), some (vI v3)]) (st' := [vI 0]) (u1 := u) [(oC 0, 1)] (by decide +kernel) rfl rfl ?_
        exact g_iret (by decide +kernel) rfl
      · refine g_seg0 (pc' := 24) (L' := [some (vR (kO 7) o0), some (vR (kO 6) 1), some (vR (kO 2) o2), some (vI v3)]) (st' := [vR (kO 2) o2, vR (kO 6) 1, vR (kO 7) o0]) (u1 := u) [(oL 2 0, 1), (oL 2 1, 1), (oL 2 2, 1)] (by decide +kernel) rfl rfl ?_
        refine g_callV (k := 30) (pc2 := 27) (st := []) (CX8_readLine o0 o2 u) miX8_readLine mvX8_readLine rfl (by decide) lk7_30 wI_ok (by decide +kernel) rfl (Nat.le_of_ble_eq_true rfl) (by decide) rfl (fun q1 hq1 => ?_)
        refine g_zne (off := 8) (tgt := 35) (pc2 := 30) (by decide +kernel) (by decide) rfl ?_ ?_
        · refine g_seg0 (pc' := 38) (L' := [some (vR (kO 7) o0), some (vR (kO 6) 1), some (vR (kO 2) o2), some (vI (v3 + 1))]) (st' := []) (u1 := q1.2) [(oN 3 1, 3)] (by decide +kernel) rfl rfl ?_
          refine g_goto (off := (-31)) (tgt := 7) (by decide +kernel) (by decide) ?_
          exact ih (v3 + 1) q1.2
        · refine g_seg0 (pc' := 34) (L' := [some (vR (kO 7) o0), some (vR (kO 6) 1), some (vR (kO 2) o2), some (vI v3)]) (st' := [vI (q1.2.1 1 10)]) (u1 := q1.2) [(oL 2 1, 1), (oP (.getfield 34), 3)] (by decide +kernel) rfl rfl ?_
          exact g_iret (by decide +kernel) rfl
def fX8_readLines (o0 : Nat) (o2 : Nat) (u : ab_S) : Option (Int32 × ab_S) :=
  fX8_readLines_7 o0 o2 fu 0 (sI u o0 0 0)
theorem tX8_readLines (o0 : Nat) (o2 : Nat) (u : ab_S) : ab_G 0 7 cX8_readLines (some .int) 4 0 [some (vR (kO 7) o0), some (vR (kO 6) 1), some (vR (kO 2) o2), none] [] u wI (fX8_readLines o0 o2 u) := by
  rw [fX8_readLines]
  refine g_seg0 (pc' := 7) (L' := [some (vR (kO 7) o0), some (vR (kO 6) 1), some (vR (kO 2) o2), some (vI 0)]) (st' := []) (u1 := (sI u o0 0 0)) [(oL 2 0, 1), (oC 0, 1), (oP (.putfield 21), 3), (oC 0, 1), (oL 3 3, 1)] (by decide +kernel) rfl rfl ?_
  exact tX8_readLines_7 o0 o2 fu 0 (sI u o0 0 0)
theorem CX8_readLines (o0 : Nat) (o2 : Nat) (u : ab_S) : ab_C 0 yX8_readLines cX8_readLines 4 (some .int) 4 [vR (kO 7) o0, vR (kO 6) 1, vR (kO 2) o2] u wI (fX8_readLines o0 o2 u) := ab_entry (by decide +kernel) rfl (by decide) (by decide) (fun _ => Nat.le_of_ble_eq_true rfl) rfl (tX8_readLines o0 o2 u)
def fX9_year (u : ab_S) : Option (Int32 × ab_S) :=
  (fX6_split u).bind fun q1 =>
    (fX8_readLines (q1.2.2.2 3) (q1.2.2.2 0) q1.2).bind fun q2 =>
      bif decide (q2.1 = 0) then (
        some (0, (sM (sM q2.2 2 (q2.2.2.2 3)) 3 (q2.2.2.2 2))))
      else (
        some (q2.1, q2.2))
theorem tX9_year (u : ab_S) : ab_G 0 8 cX9_year (some .int) 6 0 [some (vR (kO 8) 0), none, none] [] u wI (fX9_year u) := by
  rw [fX9_year]
  refine g_seg0 (pc' := 4) (L' := [some (vR (kO 8) 0), none, none]) (st' := [vR (kO 6) 1]) (u1 := u) [(oL 2 0, 1), (oP (.getfield 10), 3)] (by decide +kernel) rfl rfl ?_
  refine g_callV (k := 90) (pc2 := 7) (st := []) (CX6_split u) miX6_split mvX6_split rfl (by decide) lk8_90 wV_ok (by decide +kernel) rfl (Nat.le_of_ble_eq_true rfl) (by decide) rfl (fun q1 hq1 => ?_)
  refine g_seg0 (pc' := 19) (L' := [some (vR (kO 8) 0), none, none]) (st' := [vR (kO 2) (q1.2.2.2 0), vR (kO 6) 1, vR (kO 7) (q1.2.2.2 3)]) (u1 := q1.2) [(oL 2 0, 1), (oP (.getfield 33), 3), (oL 2 0, 1), (oP (.getfield 10), 3), (oL 2 0, 1), (oP (.getfield 19), 3)] (by decide +kernel) rfl rfl ?_
  refine g_callV (k := 117) (pc2 := 22) (st := []) (CX8_readLines (q1.2.2.2 3) (q1.2.2.2 0) q1.2) miX8_readLines mvX8_readLines rfl (by decide) lk8_117 wI_ok (by decide +kernel) rfl (Nat.le_of_ble_eq_true rfl) (by decide) rfl (fun q2 hq2 => ?_)
  refine g_seg0 (pc' := 24) (L' := [some (vR (kO 8) 0), some (vI (q2.1)), none]) (st' := [vI (q2.1)]) (u1 := q2.2) [(oL 3 1, 1), (oL 0 1, 1)] (by decide +kernel) rfl rfl ?_
  refine g_zeq (off := 5) (tgt := 29) (pc2 := 27) (by decide +kernel) (by decide) rfl ?_ ?_
  · refine g_seg0 (pc' := 48) (L' := [some (vR (kO 8) 0), some (vI (q2.1)), some (vR (kO 7) (q2.2.2.2 2))]) (st' := [vI 0]) (u1 := (sM (sM q2.2 2 (q2.2.2.2 3)) 3 (q2.2.2.2 2))) [(oL 2 0, 1), (oP (.getfield 29), 3), (oL 5 2, 1), (oL 2 0, 1), (oL 2 0, 1), (oP (.getfield 33), 3), (oP (.putfield 29), 3), (oL 2 0, 1), (oL 2 2, 1), (oP (.putfield 33), 3), (oC 0, 1)] (by decide +kernel) rfl rfl ?_
    exact g_iret (by decide +kernel) rfl
  · refine g_seg0 (pc' := 28) (L' := [some (vR (kO 8) 0), some (vI (q2.1)), none]) (st' := [vI (q2.1)]) (u1 := q2.2) [(oL 0 1, 1)] (by decide +kernel) rfl rfl ?_
    exact g_iret (by decide +kernel) rfl
theorem CX9_year (u : ab_S) : ab_C 0 yX9_year cX9_year 3 (some .int) 6 [vR (kO 8) 0] u wI (fX9_year u) := ab_entry (by decide +kernel) rfl (by decide) (by decide) (fun _ => Nat.le_of_ble_eq_true rfl) rfl (tX9_year u)
def fX5_shillingsOf (o0 : Nat) (v1 : Int32) (u : ab_S) : Option (Int32 × ab_S) :=
  (fX9_at 6 (o0 + 2) v1 u).bind fun q1 =>
    some (q1.1, q1.2)
theorem tX5_shillingsOf (o0 : Nat) (v1 : Int32) (u : ab_S) : ab_G 0 5 cX5_shillingsOf (some .int) 1 0 [some (vR (kO 5) o0), some (vI v1)] [] u wI (fX5_shillingsOf o0 v1 u) := by
  rw [fX5_shillingsOf]
  refine g_seg0 (pc' := 5) (L' := [some (vR (kO 5) o0), some (vI v1)]) (st' := [vI v1, vR (kA 0 6) (o0 + 2)]) (u1 := u) [(oL 2 0, 1), (oP (.getfield 15), 3), (oL 0 1, 1)] (by decide +kernel) rfl rfl ?_
  refine g_callS (k := 34) (pc2 := 8) (st := []) (CX9_at 6 (o0 + 2) v1 u) miX9_at msX9_at lk5_34 wI_ok (by decide +kernel) rfl (Nat.le_of_ble_eq_true rfl) (by decide) rfl (fun q1 hq1 => ?_)
  exact g_iret (by decide +kernel) rfl
theorem CX5_shillingsOf (o0 : Nat) (v1 : Int32) (u : ab_S) : ab_C 0 yX5_shillingsOf cX5_shillingsOf 2 (some .int) 1 [vR (kO 5) o0, vI v1] u wI (fX5_shillingsOf o0 v1 u) := ab_entry (by decide +kernel) rfl (by decide) (by decide) (fun _ => Nat.le_of_ble_eq_true rfl) rfl (tX5_shillingsOf o0 v1 u)
