/-! methods, printed by program out of the listing: function, walk, contract -/
def fX10_year_118 : Nat → Int32 → Int32 → ab_S → Option (Int32 × ab_S)
  | 0, _, _, _ => none
  | n + 1, v1, v2, u =>
  bif decide (v2 < (3 * v1)) then (
    ab_gd [ab_ix (125 + v2) 250, ab_ix (1 + v2) 250] (
      (fX10_year_118 n) v1 (v2 + 1) (sI u 13 (nc (1 + v2)) (u.1 13 (nc (125 + v2))))))
  else (
    some (0, u))
theorem tX10_year_118 : ∀ (n : Nat) (v1 : Int32) (v2 : Int32) (u : ab_S), ab_G 1 9 cX10_year (some .int) 5 118 [some (vR (kO 9) 0), some (vI v1), some (vI v2)] [] u wI (fX10_year_118 n v1 v2 u) := by
  intro n
  induction n with
  | zero => intros; exact g_none
  | succ n ih =>
    intro v1 v2 u
    rw [fX10_year_118]
    refine g_seg0 (pc' := 122) (L' := [some (vR (kO 9) 0), some (vI v1), some (vI v2)]) (st' := [vI (3 * v1), vI v2]) (u1 := u) [(oL 0 2, 1), (oC 3, 1), (oL 0 1, 1), (oP .imul, 1)] (by decide +kernel) rfl rfl ?_
    refine g_ige (off := 26) (tgt := 148) (pc2 := 125) (by decide +kernel) (by decide) rfl ?_ ?_
    · refine g_seg0 (pc' := 149) (L' := [some (vR (kO 9) 0), some (vI v1), some (vI v2)]) (st' := [vI 0]) (u1 := u) [(oC 0, 1)] (by decide +kernel) rfl rfl ?_
      exact g_iret (by decide +kernel) rfl
    · refine g_seg (pc' := 145) (L' := [some (vR (kO 9) 0), some (vI v1), some (vI (v2 + 1))]) (st' := []) (u1 := (sI u 13 (nc (1 + v2)) (u.1 13 (nc (125 + v2))))) [(oL 2 0, 1), (oP (.getfield 104), 3), (oC 1, 1), (oL 0 2, 1), (oP .iadd, 1), (oL 2 0, 1), (oP (.getfield 104), 3), (oC 125, 2), (oL 0 2, 1), (oP .iadd, 1), (oP .iaload, 1), (oP .iastore, 1), (oN 2 1, 3)] (by decide +kernel) rfl rfl ?_
      refine g_goto (off := (-27)) (tgt := 118) (by decide +kernel) (by decide) ?_
      exact ih v1 (v2 + 1) (sI u 13 (nc (1 + v2)) (u.1 13 (nc (125 + v2))))
def fX10_year_97 (v1 : Int32) (u : ab_S) : Option (Int32 × ab_S) :=
  bif decide ((u.1 0 8) ≤ 0) then (
    ab_gd [ab_ix 0 250] (
      fX10_year_118 fu v1 0 (sI u 13 (nc 0) v1)))
  else (
    some ((u.1 0 8), u))
theorem tX10_year_97 (v1 : Int32) (u : ab_S) : ab_G 1 9 cX10_year (some .int) 5 97 [some (vR (kO 9) 0), some (vI v1), none] [] u wI (fX10_year_97 v1 u) := by
  rw [fX10_year_97]
  refine g_seg0 (pc' := 101) (L' := [some (vR (kO 9) 0), some (vI v1), none]) (st' := [vI (u.1 0 8)]) (u1 := u) [(oL 2 0, 1), (oP (.getfield 168), 3)] (by decide +kernel) rfl rfl ?_
  refine g_zle (off := 8) (tgt := 109) (pc2 := 104) (by decide +kernel) (by decide) rfl ?_ ?_
  · refine g_seg (pc' := 118) (L' := [some (vR (kO 9) 0), some (vI v1), some (vI 0)]) (st' := []) (u1 := (sI u 13 (nc 0) v1)) [(oL 2 0, 1), (oP (.getfield 104), 3), (oC 0, 1), (oL 0 1, 1), (oP .iastore, 1), (oC 0, 1), (oL 3 2, 1)] (by decide +kernel) rfl rfl ?_
    exact tX10_year_118 fu v1 0 (sI u 13 (nc 0) v1)
  · refine g_seg0 (pc' := 108) (L' := [some (vR (kO 9) 0), some (vI v1), none]) (st' := [vI (u.1 0 8)]) (u1 := u) [(oL 2 0, 1), (oP (.getfield 168), 3)] (by decide +kernel) rfl rfl ?_
    exact g_iret (by decide +kernel) rfl
def fX10_year_88 (k11 : Int32 → ab_S → Option (Int32 × ab_S)) (v1 : Int32) (u : ab_S) : Option (Int32 × ab_S) :=
  (fX10_takeSign 59 u).bind fun q1 =>
    k11 v1 q1.2
theorem tX10_year_88 (k11 : Int32 → ab_S → Option (Int32 × ab_S)) (hk11 : ∀ (v1 : Int32) (u : ab_S), ab_G 1 9 cX10_year (some .int) 5 11 [some (vR (kO 9) 0), some (vI v1), none] [] u wI (k11 v1 u)) (v1 : Int32) (u : ab_S) : ab_G 1 9 cX10_year (some .int) 5 88 [some (vR (kO 9) 0), some (vI v1), none] [] u wI (fX10_year_88 k11 v1 u) := by
  rw [fX10_year_88]
  refine g_seg0 (pc' := 91) (L' := [some (vR (kO 9) 0), some (vI v1), none]) (st' := [vI 59, vR (kO 9) 0]) (u1 := u) [(oL 2 0, 1), (oC 59, 2)] (by decide +kernel) rfl rfl ?_
  refine g_callV (k := 223) (pc2 := 94) (st := []) (CX10_takeSign 59 u) miX10_takeSign mvX10_takeSign rfl (by decide) lk9_223 wV_ok (by decide +kernel) rfl (Nat.le_of_ble_eq_true rfl) (by decide) rfl (fun q1 hq1 => ?_)
  refine g_goto (off := (-83)) (tgt := 11) (by decide +kernel) (by decide) ?_
  exact hk11 v1 q1.2
def fX10_year_11 : Nat → Int32 → ab_S → Option (Int32 × ab_S)
  | 0, _, _ => none
  | n + 1, v1, u =>
  bif decide ((u.1 0 8) = 0) then (
    ab_gd [ab_ix (u.1 0 7) 1002] (
      bif decide ((u.1 2 (nc (u.1 0 7))) = 0) then (
        fX10_year_97 v1 u)
      else (
        (fX10_wordHere 8 4 u).bind fun q2 =>
          bif decide (q2.1 < 0) then (
            (fX10_wrong 1 q2.2).bind fun q5 =>
              fX10_year_88 (fX10_year_11 n) v1 q5.2)
          else (
            bif decide (v1 = 40) then (
              (fX10_wrong 5 q2.2).bind fun q4 =>
                fX10_year_88 (fX10_year_11 n) v1 q4.2)
            else (
              (fX10_readYear (125 + (3 * v1)) q2.1 (sI q2.2 0 7 ((q2.2.1 0 7) + 1))).bind fun q3 =>
                fX10_year_88 (fX10_year_11 n) (v1 + 1) q3.2)))))
  else (
    fX10_year_97 v1 u)
theorem tX10_year_11 : ∀ (n : Nat) (v1 : Int32) (u : ab_S), ab_G 1 9 cX10_year (some .int) 5 11 [some (vR (kO 9) 0), some (vI v1), none] [] u wI (fX10_year_11 n v1 u) := by
  intro n
  induction n with
  | zero => intros; exact g_none
  | succ n ih =>
    intro v1 u
    rw [fX10_year_11]
    refine g_seg0 (pc' := 15) (L' := [some (vR (kO 9) 0), some (vI v1), none]) (st' := [vI (u.1 0 8)]) (u1 := u) [(oL 2 0, 1), (oP (.getfield 168), 3)] (by decide +kernel) rfl rfl ?_
    refine g_zne (off := 82) (tgt := 97) (pc2 := 18) (by decide +kernel) (by decide) rfl ?_ ?_
    · exact tX10_year_97 v1 u
    · refine g_seg (pc' := 27) (L' := [some (vR (kO 9) 0), some (vI v1), none]) (st' := [vI (u.1 2 (nc (u.1 0 7)))]) (u1 := u) [(oL 2 0, 1), (oP (.getfield 24), 3), (oL 2 0, 1), (oP (.getfield 165), 3), (oP .iaload, 1)] (by decide +kernel) rfl rfl ?_
      refine g_zeq (off := 70) (tgt := 97) (pc2 := 30) (by decide +kernel) (by decide) rfl ?_ ?_
      · exact tX10_year_97 v1 u
      · refine g_seg0 (pc' := 34) (L' := [some (vR (kO 9) 0), some (vI v1), none]) (st' := [vI 4, vI 8, vR (kO 9) 0]) (u1 := u) [(oL 2 0, 1), (oC 8, 2), (oC 4, 1)] (by decide +kernel) rfl rfl ?_
        refine g_callV (k := 190) (pc2 := 37) (st := []) (CX10_wordHere 8 4 u) miX10_wordHere mvX10_wordHere rfl (by decide) lk9_190 wI_ok (by decide +kernel) rfl (Nat.le_of_ble_eq_true rfl) (by decide) rfl (fun q2 hq2 => ?_)
        refine g_seg0 (pc' := 39) (L' := [some (vR (kO 9) 0), some (vI v1), some (vI (q2.1))]) (st' := [vI (q2.1)]) (u1 := q2.2) [(oL 3 2, 1), (oL 0 2, 1)] (by decide +kernel) rfl rfl ?_
        refine g_zge (off := 11) (tgt := 50) (pc2 := 42) (by decide +kernel) (by decide) rfl ?_ ?_
        · refine g_seg0 (pc' := 53) (L' := [some (vR (kO 9) 0), some (vI v1), some (vI (q2.1))]) (st' := [vI 40, vI v1]) (u1 := q2.2) [(oL 0 1, 1), (oC 40, 2)] (by decide +kernel) rfl rfl ?_
          refine g_ine (off := 11) (tgt := 64) (pc2 := 56) (by decide +kernel) (by decide) rfl ?_ ?_
          · refine g_seg0 (pc' := 82) (L' := [some (vR (kO 9) 0), some (vI v1), some (vI (q2.1))]) (st' := [vI (q2.1), vI (125 + (3 * v1)), vR (kO 9) 0]) (u1 := (sI q2.2 0 7 ((q2.2.1 0 7) + 1))) [(oL 2 0, 1), (oP .dup, 1), (oP (.getfield 165), 3), (oC 1, 1), (oP .iadd, 1), (oP (.putfield 165), 3), (oL 2 0, 1), (oC 125, 2), (oC 3, 1), (oL 0 1, 1), (oP .imul, 1), (oP .iadd, 1), (oL 0 2, 1)] (by decide +kernel) rfl rfl ?_
            refine g_callV (k := 254) (pc2 := 85) (st := []) (CX10_readYear (125 + (3 * v1)) q2.1 (sI q2.2 0 7 ((q2.2.1 0 7) + 1))) miX10_readYear mvX10_readYear rfl (by decide) lk9_254 wV_ok (by decide +kernel) rfl (Nat.le_of_ble_eq_true rfl) (by decide) rfl (fun q3 hq3 => ?_)
            refine g_seg0 (pc' := 88) (L' := [some (vR (kO 9) 0), some (vI (v1 + 1)), some (vI (q2.1))]) (st' := []) (u1 := q3.2) [(oN 1 1, 3)] (by decide +kernel) rfl rfl ?_
            exact g_jump [true, true, false] rfl (tX10_year_88 (fX10_year_11 n) ih (v1 + 1) q3.2)
          · refine g_seg0 (pc' := 58) (L' := [some (vR (kO 9) 0), some (vI v1), some (vI (q2.1))]) (st' := [vI 5, vR (kO 9) 0]) (u1 := q2.2) [(oL 2 0, 1), (oC 5, 1)] (by decide +kernel) rfl rfl ?_
            refine g_callV (k := 174) (pc2 := 61) (st := []) (CX10_wrong 5 q2.2) miX10_wrong mvX10_wrong rfl (by decide) lk9_174 wV_ok (by decide +kernel) rfl (Nat.le_of_ble_eq_true rfl) (by decide) rfl (fun q4 hq4 => ?_)
            refine g_goto (off := 27) (tgt := 88) (by decide +kernel) (by decide) ?_
            exact g_jump [true, true, false] rfl (tX10_year_88 (fX10_year_11 n) ih v1 q4.2)
        · refine g_seg0 (pc' := 44) (L' := [some (vR (kO 9) 0), some (vI v1), some (vI (q2.1))]) (st' := [vI 1, vR (kO 9) 0]) (u1 := q2.2) [(oL 2 0, 1), (oC 1, 1)] (by decide +kernel) rfl rfl ?_
          refine g_callV (k := 174) (pc2 := 47) (st := []) (CX10_wrong 1 q2.2) miX10_wrong mvX10_wrong rfl (by decide) lk9_174 wV_ok (by decide +kernel) rfl (Nat.le_of_ble_eq_true rfl) (by decide) rfl (fun q5 hq5 => ?_)
          refine g_goto (off := 41) (tgt := 88) (by decide +kernel) (by decide) ?_
          exact g_jump [true, true, false] rfl (tX10_year_88 (fX10_year_11 n) ih v1 q5.2)
def fX10_year (u : ab_S) : Option (Int32 × ab_S) :=
  (fX10_cutAll (sI u 0 0 0)).bind fun q6 =>
    fX10_year_11 fu 0 q6.2
theorem tX10_year (u : ab_S) : ab_G 1 9 cX10_year (some .int) 5 0 [some (vR (kO 9) 0), none, none] [] u wI (fX10_year u) := by
  rw [fX10_year]
  refine g_seg0 (pc' := 6) (L' := [some (vR (kO 9) 0), none, none]) (st' := [vR (kO 9) 0]) (u1 := (sI u 0 0 0)) [(oL 2 0, 1), (oC 0, 1), (oP (.putfield 1), 3), (oL 2 0, 1)] (by decide +kernel) rfl rfl ?_
  refine g_callV (k := 211) (pc2 := 9) (st := []) (CX10_cutAll (sI u 0 0 0)) miX10_cutAll mvX10_cutAll rfl (by decide) lk9_211 wV_ok (by decide +kernel) rfl (Nat.le_of_ble_eq_true rfl) (by decide) rfl (fun q6 hq6 => ?_)
  refine g_seg0 (pc' := 11) (L' := [some (vR (kO 9) 0), some (vI 0), none]) (st' := []) (u1 := q6.2) [(oC 0, 1), (oL 3 1, 1)] (by decide +kernel) rfl rfl ?_
  exact tX10_year_11 fu 0 q6.2
theorem CX10_year (u : ab_S) : ab_C 1 yX10_year cX10_year 3 (some .int) 5 [vR (kO 9) 0] u wI (fX10_year u) := ab_entry (by decide +kernel) rfl (by decide) (by decide) (fun _ => Nat.le_of_ble_eq_true rfl) rfl (tX10_year u)
def fX10_both (v0 : Int32) (v1 : Int32) (v2 : Int32) (u : ab_S) : Option (Int32 × ab_S) :=
  ab_sw v0 [
  (4,
    some ((v1 + v2), u)),
  (5,
    some ((v1 - v2), u)),
  (6,
    some ((v1 * v2), u)),
  (7,
    bif decide (v1 < v2) then (
      some (1, u))
    else (
      some (0, u))),
  (8,
    bif decide (v1 = v2) then (
      some (1, u))
    else (
      some (0, u))),
  (9,
    bif decide (v1 = 0) then (
      some (0, u))
    else (
      bif decide (v2 = 0) then (
        some (0, u))
      else (
        some (1, u))))] (
    bif decide (v1 = 0) then (
      bif decide (v2 = 0) then (
        some (0, u))
      else (
        some (1, u)))
    else (
      some (1, u)))
theorem tX10_both (v0 : Int32) (v1 : Int32) (v2 : Int32) (u : ab_S) : ab_G 1 9 cX10_both (some .int) 0 0 [some (vI v0), some (vI v1), some (vI v2)] [] u wI (fX10_both v0 v1 v2 u) := by
  rw [fX10_both]
  refine g_seg0 (pc' := 1) (L' := [some (vI v0), some (vI v1), some (vI v2)]) (st' := [vI v0]) (u1 := u) [(oL 0 0, 1)] (by decide +kernel) rfl rfl ?_
  refine g_sw0 ?_
  refine g_sw1 (dflt := 87) (lo := 4) (hi := 9) (offs := #[39, 43, 47, 51, 62, 73]) (len := 39) (k := 4) (t := 40) (by decide +kernel) (by decide +kernel) ?_ ?_
  · refine g_seg0 (pc' := 43) (L' := [some (vI v0), some (vI v1), some (vI v2)]) (st' := [vI (v1 + v2)]) (u1 := u) [(oL 0 1, 1), (oL 0 2, 1), (oP .iadd, 1)] (by decide +kernel) rfl rfl ?_
    exact g_iret (by decide +kernel) rfl
  refine g_sw1 (dflt := 87) (lo := 4) (hi := 9) (offs := #[39, 43, 47, 51, 62, 73]) (len := 39) (k := 5) (t := 44) (by decide +kernel) (by decide +kernel) ?_ ?_
  · refine g_seg0 (pc' := 47) (L' := [some (vI v0), some (vI v1), some (vI v2)]) (st' := [vI (v1 - v2)]) (u1 := u) [(oL 0 1, 1), (oL 0 2, 1), (oP .isub, 1)] (by decide +kernel) rfl rfl ?_
    exact g_iret (by decide +kernel) rfl
  refine g_sw1 (dflt := 87) (lo := 4) (hi := 9) (offs := #[39, 43, 47, 51, 62, 73]) (len := 39) (k := 6) (t := 48) (by decide +kernel) (by decide +kernel) ?_ ?_
  · refine g_seg0 (pc' := 51) (L' := [some (vI v0), some (vI v1), some (vI v2)]) (st' := [vI (v1 * v2)]) (u1 := u) [(oL 0 1, 1), (oL 0 2, 1), (oP .imul, 1)] (by decide +kernel) rfl rfl ?_
    exact g_iret (by decide +kernel) rfl
  refine g_sw1 (dflt := 87) (lo := 4) (hi := 9) (offs := #[39, 43, 47, 51, 62, 73]) (len := 39) (k := 7) (t := 52) (by decide +kernel) (by decide +kernel) ?_ ?_
  · refine g_seg0 (pc' := 54) (L' := [some (vI v0), some (vI v1), some (vI v2)]) (st' := [vI v2, vI v1]) (u1 := u) [(oL 0 1, 1), (oL 0 2, 1)] (by decide +kernel) rfl rfl ?_
    refine g_ige (off := 7) (tgt := 61) (pc2 := 57) (by decide +kernel) (by decide) rfl ?_ ?_
    · refine g_seg0 (pc' := 62) (L' := [some (vI v0), some (vI v1), some (vI v2)]) (st' := [vI 0]) (u1 := u) [(oC 0, 1)] (by decide +kernel) rfl rfl ?_
      exact g_iret (by decide +kernel) rfl
    · refine g_seg0 (pc' := 58) (L' := [some (vI v0), some (vI v1), some (vI v2)]) (st' := [vI 1]) (u1 := u) [(oC 1, 1)] (by decide +kernel) rfl rfl ?_
      refine g_goto (off := 4) (tgt := 62) (by decide +kernel) (by decide) ?_
      exact g_iret (by decide +kernel) rfl
  refine g_sw1 (dflt := 87) (lo := 4) (hi := 9) (offs := #[39, 43, 47, 51, 62, 73]) (len := 39) (k := 8) (t := 63) (by decide +kernel) (by decide +kernel) ?_ ?_
  · refine g_seg0 (pc' := 65) (L' := [some (vI v0), some (vI v1), some (vI v2)]) (st' := [vI v2, vI v1]) (u1 := u) [(oL 0 1, 1), (oL 0 2, 1)] (by decide +kernel) rfl rfl ?_
    refine g_ine (off := 7) (tgt := 72) (pc2 := 68) (by decide +kernel) (by decide) rfl ?_ ?_
    · refine g_seg0 (pc' := 73) (L' := [some (vI v0), some (vI v1), some (vI v2)]) (st' := [vI 0]) (u1 := u) [(oC 0, 1)] (by decide +kernel) rfl rfl ?_
      exact g_iret (by decide +kernel) rfl
    · refine g_seg0 (pc' := 69) (L' := [some (vI v0), some (vI v1), some (vI v2)]) (st' := [vI 1]) (u1 := u) [(oC 1, 1)] (by decide +kernel) rfl rfl ?_
      refine g_goto (off := 4) (tgt := 73) (by decide +kernel) (by decide) ?_
      exact g_iret (by decide +kernel) rfl
  refine g_sw1 (dflt := 87) (lo := 4) (hi := 9) (offs := #[39, 43, 47, 51, 62, 73]) (len := 39) (k := 9) (t := 74) (by decide +kernel) (by decide +kernel) ?_ ?_
  · refine g_seg0 (pc' := 75) (L' := [some (vI v0), some (vI v1), some (vI v2)]) (st' := [vI v1]) (u1 := u) [(oL 0 1, 1)] (by decide +kernel) rfl rfl ?_
    refine g_zeq (off := 11) (tgt := 86) (pc2 := 78) (by decide +kernel) (by decide) rfl ?_ ?_
    · refine g_seg0 (pc' := 87) (L' := [some (vI v0), some (vI v1), some (vI v2)]) (st' := [vI 0]) (u1 := u) [(oC 0, 1)] (by decide +kernel) rfl rfl ?_
      exact g_iret (by decide +kernel) rfl
    · refine g_seg0 (pc' := 79) (L' := [some (vI v0), some (vI v1), some (vI v2)]) (st' := [vI v2]) (u1 := u) [(oL 0 2, 1)] (by decide +kernel) rfl rfl ?_
      refine g_zeq (off := 7) (tgt := 86) (pc2 := 82) (by decide +kernel) (by decide) rfl ?_ ?_
      · refine g_seg0 (pc' := 87) (L' := [some (vI v0), some (vI v1), some (vI v2)]) (st' := [vI 0]) (u1 := u) [(oC 0, 1)] (by decide +kernel) rfl rfl ?_
        exact g_iret (by decide +kernel) rfl
      · refine g_seg0 (pc' := 83) (L' := [some (vI v0), some (vI v1), some (vI v2)]) (st' := [vI 1]) (u1 := u) [(oC 1, 1)] (by decide +kernel) rfl rfl ?_
        refine g_goto (off := 4) (tgt := 87) (by decide +kernel) (by decide) ?_
        exact g_iret (by decide +kernel) rfl
  refine g_swd (dflt := 87) (lo := 4) (hi := 9) (offs := #[39, 43, 47, 51, 62, 73]) (len := 39) (tgd := 88) (by decide +kernel) (by decide) (by decide +kernel) ?_
  refine g_seg0 (pc' := 89) (L' := [some (vI v0), some (vI v1), some (vI v2)]) (st' := [vI v1]) (u1 := u) [(oL 0 1, 1)] (by decide +kernel) rfl rfl ?_
  refine g_zne (off := 7) (tgt := 96) (pc2 := 92) (by decide +kernel) (by decide) rfl ?_ ?_
  · refine g_seg0 (pc' := 97) (L' := [some (vI v0), some (vI v1), some (vI v2)]) (st' := [vI 1]) (u1 := u) [(oC 1, 1)] (by decide +kernel) rfl rfl ?_
    refine g_goto (off := 4) (tgt := 101) (by decide +kernel) (by decide) ?_
    exact g_iret (by decide +kernel) rfl
  · refine g_seg0 (pc' := 93) (L' := [some (vI v0), some (vI v1), some (vI v2)]) (st' := [vI v2]) (u1 := u) [(oL 0 2, 1)] (by decide +kernel) rfl rfl ?_
    refine g_zeq (off := 7) (tgt := 100) (pc2 := 96) (by decide +kernel) (by decide) rfl ?_ ?_
    · refine g_seg0 (pc' := 101) (L' := [some (vI v0), some (vI v1), some (vI v2)]) (st' := [vI 0]) (u1 := u) [(oC 0, 1)] (by decide +kernel) rfl rfl ?_
      exact g_iret (by decide +kernel) rfl
    · refine g_seg0 (pc' := 97) (L' := [some (vI v0), some (vI v1), some (vI v2)]) (st' := [vI 1]) (u1 := u) [(oC 1, 1)] (by decide +kernel) rfl rfl ?_
      refine g_goto (off := 4) (tgt := 101) (by decide +kernel) (by decide) ?_
      exact g_iret (by decide +kernel) rfl
theorem CX10_both (v0 : Int32) (v1 : Int32) (v2 : Int32) (u : ab_S) : ab_C 1 yX10_both cX10_both 3 (some .int) 0 [vI v0, vI v1, vI v2] u wI (fX10_both v0 v1 v2 u) := ab_entry (by decide +kernel) rfl (by decide) (by decide) (fun _ => Nat.le_of_ble_eq_true rfl) rfl (tX10_both v0 v1 v2 u)
def fX10_worthAt_33 (k4 : Int32 → Int32 → ab_S → Option (Int32 × ab_S)) (v2 : Int32) (v3 : Int32) (v4 : Int32) (u : ab_S) : Option (Int32 × ab_S) :=
  bif decide (v4 = 1) then (
    ab_gd [ab_ix v3 2200] (
      ab_gd [ab_ix v2 1100] (
        k4 (v2 + 1) (v3 + 1) (sI u 15 (nc v2) (u.1 8 (nc v3))))))
  else (
    ab_gd [ab_ix v3 2200, ab_ix (u.1 8 (nc v3)) 4, ab_ix v2 1100] (
      k4 (v2 + 1) (v3 + 1) (sI u 15 (nc v2) (u.1 14 (nc (u.1 8 (nc v3)))))))
theorem tX10_worthAt_33 (k4 : Int32 → Int32 → ab_S → Option (Int32 × ab_S)) (hk4 : ∀ (v2 : Int32) (v3 : Int32) (u : ab_S), ab_G 1 9 cX10_worthAt (some .int) 1 4 [some (vR (kO 9) 0), none, some (vI v2), some (vI v3), none] [] u wI (k4 v2 v3 u)) (v2 : Int32) (v3 : Int32) (v4 : Int32) (u : ab_S) : ab_G 1 9 cX10_worthAt (some .int) 1 33 [some (vR (kO 9) 0), none, some (vI v2), some (vI v3), some (vI v4)] [] u wI (fX10_worthAt_33 k4 v2 v3 v4 u) := by
  rw [fX10_worthAt_33]
  refine g_seg0 (pc' := 41) (L' := [some (vR (kO 9) 0), none, some (vI v2), some (vI v3), some (vI v4)]) (st' := [vI 1, vI v4, vI v2, vR (kA 0 1100) 15]) (u1 := u) [(oL 2 0, 1), (oP (.getfield 110), 3), (oL 0 2, 1), (oL 0 4, 2), (oC 1, 1)] (by decide +kernel) rfl rfl ?_
  refine g_ine (off := 12) (tgt := 53) (pc2 := 44) (by decide +kernel) (by decide) rfl ?_ ?_
  · refine g_seg (pc' := 68) (L' := [some (vR (kO 9) 0), none, some (vI (v2 + 1)), some (vI v3), some (vI v4)]) (st' := []) (u1 := (sI u 15 (nc v2) (u.1 14 (nc (u.1 8 (nc v3)))))) [(oL 2 0, 1), (oP (.getfield 107), 3), (oL 2 0, 1), (oP (.getfield 89), 3), (oL 0 3, 1), (oP .iaload, 1), (oP .iaload, 1), (oP .iastore, 1), (oN 2 1, 3)] (by decide +kernel) rfl rfl ?_
    refine g_goto (off := 66) (tgt := 134) (by decide +kernel) (by decide) ?_
    refine g_seg0 (pc' := 137) (L' := [some (vR (kO 9) 0), none, some (vI (v2 + 1)), some (vI (v3 + 1)), some (vI v4)]) (st' := []) (u1 := (sI u 15 (nc v2) (u.1 14 (nc (u.1 8 (nc v3)))))) [(oN 3 1, 3)] (by decide +kernel) rfl rfl ?_
    refine g_goto (off := (-133)) (tgt := 4) (by decide +kernel) (by decide) ?_
    exact g_jump [true, false, true, true, false] rfl (hk4 (v2 + 1) (v3 + 1) (sI u 15 (nc v2) (u.1 14 (nc (u.1 8 (nc v3))))))
  · refine g_seg (pc' := 50) (L' := [some (vR (kO 9) 0), none, some (vI v2), some (vI v3), some (vI v4)]) (st' := [vI (u.1 8 (nc v3)), vI v2, vR (kA 0 1100) 15]) (u1 := u) [(oL 2 0, 1), (oP (.getfield 89), 3), (oL 0 3, 1), (oP .iaload, 1)] (by decide +kernel) rfl rfl ?_
    refine g_goto (off := 14) (tgt := 64) (by decide +kernel) (by decide) ?_
    refine g_seg (pc' := 68) (L' := [some (vR (kO 9) 0), none, some (vI (v2 + 1)), some (vI v3), some (vI v4)]) (st' := []) (u1 := (sI u 15 (nc v2) (u.1 8 (nc v3)))) [(oP .iastore, 1), (oN 2 1, 3)] (by decide +kernel) rfl rfl ?_
    refine g_goto (off := 66) (tgt := 134) (by decide +kernel) (by decide) ?_
    refine g_seg0 (pc' := 137) (L' := [some (vR (kO 9) 0), none, some (vI (v2 + 1)), some (vI (v3 + 1)), some (vI v4)]) (st' := []) (u1 := (sI u 15 (nc v2) (u.1 8 (nc v3)))) [(oN 3 1, 3)] (by decide +kernel) rfl rfl ?_
    refine g_goto (off := (-133)) (tgt := 4) (by decide +kernel) (by decide) ?_
    exact g_jump [true, false, true, true, false] rfl (hk4 (v2 + 1) (v3 + 1) (sI u 15 (nc v2) (u.1 8 (nc v3))))
def fX10_worthAt_4 : Nat → Int32 → Int32 → ab_S → Option (Int32 × ab_S)
  | 0, _, _, _ => none
  | n + 1, v2, v3, u =>
  ab_gd [ab_ix v3 2200] (
    bif decide ((u.1 7 (nc v3)) = 0) then (
      ab_gd [ab_ix 0 1100] (
        some ((u.1 15 (nc 0)), u)))
    else (
      ab_gd [ab_ix v3 2200] (
        bif decide ((u.1 7 (nc v3)) = 1) then (
          fX10_worthAt_33 (fX10_worthAt_4 n) v2 v3 (u.1 7 (nc v3)) u)
        else (
          bif decide ((u.1 7 (nc v3)) = 2) then (
            fX10_worthAt_33 (fX10_worthAt_4 n) v2 v3 (u.1 7 (nc v3)) u)
          else (
            bif decide ((u.1 7 (nc v3)) = 3) then (
              ab_gd [ab_ix (v2 - 1) 1100] (
                bif decide ((u.1 15 (nc (v2 - 1))) = 0) then (
                  ab_gd [ab_ix (v2 - 1) 1100] (
                    (fX10_worthAt_4 n) v2 (v3 + 1) (sI u 15 (nc (v2 - 1)) 1)))
                else (
                  ab_gd [ab_ix (v2 - 1) 1100] (
                    (fX10_worthAt_4 n) v2 (v3 + 1) (sI u 15 (nc (v2 - 1)) 0)))))
            else (
              ab_gd [ab_ix ((v2 + (-1)) - 1) 1100, ab_ix (v2 + (-1)) 1100] (
                (fX10_both (u.1 7 (nc v3)) (u.1 15 (nc ((v2 + (-1)) - 1))) (u.1 15 (nc (v2 + (-1)))) u).bind fun q1 =>
                  ab_gd [ab_ix ((v2 + (-1)) - 1) 1100] (
                    (fX10_worthAt_4 n) (v2 + (-1)) (v3 + 1) (sI q1.2 15 (nc ((v2 + (-1)) - 1)) q1.1)))))))))
theorem tX10_worthAt_4 : ∀ (n : Nat) (v2 : Int32) (v3 : Int32) (u : ab_S), ab_G 1 9 cX10_worthAt (some .int) 1 4 [some (vR (kO 9) 0), none, some (vI v2), some (vI v3), none] [] u wI (fX10_worthAt_4 n v2 v3 u) := by
  intro n
  induction n with
  | zero => intros; exact g_none
  | succ n ih =>
    intro v2 v3 u
    rw [fX10_worthAt_4]
    refine g_seg (pc' := 10) (L' := [some (vR (kO 9) 0), none, some (vI v2), some (vI v3), none]) (st' := [vI (u.1 7 (nc v3))]) (u1 := u) [(oL 2 0, 1), (oP (.getfield 86), 3), (oL 0 3, 1), (oP .iaload, 1)] (by decide +kernel) rfl rfl ?_
    refine g_zeq (off := 130) (tgt := 140) (pc2 := 13) (by decide +kernel) (by decide) rfl ?_ ?_
    · refine g_seg (pc' := 146) (L' := [some (vR (kO 9) 0), none, some (vI v2), some (vI v3), none]) (st' := [vI (u.1 15 (nc 0))]) (u1 := u) [(oL 2 0, 1), (oP (.getfield 110), 3), (oC 0, 1), (oP .iaload, 1)] (by decide +kernel) rfl rfl ?_
      exact g_iret (by decide +kernel) rfl
    · refine g_seg (pc' := 24) (L' := [some (vR (kO 9) 0), none, some (vI v2), some (vI v3), some (vI (u.1 7 (nc v3)))]) (st' := [vI 1, vI (u.1 7 (nc v3))]) (u1 := u) [(oL 2 0, 1), (oP (.getfield 86), 3), (oL 0 3, 1), (oP .iaload, 1), (oL 3 4, 2), (oL 0 4, 2), (oC 1, 1)] (by decide +kernel) rfl rfl ?_
      refine g_ieq (off := 9) (tgt := 33) (pc2 := 27) (by decide +kernel) (by decide) rfl ?_ ?_
      · exact tX10_worthAt_33 (fX10_worthAt_4 n) ih v2 v3 (u.1 7 (nc v3)) u
      · refine g_seg0 (pc' := 30) (L' := [some (vR (kO 9) 0), none, some (vI v2), some (vI v3), some (vI (u.1 7 (nc v3)))]) (st' := [vI 2, vI (u.1 7 (nc v3))]) (u1 := u) [(oL 0 4, 2), (oC 2, 1)] (by decide +kernel) rfl rfl ?_
        refine g_ine (off := 41) (tgt := 71) (pc2 := 33) (by decide +kernel) (by decide) rfl ?_ ?_
        · refine g_seg0 (pc' := 74) (L' := [some (vR (kO 9) 0), none, some (vI v2), some (vI v3), some (vI (u.1 7 (nc v3)))]) (st' := [vI 3, vI (u.1 7 (nc v3))]) (u1 := u) [(oL 0 4, 2), (oC 3, 1)] (by decide +kernel) rfl rfl ?_
          refine g_ine (off := 30) (tgt := 104) (pc2 := 77) (by decide +kernel) (by decide) rfl ?_ ?_
          · refine g_seg (pc' := 130) (L' := [some (vR (kO 9) 0), none, some (vI (v2 + (-1))), some (vI v3), some (vI (u.1 7 (nc v3)))]) (st' := [vI (u.1 15 (nc (v2 + (-1)))), vI (u.1 15 (nc ((v2 + (-1)) - 1))), vI (u.1 7 (nc v3)), vI ((v2 + (-1)) - 1), vR (kA 0 1100) 15]) (u1 := u) [(oN 2 (-1), 3), (oL 2 0, 1), (oP (.getfield 110), 3), (oL 0 2, 1), (oC 1, 1), (oP .isub, 1), (oL 0 4, 2), (oL 2 0, 1), (oP (.getfield 110), 3), (oL 0 2, 1), (oC 1, 1), (oP .isub, 1), (oP .iaload, 1), (oL 2 0, 1), (oP (.getfield 110), 3), (oL 0 2, 1), (oP .iaload, 1)] (by decide +kernel) rfl rfl ?_
            refine g_callS (k := 272) (pc2 := 133) (st := [vI ((v2 + (-1)) - 1), vR (kA 0 1100) 15]) (CX10_both (u.1 7 (nc v3)) (u.1 15 (nc ((v2 + (-1)) - 1))) (u.1 15 (nc (v2 + (-1)))) u) miX10_both msX10_both lk9_272 wI_ok (by decide +kernel) rfl (Nat.le_of_ble_eq_true rfl) (by decide) rfl (fun q1 hq1 => ?_)
            refine g_seg (pc' := 137) (L' := [some (vR (kO 9) 0), none, some (vI (v2 + (-1))), some (vI (v3 + 1)), some (vI (u.1 7 (nc v3)))]) (st' := []) (u1 := (sI q1.2 15 (nc ((v2 + (-1)) - 1)) q1.1)) [(oP .iastore, 1), (oN 3 1, 3)] (by decide +kernel) rfl rfl ?_
            refine g_goto (off := (-133)) (tgt := 4) (by decide +kernel) (by decide) ?_
            exact g_jump [true, false, true, true, false] rfl (ih (v2 + (-1)) (v3 + 1) (sI q1.2 15 (nc ((v2 + (-1)) - 1)) q1.1))
          · refine g_seg (pc' := 92) (L' := [some (vR (kO 9) 0), none, some (vI v2), some (vI v3), some (vI (u.1 7 (nc v3)))]) (st' := [vI (u.1 15 (nc (v2 - 1))), vI (v2 - 1), vR (kA 0 1100) 15]) (u1 := u) [(oL 2 0, 1), (oP (.getfield 110), 3), (oL 0 2, 1), (oC 1, 1), (oP .isub, 1), (oL 2 0, 1), (oP (.getfield 110), 3), (oL 0 2, 1), (oC 1, 1), (oP .isub, 1), (oP .iaload, 1)] (by decide +kernel) rfl rfl ?_
            refine g_zne (off := 7) (tgt := 99) (pc2 := 95) (by decide +kernel) (by decide) rfl ?_ ?_
            · refine g_seg (pc' := 101) (L' := [some (vR (kO 9) 0), none, some (vI v2), some (vI v3), some (vI (u.1 7 (nc v3)))]) (st' := []) (u1 := (sI u 15 (nc (v2 - 1)) 0)) [(oC 0, 1), (oP .iastore, 1)] (by decide +kernel) rfl rfl ?_
              refine g_goto (off := 33) (tgt := 134) (by decide +kernel) (by decide) ?_
              refine g_seg0 (pc' := 137) (L' := [some (vR (kO 9) 0), none, some (vI v2), some (vI (v3 + 1)), some (vI (u.1 7 (nc v3)))]) (st' := []) (u1 := (sI u 15 (nc (v2 - 1)) 0)) [(oN 3 1, 3)] (by decide +kernel) rfl rfl ?_
              refine g_goto (off := (-133)) (tgt := 4) (by decide +kernel) (by decide) ?_
              exact g_jump [true, false, true, true, false] rfl (ih v2 (v3 + 1) (sI u 15 (nc (v2 - 1)) 0))
            · refine g_seg0 (pc' := 96) (L' := [some (vR (kO 9) 0), none, some (vI v2), some (vI v3), some (vI (u.1 7 (nc v3)))]) (st' := [vI 1, vI (v2 - 1), vR (kA 0 1100) 15]) (u1 := u) [(oC 1, 1)] (by decide +kernel) rfl rfl ?_
              refine g_goto (off := 4) (tgt := 100) (by decide +kernel) (by decide) ?_
              refine g_seg (pc' := 101) (L' := [some (vR (kO 9) 0), none, some (vI v2), some (vI v3), some (vI (u.1 7 (nc v3)))]) (st' := []) (u1 := (sI u 15 (nc (v2 - 1)) 1)) [(oP .iastore, 1)] (by decide +kernel) rfl rfl ?_
              refine g_goto (off := 33) (tgt := 134) (by decide +kernel) (by decide) ?_
              refine g_seg0 (pc' := 137) (L' := [some (vR (kO 9) 0), none, some (vI v2), some (vI (v3 + 1)), some (vI (u.1 7 (nc v3)))]) (st' := []) (u1 := (sI u 15 (nc (v2 - 1)) 1)) [(oN 3 1, 3)] (by decide +kernel) rfl rfl ?_
              refine g_goto (off := (-133)) (tgt := 4) (by decide +kernel) (by decide) ?_
              exact g_jump [true, false, true, true, false] rfl (ih v2 (v3 + 1) (sI u 15 (nc (v2 - 1)) 1))
        · exact tX10_worthAt_33 (fX10_worthAt_4 n) ih v2 v3 (u.1 7 (nc v3)) u
def fX10_worthAt (v1 : Int32) (u : ab_S) : Option (Int32 × ab_S) :=
  fX10_worthAt_4 fu 0 v1 u
theorem tX10_worthAt (v1 : Int32) (u : ab_S) : ab_G 1 9 cX10_worthAt (some .int) 1 0 [some (vR (kO 9) 0), some (vI v1), none, none, none] [] u wI (fX10_worthAt v1 u) := by
  rw [fX10_worthAt]
  refine g_seg0 (pc' := 4) (L' := [some (vR (kO 9) 0), some (vI v1), some (vI 0), some (vI v1), none]) (st' := []) (u1 := u) [(oC 0, 1), (oL 3 2, 1), (oL 0 1, 1), (oL 3 3, 1)] (by decide +kernel) rfl rfl ?_
  exact g_jump [true, false, true, true, false] rfl (tX10_worthAt_4 fu 0 v1 u)
theorem CX10_worthAt (v1 : Int32) (u : ab_S) : ab_C 1 yX10_worthAt cX10_worthAt 5 (some .int) 1 [vR (kO 9) 0, vI v1] u wI (fX10_worthAt v1 u) := ab_entry (by decide +kernel) rfl (by decide) (by decide) (fun _ => Nat.le_of_ble_eq_true rfl) rfl (tX10_worthAt v1 u)
def fX10_copies_3 : Nat → Int32 → Int32 → Int32 → Int32 → ab_S → Option (Unit × ab_S)
  | 0, _, _, _, _, _ => none
  | n + 1, v1, v2, v3, v4, u =>
  bif decide (v4 < v3) then (
    ab_gd [ab_ix (v1 + v4) 1081, ab_ix (v2 + v4) 1081] (
      (fX10_copies_3 n) v1 v2 v3 (v4 + 1) (sI u 16 (nc (v2 + v4)) (u.1 16 (nc (v1 + v4))))))
  else (
    some ((), u))
theorem tX10_copies_3 : ∀ (n : Nat) (v1 : Int32) (v2 : Int32) (v3 : Int32) (v4 : Int32) (u : ab_S), ab_G 1 9 cX10_copies none 0 3 [some (vR (kO 9) 0), some (vI v1), some (vI v2), some (vI v3), some (vI v4)] [] u wV (fX10_copies_3 n v1 v2 v3 v4 u) := by
  intro n
  induction n with
  | zero => intros; exact g_none
  | succ n ih =>
    intro v1 v2 v3 v4 u
    rw [fX10_copies_3]
    refine g_seg0 (pc' := 6) (L' := [some (vR (kO 9) 0), some (vI v1), some (vI v2), some (vI v3), some (vI v4)]) (st' := [vI v3, vI v4]) (u1 := u) [(oL 0 4, 2), (oL 0 3, 1)] (by decide +kernel) rfl rfl ?_
    refine g_ige (off := 27) (tgt := 33) (pc2 := 9) (by decide +kernel) (by decide) rfl ?_ ?_
    · exact g_vret (by decide +kernel) rfl
    · refine g_seg (pc' := 30) (L' := [some (vR (kO 9) 0), some (vI v1), some (vI v2), some (vI v3), some (vI (v4 + 1))]) (st' := []) (u1 := (sI u 16 (nc (v2 + v4)) (u.1 16 (nc (v1 + v4))))) [(oL 2 0, 1), (oP (.getfield 113), 3), (oL 0 2, 1), (oL 0 4, 2), (oP .iadd, 1), (oL 2 0, 1), (oP (.getfield 113), 3), (oL 0 1, 1), (oL 0 4, 2), (oP .iadd, 1), (oP .iaload, 1), (oP .iastore, 1), (oN 4 1, 3)] (by decide +kernel) rfl rfl ?_
      refine g_goto (off := (-27)) (tgt := 3) (by decide +kernel) (by decide) ?_
      exact ih v1 v2 v3 (v4 + 1) (sI u 16 (nc (v2 + v4)) (u.1 16 (nc (v1 + v4))))
def fX10_copies (v1 : Int32) (v2 : Int32) (v3 : Int32) (u : ab_S) : Option (Unit × ab_S) :=
  fX10_copies_3 fu v1 v2 v3 0 u
theorem tX10_copies (v1 : Int32) (v2 : Int32) (v3 : Int32) (u : ab_S) : ab_G 1 9 cX10_copies none 0 0 [some (vR (kO 9) 0), some (vI v1), some (vI v2), some (vI v3), none] [] u wV (fX10_copies v1 v2 v3 u) := by
  rw [fX10_copies]
  refine g_seg0 (pc' := 3) (L' := [some (vR (kO 9) 0), some (vI v1), some (vI v2), some (vI v3), some (vI 0)]) (st' := []) (u1 := u) [(oC 0, 1), (oL 3 4, 2)] (by decide +kernel) rfl rfl ?_
  exact tX10_copies_3 fu v1 v2 v3 0 u
theorem CX10_copies (v1 : Int32) (v2 : Int32) (v3 : Int32) (u : ab_S) : ab_C 1 yX10_copies cX10_copies 5 none 0 [vR (kO 9) 0, vI v1, vI v2, vI v3] u wV (fX10_copies v1 v2 v3 u) := ab_entry (by decide +kernel) rfl (by decide) (by decide) (fun _ => Nat.le_of_ble_eq_true rfl) rfl (tX10_copies v1 v2 v3 u)
def fX10_keeps_53 (u : ab_S) : Option (Unit × ab_S) :=
  (fX10_copies 0 (47 * (5 + (u.1 0 25))) 22 u).bind fun q1 =>
    some ((), (sI q1.2 0 25 ((q1.2.1 0 25) + 1)))
theorem tX10_keeps_53 (u : ab_S) : ab_G 1 9 cX10_keeps none 1 53 [some (vR (kO 9) 0), none] [] u wV (fX10_keeps_53 u) := by
  rw [fX10_keeps_53]
  refine g_seg0 (pc' := 66) (L' := [some (vR (kO 9) 0), none]) (st' := [vI 22, vI (47 * (5 + (u.1 0 25))), vI 0, vR (kO 9) 0]) (u1 := u) [(oL 2 0, 1), (oC 0, 1), (oC 47, 2), (oC 5, 1), (oL 2 0, 1), (oP (.getfield 285), 3), (oP .iadd, 1), (oP .imul, 1), (oC 22, 2)] (by decide +kernel) rfl rfl ?_
  refine g_callV (k := 288) (pc2 := 69) (st := []) (CX10_copies 0 (47 * (5 + (u.1 0 25))) 22 u) miX10_copies mvX10_copies rfl (by decide) lk9_288 wV_ok (by decide +kernel) rfl (Nat.le_of_ble_eq_true rfl) (by decide) rfl (fun q1 hq1 => ?_)
  refine g_seg0 (pc' := 79) (L' := [some (vR (kO 9) 0), none]) (st' := []) (u1 := (sI q1.2 0 25 ((q1.2.1 0 25) + 1))) [(oL 2 0, 1), (oP .dup, 1), (oP (.getfield 285), 3), (oC 1, 1), (oP .iadd, 1), (oP (.putfield 285), 3)] (by decide +kernel) rfl rfl ?_
  exact g_vret (by decide +kernel) rfl
def fX10_keeps_11 : Nat → Int32 → ab_S → Option (Unit × ab_S)
  | 0, _, _ => none
  | n + 1, v1, u =>
  bif decide (v1 < 16) then (
    (fX10_copies (47 * (5 + v1)) (47 * ((5 + v1) - 1)) 22 u).bind fun q2 =>
      (fX10_keeps_11 n) (v1 + 1) q2.2)
  else (
    fX10_keeps_53 (sI u 0 25 ((u.1 0 25) - 1)))
theorem tX10_keeps_11 : ∀ (n : Nat) (v1 : Int32) (u : ab_S), ab_G 1 9 cX10_keeps none 1 11 [some (vR (kO 9) 0), some (vI v1)] [] u wV (fX10_keeps_11 n v1 u) := by
  intro n
  induction n with
  | zero => intros; exact g_none
  | succ n ih =>
    intro v1 u
    rw [fX10_keeps_11]
    refine g_seg0 (pc' := 14) (L' := [some (vR (kO 9) 0), some (vI v1)]) (st' := [vI 16, vI v1]) (u1 := u) [(oL 0 1, 1), (oC 16, 2)] (by decide +kernel) rfl rfl ?_
    refine g_ige (off := 29) (tgt := 43) (pc2 := 17) (by decide +kernel) (by decide) rfl ?_ ?_
    · refine g_seg0 (pc' := 53) (L' := [some (vR (kO 9) 0), some (vI v1)]) (st' := []) (u1 := (sI u 0 25 ((u.1 0 25) - 1))) [(oL 2 0, 1), (oP .dup, 1), (oP (.getfield 285), 3), (oC 1, 1), (oP .isub, 1), (oP (.putfield 285), 3)] (by decide +kernel) rfl rfl ?_
      exact g_jump [true, false] rfl (tX10_keeps_53 (sI u 0 25 ((u.1 0 25) - 1)))
    · refine g_seg0 (pc' := 34) (L' := [some (vR (kO 9) 0), some (vI v1)]) (st' := [vI 22, vI (47 * ((5 + v1) - 1)), vI (47 * (5 + v1)), vR (kO 9) 0]) (u1 := u) [(oL 2 0, 1), (oC 47, 2), (oC 5, 1), (oL 0 1, 1), (oP .iadd, 1), (oP .imul, 1), (oC 47, 2), (oC 5, 1), (oL 0 1, 1), (oP .iadd, 1), (oC 1, 1), (oP .isub, 1), (oP .imul, 1), (oC 22, 2)] (by decide +kernel) rfl rfl ?_
      refine g_callV (k := 288) (pc2 := 37) (st := []) (CX10_copies (47 * (5 + v1)) (47 * ((5 + v1) - 1)) 22 u) miX10_copies mvX10_copies rfl (by decide) lk9_288 wV_ok (by decide +kernel) rfl (Nat.le_of_ble_eq_true rfl) (by decide) rfl (fun q2 hq2 => ?_)
      refine g_seg0 (pc' := 40) (L' := [some (vR (kO 9) 0), some (vI (v1 + 1))]) (st' := []) (u1 := q2.2) [(oN 1 1, 3)] (by decide +kernel) rfl rfl ?_
      refine g_goto (off := (-29)) (tgt := 11) (by decide +kernel) (by decide) ?_
      exact ih (v1 + 1) q2.2
def fX10_keeps (u : ab_S) : Option (Unit × ab_S) :=
  bif decide ((u.1 0 25) = 16) then (
    fX10_keeps_11 fu 1 u)
  else (
    fX10_keeps_53 u)
theorem tX10_keeps (u : ab_S) : ab_G 1 9 cX10_keeps none 1 0 [some (vR (kO 9) 0), none] [] u wV (fX10_keeps u) := by
  rw [fX10_keeps]
  refine g_seg0 (pc' := 6) (L' := [some (vR (kO 9) 0), none]) (st' := [vI 16, vI (u.1 0 25)]) (u1 := u) [(oL 2 0, 1), (oP (.getfield 285), 3), (oC 16, 2)] (by decide +kernel) rfl rfl ?_
  refine g_ine (off := 47) (tgt := 53) (pc2 := 9) (by decide +kernel) (by decide) rfl ?_ ?_
  · exact tX10_keeps_53 u
  · refine g_seg0 (pc' := 11) (L' := [some (vR (kO 9) 0), some (vI 1)]) (st' := []) (u1 := u) [(oC 1, 1), (oL 3 1, 1)] (by decide +kernel) rfl rfl ?_
    exact tX10_keeps_11 fu 1 u
theorem CX10_keeps (u : ab_S) : ab_C 1 yX10_keeps cX10_keeps 2 none 1 [vR (kO 9) 0] u wV (fX10_keeps u) := ab_entry (by decide +kernel) rfl (by decide) (by decide) (fun _ => Nat.le_of_ble_eq_true rfl) rfl (tX10_keeps u)
def fX10_goods (u : ab_S) : Option (Int32 × ab_S) :=
  ab_gd [ab_ix 1 180] (
    some ((u.1 6 (nc 1)), u))
theorem tX10_goods (u : ab_S) : ab_G 1 9 cX10_goods (some .int) 0 0 [some (vR (kO 9) 0)] [] u wI (fX10_goods u) := by
  rw [fX10_goods]
  refine g_seg (pc' := 6) (L' := [some (vR (kO 9) 0)]) (st' := [vI (u.1 6 (nc 1))]) (u1 := u) [(oL 2 0, 1), (oP (.getfield 83), 3), (oC 1, 1), (oP .iaload, 1)] (by decide +kernel) rfl rfl ?_
  exact g_iret (by decide +kernel) rfl
theorem CX10_goods (u : ab_S) : ab_C 1 yX10_goods cX10_goods 1 (some .int) 0 [vR (kO 9) 0] u wI (fX10_goods u) := ab_entry (by decide +kernel) rfl (by decide) (by decide) (fun _ => Nat.le_of_ble_eq_true rfl) rfl (tX10_goods u)
def fX10_goodOf (v1 : Int32) (v2 : Int32) (u : ab_S) : Option (Int32 × ab_S) :=
  ab_gd [ab_ix ((16 + (2 * v1)) + v2) 180] (
    some ((u.1 6 (nc ((16 + (2 * v1)) + v2))), u))
theorem tX10_goodOf (v1 : Int32) (v2 : Int32) (u : ab_S) : ab_G 1 9 cX10_goodOf (some .int) 0 0 [some (vR (kO 9) 0), some (vI v1), some (vI v2)] [] u wI (fX10_goodOf v1 v2 u) := by
  rw [fX10_goodOf]
  refine g_seg (pc' := 13) (L' := [some (vR (kO 9) 0), some (vI v1), some (vI v2)]) (st' := [vI (u.1 6 (nc ((16 + (2 * v1)) + v2)))]) (u1 := u) [(oL 2 0, 1), (oP (.getfield 83), 3), (oC 16, 2), (oC 2, 1), (oL 0 1, 1), (oP .imul, 1), (oP .iadd, 1), (oL 0 2, 1), (oP .iadd, 1), (oP .iaload, 1)] (by decide +kernel) rfl rfl ?_
  exact g_iret (by decide +kernel) rfl
theorem CX10_goodOf (v1 : Int32) (v2 : Int32) (u : ab_S) : ab_C 1 yX10_goodOf cX10_goodOf 3 (some .int) 0 [vR (kO 9) 0, vI v1, vI v2] u wI (fX10_goodOf v1 v2 u) := ab_entry (by decide +kernel) rfl (by decide) (by decide) (fun _ => Nat.le_of_ble_eq_true rfl) rfl (tX10_goodOf v1 v2 u)
def fX10_isPerson (v1 : Int32) (u : ab_S) : Option (Int32 × ab_S) :=
  bif decide (v1 < 0) then (
    ab_gd [ab_b1 0] (some (0, u)))
  else (
    (fX10_persons u).bind fun q1 =>
      bif decide (v1 < q1.1) then (
        ab_gd [ab_b1 1] (some (1, q1.2)))
      else (
        ab_gd [ab_b1 0] (some (0, q1.2))))
theorem tX10_isPerson (v1 : Int32) (u : ab_S) : ab_G 1 9 cX10_isPerson (some .boolean) 1 0 [some (vR (kO 9) 0), some (vI v1)] [] u wI (fX10_isPerson v1 u) := by
  rw [fX10_isPerson]
  refine g_seg0 (pc' := 1) (L' := [some (vR (kO 9) 0), some (vI v1)]) (st' := [vI v1]) (u1 := u) [(oL 0 1, 1)] (by decide +kernel) rfl rfl ?_
  refine g_zlt (off := 15) (tgt := 16) (pc2 := 4) (by decide +kernel) (by decide) rfl ?_ ?_
  · refine g_seg0 (pc' := 17) (L' := [some (vR (kO 9) 0), some (vI v1)]) (st' := [vI 0]) (u1 := u) [(oC 0, 1)] (by decide +kernel) rfl rfl ?_
    exact g_zret (by decide +kernel) rfl
  · refine g_seg0 (pc' := 6) (L' := [some (vR (kO 9) 0), some (vI v1)]) (st' := [vR (kO 9) 0, vI v1]) (u1 := u) [(oL 0 1, 1), (oL 2 0, 1)] (by decide +kernel) rfl rfl ?_
    refine g_callV (k := 275) (pc2 := 9) (st := [vI v1]) (CX10_persons u) miX10_persons mvX10_persons rfl (by decide) lk9_275 wI_ok (by decide +kernel) rfl (Nat.le_of_ble_eq_true rfl) (by decide) rfl (fun q1 hq1 => ?_)
    refine g_ige (off := 7) (tgt := 16) (pc2 := 12) (by decide +kernel) (by decide) rfl ?_ ?_
    · refine g_seg0 (pc' := 17) (L' := [some (vR (kO 9) 0), some (vI v1)]) (st' := [vI 0]) (u1 := q1.2) [(oC 0, 1)] (by decide +kernel) rfl rfl ?_
      exact g_zret (by decide +kernel) rfl
    · refine g_seg0 (pc' := 13) (L' := [some (vR (kO 9) 0), some (vI v1)]) (st' := [vI 1]) (u1 := q1.2) [(oC 1, 1)] (by decide +kernel) rfl rfl ?_
      refine g_goto (off := 4) (tgt := 17) (by decide +kernel) (by decide) ?_
      exact g_zret (by decide +kernel) rfl
theorem CX10_isPerson (v1 : Int32) (u : ab_S) : ab_C 1 yX10_isPerson cX10_isPerson 2 (some .boolean) 1 [vR (kO 9) 0, vI v1] u wI (fX10_isPerson v1 u) := ab_entry (by decide +kernel) rfl (by decide) (by decide) (fun _ => Nat.le_of_ble_eq_true rfl) rfl (tX10_isPerson v1 u)
def fX10_isGood (v1 : Int32) (u : ab_S) : Option (Int32 × ab_S) :=
  bif decide (v1 < 0) then (
    ab_gd [ab_b1 0] (some (0, u)))
  else (
    (fX10_goods u).bind fun q1 =>
      bif decide (v1 < q1.1) then (
        ab_gd [ab_b1 1] (some (1, q1.2)))
      else (
        ab_gd [ab_b1 0] (some (0, q1.2))))
theorem tX10_isGood (v1 : Int32) (u : ab_S) : ab_G 1 9 cX10_isGood (some .boolean) 1 0 [some (vR (kO 9) 0), some (vI v1)] [] u wI (fX10_isGood v1 u) := by
  rw [fX10_isGood]
  refine g_seg0 (pc' := 1) (L' := [some (vR (kO 9) 0), some (vI v1)]) (st' := [vI v1]) (u1 := u) [(oL 0 1, 1)] (by decide +kernel) rfl rfl ?_
  refine g_zlt (off := 15) (tgt := 16) (pc2 := 4) (by decide +kernel) (by decide) rfl ?_ ?_
  · refine g_seg0 (pc' := 17) (L' := [some (vR (kO 9) 0), some (vI v1)]) (st' := [vI 0]) (u1 := u) [(oC 0, 1)] (by decide +kernel) rfl rfl ?_
    exact g_zret (by decide +kernel) rfl
  · refine g_seg0 (pc' := 6) (L' := [some (vR (kO 9) 0), some (vI v1)]) (st' := [vR (kO 9) 0, vI v1]) (u1 := u) [(oL 0 1, 1), (oL 2 0, 1)] (by decide +kernel) rfl rfl ?_
    refine g_callV (k := 291) (pc2 := 9) (st := [vI v1]) (CX10_goods u) miX10_goods mvX10_goods rfl (by decide) lk9_291 wI_ok (by decide +kernel) rfl (Nat.le_of_ble_eq_true rfl) (by decide) rfl (fun q1 hq1 => ?_)
    refine g_ige (off := 7) (tgt := 16) (pc2 := 12) (by decide +kernel) (by decide) rfl ?_ ?_
    · refine g_seg0 (pc' := 17) (L' := [some (vR (kO 9) 0), some (vI v1)]) (st' := [vI 0]) (u1 := q1.2) [(oC 0, 1)] (by decide +kernel) rfl rfl ?_
      exact g_zret (by decide +kernel) rfl
    · refine g_seg0 (pc' := 13) (L' := [some (vR (kO 9) 0), some (vI v1)]) (st' := [vI 1]) (u1 := q1.2) [(oC 1, 1)] (by decide +kernel) rfl rfl ?_
      refine g_goto (off := 4) (tgt := 17) (by decide +kernel) (by decide) ?_
      exact g_zret (by decide +kernel) rfl
theorem CX10_isGood (v1 : Int32) (u : ab_S) : ab_C 1 yX10_isGood cX10_isGood 2 (some .boolean) 1 [vR (kO 9) 0, vI v1] u wI (fX10_isGood v1 u) := ab_entry (by decide +kernel) rfl (by decide) (by decide) (fun _ => Nat.le_of_ble_eq_true rfl) rfl (tX10_isGood v1 u)
def fX10_bits_4 : Nat → Int32 → Int32 → Int32 → ab_S → Option (Int32 × ab_S)
  | 0, _, _, _, _ => none
  | n + 1, v0, v1, v2, u =>
  bif decide (v2 < 30) then (
    (fX10_bits_4 n) v0 (v1 + ((v0 >>> (v2 &&& 31)) &&& 1)) (v2 + 1) u)
  else (
    some (v1, u))
theorem tX10_bits_4 : ∀ (n : Nat) (v0 : Int32) (v1 : Int32) (v2 : Int32) (u : ab_S), ab_G 1 9 cX10_bits (some .int) 0 4 [some (vI v0), some (vI v1), some (vI v2)] [] u wI (fX10_bits_4 n v0 v1 v2 u) := by
  intro n
  induction n with
  | zero => intros; exact g_none
  | succ n ih =>
    intro v0 v1 v2 u
    rw [fX10_bits_4]
    refine g_seg0 (pc' := 7) (L' := [some (vI v0), some (vI v1), some (vI v2)]) (st' := [vI 30, vI v2]) (u1 := u) [(oL 0 2, 1), (oC 30, 2)] (by decide +kernel) rfl rfl ?_
    refine g_ige (off := 17) (tgt := 24) (pc2 := 10) (by decide +kernel) (by decide) rfl ?_ ?_
    · refine g_seg0 (pc' := 25) (L' := [some (vI v0), some (vI v1), some (vI v2)]) (st' := [vI v1]) (u1 := u) [(oL 0 1, 1)] (by decide +kernel) rfl rfl ?_
      exact g_iret (by decide +kernel) rfl
    · refine g_seg0 (pc' := 21) (L' := [some (vI v0), some (vI (v1 + ((v0 >>> (v2 &&& 31)) &&& 1))), some (vI (v2 + 1))]) (st' := []) (u1 := u) [(oL 0 1, 1), (oL 0 0, 1), (oL 0 2, 1), (oP .ishr, 1), (oC 1, 1), (oP .iand, 1), (oP .iadd, 1), (oL 3 1, 1), (oN 2 1, 3)] (by decide +kernel) rfl rfl ?_
      refine g_goto (off := (-17)) (tgt := 4) (by decide +kernel) (by decide) ?_
      exact ih v0 (v1 + ((v0 >>> (v2 &&& 31)) &&& 1)) (v2 + 1) u
def fX10_bits (v0 : Int32) (u : ab_S) : Option (Int32 × ab_S) :=
  fX10_bits_4 fu v0 0 0 u
theorem tX10_bits (v0 : Int32) (u : ab_S) : ab_G 1 9 cX10_bits (some .int) 0 0 [some (vI v0), none, none] [] u wI (fX10_bits v0 u) := by
  rw [fX10_bits]
  refine g_seg0 (pc' := 4) (L' := [some (vI v0), some (vI 0), some (vI 0)]) (st' := []) (u1 := u) [(oC 0, 1), (oL 3 1, 1), (oC 0, 1), (oL 3 2, 1)] (by decide +kernel) rfl rfl ?_
  exact tX10_bits_4 fu v0 0 0 u
theorem CX10_bits (v0 : Int32) (u : ab_S) : ab_C 1 yX10_bits cX10_bits 3 (some .int) 0 [vI v0] u wI (fX10_bits v0 u) := ab_entry (by decide +kernel) rfl (by decide) (by decide) (fun _ => Nat.le_of_ble_eq_true rfl) rfl (tX10_bits v0 u)
def fX10_heldBy_5 : Nat → Int32 → Int32 → Int32 → Int32 → ab_S → Option (Int32 × ab_S)
  | 0, _, _, _, _, _ => none
  | n + 1, v1, v2, v3, v4, u =>
  (fX10_goods u).bind fun q1 =>
    bif decide (v4 < q1.1) then (
      ab_gd [ab_ix ((v1 + 2) + v4) 1081] (
        bif decide ((q1.2.1 16 (nc ((v1 + 2) + v4))) = v2) then (
          (fX10_heldBy_5 n) v1 v2 (v3 ||| ((1 : Int32) <<< (v4 &&& 31))) (v4 + 1) q1.2)
        else (
          (fX10_heldBy_5 n) v1 v2 (v3 ||| 0) (v4 + 1) q1.2)))
    else (
      some (v3, q1.2))
theorem tX10_heldBy_5 : ∀ (n : Nat) (v1 : Int32) (v2 : Int32) (v3 : Int32) (v4 : Int32) (u : ab_S), ab_G 1 9 cX10_heldBy (some .int) 1 5 [some (vR (kO 9) 0), some (vI v1), some (vI v2), some (vI v3), some (vI v4)] [] u wI (fX10_heldBy_5 n v1 v2 v3 v4 u) := by
  intro n
  induction n with
  | zero => intros; exact g_none
  | succ n ih =>
    intro v1 v2 v3 v4 u
    rw [fX10_heldBy_5]
    refine g_seg0 (pc' := 8) (L' := [some (vR (kO 9) 0), some (vI v1), some (vI v2), some (vI v3), some (vI v4)]) (st' := [vR (kO 9) 0, vI v4]) (u1 := u) [(oL 0 4, 2), (oL 2 0, 1)] (by decide +kernel) rfl rfl ?_
    refine g_callV (k := 291) (pc2 := 11) (st := [vI v4]) (CX10_goods u) miX10_goods mvX10_goods rfl (by decide) lk9_291 wI_ok (by decide +kernel) rfl (Nat.le_of_ble_eq_true rfl) (by decide) rfl (fun q1 hq1 => ?_)
    refine g_ige (off := 35) (tgt := 46) (pc2 := 14) (by decide +kernel) (by decide) rfl ?_ ?_
    · refine g_seg0 (pc' := 47) (L' := [some (vR (kO 9) 0), some (vI v1), some (vI v2), some (vI v3), some (vI v4)]) (st' := [vI v3]) (u1 := q1.2) [(oL 0 3, 1)] (by decide +kernel) rfl rfl ?_
      exact g_iret (by decide +kernel) rfl
    · refine g_seg (pc' := 27) (L' := [some (vR (kO 9) 0), some (vI v1), some (vI v2), some (vI v3), some (vI v4)]) (st' := [vI v2, vI (q1.2.1 16 (nc ((v1 + 2) + v4))), vI v3]) (u1 := q1.2) [(oL 0 3, 1), (oL 2 0, 1), (oP (.getfield 113), 3), (oL 0 1, 1), (oC 2, 1), (oP .iadd, 1), (oL 0 4, 2), (oP .iadd, 1), (oP .iaload, 1), (oL 0 2, 1)] (by decide +kernel) rfl rfl ?_
      refine g_ine (off := 10) (tgt := 37) (pc2 := 30) (by decide +kernel) (by decide) rfl ?_ ?_
      · refine g_seg0 (pc' := 43) (L' := [some (vR (kO 9) 0), some (vI v1), some (vI v2), some (vI (v3 ||| 0)), some (vI (v4 + 1))]) (st' := []) (u1 := q1.2) [(oC 0, 1), (oP .ior, 1), (oL 3 3, 1), (oN 4 1, 3)] (by decide +kernel) rfl rfl ?_
        refine g_goto (off := (-38)) (tgt := 5) (by decide +kernel) (by decide) ?_
        exact ih v1 v2 (v3 ||| 0) (v4 + 1) q1.2
      · refine g_seg0 (pc' := 34) (L' := [some (vR (kO 9) 0), some (vI v1), some (vI v2), some (vI v3), some (vI v4)]) (st' := [vI ((1 : Int32) <<< (v4 &&& 31)), vI v3]) (u1 := q1.2) [(oC 1, 1), (oL 0 4, 2), (oP .ishl, 1)] (by decide +kernel) rfl rfl ?_
        refine g_goto (off := 4) (tgt := 38) (by decide +kernel) (by decide) ?_
        refine g_seg0 (pc' := 43) (L' := [some (vR (kO 9) 0), some (vI v1), some (vI v2), some (vI (v3 ||| ((1 : Int32) <<< (v4 &&& 31)))), some (vI (v4 + 1))]) (st' := []) (u1 := q1.2) [(oP .ior, 1), (oL 3 3, 1), (oN 4 1, 3)] (by decide +kernel) rfl rfl ?_
        refine g_goto (off := (-38)) (tgt := 5) (by decide +kernel) (by decide) ?_
        exact ih v1 v2 (v3 ||| ((1 : Int32) <<< (v4 &&& 31))) (v4 + 1) q1.2
def fX10_heldBy (v1 : Int32) (v2 : Int32) (u : ab_S) : Option (Int32 × ab_S) :=
  fX10_heldBy_5 fu v1 v2 0 0 u
theorem tX10_heldBy (v1 : Int32) (v2 : Int32) (u : ab_S) : ab_G 1 9 cX10_heldBy (some .int) 1 0 [some (vR (kO 9) 0), some (vI v1), some (vI v2), none, none] [] u wI (fX10_heldBy v1 v2 u) := by
  rw [fX10_heldBy]
  refine g_seg0 (pc' := 5) (L' := [some (vR (kO 9) 0), some (vI v1), some (vI v2), some (vI 0), some (vI 0)]) (st' := []) (u1 := u) [(oC 0, 1), (oL 3 3, 1), (oC 0, 1), (oL 3 4, 2)] (by decide +kernel) rfl rfl ?_
  exact tX10_heldBy_5 fu v1 v2 0 0 u
theorem CX10_heldBy (v1 : Int32) (v2 : Int32) (u : ab_S) : ab_C 1 yX10_heldBy cX10_heldBy 5 (some .int) 1 [vR (kO 9) 0, vI v1, vI v2] u wI (fX10_heldBy v1 v2 u) := ab_entry (by decide +kernel) rfl (by decide) (by decide) (fun _ => Nat.le_of_ble_eq_true rfl) rfl (tX10_heldBy v1 v2 u)
def fX10_fitBy_95 (s0 : Int32) (u : ab_S) : Option (Int32 × ab_S) :=
  bif decide (s0 < 0) then (
    some (0, u))
  else (
    bif decide (s0 ≤ 99) then (
      some (s0, u))
    else (
      some (99, u)))
theorem tX10_fitBy_95 (s0 : Int32) (u : ab_S) : ab_G 1 9 cX10_fitBy (some .int) 2 95 [none, none, none, none, none] [vI s0] u wI (fX10_fitBy_95 s0 u) := by
  rw [fX10_fitBy_95]
  refine g_seg0 (pc' := 99) (L' := [none, none, none, none, some (vI s0)]) (st' := [vI s0]) (u1 := u) [(oL 3 4, 2), (oL 0 4, 2)] (by decide +kernel) rfl rfl ?_
  refine g_zge (off := 7) (tgt := 106) (pc2 := 102) (by decide +kernel) (by decide) rfl ?_ ?_
  · refine g_seg0 (pc' := 110) (L' := [none, none, none, none, some (vI s0)]) (st' := [vI 99, vI s0]) (u1 := u) [(oL 0 4, 2), (oC 99, 2)] (by decide +kernel) rfl rfl ?_
    refine g_ile (off := 8) (tgt := 118) (pc2 := 113) (by decide +kernel) (by decide) rfl ?_ ?_
    · refine g_seg0 (pc' := 120) (L' := [none, none, none, none, some (vI s0)]) (st' := [vI s0]) (u1 := u) [(oL 0 4, 2)] (by decide +kernel) rfl rfl ?_
      exact g_iret (by decide +kernel) rfl
    · refine g_seg0 (pc' := 115) (L' := [none, none, none, none, some (vI s0)]) (st' := [vI 99]) (u1 := u) [(oC 99, 2)] (by decide +kernel) rfl rfl ?_
      refine g_goto (off := 5) (tgt := 120) (by decide +kernel) (by decide) ?_
      exact g_iret (by decide +kernel) rfl
  · refine g_seg0 (pc' := 103) (L' := [none, none, none, none, some (vI s0)]) (st' := [vI 0]) (u1 := u) [(oC 0, 1)] (by decide +kernel) rfl rfl ?_
    refine g_goto (off := 17) (tgt := 120) (by decide +kernel) (by decide) ?_
    exact g_iret (by decide +kernel) rfl
def fX10_fitBy_32 (v1 : Int32) (v2 : Int32) (v3 : Int32) (s1 : Int32) (s2 : Int32) (u : ab_S) : Option (Int32 × ab_S) :=
  ab_gd [ab_ix s1 4, ab_ix ((32 + (8 * v1)) + v2) 180, ab_ix 2 4, ab_ix 3 4, ab_ix 3 180] (
    bif decide (((sI (sI (sI u 14 (nc s1) s2) 14 (nc 2) ((sI u 14 (nc s1) s2).1 6 (nc ((32 + (8 * v1)) + v2)))) 14 (nc 3) v3).1 6 (nc 3)) < 0) then (
      ab_gd [ab_ix 0 4, ab_ix 2 4] (
        fX10_fitBy_95 (((sI (sI (sI u 14 (nc s1) s2) 14 (nc 2) ((sI u 14 (nc s1) s2).1 6 (nc ((32 + (8 * v1)) + v2)))) 14 (nc 3) v3).1 14 (nc 0)) + ((sI (sI (sI u 14 (nc s1) s2) 14 (nc 2) ((sI u 14 (nc s1) s2).1 6 (nc ((32 + (8 * v1)) + v2)))) 14 (nc 3) v3).1 14 (nc 2))) (sI (sI (sI u 14 (nc s1) s2) 14 (nc 2) ((sI u 14 (nc s1) s2).1 6 (nc ((32 + (8 * v1)) + v2)))) 14 (nc 3) v3)))
    else (
      ab_gd [ab_ix 3 180] (
        (fX10_worthAt ((sI (sI (sI u 14 (nc s1) s2) 14 (nc 2) ((sI u 14 (nc s1) s2).1 6 (nc ((32 + (8 * v1)) + v2)))) 14 (nc 3) v3).1 6 (nc 3)) (sI (sI (sI u 14 (nc s1) s2) 14 (nc 2) ((sI u 14 (nc s1) s2).1 6 (nc ((32 + (8 * v1)) + v2)))) 14 (nc 3) v3)).bind fun q1 =>
          fX10_fitBy_95 q1.1 q1.2)))
theorem tX10_fitBy_32 (v1 : Int32) (v2 : Int32) (v3 : Int32) (s1 : Int32) (s2 : Int32) (u : ab_S) : ab_G 1 9 cX10_fitBy (some .int) 2 32 [some (vR (kO 9) 0), some (vI v1), some (vI v2), some (vI v3), none] [vI s2, vI s1, vR (kA 0 4) 14] u wI (fX10_fitBy_32 v1 v2 v3 s1 s2 u) := by
  rw [fX10_fitBy_32]
  refine g_seg (pc' := 66) (L' := [some (vR (kO 9) 0), some (vI v1), some (vI v2), some (vI v3), none]) (st' := [vI ((sI (sI (sI u 14 (nc s1) s2) 14 (nc 2) ((sI u 14 (nc s1) s2).1 6 (nc ((32 + (8 * v1)) + v2)))) 14 (nc 3) v3).1 6 (nc 3))]) (u1 := (sI (sI (sI u 14 (nc s1) s2) 14 (nc 2) ((sI u 14 (nc s1) s2).1 6 (nc ((32 + (8 * v1)) + v2)))) 14 (nc 3) v3)) [(oP .iastore, 1), (oL 2 0, 1), (oP (.getfield 107), 3), (oC 2, 1), (oL 2 0, 1), (oP (.getfield 83), 3), (oC 32, 2), (oC 8, 2), (oL 0 1, 1), (oP .imul, 1), (oP .iadd, 1), (oL 0 2, 1), (oP .iadd, 1), (oP .iaload, 1), (oP .iastore, 1), (oL 2 0, 1), (oP (.getfield 107), 3), (oC 3, 1), (oL 0 3, 1), (oP .iastore, 1), (oL 2 0, 1), (oP (.getfield 83), 3), (oC 3, 1), (oP .iaload, 1)] (by decide +kernel) rfl rfl ?_
  refine g_zge (off := 19) (tgt := 85) (pc2 := 69) (by decide +kernel) (by decide) rfl ?_ ?_
  · refine g_seg (pc' := 92) (L' := [some (vR (kO 9) 0), some (vI v1), some (vI v2), some (vI v3), none]) (st' := [vI ((sI (sI (sI u 14 (nc s1) s2) 14 (nc 2) ((sI u 14 (nc s1) s2).1 6 (nc ((32 + (8 * v1)) + v2)))) 14 (nc 3) v3).1 6 (nc 3)), vR (kO 9) 0]) (u1 := (sI (sI (sI u 14 (nc s1) s2) 14 (nc 2) ((sI u 14 (nc s1) s2).1 6 (nc ((32 + (8 * v1)) + v2)))) 14 (nc 3) v3)) [(oL 2 0, 1), (oL 2 0, 1), (oP (.getfield 83), 3), (oC 3, 1), (oP .iaload, 1)] (by decide +kernel) rfl rfl ?_
    refine g_callV (k := 297) (pc2 := 95) (st := []) (CX10_worthAt ((sI (sI (sI u 14 (nc s1) s2) 14 (nc 2) ((sI u 14 (nc s1) s2).1 6 (nc ((32 + (8 * v1)) + v2)))) 14 (nc 3) v3).1 6 (nc 3)) (sI (sI (sI u 14 (nc s1) s2) 14 (nc 2) ((sI u 14 (nc s1) s2).1 6 (nc ((32 + (8 * v1)) + v2)))) 14 (nc 3) v3)) miX10_worthAt mvX10_worthAt rfl (by decide) lk9_297 wI_ok (by decide +kernel) rfl (Nat.le_of_ble_eq_true rfl) (by decide) rfl (fun q1 hq1 => ?_)
    exact g_jump [false, false, false, false, false] rfl (tX10_fitBy_95 q1.1 q1.2)
  · refine g_seg (pc' := 82) (L' := [some (vR (kO 9) 0), some (vI v1), some (vI v2), some (vI v3), none]) (st' := [vI (((sI (sI (sI u 14 (nc s1) s2) 14 (nc 2) ((sI u 14 (nc s1) s2).1 6 (nc ((32 + (8 * v1)) + v2)))) 14 (nc 3) v3).1 14 (nc 0)) + ((sI (sI (sI u 14 (nc s1) s2) 14 (nc 2) ((sI u 14 (nc s1) s2).1 6 (nc ((32 + (8 * v1)) + v2)))) 14 (nc 3) v3).1 14 (nc 2)))]) (u1 := (sI (sI (sI u 14 (nc s1) s2) 14 (nc 2) ((sI u 14 (nc s1) s2).1 6 (nc ((32 + (8 * v1)) + v2)))) 14 (nc 3) v3)) [(oL 2 0, 1), (oP (.getfield 107), 3), (oC 0, 1), (oP .iaload, 1), (oL 2 0, 1), (oP (.getfield 107), 3), (oC 2, 1), (oP .iaload, 1), (oP .iadd, 1)] (by decide +kernel) rfl rfl ?_
    refine g_goto (off := 13) (tgt := 95) (by decide +kernel) (by decide) ?_
    exact g_jump [false, false, false, false, false] rfl (tX10_fitBy_95 (((sI (sI (sI u 14 (nc s1) s2) 14 (nc 2) ((sI u 14 (nc s1) s2).1 6 (nc ((32 + (8 * v1)) + v2)))) 14 (nc 3) v3).1 14 (nc 0)) + ((sI (sI (sI u 14 (nc s1) s2) 14 (nc 2) ((sI u 14 (nc s1) s2).1 6 (nc ((32 + (8 * v1)) + v2)))) 14 (nc 3) v3).1 14 (nc 2))) (sI (sI (sI u 14 (nc s1) s2) 14 (nc 2) ((sI u 14 (nc s1) s2).1 6 (nc ((32 + (8 * v1)) + v2)))) 14 (nc 3) v3))
def fX10_fitBy (v1 : Int32) (v2 : Int32) (v3 : Int32) (u : ab_S) : Option (Int32 × ab_S) :=
  (fX10_goodOf v2 0 u).bind fun q2 =>
    ab_gd [ab_ix 0 4] (
      (fX10_goodOf v2 1 (sI q2.2 14 (nc 0) q2.1)).bind fun q3 =>
        bif decide (q3.1 = v1) then (
          fX10_fitBy_32 v1 v2 v3 1 1 q3.2)
        else (
          fX10_fitBy_32 v1 v2 v3 1 0 q3.2))
theorem tX10_fitBy (v1 : Int32) (v2 : Int32) (v3 : Int32) (u : ab_S) : ab_G 1 9 cX10_fitBy (some .int) 2 0 [some (vR (kO 9) 0), some (vI v1), some (vI v2), some (vI v3), none] [] u wI (fX10_fitBy v1 v2 v3 u) := by
  rw [fX10_fitBy]
  refine g_seg0 (pc' := 8) (L' := [some (vR (kO 9) 0), some (vI v1), some (vI v2), some (vI v3), none]) (st' := [vI 0, vI v2, vR (kO 9) 0, vI 0, vR (kA 0 4) 14]) (u1 := u) [(oL 2 0, 1), (oP (.getfield 107), 3), (oC 0, 1), (oL 2 0, 1), (oL 0 2, 1), (oC 0, 1)] (by decide +kernel) rfl rfl ?_
  refine g_callV (k := 294) (pc2 := 11) (st := [vI 0, vR (kA 0 4) 14]) (CX10_goodOf v2 0 u) miX10_goodOf mvX10_goodOf rfl (by decide) lk9_294 wI_ok (by decide +kernel) rfl (Nat.le_of_ble_eq_true rfl) (by decide) rfl (fun q2 hq2 => ?_)
  refine g_seg (pc' := 20) (L' := [some (vR (kO 9) 0), some (vI v1), some (vI v2), some (vI v3), none]) (st' := [vI 1, vI v2, vR (kO 9) 0, vI 1, vR (kA 0 4) 14]) (u1 := (sI q2.2 14 (nc 0) q2.1)) [(oP .iastore, 1), (oL 2 0, 1), (oP (.getfield 107), 3), (oC 1, 1), (oL 2 0, 1), (oL 0 2, 1), (oC 1, 1)] (by decide +kernel) rfl rfl ?_
  refine g_callV (k := 294) (pc2 := 23) (st := [vI 1, vR (kA 0 4) 14]) (CX10_goodOf v2 1 (sI q2.2 14 (nc 0) q2.1)) miX10_goodOf mvX10_goodOf rfl (by decide) lk9_294 wI_ok (by decide +kernel) rfl (Nat.le_of_ble_eq_true rfl) (by decide) rfl (fun q3 hq3 => ?_)
  refine g_seg0 (pc' := 24) (L' := [some (vR (kO 9) 0), some (vI v1), some (vI v2), some (vI v3), none]) (st' := [vI v1, vI (q3.1), vI 1, vR (kA 0 4) 14]) (u1 := q3.2) [(oL 0 1, 1)] (by decide +kernel) rfl rfl ?_
  refine g_ine (off := 7) (tgt := 31) (pc2 := 27) (by decide +kernel) (by decide) rfl ?_ ?_
  · refine g_seg0 (pc' := 32) (L' := [some (vR (kO 9) 0), some (vI v1), some (vI v2), some (vI v3), none]) (st' := [vI 0, vI 1, vR (kA 0 4) 14]) (u1 := q3.2) [(oC 0, 1)] (by decide +kernel) rfl rfl ?_
    exact tX10_fitBy_32 v1 v2 v3 1 0 q3.2
  · refine g_seg0 (pc' := 28) (L' := [some (vR (kO 9) 0), some (vI v1), some (vI v2), some (vI v3), none]) (st' := [vI 1, vI 1, vR (kA 0 4) 14]) (u1 := q3.2) [(oC 1, 1)] (by decide +kernel) rfl rfl ?_
    refine g_goto (off := 4) (tgt := 32) (by decide +kernel) (by decide) ?_
    exact tX10_fitBy_32 v1 v2 v3 1 1 q3.2
theorem CX10_fitBy (v1 : Int32) (v2 : Int32) (v3 : Int32) (u : ab_S) : ab_C 1 yX10_fitBy cX10_fitBy 5 (some .int) 2 [vR (kO 9) 0, vI v1, vI v2, vI v3] u wI (fX10_fitBy v1 v2 v3 u) := ab_entry (by decide +kernel) rfl (by decide) (by decide) (fun _ => Nat.le_of_ble_eq_true rfl) rfl (tX10_fitBy v1 v2 v3 u)
def fX10_fitOf (v1 : Int32) (v2 : Int32) (v3 : Int32) (u : ab_S) : Option (Int32 × ab_S) :=
  (fX10_heldBy v1 v2 u).bind fun q1 =>
    (fX10_bits (q1.1 &&& (((1 : Int32) <<< (v3 &&& 31)) ^^^ (-1))) q1.2).bind fun q2 =>
      (fX10_fitBy v2 v3 q2.1 q2.2).bind fun q3 =>
        some (q3.1, q3.2)
theorem tX10_fitOf (v1 : Int32) (v2 : Int32) (v3 : Int32) (u : ab_S) : ab_G 1 9 cX10_fitOf (some .int) 3 0 [some (vR (kO 9) 0), some (vI v1), some (vI v2), some (vI v3)] [] u wI (fX10_fitOf v1 v2 v3 u) := by
  rw [fX10_fitOf]
  refine g_seg0 (pc' := 6) (L' := [some (vR (kO 9) 0), some (vI v1), some (vI v2), some (vI v3)]) (st' := [vI v2, vI v1, vR (kO 9) 0, vI v3, vI v2, vR (kO 9) 0]) (u1 := u) [(oL 2 0, 1), (oL 0 2, 1), (oL 0 3, 1), (oL 2 0, 1), (oL 0 1, 1), (oL 0 2, 1)] (by decide +kernel) rfl rfl ?_
  refine g_callV (k := 300) (pc2 := 9) (st := [vI v3, vI v2, vR (kO 9) 0]) (CX10_heldBy v1 v2 u) miX10_heldBy mvX10_heldBy rfl (by decide) lk9_300 wI_ok (by decide +kernel) rfl (Nat.le_of_ble_eq_true rfl) (by decide) rfl (fun q1 hq1 => ?_)
  refine g_seg0 (pc' := 15) (L' := [some (vR (kO 9) 0), some (vI v1), some (vI v2), some (vI v3)]) (st' := [vI (q1.1 &&& (((1 : Int32) <<< (v3 &&& 31)) ^^^ (-1))), vI v3, vI v2, vR (kO 9) 0]) (u1 := q1.2) [(oC 1, 1), (oL 0 3, 1), (oP .ishl, 1), (oC (-1), 1), (oP .ixor, 1), (oP .iand, 1)] (by decide +kernel) rfl rfl ?_
  refine g_callS (k := 303) (pc2 := 18) (st := [vI v3, vI v2, vR (kO 9) 0]) (CX10_bits (q1.1 &&& (((1 : Int32) <<< (v3 &&& 31)) ^^^ (-1))) q1.2) miX10_bits msX10_bits lk9_303 wI_ok (by decide +kernel) rfl (Nat.le_of_ble_eq_true rfl) (by decide) rfl (fun q2 hq2 => ?_)
  refine g_callV (k := 306) (pc2 := 21) (st := []) (CX10_fitBy v2 v3 q2.1 q2.2) miX10_fitBy mvX10_fitBy rfl (by decide) lk9_306 wI_ok (by decide +kernel) rfl (Nat.le_of_ble_eq_true rfl) (by decide) rfl (fun q3 hq3 => ?_)
  exact g_iret (by decide +kernel) rfl
theorem CX10_fitOf (v1 : Int32) (v2 : Int32) (v3 : Int32) (u : ab_S) : ab_C 1 yX10_fitOf cX10_fitOf 4 (some .int) 3 [vR (kO 9) 0, vI v1, vI v2, vI v3] u wI (fX10_fitOf v1 v2 v3 u) := ab_entry (by decide +kernel) rfl (by decide) (by decide) (fun _ => Nat.le_of_ble_eq_true rfl) rfl (tX10_fitOf v1 v2 v3 u)
def fX10_fitOfAll_6 : Nat → Int32 → Int32 → Int32 → Int32 → Int32 → ab_S → Option (Int32 × ab_S)
  | 0, _, _, _, _, _, _ => none
  | n + 1, v1, v2, v3, v4, v5, u =>
  (fX10_goods u).bind fun q1 =>
    bif decide (v5 < q1.1) then (
      bif decide (((v2 >>> (v5 &&& 31)) &&& 1) = 1) then (
        (fX10_fitBy v1 v5 v3 q1.2).bind fun q2 =>
          (fX10_fitOfAll_6 n) v1 v2 v3 (v4 + q2.1) (v5 + 1) q2.2)
      else (
        (fX10_fitOfAll_6 n) v1 v2 v3 (v4 + 0) (v5 + 1) q1.2))
    else (
      some (v4, q1.2))
theorem tX10_fitOfAll_6 : ∀ (n : Nat) (v1 : Int32) (v2 : Int32) (v3 : Int32) (v4 : Int32) (v5 : Int32) (u : ab_S), ab_G 1 9 cX10_fitOfAll (some .int) 3 6 [some (vR (kO 9) 0), some (vI v1), some (vI v2), some (vI v3), some (vI v4), some (vI v5)] [] u wI (fX10_fitOfAll_6 n v1 v2 v3 v4 v5 u) := by
  intro n
  induction n with
  | zero => intros; exact g_none
  | succ n ih =>
    intro v1 v2 v3 v4 v5 u
    rw [fX10_fitOfAll_6]
    refine g_seg0 (pc' := 9) (L' := [some (vR (kO 9) 0), some (vI v1), some (vI v2), some (vI v3), some (vI v4), some (vI v5)]) (st' := [vR (kO 9) 0, vI v5]) (u1 := u) [(oL 0 5, 2), (oL 2 0, 1)] (by decide +kernel) rfl rfl ?_
    refine g_callV (k := 291) (pc2 := 12) (st := [vI v5]) (CX10_goods u) miX10_goods mvX10_goods rfl (by decide) lk9_291 wI_ok (by decide +kernel) rfl (Nat.le_of_ble_eq_true rfl) (by decide) rfl (fun q1 hq1 => ?_)
    refine g_ige (off := 36) (tgt := 48) (pc2 := 15) (by decide +kernel) (by decide) rfl ?_ ?_
    · refine g_seg0 (pc' := 50) (L' := [some (vR (kO 9) 0), some (vI v1), some (vI v2), some (vI v3), some (vI v4), some (vI v5)]) (st' := [vI v4]) (u1 := q1.2) [(oL 0 4, 2)] (by decide +kernel) rfl rfl ?_
      exact g_iret (by decide +kernel) rfl
    · refine g_seg0 (pc' := 24) (L' := [some (vR (kO 9) 0), some (vI v1), some (vI v2), some (vI v3), some (vI v4), some (vI v5)]) (st' := [vI 1, vI ((v2 >>> (v5 &&& 31)) &&& 1), vI v4]) (u1 := q1.2) [(oL 0 4, 2), (oL 0 2, 1), (oL 0 5, 2), (oP .ishr, 1), (oC 1, 1), (oP .iand, 1), (oC 1, 1)] (by decide +kernel) rfl rfl ?_
      refine g_ine (off := 14) (tgt := 38) (pc2 := 27) (by decide +kernel) (by decide) rfl ?_ ?_
      · refine g_seg0 (pc' := 45) (L' := [some (vR (kO 9) 0), some (vI v1), some (vI v2), some (vI v3), some (vI (v4 + 0)), some (vI (v5 + 1))]) (st' := []) (u1 := q1.2) [(oC 0, 1), (oP .iadd, 1), (oL 3 4, 2), (oN 5 1, 3)] (by decide +kernel) rfl rfl ?_
        refine g_goto (off := (-39)) (tgt := 6) (by decide +kernel) (by decide) ?_
        exact ih v1 v2 v3 (v4 + 0) (v5 + 1) q1.2
      · refine g_seg0 (pc' := 32) (L' := [some (vR (kO 9) 0), some (vI v1), some (vI v2), some (vI v3), some (vI v4), some (vI v5)]) (st' := [vI v3, vI v5, vI v1, vR (kO 9) 0, vI v4]) (u1 := q1.2) [(oL 2 0, 1), (oL 0 1, 1), (oL 0 5, 2), (oL 0 3, 1)] (by decide +kernel) rfl rfl ?_
        refine g_callV (k := 306) (pc2 := 35) (st := [vI v4]) (CX10_fitBy v1 v5 v3 q1.2) miX10_fitBy mvX10_fitBy rfl (by decide) lk9_306 wI_ok (by decide +kernel) rfl (Nat.le_of_ble_eq_true rfl) (by decide) rfl (fun q2 hq2 => ?_)
        refine g_goto (off := 4) (tgt := 39) (by decide +kernel) (by decide) ?_
        refine g_seg0 (pc' := 45) (L' := [some (vR (kO 9) 0), some (vI v1), some (vI v2), some (vI v3), some (vI (v4 + q2.1)), some (vI (v5 + 1))]) (st' := []) (u1 := q2.2) [(oP .iadd, 1), (oL 3 4, 2), (oN 5 1, 3)] (by decide +kernel) rfl rfl ?_
        refine g_goto (off := (-39)) (tgt := 6) (by decide +kernel) (by decide) ?_
        exact ih v1 v2 v3 (v4 + q2.1) (v5 + 1) q2.2
def fX10_fitOfAll (v1 : Int32) (v2 : Int32) (v3 : Int32) (u : ab_S) : Option (Int32 × ab_S) :=
  fX10_fitOfAll_6 fu v1 v2 v3 0 0 u
theorem tX10_fitOfAll (v1 : Int32) (v2 : Int32) (v3 : Int32) (u : ab_S) : ab_G 1 9 cX10_fitOfAll (some .int) 3 0 [some (vR (kO 9) 0), some (vI v1), some (vI v2), some (vI v3), none, none] [] u wI (fX10_fitOfAll v1 v2 v3 u) := by
  rw [fX10_fitOfAll]
  refine g_seg0 (pc' := 6) (L' := [some (vR (kO 9) 0), some (vI v1), some (vI v2), some (vI v3), some (vI 0), some (vI 0)]) (st' := []) (u1 := u) [(oC 0, 1), (oL 3 4, 2), (oC 0, 1), (oL 3 5, 2)] (by decide +kernel) rfl rfl ?_
  exact tX10_fitOfAll_6 fu v1 v2 v3 0 0 u
theorem CX10_fitOfAll (v1 : Int32) (v2 : Int32) (v3 : Int32) (u : ab_S) : ab_C 1 yX10_fitOfAll cX10_fitOfAll 6 (some .int) 3 [vR (kO 9) 0, vI v1, vI v2, vI v3] u wI (fX10_fitOfAll v1 v2 v3 u) := ab_entry (by decide +kernel) rfl (by decide) (by decide) (fun _ => Nat.le_of_ble_eq_true rfl) rfl (tX10_fitOfAll v1 v2 v3 u)
def fX10_joyOf (v1 : Int32) (v2 : Int32) (u : ab_S) : Option (Int32 × ab_S) :=
  (fX10_heldBy v1 v2 u).bind fun q1 =>
    (fX10_bits q1.1 q1.2).bind fun q2 =>
      (fX10_fitOfAll v2 q1.1 (q2.1 - 1) q2.2).bind fun q3 =>
        some (q3.1, q3.2)
theorem tX10_joyOf (v1 : Int32) (v2 : Int32) (u : ab_S) : ab_G 1 9 cX10_joyOf (some .int) 4 0 [some (vR (kO 9) 0), some (vI v1), some (vI v2), none] [] u wI (fX10_joyOf v1 v2 u) := by
  rw [fX10_joyOf]
  refine g_seg0 (pc' := 3) (L' := [some (vR (kO 9) 0), some (vI v1), some (vI v2), none]) (st' := [vI v2, vI v1, vR (kO 9) 0]) (u1 := u) [(oL 2 0, 1), (oL 0 1, 1), (oL 0 2, 1)] (by decide +kernel) rfl rfl ?_
  refine g_callV (k := 300) (pc2 := 6) (st := []) (CX10_heldBy v1 v2 u) miX10_heldBy mvX10_heldBy rfl (by decide) lk9_300 wI_ok (by decide +kernel) rfl (Nat.le_of_ble_eq_true rfl) (by decide) rfl (fun q1 hq1 => ?_)
  refine g_seg0 (pc' := 11) (L' := [some (vR (kO 9) 0), some (vI v1), some (vI v2), some (vI (q1.1))]) (st' := [vI (q1.1), vI (q1.1), vI v2, vR (kO 9) 0]) (u1 := q1.2) [(oL 3 3, 1), (oL 2 0, 1), (oL 0 2, 1), (oL 0 3, 1), (oL 0 3, 1)] (by decide +kernel) rfl rfl ?_
  refine g_callS (k := 303) (pc2 := 14) (st := [vI (q1.1), vI v2, vR (kO 9) 0]) (CX10_bits q1.1 q1.2) miX10_bits msX10_bits lk9_303 wI_ok (by decide +kernel) rfl (Nat.le_of_ble_eq_true rfl) (by decide) rfl (fun q2 hq2 => ?_)
  refine g_seg0 (pc' := 16) (L' := [some (vR (kO 9) 0), some (vI v1), some (vI v2), some (vI (q1.1))]) (st' := [vI (q2.1 - 1), vI (q1.1), vI v2, vR (kO 9) 0]) (u1 := q2.2) [(oC 1, 1), (oP .isub, 1)] (by decide +kernel) rfl rfl ?_
  refine g_callV (k := 309) (pc2 := 19) (st := []) (CX10_fitOfAll v2 q1.1 (q2.1 - 1) q2.2) miX10_fitOfAll mvX10_fitOfAll rfl (by decide) lk9_309 wI_ok (by decide +kernel) rfl (Nat.le_of_ble_eq_true rfl) (by decide) rfl (fun q3 hq3 => ?_)
  exact g_iret (by decide +kernel) rfl
theorem CX10_joyOf (v1 : Int32) (v2 : Int32) (u : ab_S) : ab_C 1 yX10_joyOf cX10_joyOf 4 (some .int) 4 [vR (kO 9) 0, vI v1, vI v2] u wI (fX10_joyOf v1 v2 u) := ab_entry (by decide +kernel) rfl (by decide) (by decide) (fun _ => Nat.le_of_ble_eq_true rfl) rfl (tX10_joyOf v1 v2 u)
def fX10_joyOfAll_4 : Nat → Int32 → Int32 → Int32 → ab_S → Option (Int32 × ab_S)
  | 0, _, _, _, _ => none
  | n + 1, v1, v2, v3, u =>
  (fX10_persons u).bind fun q1 =>
    bif decide (v3 < q1.1) then (
      (fX10_joyOf v1 v3 q1.2).bind fun q2 =>
        (fX10_joyOfAll_4 n) v1 (v2 + q2.1) (v3 + 1) q2.2)
    else (
      some (v2, q1.2))
theorem tX10_joyOfAll_4 : ∀ (n : Nat) (v1 : Int32) (v2 : Int32) (v3 : Int32) (u : ab_S), ab_G 1 9 cX10_joyOfAll (some .int) 5 4 [some (vR (kO 9) 0), some (vI v1), some (vI v2), some (vI v3)] [] u wI (fX10_joyOfAll_4 n v1 v2 v3 u) := by
  intro n
  induction n with
  | zero => intros; exact g_none
  | succ n ih =>
    intro v1 v2 v3 u
    rw [fX10_joyOfAll_4]
    refine g_seg0 (pc' := 6) (L' := [some (vR (kO 9) 0), some (vI v1), some (vI v2), some (vI v3)]) (st' := [vR (kO 9) 0, vI v3]) (u1 := u) [(oL 0 3, 1), (oL 2 0, 1)] (by decide +kernel) rfl rfl ?_
    refine g_callV (k := 275) (pc2 := 9) (st := [vI v3]) (CX10_persons u) miX10_persons mvX10_persons rfl (by decide) lk9_275 wI_ok (by decide +kernel) rfl (Nat.le_of_ble_eq_true rfl) (by decide) rfl (fun q1 hq1 => ?_)
    refine g_ige (off := 18) (tgt := 27) (pc2 := 12) (by decide +kernel) (by decide) rfl ?_ ?_
    · refine g_seg0 (pc' := 28) (L' := [some (vR (kO 9) 0), some (vI v1), some (vI v2), some (vI v3)]) (st' := [vI v2]) (u1 := q1.2) [(oL 0 2, 1)] (by decide +kernel) rfl rfl ?_
      exact g_iret (by decide +kernel) rfl
    · refine g_seg0 (pc' := 16) (L' := [some (vR (kO 9) 0), some (vI v1), some (vI v2), some (vI v3)]) (st' := [vI v3, vI v1, vR (kO 9) 0, vI v2]) (u1 := q1.2) [(oL 0 2, 1), (oL 2 0, 1), (oL 0 1, 1), (oL 0 3, 1)] (by decide +kernel) rfl rfl ?_
      refine g_callV (k := 312) (pc2 := 19) (st := [vI v2]) (CX10_joyOf v1 v3 q1.2) miX10_joyOf mvX10_joyOf rfl (by decide) lk9_312 wI_ok (by decide +kernel) rfl (Nat.le_of_ble_eq_true rfl) (by decide) rfl (fun q2 hq2 => ?_)
      refine g_seg0 (pc' := 24) (L' := [some (vR (kO 9) 0), some (vI v1), some (vI (v2 + q2.1)), some (vI (v3 + 1))]) (st' := []) (u1 := q2.2) [(oP .iadd, 1), (oL 3 2, 1), (oN 3 1, 3)] (by decide +kernel) rfl rfl ?_
      refine g_goto (off := (-20)) (tgt := 4) (by decide +kernel) (by decide) ?_
      exact ih v1 (v2 + q2.1) (v3 + 1) q2.2
def fX10_joyOfAll (v1 : Int32) (u : ab_S) : Option (Int32 × ab_S) :=
  fX10_joyOfAll_4 fu v1 0 0 u
theorem tX10_joyOfAll (v1 : Int32) (u : ab_S) : ab_G 1 9 cX10_joyOfAll (some .int) 5 0 [some (vR (kO 9) 0), some (vI v1), none, none] [] u wI (fX10_joyOfAll v1 u) := by
  rw [fX10_joyOfAll]
  refine g_seg0 (pc' := 4) (L' := [some (vR (kO 9) 0), some (vI v1), some (vI 0), some (vI 0)]) (st' := []) (u1 := u) [(oC 0, 1), (oL 3 2, 1), (oC 0, 1), (oL 3 3, 1)] (by decide +kernel) rfl rfl ?_
  exact tX10_joyOfAll_4 fu v1 0 0 u
theorem CX10_joyOfAll (v1 : Int32) (u : ab_S) : ab_C 1 yX10_joyOfAll cX10_joyOfAll 4 (some .int) 5 [vR (kO 9) 0, vI v1] u wI (fX10_joyOfAll v1 u) := ab_entry (by decide +kernel) rfl (by decide) (by decide) (fun _ => Nat.le_of_ble_eq_true rfl) rfl (tX10_joyOfAll v1 u)
def fX10_rightsOf_4 : Nat → Int32 → Int32 → Int32 → ab_S → Option (Int32 × ab_S)
  | 0, _, _, _, _ => none
  | n + 1, v1, v2, v3, u =>
  (fX10_goods u).bind fun q1 =>
    bif decide (v3 < q1.1) then (
      ab_gd [ab_ix ((v1 + 2) + v3) 1081] (
        (fX10_goodOf v3 1 q1.2).bind fun q2 =>
          bif decide ((q1.2.1 16 (nc ((v1 + 2) + v3))) = q2.1) then (
            (fX10_rightsOf_4 n) v1 (v2 ||| ((1 : Int32) <<< (v3 &&& 31))) (v3 + 1) q2.2)
          else (
            (fX10_rightsOf_4 n) v1 (v2 ||| 0) (v3 + 1) q2.2)))
    else (
      some (v2, q1.2))
theorem tX10_rightsOf_4 : ∀ (n : Nat) (v1 : Int32) (v2 : Int32) (v3 : Int32) (u : ab_S), ab_G 1 9 cX10_rightsOf (some .int) 1 4 [some (vR (kO 9) 0), some (vI v1), some (vI v2), some (vI v3)] [] u wI (fX10_rightsOf_4 n v1 v2 v3 u) := by
  intro n
  induction n with
  | zero => intros; exact g_none
  | succ n ih =>
    intro v1 v2 v3 u
    rw [fX10_rightsOf_4]
    refine g_seg0 (pc' := 6) (L' := [some (vR (kO 9) 0), some (vI v1), some (vI v2), some (vI v3)]) (st' := [vR (kO 9) 0, vI v3]) (u1 := u) [(oL 0 3, 1), (oL 2 0, 1)] (by decide +kernel) rfl rfl ?_
    refine g_callV (k := 291) (pc2 := 9) (st := [vI v3]) (CX10_goods u) miX10_goods mvX10_goods rfl (by decide) lk9_291 wI_ok (by decide +kernel) rfl (Nat.le_of_ble_eq_true rfl) (by decide) rfl (fun q1 hq1 => ?_)
    refine g_ige (off := 38) (tgt := 47) (pc2 := 12) (by decide +kernel) (by decide) rfl ?_ ?_
    · refine g_seg0 (pc' := 48) (L' := [some (vR (kO 9) 0), some (vI v1), some (vI v2), some (vI v3)]) (st' := [vI v2]) (u1 := q1.2) [(oL 0 2, 1)] (by decide +kernel) rfl rfl ?_
      exact g_iret (by decide +kernel) rfl
    · refine g_seg (pc' := 26) (L' := [some (vR (kO 9) 0), some (vI v1), some (vI v2), some (vI v3)]) (st' := [vI 1, vI v3, vR (kO 9) 0, vI (q1.2.1 16 (nc ((v1 + 2) + v3))), vI v2]) (u1 := q1.2) [(oL 0 2, 1), (oL 2 0, 1), (oP (.getfield 113), 3), (oL 0 1, 1), (oC 2, 1), (oP .iadd, 1), (oL 0 3, 1), (oP .iadd, 1), (oP .iaload, 1), (oL 2 0, 1), (oL 0 3, 1), (oC 1, 1)] (by decide +kernel) rfl rfl ?_
      refine g_callV (k := 294) (pc2 := 29) (st := [vI (q1.2.1 16 (nc ((v1 + 2) + v3))), vI v2]) (CX10_goodOf v3 1 q1.2) miX10_goodOf mvX10_goodOf rfl (by decide) lk9_294 wI_ok (by decide +kernel) rfl (Nat.le_of_ble_eq_true rfl) (by decide) rfl (fun q2 hq2 => ?_)
      refine g_ine (off := 9) (tgt := 38) (pc2 := 32) (by decide +kernel) (by decide) rfl ?_ ?_
      · refine g_seg0 (pc' := 44) (L' := [some (vR (kO 9) 0), some (vI v1), some (vI (v2 ||| 0)), some (vI (v3 + 1))]) (st' := []) (u1 := q2.2) [(oC 0, 1), (oP .ior, 1), (oL 3 2, 1), (oN 3 1, 3)] (by decide +kernel) rfl rfl ?_
        refine g_goto (off := (-40)) (tgt := 4) (by decide +kernel) (by decide) ?_
        exact ih v1 (v2 ||| 0) (v3 + 1) q2.2
      · refine g_seg0 (pc' := 35) (L' := [some (vR (kO 9) 0), some (vI v1), some (vI v2), some (vI v3)]) (st' := [vI ((1 : Int32) <<< (v3 &&& 31)), vI v2]) (u1 := q2.2) [(oC 1, 1), (oL 0 3, 1), (oP .ishl, 1)] (by decide +kernel) rfl rfl ?_
        refine g_goto (off := 4) (tgt := 39) (by decide +kernel) (by decide) ?_
        refine g_seg0 (pc' := 44) (L' := [some (vR (kO 9) 0), some (vI v1), some (vI (v2 ||| ((1 : Int32) <<< (v3 &&& 31)))), some (vI (v3 + 1))]) (st' := []) (u1 := q2.2) [(oP .ior, 1), (oL 3 2, 1), (oN 3 1, 3)] (by decide +kernel) rfl rfl ?_
        refine g_goto (off := (-40)) (tgt := 4) (by decide +kernel) (by decide) ?_
        exact ih v1 (v2 ||| ((1 : Int32) <<< (v3 &&& 31))) (v3 + 1) q2.2
def fX10_rightsOf (v1 : Int32) (u : ab_S) : Option (Int32 × ab_S) :=
  fX10_rightsOf_4 fu v1 0 0 u
theorem tX10_rightsOf (v1 : Int32) (u : ab_S) : ab_G 1 9 cX10_rightsOf (some .int) 1 0 [some (vR (kO 9) 0), some (vI v1), none, none] [] u wI (fX10_rightsOf v1 u) := by
  rw [fX10_rightsOf]
  refine g_seg0 (pc' := 4) (L' := [some (vR (kO 9) 0), some (vI v1), some (vI 0), some (vI 0)]) (st' := []) (u1 := u) [(oC 0, 1), (oL 3 2, 1), (oC 0, 1), (oL 3 3, 1)] (by decide +kernel) rfl rfl ?_
  exact tX10_rightsOf_4 fu v1 0 0 u
theorem CX10_rightsOf (v1 : Int32) (u : ab_S) : ab_C 1 yX10_rightsOf cX10_rightsOf 4 (some .int) 1 [vR (kO 9) 0, vI v1] u wI (fX10_rightsOf v1 u) := ab_entry (by decide +kernel) rfl (by decide) (by decide) (fun _ => Nat.le_of_ble_eq_true rfl) rfl (tX10_rightsOf v1 u)
def fX10_sumOf_4 : Nat → Int32 → Int32 → Int32 → ab_S → Option (Int32 × ab_S)
  | 0, _, _, _, _ => none
  | n + 1, v1, v2, v3, u =>
  (fX10_persons u).bind fun q1 =>
    bif decide (v3 < q1.1) then (
      ab_gd [ab_ix (v1 + v3) 1081] (
        (fX10_sumOf_4 n) v1 (v2 + (q1.2.1 16 (nc (v1 + v3)))) (v3 + 1) q1.2))
    else (
      some (v2, q1.2))
theorem tX10_sumOf_4 : ∀ (n : Nat) (v1 : Int32) (v2 : Int32) (v3 : Int32) (u : ab_S), ab_G 1 9 cX10_sumOf (some .int) 1 4 [some (vR (kO 9) 0), some (vI v1), some (vI v2), some (vI v3)] [] u wI (fX10_sumOf_4 n v1 v2 v3 u) := by
  intro n
  induction n with
  | zero => intros; exact g_none
  | succ n ih =>
    intro v1 v2 v3 u
    rw [fX10_sumOf_4]
    refine g_seg0 (pc' := 6) (L' := [some (vR (kO 9) 0), some (vI v1), some (vI v2), some (vI v3)]) (st' := [vR (kO 9) 0, vI v3]) (u1 := u) [(oL 0 3, 1), (oL 2 0, 1)] (by decide +kernel) rfl rfl ?_
    refine g_callV (k := 275) (pc2 := 9) (st := [vI v3]) (CX10_persons u) miX10_persons mvX10_persons rfl (by decide) lk9_275 wI_ok (by decide +kernel) rfl (Nat.le_of_ble_eq_true rfl) (by decide) rfl (fun q1 hq1 => ?_)
    refine g_ige (off := 20) (tgt := 29) (pc2 := 12) (by decide +kernel) (by decide) rfl ?_ ?_
    · refine g_seg0 (pc' := 30) (L' := [some (vR (kO 9) 0), some (vI v1), some (vI v2), some (vI v3)]) (st' := [vI v2]) (u1 := q1.2) [(oL 0 2, 1)] (by decide +kernel) rfl rfl ?_
      exact g_iret (by decide +kernel) rfl
    · refine g_seg (pc' := 26) (L' := [some (vR (kO 9) 0), some (vI v1), some (vI (v2 + (q1.2.1 16 (nc (v1 + v3))))), some (vI (v3 + 1))]) (st' := []) (u1 := q1.2) [(oL 0 2, 1), (oL 2 0, 1), (oP (.getfield 113), 3), (oL 0 1, 1), (oL 0 3, 1), (oP .iadd, 1), (oP .iaload, 1), (oP .iadd, 1), (oL 3 2, 1), (oN 3 1, 3)] (by decide +kernel) rfl rfl ?_
      refine g_goto (off := (-22)) (tgt := 4) (by decide +kernel) (by decide) ?_
      exact ih v1 (v2 + (q1.2.1 16 (nc (v1 + v3)))) (v3 + 1) q1.2
def fX10_sumOf (v1 : Int32) (u : ab_S) : Option (Int32 × ab_S) :=
  fX10_sumOf_4 fu v1 0 0 u
theorem tX10_sumOf (v1 : Int32) (u : ab_S) : ab_G 1 9 cX10_sumOf (some .int) 1 0 [some (vR (kO 9) 0), some (vI v1), none, none] [] u wI (fX10_sumOf v1 u) := by
  rw [fX10_sumOf]
  refine g_seg0 (pc' := 4) (L' := [some (vR (kO 9) 0), some (vI v1), some (vI 0), some (vI 0)]) (st' := []) (u1 := u) [(oC 0, 1), (oL 3 2, 1), (oC 0, 1), (oL 3 3, 1)] (by decide +kernel) rfl rfl ?_
  exact tX10_sumOf_4 fu v1 0 0 u
theorem CX10_sumOf (v1 : Int32) (u : ab_S) : ab_C 1 yX10_sumOf cX10_sumOf 4 (some .int) 1 [vR (kO 9) 0, vI v1] u wI (fX10_sumOf v1 u) := ab_entry (by decide +kernel) rfl (by decide) (by decide) (fun _ => Nat.le_of_ble_eq_true rfl) rfl (tX10_sumOf v1 u)
def fX10_mayBuy (v1 : Int32) (v2 : Int32) (u : ab_S) : Option (Int32 × ab_S) :=
  ab_gd [ab_ix ((v1 + 10) + v2) 1081] (
    bif decide ((u.1 16 (nc ((v1 + 10) + v2))) ≤ 0) then (
      ab_gd [ab_b1 0] (some (0, u)))
    else (
      ab_gd [ab_ix ((v1 + 16) + v2) 1081] (
        bif decide ((u.1 16 (nc ((v1 + 16) + v2))) < 9) then (
          ab_gd [ab_b1 1] (some (1, u)))
        else (
          ab_gd [ab_b1 0] (some (0, u))))))
theorem tX10_mayBuy (v1 : Int32) (v2 : Int32) (u : ab_S) : ab_G 1 9 cX10_mayBuy (some .boolean) 0 0 [some (vR (kO 9) 0), some (vI v1), some (vI v2)] [] u wI (fX10_mayBuy v1 v2 u) := by
  rw [fX10_mayBuy]
  refine g_seg (pc' := 11) (L' := [some (vR (kO 9) 0), some (vI v1), some (vI v2)]) (st' := [vI (u.1 16 (nc ((v1 + 10) + v2)))]) (u1 := u) [(oL 2 0, 1), (oP (.getfield 113), 3), (oL 0 1, 1), (oC 10, 2), (oP .iadd, 1), (oL 0 2, 1), (oP .iadd, 1), (oP .iaload, 1)] (by decide +kernel) rfl rfl ?_
  refine g_zle (off := 23) (tgt := 34) (pc2 := 14) (by decide +kernel) (by decide) rfl ?_ ?_
  · refine g_seg0 (pc' := 35) (L' := [some (vR (kO 9) 0), some (vI v1), some (vI v2)]) (st' := [vI 0]) (u1 := u) [(oC 0, 1)] (by decide +kernel) rfl rfl ?_
    exact g_zret (by decide +kernel) rfl
  · refine g_seg (pc' := 27) (L' := [some (vR (kO 9) 0), some (vI v1), some (vI v2)]) (st' := [vI 9, vI (u.1 16 (nc ((v1 + 16) + v2)))]) (u1 := u) [(oL 2 0, 1), (oP (.getfield 113), 3), (oL 0 1, 1), (oC 16, 2), (oP .iadd, 1), (oL 0 2, 1), (oP .iadd, 1), (oP .iaload, 1), (oC 9, 2)] (by decide +kernel) rfl rfl ?_
    refine g_ige (off := 7) (tgt := 34) (pc2 := 30) (by decide +kernel) (by decide) rfl ?_ ?_
    · refine g_seg0 (pc' := 35) (L' := [some (vR (kO 9) 0), some (vI v1), some (vI v2)]) (st' := [vI 0]) (u1 := u) [(oC 0, 1)] (by decide +kernel) rfl rfl ?_
      exact g_zret (by decide +kernel) rfl
    · refine g_seg0 (pc' := 31) (L' := [some (vR (kO 9) 0), some (vI v1), some (vI v2)]) (st' := [vI 1]) (u1 := u) [(oC 1, 1)] (by decide +kernel) rfl rfl ?_
      refine g_goto (off := 4) (tgt := 35) (by decide +kernel) (by decide) ?_
      exact g_zret (by decide +kernel) rfl
theorem CX10_mayBuy (v1 : Int32) (v2 : Int32) (u : ab_S) : ab_C 1 yX10_mayBuy cX10_mayBuy 3 (some .boolean) 0 [vR (kO 9) 0, vI v1, vI v2] u wI (fX10_mayBuy v1 v2 u) := ab_entry (by decide +kernel) rfl (by decide) (by decide) (fun _ => Nat.le_of_ble_eq_true rfl) rfl (tX10_mayBuy v1 v2 u)
def fX10_buys (v1 : Int32) (v2 : Int32) (u : ab_S) : Option (Unit × ab_S) :=
  ab_gd [ab_ix ((v1 + 10) + v2) 1081, ab_ix ((v1 + 10) + v2) 1081, ab_ix ((v1 + 16) + v2) 1081, ab_ix ((v1 + 16) + v2) 1081] (
    some ((), (sI (sI u 16 (nc ((v1 + 10) + v2)) ((u.1 16 (nc ((v1 + 10) + v2))) - 1)) 16 (nc ((v1 + 16) + v2)) (((sI u 16 (nc ((v1 + 10) + v2)) ((u.1 16 (nc ((v1 + 10) + v2))) - 1)).1 16 (nc ((v1 + 16) + v2))) + 1))))
theorem tX10_buys (v1 : Int32) (v2 : Int32) (u : ab_S) : ab_G 1 9 cX10_buys none 0 0 [some (vR (kO 9) 0), some (vI v1), some (vI v2)] [] u wV (fX10_buys v1 v2 u) := by
  rw [fX10_buys]
  refine g_seg (pc' := 30) (L' := [some (vR (kO 9) 0), some (vI v1), some (vI v2)]) (st' := []) (u1 := (sI (sI u 16 (nc ((v1 + 10) + v2)) ((u.1 16 (nc ((v1 + 10) + v2))) - 1)) 16 (nc ((v1 + 16) + v2)) (((sI u 16 (nc ((v1 + 10) + v2)) ((u.1 16 (nc ((v1 + 10) + v2))) - 1)).1 16 (nc ((v1 + 16) + v2))) + 1))) [(oL 2 0, 1), (oP (.getfield 113), 3), (oL 0 1, 1), (oC 10, 2), (oP .iadd, 1), (oL 0 2, 1), (oP .iadd, 1), (oP .dup2, 1), (oP .iaload, 1), (oC 1, 1), (oP .isub, 1), (oP .iastore, 1), (oL 2 0, 1), (oP (.getfield 113), 3), (oL 0 1, 1), (oC 16, 2), (oP .iadd, 1), (oL 0 2, 1), (oP .iadd, 1), (oP .dup2, 1), (oP .iaload, 1), (oC 1, 1), (oP .iadd, 1), (oP .iastore, 1)] (by decide +kernel) rfl rfl ?_
  exact g_vret (by decide +kernel) rfl
theorem CX10_buys (v1 : Int32) (v2 : Int32) (u : ab_S) : ab_C 1 yX10_buys cX10_buys 3 none 0 [vR (kO 9) 0, vI v1, vI v2] u wV (fX10_buys v1 v2 u) := ab_entry (by decide +kernel) rfl (by decide) (by decide) (fun _ => Nat.le_of_ble_eq_true rfl) rfl (tX10_buys v1 v2 u)
def fX10_doesLike (v1 : Int32) (v2 : Int32) (v3 : Int32) (v4 : Int32) (u : ab_S) : Option (Int32 × ab_S) :=
  (fX10_heldBy v1 v2 u).bind fun q1 =>
    (fX10_bits q1.1 q1.2).bind fun q2 =>
      (fX10_fitBy v2 v3 (q2.1 - 1) q2.2).bind fun q3 =>
        (fX10_fitBy v2 v4 (q2.1 - 1) q3.2).bind fun q4 =>
          bif decide (q3.1 ≤ q4.1) then (
            ab_gd [ab_b1 0] (some (0, q4.2)))
          else (
            ab_gd [ab_b1 1] (some (1, q4.2)))
theorem tX10_doesLike (v1 : Int32) (v2 : Int32) (v3 : Int32) (v4 : Int32) (u : ab_S) : ab_G 1 9 cX10_doesLike (some .boolean) 3 0 [some (vR (kO 9) 0), some (vI v1), some (vI v2), some (vI v3), some (vI v4), none] [] u wI (fX10_doesLike v1 v2 v3 v4 u) := by
  rw [fX10_doesLike]
  refine g_seg0 (pc' := 3) (L' := [some (vR (kO 9) 0), some (vI v1), some (vI v2), some (vI v3), some (vI v4), none]) (st' := [vI v2, vI v1, vR (kO 9) 0]) (u1 := u) [(oL 2 0, 1), (oL 0 1, 1), (oL 0 2, 1)] (by decide +kernel) rfl rfl ?_
  refine g_callV (k := 300) (pc2 := 6) (st := []) (CX10_heldBy v1 v2 u) miX10_heldBy mvX10_heldBy rfl (by decide) lk9_300 wI_ok (by decide +kernel) rfl (Nat.le_of_ble_eq_true rfl) (by decide) rfl (fun q1 hq1 => ?_)
  refine g_callS (k := 303) (pc2 := 9) (st := []) (CX10_bits q1.1 q1.2) miX10_bits msX10_bits lk9_303 wI_ok (by decide +kernel) rfl (Nat.le_of_ble_eq_true rfl) (by decide) rfl (fun q2 hq2 => ?_)
  refine g_seg0 (pc' := 18) (L' := [some (vR (kO 9) 0), some (vI v1), some (vI v2), some (vI v3), some (vI v4), some (vI (q2.1 - 1))]) (st' := [vI (q2.1 - 1), vI v3, vI v2, vR (kO 9) 0]) (u1 := q2.2) [(oC 1, 1), (oP .isub, 1), (oL 3 5, 2), (oL 2 0, 1), (oL 0 2, 1), (oL 0 3, 1), (oL 0 5, 2)] (by decide +kernel) rfl rfl ?_
  refine g_callV (k := 306) (pc2 := 21) (st := []) (CX10_fitBy v2 v3 (q2.1 - 1) q2.2) miX10_fitBy mvX10_fitBy rfl (by decide) lk9_306 wI_ok (by decide +kernel) rfl (Nat.le_of_ble_eq_true rfl) (by decide) rfl (fun q3 hq3 => ?_)
  refine g_seg0 (pc' := 27) (L' := [some (vR (kO 9) 0), some (vI v1), some (vI v2), some (vI v3), some (vI v4), some (vI (q2.1 - 1))]) (st' := [vI (q2.1 - 1), vI v4, vI v2, vR (kO 9) 0, vI (q3.1)]) (u1 := q3.2) [(oL 2 0, 1), (oL 0 2, 1), (oL 0 4, 2), (oL 0 5, 2)] (by decide +kernel) rfl rfl ?_
  refine g_callV (k := 306) (pc2 := 30) (st := [vI (q3.1)]) (CX10_fitBy v2 v4 (q2.1 - 1) q3.2) miX10_fitBy mvX10_fitBy rfl (by decide) lk9_306 wI_ok (by decide +kernel) rfl (Nat.le_of_ble_eq_true rfl) (by decide) rfl (fun q4 hq4 => ?_)
  refine g_ile (off := 7) (tgt := 37) (pc2 := 33) (by decide +kernel) (by decide) rfl ?_ ?_
  · refine g_seg0 (pc' := 38) (L' := [some (vR (kO 9) 0), some (vI v1), some (vI v2), some (vI v3), some (vI v4), some (vI (q2.1 - 1))]) (st' := [vI 0]) (u1 := q4.2) [(oC 0, 1)] (by decide +kernel) rfl rfl ?_
    exact g_zret (by decide +kernel) rfl
  · refine g_seg0 (pc' := 34) (L' := [some (vR (kO 9) 0), some (vI v1), some (vI v2), some (vI v3), some (vI v4), some (vI (q2.1 - 1))]) (st' := [vI 1]) (u1 := q4.2) [(oC 1, 1)] (by decide +kernel) rfl rfl ?_
    refine g_goto (off := 4) (tgt := 38) (by decide +kernel) (by decide) ?_
    exact g_zret (by decide +kernel) rfl
theorem CX10_doesLike (v1 : Int32) (v2 : Int32) (v3 : Int32) (v4 : Int32) (u : ab_S) : ab_C 1 yX10_doesLike cX10_doesLike 6 (some .boolean) 3 [vR (kO 9) 0, vI v1, vI v2, vI v3, vI v4] u wI (fX10_doesLike v1 v2 v3 v4 u) := ab_entry (by decide +kernel) rfl (by decide) (by decide) (fun _ => Nat.le_of_ble_eq_true rfl) rfl (tX10_doesLike v1 v2 v3 v4 u)
def fX10_maySwap (v1 : Int32) (v2 : Int32) (v3 : Int32) (u : ab_S) : Option (Int32 × ab_S) :=
  ab_gd [ab_ix ((v1 + 2) + v2) 1081, ab_ix ((v1 + 2) + v3) 1081] (
    bif decide ((u.1 16 (nc ((v1 + 2) + v2))) < 0) then (
      ab_gd [ab_b1 0] (some (0, u)))
    else (
      bif decide ((u.1 16 (nc ((v1 + 2) + v3))) < 0) then (
        ab_gd [ab_b1 0] (some (0, u)))
      else (
        bif decide ((u.1 16 (nc ((v1 + 2) + v2))) = (u.1 16 (nc ((v1 + 2) + v3)))) then (
          ab_gd [ab_b1 0] (some (0, u)))
        else (
          (fX10_doesLike v1 (u.1 16 (nc ((v1 + 2) + v2))) v3 v2 u).bind fun q1 =>
            bif decide (q1.1 = 0) then (
              ab_gd [ab_b1 0] (some (0, q1.2)))
            else (
              (fX10_doesLike v1 (u.1 16 (nc ((v1 + 2) + v3))) v2 v3 q1.2).bind fun q2 =>
                bif decide (q2.1 = 0) then (
                  ab_gd [ab_b1 0] (some (0, q2.2)))
                else (
                  ab_gd [ab_b1 1] (some (1, q2.2))))))))
theorem tX10_maySwap (v1 : Int32) (v2 : Int32) (v3 : Int32) (u : ab_S) : ab_G 1 9 cX10_maySwap (some .boolean) 4 0 [some (vR (kO 9) 0), some (vI v1), some (vI v2), some (vI v3), none, none] [] u wI (fX10_maySwap v1 v2 v3 u) := by
  rw [fX10_maySwap]
  refine g_seg (pc' := 26) (L' := [some (vR (kO 9) 0), some (vI v1), some (vI v2), some (vI v3), some (vI (u.1 16 (nc ((v1 + 2) + v2)))), some (vI (u.1 16 (nc ((v1 + 2) + v3))))]) (st' := [vI (u.1 16 (nc ((v1 + 2) + v2)))]) (u1 := u) [(oL 2 0, 1), (oP (.getfield 113), 3), (oL 0 1, 1), (oC 2, 1), (oP .iadd, 1), (oL 0 2, 1), (oP .iadd, 1), (oP .iaload, 1), (oL 3 4, 2), (oL 2 0, 1), (oP (.getfield 113), 3), (oL 0 1, 1), (oC 2, 1), (oP .iadd, 1), (oL 0 3, 1), (oP .iadd, 1), (oP .iaload, 1), (oL 3 5, 2), (oL 0 4, 2)] (by decide +kernel) rfl rfl ?_
  refine g_zlt (off := 43) (tgt := 69) (pc2 := 29) (by decide +kernel) (by decide) rfl ?_ ?_
  · refine g_seg0 (pc' := 70) (L' := [some (vR (kO 9) 0), some (vI v1), some (vI v2), some (vI v3), some (vI (u.1 16 (nc ((v1 + 2) + v2)))), some (vI (u.1 16 (nc ((v1 + 2) + v3))))]) (st' := [vI 0]) (u1 := u) [(oC 0, 1)] (by decide +kernel) rfl rfl ?_
    exact g_zret (by decide +kernel) rfl
  · refine g_seg0 (pc' := 31) (L' := [some (vR (kO 9) 0), some (vI v1), some (vI v2), some (vI v3), some (vI (u.1 16 (nc ((v1 + 2) + v2)))), some (vI (u.1 16 (nc ((v1 + 2) + v3))))]) (st' := [vI (u.1 16 (nc ((v1 + 2) + v3)))]) (u1 := u) [(oL 0 5, 2)] (by decide +kernel) rfl rfl ?_
    refine g_zlt (off := 38) (tgt := 69) (pc2 := 34) (by decide +kernel) (by decide) rfl ?_ ?_
    · refine g_seg0 (pc' := 70) (L' := [some (vR (kO 9) 0), some (vI v1), some (vI v2), some (vI v3), some (vI (u.1 16 (nc ((v1 + 2) + v2)))), some (vI (u.1 16 (nc ((v1 + 2) + v3))))]) (st' := [vI 0]) (u1 := u) [(oC 0, 1)] (by decide +kernel) rfl rfl ?_
      exact g_zret (by decide +kernel) rfl
    · refine g_seg0 (pc' := 38) (L' := [some (vR (kO 9) 0), some (vI v1), some (vI v2), some (vI v3), some (vI (u.1 16 (nc ((v1 + 2) + v2)))), some (vI (u.1 16 (nc ((v1 + 2) + v3))))]) (st' := [vI (u.1 16 (nc ((v1 + 2) + v3))), vI (u.1 16 (nc ((v1 + 2) + v2)))]) (u1 := u) [(oL 0 4, 2), (oL 0 5, 2)] (by decide +kernel) rfl rfl ?_
      refine g_ieq (off := 31) (tgt := 69) (pc2 := 41) (by decide +kernel) (by decide) rfl ?_ ?_
      · refine g_seg0 (pc' := 70) (L' := [some (vR (kO 9) 0), some (vI v1), some (vI v2), some (vI v3), some (vI (u.1 16 (nc ((v1 + 2) + v2)))), some (vI (u.1 16 (nc ((v1 + 2) + v3))))]) (st' := [vI 0]) (u1 := u) [(oC 0, 1)] (by decide +kernel) rfl rfl ?_
        exact g_zret (by decide +kernel) rfl
      · refine g_seg0 (pc' := 47) (L' := [some (vR (kO 9) 0), some (vI v1), some (vI v2), some (vI v3), some (vI (u.1 16 (nc ((v1 + 2) + v2)))), some (vI (u.1 16 (nc ((v1 + 2) + v3))))]) (st' := [vI v2, vI v3, vI (u.1 16 (nc ((v1 + 2) + v2))), vI v1, vR (kO 9) 0]) (u1 := u) [(oL 2 0, 1), (oL 0 1, 1), (oL 0 4, 2), (oL 0 3, 1), (oL 0 2, 1)] (by decide +kernel) rfl rfl ?_
        refine g_callV (k := 315) (pc2 := 50) (st := []) (CX10_doesLike v1 (u.1 16 (nc ((v1 + 2) + v2))) v3 v2 u) miX10_doesLike mvX10_doesLike rfl (by decide) lk9_315 wI_ok (by decide +kernel) rfl (Nat.le_of_ble_eq_true rfl) (by decide) rfl (fun q1 hq1 => ?_)
        refine g_zeq (off := 19) (tgt := 69) (pc2 := 53) (by decide +kernel) (by decide) rfl ?_ ?_
        · refine g_seg0 (pc' := 70) (L' := [some (vR (kO 9) 0), some (vI v1), some (vI v2), some (vI v3), some (vI (u.1 16 (nc ((v1 + 2) + v2)))), some (vI (u.1 16 (nc ((v1 + 2) + v3))))]) (st' := [vI 0]) (u1 := q1.2) [(oC 0, 1)] (by decide +kernel) rfl rfl ?_
          exact g_zret (by decide +kernel) rfl
        · refine g_seg0 (pc' := 59) (L' := [some (vR (kO 9) 0), some (vI v1), some (vI v2), some (vI v3), some (vI (u.1 16 (nc ((v1 + 2) + v2)))), some (vI (u.1 16 (nc ((v1 + 2) + v3))))]) (st' := [vI v3, vI v2, vI (u.1 16 (nc ((v1 + 2) + v3))), vI v1, vR (kO 9) 0]) (u1 := q1.2) [(oL 2 0, 1), (oL 0 1, 1), (oL 0 5, 2), (oL 0 2, 1), (oL 0 3, 1)] (by decide +kernel) rfl rfl ?_
          refine g_callV (k := 315) (pc2 := 62) (st := []) (CX10_doesLike v1 (u.1 16 (nc ((v1 + 2) + v3))) v2 v3 q1.2) miX10_doesLike mvX10_doesLike rfl (by decide) lk9_315 wI_ok (by decide +kernel) rfl (Nat.le_of_ble_eq_true rfl) (by decide) rfl (fun q2 hq2 => ?_)
          refine g_zeq (off := 7) (tgt := 69) (pc2 := 65) (by decide +kernel) (by decide) rfl ?_ ?_
          · refine g_seg0 (pc' := 70) (L' := [some (vR (kO 9) 0), some (vI v1), some (vI v2), some (vI v3), some (vI (u.1 16 (nc ((v1 + 2) + v2)))), some (vI (u.1 16 (nc ((v1 + 2) + v3))))]) (st' := [vI 0]) (u1 := q2.2) [(oC 0, 1)] (by decide +kernel) rfl rfl ?_
            exact g_zret (by decide +kernel) rfl
          · refine g_seg0 (pc' := 66) (L' := [some (vR (kO 9) 0), some (vI v1), some (vI v2), some (vI v3), some (vI (u.1 16 (nc ((v1 + 2) + v2)))), some (vI (u.1 16 (nc ((v1 + 2) + v3))))]) (st' := [vI 1]) (u1 := q2.2) [(oC 1, 1)] (by decide +kernel) rfl rfl ?_
            refine g_goto (off := 4) (tgt := 70) (by decide +kernel) (by decide) ?_
            exact g_zret (by decide +kernel) rfl
theorem CX10_maySwap (v1 : Int32) (v2 : Int32) (v3 : Int32) (u : ab_S) : ab_C 1 yX10_maySwap cX10_maySwap 6 (some .boolean) 4 [vR (kO 9) 0, vI v1, vI v2, vI v3] u wI (fX10_maySwap v1 v2 v3 u) := ab_entry (by decide +kernel) rfl (by decide) (by decide) (fun _ => Nat.le_of_ble_eq_true rfl) rfl (tX10_maySwap v1 v2 v3 u)
