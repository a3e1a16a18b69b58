/-! methods, printed by program out of the listing: function, walk, contract -/
def fX10_isWord (v1 : Int32) (u : ab_S) : Option (Int32 × ab_S) :=
  bif decide ((u.1 0 8) = 0) then (
    ab_gd [ab_ix (u.1 0 7) 1002] (
      bif decide ((u.1 2 (nc (u.1 0 7))) = 1) then (
        ab_gd [ab_ix (u.1 0 7) 1002, ab_ix v1 23] (
          bif decide ((u.2.1 4 (nc (u.1 0 7))) = (u.2.1 5 (nc v1))) then (
            ab_gd [ab_b1 1] (some (1, u)))
          else (
            ab_gd [ab_b1 0] (some (0, u)))))
      else (
        ab_gd [ab_b1 0] (some (0, u)))))
  else (
    ab_gd [ab_b1 0] (some (0, u)))
theorem tX10_isWord (v1 : Int32) (u : ab_S) : ab_G 1 9 cX10_isWord (some .boolean) 0 0 [some (vR (kO 9) 0), some (vI v1)] [] u wI (fX10_isWord v1 u) := by
  rw [fX10_isWord]
  refine g_seg0 (pc' := 4) (L' := [some (vR (kO 9) 0), some (vI v1)]) (st' := [vI (u.1 0 8)]) (u1 := u) [(oL 2 0, 1), (oP (.getfield 168), 3)] (by decide +kernel) rfl rfl ?_
  refine g_zne (off := 39) (tgt := 43) (pc2 := 7) (by decide +kernel) (by decide) rfl ?_ ?_
  · refine g_seg0 (pc' := 44) (L' := [some (vR (kO 9) 0), some (vI v1)]) (st' := [vI 0]) (u1 := u) [(oC 0, 1)] (by decide +kernel) rfl rfl ?_
    exact g_zret (by decide +kernel) rfl
  · refine g_seg (pc' := 17) (L' := [some (vR (kO 9) 0), some (vI v1)]) (st' := [vI 1, vI (u.1 2 (nc (u.1 0 7)))]) (u1 := u) [(oL 2 0, 1), (oP (.getfield 24), 3), (oL 2 0, 1), (oP (.getfield 165), 3), (oP .iaload, 1), (oC 1, 1)] (by decide +kernel) rfl rfl ?_
    refine g_ine (off := 26) (tgt := 43) (pc2 := 20) (by decide +kernel) (by decide) rfl ?_ ?_
    · refine g_seg0 (pc' := 44) (L' := [some (vR (kO 9) 0), some (vI v1)]) (st' := [vI 0]) (u1 := u) [(oC 0, 1)] (by decide +kernel) rfl rfl ?_
      exact g_zret (by decide +kernel) rfl
    · refine g_seg (pc' := 35) (L' := [some (vR (kO 9) 0), some (vI v1)]) (st' := [vL (u.2.1 5 (nc v1)), vL (u.2.1 4 (nc (u.1 0 7)))]) (u1 := u) [(oL 2 0, 1), (oP (.getfield 30), 3), (oL 2 0, 1), (oP (.getfield 165), 3), (oP .laload, 1), (oL 2 0, 1), (oP (.getfield 80), 3), (oL 0 1, 1), (oP .laload, 1)] (by decide +kernel) rfl rfl ?_
      refine g_lne (off := 7) (tgt := 43) (pc1 := 36) (pc2 := 39) (by decide +kernel) rfl (by decide +kernel) (by decide) rfl ?_ ?_
      · refine g_seg0 (pc' := 44) (L' := [some (vR (kO 9) 0), some (vI v1)]) (st' := [vI 0]) (u1 := u) [(oC 0, 1)] (by decide +kernel) rfl rfl ?_
        exact g_zret (by decide +kernel) rfl
      · refine g_seg0 (pc' := 40) (L' := [some (vR (kO 9) 0), some (vI v1)]) (st' := [vI 1]) (u1 := u) [(oC 1, 1)] (by decide +kernel) rfl rfl ?_
        refine g_goto (off := 4) (tgt := 44) (by decide +kernel) (by decide) ?_
        exact g_zret (by decide +kernel) rfl
theorem CX10_isWord (v1 : Int32) (u : ab_S) : ab_C 1 yX10_isWord cX10_isWord 2 (some .boolean) 0 [vR (kO 9) 0, vI v1] u wI (fX10_isWord v1 u) := ab_entry (by decide +kernel) rfl (by decide) (by decide) (fun _ => Nat.le_of_ble_eq_true rfl) rfl (tX10_isWord v1 u)
def fX10_takeSign (v1 : Int32) (u : ab_S) : Option (Unit × ab_S) :=
  (fX10_isSign v1 u).bind fun q1 =>
    bif decide (q1.1 = 0) then (
      (fX10_wrong 1 q1.2).bind fun q2 =>
        some ((), q2.2))
    else (
      some ((), (sI q1.2 0 7 ((q1.2.1 0 7) + 1))))
theorem tX10_takeSign (v1 : Int32) (u : ab_S) : ab_G 1 9 cX10_takeSign none 1 0 [some (vR (kO 9) 0), some (vI v1)] [] u wV (fX10_takeSign v1 u) := by
  rw [fX10_takeSign]
  refine g_seg0 (pc' := 2) (L' := [some (vR (kO 9) 0), some (vI v1)]) (st' := [vI v1, vR (kO 9) 0]) (u1 := u) [(oL 2 0, 1), (oL 0 1, 1)] (by decide +kernel) rfl rfl ?_
  refine g_callV (k := 171) (pc2 := 5) (st := []) (CX10_isSign v1 u) miX10_isSign mvX10_isSign rfl (by decide) lk9_171 wI_ok (by decide +kernel) rfl (Nat.le_of_ble_eq_true rfl) (by decide) rfl (fun q1 hq1 => ?_)
  refine g_zeq (off := 16) (tgt := 21) (pc2 := 8) (by decide +kernel) (by decide) rfl ?_ ?_
  · refine g_seg0 (pc' := 23) (L' := [some (vR (kO 9) 0), some (vI v1)]) (st' := [vI 1, vR (kO 9) 0]) (u1 := q1.2) [(oL 2 0, 1), (oC 1, 1)] (by decide +kernel) rfl rfl ?_
    refine g_callV (k := 174) (pc2 := 26) (st := []) (CX10_wrong 1 q1.2) miX10_wrong mvX10_wrong rfl (by decide) lk9_174 wV_ok (by decide +kernel) rfl (Nat.le_of_ble_eq_true rfl) (by decide) rfl (fun q2 hq2 => ?_)
    exact g_vret (by decide +kernel) rfl
  · refine g_seg0 (pc' := 18) (L' := [some (vR (kO 9) 0), some (vI v1)]) (st' := []) (u1 := (sI q1.2 0 7 ((q1.2.1 0 7) + 1))) [(oL 2 0, 1), (oP .dup, 1), (oP (.getfield 165), 3), (oC 1, 1), (oP .iadd, 1), (oP (.putfield 165), 3)] (by decide +kernel) rfl rfl ?_
    refine g_goto (off := 8) (tgt := 26) (by decide +kernel) (by decide) ?_
    exact g_vret (by decide +kernel) rfl
theorem CX10_takeSign (v1 : Int32) (u : ab_S) : ab_C 1 yX10_takeSign cX10_takeSign 2 none 1 [vR (kO 9) 0, vI v1] u wV (fX10_takeSign v1 u) := ab_entry (by decide +kernel) rfl (by decide) (by decide) (fun _ => Nat.le_of_ble_eq_true rfl) rfl (tX10_takeSign v1 u)
def fX10_hasSign (v1 : Int32) (u : ab_S) : Option (Int32 × ab_S) :=
  (fX10_isSign v1 u).bind fun q1 =>
    bif decide (q1.1 = 0) then (
      ab_gd [ab_b1 q1.1] (some (q1.1, (sI q1.2 0 7 ((q1.2.1 0 7) + 0)))))
    else (
      ab_gd [ab_b1 q1.1] (some (q1.1, (sI q1.2 0 7 ((q1.2.1 0 7) + 1)))))
theorem tX10_hasSign (v1 : Int32) (u : ab_S) : ab_G 1 9 cX10_hasSign (some .boolean) 1 0 [some (vR (kO 9) 0), some (vI v1), none] [] u wI (fX10_hasSign v1 u) := by
  rw [fX10_hasSign]
  refine g_seg0 (pc' := 2) (L' := [some (vR (kO 9) 0), some (vI v1), none]) (st' := [vI v1, vR (kO 9) 0]) (u1 := u) [(oL 2 0, 1), (oL 0 1, 1)] (by decide +kernel) rfl rfl ?_
  refine g_callV (k := 171) (pc2 := 5) (st := []) (CX10_isSign v1 u) miX10_isSign mvX10_isSign rfl (by decide) lk9_171 wI_ok (by decide +kernel) rfl (Nat.le_of_ble_eq_true rfl) (by decide) rfl (fun q1 hq1 => ?_)
  refine g_seg0 (pc' := 12) (L' := [some (vR (kO 9) 0), some (vI v1), some (vI (q1.1))]) (st' := [vI (q1.1), vI (q1.2.1 0 7), vR (kO 9) 0]) (u1 := q1.2) [(oL 3 2, 1), (oL 2 0, 1), (oP .dup, 1), (oP (.getfield 165), 3), (oL 0 2, 1)] (by decide +kernel) rfl rfl ?_
  refine g_zeq (off := 7) (tgt := 19) (pc2 := 15) (by decide +kernel) (by decide) rfl ?_ ?_
  · refine g_seg0 (pc' := 25) (L' := [some (vR (kO 9) 0), some (vI v1), some (vI (q1.1))]) (st' := [vI (q1.1)]) (u1 := (sI q1.2 0 7 ((q1.2.1 0 7) + 0))) [(oC 0, 1), (oP .iadd, 1), (oP (.putfield 165), 3), (oL 0 2, 1)] (by decide +kernel) rfl rfl ?_
    exact g_zret (by decide +kernel) rfl
  · refine g_seg0 (pc' := 16) (L' := [some (vR (kO 9) 0), some (vI v1), some (vI (q1.1))]) (st' := [vI 1, vI (q1.2.1 0 7), vR (kO 9) 0]) (u1 := q1.2) [(oC 1, 1)] (by decide +kernel) rfl rfl ?_
    refine g_goto (off := 4) (tgt := 20) (by decide +kernel) (by decide) ?_
    refine g_seg0 (pc' := 25) (L' := [some (vR (kO 9) 0), some (vI v1), some (vI (q1.1))]) (st' := [vI (q1.1)]) (u1 := (sI q1.2 0 7 ((q1.2.1 0 7) + 1))) [(oP .iadd, 1), (oP (.putfield 165), 3), (oL 0 2, 1)] (by decide +kernel) rfl rfl ?_
    exact g_zret (by decide +kernel) rfl
theorem CX10_hasSign (v1 : Int32) (u : ab_S) : ab_C 1 yX10_hasSign cX10_hasSign 3 (some .boolean) 1 [vR (kO 9) 0, vI v1] u wI (fX10_hasSign v1 u) := ab_entry (by decide +kernel) rfl (by decide) (by decide) (fun _ => Nat.le_of_ble_eq_true rfl) rfl (tX10_hasSign v1 u)
def fX10_hasWord (v1 : Int32) (u : ab_S) : Option (Int32 × ab_S) :=
  (fX10_isWord v1 u).bind fun q1 =>
    bif decide (q1.1 = 0) then (
      ab_gd [ab_b1 q1.1] (some (q1.1, (sI q1.2 0 7 ((q1.2.1 0 7) + 0)))))
    else (
      ab_gd [ab_b1 q1.1] (some (q1.1, (sI q1.2 0 7 ((q1.2.1 0 7) + 1)))))
theorem tX10_hasWord (v1 : Int32) (u : ab_S) : ab_G 1 9 cX10_hasWord (some .boolean) 1 0 [some (vR (kO 9) 0), some (vI v1), none] [] u wI (fX10_hasWord v1 u) := by
  rw [fX10_hasWord]
  refine g_seg0 (pc' := 2) (L' := [some (vR (kO 9) 0), some (vI v1), none]) (st' := [vI v1, vR (kO 9) 0]) (u1 := u) [(oL 2 0, 1), (oL 0 1, 1)] (by decide +kernel) rfl rfl ?_
  refine g_callV (k := 177) (pc2 := 5) (st := []) (CX10_isWord v1 u) miX10_isWord mvX10_isWord rfl (by decide) lk9_177 wI_ok (by decide +kernel) rfl (Nat.le_of_ble_eq_true rfl) (by decide) rfl (fun q1 hq1 => ?_)
  refine g_seg0 (pc' := 12) (L' := [some (vR (kO 9) 0), some (vI v1), some (vI (q1.1))]) (st' := [vI (q1.1), vI (q1.2.1 0 7), vR (kO 9) 0]) (u1 := q1.2) [(oL 3 2, 1), (oL 2 0, 1), (oP .dup, 1), (oP (.getfield 165), 3), (oL 0 2, 1)] (by decide +kernel) rfl rfl ?_
  refine g_zeq (off := 7) (tgt := 19) (pc2 := 15) (by decide +kernel) (by decide) rfl ?_ ?_
  · refine g_seg0 (pc' := 25) (L' := [some (vR (kO 9) 0), some (vI v1), some (vI (q1.1))]) (st' := [vI (q1.1)]) (u1 := (sI q1.2 0 7 ((q1.2.1 0 7) + 0))) [(oC 0, 1), (oP .iadd, 1), (oP (.putfield 165), 3), (oL 0 2, 1)] (by decide +kernel) rfl rfl ?_
    exact g_zret (by decide +kernel) rfl
  · refine g_seg0 (pc' := 16) (L' := [some (vR (kO 9) 0), some (vI v1), some (vI (q1.1))]) (st' := [vI 1, vI (q1.2.1 0 7), vR (kO 9) 0]) (u1 := q1.2) [(oC 1, 1)] (by decide +kernel) rfl rfl ?_
    refine g_goto (off := 4) (tgt := 20) (by decide +kernel) (by decide) ?_
    refine g_seg0 (pc' := 25) (L' := [some (vR (kO 9) 0), some (vI v1), some (vI (q1.1))]) (st' := [vI (q1.1)]) (u1 := (sI q1.2 0 7 ((q1.2.1 0 7) + 1))) [(oP .iadd, 1), (oP (.putfield 165), 3), (oL 0 2, 1)] (by decide +kernel) rfl rfl ?_
    exact g_zret (by decide +kernel) rfl
theorem CX10_hasWord (v1 : Int32) (u : ab_S) : ab_C 1 yX10_hasWord cX10_hasWord 3 (some .boolean) 1 [vR (kO 9) 0, vI v1] u wI (fX10_hasWord v1 u) := ab_entry (by decide +kernel) rfl (by decide) (by decide) (fun _ => Nat.le_of_ble_eq_true rfl) rfl (tX10_hasWord v1 u)
def fX10_takeWord (v1 : Int32) (u : ab_S) : Option (Unit × ab_S) :=
  (fX10_hasWord v1 u).bind fun q1 =>
    bif decide (q1.1 = 0) then (
      (fX10_wrong 1 q1.2).bind fun q2 =>
        some ((), q2.2))
    else (
      some ((), q1.2))
theorem tX10_takeWord (v1 : Int32) (u : ab_S) : ab_G 1 9 cX10_takeWord none 2 0 [some (vR (kO 9) 0), some (vI v1)] [] u wV (fX10_takeWord v1 u) := by
  rw [fX10_takeWord]
  refine g_seg0 (pc' := 2) (L' := [some (vR (kO 9) 0), some (vI v1)]) (st' := [vI v1, vR (kO 9) 0]) (u1 := u) [(oL 2 0, 1), (oL 0 1, 1)] (by decide +kernel) rfl rfl ?_
  refine g_callV (k := 180) (pc2 := 5) (st := []) (CX10_hasWord v1 u) miX10_hasWord mvX10_hasWord rfl (by decide) lk9_180 wI_ok (by decide +kernel) rfl (Nat.le_of_ble_eq_true rfl) (by decide) rfl (fun q1 hq1 => ?_)
  refine g_zne (off := 8) (tgt := 13) (pc2 := 8) (by decide +kernel) (by decide) rfl ?_ ?_
  · exact g_vret (by decide +kernel) rfl
  · refine g_seg0 (pc' := 10) (L' := [some (vR (kO 9) 0), some (vI v1)]) (st' := [vI 1, vR (kO 9) 0]) (u1 := q1.2) [(oL 2 0, 1), (oC 1, 1)] (by decide +kernel) rfl rfl ?_
    refine g_callV (k := 174) (pc2 := 13) (st := []) (CX10_wrong 1 q1.2) miX10_wrong mvX10_wrong rfl (by decide) lk9_174 wV_ok (by decide +kernel) rfl (Nat.le_of_ble_eq_true rfl) (by decide) rfl (fun q2 hq2 => ?_)
    exact g_vret (by decide +kernel) rfl
theorem CX10_takeWord (v1 : Int32) (u : ab_S) : ab_C 1 yX10_takeWord cX10_takeWord 2 none 2 [vR (kO 9) 0, vI v1] u wV (fX10_takeWord v1 u) := ab_entry (by decide +kernel) rfl (by decide) (by decide) (fun _ => Nat.le_of_ble_eq_true rfl) rfl (tX10_takeWord v1 u)
def fX10_within (v0 : Int32) (v1 : Int32) (v2 : Int32) (u : ab_S) : Option (Int32 × ab_S) :=
  bif decide (v0 < v1) then (
    ab_gd [ab_b1 0] (some (0, u)))
  else (
    bif decide (v0 ≤ v2) then (
      ab_gd [ab_b1 1] (some (1, u)))
    else (
      ab_gd [ab_b1 0] (some (0, u))))
theorem tX10_within (v0 : Int32) (v1 : Int32) (v2 : Int32) (u : ab_S) : ab_G 1 9 cX10_within (some .boolean) 0 0 [some (vI v0), some (vI v1), some (vI v2)] [] u wI (fX10_within v0 v1 v2 u) := by
  rw [fX10_within]
  refine g_seg0 (pc' := 2) (L' := [some (vI v0), some (vI v1), some (vI v2)]) (st' := [vI v1, vI v0]) (u1 := u) [(oL 0 0, 1), (oL 0 1, 1)] (by decide +kernel) rfl rfl ?_
  refine g_ilt (off := 12) (tgt := 14) (pc2 := 5) (by decide +kernel) (by decide) rfl ?_ ?_
  · refine g_seg0 (pc' := 15) (L' := [some (vI v0), some (vI v1), some (vI v2)]) (st' := [vI 0]) (u1 := u) [(oC 0, 1)] (by decide +kernel) rfl rfl ?_
    exact g_zret (by decide +kernel) rfl
  · refine g_seg0 (pc' := 7) (L' := [some (vI v0), some (vI v1), some (vI v2)]) (st' := [vI v2, vI v0]) (u1 := u) [(oL 0 0, 1), (oL 0 2, 1)] (by decide +kernel) rfl rfl ?_
    refine g_igt (off := 7) (tgt := 14) (pc2 := 10) (by decide +kernel) (by decide) rfl ?_ ?_
    · refine g_seg0 (pc' := 15) (L' := [some (vI v0), some (vI v1), some (vI v2)]) (st' := [vI 0]) (u1 := u) [(oC 0, 1)] (by decide +kernel) rfl rfl ?_
      exact g_zret (by decide +kernel) rfl
    · refine g_seg0 (pc' := 11) (L' := [some (vI v0), some (vI v1), some (vI v2)]) (st' := [vI 1]) (u1 := u) [(oC 1, 1)] (by decide +kernel) rfl rfl ?_
      refine g_goto (off := 4) (tgt := 15) (by decide +kernel) (by decide) ?_
      exact g_zret (by decide +kernel) rfl
theorem CX10_within (v0 : Int32) (v1 : Int32) (v2 : Int32) (u : ab_S) : ab_C 1 yX10_within cX10_within 3 (some .boolean) 0 [vI v0, vI v1, vI v2] u wI (fX10_within v0 v1 v2 u) := ab_entry (by decide +kernel) rfl (by decide) (by decide) (fun _ => Nat.le_of_ble_eq_true rfl) rfl (tX10_within v0 v1 v2 u)
def fX10_standsAsAlways_2 : Nat → Int32 → Int32 → ab_S → Option (Unit × ab_S)
  | 0, _, _, _ => none
  | n + 1, v1, v2, u =>
  bif decide (v2 < 90) then (
    ab_gd [ab_ix (v1 + v2) 180] (
      (fX10_standsAsAlways_2 n) v1 (v2 + 1) (sI u 6 (nc (v1 + v2)) 0)))
  else (
    ab_gd [ab_ix (v1 + 3) 180] (
      some ((), (sI u 6 (nc (v1 + 3)) (-1)))))
theorem tX10_standsAsAlways_2 : ∀ (n : Nat) (v1 : Int32) (v2 : Int32) (u : ab_S), ab_G 1 9 cX10_standsAsAlways none 0 2 [some (vR (kO 9) 0), some (vI v1), some (vI v2)] [] u wV (fX10_standsAsAlways_2 n v1 v2 u) := by
  intro n
  induction n with
  | zero => intros; exact g_none
  | succ n ih =>
    intro v1 v2 u
    rw [fX10_standsAsAlways_2]
    refine g_seg0 (pc' := 5) (L' := [some (vR (kO 9) 0), some (vI v1), some (vI v2)]) (st' := [vI 90, vI v2]) (u1 := u) [(oL 0 2, 1), (oC 90, 2)] (by decide +kernel) rfl rfl ?_
    refine g_ige (off := 18) (tgt := 23) (pc2 := 8) (by decide +kernel) (by decide) rfl ?_ ?_
    · refine g_seg (pc' := 32) (L' := [some (vR (kO 9) 0), some (vI v1), some (vI v2)]) (st' := []) (u1 := (sI u 6 (nc (v1 + 3)) (-1))) [(oL 2 0, 1), (oP (.getfield 83), 3), (oL 0 1, 1), (oC 3, 1), (oP .iadd, 1), (oC (-1), 1), (oP .iastore, 1)] (by decide +kernel) rfl rfl ?_
      exact g_vret (by decide +kernel) rfl
    · refine g_seg (pc' := 20) (L' := [some (vR (kO 9) 0), some (vI v1), some (vI (v2 + 1))]) (st' := []) (u1 := (sI u 6 (nc (v1 + v2)) 0)) [(oL 2 0, 1), (oP (.getfield 83), 3), (oL 0 1, 1), (oL 0 2, 1), (oP .iadd, 1), (oC 0, 1), (oP .iastore, 1), (oN 2 1, 3)] (by decide +kernel) rfl rfl ?_
      refine g_goto (off := (-18)) (tgt := 2) (by decide +kernel) (by decide) ?_
      exact ih v1 (v2 + 1) (sI u 6 (nc (v1 + v2)) 0)
def fX10_standsAsAlways (v1 : Int32) (u : ab_S) : Option (Unit × ab_S) :=
  fX10_standsAsAlways_2 fu v1 0 u
theorem tX10_standsAsAlways (v1 : Int32) (u : ab_S) : ab_G 1 9 cX10_standsAsAlways none 0 0 [some (vR (kO 9) 0), some (vI v1), none] [] u wV (fX10_standsAsAlways v1 u) := by
  rw [fX10_standsAsAlways]
  refine g_seg0 (pc' := 2) (L' := [some (vR (kO 9) 0), some (vI v1), some (vI 0)]) (st' := []) (u1 := u) [(oC 0, 1), (oL 3 2, 1)] (by decide +kernel) rfl rfl ?_
  exact tX10_standsAsAlways_2 fu v1 0 u
theorem CX10_standsAsAlways (v1 : Int32) (u : ab_S) : ab_C 1 yX10_standsAsAlways cX10_standsAsAlways 3 none 0 [vR (kO 9) 0, vI v1] u wV (fX10_standsAsAlways v1 u) := ab_entry (by decide +kernel) rfl (by decide) (by decide) (fun _ => Nat.le_of_ble_eq_true rfl) rfl (tX10_standsAsAlways v1 u)
def fX10_takeNumber_70 (u : ab_S) : Option (Int32 × ab_S) :=
  bif decide ((u.1 0 8) ≤ 0) then (
    ab_gd [ab_ix (((sI u 0 7 ((u.1 0 7) + 1)).1 0 7) - 1) 1002] (
      some ((Int64.toInt32 ((sI u 0 7 ((u.1 0 7) + 1)).2.1 4 (nc (((sI u 0 7 ((u.1 0 7) + 1)).1 0 7) - 1)))), (sI u 0 7 ((u.1 0 7) + 1)))))
  else (
    some (0, u))
theorem tX10_takeNumber_70 (u : ab_S) : ab_G 1 9 cX10_takeNumber (some .int) 1 70 [some (vR (kO 9) 0), none, none] [] u wI (fX10_takeNumber_70 u) := by
  rw [fX10_takeNumber_70]
  refine g_seg0 (pc' := 74) (L' := [some (vR (kO 9) 0), none, none]) (st' := [vI (u.1 0 8)]) (u1 := u) [(oL 2 0, 1), (oP (.getfield 168), 3)] (by decide +kernel) rfl rfl ?_
  refine g_zle (off := 5) (tgt := 79) (pc2 := 77) (by decide +kernel) (by decide) rfl ?_ ?_
  · refine g_seg (pc' := 101) (L' := [some (vR (kO 9) 0), none, none]) (st' := [vI (Int64.toInt32 ((sI u 0 7 ((u.1 0 7) + 1)).2.1 4 (nc (((sI u 0 7 ((u.1 0 7) + 1)).1 0 7) - 1))))]) (u1 := (sI u 0 7 ((u.1 0 7) + 1))) [(oL 2 0, 1), (oP .dup, 1), (oP (.getfield 165), 3), (oC 1, 1), (oP .iadd, 1), (oP (.putfield 165), 3), (oL 2 0, 1), (oP (.getfield 30), 3), (oL 2 0, 1), (oP (.getfield 165), 3), (oC 1, 1), (oP .isub, 1), (oP .laload, 1), (oP .l2i, 1)] (by decide +kernel) rfl rfl ?_
    exact g_iret (by decide +kernel) rfl
  · refine g_seg0 (pc' := 78) (L' := [some (vR (kO 9) 0), none, none]) (st' := [vI 0]) (u1 := u) [(oC 0, 1)] (by decide +kernel) rfl rfl ?_
    exact g_iret (by decide +kernel) rfl
def fX10_takeNumber_65 (u : ab_S) : Option (Int32 × ab_S) :=
  (fX10_wrong 4 u).bind fun q1 =>
    fX10_takeNumber_70 q1.2
theorem tX10_takeNumber_65 (u : ab_S) : ab_G 1 9 cX10_takeNumber (some .int) 1 65 [some (vR (kO 9) 0), none, none] [] u wI (fX10_takeNumber_65 u) := by
  rw [fX10_takeNumber_65]
  refine g_seg0 (pc' := 67) (L' := [some (vR (kO 9) 0), none, none]) (st' := [vI 4, vR (kO 9) 0]) (u1 := u) [(oL 2 0, 1), (oC 4, 1)] (by decide +kernel) rfl rfl ?_
  refine g_callV (k := 174) (pc2 := 70) (st := []) (CX10_wrong 4 u) miX10_wrong mvX10_wrong rfl (by decide) lk9_174 wV_ok (by decide +kernel) rfl (Nat.le_of_ble_eq_true rfl) (by decide) rfl (fun q1 hq1 => ?_)
  exact tX10_takeNumber_70 q1.2
def fX10_takeNumber_28 (v1 : Int32) (v2 : Int32) (u : ab_S) : Option (Int32 × ab_S) :=
  bif decide ((u.1 0 8) = 0) then (
    ab_gd [ab_ix (u.1 0 7) 1002] (
      bif decide ((u.2.1 4 (nc (u.1 0 7))) < (Int32.toInt64 v1)) then (
        fX10_takeNumber_65 u)
      else (
        ab_gd [ab_ix (u.1 0 7) 1002] (
          bif decide ((u.2.1 4 (nc (u.1 0 7))) ≤ (Int32.toInt64 v2)) then (
            fX10_takeNumber_70 u)
          else (
            fX10_takeNumber_65 u)))))
  else (
    fX10_takeNumber_70 u)
theorem tX10_takeNumber_28 (v1 : Int32) (v2 : Int32) (u : ab_S) : ab_G 1 9 cX10_takeNumber (some .int) 1 28 [some (vR (kO 9) 0), some (vI v1), some (vI v2)] [] u wI (fX10_takeNumber_28 v1 v2 u) := by
  rw [fX10_takeNumber_28]
  refine g_seg0 (pc' := 32) (L' := [some (vR (kO 9) 0), some (vI v1), some (vI v2)]) (st' := [vI (u.1 0 8)]) (u1 := u) [(oL 2 0, 1), (oP (.getfield 168), 3)] (by decide +kernel) rfl rfl ?_
  refine g_zne (off := 38) (tgt := 70) (pc2 := 35) (by decide +kernel) (by decide) rfl ?_ ?_
  · exact g_jump [true, false, false] rfl (tX10_takeNumber_70 u)
  · refine g_seg (pc' := 46) (L' := [some (vR (kO 9) 0), some (vI v1), some (vI v2)]) (st' := [vL (Int32.toInt64 v1), vL (u.2.1 4 (nc (u.1 0 7)))]) (u1 := u) [(oL 2 0, 1), (oP (.getfield 30), 3), (oL 2 0, 1), (oP (.getfield 165), 3), (oP .laload, 1), (oL 0 1, 1), (oP .i2l, 1)] (by decide +kernel) rfl rfl ?_
    refine g_llt (off := 18) (tgt := 65) (pc1 := 47) (pc2 := 50) (by decide +kernel) rfl (by decide +kernel) (by decide) rfl ?_ ?_
    · exact g_jump [true, false, false] rfl (tX10_takeNumber_65 u)
    · refine g_seg (pc' := 61) (L' := [some (vR (kO 9) 0), some (vI v1), some (vI v2)]) (st' := [vL (Int32.toInt64 v2), vL (u.2.1 4 (nc (u.1 0 7)))]) (u1 := u) [(oL 2 0, 1), (oP (.getfield 30), 3), (oL 2 0, 1), (oP (.getfield 165), 3), (oP .laload, 1), (oL 0 2, 1), (oP .i2l, 1)] (by decide +kernel) rfl rfl ?_
      refine g_lle (off := 8) (tgt := 70) (pc1 := 62) (pc2 := 65) (by decide +kernel) rfl (by decide +kernel) (by decide) rfl ?_ ?_
      · exact g_jump [true, false, false] rfl (tX10_takeNumber_70 u)
      · exact g_jump [true, false, false] rfl (tX10_takeNumber_65 u)
def fX10_takeNumber (v1 : Int32) (v2 : Int32) (u : ab_S) : Option (Int32 × ab_S) :=
  bif decide ((u.1 0 8) = 0) then (
    ab_gd [ab_ix (u.1 0 7) 1002] (
      bif decide ((u.1 2 (nc (u.1 0 7))) = 2) then (
        fX10_takeNumber_28 v1 v2 u)
      else (
        (fX10_wrong 1 u).bind fun q2 =>
          fX10_takeNumber_70 q2.2)))
  else (
    fX10_takeNumber_28 v1 v2 u)
theorem tX10_takeNumber (v1 : Int32) (v2 : Int32) (u : ab_S) : ab_G 1 9 cX10_takeNumber (some .int) 1 0 [some (vR (kO 9) 0), some (vI v1), some (vI v2)] [] u wI (fX10_takeNumber v1 v2 u) := by
  rw [fX10_takeNumber]
  refine g_seg0 (pc' := 4) (L' := [some (vR (kO 9) 0), some (vI v1), some (vI v2)]) (st' := [vI (u.1 0 8)]) (u1 := u) [(oL 2 0, 1), (oP (.getfield 168), 3)] (by decide +kernel) rfl rfl ?_
  refine g_zne (off := 24) (tgt := 28) (pc2 := 7) (by decide +kernel) (by decide) rfl ?_ ?_
  · exact tX10_takeNumber_28 v1 v2 u
  · refine g_seg (pc' := 17) (L' := [some (vR (kO 9) 0), some (vI v1), some (vI v2)]) (st' := [vI 2, vI (u.1 2 (nc (u.1 0 7)))]) (u1 := u) [(oL 2 0, 1), (oP (.getfield 24), 3), (oL 2 0, 1), (oP (.getfield 165), 3), (oP .iaload, 1), (oC 2, 1)] (by decide +kernel) rfl rfl ?_
    refine g_ieq (off := 11) (tgt := 28) (pc2 := 20) (by decide +kernel) (by decide) rfl ?_ ?_
    · exact tX10_takeNumber_28 v1 v2 u
    · refine g_seg0 (pc' := 22) (L' := [some (vR (kO 9) 0), some (vI v1), some (vI v2)]) (st' := [vI 1, vR (kO 9) 0]) (u1 := u) [(oL 2 0, 1), (oC 1, 1)] (by decide +kernel) rfl rfl ?_
      refine g_callV (k := 174) (pc2 := 25) (st := []) (CX10_wrong 1 u) miX10_wrong mvX10_wrong rfl (by decide) lk9_174 wV_ok (by decide +kernel) rfl (Nat.le_of_ble_eq_true rfl) (by decide) rfl (fun q2 hq2 => ?_)
      refine g_goto (off := 45) (tgt := 70) (by decide +kernel) (by decide) ?_
      exact g_jump [true, false, false] rfl (tX10_takeNumber_70 q2.2)
theorem CX10_takeNumber (v1 : Int32) (v2 : Int32) (u : ab_S) : ab_C 1 yX10_takeNumber cX10_takeNumber 3 (some .int) 1 [vR (kO 9) 0, vI v1, vI v2] u wI (fX10_takeNumber v1 v2 u) := ab_entry (by decide +kernel) rfl (by decide) (by decide) (fun _ => Nat.le_of_ble_eq_true rfl) rfl (tX10_takeNumber v1 v2 u)
def fX10_takeAfter (v1 : Int32) (v2 : Int32) (v3 : Int32) (u : ab_S) : Option (Int32 × ab_S) :=
  (fX10_takeWord v1 u).bind fun q1 =>
    (fX10_takeNumber v2 v3 q1.2).bind fun q2 =>
      some (q2.1, q2.2)
theorem tX10_takeAfter (v1 : Int32) (v2 : Int32) (v3 : Int32) (u : ab_S) : ab_G 1 9 cX10_takeAfter (some .int) 3 0 [some (vR (kO 9) 0), some (vI v1), some (vI v2), some (vI v3)] [] u wI (fX10_takeAfter v1 v2 v3 u) := by
  rw [fX10_takeAfter]
  refine g_seg0 (pc' := 2) (L' := [some (vR (kO 9) 0), some (vI v1), some (vI v2), some (vI v3)]) (st' := [vI v1, vR (kO 9) 0]) (u1 := u) [(oL 2 0, 1), (oL 0 1, 1)] (by decide +kernel) rfl rfl ?_
  refine g_callV (k := 183) (pc2 := 5) (st := []) (CX10_takeWord v1 u) miX10_takeWord mvX10_takeWord rfl (by decide) lk9_183 wV_ok (by decide +kernel) rfl (Nat.le_of_ble_eq_true rfl) (by decide) rfl (fun q1 hq1 => ?_)
  refine g_seg0 (pc' := 8) (L' := [some (vR (kO 9) 0), some (vI v1), some (vI v2), some (vI v3)]) (st' := [vI v3, vI v2, vR (kO 9) 0]) (u1 := q1.2) [(oL 2 0, 1), (oL 0 2, 1), (oL 0 3, 1)] (by decide +kernel) rfl rfl ?_
  refine g_callV (k := 186) (pc2 := 11) (st := []) (CX10_takeNumber v2 v3 q1.2) miX10_takeNumber mvX10_takeNumber rfl (by decide) lk9_186 wI_ok (by decide +kernel) rfl (Nat.le_of_ble_eq_true rfl) (by decide) rfl (fun q2 hq2 => ?_)
  exact g_iret (by decide +kernel) rfl
theorem CX10_takeAfter (v1 : Int32) (v2 : Int32) (v3 : Int32) (u : ab_S) : ab_C 1 yX10_takeAfter cX10_takeAfter 4 (some .int) 3 [vR (kO 9) 0, vI v1, vI v2, vI v3] u wI (fX10_takeAfter v1 v2 v3 u) := ab_entry (by decide +kernel) rfl (by decide) (by decide) (fun _ => Nat.le_of_ble_eq_true rfl) rfl (tX10_takeAfter v1 v2 v3 u)
def fX10_wordHere_5 : Nat → Int32 → Int32 → Int32 → Int32 → ab_S → Option (Int32 × ab_S)
  | 0, _, _, _, _, _ => none
  | n + 1, v1, v2, v3, v4, u =>
  bif decide (v4 < v2) then (
    (fX10_isWord (v1 + v4) u).bind fun q1 =>
      bif decide (q1.1 = 0) then (
        (fX10_wordHere_5 n) v1 v2 v3 (v4 + 1) q1.2)
      else (
        (fX10_wordHere_5 n) v1 v2 v4 (v4 + 1) q1.2))
  else (
    some (v3, u))
theorem tX10_wordHere_5 : ∀ (n : Nat) (v1 : Int32) (v2 : Int32) (v3 : Int32) (v4 : Int32) (u : ab_S), ab_G 1 9 cX10_wordHere (some .int) 1 5 [some (vR (kO 9) 0), some (vI v1), some (vI v2), some (vI v3), some (vI v4)] [] u wI (fX10_wordHere_5 n v1 v2 v3 v4 u) := by
  intro n
  induction n with
  | zero => intros; exact g_none
  | succ n ih =>
    intro v1 v2 v3 v4 u
    rw [fX10_wordHere_5]
    refine g_seg0 (pc' := 8) (L' := [some (vR (kO 9) 0), some (vI v1), some (vI v2), some (vI v3), some (vI v4)]) (st' := [vI v2, vI v4]) (u1 := u) [(oL 0 4, 2), (oL 0 2, 1)] (by decide +kernel) rfl rfl ?_
    refine g_ige (off := 27) (tgt := 35) (pc2 := 11) (by decide +kernel) (by decide) rfl ?_ ?_
    · refine g_seg0 (pc' := 36) (L' := [some (vR (kO 9) 0), some (vI v1), some (vI v2), some (vI v3), some (vI v4)]) (st' := [vI v3]) (u1 := u) [(oL 0 3, 1)] (by decide +kernel) rfl rfl ?_
      exact g_iret (by decide +kernel) rfl
    · refine g_seg0 (pc' := 16) (L' := [some (vR (kO 9) 0), some (vI v1), some (vI v2), some (vI v3), some (vI v4)]) (st' := [vI (v1 + v4), vR (kO 9) 0]) (u1 := u) [(oL 2 0, 1), (oL 0 1, 1), (oL 0 4, 2), (oP .iadd, 1)] (by decide +kernel) rfl rfl ?_
      refine g_callV (k := 177) (pc2 := 19) (st := []) (CX10_isWord (v1 + v4) u) miX10_isWord mvX10_isWord rfl (by decide) lk9_177 wI_ok (by decide +kernel) rfl (Nat.le_of_ble_eq_true rfl) (by decide) rfl (fun q1 hq1 => ?_)
      refine g_zeq (off := 8) (tgt := 27) (pc2 := 22) (by decide +kernel) (by decide) rfl ?_ ?_
      · refine g_seg0 (pc' := 32) (L' := [some (vR (kO 9) 0), some (vI v1), some (vI v2), some (vI v3), some (vI (v4 + 1))]) (st' := []) (u1 := q1.2) [(oL 0 3, 1), (oL 3 3, 1), (oN 4 1, 3)] (by decide +kernel) rfl rfl ?_
        refine g_goto (off := (-27)) (tgt := 5) (by decide +kernel) (by decide) ?_
        exact ih v1 v2 v3 (v4 + 1) q1.2
      · refine g_seg0 (pc' := 24) (L' := [some (vR (kO 9) 0), some (vI v1), some (vI v2), some (vI v3), some (vI v4)]) (st' := [vI v4]) (u1 := q1.2) [(oL 0 4, 2)] (by decide +kernel) rfl rfl ?_
        refine g_goto (off := 4) (tgt := 28) (by decide +kernel) (by decide) ?_
        refine g_seg0 (pc' := 32) (L' := [some (vR (kO 9) 0), some (vI v1), some (vI v2), some (vI v4), some (vI (v4 + 1))]) (st' := []) (u1 := q1.2) [(oL 3 3, 1), (oN 4 1, 3)] (by decide +kernel) rfl rfl ?_
        refine g_goto (off := (-27)) (tgt := 5) (by decide +kernel) (by decide) ?_
        exact ih v1 v2 v4 (v4 + 1) q1.2
def fX10_wordHere (v1 : Int32) (v2 : Int32) (u : ab_S) : Option (Int32 × ab_S) :=
  fX10_wordHere_5 fu v1 v2 (-1) 0 u
theorem tX10_wordHere (v1 : Int32) (v2 : Int32) (u : ab_S) : ab_G 1 9 cX10_wordHere (some .int) 1 0 [some (vR (kO 9) 0), some (vI v1), some (vI v2), none, none] [] u wI (fX10_wordHere v1 v2 u) := by
  rw [fX10_wordHere]
  refine g_seg0 (pc' := 5) (L' := [some (vR (kO 9) 0), some (vI v1), some (vI v2), some (vI (-1)), some (vI 0)]) (st' := []) (u1 := u) [(oC (-1), 1), (oL 3 3, 1), (oC 0, 1), (oL 3 4, 2)] (by decide +kernel) rfl rfl ?_
  exact tX10_wordHere_5 fu v1 v2 (-1) 0 u
theorem CX10_wordHere (v1 : Int32) (v2 : Int32) (u : ab_S) : ab_C 1 yX10_wordHere cX10_wordHere 5 (some .int) 1 [vR (kO 9) 0, vI v1, vI v2] u wI (fX10_wordHere v1 v2 u) := ab_entry (by decide +kernel) rfl (by decide) (by decide) (fun _ => Nat.le_of_ble_eq_true rfl) rfl (tX10_wordHere v1 v2 u)
def fX10_takeOne_51 (v3 : Int32) (s1 : Int32) (s2 : Int32) (u : ab_S) : Option (Int32 × ab_S) :=
  bif decide (((sI u 0 7 (s1 + s2)).1 0 8) ≤ 0) then (
    some (v3, (sI u 0 7 (s1 + s2))))
  else (
    some (0, (sI u 0 7 (s1 + s2))))
theorem tX10_takeOne_51 (v3 : Int32) (s1 : Int32) (s2 : Int32) (u : ab_S) : ab_G 1 9 cX10_takeOne (some .int) 2 51 [some (vR (kO 9) 0), none, none, some (vI v3)] [vI s2, vI s1, vR (kO 9) 0] u wI (fX10_takeOne_51 v3 s1 s2 u) := by
  rw [fX10_takeOne_51]
  refine g_seg0 (pc' := 59) (L' := [some (vR (kO 9) 0), none, none, some (vI v3)]) (st' := [vI ((sI u 0 7 (s1 + s2)).1 0 8)]) (u1 := (sI u 0 7 (s1 + s2))) [(oP .iadd, 1), (oP (.putfield 165), 3), (oL 2 0, 1), (oP (.getfield 168), 3)] (by decide +kernel) rfl rfl ?_
  refine g_zle (off := 7) (tgt := 66) (pc2 := 62) (by decide +kernel) (by decide) rfl ?_ ?_
  · refine g_seg0 (pc' := 67) (L' := [some (vR (kO 9) 0), none, none, some (vI v3)]) (st' := [vI v3]) (u1 := (sI u 0 7 (s1 + s2))) [(oL 0 3, 1)] (by decide +kernel) rfl rfl ?_
    exact g_iret (by decide +kernel) rfl
  · refine g_seg0 (pc' := 63) (L' := [some (vR (kO 9) 0), none, none, some (vI v3)]) (st' := [vI 0]) (u1 := (sI u 0 7 (s1 + s2))) [(oC 0, 1)] (by decide +kernel) rfl rfl ?_
    refine g_goto (off := 4) (tgt := 67) (by decide +kernel) (by decide) ?_
    exact g_iret (by decide +kernel) rfl
def fX10_takeOne_34 (v3 : Int32) (u : ab_S) : Option (Int32 × ab_S) :=
  bif decide ((u.1 0 8) ≤ 0) then (
    fX10_takeOne_51 v3 (u.1 0 7) 1 u)
  else (
    fX10_takeOne_51 v3 (u.1 0 7) 0 u)
theorem tX10_takeOne_34 (v3 : Int32) (u : ab_S) : ab_G 1 9 cX10_takeOne (some .int) 2 34 [some (vR (kO 9) 0), none, none, some (vI v3)] [] u wI (fX10_takeOne_34 v3 u) := by
  rw [fX10_takeOne_34]
  refine g_seg0 (pc' := 43) (L' := [some (vR (kO 9) 0), none, none, some (vI v3)]) (st' := [vI (u.1 0 8), vI (u.1 0 7), vR (kO 9) 0]) (u1 := u) [(oL 2 0, 1), (oP .dup, 1), (oP (.getfield 165), 3), (oL 2 0, 1), (oP (.getfield 168), 3)] (by decide +kernel) rfl rfl ?_
  refine g_zle (off := 7) (tgt := 50) (pc2 := 46) (by decide +kernel) (by decide) rfl ?_ ?_
  · refine g_seg0 (pc' := 51) (L' := [some (vR (kO 9) 0), none, none, some (vI v3)]) (st' := [vI 1, vI (u.1 0 7), vR (kO 9) 0]) (u1 := u) [(oC 1, 1)] (by decide +kernel) rfl rfl ?_
    exact tX10_takeOne_51 v3 (u.1 0 7) 1 u
  · refine g_seg0 (pc' := 47) (L' := [some (vR (kO 9) 0), none, none, some (vI v3)]) (st' := [vI 0, vI (u.1 0 7), vR (kO 9) 0]) (u1 := u) [(oC 0, 1)] (by decide +kernel) rfl rfl ?_
    refine g_goto (off := 4) (tgt := 51) (by decide +kernel) (by decide) ?_
    exact tX10_takeOne_51 v3 (u.1 0 7) 0 u
def fX10_takeOne_17 (s0 : Int32) (u : ab_S) : Option (Int32 × ab_S) :=
  bif decide ((u.1 0 8) = 0) then (
    bif decide (s0 < 0) then (
      (fX10_wrong 1 u).bind fun q1 =>
        fX10_takeOne_34 s0 q1.2)
    else (
      fX10_takeOne_34 s0 u))
  else (
    fX10_takeOne_34 s0 u)
theorem tX10_takeOne_17 (s0 : Int32) (u : ab_S) : ab_G 1 9 cX10_takeOne (some .int) 2 17 [some (vR (kO 9) 0), none, none, none] [vI s0] u wI (fX10_takeOne_17 s0 u) := by
  rw [fX10_takeOne_17]
  refine g_seg0 (pc' := 22) (L' := [some (vR (kO 9) 0), none, none, some (vI s0)]) (st' := [vI (u.1 0 8)]) (u1 := u) [(oL 3 3, 1), (oL 2 0, 1), (oP (.getfield 168), 3)] (by decide +kernel) rfl rfl ?_
  refine g_zne (off := 12) (tgt := 34) (pc2 := 25) (by decide +kernel) (by decide) rfl ?_ ?_
  · exact tX10_takeOne_34 s0 u
  · refine g_seg0 (pc' := 26) (L' := [some (vR (kO 9) 0), none, none, some (vI s0)]) (st' := [vI s0]) (u1 := u) [(oL 0 3, 1)] (by decide +kernel) rfl rfl ?_
    refine g_zge (off := 8) (tgt := 34) (pc2 := 29) (by decide +kernel) (by decide) rfl ?_ ?_
    · exact tX10_takeOne_34 s0 u
    · refine g_seg0 (pc' := 31) (L' := [some (vR (kO 9) 0), none, none, some (vI s0)]) (st' := [vI 1, vR (kO 9) 0]) (u1 := u) [(oL 2 0, 1), (oC 1, 1)] (by decide +kernel) rfl rfl ?_
      refine g_callV (k := 174) (pc2 := 34) (st := []) (CX10_wrong 1 u) miX10_wrong mvX10_wrong rfl (by decide) lk9_174 wV_ok (by decide +kernel) rfl (Nat.le_of_ble_eq_true rfl) (by decide) rfl (fun q1 hq1 => ?_)
      exact tX10_takeOne_34 s0 q1.2
def fX10_takeOne (v1 : Int32) (v2 : Int32) (u : ab_S) : Option (Int32 × ab_S) :=
  bif decide ((u.1 0 8) ≤ 0) then (
    (fX10_wordHere v1 v2 u).bind fun q2 =>
      fX10_takeOne_17 q2.1 q2.2)
  else (
    fX10_takeOne_17 (-1) u)
theorem tX10_takeOne (v1 : Int32) (v2 : Int32) (u : ab_S) : ab_G 1 9 cX10_takeOne (some .int) 2 0 [some (vR (kO 9) 0), some (vI v1), some (vI v2), none] [] u wI (fX10_takeOne v1 v2 u) := by
  rw [fX10_takeOne]
  refine g_seg0 (pc' := 4) (L' := [some (vR (kO 9) 0), some (vI v1), some (vI v2), none]) (st' := [vI (u.1 0 8)]) (u1 := u) [(oL 2 0, 1), (oP (.getfield 168), 3)] (by decide +kernel) rfl rfl ?_
  refine g_zle (off := 7) (tgt := 11) (pc2 := 7) (by decide +kernel) (by decide) rfl ?_ ?_
  · refine g_seg0 (pc' := 14) (L' := [some (vR (kO 9) 0), some (vI v1), some (vI v2), none]) (st' := [vI v2, vI v1, vR (kO 9) 0]) (u1 := u) [(oL 2 0, 1), (oL 0 1, 1), (oL 0 2, 1)] (by decide +kernel) rfl rfl ?_
    refine g_callV (k := 190) (pc2 := 17) (st := []) (CX10_wordHere v1 v2 u) miX10_wordHere mvX10_wordHere rfl (by decide) lk9_190 wI_ok (by decide +kernel) rfl (Nat.le_of_ble_eq_true rfl) (by decide) rfl (fun q2 hq2 => ?_)
    exact g_jump [true, false, false, false] rfl (tX10_takeOne_17 q2.1 q2.2)
  · refine g_seg0 (pc' := 8) (L' := [some (vR (kO 9) 0), some (vI v1), some (vI v2), none]) (st' := [vI (-1)]) (u1 := u) [(oC (-1), 1)] (by decide +kernel) rfl rfl ?_
    refine g_goto (off := 9) (tgt := 17) (by decide +kernel) (by decide) ?_
    exact g_jump [true, false, false, false] rfl (tX10_takeOne_17 (-1) u)
theorem CX10_takeOne (v1 : Int32) (v2 : Int32) (u : ab_S) : ab_C 1 yX10_takeOne cX10_takeOne 4 (some .int) 2 [vR (kO 9) 0, vI v1, vI v2] u wI (fX10_takeOne v1 v2 u) := ab_entry (by decide +kernel) rfl (by decide) (by decide) (fun _ => Nat.le_of_ble_eq_true rfl) rfl (tX10_takeOne v1 v2 u)
def fX10_isName (u : ab_S) : Option (Int32 × ab_S) :=
  bif decide ((u.1 0 8) = 0) then (
    ab_gd [ab_ix (u.1 0 7) 1002] (
      bif decide ((u.1 2 (nc (u.1 0 7))) = 1) then (
        (fX10_wordHere 0 19 u).bind fun q1 =>
          bif decide (q1.1 < 0) then (
            ab_gd [ab_b1 1] (some (1, q1.2)))
          else (
            ab_gd [ab_b1 0] (some (0, q1.2))))
      else (
        ab_gd [ab_b1 0] (some (0, u)))))
  else (
    ab_gd [ab_b1 0] (some (0, u)))
theorem tX10_isName (u : ab_S) : ab_G 1 9 cX10_isName (some .boolean) 2 0 [some (vR (kO 9) 0)] [] u wI (fX10_isName u) := by
  rw [fX10_isName]
  refine g_seg0 (pc' := 4) (L' := [some (vR (kO 9) 0)]) (st' := [vI (u.1 0 8)]) (u1 := u) [(oL 2 0, 1), (oP (.getfield 168), 3)] (by decide +kernel) rfl rfl ?_
  refine g_zne (off := 30) (tgt := 34) (pc2 := 7) (by decide +kernel) (by decide) rfl ?_ ?_
  · refine g_seg0 (pc' := 35) (L' := [some (vR (kO 9) 0)]) (st' := [vI 0]) (u1 := u) [(oC 0, 1)] (by decide +kernel) rfl rfl ?_
    exact g_zret (by decide +kernel) rfl
  · refine g_seg (pc' := 17) (L' := [some (vR (kO 9) 0)]) (st' := [vI 1, vI (u.1 2 (nc (u.1 0 7)))]) (u1 := u) [(oL 2 0, 1), (oP (.getfield 24), 3), (oL 2 0, 1), (oP (.getfield 165), 3), (oP .iaload, 1), (oC 1, 1)] (by decide +kernel) rfl rfl ?_
    refine g_ine (off := 17) (tgt := 34) (pc2 := 20) (by decide +kernel) (by decide) rfl ?_ ?_
    · refine g_seg0 (pc' := 35) (L' := [some (vR (kO 9) 0)]) (st' := [vI 0]) (u1 := u) [(oC 0, 1)] (by decide +kernel) rfl rfl ?_
      exact g_zret (by decide +kernel) rfl
    · refine g_seg0 (pc' := 24) (L' := [some (vR (kO 9) 0)]) (st' := [vI 19, vI 0, vR (kO 9) 0]) (u1 := u) [(oL 2 0, 1), (oC 0, 1), (oC 19, 2)] (by decide +kernel) rfl rfl ?_
      refine g_callV (k := 190) (pc2 := 27) (st := []) (CX10_wordHere 0 19 u) miX10_wordHere mvX10_wordHere rfl (by decide) lk9_190 wI_ok (by decide +kernel) rfl (Nat.le_of_ble_eq_true rfl) (by decide) rfl (fun q1 hq1 => ?_)
      refine g_zge (off := 7) (tgt := 34) (pc2 := 30) (by decide +kernel) (by decide) rfl ?_ ?_
      · refine g_seg0 (pc' := 35) (L' := [some (vR (kO 9) 0)]) (st' := [vI 0]) (u1 := q1.2) [(oC 0, 1)] (by decide +kernel) rfl rfl ?_
        exact g_zret (by decide +kernel) rfl
      · refine g_seg0 (pc' := 31) (L' := [some (vR (kO 9) 0)]) (st' := [vI 1]) (u1 := q1.2) [(oC 1, 1)] (by decide +kernel) rfl rfl ?_
        refine g_goto (off := 4) (tgt := 35) (by decide +kernel) (by decide) ?_
        exact g_zret (by decide +kernel) rfl
theorem CX10_isName (u : ab_S) : ab_C 1 yX10_isName cX10_isName 1 (some .boolean) 2 [vR (kO 9) 0] u wI (fX10_isName u) := ab_entry (by decide +kernel) rfl (by decide) (by decide) (fun _ => Nat.le_of_ble_eq_true rfl) rfl (tX10_isName u)
def fX10_nameAt_40 (k2 : Int32 → Int32 → ab_S → Option (Int32 × ab_S)) (v1 : Int32) (v2 : Int32) (s0 : Int64) (u : ab_S) : Option (Int32 × ab_S) :=
  ab_gd [ab_ix (u.1 0 7) 1002] (
    bif decide (s0 = (u.2.1 4 (nc (u.1 0 7)))) then (
      bif decide (v1 = 0) then (
        ab_gd [ab_ix v2 14] (
          some ((u.1 11 (nc v2)), u)))
      else (
        ab_gd [ab_ix v2 14] (
          some ((u.1 12 (nc v2)), u))))
    else (
      k2 v1 (v2 + 1) u))
theorem tX10_nameAt_40 (k2 : Int32 → Int32 → ab_S → Option (Int32 × ab_S)) (hk2 : ∀ (v1 : Int32) (v2 : Int32) (u : ab_S), ab_G 1 9 cX10_nameAt (some .int) 0 2 [some (vR (kO 9) 0), some (vI v1), some (vI v2)] [] u wI (k2 v1 v2 u)) (v1 : Int32) (v2 : Int32) (s0 : Int64) (u : ab_S) : ab_G 1 9 cX10_nameAt (some .int) 0 40 [some (vR (kO 9) 0), some (vI v1), some (vI v2)] [vL s0] u wI (fX10_nameAt_40 k2 v1 v2 s0 u) := by
  rw [fX10_nameAt_40]
  refine g_seg (pc' := 49) (L' := [some (vR (kO 9) 0), some (vI v1), some (vI v2)]) (st' := [vL (u.2.1 4 (nc (u.1 0 7))), vL s0]) (u1 := u) [(oL 2 0, 1), (oP (.getfield 30), 3), (oL 2 0, 1), (oP (.getfield 165), 3), (oP .laload, 1)] (by decide +kernel) rfl rfl ?_
  refine g_lne (off := 23) (tgt := 73) (pc1 := 50) (pc2 := 53) (by decide +kernel) rfl (by decide +kernel) (by decide) rfl ?_ ?_
  · refine g_seg0 (pc' := 76) (L' := [some (vR (kO 9) 0), some (vI v1), some (vI (v2 + 1))]) (st' := []) (u1 := u) [(oN 2 1, 3)] (by decide +kernel) rfl rfl ?_
    refine g_goto (off := (-74)) (tgt := 2) (by decide +kernel) (by decide) ?_
    exact hk2 v1 (v2 + 1) u
  · refine g_seg0 (pc' := 54) (L' := [some (vR (kO 9) 0), some (vI v1), some (vI v2)]) (st' := [vI v1]) (u1 := u) [(oL 0 1, 1)] (by decide +kernel) rfl rfl ?_
    refine g_zeq (off := 12) (tgt := 66) (pc2 := 57) (by decide +kernel) (by decide) rfl ?_ ?_
    · refine g_seg (pc' := 72) (L' := [some (vR (kO 9) 0), some (vI v1), some (vI v2)]) (st' := [vI (u.1 11 (nc v2))]) (u1 := u) [(oL 2 0, 1), (oP (.getfield 98), 3), (oL 0 2, 1), (oP .iaload, 1)] (by decide +kernel) rfl rfl ?_
      exact g_iret (by decide +kernel) rfl
    · refine g_seg (pc' := 63) (L' := [some (vR (kO 9) 0), some (vI v1), some (vI v2)]) (st' := [vI (u.1 12 (nc v2))]) (u1 := u) [(oL 2 0, 1), (oP (.getfield 101), 3), (oL 0 2, 1), (oP .iaload, 1)] (by decide +kernel) rfl rfl ?_
      refine g_goto (off := 9) (tgt := 72) (by decide +kernel) (by decide) ?_
      exact g_iret (by decide +kernel) rfl
def fX10_nameAt_18 (k2 : Int32 → Int32 → ab_S → Option (Int32 × ab_S)) (v1 : Int32) (v2 : Int32) (s0 : Int32) (s1 : Int32) (u : ab_S) : Option (Int32 × ab_S) :=
  bif decide (s0 < s1) then (
    bif decide (v1 = 0) then (
      ab_gd [ab_ix v2 14] (
        fX10_nameAt_40 k2 v1 v2 (u.2.1 9 (nc v2)) u))
    else (
      ab_gd [ab_ix v2 14] (
        fX10_nameAt_40 k2 v1 v2 (u.2.1 10 (nc v2)) u)))
  else (
    some ((-1), u))
theorem tX10_nameAt_18 (k2 : Int32 → Int32 → ab_S → Option (Int32 × ab_S)) (hk2 : ∀ (v1 : Int32) (v2 : Int32) (u : ab_S), ab_G 1 9 cX10_nameAt (some .int) 0 2 [some (vR (kO 9) 0), some (vI v1), some (vI v2)] [] u wI (k2 v1 v2 u)) (v1 : Int32) (v2 : Int32) (s0 : Int32) (s1 : Int32) (u : ab_S) : ab_G 1 9 cX10_nameAt (some .int) 0 18 [some (vR (kO 9) 0), some (vI v1), some (vI v2)] [vI s1, vI s0] u wI (fX10_nameAt_18 k2 v1 v2 s0 s1 u) := by
  rw [fX10_nameAt_18]
  refine g_ige (off := 61) (tgt := 79) (pc2 := 21) (by decide +kernel) (by decide) rfl ?_ ?_
  · refine g_seg0 (pc' := 80) (L' := [some (vR (kO 9) 0), some (vI v1), some (vI v2)]) (st' := [vI (-1)]) (u1 := u) [(oC (-1), 1)] (by decide +kernel) rfl rfl ?_
    exact g_iret (by decide +kernel) rfl
  · refine g_seg0 (pc' := 22) (L' := [some (vR (kO 9) 0), some (vI v1), some (vI v2)]) (st' := [vI v1]) (u1 := u) [(oL 0 1, 1)] (by decide +kernel) rfl rfl ?_
    refine g_zeq (off := 12) (tgt := 34) (pc2 := 25) (by decide +kernel) (by decide) rfl ?_ ?_
    · refine g_seg (pc' := 40) (L' := [some (vR (kO 9) 0), some (vI v1), some (vI v2)]) (st' := [vL (u.2.1 9 (nc v2))]) (u1 := u) [(oL 2 0, 1), (oP (.getfield 92), 3), (oL 0 2, 1), (oP .laload, 1)] (by decide +kernel) rfl rfl ?_
      exact tX10_nameAt_40 k2 hk2 v1 v2 (u.2.1 9 (nc v2)) u
    · refine g_seg (pc' := 31) (L' := [some (vR (kO 9) 0), some (vI v1), some (vI v2)]) (st' := [vL (u.2.1 10 (nc v2))]) (u1 := u) [(oL 2 0, 1), (oP (.getfield 95), 3), (oL 0 2, 1), (oP .laload, 1)] (by decide +kernel) rfl rfl ?_
      refine g_goto (off := 9) (tgt := 40) (by decide +kernel) (by decide) ?_
      exact tX10_nameAt_40 k2 hk2 v1 v2 (u.2.1 10 (nc v2)) u
def fX10_nameAt_2 : Nat → Int32 → Int32 → ab_S → Option (Int32 × ab_S)
  | 0, _, _, _ => none
  | n + 1, v1, v2, u =>
  bif decide (v1 = 0) then (
    fX10_nameAt_18 (fX10_nameAt_2 n) v1 v2 v2 (u.1 0 18) u)
  else (
    fX10_nameAt_18 (fX10_nameAt_2 n) v1 v2 v2 (u.1 0 19) u)
theorem tX10_nameAt_2 : ∀ (n : Nat) (v1 : Int32) (v2 : Int32) (u : ab_S), ab_G 1 9 cX10_nameAt (some .int) 0 2 [some (vR (kO 9) 0), some (vI v1), some (vI v2)] [] u wI (fX10_nameAt_2 n v1 v2 u) := by
  intro n
  induction n with
  | zero => intros; exact g_none
  | succ n ih =>
    intro v1 v2 u
    rw [fX10_nameAt_2]
    refine g_seg0 (pc' := 4) (L' := [some (vR (kO 9) 0), some (vI v1), some (vI v2)]) (st' := [vI v1, vI v2]) (u1 := u) [(oL 0 2, 1), (oL 0 1, 1)] (by decide +kernel) rfl rfl ?_
    refine g_zeq (off := 10) (tgt := 14) (pc2 := 7) (by decide +kernel) (by decide) rfl ?_ ?_
    · refine g_seg0 (pc' := 18) (L' := [some (vR (kO 9) 0), some (vI v1), some (vI v2)]) (st' := [vI (u.1 0 18), vI v2]) (u1 := u) [(oL 2 0, 1), (oP (.getfield 196), 3)] (by decide +kernel) rfl rfl ?_
      exact tX10_nameAt_18 (fX10_nameAt_2 n) ih v1 v2 v2 (u.1 0 18) u
    · refine g_seg0 (pc' := 11) (L' := [some (vR (kO 9) 0), some (vI v1), some (vI v2)]) (st' := [vI (u.1 0 19), vI v2]) (u1 := u) [(oL 2 0, 1), (oP (.getfield 193), 3)] (by decide +kernel) rfl rfl ?_
      refine g_goto (off := 7) (tgt := 18) (by decide +kernel) (by decide) ?_
      exact tX10_nameAt_18 (fX10_nameAt_2 n) ih v1 v2 v2 (u.1 0 19) u
def fX10_nameAt (v1 : Int32) (u : ab_S) : Option (Int32 × ab_S) :=
  fX10_nameAt_2 fu v1 0 u
theorem tX10_nameAt (v1 : Int32) (u : ab_S) : ab_G 1 9 cX10_nameAt (some .int) 0 0 [some (vR (kO 9) 0), some (vI v1), none] [] u wI (fX10_nameAt v1 u) := by
  rw [fX10_nameAt]
  refine g_seg0 (pc' := 2) (L' := [some (vR (kO 9) 0), some (vI v1), some (vI 0)]) (st' := []) (u1 := u) [(oC 0, 1), (oL 3 2, 1)] (by decide +kernel) rfl rfl ?_
  exact tX10_nameAt_2 fu v1 0 u
theorem CX10_nameAt (v1 : Int32) (u : ab_S) : ab_C 1 yX10_nameAt cX10_nameAt 3 (some .int) 0 [vR (kO 9) 0, vI v1] u wI (fX10_nameAt v1 u) := ab_entry (by decide +kernel) rfl (by decide) (by decide) (fun _ => Nat.le_of_ble_eq_true rfl) rfl (tX10_nameAt v1 u)
def fX10_takeTold_104 (v4 : Int32) (s1 : Int32) (s2 : Int32) (u : ab_S) : Option (Int32 × ab_S) :=
  bif decide (((sI u 0 7 (s1 + s2)).1 0 8) ≤ 0) then (
    some (v4, (sI u 0 7 (s1 + s2))))
  else (
    some (0, (sI u 0 7 (s1 + s2))))
theorem tX10_takeTold_104 (v4 : Int32) (s1 : Int32) (s2 : Int32) (u : ab_S) : ab_G 1 9 cX10_takeTold (some .int) 3 104 [some (vR (kO 9) 0), none, none, none, some (vI v4)] [vI s2, vI s1, vR (kO 9) 0] u wI (fX10_takeTold_104 v4 s1 s2 u) := by
  rw [fX10_takeTold_104]
  refine g_seg0 (pc' := 112) (L' := [some (vR (kO 9) 0), none, none, none, some (vI v4)]) (st' := [vI ((sI u 0 7 (s1 + s2)).1 0 8)]) (u1 := (sI u 0 7 (s1 + s2))) [(oP .iadd, 1), (oP (.putfield 165), 3), (oL 2 0, 1), (oP (.getfield 168), 3)] (by decide +kernel) rfl rfl ?_
  refine g_zle (off := 7) (tgt := 119) (pc2 := 115) (by decide +kernel) (by decide) rfl ?_ ?_
  · refine g_seg0 (pc' := 121) (L' := [some (vR (kO 9) 0), none, none, none, some (vI v4)]) (st' := [vI v4]) (u1 := (sI u 0 7 (s1 + s2))) [(oL 0 4, 2)] (by decide +kernel) rfl rfl ?_
    exact g_iret (by decide +kernel) rfl
  · refine g_seg0 (pc' := 116) (L' := [some (vR (kO 9) 0), none, none, none, some (vI v4)]) (st' := [vI 0]) (u1 := (sI u 0 7 (s1 + s2))) [(oC 0, 1)] (by decide +kernel) rfl rfl ?_
    refine g_goto (off := 5) (tgt := 121) (by decide +kernel) (by decide) ?_
    exact g_iret (by decide +kernel) rfl
def fX10_takeTold_87 (v4 : Int32) (u : ab_S) : Option (Int32 × ab_S) :=
  bif decide ((u.1 0 8) ≤ 0) then (
    fX10_takeTold_104 v4 (u.1 0 7) 1 u)
  else (
    fX10_takeTold_104 v4 (u.1 0 7) 0 u)
theorem tX10_takeTold_87 (v4 : Int32) (u : ab_S) : ab_G 1 9 cX10_takeTold (some .int) 3 87 [some (vR (kO 9) 0), none, none, none, some (vI v4)] [] u wI (fX10_takeTold_87 v4 u) := by
  rw [fX10_takeTold_87]
  refine g_seg0 (pc' := 96) (L' := [some (vR (kO 9) 0), none, none, none, some (vI v4)]) (st' := [vI (u.1 0 8), vI (u.1 0 7), vR (kO 9) 0]) (u1 := u) [(oL 2 0, 1), (oP .dup, 1), (oP (.getfield 165), 3), (oL 2 0, 1), (oP (.getfield 168), 3)] (by decide +kernel) rfl rfl ?_
  refine g_zle (off := 7) (tgt := 103) (pc2 := 99) (by decide +kernel) (by decide) rfl ?_ ?_
  · refine g_seg0 (pc' := 104) (L' := [some (vR (kO 9) 0), none, none, none, some (vI v4)]) (st' := [vI 1, vI (u.1 0 7), vR (kO 9) 0]) (u1 := u) [(oC 1, 1)] (by decide +kernel) rfl rfl ?_
    exact tX10_takeTold_104 v4 (u.1 0 7) 1 u
  · refine g_seg0 (pc' := 100) (L' := [some (vR (kO 9) 0), none, none, none, some (vI v4)]) (st' := [vI 0, vI (u.1 0 7), vR (kO 9) 0]) (u1 := u) [(oC 0, 1)] (by decide +kernel) rfl rfl ?_
    refine g_goto (off := 4) (tgt := 104) (by decide +kernel) (by decide) ?_
    exact tX10_takeTold_104 v4 (u.1 0 7) 0 u
def fX10_takeTold_65 (v3 : Int32) (v4 : Int32) (u : ab_S) : Option (Int32 × ab_S) :=
  bif decide ((u.1 0 8) = 0) then (
    bif decide (((v3 >>> (v4 &&& 31)) &&& 1) = 1) then (
      (fX10_wrong 3 u).bind fun q1 =>
        fX10_takeTold_87 v4 q1.2)
    else (
      fX10_takeTold_87 v4 u))
  else (
    fX10_takeTold_87 v4 u)
theorem tX10_takeTold_65 (v3 : Int32) (v4 : Int32) (u : ab_S) : ab_G 1 9 cX10_takeTold (some .int) 3 65 [some (vR (kO 9) 0), none, none, some (vI v3), some (vI v4)] [] u wI (fX10_takeTold_65 v3 v4 u) := by
  rw [fX10_takeTold_65]
  refine g_seg0 (pc' := 69) (L' := [some (vR (kO 9) 0), none, none, some (vI v3), some (vI v4)]) (st' := [vI (u.1 0 8)]) (u1 := u) [(oL 2 0, 1), (oP (.getfield 168), 3)] (by decide +kernel) rfl rfl ?_
  refine g_zne (off := 18) (tgt := 87) (pc2 := 72) (by decide +kernel) (by decide) rfl ?_ ?_
  · exact g_jump [true, false, false, false, true] rfl (tX10_takeTold_87 v4 u)
  · refine g_seg0 (pc' := 79) (L' := [some (vR (kO 9) 0), none, none, some (vI v3), some (vI v4)]) (st' := [vI 1, vI ((v3 >>> (v4 &&& 31)) &&& 1)]) (u1 := u) [(oL 0 3, 1), (oL 0 4, 2), (oP .ishr, 1), (oC 1, 1), (oP .iand, 1), (oC 1, 1)] (by decide +kernel) rfl rfl ?_
    refine g_ine (off := 8) (tgt := 87) (pc2 := 82) (by decide +kernel) (by decide) rfl ?_ ?_
    · exact g_jump [true, false, false, false, true] rfl (tX10_takeTold_87 v4 u)
    · refine g_seg0 (pc' := 84) (L' := [some (vR (kO 9) 0), none, none, some (vI v3), some (vI v4)]) (st' := [vI 3, vR (kO 9) 0]) (u1 := u) [(oL 2 0, 1), (oC 3, 1)] (by decide +kernel) rfl rfl ?_
      refine g_callV (k := 174) (pc2 := 87) (st := []) (CX10_wrong 3 u) miX10_wrong mvX10_wrong rfl (by decide) lk9_174 wV_ok (by decide +kernel) rfl (Nat.le_of_ble_eq_true rfl) (by decide) rfl (fun q1 hq1 => ?_)
      exact g_jump [true, false, false, false, true] rfl (tX10_takeTold_87 v4 q1.2)
def fX10_takeTold_37 (v3 : Int32) (s0 : Int32) (u : ab_S) : Option (Int32 × ab_S) :=
  bif decide ((u.1 0 8) = 0) then (
    (fX10_within s0 0 7 u).bind fun q2 =>
      bif decide (q2.1 = 0) then (
        (fX10_wrong 2 q2.2).bind fun q3 =>
          fX10_takeTold_87 s0 q3.2)
      else (
        fX10_takeTold_65 v3 s0 q2.2))
  else (
    fX10_takeTold_65 v3 s0 u)
theorem tX10_takeTold_37 (v3 : Int32) (s0 : Int32) (u : ab_S) : ab_G 1 9 cX10_takeTold (some .int) 3 37 [some (vR (kO 9) 0), none, none, some (vI v3), none] [vI s0] u wI (fX10_takeTold_37 v3 s0 u) := by
  rw [fX10_takeTold_37]
  refine g_seg0 (pc' := 43) (L' := [some (vR (kO 9) 0), none, none, some (vI v3), some (vI s0)]) (st' := [vI (u.1 0 8)]) (u1 := u) [(oL 3 4, 2), (oL 2 0, 1), (oP (.getfield 168), 3)] (by decide +kernel) rfl rfl ?_
  refine g_zne (off := 22) (tgt := 65) (pc2 := 46) (by decide +kernel) (by decide) rfl ?_ ?_
  · exact tX10_takeTold_65 v3 s0 u
  · refine g_seg0 (pc' := 51) (L' := [some (vR (kO 9) 0), none, none, some (vI v3), some (vI s0)]) (st' := [vI 7, vI 0, vI s0]) (u1 := u) [(oL 0 4, 2), (oC 0, 1), (oC 7, 2)] (by decide +kernel) rfl rfl ?_
    refine g_callS (k := 207) (pc2 := 54) (st := []) (CX10_within s0 0 7 u) miX10_within msX10_within lk9_207 wI_ok (by decide +kernel) rfl (Nat.le_of_ble_eq_true rfl) (by decide) rfl (fun q2 hq2 => ?_)
    refine g_zne (off := 11) (tgt := 65) (pc2 := 57) (by decide +kernel) (by decide) rfl ?_ ?_
    · exact tX10_takeTold_65 v3 s0 q2.2
    · refine g_seg0 (pc' := 59) (L' := [some (vR (kO 9) 0), none, none, some (vI v3), some (vI s0)]) (st' := [vI 2, vR (kO 9) 0]) (u1 := q2.2) [(oL 2 0, 1), (oC 2, 1)] (by decide +kernel) rfl rfl ?_
      refine g_callV (k := 174) (pc2 := 62) (st := []) (CX10_wrong 2 q2.2) miX10_wrong mvX10_wrong rfl (by decide) lk9_174 wV_ok (by decide +kernel) rfl (Nat.le_of_ble_eq_true rfl) (by decide) rfl (fun q3 hq3 => ?_)
      refine g_goto (off := 25) (tgt := 87) (by decide +kernel) (by decide) ?_
      exact g_jump [true, false, false, false, true] rfl (tX10_takeTold_87 s0 q3.2)
def fX10_takeTold_19 (v1 : Int32) (v2 : Int32) (v3 : Int32) (u : ab_S) : Option (Int32 × ab_S) :=
  bif decide ((u.1 0 8) ≤ 0) then (
    (fX10_nameAt v1 u).bind fun q4 =>
      fX10_takeTold_37 v3 (q4.1 - v2) q4.2)
  else (
    fX10_takeTold_37 v3 (-1) u)
theorem tX10_takeTold_19 (v1 : Int32) (v2 : Int32) (v3 : Int32) (u : ab_S) : ab_G 1 9 cX10_takeTold (some .int) 3 19 [some (vR (kO 9) 0), some (vI v1), some (vI v2), some (vI v3), none] [] u wI (fX10_takeTold_19 v1 v2 v3 u) := by
  rw [fX10_takeTold_19]
  refine g_seg0 (pc' := 23) (L' := [some (vR (kO 9) 0), some (vI v1), some (vI v2), some (vI v3), none]) (st' := [vI (u.1 0 8)]) (u1 := u) [(oL 2 0, 1), (oP (.getfield 168), 3)] (by decide +kernel) rfl rfl ?_
  refine g_zle (off := 7) (tgt := 30) (pc2 := 26) (by decide +kernel) (by decide) rfl ?_ ?_
  · refine g_seg0 (pc' := 32) (L' := [some (vR (kO 9) 0), some (vI v1), some (vI v2), some (vI v3), none]) (st' := [vI v1, vR (kO 9) 0]) (u1 := u) [(oL 2 0, 1), (oL 0 1, 1)] (by decide +kernel) rfl rfl ?_
    refine g_callV (k := 203) (pc2 := 35) (st := []) (CX10_nameAt v1 u) miX10_nameAt mvX10_nameAt rfl (by decide) lk9_203 wI_ok (by decide +kernel) rfl (Nat.le_of_ble_eq_true rfl) (by decide) rfl (fun q4 hq4 => ?_)
    refine g_seg0 (pc' := 37) (L' := [some (vR (kO 9) 0), some (vI v1), some (vI v2), some (vI v3), none]) (st' := [vI (q4.1 - v2)]) (u1 := q4.2) [(oL 0 2, 1), (oP .isub, 1)] (by decide +kernel) rfl rfl ?_
    exact g_jump [true, false, false, true, false] rfl (tX10_takeTold_37 v3 (q4.1 - v2) q4.2)
  · refine g_seg0 (pc' := 27) (L' := [some (vR (kO 9) 0), some (vI v1), some (vI v2), some (vI v3), none]) (st' := [vI (-1)]) (u1 := u) [(oC (-1), 1)] (by decide +kernel) rfl rfl ?_
    refine g_goto (off := 10) (tgt := 37) (by decide +kernel) (by decide) ?_
    exact g_jump [true, false, false, true, false] rfl (tX10_takeTold_37 v3 (-1) u)
def fX10_takeTold (v1 : Int32) (v2 : Int32) (v3 : Int32) (u : ab_S) : Option (Int32 × ab_S) :=
  bif decide ((u.1 0 8) = 0) then (
    (fX10_isName u).bind fun q5 =>
      bif decide (q5.1 = 0) then (
        (fX10_wrong 1 q5.2).bind fun q6 =>
          fX10_takeTold_19 v1 v2 v3 q6.2)
      else (
        fX10_takeTold_19 v1 v2 v3 q5.2))
  else (
    fX10_takeTold_19 v1 v2 v3 u)
theorem tX10_takeTold (v1 : Int32) (v2 : Int32) (v3 : Int32) (u : ab_S) : ab_G 1 9 cX10_takeTold (some .int) 3 0 [some (vR (kO 9) 0), some (vI v1), some (vI v2), some (vI v3), none] [] u wI (fX10_takeTold v1 v2 v3 u) := by
  rw [fX10_takeTold]
  refine g_seg0 (pc' := 4) (L' := [some (vR (kO 9) 0), some (vI v1), some (vI v2), some (vI v3), none]) (st' := [vI (u.1 0 8)]) (u1 := u) [(oL 2 0, 1), (oP (.getfield 168), 3)] (by decide +kernel) rfl rfl ?_
  refine g_zne (off := 15) (tgt := 19) (pc2 := 7) (by decide +kernel) (by decide) rfl ?_ ?_
  · exact tX10_takeTold_19 v1 v2 v3 u
  · refine g_seg0 (pc' := 8) (L' := [some (vR (kO 9) 0), some (vI v1), some (vI v2), some (vI v3), none]) (st' := [vR (kO 9) 0]) (u1 := u) [(oL 2 0, 1)] (by decide +kernel) rfl rfl ?_
    refine g_callV (k := 199) (pc2 := 11) (st := []) (CX10_isName u) miX10_isName mvX10_isName rfl (by decide) lk9_199 wI_ok (by decide +kernel) rfl (Nat.le_of_ble_eq_true rfl) (by decide) rfl (fun q5 hq5 => ?_)
    refine g_zne (off := 8) (tgt := 19) (pc2 := 14) (by decide +kernel) (by decide) rfl ?_ ?_
    · exact tX10_takeTold_19 v1 v2 v3 q5.2
    · refine g_seg0 (pc' := 16) (L' := [some (vR (kO 9) 0), some (vI v1), some (vI v2), some (vI v3), none]) (st' := [vI 1, vR (kO 9) 0]) (u1 := q5.2) [(oL 2 0, 1), (oC 1, 1)] (by decide +kernel) rfl rfl ?_
      refine g_callV (k := 174) (pc2 := 19) (st := []) (CX10_wrong 1 q5.2) miX10_wrong mvX10_wrong rfl (by decide) lk9_174 wV_ok (by decide +kernel) rfl (Nat.le_of_ble_eq_true rfl) (by decide) rfl (fun q6 hq6 => ?_)
      exact tX10_takeTold_19 v1 v2 v3 q6.2
theorem CX10_takeTold (v1 : Int32) (v2 : Int32) (v3 : Int32) (u : ab_S) : ab_C 1 yX10_takeTold cX10_takeTold 5 (some .int) 3 [vR (kO 9) 0, vI v1, vI v2, vI v3] u wI (fX10_takeTold v1 v2 v3 u) := ab_entry (by decide +kernel) rfl (by decide) (by decide) (fun _ => Nat.le_of_ble_eq_true rfl) rfl (tX10_takeTold v1 v2 v3 u)
def fX10_readLike_68 (v1 : Int32) (v2 : Int32) (u : ab_S) : Option (Unit × ab_S) :=
  (fX10_takeTold 1 20 v2 u).bind fun q1 =>
    (fX10_takeNumber 1 20 q1.2).bind fun q2 =>
      bif decide ((q2.2.1 0 8) = 0) then (
        ab_gd [ab_ix (v1 + q1.1) 180] (
          some ((), (sI q2.2 6 (nc (v1 + q1.1)) q2.1))))
      else (
        some ((), q2.2))
theorem tX10_readLike_68 (v1 : Int32) (v2 : Int32) (u : ab_S) : ab_G 1 9 cX10_readLike none 4 68 [some (vR (kO 9) 0), some (vI v1), some (vI v2), none] [] u wV (fX10_readLike_68 v1 v2 u) := by
  rw [fX10_readLike_68]
  refine g_seg0 (pc' := 74) (L' := [some (vR (kO 9) 0), some (vI v1), some (vI v2), none]) (st' := [vI v2, vI 20, vI 1, vR (kO 9) 0, vI v1]) (u1 := u) [(oL 0 1, 1), (oL 2 0, 1), (oC 1, 1), (oC 20, 2), (oL 0 2, 1)] (by decide +kernel) rfl rfl ?_
  refine g_callV (k := 237) (pc2 := 77) (st := [vI v1]) (CX10_takeTold 1 20 v2 u) miX10_takeTold mvX10_takeTold rfl (by decide) lk9_237 wI_ok (by decide +kernel) rfl (Nat.le_of_ble_eq_true rfl) (by decide) rfl (fun q1 hq1 => ?_)
  refine g_seg0 (pc' := 83) (L' := [some (vR (kO 9) 0), some (vI (v1 + q1.1)), some (vI v2), none]) (st' := [vI 20, vI 1, vR (kO 9) 0]) (u1 := q1.2) [(oP .iadd, 1), (oL 3 1, 1), (oL 2 0, 1), (oC 1, 1), (oC 20, 2)] (by decide +kernel) rfl rfl ?_
  refine g_callV (k := 186) (pc2 := 86) (st := []) (CX10_takeNumber 1 20 q1.2) miX10_takeNumber mvX10_takeNumber rfl (by decide) lk9_186 wI_ok (by decide +kernel) rfl (Nat.le_of_ble_eq_true rfl) (by decide) rfl (fun q2 hq2 => ?_)
  refine g_seg0 (pc' := 91) (L' := [some (vR (kO 9) 0), some (vI (v1 + q1.1)), some (vI v2), some (vI (q2.1))]) (st' := [vI (q2.2.1 0 8)]) (u1 := q2.2) [(oL 3 3, 1), (oL 2 0, 1), (oP (.getfield 168), 3)] (by decide +kernel) rfl rfl ?_
  refine g_zne (off := 10) (tgt := 101) (pc2 := 94) (by decide +kernel) (by decide) rfl ?_ ?_
  · exact g_vret (by decide +kernel) rfl
  · refine g_seg (pc' := 101) (L' := [some (vR (kO 9) 0), some (vI (v1 + q1.1)), some (vI v2), some (vI (q2.1))]) (st' := []) (u1 := (sI q2.2 6 (nc (v1 + q1.1)) q2.1)) [(oL 2 0, 1), (oP (.getfield 83), 3), (oL 0 1, 1), (oL 0 3, 1), (oP .iastore, 1)] (by decide +kernel) rfl rfl ?_
    exact g_vret (by decide +kernel) rfl
def fX10_readLike_28 : Nat → Int32 → Int32 → Int32 → ab_S → Option (Unit × ab_S)
  | 0, _, _, _, _ => none
  | n + 1, v1, v2, v3, u =>
  bif decide (v3 < 8) then (
    bif decide ((u.1 0 8) = 0) then (
      ab_gd [ab_ix (v1 + v3) 180] (
        bif decide ((u.1 6 (nc (v1 + v3))) ≤ 0) then (
          (fX10_readLike_28 n) v1 (v2 ||| 0) (v3 + 1) u)
        else (
          (fX10_readLike_28 n) v1 (v2 ||| ((1 : Int32) <<< (v3 &&& 31))) (v3 + 1) u)))
    else (
      fX10_readLike_68 v1 v2 u))
  else (
    fX10_readLike_68 v1 v2 u)
theorem tX10_readLike_28 : ∀ (n : Nat) (v1 : Int32) (v2 : Int32) (v3 : Int32) (u : ab_S), ab_G 1 9 cX10_readLike none 4 28 [some (vR (kO 9) 0), some (vI v1), some (vI v2), some (vI v3)] [] u wV (fX10_readLike_28 n v1 v2 v3 u) := by
  intro n
  induction n with
  | zero => intros; exact g_none
  | succ n ih =>
    intro v1 v2 v3 u
    rw [fX10_readLike_28]
    refine g_seg0 (pc' := 31) (L' := [some (vR (kO 9) 0), some (vI v1), some (vI v2), some (vI v3)]) (st' := [vI 8, vI v3]) (u1 := u) [(oL 0 3, 1), (oC 8, 2)] (by decide +kernel) rfl rfl ?_
    refine g_ige (off := 37) (tgt := 68) (pc2 := 34) (by decide +kernel) (by decide) rfl ?_ ?_
    · exact g_jump [true, true, true, false] rfl (tX10_readLike_68 v1 v2 u)
    · refine g_seg0 (pc' := 38) (L' := [some (vR (kO 9) 0), some (vI v1), some (vI v2), some (vI v3)]) (st' := [vI (u.1 0 8)]) (u1 := u) [(oL 2 0, 1), (oP (.getfield 168), 3)] (by decide +kernel) rfl rfl ?_
      refine g_zne (off := 30) (tgt := 68) (pc2 := 41) (by decide +kernel) (by decide) rfl ?_ ?_
      · exact g_jump [true, true, true, false] rfl (tX10_readLike_68 v1 v2 u)
      · refine g_seg (pc' := 50) (L' := [some (vR (kO 9) 0), some (vI v1), some (vI v2), some (vI v3)]) (st' := [vI (u.1 6 (nc (v1 + v3))), vI v2]) (u1 := u) [(oL 0 2, 1), (oL 2 0, 1), (oP (.getfield 83), 3), (oL 0 1, 1), (oL 0 3, 1), (oP .iadd, 1), (oP .iaload, 1)] (by decide +kernel) rfl rfl ?_
        refine g_zle (off := 9) (tgt := 59) (pc2 := 53) (by decide +kernel) (by decide) rfl ?_ ?_
        · refine g_seg0 (pc' := 65) (L' := [some (vR (kO 9) 0), some (vI v1), some (vI (v2 ||| 0)), some (vI (v3 + 1))]) (st' := []) (u1 := u) [(oC 0, 1), (oP .ior, 1), (oL 3 2, 1), (oN 3 1, 3)] (by decide +kernel) rfl rfl ?_
          refine g_goto (off := (-37)) (tgt := 28) (by decide +kernel) (by decide) ?_
          exact ih v1 (v2 ||| 0) (v3 + 1) u
        · refine g_seg0 (pc' := 56) (L' := [some (vR (kO 9) 0), some (vI v1), some (vI v2), some (vI v3)]) (st' := [vI ((1 : Int32) <<< (v3 &&& 31)), vI v2]) (u1 := u) [(oC 1, 1), (oL 0 3, 1), (oP .ishl, 1)] (by decide +kernel) rfl rfl ?_
          refine g_goto (off := 4) (tgt := 60) (by decide +kernel) (by decide) ?_
          refine g_seg0 (pc' := 65) (L' := [some (vR (kO 9) 0), some (vI v1), some (vI (v2 ||| ((1 : Int32) <<< (v3 &&& 31)))), some (vI (v3 + 1))]) (st' := []) (u1 := u) [(oP .ior, 1), (oL 3 2, 1), (oN 3 1, 3)] (by decide +kernel) rfl rfl ?_
          refine g_goto (off := (-37)) (tgt := 28) (by decide +kernel) (by decide) ?_
          exact ih v1 (v2 ||| ((1 : Int32) <<< (v3 &&& 31))) (v3 + 1) u
def fX10_readLike (u : ab_S) : Option (Unit × ab_S) :=
  (fX10_takeTold 1 0 0 (sI u 0 7 ((u.1 0 7) + 1))).bind fun q3 =>
    fX10_readLike_28 fu (122 + (8 * q3.1)) 0 0 q3.2
theorem tX10_readLike (u : ab_S) : ab_G 1 9 cX10_readLike none 4 0 [some (vR (kO 9) 0), none, none, none] [] u wV (fX10_readLike u) := by
  rw [fX10_readLike]
  refine g_seg0 (pc' := 18) (L' := [some (vR (kO 9) 0), none, none, none]) (st' := [vI 0, vI 0, vI 1, vR (kO 9) 0, vI 8, vI 122]) (u1 := (sI u 0 7 ((u.1 0 7) + 1))) [(oL 2 0, 1), (oP .dup, 1), (oP (.getfield 165), 3), (oC 1, 1), (oP .iadd, 1), (oP (.putfield 165), 3), (oC 122, 2), (oC 8, 2), (oL 2 0, 1), (oC 1, 1), (oC 0, 1), (oC 0, 1)] (by decide +kernel) rfl rfl ?_
  refine g_callV (k := 237) (pc2 := 21) (st := [vI 8, vI 122]) (CX10_takeTold 1 0 0 (sI u 0 7 ((u.1 0 7) + 1))) miX10_takeTold mvX10_takeTold rfl (by decide) lk9_237 wI_ok (by decide +kernel) rfl (Nat.le_of_ble_eq_true rfl) (by decide) rfl (fun q3 hq3 => ?_)
  refine g_seg0 (pc' := 28) (L' := [some (vR (kO 9) 0), some (vI (122 + (8 * q3.1))), some (vI 0), some (vI 0)]) (st' := []) (u1 := q3.2) [(oP .imul, 1), (oP .iadd, 1), (oL 3 1, 1), (oC 0, 1), (oL 3 2, 1), (oC 0, 1), (oL 3 3, 1)] (by decide +kernel) rfl rfl ?_
  exact tX10_readLike_28 fu (122 + (8 * q3.1)) 0 0 q3.2
theorem CX10_readLike (u : ab_S) : ab_C 1 yX10_readLike cX10_readLike 4 none 4 [vR (kO 9) 0] u wV (fX10_readLike u) := ab_entry (by decide +kernel) rfl (by decide) (by decide) (fun _ => Nat.le_of_ble_eq_true rfl) rfl (tX10_readLike u)
def fX10_readName_61 (v1 : Int32) (v3 : Int32) (v4 : Int32) (u : ab_S) : Option (Unit × ab_S) :=
  bif decide ((u.1 0 8) = 0) then (
    ab_gd [ab_ix (u.1 0 7) 1002, ab_ix (u.1 0 19) 14, ab_ix ((sJ u 10 (nc (u.1 0 19)) (u.2.1 4 (nc (u.1 0 7)))).1 0 19) 14, ab_ix (90 + v1) 180, ab_ix (90 + v1) 180] (
      some ((), (sI (sI (sI (sI (sJ u 10 (nc (u.1 0 19)) (u.2.1 4 (nc (u.1 0 7)))) 12 (nc ((sJ u 10 (nc (u.1 0 19)) (u.2.1 4 (nc (u.1 0 7)))).1 0 19)) (v3 + v4)) 0 19 (((sI (sJ u 10 (nc (u.1 0 19)) (u.2.1 4 (nc (u.1 0 7)))) 12 (nc ((sJ u 10 (nc (u.1 0 19)) (u.2.1 4 (nc (u.1 0 7)))).1 0 19)) (v3 + v4)).1 0 19) + 1)) 0 7 (((sI (sI (sJ u 10 (nc (u.1 0 19)) (u.2.1 4 (nc (u.1 0 7)))) 12 (nc ((sJ u 10 (nc (u.1 0 19)) (u.2.1 4 (nc (u.1 0 7)))).1 0 19)) (v3 + v4)) 0 19 (((sI (sJ u 10 (nc (u.1 0 19)) (u.2.1 4 (nc (u.1 0 7)))) 12 (nc ((sJ u 10 (nc (u.1 0 19)) (u.2.1 4 (nc (u.1 0 7)))).1 0 19)) (v3 + v4)).1 0 19) + 1)).1 0 7) + 1)) 6 (nc (90 + v1)) (((sI (sI (sI (sJ u 10 (nc (u.1 0 19)) (u.2.1 4 (nc (u.1 0 7)))) 12 (nc ((sJ u 10 (nc (u.1 0 19)) (u.2.1 4 (nc (u.1 0 7)))).1 0 19)) (v3 + v4)) 0 19 (((sI (sJ u 10 (nc (u.1 0 19)) (u.2.1 4 (nc (u.1 0 7)))) 12 (nc ((sJ u 10 (nc (u.1 0 19)) (u.2.1 4 (nc (u.1 0 7)))).1 0 19)) (v3 + v4)).1 0 19) + 1)) 0 7 (((sI (sI (sJ u 10 (nc (u.1 0 19)) (u.2.1 4 (nc (u.1 0 7)))) 12 (nc ((sJ u 10 (nc (u.1 0 19)) (u.2.1 4 (nc (u.1 0 7)))).1 0 19)) (v3 + v4)) 0 19 (((sI (sJ u 10 (nc (u.1 0 19)) (u.2.1 4 (nc (u.1 0 7)))) 12 (nc ((sJ u 10 (nc (u.1 0 19)) (u.2.1 4 (nc (u.1 0 7)))).1 0 19)) (v3 + v4)).1 0 19) + 1)).1 0 7) + 1)).1 6 (nc (90 + v1))) + 1)))))
  else (
    some ((), u))
theorem tX10_readName_61 (v1 : Int32) (v3 : Int32) (v4 : Int32) (u : ab_S) : ab_G 1 9 cX10_readName none 3 61 [some (vR (kO 9) 0), some (vI v1), none, some (vI v3), some (vI v4)] [] u wV (fX10_readName_61 v1 v3 v4 u) := by
  rw [fX10_readName_61]
  refine g_seg0 (pc' := 65) (L' := [some (vR (kO 9) 0), some (vI v1), none, some (vI v3), some (vI v4)]) (st' := [vI (u.1 0 8)]) (u1 := u) [(oL 2 0, 1), (oP (.getfield 168), 3)] (by decide +kernel) rfl rfl ?_
  refine g_zne (off := 67) (tgt := 132) (pc2 := 68) (by decide +kernel) (by decide) rfl ?_ ?_
  · exact g_vret (by decide +kernel) rfl
  · refine g_seg (pc' := 132) (L' := [some (vR (kO 9) 0), some (vI v1), none, some (vI v3), some (vI v4)]) (st' := []) (u1 := (sI (sI (sI (sI (sJ u 10 (nc (u.1 0 19)) (u.2.1 4 (nc (u.1 0 7)))) 12 (nc ((sJ u 10 (nc (u.1 0 19)) (u.2.1 4 (nc (u.1 0 7)))).1 0 19)) (v3 + v4)) 0 19 (((sI (sJ u 10 (nc (u.1 0 19)) (u.2.1 4 (nc (u.1 0 7)))) 12 (nc ((sJ u 10 (nc (u.1 0 19)) (u.2.1 4 (nc (u.1 0 7)))).1 0 19)) (v3 + v4)).1 0 19) + 1)) 0 7 (((sI (sI (sJ u 10 (nc (u.1 0 19)) (u.2.1 4 (nc (u.1 0 7)))) 12 (nc ((sJ u 10 (nc (u.1 0 19)) (u.2.1 4 (nc (u.1 0 7)))).1 0 19)) (v3 + v4)) 0 19 (((sI (sJ u 10 (nc (u.1 0 19)) (u.2.1 4 (nc (u.1 0 7)))) 12 (nc ((sJ u 10 (nc (u.1 0 19)) (u.2.1 4 (nc (u.1 0 7)))).1 0 19)) (v3 + v4)).1 0 19) + 1)).1 0 7) + 1)) 6 (nc (90 + v1)) (((sI (sI (sI (sJ u 10 (nc (u.1 0 19)) (u.2.1 4 (nc (u.1 0 7)))) 12 (nc ((sJ u 10 (nc (u.1 0 19)) (u.2.1 4 (nc (u.1 0 7)))).1 0 19)) (v3 + v4)) 0 19 (((sI (sJ u 10 (nc (u.1 0 19)) (u.2.1 4 (nc (u.1 0 7)))) 12 (nc ((sJ u 10 (nc (u.1 0 19)) (u.2.1 4 (nc (u.1 0 7)))).1 0 19)) (v3 + v4)).1 0 19) + 1)) 0 7 (((sI (sI (sJ u 10 (nc (u.1 0 19)) (u.2.1 4 (nc (u.1 0 7)))) 12 (nc ((sJ u 10 (nc (u.1 0 19)) (u.2.1 4 (nc (u.1 0 7)))).1 0 19)) (v3 + v4)) 0 19 (((sI (sJ u 10 (nc (u.1 0 19)) (u.2.1 4 (nc (u.1 0 7)))) 12 (nc ((sJ u 10 (nc (u.1 0 19)) (u.2.1 4 (nc (u.1 0 7)))).1 0 19)) (v3 + v4)).1 0 19) + 1)).1 0 7) + 1)).1 6 (nc (90 + v1))) + 1))) [(oL 2 0, 1), (oP (.getfield 95), 3), (oL 2 0, 1), (oP (.getfield 193), 3), (oL 2 0, 1), (oP (.getfield 30), 3), (oL 2 0, 1), (oP (.getfield 165), 3), (oP .laload, 1), (oP .lastore, 1), (oL 2 0, 1), (oP (.getfield 101), 3), (oL 2 0, 1), (oP (.getfield 193), 3), (oL 0 3, 1), (oL 0 4, 2), (oP .iadd, 1), (oP .iastore, 1), (oL 2 0, 1), (oP .dup, 1), (oP (.getfield 193), 3), (oC 1, 1), (oP .iadd, 1), (oP (.putfield 193), 3), (oL 2 0, 1), (oP .dup, 1), (oP (.getfield 165), 3), (oC 1, 1), (oP .iadd, 1), (oP (.putfield 165), 3), (oL 2 0, 1), (oP (.getfield 83), 3), (oC 90, 2), (oL 0 1, 1), (oP .iadd, 1), (oP .dup2, 1), (oP .iaload, 1), (oC 1, 1), (oP .iadd, 1), (oP .iastore, 1)] (by decide +kernel) rfl rfl ?_
    exact g_vret (by decide +kernel) rfl
def fX10_readName (v1 : Int32) (v2 : Int32) (v3 : Int32) (u : ab_S) : Option (Unit × ab_S) :=
  ab_gd [ab_ix (90 + v1) 180] (
    bif decide ((u.1 6 (nc (90 + v1))) = v2) then (
      (fX10_wrong 5 u).bind fun q5 =>
        some ((), q5.2))
    else (
      (fX10_isName (sI u 0 7 ((u.1 0 7) + 1))).bind fun q1 =>
        bif decide (q1.1 = 0) then (
          (fX10_wrong 1 q1.2).bind fun q4 =>
            fX10_readName_61 v1 v3 (u.1 6 (nc (90 + v1))) q4.2)
        else (
          (fX10_nameAt 1 q1.2).bind fun q2 =>
            bif decide (q2.1 < 0) then (
              fX10_readName_61 v1 v3 (u.1 6 (nc (90 + v1))) q2.2)
            else (
              (fX10_wrong 3 q2.2).bind fun q3 =>
                fX10_readName_61 v1 v3 (u.1 6 (nc (90 + v1))) q3.2))))
theorem tX10_readName (v1 : Int32) (v2 : Int32) (v3 : Int32) (u : ab_S) : ab_G 1 9 cX10_readName none 3 0 [some (vR (kO 9) 0), some (vI v1), some (vI v2), some (vI v3), none] [] u wV (fX10_readName v1 v2 v3 u) := by
  rw [fX10_readName]
  refine g_seg (pc' := 14) (L' := [some (vR (kO 9) 0), some (vI v1), some (vI v2), some (vI v3), some (vI (u.1 6 (nc (90 + v1))))]) (st' := [vI v2, vI (u.1 6 (nc (90 + v1)))]) (u1 := u) [(oL 2 0, 1), (oP (.getfield 83), 3), (oC 90, 2), (oL 0 1, 1), (oP .iadd, 1), (oP .iaload, 1), (oL 3 4, 2), (oL 0 4, 2), (oL 0 2, 1)] (by decide +kernel) rfl rfl ?_
  refine g_ine (off := 9) (tgt := 23) (pc2 := 17) (by decide +kernel) (by decide) rfl ?_ ?_
  · refine g_seg0 (pc' := 34) (L' := [some (vR (kO 9) 0), some (vI v1), some (vI v2), some (vI v3), some (vI (u.1 6 (nc (90 + v1))))]) (st' := [vR (kO 9) 0]) (u1 := (sI u 0 7 ((u.1 0 7) + 1))) [(oL 2 0, 1), (oP .dup, 1), (oP (.getfield 165), 3), (oC 1, 1), (oP .iadd, 1), (oP (.putfield 165), 3), (oL 2 0, 1)] (by decide +kernel) rfl rfl ?_
    refine g_callV (k := 199) (pc2 := 37) (st := []) (CX10_isName (sI u 0 7 ((u.1 0 7) + 1))) miX10_isName mvX10_isName rfl (by decide) lk9_199 wI_ok (by decide +kernel) rfl (Nat.le_of_ble_eq_true rfl) (by decide) rfl (fun q1 hq1 => ?_)
    refine g_zne (off := 11) (tgt := 48) (pc2 := 40) (by decide +kernel) (by decide) rfl ?_ ?_
    · refine g_seg0 (pc' := 50) (L' := [some (vR (kO 9) 0), some (vI v1), some (vI v2), some (vI v3), some (vI (u.1 6 (nc (90 + v1))))]) (st' := [vI 1, vR (kO 9) 0]) (u1 := q1.2) [(oL 2 0, 1), (oC 1, 1)] (by decide +kernel) rfl rfl ?_
      refine g_callV (k := 203) (pc2 := 53) (st := []) (CX10_nameAt 1 q1.2) miX10_nameAt mvX10_nameAt rfl (by decide) lk9_203 wI_ok (by decide +kernel) rfl (Nat.le_of_ble_eq_true rfl) (by decide) rfl (fun q2 hq2 => ?_)
      refine g_zlt (off := 8) (tgt := 61) (pc2 := 56) (by decide +kernel) (by decide) rfl ?_ ?_
      · exact g_jump [true, true, false, true, true] rfl (tX10_readName_61 v1 v3 (u.1 6 (nc (90 + v1))) q2.2)
      · refine g_seg0 (pc' := 58) (L' := [some (vR (kO 9) 0), some (vI v1), some (vI v2), some (vI v3), some (vI (u.1 6 (nc (90 + v1))))]) (st' := [vI 3, vR (kO 9) 0]) (u1 := q2.2) [(oL 2 0, 1), (oC 3, 1)] (by decide +kernel) rfl rfl ?_
        refine g_callV (k := 174) (pc2 := 61) (st := []) (CX10_wrong 3 q2.2) miX10_wrong mvX10_wrong rfl (by decide) lk9_174 wV_ok (by decide +kernel) rfl (Nat.le_of_ble_eq_true rfl) (by decide) rfl (fun q3 hq3 => ?_)
        exact g_jump [true, true, false, true, true] rfl (tX10_readName_61 v1 v3 (u.1 6 (nc (90 + v1))) q3.2)
    · refine g_seg0 (pc' := 42) (L' := [some (vR (kO 9) 0), some (vI v1), some (vI v2), some (vI v3), some (vI (u.1 6 (nc (90 + v1))))]) (st' := [vI 1, vR (kO 9) 0]) (u1 := q1.2) [(oL 2 0, 1), (oC 1, 1)] (by decide +kernel) rfl rfl ?_
      refine g_callV (k := 174) (pc2 := 45) (st := []) (CX10_wrong 1 q1.2) miX10_wrong mvX10_wrong rfl (by decide) lk9_174 wV_ok (by decide +kernel) rfl (Nat.le_of_ble_eq_true rfl) (by decide) rfl (fun q4 hq4 => ?_)
      refine g_goto (off := 16) (tgt := 61) (by decide +kernel) (by decide) ?_
      exact g_jump [true, true, false, true, true] rfl (tX10_readName_61 v1 v3 (u.1 6 (nc (90 + v1))) q4.2)
  · refine g_seg0 (pc' := 19) (L' := [some (vR (kO 9) 0), some (vI v1), some (vI v2), some (vI v3), some (vI (u.1 6 (nc (90 + v1))))]) (st' := [vI 5, vR (kO 9) 0]) (u1 := u) [(oL 2 0, 1), (oC 5, 1)] (by decide +kernel) rfl rfl ?_
    refine g_callV (k := 174) (pc2 := 22) (st := []) (CX10_wrong 5 u) miX10_wrong mvX10_wrong rfl (by decide) lk9_174 wV_ok (by decide +kernel) rfl (Nat.le_of_ble_eq_true rfl) (by decide) rfl (fun q5 hq5 => ?_)
    exact g_vret (by decide +kernel) rfl
theorem CX10_readName (v1 : Int32) (v2 : Int32) (v3 : Int32) (u : ab_S) : ab_C 1 yX10_readName cX10_readName 5 none 3 [vR (kO 9) 0, vI v1, vI v2, vI v3] u wV (fX10_readName v1 v2 v3 u) := ab_entry (by decide +kernel) rfl (by decide) (by decide) (fun _ => Nat.le_of_ble_eq_true rfl) rfl (tX10_readName v1 v2 v3 u)
def fX10_emit (v1 : Int32) (v2 : Int32) (u : ab_S) : Option (Unit × ab_S) :=
  ab_gd [ab_ix (1100 + (u.1 0 13)) 2200, ab_ix (1100 + ((sI u 7 (nc (1100 + (u.1 0 13))) v1).1 0 13)) 2200] (
    some ((), (sI (sI (sI u 7 (nc (1100 + (u.1 0 13))) v1) 8 (nc (1100 + ((sI u 7 (nc (1100 + (u.1 0 13))) v1).1 0 13))) v2) 0 13 (((sI (sI u 7 (nc (1100 + (u.1 0 13))) v1) 8 (nc (1100 + ((sI u 7 (nc (1100 + (u.1 0 13))) v1).1 0 13))) v2).1 0 13) + 1))))
theorem tX10_emit (v1 : Int32) (v2 : Int32) (u : ab_S) : ab_G 1 9 cX10_emit none 0 0 [some (vR (kO 9) 0), some (vI v1), some (vI v2)] [] u wV (fX10_emit v1 v2 u) := by
  rw [fX10_emit]
  refine g_seg (pc' := 38) (L' := [some (vR (kO 9) 0), some (vI v1), some (vI v2)]) (st' := []) (u1 := (sI (sI (sI u 7 (nc (1100 + (u.1 0 13))) v1) 8 (nc (1100 + ((sI u 7 (nc (1100 + (u.1 0 13))) v1).1 0 13))) v2) 0 13 (((sI (sI u 7 (nc (1100 + (u.1 0 13))) v1) 8 (nc (1100 + ((sI u 7 (nc (1100 + (u.1 0 13))) v1).1 0 13))) v2).1 0 13) + 1))) [(oL 2 0, 1), (oP (.getfield 86), 3), (oC 1100, 3), (oL 2 0, 1), (oP (.getfield 214), 3), (oP .iadd, 1), (oL 0 1, 1), (oP .iastore, 1), (oL 2 0, 1), (oP (.getfield 89), 3), (oC 1100, 3), (oL 2 0, 1), (oP (.getfield 214), 3), (oP .iadd, 1), (oL 0 2, 1), (oP .iastore, 1), (oL 2 0, 1), (oP .dup, 1), (oP (.getfield 214), 3), (oC 1, 1), (oP .iadd, 1), (oP (.putfield 214), 3)] (by decide +kernel) rfl rfl ?_
  exact g_vret (by decide +kernel) rfl
theorem CX10_emit (v1 : Int32) (v2 : Int32) (u : ab_S) : ab_C 1 yX10_emit cX10_emit 3 none 0 [vR (kO 9) 0, vI v1, vI v2] u wV (fX10_emit v1 v2 u) := ab_entry (by decide +kernel) rfl (by decide) (by decide) (fun _ => Nat.le_of_ble_eq_true rfl) rfl (tX10_emit v1 v2 u)
