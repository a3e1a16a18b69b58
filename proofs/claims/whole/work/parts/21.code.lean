/-! methods, printed by program out of the listing: function, walk, contract -/
def fX2_workOutFits_44 (o0 : Nat) (k2 : Int32 → ab_S → Option (Unit × ab_S)) (k12 : Int32 → Int32 → ab_S → Option (Unit × ab_S)) (k22 : Int32 → Int32 → Int32 → ab_S → Option (Unit × ab_S)) (v1 : Int32) (v2 : Int32) (v3 : Int32) (s0 : Int32) (u : ab_S) : Option (Unit × ab_S) :=
  (fX2_worthOf o0 v2 u).bind fun q1 =>
    (fX2_likeOf o0 v1 v2 q1.2).bind fun q2 =>
      (fX1_work (o0 + 8) q1.1 s0 q2.1 v3 q2.2).bind fun q3 =>
        (fX2_fitIndex v1 v2 v3 q3.2).bind fun q4 =>
          (fX9_put 384 (o0 + 11) q4.1 (if 0 < (if q3.1 < 99 then q3.1 else 99) then (if q3.1 < 99 then q3.1 else 99) else 0) q4.2).bind fun q5 =>
            k22 v1 v2 (v3 + 1) q5.2
theorem tX2_workOutFits_44 (o0 : Nat) (k2 : Int32 → ab_S → Option (Unit × ab_S)) (k12 : Int32 → Int32 → ab_S → Option (Unit × ab_S)) (k22 : Int32 → Int32 → Int32 → ab_S → Option (Unit × ab_S)) (hk2 : ∀ (v1 : Int32) (u : ab_S), ab_G 0 2 cX2_workOutFits none 3 2 [some (vR (kO 2) o0), some (vI v1), none, none, none, none] [] u wV (k2 v1 u)) (hk12 : ∀ (v1 : Int32) (v2 : Int32) (u : ab_S), ab_G 0 2 cX2_workOutFits none 3 12 [some (vR (kO 2) o0), some (vI v1), some (vI v2), none, none, none] [] u wV (k12 v1 v2 u)) (hk22 : ∀ (v1 : Int32) (v2 : Int32) (v3 : Int32) (u : ab_S), ab_G 0 2 cX2_workOutFits none 3 22 [some (vR (kO 2) o0), some (vI v1), some (vI v2), some (vI v3), none, none] [] u wV (k22 v1 v2 v3 u)) (v1 : Int32) (v2 : Int32) (v3 : Int32) (s0 : Int32) (u : ab_S) : ab_G 0 2 cX2_workOutFits none 3 44 [some (vR (kO 2) o0), some (vI v1), some (vI v2), some (vI v3), none, none] [vI s0] u wV (fX2_workOutFits_44 o0 k2 k12 k22 v1 v2 v3 s0 u) := by
  rw [fX2_workOutFits_44]
  refine g_seg0 (pc' := 52) (L' := [some (vR (kO 2) o0), some (vI v1), some (vI v2), some (vI v3), some (vI s0), none]) (st' := [vI v2, vR (kO 2) o0, vR (kO 1) (o0 + 8)]) (u1 := u) [(oL 3 4, 2), (oL 2 0, 1), (oP (.getfield 37), 3), (oL 2 0, 1), (oL 0 2, 1)] (by decide +kernel) rfl rfl ?_
  refine g_callV (k := 205) (pc2 := 55) (st := [vR (kO 1) (o0 + 8)]) (CX2_worthOf o0 v2 u) miX2_worthOf mvX2_worthOf rfl (by decide) lk2_205 wI_ok (by decide +kernel) rfl (Nat.le_of_ble_eq_true rfl) (by decide) rfl (fun q1 hq1 => ?_)
  refine g_seg0 (pc' := 60) (L' := [some (vR (kO 2) o0), some (vI v1), some (vI v2), some (vI v3), some (vI s0), none]) (st' := [vI v2, vI v1, vR (kO 2) o0, vI s0, vI (q1.1), vR (kO 1) (o0 + 8)]) (u1 := q1.2) [(oL 0 4, 2), (oL 2 0, 1), (oL 0 1, 1), (oL 0 2, 1)] (by decide +kernel) rfl rfl ?_
  refine g_callV (k := 191) (pc2 := 63) (st := [vI s0, vI (q1.1), vR (kO 1) (o0 + 8)]) (CX2_likeOf o0 v1 v2 q1.2) miX2_likeOf mvX2_likeOf rfl (by decide) lk2_191 wI_ok (by decide +kernel) rfl (Nat.le_of_ble_eq_true rfl) (by decide) rfl (fun q2 hq2 => ?_)
  refine g_seg0 (pc' := 64) (L' := [some (vR (kO 2) o0), some (vI v1), some (vI v2), some (vI v3), some (vI s0), none]) (st' := [vI v3, vI (q2.1), vI s0, vI (q1.1), vR (kO 1) (o0 + 8)]) (u1 := q2.2) [(oL 0 3, 1)] (by decide +kernel) rfl rfl ?_
  refine g_callV (k := 208) (pc2 := 67) (st := []) (CX1_work (o0 + 8) q1.1 s0 q2.1 v3 q2.2) miX1_work mvX1_work rfl (by decide) lk2_208 wI_ok (by decide +kernel) rfl (Nat.le_of_ble_eq_true rfl) (by decide) rfl (fun q3 hq3 => ?_)
  refine g_seg0 (pc' := 76) (L' := [some (vR (kO 2) o0), some (vI v1), some (vI v2), some (vI v3), some (vI s0), some (vI (q3.1))]) (st' := [vI v3, vI v2, vI v1, vR (kA 0 384) (o0 + 11)]) (u1 := q3.2) [(oL 3 5, 2), (oL 2 0, 1), (oP (.getfield 41), 3), (oL 0 1, 1), (oL 0 2, 1), (oL 0 3, 1)] (by decide +kernel) rfl rfl ?_
  refine g_callS (k := 212) (pc2 := 79) (st := [vR (kA 0 384) (o0 + 11)]) (CX2_fitIndex v1 v2 v3 q3.2) miX2_fitIndex msX2_fitIndex lk2_212 wI_ok (by decide +kernel) rfl (Nat.le_of_ble_eq_true rfl) (by decide) rfl (fun q4 hq4 => ?_)
  refine g_seg0 (pc' := 84) (L' := [some (vR (kO 2) o0), some (vI v1), some (vI v2), some (vI v3), some (vI s0), some (vI (q3.1))]) (st' := [vI (q3.1), vI 99, vI 0, vI (q4.1), vR (kA 0 384) (o0 + 11)]) (u1 := q4.2) [(oC 0, 1), (oC 99, 2), (oL 0 5, 2)] (by decide +kernel) rfl rfl ?_
  refine g_min (k := 216) (pc2 := 87) (st := [vI 0, vI (q4.1), vR (kA 0 384) (o0 + 11)]) lm2_216 (by decide +kernel) (Nat.le_of_ble_eq_true rfl) (by decide) rfl ?_
  refine g_max (k := 221) (pc2 := 90) (st := [vI (q4.1), vR (kA 0 384) (o0 + 11)]) lm2_221 (by decide +kernel) (Nat.le_of_ble_eq_true rfl) (by decide) rfl ?_
  refine g_callS (k := 155) (pc2 := 93) (st := []) (CX9_put 384 (o0 + 11) q4.1 (if 0 < (if q3.1 < 99 then q3.1 else 99) then (if q3.1 < 99 then q3.1 else 99) else 0) q4.2) miX9_put msX9_put lk2_155 wV_ok (by decide +kernel) rfl (Nat.le_of_ble_eq_true rfl) (by decide) rfl (fun q5 hq5 => ?_)
  refine g_seg0 (pc' := 96) (L' := [some (vR (kO 2) o0), some (vI v1), some (vI v2), some (vI (v3 + 1)), some (vI s0), some (vI (q3.1))]) (st' := []) (u1 := q5.2) [(oN 3 1, 3)] (by decide +kernel) rfl rfl ?_
  refine g_goto (off := (-74)) (tgt := 22) (by decide +kernel) (by decide) ?_
  exact g_jump [true, true, true, true, false, false] rfl (hk22 v1 v2 (v3 + 1) q5.2)
def fX2_workOutFits_22 (o0 : Nat) (k2 : Int32 → ab_S → Option (Unit × ab_S)) (k12 : Int32 → Int32 → ab_S → Option (Unit × ab_S)) : Nat → Int32 → Int32 → Int32 → ab_S → Option (Unit × ab_S)
  | 0, _, _, _, _ => none
  | n + 1, v1, v2, v3, u =>
  bif decide (v3 < (u.1 o0 1)) then (
    (fX2_ownerOf o0 v2 u).bind fun q6 =>
      bif decide (q6.1 = v1) then (
        fX2_workOutFits_44 o0 k2 k12 (fX2_workOutFits_22 o0 k2 k12 n) v1 v2 v3 1 q6.2)
      else (
        fX2_workOutFits_44 o0 k2 k12 (fX2_workOutFits_22 o0 k2 k12 n) v1 v2 v3 0 q6.2))
  else (
    k12 v1 (v2 + 1) u)
theorem tX2_workOutFits_22 (o0 : Nat) (k2 : Int32 → ab_S → Option (Unit × ab_S)) (k12 : Int32 → Int32 → ab_S → Option (Unit × ab_S)) (hk2 : ∀ (v1 : Int32) (u : ab_S), ab_G 0 2 cX2_workOutFits none 3 2 [some (vR (kO 2) o0), some (vI v1), none, none, none, none] [] u wV (k2 v1 u)) (hk12 : ∀ (v1 : Int32) (v2 : Int32) (u : ab_S), ab_G 0 2 cX2_workOutFits none 3 12 [some (vR (kO 2) o0), some (vI v1), some (vI v2), none, none, none] [] u wV (k12 v1 v2 u)) : ∀ (n : Nat) (v1 : Int32) (v2 : Int32) (v3 : Int32) (u : ab_S), ab_G 0 2 cX2_workOutFits none 3 22 [some (vR (kO 2) o0), some (vI v1), some (vI v2), some (vI v3), none, none] [] u wV (fX2_workOutFits_22 o0 k2 k12 n v1 v2 v3 u) := by
  intro n
  induction n with
  | zero => intros; exact g_none
  | succ n ih =>
    intro v1 v2 v3 u
    rw [fX2_workOutFits_22]
    refine g_seg0 (pc' := 27) (L' := [some (vR (kO 2) o0), some (vI v1), some (vI v2), some (vI v3), none, none]) (st' := [vI (u.1 o0 1), vI v3]) (u1 := u) [(oL 0 3, 1), (oL 2 0, 1), (oP (.getfield 66), 3)] (by decide +kernel) rfl rfl ?_
    refine g_ige (off := 72) (tgt := 99) (pc2 := 30) (by decide +kernel) (by decide) rfl ?_ ?_
    · refine g_seg0 (pc' := 102) (L' := [some (vR (kO 2) o0), some (vI v1), some (vI (v2 + 1)), some (vI v3), none, none]) (st' := []) (u1 := u) [(oN 2 1, 3)] (by decide +kernel) rfl rfl ?_
      refine g_goto (off := (-90)) (tgt := 12) (by decide +kernel) (by decide) ?_
      exact g_jump [true, true, true, false, false, false] rfl (hk12 v1 (v2 + 1) u)
    · refine g_seg0 (pc' := 32) (L' := [some (vR (kO 2) o0), some (vI v1), some (vI v2), some (vI v3), none, none]) (st' := [vI v2, vR (kO 2) o0]) (u1 := u) [(oL 2 0, 1), (oL 0 2, 1)] (by decide +kernel) rfl rfl ?_
      refine g_callV (k := 201) (pc2 := 35) (st := []) (CX2_ownerOf o0 v2 u) miX2_ownerOf mvX2_ownerOf rfl (by decide) lk2_201 wI_ok (by decide +kernel) rfl (Nat.le_of_ble_eq_true rfl) (by decide) rfl (fun q6 hq6 => ?_)
      refine g_seg0 (pc' := 36) (L' := [some (vR (kO 2) o0), some (vI v1), some (vI v2), some (vI v3), none, none]) (st' := [vI v1, vI (q6.1)]) (u1 := q6.2) [(oL 0 1, 1)] (by decide +kernel) rfl rfl ?_
      refine g_ine (off := 7) (tgt := 43) (pc2 := 39) (by decide +kernel) (by decide) rfl ?_ ?_
      · refine g_seg0 (pc' := 44) (L' := [some (vR (kO 2) o0), some (vI v1), some (vI v2), some (vI v3), none, none]) (st' := [vI 0]) (u1 := q6.2) [(oC 0, 1)] (by decide +kernel) rfl rfl ?_
        exact tX2_workOutFits_44 o0 k2 k12 (fX2_workOutFits_22 o0 k2 k12 n) hk2 hk12 ih v1 v2 v3 0 q6.2
      · refine g_seg0 (pc' := 40) (L' := [some (vR (kO 2) o0), some (vI v1), some (vI v2), some (vI v3), none, none]) (st' := [vI 1]) (u1 := q6.2) [(oC 1, 1)] (by decide +kernel) rfl rfl ?_
        refine g_goto (off := 4) (tgt := 44) (by decide +kernel) (by decide) ?_
        exact tX2_workOutFits_44 o0 k2 k12 (fX2_workOutFits_22 o0 k2 k12 n) hk2 hk12 ih v1 v2 v3 1 q6.2
def fX2_workOutFits_12 (o0 : Nat) (k2 : Int32 → ab_S → Option (Unit × ab_S)) : Nat → Int32 → Int32 → ab_S → Option (Unit × ab_S)
  | 0, _, _, _ => none
  | n + 1, v1, v2, u =>
  bif decide (v2 < (u.1 o0 1)) then (
    fX2_workOutFits_22 o0 k2 (fX2_workOutFits_12 o0 k2 n) fu v1 v2 0 u)
  else (
    k2 (v1 + 1) u)
theorem tX2_workOutFits_12 (o0 : Nat) (k2 : Int32 → ab_S → Option (Unit × ab_S)) (hk2 : ∀ (v1 : Int32) (u : ab_S), ab_G 0 2 cX2_workOutFits none 3 2 [some (vR (kO 2) o0), some (vI v1), none, none, none, none] [] u wV (k2 v1 u)) : ∀ (n : Nat) (v1 : Int32) (v2 : Int32) (u : ab_S), ab_G 0 2 cX2_workOutFits none 3 12 [some (vR (kO 2) o0), some (vI v1), some (vI v2), none, none, none] [] u wV (fX2_workOutFits_12 o0 k2 n v1 v2 u) := by
  intro n
  induction n with
  | zero => intros; exact g_none
  | succ n ih =>
    intro v1 v2 u
    rw [fX2_workOutFits_12]
    refine g_seg0 (pc' := 17) (L' := [some (vR (kO 2) o0), some (vI v1), some (vI v2), none, none, none]) (st' := [vI (u.1 o0 1), vI v2]) (u1 := u) [(oL 0 2, 1), (oL 2 0, 1), (oP (.getfield 66), 3)] (by decide +kernel) rfl rfl ?_
    refine g_ige (off := 88) (tgt := 105) (pc2 := 20) (by decide +kernel) (by decide) rfl ?_ ?_
    · refine g_seg0 (pc' := 108) (L' := [some (vR (kO 2) o0), some (vI (v1 + 1)), some (vI v2), none, none, none]) (st' := []) (u1 := u) [(oN 1 1, 3)] (by decide +kernel) rfl rfl ?_
      refine g_goto (off := (-106)) (tgt := 2) (by decide +kernel) (by decide) ?_
      exact g_jump [true, true, false, false, false, false] rfl (hk2 (v1 + 1) u)
    · refine g_seg0 (pc' := 22) (L' := [some (vR (kO 2) o0), some (vI v1), some (vI v2), some (vI 0), none, none]) (st' := []) (u1 := u) [(oC 0, 1), (oL 3 3, 1)] (by decide +kernel) rfl rfl ?_
      exact tX2_workOutFits_22 o0 k2 (fX2_workOutFits_12 o0 k2 n) hk2 ih fu v1 v2 0 u
def fX2_workOutFits_2 (o0 : Nat) : Nat → Int32 → ab_S → Option (Unit × ab_S)
  | 0, _, _ => none
  | n + 1, v1, u =>
  bif decide (v1 < (u.1 o0 0)) then (
    fX2_workOutFits_12 o0 (fX2_workOutFits_2 o0 n) fu v1 0 u)
  else (
    some ((), u))
theorem tX2_workOutFits_2 (o0 : Nat) : ∀ (n : Nat) (v1 : Int32) (u : ab_S), ab_G 0 2 cX2_workOutFits none 3 2 [some (vR (kO 2) o0), some (vI v1), none, none, none, none] [] u wV (fX2_workOutFits_2 o0 n v1 u) := by
  intro n
  induction n with
  | zero => intros; exact g_none
  | succ n ih =>
    intro v1 u
    rw [fX2_workOutFits_2]
    refine g_seg0 (pc' := 7) (L' := [some (vR (kO 2) o0), some (vI v1), none, none, none, none]) (st' := [vI (u.1 o0 0), vI v1]) (u1 := u) [(oL 0 1, 1), (oL 2 0, 1), (oP (.getfield 63), 3)] (by decide +kernel) rfl rfl ?_
    refine g_ige (off := 104) (tgt := 111) (pc2 := 10) (by decide +kernel) (by decide) rfl ?_ ?_
    · exact g_vret (by decide +kernel) rfl
    · refine g_seg0 (pc' := 12) (L' := [some (vR (kO 2) o0), some (vI v1), some (vI 0), none, none, none]) (st' := []) (u1 := u) [(oC 0, 1), (oL 3 2, 1)] (by decide +kernel) rfl rfl ?_
      exact tX2_workOutFits_12 o0 (fX2_workOutFits_2 o0 n) ih fu v1 0 u
def fX2_workOutFits (o0 : Nat) (u : ab_S) : Option (Unit × ab_S) :=
  fX2_workOutFits_2 o0 fu 0 u
theorem tX2_workOutFits (o0 : Nat) (u : ab_S) : ab_G 0 2 cX2_workOutFits none 3 0 [some (vR (kO 2) o0), none, none, none, none, none] [] u wV (fX2_workOutFits o0 u) := by
  rw [fX2_workOutFits]
  refine g_seg0 (pc' := 2) (L' := [some (vR (kO 2) o0), some (vI 0), none, none, none, none]) (st' := []) (u1 := u) [(oC 0, 1), (oL 3 1, 1)] (by decide +kernel) rfl rfl ?_
  exact tX2_workOutFits_2 o0 fu 0 u
theorem CX2_workOutFits (o0 : Nat) (u : ab_S) : ab_C 0 yX2_workOutFits cX2_workOutFits 6 none 3 [vR (kO 2) o0] u wV (fX2_workOutFits o0 u) := ab_entry (by decide +kernel) rfl (by decide) (by decide) (fun _ => Nat.le_of_ble_eq_true rfl) rfl (tX2_workOutFits o0 u)
def fX6_fail (v1 : Int32) (u : ab_S) : Option (Int32 × ab_S) :=
  ab_gd [ab_b1 0] (some (0, (sI u 1 10 (v1 + (16 * (u.1 1 8))))))
theorem tX6_fail (v1 : Int32) (u : ab_S) : ab_G 0 6 cX6_fail (some .boolean) 0 0 [some (vR (kO 6) 1), some (vI v1)] [] u wI (fX6_fail v1 u) := by
  rw [fX6_fail]
  refine g_seg0 (pc' := 14) (L' := [some (vR (kO 6) 1), some (vI v1)]) (st' := [vI 0]) (u1 := (sI u 1 10 (v1 + (16 * (u.1 1 8))))) [(oL 2 0, 1), (oL 0 1, 1), (oC 16, 2), (oL 2 0, 1), (oP (.getfield 91), 3), (oP .imul, 1), (oP .iadd, 1), (oP (.putfield 35), 3), (oC 0, 1)] (by decide +kernel) rfl rfl ?_
  exact g_zret (by decide +kernel) rfl
theorem CX6_fail (v1 : Int32) (u : ab_S) : ab_C 0 yX6_fail cX6_fail 2 (some .boolean) 0 [vR (kO 6) 1, vI v1] u wI (fX6_fail v1 u) := ab_entry (by decide +kernel) rfl (by decide) (by decide) (fun _ => Nat.le_of_ble_eq_true rfl) rfl (tX6_fail v1 u)
def fX6_isWord (o1 : Nat) (u : ab_S) : Option (Int32 × ab_S) :=
  bif decide ((u.1 1 7) = 2) then (
    bif decide ((u.2.1 1 9) = (ab_wl.getD o1 0)) then (
      ab_gd [ab_b1 1] (some (1, u)))
    else (
      ab_gd [ab_b1 0] (some (0, u))))
  else (
    ab_gd [ab_b1 0] (some (0, u)))
theorem tX6_isWord (o1 : Nat) (u : ab_S) : ab_G 0 6 cX6_isWord (some .boolean) 0 0 [some (vR (kO 6) 1), some (vR (kO 20) o1)] [] u wI (fX6_isWord o1 u) := by
  rw [fX6_isWord]
  refine g_seg0 (pc' := 5) (L' := [some (vR (kO 6) 1), some (vR (kO 20) o1)]) (st' := [vI 2, vI (u.1 1 7)]) (u1 := u) [(oL 2 0, 1), (oP (.getfield 88), 3), (oC 2, 1)] (by decide +kernel) rfl rfl ?_
  refine g_ine (off := 19) (tgt := 24) (pc2 := 8) (by decide +kernel) (by decide) rfl ?_ ?_
  · refine g_seg0 (pc' := 25) (L' := [some (vR (kO 6) 1), some (vR (kO 20) o1)]) (st' := [vI 0]) (u1 := u) [(oC 0, 1)] (by decide +kernel) rfl rfl ?_
    exact g_zret (by decide +kernel) rfl
  · refine g_seg0 (pc' := 16) (L' := [some (vR (kO 6) 1), some (vR (kO 20) o1)]) (st' := [vL (ab_wl.getD o1 0), vL (u.2.1 1 9)]) (u1 := u) [(oL 2 0, 1), (oP (.getfield 94), 3), (oL 2 1, 1), (oP (.getfield 98), 3)] (by decide +kernel) rfl rfl ?_
    refine g_lne (off := 7) (tgt := 24) (pc1 := 17) (pc2 := 20) (by decide +kernel) rfl (by decide +kernel) (by decide) rfl ?_ ?_
    · refine g_seg0 (pc' := 25) (L' := [some (vR (kO 6) 1), some (vR (kO 20) o1)]) (st' := [vI 0]) (u1 := u) [(oC 0, 1)] (by decide +kernel) rfl rfl ?_
      exact g_zret (by decide +kernel) rfl
    · refine g_seg0 (pc' := 21) (L' := [some (vR (kO 6) 1), some (vR (kO 20) o1)]) (st' := [vI 1]) (u1 := u) [(oC 1, 1)] (by decide +kernel) rfl rfl ?_
      refine g_goto (off := 4) (tgt := 25) (by decide +kernel) (by decide) ?_
      exact g_zret (by decide +kernel) rfl
theorem CX6_isWord (o1 : Nat) (u : ab_S) : ab_C 0 yX6_isWord cX6_isWord 2 (some .boolean) 0 [vR (kO 6) 1, vR (kO 20) o1] u wI (fX6_isWord o1 u) := ab_entry (by decide +kernel) rfl (by decide) (by decide) (fun _ => Nat.le_of_ble_eq_true rfl) rfl (tX6_isWord o1 u)
def fX6_takeWord (o1 : Nat) (u : ab_S) : Option (Int32 × ab_S) :=
  (fX6_isWord o1 u).bind fun q1 =>
    bif decide (q1.1 = 0) then (
      (fX6_fail 1 q1.2).bind fun q3 =>
        ab_gd [ab_b1 q3.1] (some (q3.1, q3.2)))
    else (
      (fX6_step q1.2).bind fun q2 =>
        ab_gd [ab_b1 1] (some (1, q2.2)))
theorem tX6_takeWord (o1 : Nat) (u : ab_S) : ab_G 0 6 cX6_takeWord (some .boolean) 1 0 [some (vR (kO 6) 1), some (vR (kO 20) o1)] [] u wI (fX6_takeWord o1 u) := by
  rw [fX6_takeWord]
  refine g_seg0 (pc' := 2) (L' := [some (vR (kO 6) 1), some (vR (kO 20) o1)]) (st' := [vR (kO 20) o1, vR (kO 6) 1]) (u1 := u) [(oL 2 0, 1), (oL 2 1, 1)] (by decide +kernel) rfl rfl ?_
  refine g_callV (k := 111) (pc2 := 5) (st := []) (CX6_isWord o1 u) miX6_isWord mvX6_isWord rfl (by decide) lk6_111 wI_ok (by decide +kernel) rfl (Nat.le_of_ble_eq_true rfl) (by decide) rfl (fun q1 hq1 => ?_)
  refine g_zne (off := 9) (tgt := 14) (pc2 := 8) (by decide +kernel) (by decide) rfl ?_ ?_
  · refine g_seg0 (pc' := 15) (L' := [some (vR (kO 6) 1), some (vR (kO 20) o1)]) (st' := [vR (kO 6) 1]) (u1 := q1.2) [(oL 2 0, 1)] (by decide +kernel) rfl rfl ?_
    refine g_callV (k := 59) (pc2 := 18) (st := []) (CX6_step q1.2) miX6_step mvX6_step rfl (by decide) lk6_59 wV_ok (by decide +kernel) rfl (Nat.le_of_ble_eq_true rfl) (by decide) rfl (fun q2 hq2 => ?_)
    refine g_seg0 (pc' := 19) (L' := [some (vR (kO 6) 1), some (vR (kO 20) o1)]) (st' := [vI 1]) (u1 := q2.2) [(oC 1, 1)] (by decide +kernel) rfl rfl ?_
    exact g_zret (by decide +kernel) rfl
  · refine g_seg0 (pc' := 10) (L' := [some (vR (kO 6) 1), some (vR (kO 20) o1)]) (st' := [vI 1, vR (kO 6) 1]) (u1 := q1.2) [(oL 2 0, 1), (oC 1, 1)] (by decide +kernel) rfl rfl ?_
    refine g_callV (k := 115) (pc2 := 13) (st := []) (CX6_fail 1 q1.2) miX6_fail mvX6_fail rfl (by decide) lk6_115 wI_ok (by decide +kernel) rfl (Nat.le_of_ble_eq_true rfl) (by decide) rfl (fun q3 hq3 => ?_)
    exact g_zret (by decide +kernel) rfl
theorem CX6_takeWord (o1 : Nat) (u : ab_S) : ab_C 0 yX6_takeWord cX6_takeWord 2 (some .boolean) 1 [vR (kO 6) 1, vR (kO 20) o1] u wI (fX6_takeWord o1 u) := ab_entry (by decide +kernel) rfl (by decide) (by decide) (fun _ => Nat.le_of_ble_eq_true rfl) rfl (tX6_takeWord o1 u)
def fX6_takeNumber_32 (u : ab_S) : Option (Int32 × ab_S) :=
  (fX6_fail 4 u).bind fun q1 =>
    some ((-1), q1.2)
theorem tX6_takeNumber_32 (u : ab_S) : ab_G 0 6 cX6_takeNumber (some .int) 1 32 [some (vR (kO 6) 1), none, none, none] [] u wI (fX6_takeNumber_32 u) := by
  rw [fX6_takeNumber_32]
  refine g_seg0 (pc' := 34) (L' := [some (vR (kO 6) 1), none, none, none]) (st' := [vI 4, vR (kO 6) 1]) (u1 := u) [(oL 2 0, 1), (oC 4, 1)] (by decide +kernel) rfl rfl ?_
  refine g_callV (k := 115) (pc2 := 37) (st := []) (CX6_fail 4 u) miX6_fail mvX6_fail rfl (by decide) lk6_115 wI_ok (by decide +kernel) rfl (Nat.le_of_ble_eq_true rfl) (by decide) rfl (fun q1 hq1 => ?_)
  refine g_seg0 (pc' := 39) (L' := [some (vR (kO 6) 1), none, none, none]) (st' := [vI (-1)]) (u1 := q1.2) [(oP .pop, 1), (oC (-1), 1)] (by decide +kernel) rfl rfl ?_
  exact g_iret (by decide +kernel) rfl
def fX6_takeNumber (v1 : Int32) (v2 : Int32) (u : ab_S) : Option (Int32 × ab_S) :=
  bif decide ((u.1 1 7) = 3) then (
    bif decide ((Int64.toInt32 (u.2.1 1 9)) < v1) then (
      fX6_takeNumber_32 u)
    else (
      bif decide ((Int64.toInt32 (u.2.1 1 9)) ≤ v2) then (
        (fX6_step u).bind fun q2 =>
          some ((Int64.toInt32 (u.2.1 1 9)), q2.2))
      else (
        fX6_takeNumber_32 u)))
  else (
    (fX6_fail 1 u).bind fun q3 =>
      some ((-1), q3.2))
theorem tX6_takeNumber (v1 : Int32) (v2 : Int32) (u : ab_S) : ab_G 0 6 cX6_takeNumber (some .int) 1 0 [some (vR (kO 6) 1), some (vI v1), some (vI v2), none] [] u wI (fX6_takeNumber v1 v2 u) := by
  rw [fX6_takeNumber]
  refine g_seg0 (pc' := 5) (L' := [some (vR (kO 6) 1), some (vI v1), some (vI v2), none]) (st' := [vI 3, vI (u.1 1 7)]) (u1 := u) [(oL 2 0, 1), (oP (.getfield 88), 3), (oC 3, 1)] (by decide +kernel) rfl rfl ?_
  refine g_ieq (off := 11) (tgt := 16) (pc2 := 8) (by decide +kernel) (by decide) rfl ?_ ?_
  · refine g_seg0 (pc' := 24) (L' := [some (vR (kO 6) 1), some (vI v1), some (vI v2), some (vI (Int64.toInt32 (u.2.1 1 9)))]) (st' := [vI v1, vI (Int64.toInt32 (u.2.1 1 9))]) (u1 := u) [(oL 2 0, 1), (oP (.getfield 94), 3), (oP .l2i, 1), (oL 3 3, 1), (oL 0 3, 1), (oL 0 1, 1)] (by decide +kernel) rfl rfl ?_
    refine g_ilt (off := 8) (tgt := 32) (pc2 := 27) (by decide +kernel) (by decide) rfl ?_ ?_
    · exact g_jump [true, false, false, false] rfl (tX6_takeNumber_32 u)
    · refine g_seg0 (pc' := 29) (L' := [some (vR (kO 6) 1), some (vI v1), some (vI v2), some (vI (Int64.toInt32 (u.2.1 1 9)))]) (st' := [vI v2, vI (Int64.toInt32 (u.2.1 1 9))]) (u1 := u) [(oL 0 3, 1), (oL 0 2, 1)] (by decide +kernel) rfl rfl ?_
      refine g_ile (off := 11) (tgt := 40) (pc2 := 32) (by decide +kernel) (by decide) rfl ?_ ?_
      · refine g_seg0 (pc' := 41) (L' := [some (vR (kO 6) 1), some (vI v1), some (vI v2), some (vI (Int64.toInt32 (u.2.1 1 9)))]) (st' := [vR (kO 6) 1]) (u1 := u) [(oL 2 0, 1)] (by decide +kernel) rfl rfl ?_
        refine g_callV (k := 59) (pc2 := 44) (st := []) (CX6_step u) miX6_step mvX6_step rfl (by decide) lk6_59 wV_ok (by decide +kernel) rfl (Nat.le_of_ble_eq_true rfl) (by decide) rfl (fun q2 hq2 => ?_)
        refine g_seg0 (pc' := 45) (L' := [some (vR (kO 6) 1), some (vI v1), some (vI v2), some (vI (Int64.toInt32 (u.2.1 1 9)))]) (st' := [vI (Int64.toInt32 (u.2.1 1 9))]) (u1 := q2.2) [(oL 0 3, 1)] (by decide +kernel) rfl rfl ?_
        exact g_iret (by decide +kernel) rfl
      · exact g_jump [true, false, false, false] rfl (tX6_takeNumber_32 u)
  · refine g_seg0 (pc' := 10) (L' := [some (vR (kO 6) 1), some (vI v1), some (vI v2), none]) (st' := [vI 1, vR (kO 6) 1]) (u1 := u) [(oL 2 0, 1), (oC 1, 1)] (by decide +kernel) rfl rfl ?_
    refine g_callV (k := 115) (pc2 := 13) (st := []) (CX6_fail 1 u) miX6_fail mvX6_fail rfl (by decide) lk6_115 wI_ok (by decide +kernel) rfl (Nat.le_of_ble_eq_true rfl) (by decide) rfl (fun q3 hq3 => ?_)
    refine g_seg0 (pc' := 15) (L' := [some (vR (kO 6) 1), some (vI v1), some (vI v2), none]) (st' := [vI (-1)]) (u1 := q3.2) [(oP .pop, 1), (oC (-1), 1)] (by decide +kernel) rfl rfl ?_
    exact g_iret (by decide +kernel) rfl
theorem CX6_takeNumber (v1 : Int32) (v2 : Int32) (u : ab_S) : ab_C 0 yX6_takeNumber cX6_takeNumber 4 (some .int) 1 [vR (kO 6) 1, vI v1, vI v2] u wI (fX6_takeNumber v1 v2 u) := ab_entry (by decide +kernel) rfl (by decide) (by decide) (fun _ => Nat.le_of_ble_eq_true rfl) rfl (tX6_takeNumber v1 v2 u)
def fX2_kindAt (u : ab_S) : Option (Int32 × ab_S) :=
  (fX6_isWord 12 u).bind fun q1 =>
    bif decide (q1.1 = 0) then (
      (fX6_isWord 13 q1.2).bind fun q2 =>
        bif decide (q2.1 = 0) then (
          (fX6_isWord 14 q2.2).bind fun q3 =>
            bif decide (q3.1 = 0) then (
              (fX6_isWord 15 q3.2).bind fun q4 =>
                bif decide (q4.1 = 0) then (
                  some ((-1), q4.2))
                else (
                  some (3, q4.2)))
            else (
              some (2, q3.2)))
        else (
          some (1, q2.2)))
    else (
      some (0, q1.2))
theorem tX2_kindAt (u : ab_S) : ab_G 0 2 cX2_kindAt (some .int) 1 0 [some (vR (kO 6) 1)] [] u wI (fX2_kindAt u) := by
  rw [fX2_kindAt]
  refine g_seg0 (pc' := 4) (L' := [some (vR (kO 6) 1)]) (st' := [vR (kO 20) 12, vR (kO 6) 1]) (u1 := u) [(oL 2 0, 1), (oP (.getstatic 179), 3)] (by decide +kernel) rfl rfl ?_
  refine g_callV (k := 88) (pc2 := 7) (st := []) (CX6_isWord 12 u) miX6_isWord mvX6_isWord rfl (by decide) lk2_88 wI_ok (by decide +kernel) rfl (Nat.le_of_ble_eq_true rfl) (by decide) rfl (fun q1 hq1 => ?_)
  refine g_zeq (off := 5) (tgt := 12) (pc2 := 10) (by decide +kernel) (by decide) rfl ?_ ?_
  · refine g_seg0 (pc' := 16) (L' := [some (vR (kO 6) 1)]) (st' := [vR (kO 20) 13, vR (kO 6) 1]) (u1 := q1.2) [(oL 2 0, 1), (oP (.getstatic 182), 3)] (by decide +kernel) rfl rfl ?_
    refine g_callV (k := 88) (pc2 := 19) (st := []) (CX6_isWord 13 q1.2) miX6_isWord mvX6_isWord rfl (by decide) lk2_88 wI_ok (by decide +kernel) rfl (Nat.le_of_ble_eq_true rfl) (by decide) rfl (fun q2 hq2 => ?_)
    refine g_zeq (off := 5) (tgt := 24) (pc2 := 22) (by decide +kernel) (by decide) rfl ?_ ?_
    · refine g_seg0 (pc' := 28) (L' := [some (vR (kO 6) 1)]) (st' := [vR (kO 20) 14, vR (kO 6) 1]) (u1 := q2.2) [(oL 2 0, 1), (oP (.getstatic 185), 3)] (by decide +kernel) rfl rfl ?_
      refine g_callV (k := 88) (pc2 := 31) (st := []) (CX6_isWord 14 q2.2) miX6_isWord mvX6_isWord rfl (by decide) lk2_88 wI_ok (by decide +kernel) rfl (Nat.le_of_ble_eq_true rfl) (by decide) rfl (fun q3 hq3 => ?_)
      refine g_zeq (off := 5) (tgt := 36) (pc2 := 34) (by decide +kernel) (by decide) rfl ?_ ?_
      · refine g_seg0 (pc' := 40) (L' := [some (vR (kO 6) 1)]) (st' := [vR (kO 20) 15, vR (kO 6) 1]) (u1 := q3.2) [(oL 2 0, 1), (oP (.getstatic 188), 3)] (by decide +kernel) rfl rfl ?_
        refine g_callV (k := 88) (pc2 := 43) (st := []) (CX6_isWord 15 q3.2) miX6_isWord mvX6_isWord rfl (by decide) lk2_88 wI_ok (by decide +kernel) rfl (Nat.le_of_ble_eq_true rfl) (by decide) rfl (fun q4 hq4 => ?_)
        refine g_zeq (off := 7) (tgt := 50) (pc2 := 46) (by decide +kernel) (by decide) rfl ?_ ?_
        · refine g_seg0 (pc' := 51) (L' := [some (vR (kO 6) 1)]) (st' := [vI (-1)]) (u1 := q4.2) [(oC (-1), 1)] (by decide +kernel) rfl rfl ?_
          exact g_iret (by decide +kernel) rfl
        · refine g_seg0 (pc' := 47) (L' := [some (vR (kO 6) 1)]) (st' := [vI 3]) (u1 := q4.2) [(oC 3, 1)] (by decide +kernel) rfl rfl ?_
          refine g_goto (off := 4) (tgt := 51) (by decide +kernel) (by decide) ?_
          exact g_iret (by decide +kernel) rfl
      · refine g_seg0 (pc' := 35) (L' := [some (vR (kO 6) 1)]) (st' := [vI 2]) (u1 := q3.2) [(oC 2, 1)] (by decide +kernel) rfl rfl ?_
        exact g_iret (by decide +kernel) rfl
    · refine g_seg0 (pc' := 23) (L' := [some (vR (kO 6) 1)]) (st' := [vI 1]) (u1 := q2.2) [(oC 1, 1)] (by decide +kernel) rfl rfl ?_
      exact g_iret (by decide +kernel) rfl
  · refine g_seg0 (pc' := 11) (L' := [some (vR (kO 6) 1)]) (st' := [vI 0]) (u1 := q1.2) [(oC 0, 1)] (by decide +kernel) rfl rfl ?_
    exact g_iret (by decide +kernel) rfl
theorem CX2_kindAt (u : ab_S) : ab_C 0 yX2_kindAt cX2_kindAt 1 (some .int) 1 [vR (kO 6) 1] u wI (fX2_kindAt u) := ab_entry (by decide +kernel) rfl (by decide) (by decide) (fun _ => Nat.le_of_ble_eq_true rfl) rfl (tX2_kindAt u)
def fX6_isSign (v1 : Int32) (u : ab_S) : Option (Int32 × ab_S) :=
  bif decide ((u.1 1 7) = 4) then (
    bif decide ((u.2.1 1 9) = (Int32.toInt64 v1)) then (
      ab_gd [ab_b1 1] (some (1, u)))
    else (
      ab_gd [ab_b1 0] (some (0, u))))
  else (
    ab_gd [ab_b1 0] (some (0, u)))
theorem tX6_isSign (v1 : Int32) (u : ab_S) : ab_G 0 6 cX6_isSign (some .boolean) 0 0 [some (vR (kO 6) 1), some (vI v1)] [] u wI (fX6_isSign v1 u) := by
  rw [fX6_isSign]
  refine g_seg0 (pc' := 5) (L' := [some (vR (kO 6) 1), some (vI v1)]) (st' := [vI 4, vI (u.1 1 7)]) (u1 := u) [(oL 2 0, 1), (oP (.getfield 88), 3), (oC 4, 1)] (by decide +kernel) rfl rfl ?_
  refine g_ine (off := 17) (tgt := 22) (pc2 := 8) (by decide +kernel) (by decide) rfl ?_ ?_
  · refine g_seg0 (pc' := 23) (L' := [some (vR (kO 6) 1), some (vI v1)]) (st' := [vI 0]) (u1 := u) [(oC 0, 1)] (by decide +kernel) rfl rfl ?_
    exact g_zret (by decide +kernel) rfl
  · refine g_seg0 (pc' := 14) (L' := [some (vR (kO 6) 1), some (vI v1)]) (st' := [vL (Int32.toInt64 v1), vL (u.2.1 1 9)]) (u1 := u) [(oL 2 0, 1), (oP (.getfield 94), 3), (oL 0 1, 1), (oP .i2l, 1)] (by decide +kernel) rfl rfl ?_
    refine g_lne (off := 7) (tgt := 22) (pc1 := 15) (pc2 := 18) (by decide +kernel) rfl (by decide +kernel) (by decide) rfl ?_ ?_
    · refine g_seg0 (pc' := 23) (L' := [some (vR (kO 6) 1), some (vI v1)]) (st' := [vI 0]) (u1 := u) [(oC 0, 1)] (by decide +kernel) rfl rfl ?_
      exact g_zret (by decide +kernel) rfl
    · refine g_seg0 (pc' := 19) (L' := [some (vR (kO 6) 1), some (vI v1)]) (st' := [vI 1]) (u1 := u) [(oC 1, 1)] (by decide +kernel) rfl rfl ?_
      refine g_goto (off := 4) (tgt := 23) (by decide +kernel) (by decide) ?_
      exact g_zret (by decide +kernel) rfl
theorem CX6_isSign (v1 : Int32) (u : ab_S) : ab_C 0 yX6_isSign cX6_isSign 2 (some .boolean) 0 [vR (kO 6) 1, vI v1] u wI (fX6_isSign v1 u) := ab_entry (by decide +kernel) rfl (by decide) (by decide) (fun _ => Nat.le_of_ble_eq_true rfl) rfl (tX6_isSign v1 u)
def fX6_takeEnd (u : ab_S) : Option (Int32 × ab_S) :=
  (fX6_isSign 59 u).bind fun q1 =>
    bif decide (q1.1 = 0) then (
      (fX6_fail 1 q1.2).bind fun q3 =>
        ab_gd [ab_b1 q3.1] (some (q3.1, q3.2)))
    else (
      (fX6_step q1.2).bind fun q2 =>
        ab_gd [ab_b1 1] (some (1, q2.2)))
theorem tX6_takeEnd (u : ab_S) : ab_G 0 6 cX6_takeEnd (some .boolean) 1 0 [some (vR (kO 6) 1)] [] u wI (fX6_takeEnd u) := by
  rw [fX6_takeEnd]
  refine g_seg0 (pc' := 3) (L' := [some (vR (kO 6) 1)]) (st' := [vI 59, vR (kO 6) 1]) (u1 := u) [(oL 2 0, 1), (oC 59, 2)] (by decide +kernel) rfl rfl ?_
  refine g_callV (k := 119) (pc2 := 6) (st := []) (CX6_isSign 59 u) miX6_isSign mvX6_isSign rfl (by decide) lk6_119 wI_ok (by decide +kernel) rfl (Nat.le_of_ble_eq_true rfl) (by decide) rfl (fun q1 hq1 => ?_)
  refine g_zne (off := 9) (tgt := 15) (pc2 := 9) (by decide +kernel) (by decide) rfl ?_ ?_
  · refine g_seg0 (pc' := 16) (L' := [some (vR (kO 6) 1)]) (st' := [vR (kO 6) 1]) (u1 := q1.2) [(oL 2 0, 1)] (by decide +kernel) rfl rfl ?_
    refine g_callV (k := 59) (pc2 := 19) (st := []) (CX6_step q1.2) miX6_step mvX6_step rfl (by decide) lk6_59 wV_ok (by decide +kernel) rfl (Nat.le_of_ble_eq_true rfl) (by decide) rfl (fun q2 hq2 => ?_)
    refine g_seg0 (pc' := 20) (L' := [some (vR (kO 6) 1)]) (st' := [vI 1]) (u1 := q2.2) [(oC 1, 1)] (by decide +kernel) rfl rfl ?_
    exact g_zret (by decide +kernel) rfl
  · refine g_seg0 (pc' := 11) (L' := [some (vR (kO 6) 1)]) (st' := [vI 1, vR (kO 6) 1]) (u1 := q1.2) [(oL 2 0, 1), (oC 1, 1)] (by decide +kernel) rfl rfl ?_
    refine g_callV (k := 115) (pc2 := 14) (st := []) (CX6_fail 1 q1.2) miX6_fail mvX6_fail rfl (by decide) lk6_115 wI_ok (by decide +kernel) rfl (Nat.le_of_ble_eq_true rfl) (by decide) rfl (fun q3 hq3 => ?_)
    exact g_zret (by decide +kernel) rfl
theorem CX6_takeEnd (u : ab_S) : ab_C 0 yX6_takeEnd cX6_takeEnd 1 (some .boolean) 1 [vR (kO 6) 1] u wI (fX6_takeEnd u) := ab_entry (by decide +kernel) rfl (by decide) (by decide) (fun _ => Nat.le_of_ble_eq_true rfl) rfl (tX6_takeEnd u)
def fX2_addPerson (o0 : Nat) (v1 : Int64) (v3 : Int32) (v4 : Int32) (u : ab_S) : Option (Unit × ab_S) :=
  bif decide ((u.1 o0 0) < 0) then (
    some ((), u))
  else (
    bif decide ((u.1 o0 0) < 6) then (
      ab_gd [ab_ix (u.1 o0 0) 6] (
        (fX9_put 6 (o0 + 3) ((sJ u (o0 + 1) (nc (u.1 o0 0)) v1).1 o0 0) v3 (sJ u (o0 + 1) (nc (u.1 o0 0)) v1)).bind fun q1 =>
          (fX9_put 6 (o0 + 4) (q1.2.1 o0 0) v4 q1.2).bind fun q2 =>
            some ((), (sI q2.2 o0 0 ((q2.2.1 o0 0) + 1)))))
    else (
      some ((), u)))
theorem tX2_addPerson (o0 : Nat) (v1 : Int64) (v3 : Int32) (v4 : Int32) (u : ab_S) : ab_G 0 2 cX2_addPerson none 1 0 [some (vR (kO 2) o0), some (vL v1), none, some (vI v3), some (vI v4)] [] u wV (fX2_addPerson o0 v1 v3 v4 u) := by
  rw [fX2_addPerson]
  refine g_seg0 (pc' := 4) (L' := [some (vR (kO 2) o0), some (vL v1), none, some (vI v3), some (vI v4)]) (st' := [vI (u.1 o0 0)]) (u1 := u) [(oL 2 0, 1), (oP (.getfield 63), 3)] (by decide +kernel) rfl rfl ?_
  refine g_zlt (off := 60) (tgt := 64) (pc2 := 7) (by decide +kernel) (by decide) rfl ?_ ?_
  · exact g_vret (by decide +kernel) rfl
  · refine g_seg0 (pc' := 16) (L' := [some (vR (kO 2) o0), some (vL v1), none, some (vI v3), some (vI v4)]) (st' := [vI 6, vI (u.1 o0 0)]) (u1 := u) [(oL 2 0, 1), (oP (.getfield 63), 3), (oL 2 0, 1), (oP (.getfield 9), 3), (oP .arraylength, 1)] (by decide +kernel) rfl rfl ?_
    refine g_ige (off := 48) (tgt := 64) (pc2 := 19) (by decide +kernel) (by decide) rfl ?_ ?_
    · exact g_vret (by decide +kernel) rfl
    · refine g_seg (pc' := 38) (L' := [some (vR (kO 2) o0), some (vL v1), none, some (vI v3), some (vI v4)]) (st' := [vI v3, vI ((sJ u (o0 + 1) (nc (u.1 o0 0)) v1).1 o0 0), vR (kA 0 6) (o0 + 3)]) (u1 := (sJ u (o0 + 1) (nc (u.1 o0 0)) v1)) [(oL 2 0, 1), (oP (.getfield 9), 3), (oL 2 0, 1), (oP (.getfield 63), 3), (oL 1 1, 1), (oP .lastore, 1), (oL 2 0, 1), (oP (.getfield 18), 3), (oL 2 0, 1), (oP (.getfield 63), 3), (oL 0 3, 1)] (by decide +kernel) rfl rfl ?_
      refine g_callS (k := 155) (pc2 := 41) (st := []) (CX9_put 6 (o0 + 3) ((sJ u (o0 + 1) (nc (u.1 o0 0)) v1).1 o0 0) v3 (sJ u (o0 + 1) (nc (u.1 o0 0)) v1)) miX9_put msX9_put lk2_155 wV_ok (by decide +kernel) rfl (Nat.le_of_ble_eq_true rfl) (by decide) rfl (fun q1 hq1 => ?_)
      refine g_seg0 (pc' := 51) (L' := [some (vR (kO 2) o0), some (vL v1), none, some (vI v3), some (vI v4)]) (st' := [vI v4, vI (q1.2.1 o0 0), vR (kA 0 6) (o0 + 4)]) (u1 := q1.2) [(oL 2 0, 1), (oP (.getfield 22), 3), (oL 2 0, 1), (oP (.getfield 63), 3), (oL 0 4, 2)] (by decide +kernel) rfl rfl ?_
      refine g_callS (k := 155) (pc2 := 54) (st := []) (CX9_put 6 (o0 + 4) (q1.2.1 o0 0) v4 q1.2) miX9_put msX9_put lk2_155 wV_ok (by decide +kernel) rfl (Nat.le_of_ble_eq_true rfl) (by decide) rfl (fun q2 hq2 => ?_)
      refine g_seg0 (pc' := 64) (L' := [some (vR (kO 2) o0), some (vL v1), none, some (vI v3), some (vI v4)]) (st' := []) (u1 := (sI q2.2 o0 0 ((q2.2.1 o0 0) + 1))) [(oL 2 0, 1), (oP .dup, 1), (oP (.getfield 63), 3), (oC 1, 1), (oP .iadd, 1), (oP (.putfield 63), 3)] (by decide +kernel) rfl rfl ?_
      exact g_vret (by decide +kernel) rfl
theorem CX2_addPerson (o0 : Nat) (v1 : Int64) (v3 : Int32) (v4 : Int32) (u : ab_S) : ab_C 0 yX2_addPerson cX2_addPerson 5 none 1 [vR (kO 2) o0, vL v1, vI v3, vI v4] u wV (fX2_addPerson o0 v1 v3 v4 u) := ab_entry (by decide +kernel) rfl (by decide) (by decide) (fun _ => Nat.le_of_ble_eq_true rfl) rfl (tX2_addPerson o0 v1 v3 v4 u)
def fX6_isName_19 : Nat → Int32 → Int32 → ab_S → Option (Int32 × ab_S)
  | 0, _, _, _ => none
  | n + 1, v2, v3, u =>
  bif decide (v3 < v2) then (
    ab_gd [ab_ix v3 23] (
      bif decide ((ab_wr.getD (nc v3) 0) = 0) then (
        (fX6_isName_19 n) v2 (v3 + 1) u)
      else (
        bif decide ((ab_wl.getD (nc v3) 0) = (u.2.1 1 9)) then (
          ab_gd [ab_b1 0] (some (0, u)))
        else (
          (fX6_isName_19 n) v2 (v3 + 1) u))))
  else (
    ab_gd [ab_b1 1] (some (1, u)))
theorem tX6_isName_19 : ∀ (n : Nat) (v2 : Int32) (v3 : Int32) (u : ab_S), ab_G 0 6 cX6_isName (some .boolean) 0 19 [some (vR (kO 6) 1), some (vR (kA 6 23) 0), some (vI v2), some (vI v3), none] [] u wI (fX6_isName_19 n v2 v3 u) := by
  intro n
  induction n with
  | zero => intros; exact g_none
  | succ n ih =>
    intro v2 v3 u
    rw [fX6_isName_19]
    refine g_seg0 (pc' := 21) (L' := [some (vR (kO 6) 1), some (vR (kA 6 23) 0), some (vI v2), some (vI v3), none]) (st' := [vI v2, vI v3]) (u1 := u) [(oL 0 3, 1), (oL 0 2, 1)] (by decide +kernel) rfl rfl ?_
    refine g_ige (off := 37) (tgt := 58) (pc2 := 24) (by decide +kernel) (by decide) rfl ?_ ?_
    · refine g_seg0 (pc' := 59) (L' := [some (vR (kO 6) 1), some (vR (kA 6 23) 0), some (vI v2), some (vI v3), none]) (st' := [vI 1]) (u1 := u) [(oC 1, 1)] (by decide +kernel) rfl rfl ?_
      exact g_zret (by decide +kernel) rfl
    · refine g_seg (pc' := 34) (L' := [some (vR (kO 6) 1), some (vR (kA 6 23) 0), some (vI v2), some (vI v3), some (vR (kO 20) (nc v3))]) (st' := [vI (ab_wr.getD (nc v3) 0)]) (u1 := u) [(oL 2 1, 1), (oL 0 3, 1), (oP .aaload, 1), (oL 5 4, 2), (oL 2 4, 2), (oP (.getfield 107), 3)] (by decide +kernel) rfl rfl ?_
      refine g_zeq (off := 18) (tgt := 52) (pc2 := 37) (by decide +kernel) (by decide) rfl ?_ ?_
      · refine g_seg0 (pc' := 55) (L' := [some (vR (kO 6) 1), some (vR (kA 6 23) 0), some (vI v2), some (vI (v3 + 1)), some (vR (kO 20) (nc v3))]) (st' := []) (u1 := u) [(oN 3 1, 3)] (by decide +kernel) rfl rfl ?_
        refine g_goto (off := (-36)) (tgt := 19) (by decide +kernel) (by decide) ?_
        exact g_jump [true, true, true, true, false] rfl (ih v2 (v3 + 1) u)
      · refine g_seg0 (pc' := 46) (L' := [some (vR (kO 6) 1), some (vR (kA 6 23) 0), some (vI v2), some (vI v3), some (vR (kO 20) (nc v3))]) (st' := [vL (u.2.1 1 9), vL (ab_wl.getD (nc v3) 0)]) (u1 := u) [(oL 2 4, 2), (oP (.getfield 98), 3), (oL 2 0, 1), (oP (.getfield 94), 3)] (by decide +kernel) rfl rfl ?_
        refine g_lne (off := 5) (tgt := 52) (pc1 := 47) (pc2 := 50) (by decide +kernel) rfl (by decide +kernel) (by decide) rfl ?_ ?_
        · refine g_seg0 (pc' := 55) (L' := [some (vR (kO 6) 1), some (vR (kA 6 23) 0), some (vI v2), some (vI (v3 + 1)), some (vR (kO 20) (nc v3))]) (st' := []) (u1 := u) [(oN 3 1, 3)] (by decide +kernel) rfl rfl ?_
          refine g_goto (off := (-36)) (tgt := 19) (by decide +kernel) (by decide) ?_
          exact g_jump [true, true, true, true, false] rfl (ih v2 (v3 + 1) u)
        · refine g_seg0 (pc' := 51) (L' := [some (vR (kO 6) 1), some (vR (kA 6 23) 0), some (vI v2), some (vI v3), some (vR (kO 20) (nc v3))]) (st' := [vI 0]) (u1 := u) [(oC 0, 1)] (by decide +kernel) rfl rfl ?_
          exact g_zret (by decide +kernel) rfl
def fX6_isName (u : ab_S) : Option (Int32 × ab_S) :=
  bif decide ((u.1 1 7) = 2) then (
    fX6_isName_19 fu 23 0 u)
  else (
    ab_gd [ab_b1 0] (some (0, u)))
theorem tX6_isName (u : ab_S) : ab_G 0 6 cX6_isName (some .boolean) 0 0 [some (vR (kO 6) 1), none, none, none, none] [] u wI (fX6_isName u) := by
  rw [fX6_isName]
  refine g_seg0 (pc' := 5) (L' := [some (vR (kO 6) 1), none, none, none, none]) (st' := [vI 2, vI (u.1 1 7)]) (u1 := u) [(oL 2 0, 1), (oP (.getfield 88), 3), (oC 2, 1)] (by decide +kernel) rfl rfl ?_
  refine g_ieq (off := 5) (tgt := 10) (pc2 := 8) (by decide +kernel) (by decide) rfl ?_ ?_
  · refine g_seg0 (pc' := 19) (L' := [some (vR (kO 6) 1), some (vR (kA 6 23) 0), some (vI 23), some (vI 0), none]) (st' := []) (u1 := u) [(oP (.getstatic 103), 3), (oL 5 1, 1), (oL 2 1, 1), (oP .arraylength, 1), (oL 3 2, 1), (oC 0, 1), (oL 3 3, 1)] (by decide +kernel) rfl rfl ?_
    exact tX6_isName_19 fu 23 0 u
  · refine g_seg0 (pc' := 9) (L' := [some (vR (kO 6) 1), none, none, none, none]) (st' := [vI 0]) (u1 := u) [(oC 0, 1)] (by decide +kernel) rfl rfl ?_
    exact g_zret (by decide +kernel) rfl
theorem CX6_isName (u : ab_S) : ab_C 0 yX6_isName cX6_isName 5 (some .boolean) 0 [vR (kO 6) 1] u wI (fX6_isName u) := ab_entry (by decide +kernel) rfl (by decide) (by decide) (fun _ => Nat.le_of_ble_eq_true rfl) rfl (tX6_isName u)
def fX9_indexOf_3 (n0 : Nat) (o0 : Nat) : Nat → Int32 → Int64 → Int32 → ab_S → Option (Int32 × ab_S)
  | 0, _, _, _, _ => none
  | n + 1, v1, v2, v4, u =>
  bif decide (v4 < v1) then (
    bif decide (v4 < (Int32.ofNat n0)) then (
      ab_gd [ab_ix v4 n0] (
        bif decide ((u.2.1 o0 (nc v4)) = v2) then (
          some (v4, u))
        else (
          (fX9_indexOf_3 n0 o0 n) v1 v2 (v4 + 1) u)))
    else (
      some ((-1), u)))
  else (
    some ((-1), u))
theorem tX9_indexOf_3 (n0 : Nat) (o0 : Nat) : ∀ (n : Nat) (v1 : Int32) (v2 : Int64) (v4 : Int32) (u : ab_S), ab_G 0 8 cX9_indexOf (some .int) 0 3 [some (vR (kA 1 n0) o0), some (vI v1), some (vL v2), none, some (vI v4)] [] u wI (fX9_indexOf_3 n0 o0 n v1 v2 v4 u) := by
  intro n
  induction n with
  | zero => intros; exact g_none
  | succ n ih =>
    intro v1 v2 v4 u
    rw [fX9_indexOf_3]
    refine g_seg0 (pc' := 6) (L' := [some (vR (kA 1 n0) o0), some (vI v1), some (vL v2), none, some (vI v4)]) (st' := [vI v1, vI v4]) (u1 := u) [(oL 0 4, 2), (oL 0 1, 1)] (by decide +kernel) rfl rfl ?_
    refine g_ige (off := 28) (tgt := 34) (pc2 := 9) (by decide +kernel) (by decide) rfl ?_ ?_
    · refine g_seg0 (pc' := 35) (L' := [some (vR (kA 1 n0) o0), some (vI v1), some (vL v2), none, some (vI v4)]) (st' := [vI (-1)]) (u1 := u) [(oC (-1), 1)] (by decide +kernel) rfl rfl ?_
      exact g_iret (by decide +kernel) rfl
    · refine g_seg0 (pc' := 13) (L' := [some (vR (kA 1 n0) o0), some (vI v1), some (vL v2), none, some (vI v4)]) (st' := [vI (Int32.ofNat n0), vI v4]) (u1 := u) [(oL 0 4, 2), (oL 2 0, 1), (oP .arraylength, 1)] (by decide +kernel) rfl rfl ?_
      refine g_ige (off := 21) (tgt := 34) (pc2 := 16) (by decide +kernel) (by decide) rfl ?_ ?_
      · refine g_seg0 (pc' := 35) (L' := [some (vR (kA 1 n0) o0), some (vI v1), some (vL v2), none, some (vI v4)]) (st' := [vI (-1)]) (u1 := u) [(oC (-1), 1)] (by decide +kernel) rfl rfl ?_
        exact g_iret (by decide +kernel) rfl
      · refine g_seg (pc' := 21) (L' := [some (vR (kA 1 n0) o0), some (vI v1), some (vL v2), none, some (vI v4)]) (st' := [vL v2, vL (u.2.1 o0 (nc v4))]) (u1 := u) [(oL 2 0, 1), (oL 0 4, 2), (oP .laload, 1), (oL 1 2, 1)] (by decide +kernel) rfl rfl ?_
        refine g_lne (off := 6) (tgt := 28) (pc1 := 22) (pc2 := 25) (by decide +kernel) rfl (by decide +kernel) (by decide) rfl ?_ ?_
        · refine g_seg0 (pc' := 31) (L' := [some (vR (kA 1 n0) o0), some (vI v1), some (vL v2), none, some (vI (v4 + 1))]) (st' := []) (u1 := u) [(oN 4 1, 3)] (by decide +kernel) rfl rfl ?_
          refine g_goto (off := (-28)) (tgt := 3) (by decide +kernel) (by decide) ?_
          exact ih v1 v2 (v4 + 1) u
        · refine g_seg0 (pc' := 27) (L' := [some (vR (kA 1 n0) o0), some (vI v1), some (vL v2), none, some (vI v4)]) (st' := [vI v4]) (u1 := u) [(oL 0 4, 2)] (by decide +kernel) rfl rfl ?_
          exact g_iret (by decide +kernel) rfl
def fX9_indexOf (n0 : Nat) (o0 : Nat) (v1 : Int32) (v2 : Int64) (u : ab_S) : Option (Int32 × ab_S) :=
  fX9_indexOf_3 n0 o0 fu v1 v2 0 u
theorem tX9_indexOf (n0 : Nat) (o0 : Nat) (v1 : Int32) (v2 : Int64) (u : ab_S) : ab_G 0 8 cX9_indexOf (some .int) 0 0 [some (vR (kA 1 n0) o0), some (vI v1), some (vL v2), none, none] [] u wI (fX9_indexOf n0 o0 v1 v2 u) := by
  rw [fX9_indexOf]
  refine g_seg0 (pc' := 3) (L' := [some (vR (kA 1 n0) o0), some (vI v1), some (vL v2), none, some (vI 0)]) (st' := []) (u1 := u) [(oC 0, 1), (oL 3 4, 2)] (by decide +kernel) rfl rfl ?_
  exact tX9_indexOf_3 n0 o0 fu v1 v2 0 u
theorem CX9_indexOf (n0 : Nat) (o0 : Nat) (v1 : Int32) (v2 : Int64) (u : ab_S) : ab_C 0 yX9_indexOf cX9_indexOf 5 (some .int) 0 [vR (kA 1 n0) o0, vI v1, vL v2] u wI (fX9_indexOf n0 o0 v1 v2 u) := ab_entry (by decide +kernel) rfl (by decide) (by decide) (fun _ => Nat.le_of_ble_eq_true rfl) rfl (tX9_indexOf n0 o0 v1 v2 u)
def fX2_isNewName_50 (o0 : Nat) (u : ab_S) : Option (Int32 × ab_S) :=
  (fX6_fail 3 u).bind fun q1 =>
    ab_gd [ab_b1 q1.1] (some (q1.1, q1.2))
theorem tX2_isNewName_50 (o0 : Nat) (u : ab_S) : ab_G 0 2 cX2_isNewName (some .boolean) 1 50 [none, some (vR (kO 6) 1), none, none] [] u wI (fX2_isNewName_50 o0 u) := by
  rw [fX2_isNewName_50]
  refine g_seg0 (pc' := 52) (L' := [none, some (vR (kO 6) 1), none, none]) (st' := [vI 3, vR (kO 6) 1]) (u1 := u) [(oL 2 1, 1), (oC 3, 1)] (by decide +kernel) rfl rfl ?_
  refine g_callV (k := 119) (pc2 := 55) (st := []) (CX6_fail 3 u) miX6_fail mvX6_fail rfl (by decide) lk2_119 wI_ok (by decide +kernel) rfl (Nat.le_of_ble_eq_true rfl) (by decide) rfl (fun q1 hq1 => ?_)
  exact g_zret (by decide +kernel) rfl
def fX2_isNewName (o0 : Nat) (u : ab_S) : Option (Int32 × ab_S) :=
  (fX6_isName u).bind fun q2 =>
    bif decide (q2.1 = 0) then (
      (fX6_fail 1 q2.2).bind fun q5 =>
        ab_gd [ab_b1 q5.1] (some (q5.1, q5.2)))
    else (
      (fX9_indexOf 6 (o0 + 1) (q2.2.1 o0 0) (q2.2.2.1 1 9) q2.2).bind fun q3 =>
        bif decide (q3.1 = (-1)) then (
          (fX9_indexOf 8 (o0 + 2) (q3.2.1 o0 1) (q2.2.2.1 1 9) q3.2).bind fun q4 =>
            bif decide (q4.1 = (-1)) then (
              ab_gd [ab_b1 1] (some (1, q4.2)))
            else (
              fX2_isNewName_50 o0 q4.2))
        else (
          fX2_isNewName_50 o0 q3.2))
theorem tX2_isNewName (o0 : Nat) (u : ab_S) : ab_G 0 2 cX2_isNewName (some .boolean) 1 0 [some (vR (kO 2) o0), some (vR (kO 6) 1), none, none] [] u wI (fX2_isNewName o0 u) := by
  rw [fX2_isNewName]
  refine g_seg0 (pc' := 1) (L' := [some (vR (kO 2) o0), some (vR (kO 6) 1), none, none]) (st' := [vR (kO 6) 1]) (u1 := u) [(oL 2 1, 1)] (by decide +kernel) rfl rfl ?_
  refine g_callV (k := 172) (pc2 := 4) (st := []) (CX6_isName u) miX6_isName mvX6_isName rfl (by decide) lk2_172 wI_ok (by decide +kernel) rfl (Nat.le_of_ble_eq_true rfl) (by decide) rfl (fun q2 hq2 => ?_)
  refine g_zne (off := 9) (tgt := 13) (pc2 := 7) (by decide +kernel) (by decide) rfl ?_ ?_
  · refine g_seg0 (pc' := 27) (L' := [some (vR (kO 2) o0), some (vR (kO 6) 1), some (vL (q2.2.2.1 1 9)), none]) (st' := [vL (q2.2.2.1 1 9), vI (q2.2.1 o0 0), vR (kA 1 6) (o0 + 1)]) (u1 := q2.2) [(oL 2 1, 1), (oP (.getfield 129), 3), (oL 4 2, 1), (oL 2 0, 1), (oP (.getfield 9), 3), (oL 2 0, 1), (oP (.getfield 63), 3), (oL 1 2, 1)] (by decide +kernel) rfl rfl ?_
    refine g_callS (k := 175) (pc2 := 30) (st := []) (CX9_indexOf 6 (o0 + 1) (q2.2.1 o0 0) (q2.2.2.1 1 9) q2.2) miX9_indexOf msX9_indexOf lk2_175 wI_ok (by decide +kernel) rfl (Nat.le_of_ble_eq_true rfl) (by decide) rfl (fun q3 hq3 => ?_)
    refine g_seg0 (pc' := 31) (L' := [some (vR (kO 2) o0), some (vR (kO 6) 1), some (vL (q2.2.2.1 1 9)), none]) (st' := [vI (-1), vI (q3.1)]) (u1 := q3.2) [(oC (-1), 1)] (by decide +kernel) rfl rfl ?_
    refine g_ine (off := 19) (tgt := 50) (pc2 := 34) (by decide +kernel) (by decide) rfl ?_ ?_
    · exact g_jump [false, true, false, false] rfl (tX2_isNewName_50 o0 q3.2)
    · refine g_seg0 (pc' := 43) (L' := [some (vR (kO 2) o0), some (vR (kO 6) 1), some (vL (q2.2.2.1 1 9)), none]) (st' := [vL (q2.2.2.1 1 9), vI (q3.2.1 o0 1), vR (kA 1 8) (o0 + 2)]) (u1 := q3.2) [(oL 2 0, 1), (oP (.getfield 15), 3), (oL 2 0, 1), (oP (.getfield 66), 3), (oL 1 2, 1)] (by decide +kernel) rfl rfl ?_
      refine g_callS (k := 175) (pc2 := 46) (st := []) (CX9_indexOf 8 (o0 + 2) (q3.2.1 o0 1) (q2.2.2.1 1 9) q3.2) miX9_indexOf msX9_indexOf lk2_175 wI_ok (by decide +kernel) rfl (Nat.le_of_ble_eq_true rfl) (by decide) rfl (fun q4 hq4 => ?_)
      refine g_seg0 (pc' := 47) (L' := [some (vR (kO 2) o0), some (vR (kO 6) 1), some (vL (q2.2.2.1 1 9)), none]) (st' := [vI (-1), vI (q4.1)]) (u1 := q4.2) [(oC (-1), 1)] (by decide +kernel) rfl rfl ?_
      refine g_ieq (off := 9) (tgt := 56) (pc2 := 50) (by decide +kernel) (by decide) rfl ?_ ?_
      · refine g_seg0 (pc' := 57) (L' := [some (vR (kO 2) o0), some (vR (kO 6) 1), some (vL (q2.2.2.1 1 9)), none]) (st' := [vI 1]) (u1 := q4.2) [(oC 1, 1)] (by decide +kernel) rfl rfl ?_
        exact g_zret (by decide +kernel) rfl
      · exact g_jump [false, true, false, false] rfl (tX2_isNewName_50 o0 q4.2)
  · refine g_seg0 (pc' := 9) (L' := [some (vR (kO 2) o0), some (vR (kO 6) 1), none, none]) (st' := [vI 1, vR (kO 6) 1]) (u1 := q2.2) [(oL 2 1, 1), (oC 1, 1)] (by decide +kernel) rfl rfl ?_
    refine g_callV (k := 119) (pc2 := 12) (st := []) (CX6_fail 1 q2.2) miX6_fail mvX6_fail rfl (by decide) lk2_119 wI_ok (by decide +kernel) rfl (Nat.le_of_ble_eq_true rfl) (by decide) rfl (fun q5 hq5 => ?_)
    exact g_zret (by decide +kernel) rfl
theorem CX2_isNewName (o0 : Nat) (u : ab_S) : ab_C 0 yX2_isNewName cX2_isNewName 4 (some .boolean) 1 [vR (kO 2) o0, vR (kO 6) 1] u wI (fX2_isNewName o0 u) := ab_entry (by decide +kernel) rfl (by decide) (by decide) (fun _ => Nat.le_of_ble_eq_true rfl) rfl (tX2_isNewName o0 u)
def fX2_readPerson (o0 : Nat) (u : ab_S) : Option (Int32 × ab_S) :=
  bif decide ((u.1 o0 0) < 6) then (
    (fX6_step u).bind fun q1 =>
      (fX2_isNewName o0 q1.2).bind fun q2 =>
        bif decide (q2.1 = 0) then (
          ab_gd [ab_b1 0] (some (0, q2.2)))
        else (
          (fX6_step q2.2).bind fun q3 =>
            (fX2_kindAt q3.2).bind fun q4 =>
              bif decide (q4.1 = (-1)) then (
                (fX6_fail 1 q4.2).bind fun q10 =>
                  ab_gd [ab_b1 q10.1] (some (q10.1, q10.2)))
              else (
                (fX6_step q4.2).bind fun q5 =>
                  (fX6_takeWord 1 q5.2).bind fun q6 =>
                    bif decide (q6.1 = 0) then (
                      ab_gd [ab_b1 0] (some (0, q6.2)))
                    else (
                      (fX6_takeNumber 0 50 q6.2).bind fun q7 =>
                        bif decide (q7.1 = (-1)) then (
                          ab_gd [ab_b1 0] (some (0, q7.2)))
                        else (
                          (fX6_takeEnd q7.2).bind fun q8 =>
                            bif decide (q8.1 = 0) then (
                              ab_gd [ab_b1 0] (some (0, q8.2)))
                            else (
                              (fX2_addPerson o0 (q2.2.2.1 1 9) q4.1 q7.1 q8.2).bind fun q9 =>
                                ab_gd [ab_b1 1] (some (1, q9.2))))))))
  else (
    (fX6_fail 5 u).bind fun q11 =>
      ab_gd [ab_b1 q11.1] (some (q11.1, q11.2)))
theorem tX2_readPerson (o0 : Nat) (u : ab_S) : ab_G 0 2 cX2_readPerson (some .boolean) 2 0 [some (vR (kO 2) o0), some (vR (kO 6) 1), none, none, none, none] [] u wI (fX2_readPerson o0 u) := by
  rw [fX2_readPerson]
  refine g_seg0 (pc' := 6) (L' := [some (vR (kO 2) o0), some (vR (kO 6) 1), none, none, none, none]) (st' := [vI 6, vI (u.1 o0 0)]) (u1 := u) [(oL 2 0, 1), (oP (.getfield 63), 3), (oC 6, 2)] (by decide +kernel) rfl rfl ?_
  refine g_ilt (off := 9) (tgt := 15) (pc2 := 9) (by decide +kernel) (by decide) rfl ?_ ?_
  · refine g_seg0 (pc' := 16) (L' := [some (vR (kO 2) o0), some (vR (kO 6) 1), none, none, none, none]) (st' := [vR (kO 6) 1]) (u1 := u) [(oL 2 1, 1)] (by decide +kernel) rfl rfl ?_
    refine g_callV (k := 123) (pc2 := 19) (st := []) (CX6_step u) miX6_step mvX6_step rfl (by decide) lk2_123 wV_ok (by decide +kernel) rfl (Nat.le_of_ble_eq_true rfl) (by decide) rfl (fun q1 hq1 => ?_)
    refine g_seg0 (pc' := 21) (L' := [some (vR (kO 2) o0), some (vR (kO 6) 1), none, none, none, none]) (st' := [vR (kO 6) 1, vR (kO 2) o0]) (u1 := q1.2) [(oL 2 0, 1), (oL 2 1, 1)] (by decide +kernel) rfl rfl ?_
    refine g_callV (k := 126) (pc2 := 24) (st := []) (CX2_isNewName o0 q1.2) miX2_isNewName mvX2_isNewName rfl (by decide) lk2_126 wI_ok (by decide +kernel) rfl (Nat.le_of_ble_eq_true rfl) (by decide) rfl (fun q2 hq2 => ?_)
    refine g_zne (off := 5) (tgt := 29) (pc2 := 27) (by decide +kernel) (by decide) rfl ?_ ?_
    · refine g_seg0 (pc' := 35) (L' := [some (vR (kO 2) o0), some (vR (kO 6) 1), some (vL (q2.2.2.1 1 9)), none, none, none]) (st' := [vR (kO 6) 1]) (u1 := q2.2) [(oL 2 1, 1), (oP (.getfield 129), 3), (oL 4 2, 1), (oL 2 1, 1)] (by decide +kernel) rfl rfl ?_
      refine g_callV (k := 123) (pc2 := 38) (st := []) (CX6_step q2.2) miX6_step mvX6_step rfl (by decide) lk2_123 wV_ok (by decide +kernel) rfl (Nat.le_of_ble_eq_true rfl) (by decide) rfl (fun q3 hq3 => ?_)
      refine g_seg0 (pc' := 39) (L' := [some (vR (kO 2) o0), some (vR (kO 6) 1), some (vL (q2.2.2.1 1 9)), none, none, none]) (st' := [vR (kO 6) 1]) (u1 := q3.2) [(oL 2 1, 1)] (by decide +kernel) rfl rfl ?_
      refine g_callS (k := 133) (pc2 := 42) (st := []) (CX2_kindAt q3.2) miX2_kindAt msX2_kindAt lk2_133 wI_ok (by decide +kernel) rfl (Nat.le_of_ble_eq_true rfl) (by decide) rfl (fun q4 hq4 => ?_)
      refine g_seg0 (pc' := 47) (L' := [some (vR (kO 2) o0), some (vR (kO 6) 1), some (vL (q2.2.2.1 1 9)), none, some (vI (q4.1)), none]) (st' := [vI (-1), vI (q4.1)]) (u1 := q4.2) [(oL 3 4, 2), (oL 0 4, 2), (oC (-1), 1)] (by decide +kernel) rfl rfl ?_
      refine g_ine (off := 9) (tgt := 56) (pc2 := 50) (by decide +kernel) (by decide) rfl ?_ ?_
      · refine g_seg0 (pc' := 57) (L' := [some (vR (kO 2) o0), some (vR (kO 6) 1), some (vL (q2.2.2.1 1 9)), none, some (vI (q4.1)), none]) (st' := [vR (kO 6) 1]) (u1 := q4.2) [(oL 2 1, 1)] (by decide +kernel) rfl rfl ?_
        refine g_callV (k := 123) (pc2 := 60) (st := []) (CX6_step q4.2) miX6_step mvX6_step rfl (by decide) lk2_123 wV_ok (by decide +kernel) rfl (Nat.le_of_ble_eq_true rfl) (by decide) rfl (fun q5 hq5 => ?_)
        refine g_seg0 (pc' := 64) (L' := [some (vR (kO 2) o0), some (vR (kO 6) 1), some (vL (q2.2.2.1 1 9)), none, some (vI (q4.1)), none]) (st' := [vR (kO 20) 1, vR (kO 6) 1]) (u1 := q5.2) [(oL 2 1, 1), (oP (.getstatic 137), 3)] (by decide +kernel) rfl rfl ?_
        refine g_callV (k := 140) (pc2 := 67) (st := []) (CX6_takeWord 1 q5.2) miX6_takeWord mvX6_takeWord rfl (by decide) lk2_140 wI_ok (by decide +kernel) rfl (Nat.le_of_ble_eq_true rfl) (by decide) rfl (fun q6 hq6 => ?_)
        refine g_zne (off := 5) (tgt := 72) (pc2 := 70) (by decide +kernel) (by decide) rfl ?_ ?_
        · refine g_seg0 (pc' := 76) (L' := [some (vR (kO 2) o0), some (vR (kO 6) 1), some (vL (q2.2.2.1 1 9)), none, some (vI (q4.1)), none]) (st' := [vI 50, vI 0, vR (kO 6) 1]) (u1 := q6.2) [(oL 2 1, 1), (oC 0, 1), (oC 50, 2)] (by decide +kernel) rfl rfl ?_
          refine g_callV (k := 143) (pc2 := 79) (st := []) (CX6_takeNumber 0 50 q6.2) miX6_takeNumber mvX6_takeNumber rfl (by decide) lk2_143 wI_ok (by decide +kernel) rfl (Nat.le_of_ble_eq_true rfl) (by decide) rfl (fun q7 hq7 => ?_)
          refine g_seg0 (pc' := 84) (L' := [some (vR (kO 2) o0), some (vR (kO 6) 1), some (vL (q2.2.2.1 1 9)), none, some (vI (q4.1)), some (vI (q7.1))]) (st' := [vI (-1), vI (q7.1)]) (u1 := q7.2) [(oL 3 5, 2), (oL 0 5, 2), (oC (-1), 1)] (by decide +kernel) rfl rfl ?_
          refine g_ieq (off := 10) (tgt := 94) (pc2 := 87) (by decide +kernel) (by decide) rfl ?_ ?_
          · refine g_seg0 (pc' := 95) (L' := [some (vR (kO 2) o0), some (vR (kO 6) 1), some (vL (q2.2.2.1 1 9)), none, some (vI (q4.1)), some (vI (q7.1))]) (st' := [vI 0]) (u1 := q7.2) [(oC 0, 1)] (by decide +kernel) rfl rfl ?_
            exact g_zret (by decide +kernel) rfl
          · refine g_seg0 (pc' := 88) (L' := [some (vR (kO 2) o0), some (vR (kO 6) 1), some (vL (q2.2.2.1 1 9)), none, some (vI (q4.1)), some (vI (q7.1))]) (st' := [vR (kO 6) 1]) (u1 := q7.2) [(oL 2 1, 1)] (by decide +kernel) rfl rfl ?_
            refine g_callV (k := 147) (pc2 := 91) (st := []) (CX6_takeEnd q7.2) miX6_takeEnd mvX6_takeEnd rfl (by decide) lk2_147 wI_ok (by decide +kernel) rfl (Nat.le_of_ble_eq_true rfl) (by decide) rfl (fun q8 hq8 => ?_)
            refine g_zne (off := 5) (tgt := 96) (pc2 := 94) (by decide +kernel) (by decide) rfl ?_ ?_
            · refine g_seg0 (pc' := 102) (L' := [some (vR (kO 2) o0), some (vR (kO 6) 1), some (vL (q2.2.2.1 1 9)), none, some (vI (q4.1)), some (vI (q7.1))]) (st' := [vI (q7.1), vI (q4.1), vL (q2.2.2.1 1 9), vR (kO 2) o0]) (u1 := q8.2) [(oL 2 0, 1), (oL 1 2, 1), (oL 0 4, 2), (oL 0 5, 2)] (by decide +kernel) rfl rfl ?_
              refine g_callV (k := 151) (pc2 := 105) (st := []) (CX2_addPerson o0 (q2.2.2.1 1 9) q4.1 q7.1 q8.2) miX2_addPerson mvX2_addPerson rfl (by decide) lk2_151 wV_ok (by decide +kernel) rfl (Nat.le_of_ble_eq_true rfl) (by decide) rfl (fun q9 hq9 => ?_)
              refine g_seg0 (pc' := 106) (L' := [some (vR (kO 2) o0), some (vR (kO 6) 1), some (vL (q2.2.2.1 1 9)), none, some (vI (q4.1)), some (vI (q7.1))]) (st' := [vI 1]) (u1 := q9.2) [(oC 1, 1)] (by decide +kernel) rfl rfl ?_
              exact g_zret (by decide +kernel) rfl
            · refine g_seg0 (pc' := 95) (L' := [some (vR (kO 2) o0), some (vR (kO 6) 1), some (vL (q2.2.2.1 1 9)), none, some (vI (q4.1)), some (vI (q7.1))]) (st' := [vI 0]) (u1 := q8.2) [(oC 0, 1)] (by decide +kernel) rfl rfl ?_
              exact g_zret (by decide +kernel) rfl
        · refine g_seg0 (pc' := 71) (L' := [some (vR (kO 2) o0), some (vR (kO 6) 1), some (vL (q2.2.2.1 1 9)), none, some (vI (q4.1)), none]) (st' := [vI 0]) (u1 := q6.2) [(oC 0, 1)] (by decide +kernel) rfl rfl ?_
          exact g_zret (by decide +kernel) rfl
      · refine g_seg0 (pc' := 52) (L' := [some (vR (kO 2) o0), some (vR (kO 6) 1), some (vL (q2.2.2.1 1 9)), none, some (vI (q4.1)), none]) (st' := [vI 1, vR (kO 6) 1]) (u1 := q4.2) [(oL 2 1, 1), (oC 1, 1)] (by decide +kernel) rfl rfl ?_
        refine g_callV (k := 119) (pc2 := 55) (st := []) (CX6_fail 1 q4.2) miX6_fail mvX6_fail rfl (by decide) lk2_119 wI_ok (by decide +kernel) rfl (Nat.le_of_ble_eq_true rfl) (by decide) rfl (fun q10 hq10 => ?_)
        exact g_zret (by decide +kernel) rfl
    · refine g_seg0 (pc' := 28) (L' := [some (vR (kO 2) o0), some (vR (kO 6) 1), none, none, none, none]) (st' := [vI 0]) (u1 := q2.2) [(oC 0, 1)] (by decide +kernel) rfl rfl ?_
      exact g_zret (by decide +kernel) rfl
  · refine g_seg0 (pc' := 11) (L' := [some (vR (kO 2) o0), some (vR (kO 6) 1), none, none, none, none]) (st' := [vI 5, vR (kO 6) 1]) (u1 := u) [(oL 2 1, 1), (oC 5, 1)] (by decide +kernel) rfl rfl ?_
    refine g_callV (k := 119) (pc2 := 14) (st := []) (CX6_fail 5 u) miX6_fail mvX6_fail rfl (by decide) lk2_119 wI_ok (by decide +kernel) rfl (Nat.le_of_ble_eq_true rfl) (by decide) rfl (fun q11 hq11 => ?_)
    exact g_zret (by decide +kernel) rfl
theorem CX2_readPerson (o0 : Nat) (u : ab_S) : ab_C 0 yX2_readPerson cX2_readPerson 6 (some .boolean) 2 [vR (kO 2) o0, vR (kO 6) 1] u wI (fX2_readPerson o0 u) := ab_entry (by decide +kernel) rfl (by decide) (by decide) (fun _ => Nat.le_of_ble_eq_true rfl) rfl (tX2_readPerson o0 u)
def fX2_addGood (o0 : Nat) (v1 : Int64) (v3 : Int32) (v4 : Int32) (u : ab_S) : Option (Unit × ab_S) :=
  bif decide ((u.1 o0 1) < 0) then (
    some ((), u))
  else (
    bif decide ((u.1 o0 1) < 8) then (
      ab_gd [ab_ix (u.1 o0 1) 8] (
        (fX9_put 8 (o0 + 5) ((sJ u (o0 + 2) (nc (u.1 o0 1)) v1).1 o0 1) v3 (sJ u (o0 + 2) (nc (u.1 o0 1)) v1)).bind fun q1 =>
          (fX9_put 8 (o0 + 6) (q1.2.1 o0 1) v4 q1.2).bind fun q2 =>
            some ((), (sI q2.2 o0 1 ((q2.2.1 o0 1) + 1)))))
    else (
      some ((), u)))
theorem tX2_addGood (o0 : Nat) (v1 : Int64) (v3 : Int32) (v4 : Int32) (u : ab_S) : ab_G 0 2 cX2_addGood none 1 0 [some (vR (kO 2) o0), some (vL v1), none, some (vI v3), some (vI v4)] [] u wV (fX2_addGood o0 v1 v3 v4 u) := by
  rw [fX2_addGood]
  refine g_seg0 (pc' := 4) (L' := [some (vR (kO 2) o0), some (vL v1), none, some (vI v3), some (vI v4)]) (st' := [vI (u.1 o0 1)]) (u1 := u) [(oL 2 0, 1), (oP (.getfield 66), 3)] (by decide +kernel) rfl rfl ?_
  refine g_zlt (off := 60) (tgt := 64) (pc2 := 7) (by decide +kernel) (by decide) rfl ?_ ?_
  · exact g_vret (by decide +kernel) rfl
  · refine g_seg0 (pc' := 16) (L' := [some (vR (kO 2) o0), some (vL v1), none, some (vI v3), some (vI v4)]) (st' := [vI 8, vI (u.1 o0 1)]) (u1 := u) [(oL 2 0, 1), (oP (.getfield 66), 3), (oL 2 0, 1), (oP (.getfield 15), 3), (oP .arraylength, 1)] (by decide +kernel) rfl rfl ?_
    refine g_ige (off := 48) (tgt := 64) (pc2 := 19) (by decide +kernel) (by decide) rfl ?_ ?_
    · exact g_vret (by decide +kernel) rfl
    · refine g_seg (pc' := 38) (L' := [some (vR (kO 2) o0), some (vL v1), none, some (vI v3), some (vI v4)]) (st' := [vI v3, vI ((sJ u (o0 + 2) (nc (u.1 o0 1)) v1).1 o0 1), vR (kA 0 8) (o0 + 5)]) (u1 := (sJ u (o0 + 2) (nc (u.1 o0 1)) v1)) [(oL 2 0, 1), (oP (.getfield 15), 3), (oL 2 0, 1), (oP (.getfield 66), 3), (oL 1 1, 1), (oP .lastore, 1), (oL 2 0, 1), (oP (.getfield 25), 3), (oL 2 0, 1), (oP (.getfield 66), 3), (oL 0 3, 1)] (by decide +kernel) rfl rfl ?_
      refine g_callS (k := 155) (pc2 := 41) (st := []) (CX9_put 8 (o0 + 5) ((sJ u (o0 + 2) (nc (u.1 o0 1)) v1).1 o0 1) v3 (sJ u (o0 + 2) (nc (u.1 o0 1)) v1)) miX9_put msX9_put lk2_155 wV_ok (by decide +kernel) rfl (Nat.le_of_ble_eq_true rfl) (by decide) rfl (fun q1 hq1 => ?_)
      refine g_seg0 (pc' := 51) (L' := [some (vR (kO 2) o0), some (vL v1), none, some (vI v3), some (vI v4)]) (st' := [vI v4, vI (q1.2.1 o0 1), vR (kA 0 8) (o0 + 6)]) (u1 := q1.2) [(oL 2 0, 1), (oP (.getfield 28), 3), (oL 2 0, 1), (oP (.getfield 66), 3), (oL 0 4, 2)] (by decide +kernel) rfl rfl ?_
      refine g_callS (k := 155) (pc2 := 54) (st := []) (CX9_put 8 (o0 + 6) (q1.2.1 o0 1) v4 q1.2) miX9_put msX9_put lk2_155 wV_ok (by decide +kernel) rfl (Nat.le_of_ble_eq_true rfl) (by decide) rfl (fun q2 hq2 => ?_)
      refine g_seg0 (pc' := 64) (L' := [some (vR (kO 2) o0), some (vL v1), none, some (vI v3), some (vI v4)]) (st' := []) (u1 := (sI q2.2 o0 1 ((q2.2.1 o0 1) + 1))) [(oL 2 0, 1), (oP .dup, 1), (oP (.getfield 66), 3), (oC 1, 1), (oP .iadd, 1), (oP (.putfield 66), 3)] (by decide +kernel) rfl rfl ?_
      exact g_vret (by decide +kernel) rfl
theorem CX2_addGood (o0 : Nat) (v1 : Int64) (v3 : Int32) (v4 : Int32) (u : ab_S) : ab_C 0 yX2_addGood cX2_addGood 5 none 1 [vR (kO 2) o0, vL v1, vI v3, vI v4] u wV (fX2_addGood o0 v1 v3 v4 u) := ab_entry (by decide +kernel) rfl (by decide) (by decide) (fun _ => Nat.le_of_ble_eq_true rfl) rfl (tX2_addGood o0 v1 v3 v4 u)
def fX6_takeToldName (n1 : Nat) (o1 : Nat) (v2 : Int32) (u : ab_S) : Option (Int32 × ab_S) :=
  (fX6_isName u).bind fun q1 =>
    bif decide (q1.1 = 0) then (
      (fX6_fail 1 q1.2).bind fun q5 =>
        some ((-1), q5.2))
    else (
      (fX9_indexOf n1 o1 v2 (q1.2.2.1 1 9) q1.2).bind fun q2 =>
        bif decide (q2.1 = (-1)) then (
          (fX6_fail 2 q2.2).bind fun q4 =>
            some ((-1), q4.2))
        else (
          (fX6_step q2.2).bind fun q3 =>
            some (q2.1, q3.2)))
theorem tX6_takeToldName (n1 : Nat) (o1 : Nat) (v2 : Int32) (u : ab_S) : ab_G 0 6 cX6_takeToldName (some .int) 1 0 [some (vR (kO 6) 1), some (vR (kA 1 n1) o1), some (vI v2), none] [] u wI (fX6_takeToldName n1 o1 v2 u) := by
  rw [fX6_takeToldName]
  refine g_seg0 (pc' := 1) (L' := [some (vR (kO 6) 1), some (vR (kA 1 n1) o1), some (vI v2), none]) (st' := [vR (kO 6) 1]) (u1 := u) [(oL 2 0, 1)] (by decide +kernel) rfl rfl ?_
  refine g_callV (k := 122) (pc2 := 4) (st := []) (CX6_isName u) miX6_isName mvX6_isName rfl (by decide) lk6_122 wI_ok (by decide +kernel) rfl (Nat.le_of_ble_eq_true rfl) (by decide) rfl (fun q1 hq1 => ?_)
  refine g_zne (off := 11) (tgt := 15) (pc2 := 7) (by decide +kernel) (by decide) rfl ?_ ?_
  · refine g_seg0 (pc' := 21) (L' := [some (vR (kO 6) 1), some (vR (kA 1 n1) o1), some (vI v2), none]) (st' := [vL (q1.2.2.1 1 9), vI v2, vR (kA 1 n1) o1]) (u1 := q1.2) [(oL 2 1, 1), (oL 0 2, 1), (oL 2 0, 1), (oP (.getfield 94), 3)] (by decide +kernel) rfl rfl ?_
    refine g_callS (k := 126) (pc2 := 24) (st := []) (CX9_indexOf n1 o1 v2 (q1.2.2.1 1 9) q1.2) miX9_indexOf msX9_indexOf lk6_126 wI_ok (by decide +kernel) rfl (Nat.le_of_ble_eq_true rfl) (by decide) rfl (fun q2 hq2 => ?_)
    refine g_seg0 (pc' := 27) (L' := [some (vR (kO 6) 1), some (vR (kA 1 n1) o1), some (vI v2), some (vI (q2.1))]) (st' := [vI (-1), vI (q2.1)]) (u1 := q2.2) [(oL 3 3, 1), (oL 0 3, 1), (oC (-1), 1)] (by decide +kernel) rfl rfl ?_
    refine g_ine (off := 11) (tgt := 38) (pc2 := 30) (by decide +kernel) (by decide) rfl ?_ ?_
    · refine g_seg0 (pc' := 39) (L' := [some (vR (kO 6) 1), some (vR (kA 1 n1) o1), some (vI v2), some (vI (q2.1))]) (st' := [vR (kO 6) 1]) (u1 := q2.2) [(oL 2 0, 1)] (by decide +kernel) rfl rfl ?_
      refine g_callV (k := 59) (pc2 := 42) (st := []) (CX6_step q2.2) miX6_step mvX6_step rfl (by decide) lk6_59 wV_ok (by decide +kernel) rfl (Nat.le_of_ble_eq_true rfl) (by decide) rfl (fun q3 hq3 => ?_)
      refine g_seg0 (pc' := 43) (L' := [some (vR (kO 6) 1), some (vR (kA 1 n1) o1), some (vI v2), some (vI (q2.1))]) (st' := [vI (q2.1)]) (u1 := q3.2) [(oL 0 3, 1)] (by decide +kernel) rfl rfl ?_
      exact g_iret (by decide +kernel) rfl
    · refine g_seg0 (pc' := 32) (L' := [some (vR (kO 6) 1), some (vR (kA 1 n1) o1), some (vI v2), some (vI (q2.1))]) (st' := [vI 2, vR (kO 6) 1]) (u1 := q2.2) [(oL 2 0, 1), (oC 2, 1)] (by decide +kernel) rfl rfl ?_
      refine g_callV (k := 115) (pc2 := 35) (st := []) (CX6_fail 2 q2.2) miX6_fail mvX6_fail rfl (by decide) lk6_115 wI_ok (by decide +kernel) rfl (Nat.le_of_ble_eq_true rfl) (by decide) rfl (fun q4 hq4 => ?_)
      refine g_seg0 (pc' := 37) (L' := [some (vR (kO 6) 1), some (vR (kA 1 n1) o1), some (vI v2), some (vI (q2.1))]) (st' := [vI (-1)]) (u1 := q4.2) [(oP .pop, 1), (oC (-1), 1)] (by decide +kernel) rfl rfl ?_
      exact g_iret (by decide +kernel) rfl
  · refine g_seg0 (pc' := 9) (L' := [some (vR (kO 6) 1), some (vR (kA 1 n1) o1), some (vI v2), none]) (st' := [vI 1, vR (kO 6) 1]) (u1 := q1.2) [(oL 2 0, 1), (oC 1, 1)] (by decide +kernel) rfl rfl ?_
    refine g_callV (k := 115) (pc2 := 12) (st := []) (CX6_fail 1 q1.2) miX6_fail mvX6_fail rfl (by decide) lk6_115 wI_ok (by decide +kernel) rfl (Nat.le_of_ble_eq_true rfl) (by decide) rfl (fun q5 hq5 => ?_)
    refine g_seg0 (pc' := 14) (L' := [some (vR (kO 6) 1), some (vR (kA 1 n1) o1), some (vI v2), none]) (st' := [vI (-1)]) (u1 := q5.2) [(oP .pop, 1), (oC (-1), 1)] (by decide +kernel) rfl rfl ?_
    exact g_iret (by decide +kernel) rfl
theorem CX6_takeToldName (n1 : Nat) (o1 : Nat) (v2 : Int32) (u : ab_S) : ab_C 0 yX6_takeToldName cX6_takeToldName 4 (some .int) 1 [vR (kO 6) 1, vR (kA 1 n1) o1, vI v2] u wI (fX6_takeToldName n1 o1 v2 u) := ab_entry (by decide +kernel) rfl (by decide) (by decide) (fun _ => Nat.le_of_ble_eq_true rfl) rfl (tX6_takeToldName n1 o1 v2 u)
def fX2_readGood (o0 : Nat) (u : ab_S) : Option (Int32 × ab_S) :=
  bif decide ((u.1 o0 1) < 8) then (
    (fX6_step u).bind fun q1 =>
      (fX2_isNewName o0 q1.2).bind fun q2 =>
        bif decide (q2.1 = 0) then (
          ab_gd [ab_b1 0] (some (0, q2.2)))
        else (
          (fX6_step q2.2).bind fun q3 =>
            (fX6_takeWord 3 q3.2).bind fun q4 =>
              bif decide (q4.1 = 0) then (
                ab_gd [ab_b1 0] (some (0, q4.2)))
              else (
                (fX6_takeNumber 0 30 q4.2).bind fun q5 =>
                  bif decide (q5.1 = (-1)) then (
                    ab_gd [ab_b1 0] (some (0, q5.2)))
                  else (
                    (fX6_takeWord 4 q5.2).bind fun q6 =>
                      bif decide (q6.1 = 0) then (
                        ab_gd [ab_b1 0] (some (0, q6.2)))
                      else (
                        (fX6_takeToldName 6 (o0 + 1) (q6.2.1 o0 0) q6.2).bind fun q7 =>
                          bif decide (q7.1 = (-1)) then (
                            ab_gd [ab_b1 0] (some (0, q7.2)))
                          else (
                            (fX6_takeEnd q7.2).bind fun q8 =>
                              bif decide (q8.1 = 0) then (
                                ab_gd [ab_b1 0] (some (0, q8.2)))
                              else (
                                (fX2_addGood o0 (q2.2.2.1 1 9) q5.1 q7.1 q8.2).bind fun q9 =>
                                  ab_gd [ab_b1 1] (some (1, q9.2)))))))))
  else (
    (fX6_fail 5 u).bind fun q10 =>
      ab_gd [ab_b1 q10.1] (some (q10.1, q10.2)))
theorem tX2_readGood (o0 : Nat) (u : ab_S) : ab_G 0 2 cX2_readGood (some .boolean) 2 0 [some (vR (kO 2) o0), some (vR (kO 6) 1), none, none, none, none] [] u wI (fX2_readGood o0 u) := by
  rw [fX2_readGood]
  refine g_seg0 (pc' := 6) (L' := [some (vR (kO 2) o0), some (vR (kO 6) 1), none, none, none, none]) (st' := [vI 8, vI (u.1 o0 1)]) (u1 := u) [(oL 2 0, 1), (oP (.getfield 66), 3), (oC 8, 2)] (by decide +kernel) rfl rfl ?_
  refine g_ilt (off := 9) (tgt := 15) (pc2 := 9) (by decide +kernel) (by decide) rfl ?_ ?_
  · refine g_seg0 (pc' := 16) (L' := [some (vR (kO 2) o0), some (vR (kO 6) 1), none, none, none, none]) (st' := [vR (kO 6) 1]) (u1 := u) [(oL 2 1, 1)] (by decide +kernel) rfl rfl ?_
    refine g_callV (k := 123) (pc2 := 19) (st := []) (CX6_step u) miX6_step mvX6_step rfl (by decide) lk2_123 wV_ok (by decide +kernel) rfl (Nat.le_of_ble_eq_true rfl) (by decide) rfl (fun q1 hq1 => ?_)
    refine g_seg0 (pc' := 21) (L' := [some (vR (kO 2) o0), some (vR (kO 6) 1), none, none, none, none]) (st' := [vR (kO 6) 1, vR (kO 2) o0]) (u1 := q1.2) [(oL 2 0, 1), (oL 2 1, 1)] (by decide +kernel) rfl rfl ?_
    refine g_callV (k := 126) (pc2 := 24) (st := []) (CX2_isNewName o0 q1.2) miX2_isNewName mvX2_isNewName rfl (by decide) lk2_126 wI_ok (by decide +kernel) rfl (Nat.le_of_ble_eq_true rfl) (by decide) rfl (fun q2 hq2 => ?_)
    refine g_zne (off := 5) (tgt := 29) (pc2 := 27) (by decide +kernel) (by decide) rfl ?_ ?_
    · refine g_seg0 (pc' := 35) (L' := [some (vR (kO 2) o0), some (vR (kO 6) 1), some (vL (q2.2.2.1 1 9)), none, none, none]) (st' := [vR (kO 6) 1]) (u1 := q2.2) [(oL 2 1, 1), (oP (.getfield 129), 3), (oL 4 2, 1), (oL 2 1, 1)] (by decide +kernel) rfl rfl ?_
      refine g_callV (k := 123) (pc2 := 38) (st := []) (CX6_step q2.2) miX6_step mvX6_step rfl (by decide) lk2_123 wV_ok (by decide +kernel) rfl (Nat.le_of_ble_eq_true rfl) (by decide) rfl (fun q3 hq3 => ?_)
      refine g_seg0 (pc' := 42) (L' := [some (vR (kO 2) o0), some (vR (kO 6) 1), some (vL (q2.2.2.1 1 9)), none, none, none]) (st' := [vR (kO 20) 3, vR (kO 6) 1]) (u1 := q3.2) [(oL 2 1, 1), (oP (.getstatic 159), 3)] (by decide +kernel) rfl rfl ?_
      refine g_callV (k := 140) (pc2 := 45) (st := []) (CX6_takeWord 3 q3.2) miX6_takeWord mvX6_takeWord rfl (by decide) lk2_140 wI_ok (by decide +kernel) rfl (Nat.le_of_ble_eq_true rfl) (by decide) rfl (fun q4 hq4 => ?_)
      refine g_zne (off := 5) (tgt := 50) (pc2 := 48) (by decide +kernel) (by decide) rfl ?_ ?_
      · refine g_seg0 (pc' := 54) (L' := [some (vR (kO 2) o0), some (vR (kO 6) 1), some (vL (q2.2.2.1 1 9)), none, none, none]) (st' := [vI 30, vI 0, vR (kO 6) 1]) (u1 := q4.2) [(oL 2 1, 1), (oC 0, 1), (oC 30, 2)] (by decide +kernel) rfl rfl ?_
        refine g_callV (k := 143) (pc2 := 57) (st := []) (CX6_takeNumber 0 30 q4.2) miX6_takeNumber mvX6_takeNumber rfl (by decide) lk2_143 wI_ok (by decide +kernel) rfl (Nat.le_of_ble_eq_true rfl) (by decide) rfl (fun q5 hq5 => ?_)
        refine g_seg0 (pc' := 62) (L' := [some (vR (kO 2) o0), some (vR (kO 6) 1), some (vL (q2.2.2.1 1 9)), none, some (vI (q5.1)), none]) (st' := [vI (-1), vI (q5.1)]) (u1 := q5.2) [(oL 3 4, 2), (oL 0 4, 2), (oC (-1), 1)] (by decide +kernel) rfl rfl ?_
        refine g_ieq (off := 13) (tgt := 75) (pc2 := 65) (by decide +kernel) (by decide) rfl ?_ ?_
        · refine g_seg0 (pc' := 76) (L' := [some (vR (kO 2) o0), some (vR (kO 6) 1), some (vL (q2.2.2.1 1 9)), none, some (vI (q5.1)), none]) (st' := [vI 0]) (u1 := q5.2) [(oC 0, 1)] (by decide +kernel) rfl rfl ?_
          exact g_zret (by decide +kernel) rfl
        · refine g_seg0 (pc' := 69) (L' := [some (vR (kO 2) o0), some (vR (kO 6) 1), some (vL (q2.2.2.1 1 9)), none, some (vI (q5.1)), none]) (st' := [vR (kO 20) 4, vR (kO 6) 1]) (u1 := q5.2) [(oL 2 1, 1), (oP (.getstatic 162), 3)] (by decide +kernel) rfl rfl ?_
          refine g_callV (k := 140) (pc2 := 72) (st := []) (CX6_takeWord 4 q5.2) miX6_takeWord mvX6_takeWord rfl (by decide) lk2_140 wI_ok (by decide +kernel) rfl (Nat.le_of_ble_eq_true rfl) (by decide) rfl (fun q6 hq6 => ?_)
          refine g_zne (off := 5) (tgt := 77) (pc2 := 75) (by decide +kernel) (by decide) rfl ?_ ?_
          · refine g_seg0 (pc' := 86) (L' := [some (vR (kO 2) o0), some (vR (kO 6) 1), some (vL (q2.2.2.1 1 9)), none, some (vI (q5.1)), none]) (st' := [vI (q6.2.1 o0 0), vR (kA 1 6) (o0 + 1), vR (kO 6) 1]) (u1 := q6.2) [(oL 2 1, 1), (oL 2 0, 1), (oP (.getfield 9), 3), (oL 2 0, 1), (oP (.getfield 63), 3)] (by decide +kernel) rfl rfl ?_
            refine g_callV (k := 165) (pc2 := 89) (st := []) (CX6_takeToldName 6 (o0 + 1) (q6.2.1 o0 0) q6.2) miX6_takeToldName mvX6_takeToldName rfl (by decide) lk2_165 wI_ok (by decide +kernel) rfl (Nat.le_of_ble_eq_true rfl) (by decide) rfl (fun q7 hq7 => ?_)
            refine g_seg0 (pc' := 94) (L' := [some (vR (kO 2) o0), some (vR (kO 6) 1), some (vL (q2.2.2.1 1 9)), none, some (vI (q5.1)), some (vI (q7.1))]) (st' := [vI (-1), vI (q7.1)]) (u1 := q7.2) [(oL 3 5, 2), (oL 0 5, 2), (oC (-1), 1)] (by decide +kernel) rfl rfl ?_
            refine g_ieq (off := 10) (tgt := 104) (pc2 := 97) (by decide +kernel) (by decide) rfl ?_ ?_
            · refine g_seg0 (pc' := 105) (L' := [some (vR (kO 2) o0), some (vR (kO 6) 1), some (vL (q2.2.2.1 1 9)), none, some (vI (q5.1)), some (vI (q7.1))]) (st' := [vI 0]) (u1 := q7.2) [(oC 0, 1)] (by decide +kernel) rfl rfl ?_
              exact g_zret (by decide +kernel) rfl
            · refine g_seg0 (pc' := 98) (L' := [some (vR (kO 2) o0), some (vR (kO 6) 1), some (vL (q2.2.2.1 1 9)), none, some (vI (q5.1)), some (vI (q7.1))]) (st' := [vR (kO 6) 1]) (u1 := q7.2) [(oL 2 1, 1)] (by decide +kernel) rfl rfl ?_
              refine g_callV (k := 147) (pc2 := 101) (st := []) (CX6_takeEnd q7.2) miX6_takeEnd mvX6_takeEnd rfl (by decide) lk2_147 wI_ok (by decide +kernel) rfl (Nat.le_of_ble_eq_true rfl) (by decide) rfl (fun q8 hq8 => ?_)
              refine g_zne (off := 5) (tgt := 106) (pc2 := 104) (by decide +kernel) (by decide) rfl ?_ ?_
              · refine g_seg0 (pc' := 112) (L' := [some (vR (kO 2) o0), some (vR (kO 6) 1), some (vL (q2.2.2.1 1 9)), none, some (vI (q5.1)), some (vI (q7.1))]) (st' := [vI (q7.1), vI (q5.1), vL (q2.2.2.1 1 9), vR (kO 2) o0]) (u1 := q8.2) [(oL 2 0, 1), (oL 1 2, 1), (oL 0 4, 2), (oL 0 5, 2)] (by decide +kernel) rfl rfl ?_
                refine g_callV (k := 169) (pc2 := 115) (st := []) (CX2_addGood o0 (q2.2.2.1 1 9) q5.1 q7.1 q8.2) miX2_addGood mvX2_addGood rfl (by decide) lk2_169 wV_ok (by decide +kernel) rfl (Nat.le_of_ble_eq_true rfl) (by decide) rfl (fun q9 hq9 => ?_)
                refine g_seg0 (pc' := 116) (L' := [some (vR (kO 2) o0), some (vR (kO 6) 1), some (vL (q2.2.2.1 1 9)), none, some (vI (q5.1)), some (vI (q7.1))]) (st' := [vI 1]) (u1 := q9.2) [(oC 1, 1)] (by decide +kernel) rfl rfl ?_
                exact g_zret (by decide +kernel) rfl
              · refine g_seg0 (pc' := 105) (L' := [some (vR (kO 2) o0), some (vR (kO 6) 1), some (vL (q2.2.2.1 1 9)), none, some (vI (q5.1)), some (vI (q7.1))]) (st' := [vI 0]) (u1 := q8.2) [(oC 0, 1)] (by decide +kernel) rfl rfl ?_
                exact g_zret (by decide +kernel) rfl
          · refine g_seg0 (pc' := 76) (L' := [some (vR (kO 2) o0), some (vR (kO 6) 1), some (vL (q2.2.2.1 1 9)), none, some (vI (q5.1)), none]) (st' := [vI 0]) (u1 := q6.2) [(oC 0, 1)] (by decide +kernel) rfl rfl ?_
            exact g_zret (by decide +kernel) rfl
      · refine g_seg0 (pc' := 49) (L' := [some (vR (kO 2) o0), some (vR (kO 6) 1), some (vL (q2.2.2.1 1 9)), none, none, none]) (st' := [vI 0]) (u1 := q4.2) [(oC 0, 1)] (by decide +kernel) rfl rfl ?_
        exact g_zret (by decide +kernel) rfl
    · refine g_seg0 (pc' := 28) (L' := [some (vR (kO 2) o0), some (vR (kO 6) 1), none, none, none, none]) (st' := [vI 0]) (u1 := q2.2) [(oC 0, 1)] (by decide +kernel) rfl rfl ?_
      exact g_zret (by decide +kernel) rfl
  · refine g_seg0 (pc' := 11) (L' := [some (vR (kO 2) o0), some (vR (kO 6) 1), none, none, none, none]) (st' := [vI 5, vR (kO 6) 1]) (u1 := u) [(oL 2 1, 1), (oC 5, 1)] (by decide +kernel) rfl rfl ?_
    refine g_callV (k := 119) (pc2 := 14) (st := []) (CX6_fail 5 u) miX6_fail mvX6_fail rfl (by decide) lk2_119 wI_ok (by decide +kernel) rfl (Nat.le_of_ble_eq_true rfl) (by decide) rfl (fun q10 hq10 => ?_)
    exact g_zret (by decide +kernel) rfl
theorem CX2_readGood (o0 : Nat) (u : ab_S) : ab_C 0 yX2_readGood cX2_readGood 6 (some .boolean) 2 [vR (kO 2) o0, vR (kO 6) 1] u wI (fX2_readGood o0 u) := ab_entry (by decide +kernel) rfl (by decide) (by decide) (fun _ => Nat.le_of_ble_eq_true rfl) rfl (tX2_readGood o0 u)
def fX2_readSeed (o0 : Nat) (u : ab_S) : Option (Int32 × ab_S) :=
  bif decide ((u.1 o0 10) = 0) then (
    (fX6_step u).bind fun q1 =>
      (fX6_takeNumber 0 9999 q1.2).bind fun q2 =>
        bif decide (q2.1 = (-1)) then (
          ab_gd [ab_b1 0] (some (0, q2.2)))
        else (
          (fX6_takeEnd q2.2).bind fun q3 =>
            bif decide (q3.1 = 0) then (
              ab_gd [ab_b1 0] (some (0, q3.2)))
            else (
              ab_gd [ab_b1 1] (
                ab_gd [ab_b1 1] (some (1, (sI (sI q3.2 o0 9 q2.1) o0 10 1)))))))
  else (
    (fX6_fail 3 u).bind fun q4 =>
      ab_gd [ab_b1 q4.1] (some (q4.1, q4.2)))
theorem tX2_readSeed (o0 : Nat) (u : ab_S) : ab_G 0 2 cX2_readSeed (some .boolean) 2 0 [some (vR (kO 2) o0), some (vR (kO 6) 1), none] [] u wI (fX2_readSeed o0 u) := by
  rw [fX2_readSeed]
  refine g_seg0 (pc' := 4) (L' := [some (vR (kO 2) o0), some (vR (kO 6) 1), none]) (st' := [vI (u.1 o0 10)]) (u1 := u) [(oL 2 0, 1), (oP (.getfield 72), 3)] (by decide +kernel) rfl rfl ?_
  refine g_zeq (off := 9) (tgt := 13) (pc2 := 7) (by decide +kernel) (by decide) rfl ?_ ?_
  · refine g_seg0 (pc' := 14) (L' := [some (vR (kO 2) o0), some (vR (kO 6) 1), none]) (st' := [vR (kO 6) 1]) (u1 := u) [(oL 2 1, 1)] (by decide +kernel) rfl rfl ?_
    refine g_callV (k := 123) (pc2 := 17) (st := []) (CX6_step u) miX6_step mvX6_step rfl (by decide) lk2_123 wV_ok (by decide +kernel) rfl (Nat.le_of_ble_eq_true rfl) (by decide) rfl (fun q1 hq1 => ?_)
    refine g_seg0 (pc' := 22) (L' := [some (vR (kO 2) o0), some (vR (kO 6) 1), none]) (st' := [vI 9999, vI 0, vR (kO 6) 1]) (u1 := q1.2) [(oL 2 1, 1), (oC 0, 1), (oC 9999, 3)] (by decide +kernel) rfl rfl ?_
    refine g_callV (k := 143) (pc2 := 25) (st := []) (CX6_takeNumber 0 9999 q1.2) miX6_takeNumber mvX6_takeNumber rfl (by decide) lk2_143 wI_ok (by decide +kernel) rfl (Nat.le_of_ble_eq_true rfl) (by decide) rfl (fun q2 hq2 => ?_)
    refine g_seg0 (pc' := 28) (L' := [some (vR (kO 2) o0), some (vR (kO 6) 1), some (vI (q2.1))]) (st' := [vI (-1), vI (q2.1)]) (u1 := q2.2) [(oL 3 2, 1), (oL 0 2, 1), (oC (-1), 1)] (by decide +kernel) rfl rfl ?_
    refine g_ieq (off := 10) (tgt := 38) (pc2 := 31) (by decide +kernel) (by decide) rfl ?_ ?_
    · refine g_seg0 (pc' := 39) (L' := [some (vR (kO 2) o0), some (vR (kO 6) 1), some (vI (q2.1))]) (st' := [vI 0]) (u1 := q2.2) [(oC 0, 1)] (by decide +kernel) rfl rfl ?_
      exact g_zret (by decide +kernel) rfl
    · refine g_seg0 (pc' := 32) (L' := [some (vR (kO 2) o0), some (vR (kO 6) 1), some (vI (q2.1))]) (st' := [vR (kO 6) 1]) (u1 := q2.2) [(oL 2 1, 1)] (by decide +kernel) rfl rfl ?_
      refine g_callV (k := 147) (pc2 := 35) (st := []) (CX6_takeEnd q2.2) miX6_takeEnd mvX6_takeEnd rfl (by decide) lk2_147 wI_ok (by decide +kernel) rfl (Nat.le_of_ble_eq_true rfl) (by decide) rfl (fun q3 hq3 => ?_)
      refine g_zne (off := 5) (tgt := 40) (pc2 := 38) (by decide +kernel) (by decide) rfl ?_ ?_
      · refine g_seg (pc' := 51) (L' := [some (vR (kO 2) o0), some (vR (kO 6) 1), some (vI (q2.1))]) (st' := [vI 1]) (u1 := (sI (sI q3.2 o0 9 q2.1) o0 10 1)) [(oL 2 0, 1), (oL 0 2, 1), (oP (.putfield 69), 3), (oL 2 0, 1), (oC 1, 1), (oP (.putfield 72), 3), (oC 1, 1)] (by decide +kernel) rfl rfl ?_
        exact g_zret (by decide +kernel) rfl
      · refine g_seg0 (pc' := 39) (L' := [some (vR (kO 2) o0), some (vR (kO 6) 1), some (vI (q2.1))]) (st' := [vI 0]) (u1 := q3.2) [(oC 0, 1)] (by decide +kernel) rfl rfl ?_
        exact g_zret (by decide +kernel) rfl
  · refine g_seg0 (pc' := 9) (L' := [some (vR (kO 2) o0), some (vR (kO 6) 1), none]) (st' := [vI 3, vR (kO 6) 1]) (u1 := u) [(oL 2 1, 1), (oC 3, 1)] (by decide +kernel) rfl rfl ?_
    refine g_callV (k := 119) (pc2 := 12) (st := []) (CX6_fail 3 u) miX6_fail mvX6_fail rfl (by decide) lk2_119 wI_ok (by decide +kernel) rfl (Nat.le_of_ble_eq_true rfl) (by decide) rfl (fun q4 hq4 => ?_)
    exact g_zret (by decide +kernel) rfl
theorem CX2_readSeed (o0 : Nat) (u : ab_S) : ab_C 0 yX2_readSeed cX2_readSeed 3 (some .boolean) 2 [vR (kO 2) o0, vR (kO 6) 1] u wI (fX2_readSeed o0 u) := ab_entry (by decide +kernel) rfl (by decide) (by decide) (fun _ => Nat.le_of_ble_eq_true rfl) rfl (tX2_readSeed o0 u)
def fX1_add (o0 : Nat) (v1 : Int32) (u : ab_S) : Option (Unit × ab_S) :=
  bif decide ((u.1 o0 1) < 0) then (
    some ((), u))
  else (
    bif decide ((u.1 o0 1) < 1000) then (
      ab_gd [ab_ix (u.1 o0 1) 1000] (
        some ((), (sI (sI u (o0 + 1) (nc (u.1 o0 1)) v1) o0 1 (((sI u (o0 + 1) (nc (u.1 o0 1)) v1).1 o0 1) + 1)))))
    else (
      some ((), u)))
theorem tX1_add (o0 : Nat) (v1 : Int32) (u : ab_S) : ab_G 0 1 cX1_add none 0 0 [some (vR (kO 1) o0), some (vI v1)] [] u wV (fX1_add o0 v1 u) := by
  rw [fX1_add]
  refine g_seg0 (pc' := 4) (L' := [some (vR (kO 1) o0), some (vI v1)]) (st' := [vI (u.1 o0 1)]) (u1 := u) [(oL 2 0, 1), (oP (.getfield 18), 3)] (by decide +kernel) rfl rfl ?_
  refine g_zlt (off := 35) (tgt := 39) (pc2 := 7) (by decide +kernel) (by decide) rfl ?_ ?_
  · exact g_vret (by decide +kernel) rfl
  · refine g_seg0 (pc' := 16) (L' := [some (vR (kO 1) o0), some (vI v1)]) (st' := [vI 1000, vI (u.1 o0 1)]) (u1 := u) [(oL 2 0, 1), (oP (.getfield 18), 3), (oL 2 0, 1), (oP (.getfield 9), 3), (oP .arraylength, 1)] (by decide +kernel) rfl rfl ?_
    refine g_ige (off := 23) (tgt := 39) (pc2 := 19) (by decide +kernel) (by decide) rfl ?_ ?_
    · exact g_vret (by decide +kernel) rfl
    · refine g_seg (pc' := 39) (L' := [some (vR (kO 1) o0), some (vI v1)]) (st' := []) (u1 := (sI (sI u (o0 + 1) (nc (u.1 o0 1)) v1) o0 1 (((sI u (o0 + 1) (nc (u.1 o0 1)) v1).1 o0 1) + 1))) [(oL 2 0, 1), (oP (.getfield 9), 3), (oL 2 0, 1), (oP (.getfield 18), 3), (oL 0 1, 1), (oP .iastore, 1), (oL 2 0, 1), (oP .dup, 1), (oP (.getfield 18), 3), (oC 1, 1), (oP .iadd, 1), (oP (.putfield 18), 3)] (by decide +kernel) rfl rfl ?_
      exact g_vret (by decide +kernel) rfl
theorem CX1_add (o0 : Nat) (v1 : Int32) (u : ab_S) : ab_C 0 yX1_add cX1_add 2 none 0 [vR (kO 1) o0, vI v1] u wV (fX1_add o0 v1 u) := ab_entry (by decide +kernel) rfl (by decide) (by decide) (fun _ => Nat.le_of_ble_eq_true rfl) rfl (tX1_add o0 v1 u)
def fX1_factAt (u : ab_S) : Option (Int32 × ab_S) :=
  (fX6_isWord 19 u).bind fun q1 =>
    bif decide (q1.1 = 0) then (
      (fX6_isWord 20 q1.2).bind fun q2 =>
        bif decide (q2.1 = 0) then (
          (fX6_isWord 21 q2.2).bind fun q3 =>
            bif decide (q3.1 = 0) then (
              (fX6_isWord 22 q3.2).bind fun q4 =>
                bif decide (q4.1 = 0) then (
                  some (0, q4.2))
                else (
                  some ((-4), q4.2)))
            else (
              some ((-3), q3.2)))
        else (
          some ((-2), q2.2)))
    else (
      some ((-1), q1.2))
theorem tX1_factAt (u : ab_S) : ab_G 0 1 cX1_factAt (some .int) 1 0 [some (vR (kO 6) 1)] [] u wI (fX1_factAt u) := by
  rw [fX1_factAt]
  refine g_seg0 (pc' := 4) (L' := [some (vR (kO 6) 1)]) (st' := [vR (kO 20) 19, vR (kO 6) 1]) (u1 := u) [(oL 2 0, 1), (oP (.getstatic 84), 3)] (by decide +kernel) rfl rfl ?_
  refine g_callV (k := 49) (pc2 := 7) (st := []) (CX6_isWord 19 u) miX6_isWord mvX6_isWord rfl (by decide) lk1_49 wI_ok (by decide +kernel) rfl (Nat.le_of_ble_eq_true rfl) (by decide) rfl (fun q1 hq1 => ?_)
  refine g_zeq (off := 5) (tgt := 12) (pc2 := 10) (by decide +kernel) (by decide) rfl ?_ ?_
  · refine g_seg0 (pc' := 16) (L' := [some (vR (kO 6) 1)]) (st' := [vR (kO 20) 20, vR (kO 6) 1]) (u1 := q1.2) [(oL 2 0, 1), (oP (.getstatic 87), 3)] (by decide +kernel) rfl rfl ?_
    refine g_callV (k := 49) (pc2 := 19) (st := []) (CX6_isWord 20 q1.2) miX6_isWord mvX6_isWord rfl (by decide) lk1_49 wI_ok (by decide +kernel) rfl (Nat.le_of_ble_eq_true rfl) (by decide) rfl (fun q2 hq2 => ?_)
    refine g_zeq (off := 6) (tgt := 25) (pc2 := 22) (by decide +kernel) (by decide) rfl ?_ ?_
    · refine g_seg0 (pc' := 29) (L' := [some (vR (kO 6) 1)]) (st' := [vR (kO 20) 21, vR (kO 6) 1]) (u1 := q2.2) [(oL 2 0, 1), (oP (.getstatic 90), 3)] (by decide +kernel) rfl rfl ?_
      refine g_callV (k := 49) (pc2 := 32) (st := []) (CX6_isWord 21 q2.2) miX6_isWord mvX6_isWord rfl (by decide) lk1_49 wI_ok (by decide +kernel) rfl (Nat.le_of_ble_eq_true rfl) (by decide) rfl (fun q3 hq3 => ?_)
      refine g_zeq (off := 6) (tgt := 38) (pc2 := 35) (by decide +kernel) (by decide) rfl ?_ ?_
      · refine g_seg0 (pc' := 42) (L' := [some (vR (kO 6) 1)]) (st' := [vR (kO 20) 22, vR (kO 6) 1]) (u1 := q3.2) [(oL 2 0, 1), (oP (.getstatic 93), 3)] (by decide +kernel) rfl rfl ?_
        refine g_callV (k := 49) (pc2 := 45) (st := []) (CX6_isWord 22 q3.2) miX6_isWord mvX6_isWord rfl (by decide) lk1_49 wI_ok (by decide +kernel) rfl (Nat.le_of_ble_eq_true rfl) (by decide) rfl (fun q4 hq4 => ?_)
        refine g_zeq (off := 8) (tgt := 53) (pc2 := 48) (by decide +kernel) (by decide) rfl ?_ ?_
        · refine g_seg0 (pc' := 54) (L' := [some (vR (kO 6) 1)]) (st' := [vI 0]) (u1 := q4.2) [(oC 0, 1)] (by decide +kernel) rfl rfl ?_
          exact g_iret (by decide +kernel) rfl
        · refine g_seg0 (pc' := 50) (L' := [some (vR (kO 6) 1)]) (st' := [vI (-4)]) (u1 := q4.2) [(oC (-4), 2)] (by decide +kernel) rfl rfl ?_
          refine g_goto (off := 4) (tgt := 54) (by decide +kernel) (by decide) ?_
          exact g_iret (by decide +kernel) rfl
      · refine g_seg0 (pc' := 37) (L' := [some (vR (kO 6) 1)]) (st' := [vI (-3)]) (u1 := q3.2) [(oC (-3), 2)] (by decide +kernel) rfl rfl ?_
        exact g_iret (by decide +kernel) rfl
    · refine g_seg0 (pc' := 24) (L' := [some (vR (kO 6) 1)]) (st' := [vI (-2)]) (u1 := q2.2) [(oC (-2), 2)] (by decide +kernel) rfl rfl ?_
      exact g_iret (by decide +kernel) rfl
  · refine g_seg0 (pc' := 11) (L' := [some (vR (kO 6) 1)]) (st' := [vI (-1)]) (u1 := q1.2) [(oC (-1), 1)] (by decide +kernel) rfl rfl ?_
    exact g_iret (by decide +kernel) rfl
theorem CX1_factAt (u : ab_S) : ab_C 0 yX1_factAt cX1_factAt 1 (some .int) 1 [vR (kO 6) 1] u wI (fX1_factAt u) := ab_entry (by decide +kernel) rfl (by decide) (by decide) (fun _ => Nat.le_of_ble_eq_true rfl) rfl (tX1_factAt u)
def fX1_operatorAt (v1 : Int32) (u : ab_S) : Option (Int32 × ab_S) :=
  ab_sw v1 [
  (0,
    (fX6_isWord 17 u).bind fun q1 =>
      bif decide (q1.1 = 0) then (
        (fX6_isWord 18 q1.2).bind fun q2 =>
          bif decide (q2.1 = 0) then (
            some (0, q2.2))
          else (
            some ((-7), q2.2)))
      else (
        some ((-6), q1.2))),
  (1,
    (fX6_isSign 60 u).bind fun q3 =>
      bif decide (q3.1 = 0) then (
        (fX6_isSign 61 q3.2).bind fun q4 =>
          bif decide (q4.1 = 0) then (
            some (0, q4.2))
          else (
            some ((-9), q4.2)))
      else (
        some ((-8), q3.2))),
  (2,
    (fX6_isSign 43 u).bind fun q5 =>
      bif decide (q5.1 = 0) then (
        (fX6_isSign 45 q5.2).bind fun q6 =>
          bif decide (q6.1 = 0) then (
            some (0, q6.2))
          else (
            some ((-11), q6.2)))
      else (
        some ((-10), q5.2)))] (
    (fX6_isSign 42 u).bind fun q7 =>
      bif decide (q7.1 = 0) then (
        some (0, q7.2))
      else (
        some ((-12), q7.2)))
theorem tX1_operatorAt (v1 : Int32) (u : ab_S) : ab_G 0 1 cX1_operatorAt (some .int) 1 0 [some (vR (kO 6) 1), some (vI v1)] [] u wI (fX1_operatorAt v1 u) := by
  rw [fX1_operatorAt]
  refine g_seg0 (pc' := 1) (L' := [some (vR (kO 6) 1), some (vI v1)]) (st' := [vI v1]) (u1 := u) [(oL 0 1, 1)] (by decide +kernel) rfl rfl ?_
  refine g_sw0 ?_
  refine g_sw1 (dflt := 119) (lo := 0) (hi := 2) (offs := #[27, 59, 89]) (len := 27) (k := 0) (t := 28) (by decide +kernel) (by decide +kernel) ?_ ?_
  · refine g_seg0 (pc' := 32) (L' := [some (vR (kO 6) 1), some (vI v1)]) (st' := [vR (kO 20) 17, vR (kO 6) 1]) (u1 := u) [(oL 2 0, 1), (oP (.getstatic 43), 3)] (by decide +kernel) rfl rfl ?_
    refine g_callV (k := 49) (pc2 := 35) (st := []) (CX6_isWord 17 u) miX6_isWord mvX6_isWord rfl (by decide) lk1_49 wI_ok (by decide +kernel) rfl (Nat.le_of_ble_eq_true rfl) (by decide) rfl (fun q1 hq1 => ?_)
    refine g_zeq (off := 8) (tgt := 43) (pc2 := 38) (by decide +kernel) (by decide) rfl ?_ ?_
    · refine g_seg0 (pc' := 47) (L' := [some (vR (kO 6) 1), some (vI v1)]) (st' := [vR (kO 20) 18, vR (kO 6) 1]) (u1 := q1.2) [(oL 2 0, 1), (oP (.getstatic 53), 3)] (by decide +kernel) rfl rfl ?_
      refine g_callV (k := 49) (pc2 := 50) (st := []) (CX6_isWord 18 q1.2) miX6_isWord mvX6_isWord rfl (by decide) lk1_49 wI_ok (by decide +kernel) rfl (Nat.le_of_ble_eq_true rfl) (by decide) rfl (fun q2 hq2 => ?_)
      refine g_zeq (off := 8) (tgt := 58) (pc2 := 53) (by decide +kernel) (by decide) rfl ?_ ?_
      · refine g_seg0 (pc' := 59) (L' := [some (vR (kO 6) 1), some (vI v1)]) (st' := [vI 0]) (u1 := q2.2) [(oC 0, 1)] (by decide +kernel) rfl rfl ?_
        exact g_iret (by decide +kernel) rfl
      · refine g_seg0 (pc' := 55) (L' := [some (vR (kO 6) 1), some (vI v1)]) (st' := [vI (-7)]) (u1 := q2.2) [(oC (-7), 2)] (by decide +kernel) rfl rfl ?_
        refine g_goto (off := 4) (tgt := 59) (by decide +kernel) (by decide) ?_
        exact g_iret (by decide +kernel) rfl
    · refine g_seg0 (pc' := 40) (L' := [some (vR (kO 6) 1), some (vI v1)]) (st' := [vI (-6)]) (u1 := q1.2) [(oC (-6), 2)] (by decide +kernel) rfl rfl ?_
      refine g_goto (off := 19) (tgt := 59) (by decide +kernel) (by decide) ?_
      exact g_iret (by decide +kernel) rfl
  refine g_sw1 (dflt := 119) (lo := 0) (hi := 2) (offs := #[27, 59, 89]) (len := 27) (k := 1) (t := 60) (by decide +kernel) (by decide +kernel) ?_ ?_
  · refine g_seg0 (pc' := 63) (L' := [some (vR (kO 6) 1), some (vI v1)]) (st' := [vI 60, vR (kO 6) 1]) (u1 := u) [(oL 2 0, 1), (oC 60, 2)] (by decide +kernel) rfl rfl ?_
    refine g_callV (k := 56) (pc2 := 66) (st := []) (CX6_isSign 60 u) miX6_isSign mvX6_isSign rfl (by decide) lk1_56 wI_ok (by decide +kernel) rfl (Nat.le_of_ble_eq_true rfl) (by decide) rfl (fun q3 hq3 => ?_)
    refine g_zeq (off := 8) (tgt := 74) (pc2 := 69) (by decide +kernel) (by decide) rfl ?_ ?_
    · refine g_seg0 (pc' := 77) (L' := [some (vR (kO 6) 1), some (vI v1)]) (st' := [vI 61, vR (kO 6) 1]) (u1 := q3.2) [(oL 2 0, 1), (oC 61, 2)] (by decide +kernel) rfl rfl ?_
      refine g_callV (k := 56) (pc2 := 80) (st := []) (CX6_isSign 61 q3.2) miX6_isSign mvX6_isSign rfl (by decide) lk1_56 wI_ok (by decide +kernel) rfl (Nat.le_of_ble_eq_true rfl) (by decide) rfl (fun q4 hq4 => ?_)
      refine g_zeq (off := 8) (tgt := 88) (pc2 := 83) (by decide +kernel) (by decide) rfl ?_ ?_
      · refine g_seg0 (pc' := 89) (L' := [some (vR (kO 6) 1), some (vI v1)]) (st' := [vI 0]) (u1 := q4.2) [(oC 0, 1)] (by decide +kernel) rfl rfl ?_
        exact g_iret (by decide +kernel) rfl
      · refine g_seg0 (pc' := 85) (L' := [some (vR (kO 6) 1), some (vI v1)]) (st' := [vI (-9)]) (u1 := q4.2) [(oC (-9), 2)] (by decide +kernel) rfl rfl ?_
        refine g_goto (off := 4) (tgt := 89) (by decide +kernel) (by decide) ?_
        exact g_iret (by decide +kernel) rfl
    · refine g_seg0 (pc' := 71) (L' := [some (vR (kO 6) 1), some (vI v1)]) (st' := [vI (-8)]) (u1 := q3.2) [(oC (-8), 2)] (by decide +kernel) rfl rfl ?_
      refine g_goto (off := 18) (tgt := 89) (by decide +kernel) (by decide) ?_
      exact g_iret (by decide +kernel) rfl
  refine g_sw1 (dflt := 119) (lo := 0) (hi := 2) (offs := #[27, 59, 89]) (len := 27) (k := 2) (t := 90) (by decide +kernel) (by decide +kernel) ?_ ?_
  · refine g_seg0 (pc' := 93) (L' := [some (vR (kO 6) 1), some (vI v1)]) (st' := [vI 43, vR (kO 6) 1]) (u1 := u) [(oL 2 0, 1), (oC 43, 2)] (by decide +kernel) rfl rfl ?_
    refine g_callV (k := 56) (pc2 := 96) (st := []) (CX6_isSign 43 u) miX6_isSign mvX6_isSign rfl (by decide) lk1_56 wI_ok (by decide +kernel) rfl (Nat.le_of_ble_eq_true rfl) (by decide) rfl (fun q5 hq5 => ?_)
    refine g_zeq (off := 8) (tgt := 104) (pc2 := 99) (by decide +kernel) (by decide) rfl ?_ ?_
    · refine g_seg0 (pc' := 107) (L' := [some (vR (kO 6) 1), some (vI v1)]) (st' := [vI 45, vR (kO 6) 1]) (u1 := q5.2) [(oL 2 0, 1), (oC 45, 2)] (by decide +kernel) rfl rfl ?_
      refine g_callV (k := 56) (pc2 := 110) (st := []) (CX6_isSign 45 q5.2) miX6_isSign mvX6_isSign rfl (by decide) lk1_56 wI_ok (by decide +kernel) rfl (Nat.le_of_ble_eq_true rfl) (by decide) rfl (fun q6 hq6 => ?_)
      refine g_zeq (off := 8) (tgt := 118) (pc2 := 113) (by decide +kernel) (by decide) rfl ?_ ?_
      · refine g_seg0 (pc' := 119) (L' := [some (vR (kO 6) 1), some (vI v1)]) (st' := [vI 0]) (u1 := q6.2) [(oC 0, 1)] (by decide +kernel) rfl rfl ?_
        exact g_iret (by decide +kernel) rfl
      · refine g_seg0 (pc' := 115) (L' := [some (vR (kO 6) 1), some (vI v1)]) (st' := [vI (-11)]) (u1 := q6.2) [(oC (-11), 2)] (by decide +kernel) rfl rfl ?_
        refine g_goto (off := 4) (tgt := 119) (by decide +kernel) (by decide) ?_
        exact g_iret (by decide +kernel) rfl
    · refine g_seg0 (pc' := 101) (L' := [some (vR (kO 6) 1), some (vI v1)]) (st' := [vI (-10)]) (u1 := q5.2) [(oC (-10), 2)] (by decide +kernel) rfl rfl ?_
      refine g_goto (off := 18) (tgt := 119) (by decide +kernel) (by decide) ?_
      exact g_iret (by decide +kernel) rfl
  refine g_swd (dflt := 119) (lo := 0) (hi := 2) (offs := #[27, 59, 89]) (len := 27) (tgd := 120) (by decide +kernel) (by decide) (by decide +kernel) ?_
  refine g_seg0 (pc' := 123) (L' := [some (vR (kO 6) 1), some (vI v1)]) (st' := [vI 42, vR (kO 6) 1]) (u1 := u) [(oL 2 0, 1), (oC 42, 2)] (by decide +kernel) rfl rfl ?_
  refine g_callV (k := 56) (pc2 := 126) (st := []) (CX6_isSign 42 u) miX6_isSign mvX6_isSign rfl (by decide) lk1_56 wI_ok (by decide +kernel) rfl (Nat.le_of_ble_eq_true rfl) (by decide) rfl (fun q7 hq7 => ?_)
  refine g_zeq (off := 8) (tgt := 134) (pc2 := 129) (by decide +kernel) (by decide) rfl ?_ ?_
  · refine g_seg0 (pc' := 135) (L' := [some (vR (kO 6) 1), some (vI v1)]) (st' := [vI 0]) (u1 := q7.2) [(oC 0, 1)] (by decide +kernel) rfl rfl ?_
    exact g_iret (by decide +kernel) rfl
  · refine g_seg0 (pc' := 131) (L' := [some (vR (kO 6) 1), some (vI v1)]) (st' := [vI (-12)]) (u1 := q7.2) [(oC (-12), 2)] (by decide +kernel) rfl rfl ?_
    refine g_goto (off := 4) (tgt := 135) (by decide +kernel) (by decide) ?_
    exact g_iret (by decide +kernel) rfl
theorem CX1_operatorAt (v1 : Int32) (u : ab_S) : ab_C 0 yX1_operatorAt cX1_operatorAt 2 (some .int) 1 [vR (kO 6) 1, vI v1] u wI (fX1_operatorAt v1 u) := ab_entry (by decide +kernel) rfl (by decide) (by decide) (fun _ => Nat.le_of_ble_eq_true rfl) rfl (tX1_operatorAt v1 u)
