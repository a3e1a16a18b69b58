/-! methods, printed by program out of the listing: function, walk, contract -/
def fX10_whole_57 (rX10_whole : Int32 → ab_S → Option (Unit × ab_S)) (rX10_test : Int32 → ab_S → Option (Unit × ab_S)) (rX10_sums : Int32 → ab_S → Option (Unit × ab_S)) (rX10_products : Int32 → ab_S → Option (Unit × ab_S)) (rX10_takePart : Int32 → ab_S → Option (Unit × ab_S)) (k5 : Int32 → ab_S → Option (Unit × ab_S)) (v1 : Int32) (s1 : Int32) (u : ab_S) : Option (Unit × ab_S) :=
  (fX10_emit s1 0 u).bind fun q1 =>
    k5 v1 q1.2
theorem tX10_whole_57 (rX10_whole : Int32 → ab_S → Option (Unit × ab_S)) (rX10_test : Int32 → ab_S → Option (Unit × ab_S)) (rX10_sums : Int32 → ab_S → Option (Unit × ab_S)) (rX10_products : Int32 → ab_S → Option (Unit × ab_S)) (rX10_takePart : Int32 → ab_S → Option (Unit × ab_S)) {dd : Nat} (hX10_whole : ∀ (v1 : Int32) (u : ab_S), ab_C 1 yX10_whole cX10_whole 3 none dd [vR (kO 9) 0, vI v1] u wV (rX10_whole v1 u)) (hX10_test : ∀ (v1 : Int32) (u : ab_S), ab_C 1 yX10_test cX10_test 3 none dd [vR (kO 9) 0, vI v1] u wV (rX10_test v1 u)) (hX10_sums : ∀ (v1 : Int32) (u : ab_S), ab_C 1 yX10_sums cX10_sums 3 none dd [vR (kO 9) 0, vI v1] u wV (rX10_sums v1 u)) (hX10_products : ∀ (v1 : Int32) (u : ab_S), ab_C 1 yX10_products cX10_products 2 none dd [vR (kO 9) 0, vI v1] u wV (rX10_products v1 u)) (hX10_takePart : ∀ (v1 : Int32) (u : ab_S), ab_C 1 yX10_takePart cX10_takePart 4 none dd [vR (kO 9) 0, vI v1] u wV (rX10_takePart v1 u)) (hdd : 0 ≤ dd) (k5 : Int32 → ab_S → Option (Unit × ab_S)) (hk5 : ∀ (v1 : Int32) (u : ab_S), ab_G 1 9 cX10_whole none (dd + 1) 5 [some (vR (kO 9) 0), some (vI v1), none] [] u wV (k5 v1 u)) (v1 : Int32) (s1 : Int32) (u : ab_S) : ab_G 1 9 cX10_whole none (dd + 1) 57 [some (vR (kO 9) 0), some (vI v1), none] [vI s1, vR (kO 9) 0] u wV (fX10_whole_57 rX10_whole rX10_test rX10_sums rX10_products rX10_takePart k5 v1 s1 u) := by
  rw [fX10_whole_57]
  refine g_seg0 (pc' := 58) (L' := [some (vR (kO 9) 0), some (vI v1), none]) (st' := [vI 0, vI s1, vR (kO 9) 0]) (u1 := u) [(oC 0, 1)] (by decide +kernel) rfl rfl ?_
  refine g_callV (k := 250) (pc2 := 61) (st := []) (CX10_emit s1 0 u) miX10_emit mvX10_emit rfl (by decide) lk9_250 wV_ok (by decide +kernel) rfl (Nat.le_of_ble_eq_true rfl) (by omega) rfl (fun q1 hq1 => ?_)
  refine g_goto (off := (-56)) (tgt := 5) (by decide +kernel) (by decide) ?_
  exact hk5 v1 q1.2
def fX10_whole_23 (rX10_whole : Int32 → ab_S → Option (Unit × ab_S)) (rX10_test : Int32 → ab_S → Option (Unit × ab_S)) (rX10_sums : Int32 → ab_S → Option (Unit × ab_S)) (rX10_products : Int32 → ab_S → Option (Unit × ab_S)) (rX10_takePart : Int32 → ab_S → Option (Unit × ab_S)) (k5 : Int32 → ab_S → Option (Unit × ab_S)) (v1 : Int32) (u : ab_S) : Option (Unit × ab_S) :=
  (fX10_isWord 17 u).bind fun q2 =>
    (rX10_test v1 (sI q2.2 0 7 ((q2.2.1 0 7) + 1))).bind fun q3 =>
      bif decide (q2.1 = 0) then (
        fX10_whole_57 rX10_whole rX10_test rX10_sums rX10_products rX10_takePart k5 v1 10 q3.2)
      else (
        fX10_whole_57 rX10_whole rX10_test rX10_sums rX10_products rX10_takePart k5 v1 9 q3.2)
theorem tX10_whole_23 (rX10_whole : Int32 → ab_S → Option (Unit × ab_S)) (rX10_test : Int32 → ab_S → Option (Unit × ab_S)) (rX10_sums : Int32 → ab_S → Option (Unit × ab_S)) (rX10_products : Int32 → ab_S → Option (Unit × ab_S)) (rX10_takePart : Int32 → ab_S → Option (Unit × ab_S)) {dd : Nat} (hX10_whole : ∀ (v1 : Int32) (u : ab_S), ab_C 1 yX10_whole cX10_whole 3 none dd [vR (kO 9) 0, vI v1] u wV (rX10_whole v1 u)) (hX10_test : ∀ (v1 : Int32) (u : ab_S), ab_C 1 yX10_test cX10_test 3 none dd [vR (kO 9) 0, vI v1] u wV (rX10_test v1 u)) (hX10_sums : ∀ (v1 : Int32) (u : ab_S), ab_C 1 yX10_sums cX10_sums 3 none dd [vR (kO 9) 0, vI v1] u wV (rX10_sums v1 u)) (hX10_products : ∀ (v1 : Int32) (u : ab_S), ab_C 1 yX10_products cX10_products 2 none dd [vR (kO 9) 0, vI v1] u wV (rX10_products v1 u)) (hX10_takePart : ∀ (v1 : Int32) (u : ab_S), ab_C 1 yX10_takePart cX10_takePart 4 none dd [vR (kO 9) 0, vI v1] u wV (rX10_takePart v1 u)) (hdd : 0 ≤ dd) (k5 : Int32 → ab_S → Option (Unit × ab_S)) (hk5 : ∀ (v1 : Int32) (u : ab_S), ab_G 1 9 cX10_whole none (dd + 1) 5 [some (vR (kO 9) 0), some (vI v1), none] [] u wV (k5 v1 u)) (v1 : Int32) (u : ab_S) : ab_G 1 9 cX10_whole none (dd + 1) 23 [some (vR (kO 9) 0), some (vI v1), none] [] u wV (fX10_whole_23 rX10_whole rX10_test rX10_sums rX10_products rX10_takePart k5 v1 u) := by
  rw [fX10_whole_23]
  refine g_seg0 (pc' := 26) (L' := [some (vR (kO 9) 0), some (vI v1), none]) (st' := [vI 17, vR (kO 9) 0]) (u1 := u) [(oL 2 0, 1), (oC 17, 2)] (by decide +kernel) rfl rfl ?_
  refine g_callV (k := 177) (pc2 := 29) (st := []) (CX10_isWord 17 u) miX10_isWord mvX10_isWord rfl (by decide) lk9_177 wI_ok (by decide +kernel) rfl (Nat.le_of_ble_eq_true rfl) (by omega) rfl (fun q2 hq2 => ?_)
  refine g_seg0 (pc' := 42) (L' := [some (vR (kO 9) 0), some (vI v1), some (vI (q2.1))]) (st' := [vI v1, vR (kO 9) 0]) (u1 := (sI q2.2 0 7 ((q2.2.1 0 7) + 1))) [(oL 3 2, 1), (oL 2 0, 1), (oP .dup, 1), (oP (.getfield 165), 3), (oC 1, 1), (oP .iadd, 1), (oP (.putfield 165), 3), (oL 2 0, 1), (oL 0 1, 1)] (by decide +kernel) rfl rfl ?_
  refine g_callV (k := 257) (pc2 := 45) (st := []) (hX10_test v1 (sI q2.2 0 7 ((q2.2.1 0 7) + 1))) miX10_test mvX10_test rfl (by decide) lk9_257 wV_ok (by decide +kernel) rfl (Nat.le_of_ble_eq_true rfl) (Nat.le_refl _) rfl (fun q3 hq3 => ?_)
  refine g_seg0 (pc' := 47) (L' := [some (vR (kO 9) 0), some (vI v1), some (vI (q2.1))]) (st' := [vI (q2.1), vR (kO 9) 0]) (u1 := q3.2) [(oL 2 0, 1), (oL 0 2, 1)] (by decide +kernel) rfl rfl ?_
  refine g_zeq (off := 8) (tgt := 55) (pc2 := 50) (by decide +kernel) (by decide) rfl ?_ ?_
  · refine g_seg0 (pc' := 57) (L' := [some (vR (kO 9) 0), some (vI v1), some (vI (q2.1))]) (st' := [vI 10, vR (kO 9) 0]) (u1 := q3.2) [(oC 10, 2)] (by decide +kernel) rfl rfl ?_
    exact g_jump [true, true, false] rfl (tX10_whole_57 rX10_whole rX10_test rX10_sums rX10_products rX10_takePart hX10_whole hX10_test hX10_sums hX10_products hX10_takePart hdd k5 hk5 v1 10 q3.2)
  · refine g_seg0 (pc' := 52) (L' := [some (vR (kO 9) 0), some (vI v1), some (vI (q2.1))]) (st' := [vI 9, vR (kO 9) 0]) (u1 := q3.2) [(oC 9, 2)] (by decide +kernel) rfl rfl ?_
    refine g_goto (off := 5) (tgt := 57) (by decide +kernel) (by decide) ?_
    exact g_jump [true, true, false] rfl (tX10_whole_57 rX10_whole rX10_test rX10_sums rX10_products rX10_takePart hX10_whole hX10_test hX10_sums hX10_products hX10_takePart hdd k5 hk5 v1 9 q3.2)
def fX10_whole_5 (rX10_whole : Int32 → ab_S → Option (Unit × ab_S)) (rX10_test : Int32 → ab_S → Option (Unit × ab_S)) (rX10_sums : Int32 → ab_S → Option (Unit × ab_S)) (rX10_products : Int32 → ab_S → Option (Unit × ab_S)) (rX10_takePart : Int32 → ab_S → Option (Unit × ab_S)) : Nat → Int32 → ab_S → Option (Unit × ab_S)
  | 0, _, _ => none
  | n + 1, v1, u =>
  (fX10_isWord 17 u).bind fun q4 =>
    bif decide (q4.1 = 0) then (
      (fX10_isWord 18 q4.2).bind fun q5 =>
        bif decide (q5.1 = 0) then (
          some ((), q5.2))
        else (
          fX10_whole_23 rX10_whole rX10_test rX10_sums rX10_products rX10_takePart (fX10_whole_5 rX10_whole rX10_test rX10_sums rX10_products rX10_takePart n) v1 q5.2))
    else (
      fX10_whole_23 rX10_whole rX10_test rX10_sums rX10_products rX10_takePart (fX10_whole_5 rX10_whole rX10_test rX10_sums rX10_products rX10_takePart n) v1 q4.2)
theorem tX10_whole_5 (rX10_whole : Int32 → ab_S → Option (Unit × ab_S)) (rX10_test : Int32 → ab_S → Option (Unit × ab_S)) (rX10_sums : Int32 → ab_S → Option (Unit × ab_S)) (rX10_products : Int32 → ab_S → Option (Unit × ab_S)) (rX10_takePart : Int32 → ab_S → Option (Unit × ab_S)) {dd : Nat} (hX10_whole : ∀ (v1 : Int32) (u : ab_S), ab_C 1 yX10_whole cX10_whole 3 none dd [vR (kO 9) 0, vI v1] u wV (rX10_whole v1 u)) (hX10_test : ∀ (v1 : Int32) (u : ab_S), ab_C 1 yX10_test cX10_test 3 none dd [vR (kO 9) 0, vI v1] u wV (rX10_test v1 u)) (hX10_sums : ∀ (v1 : Int32) (u : ab_S), ab_C 1 yX10_sums cX10_sums 3 none dd [vR (kO 9) 0, vI v1] u wV (rX10_sums v1 u)) (hX10_products : ∀ (v1 : Int32) (u : ab_S), ab_C 1 yX10_products cX10_products 2 none dd [vR (kO 9) 0, vI v1] u wV (rX10_products v1 u)) (hX10_takePart : ∀ (v1 : Int32) (u : ab_S), ab_C 1 yX10_takePart cX10_takePart 4 none dd [vR (kO 9) 0, vI v1] u wV (rX10_takePart v1 u)) (hdd : 0 ≤ dd) : ∀ (n : Nat) (v1 : Int32) (u : ab_S), ab_G 1 9 cX10_whole none (dd + 1) 5 [some (vR (kO 9) 0), some (vI v1), none] [] u wV (fX10_whole_5 rX10_whole rX10_test rX10_sums rX10_products rX10_takePart n v1 u) := by
  intro n
  induction n with
  | zero => intros; exact g_none
  | succ n ih =>
    intro v1 u
    rw [fX10_whole_5]
    refine g_seg0 (pc' := 8) (L' := [some (vR (kO 9) 0), some (vI v1), none]) (st' := [vI 17, vR (kO 9) 0]) (u1 := u) [(oL 2 0, 1), (oC 17, 2)] (by decide +kernel) rfl rfl ?_
    refine g_callV (k := 177) (pc2 := 11) (st := []) (CX10_isWord 17 u) miX10_isWord mvX10_isWord rfl (by decide) lk9_177 wI_ok (by decide +kernel) rfl (Nat.le_of_ble_eq_true rfl) (by omega) rfl (fun q4 hq4 => ?_)
    refine g_zne (off := 12) (tgt := 23) (pc2 := 14) (by decide +kernel) (by decide) rfl ?_ ?_
    · exact tX10_whole_23 rX10_whole rX10_test rX10_sums rX10_products rX10_takePart hX10_whole hX10_test hX10_sums hX10_products hX10_takePart hdd (fX10_whole_5 rX10_whole rX10_test rX10_sums rX10_products rX10_takePart n) ih v1 q4.2
    · refine g_seg0 (pc' := 17) (L' := [some (vR (kO 9) 0), some (vI v1), none]) (st' := [vI 18, vR (kO 9) 0]) (u1 := q4.2) [(oL 2 0, 1), (oC 18, 2)] (by decide +kernel) rfl rfl ?_
      refine g_callV (k := 177) (pc2 := 20) (st := []) (CX10_isWord 18 q4.2) miX10_isWord mvX10_isWord rfl (by decide) lk9_177 wI_ok (by decide +kernel) rfl (Nat.le_of_ble_eq_true rfl) (by omega) rfl (fun q5 hq5 => ?_)
      refine g_zeq (off := 44) (tgt := 64) (pc2 := 23) (by decide +kernel) (by decide) rfl ?_ ?_
      · exact g_vret (by decide +kernel) rfl
      · exact tX10_whole_23 rX10_whole rX10_test rX10_sums rX10_products rX10_takePart hX10_whole hX10_test hX10_sums hX10_products hX10_takePart hdd (fX10_whole_5 rX10_whole rX10_test rX10_sums rX10_products rX10_takePart n) ih v1 q5.2
def fX10_whole (rX10_whole : Int32 → ab_S → Option (Unit × ab_S)) (rX10_test : Int32 → ab_S → Option (Unit × ab_S)) (rX10_sums : Int32 → ab_S → Option (Unit × ab_S)) (rX10_products : Int32 → ab_S → Option (Unit × ab_S)) (rX10_takePart : Int32 → ab_S → Option (Unit × ab_S)) (v1 : Int32) (u : ab_S) : Option (Unit × ab_S) :=
  (rX10_test v1 u).bind fun q6 =>
    fX10_whole_5 rX10_whole rX10_test rX10_sums rX10_products rX10_takePart fu v1 q6.2
theorem tX10_whole (rX10_whole : Int32 → ab_S → Option (Unit × ab_S)) (rX10_test : Int32 → ab_S → Option (Unit × ab_S)) (rX10_sums : Int32 → ab_S → Option (Unit × ab_S)) (rX10_products : Int32 → ab_S → Option (Unit × ab_S)) (rX10_takePart : Int32 → ab_S → Option (Unit × ab_S)) {dd : Nat} (hX10_whole : ∀ (v1 : Int32) (u : ab_S), ab_C 1 yX10_whole cX10_whole 3 none dd [vR (kO 9) 0, vI v1] u wV (rX10_whole v1 u)) (hX10_test : ∀ (v1 : Int32) (u : ab_S), ab_C 1 yX10_test cX10_test 3 none dd [vR (kO 9) 0, vI v1] u wV (rX10_test v1 u)) (hX10_sums : ∀ (v1 : Int32) (u : ab_S), ab_C 1 yX10_sums cX10_sums 3 none dd [vR (kO 9) 0, vI v1] u wV (rX10_sums v1 u)) (hX10_products : ∀ (v1 : Int32) (u : ab_S), ab_C 1 yX10_products cX10_products 2 none dd [vR (kO 9) 0, vI v1] u wV (rX10_products v1 u)) (hX10_takePart : ∀ (v1 : Int32) (u : ab_S), ab_C 1 yX10_takePart cX10_takePart 4 none dd [vR (kO 9) 0, vI v1] u wV (rX10_takePart v1 u)) (hdd : 0 ≤ dd) (v1 : Int32) (u : ab_S) : ab_G 1 9 cX10_whole none (dd + 1) 0 [some (vR (kO 9) 0), some (vI v1), none] [] u wV (fX10_whole rX10_whole rX10_test rX10_sums rX10_products rX10_takePart v1 u) := by
  rw [fX10_whole]
  refine g_seg0 (pc' := 2) (L' := [some (vR (kO 9) 0), some (vI v1), none]) (st' := [vI v1, vR (kO 9) 0]) (u1 := u) [(oL 2 0, 1), (oL 0 1, 1)] (by decide +kernel) rfl rfl ?_
  refine g_callV (k := 257) (pc2 := 5) (st := []) (hX10_test v1 u) miX10_test mvX10_test rfl (by decide) lk9_257 wV_ok (by decide +kernel) rfl (Nat.le_of_ble_eq_true rfl) (Nat.le_refl _) rfl (fun q6 hq6 => ?_)
  exact tX10_whole_5 rX10_whole rX10_test rX10_sums rX10_products rX10_takePart hX10_whole hX10_test hX10_sums hX10_products hX10_takePart hdd fu v1 q6.2
theorem CX10_whole (rX10_whole : Int32 → ab_S → Option (Unit × ab_S)) (rX10_test : Int32 → ab_S → Option (Unit × ab_S)) (rX10_sums : Int32 → ab_S → Option (Unit × ab_S)) (rX10_products : Int32 → ab_S → Option (Unit × ab_S)) (rX10_takePart : Int32 → ab_S → Option (Unit × ab_S)) {dd : Nat} (hX10_whole : ∀ (v1 : Int32) (u : ab_S), ab_C 1 yX10_whole cX10_whole 3 none dd [vR (kO 9) 0, vI v1] u wV (rX10_whole v1 u)) (hX10_test : ∀ (v1 : Int32) (u : ab_S), ab_C 1 yX10_test cX10_test 3 none dd [vR (kO 9) 0, vI v1] u wV (rX10_test v1 u)) (hX10_sums : ∀ (v1 : Int32) (u : ab_S), ab_C 1 yX10_sums cX10_sums 3 none dd [vR (kO 9) 0, vI v1] u wV (rX10_sums v1 u)) (hX10_products : ∀ (v1 : Int32) (u : ab_S), ab_C 1 yX10_products cX10_products 2 none dd [vR (kO 9) 0, vI v1] u wV (rX10_products v1 u)) (hX10_takePart : ∀ (v1 : Int32) (u : ab_S), ab_C 1 yX10_takePart cX10_takePart 4 none dd [vR (kO 9) 0, vI v1] u wV (rX10_takePart v1 u)) (hdd : 0 ≤ dd) (v1 : Int32) (u : ab_S) : ab_C 1 yX10_whole cX10_whole 3 none (dd + 1) [vR (kO 9) 0, vI v1] u wV (fX10_whole rX10_whole rX10_test rX10_sums rX10_products rX10_takePart v1 u) := ab_entry (by decide +kernel) rfl (by decide) (by decide) (fun _ => Nat.le_of_ble_eq_true rfl) rfl (tX10_whole rX10_whole rX10_test rX10_sums rX10_products rX10_takePart hX10_whole hX10_test hX10_sums hX10_products hX10_takePart hdd v1 u)
def fX10_test_47 (rX10_whole : Int32 → ab_S → Option (Unit × ab_S)) (rX10_test : Int32 → ab_S → Option (Unit × ab_S)) (rX10_sums : Int32 → ab_S → Option (Unit × ab_S)) (rX10_products : Int32 → ab_S → Option (Unit × ab_S)) (rX10_takePart : Int32 → ab_S → Option (Unit × ab_S)) (s1 : Int32) (u : ab_S) : Option (Unit × ab_S) :=
  (fX10_emit s1 0 u).bind fun q1 =>
    some ((), q1.2)
theorem tX10_test_47 (rX10_whole : Int32 → ab_S → Option (Unit × ab_S)) (rX10_test : Int32 → ab_S → Option (Unit × ab_S)) (rX10_sums : Int32 → ab_S → Option (Unit × ab_S)) (rX10_products : Int32 → ab_S → Option (Unit × ab_S)) (rX10_takePart : Int32 → ab_S → Option (Unit × ab_S)) {dd : Nat} (hX10_whole : ∀ (v1 : Int32) (u : ab_S), ab_C 1 yX10_whole cX10_whole 3 none dd [vR (kO 9) 0, vI v1] u wV (rX10_whole v1 u)) (hX10_test : ∀ (v1 : Int32) (u : ab_S), ab_C 1 yX10_test cX10_test 3 none dd [vR (kO 9) 0, vI v1] u wV (rX10_test v1 u)) (hX10_sums : ∀ (v1 : Int32) (u : ab_S), ab_C 1 yX10_sums cX10_sums 3 none dd [vR (kO 9) 0, vI v1] u wV (rX10_sums v1 u)) (hX10_products : ∀ (v1 : Int32) (u : ab_S), ab_C 1 yX10_products cX10_products 2 none dd [vR (kO 9) 0, vI v1] u wV (rX10_products v1 u)) (hX10_takePart : ∀ (v1 : Int32) (u : ab_S), ab_C 1 yX10_takePart cX10_takePart 4 none dd [vR (kO 9) 0, vI v1] u wV (rX10_takePart v1 u)) (hdd : 1 ≤ dd) (s1 : Int32) (u : ab_S) : ab_G 1 9 cX10_test none (dd + 1) 47 [none, none, none] [vI s1, vR (kO 9) 0] u wV (fX10_test_47 rX10_whole rX10_test rX10_sums rX10_products rX10_takePart s1 u) := by
  rw [fX10_test_47]
  refine g_seg0 (pc' := 48) (L' := [none, none, none]) (st' := [vI 0, vI s1, vR (kO 9) 0]) (u1 := u) [(oC 0, 1)] (by decide +kernel) rfl rfl ?_
  refine g_callV (k := 250) (pc2 := 51) (st := []) (CX10_emit s1 0 u) miX10_emit mvX10_emit rfl (by decide) lk9_250 wV_ok (by decide +kernel) rfl (Nat.le_of_ble_eq_true rfl) (by omega) rfl (fun q1 hq1 => ?_)
  exact g_vret (by decide +kernel) rfl
def fX10_test_30 (rX10_whole : Int32 → ab_S → Option (Unit × ab_S)) (rX10_test : Int32 → ab_S → Option (Unit × ab_S)) (rX10_sums : Int32 → ab_S → Option (Unit × ab_S)) (rX10_products : Int32 → ab_S → Option (Unit × ab_S)) (rX10_takePart : Int32 → ab_S → Option (Unit × ab_S)) (v1 : Int32) (v2 : Int32) (u : ab_S) : Option (Unit × ab_S) :=
  (rX10_sums v1 u).bind fun q2 =>
    bif decide (v2 = 0) then (
      fX10_test_47 rX10_whole rX10_test rX10_sums rX10_products rX10_takePart 8 q2.2)
    else (
      fX10_test_47 rX10_whole rX10_test rX10_sums rX10_products rX10_takePart 7 q2.2)
theorem tX10_test_30 (rX10_whole : Int32 → ab_S → Option (Unit × ab_S)) (rX10_test : Int32 → ab_S → Option (Unit × ab_S)) (rX10_sums : Int32 → ab_S → Option (Unit × ab_S)) (rX10_products : Int32 → ab_S → Option (Unit × ab_S)) (rX10_takePart : Int32 → ab_S → Option (Unit × ab_S)) {dd : Nat} (hX10_whole : ∀ (v1 : Int32) (u : ab_S), ab_C 1 yX10_whole cX10_whole 3 none dd [vR (kO 9) 0, vI v1] u wV (rX10_whole v1 u)) (hX10_test : ∀ (v1 : Int32) (u : ab_S), ab_C 1 yX10_test cX10_test 3 none dd [vR (kO 9) 0, vI v1] u wV (rX10_test v1 u)) (hX10_sums : ∀ (v1 : Int32) (u : ab_S), ab_C 1 yX10_sums cX10_sums 3 none dd [vR (kO 9) 0, vI v1] u wV (rX10_sums v1 u)) (hX10_products : ∀ (v1 : Int32) (u : ab_S), ab_C 1 yX10_products cX10_products 2 none dd [vR (kO 9) 0, vI v1] u wV (rX10_products v1 u)) (hX10_takePart : ∀ (v1 : Int32) (u : ab_S), ab_C 1 yX10_takePart cX10_takePart 4 none dd [vR (kO 9) 0, vI v1] u wV (rX10_takePart v1 u)) (hdd : 1 ≤ dd) (v1 : Int32) (v2 : Int32) (u : ab_S) : ab_G 1 9 cX10_test none (dd + 1) 30 [some (vR (kO 9) 0), some (vI v1), some (vI v2)] [] u wV (fX10_test_30 rX10_whole rX10_test rX10_sums rX10_products rX10_takePart v1 v2 u) := by
  rw [fX10_test_30]
  refine g_seg0 (pc' := 32) (L' := [some (vR (kO 9) 0), some (vI v1), some (vI v2)]) (st' := [vI v1, vR (kO 9) 0]) (u1 := u) [(oL 2 0, 1), (oL 0 1, 1)] (by decide +kernel) rfl rfl ?_
  refine g_callV (k := 260) (pc2 := 35) (st := []) (hX10_sums v1 u) miX10_sums mvX10_sums rfl (by decide) lk9_260 wV_ok (by decide +kernel) rfl (Nat.le_of_ble_eq_true rfl) (Nat.le_refl _) rfl (fun q2 hq2 => ?_)
  refine g_seg0 (pc' := 37) (L' := [some (vR (kO 9) 0), some (vI v1), some (vI v2)]) (st' := [vI v2, vR (kO 9) 0]) (u1 := q2.2) [(oL 2 0, 1), (oL 0 2, 1)] (by decide +kernel) rfl rfl ?_
  refine g_zeq (off := 8) (tgt := 45) (pc2 := 40) (by decide +kernel) (by decide) rfl ?_ ?_
  · refine g_seg0 (pc' := 47) (L' := [some (vR (kO 9) 0), some (vI v1), some (vI v2)]) (st' := [vI 8, vR (kO 9) 0]) (u1 := q2.2) [(oC 8, 2)] (by decide +kernel) rfl rfl ?_
    exact g_jump [false, false, false] rfl (tX10_test_47 rX10_whole rX10_test rX10_sums rX10_products rX10_takePart hX10_whole hX10_test hX10_sums hX10_products hX10_takePart hdd 8 q2.2)
  · refine g_seg0 (pc' := 42) (L' := [some (vR (kO 9) 0), some (vI v1), some (vI v2)]) (st' := [vI 7, vR (kO 9) 0]) (u1 := q2.2) [(oC 7, 2)] (by decide +kernel) rfl rfl ?_
    refine g_goto (off := 5) (tgt := 47) (by decide +kernel) (by decide) ?_
    exact g_jump [false, false, false] rfl (tX10_test_47 rX10_whole rX10_test rX10_sums rX10_products rX10_takePart hX10_whole hX10_test hX10_sums hX10_products hX10_takePart hdd 7 q2.2)
def fX10_test (rX10_whole : Int32 → ab_S → Option (Unit × ab_S)) (rX10_test : Int32 → ab_S → Option (Unit × ab_S)) (rX10_sums : Int32 → ab_S → Option (Unit × ab_S)) (rX10_products : Int32 → ab_S → Option (Unit × ab_S)) (rX10_takePart : Int32 → ab_S → Option (Unit × ab_S)) (v1 : Int32) (u : ab_S) : Option (Unit × ab_S) :=
  (rX10_sums v1 u).bind fun q3 =>
    (fX10_isSign 60 q3.2).bind fun q4 =>
      (fX10_hasSign 60 q4.2).bind fun q5 =>
        bif decide (q5.1 = 0) then (
          (fX10_hasSign 61 q5.2).bind fun q6 =>
            bif decide (q6.1 = 0) then (
              some ((), q6.2))
            else (
              fX10_test_30 rX10_whole rX10_test rX10_sums rX10_products rX10_takePart v1 q4.1 q6.2))
        else (
          fX10_test_30 rX10_whole rX10_test rX10_sums rX10_products rX10_takePart v1 q4.1 q5.2)
theorem tX10_test (rX10_whole : Int32 → ab_S → Option (Unit × ab_S)) (rX10_test : Int32 → ab_S → Option (Unit × ab_S)) (rX10_sums : Int32 → ab_S → Option (Unit × ab_S)) (rX10_products : Int32 → ab_S → Option (Unit × ab_S)) (rX10_takePart : Int32 → ab_S → Option (Unit × ab_S)) {dd : Nat} (hX10_whole : ∀ (v1 : Int32) (u : ab_S), ab_C 1 yX10_whole cX10_whole 3 none dd [vR (kO 9) 0, vI v1] u wV (rX10_whole v1 u)) (hX10_test : ∀ (v1 : Int32) (u : ab_S), ab_C 1 yX10_test cX10_test 3 none dd [vR (kO 9) 0, vI v1] u wV (rX10_test v1 u)) (hX10_sums : ∀ (v1 : Int32) (u : ab_S), ab_C 1 yX10_sums cX10_sums 3 none dd [vR (kO 9) 0, vI v1] u wV (rX10_sums v1 u)) (hX10_products : ∀ (v1 : Int32) (u : ab_S), ab_C 1 yX10_products cX10_products 2 none dd [vR (kO 9) 0, vI v1] u wV (rX10_products v1 u)) (hX10_takePart : ∀ (v1 : Int32) (u : ab_S), ab_C 1 yX10_takePart cX10_takePart 4 none dd [vR (kO 9) 0, vI v1] u wV (rX10_takePart v1 u)) (hdd : 1 ≤ dd) (v1 : Int32) (u : ab_S) : ab_G 1 9 cX10_test none (dd + 1) 0 [some (vR (kO 9) 0), some (vI v1), none] [] u wV (fX10_test rX10_whole rX10_test rX10_sums rX10_products rX10_takePart v1 u) := by
  rw [fX10_test]
  refine g_seg0 (pc' := 2) (L' := [some (vR (kO 9) 0), some (vI v1), none]) (st' := [vI v1, vR (kO 9) 0]) (u1 := u) [(oL 2 0, 1), (oL 0 1, 1)] (by decide +kernel) rfl rfl ?_
  refine g_callV (k := 260) (pc2 := 5) (st := []) (hX10_sums v1 u) miX10_sums mvX10_sums rfl (by decide) lk9_260 wV_ok (by decide +kernel) rfl (Nat.le_of_ble_eq_true rfl) (Nat.le_refl _) rfl (fun q3 hq3 => ?_)
  refine g_seg0 (pc' := 8) (L' := [some (vR (kO 9) 0), some (vI v1), none]) (st' := [vI 60, vR (kO 9) 0]) (u1 := q3.2) [(oL 2 0, 1), (oC 60, 2)] (by decide +kernel) rfl rfl ?_
  refine g_callV (k := 171) (pc2 := 11) (st := []) (CX10_isSign 60 q3.2) miX10_isSign mvX10_isSign rfl (by decide) lk9_171 wI_ok (by decide +kernel) rfl (Nat.le_of_ble_eq_true rfl) (by omega) rfl (fun q4 hq4 => ?_)
  refine g_seg0 (pc' := 15) (L' := [some (vR (kO 9) 0), some (vI v1), some (vI (q4.1))]) (st' := [vI 60, vR (kO 9) 0]) (u1 := q4.2) [(oL 3 2, 1), (oL 2 0, 1), (oC 60, 2)] (by decide +kernel) rfl rfl ?_
  refine g_callV (k := 263) (pc2 := 18) (st := []) (CX10_hasSign 60 q4.2) miX10_hasSign mvX10_hasSign rfl (by decide) lk9_263 wI_ok (by decide +kernel) rfl (Nat.le_of_ble_eq_true rfl) (by omega) rfl (fun q5 hq5 => ?_)
  refine g_zne (off := 12) (tgt := 30) (pc2 := 21) (by decide +kernel) (by decide) rfl ?_ ?_
  · exact tX10_test_30 rX10_whole rX10_test rX10_sums rX10_products rX10_takePart hX10_whole hX10_test hX10_sums hX10_products hX10_takePart hdd v1 q4.1 q5.2
  · refine g_seg0 (pc' := 24) (L' := [some (vR (kO 9) 0), some (vI v1), some (vI (q4.1))]) (st' := [vI 61, vR (kO 9) 0]) (u1 := q5.2) [(oL 2 0, 1), (oC 61, 2)] (by decide +kernel) rfl rfl ?_
    refine g_callV (k := 263) (pc2 := 27) (st := []) (CX10_hasSign 61 q5.2) miX10_hasSign mvX10_hasSign rfl (by decide) lk9_263 wI_ok (by decide +kernel) rfl (Nat.le_of_ble_eq_true rfl) (by omega) rfl (fun q6 hq6 => ?_)
    refine g_zeq (off := 24) (tgt := 51) (pc2 := 30) (by decide +kernel) (by decide) rfl ?_ ?_
    · exact g_vret (by decide +kernel) rfl
    · exact tX10_test_30 rX10_whole rX10_test rX10_sums rX10_products rX10_takePart hX10_whole hX10_test hX10_sums hX10_products hX10_takePart hdd v1 q4.1 q6.2
theorem CX10_test (rX10_whole : Int32 → ab_S → Option (Unit × ab_S)) (rX10_test : Int32 → ab_S → Option (Unit × ab_S)) (rX10_sums : Int32 → ab_S → Option (Unit × ab_S)) (rX10_products : Int32 → ab_S → Option (Unit × ab_S)) (rX10_takePart : Int32 → ab_S → Option (Unit × ab_S)) {dd : Nat} (hX10_whole : ∀ (v1 : Int32) (u : ab_S), ab_C 1 yX10_whole cX10_whole 3 none dd [vR (kO 9) 0, vI v1] u wV (rX10_whole v1 u)) (hX10_test : ∀ (v1 : Int32) (u : ab_S), ab_C 1 yX10_test cX10_test 3 none dd [vR (kO 9) 0, vI v1] u wV (rX10_test v1 u)) (hX10_sums : ∀ (v1 : Int32) (u : ab_S), ab_C 1 yX10_sums cX10_sums 3 none dd [vR (kO 9) 0, vI v1] u wV (rX10_sums v1 u)) (hX10_products : ∀ (v1 : Int32) (u : ab_S), ab_C 1 yX10_products cX10_products 2 none dd [vR (kO 9) 0, vI v1] u wV (rX10_products v1 u)) (hX10_takePart : ∀ (v1 : Int32) (u : ab_S), ab_C 1 yX10_takePart cX10_takePart 4 none dd [vR (kO 9) 0, vI v1] u wV (rX10_takePart v1 u)) (hdd : 1 ≤ dd) (v1 : Int32) (u : ab_S) : ab_C 1 yX10_test cX10_test 3 none (dd + 1) [vR (kO 9) 0, vI v1] u wV (fX10_test rX10_whole rX10_test rX10_sums rX10_products rX10_takePart v1 u) := ab_entry (by decide +kernel) rfl (by decide) (by decide) (fun _ => Nat.le_of_ble_eq_true rfl) rfl (tX10_test rX10_whole rX10_test rX10_sums rX10_products rX10_takePart hX10_whole hX10_test hX10_sums hX10_products hX10_takePart hdd v1 u)
def fX10_sums_55 (rX10_whole : Int32 → ab_S → Option (Unit × ab_S)) (rX10_test : Int32 → ab_S → Option (Unit × ab_S)) (rX10_sums : Int32 → ab_S → Option (Unit × ab_S)) (rX10_products : Int32 → ab_S → Option (Unit × ab_S)) (rX10_takePart : Int32 → ab_S → Option (Unit × ab_S)) (k5 : Int32 → ab_S → Option (Unit × ab_S)) (v1 : Int32) (s1 : Int32) (u : ab_S) : Option (Unit × ab_S) :=
  (fX10_emit s1 0 u).bind fun q1 =>
    k5 v1 q1.2
theorem tX10_sums_55 (rX10_whole : Int32 → ab_S → Option (Unit × ab_S)) (rX10_test : Int32 → ab_S → Option (Unit × ab_S)) (rX10_sums : Int32 → ab_S → Option (Unit × ab_S)) (rX10_products : Int32 → ab_S → Option (Unit × ab_S)) (rX10_takePart : Int32 → ab_S → Option (Unit × ab_S)) {dd : Nat} (hX10_whole : ∀ (v1 : Int32) (u : ab_S), ab_C 1 yX10_whole cX10_whole 3 none dd [vR (kO 9) 0, vI v1] u wV (rX10_whole v1 u)) (hX10_test : ∀ (v1 : Int32) (u : ab_S), ab_C 1 yX10_test cX10_test 3 none dd [vR (kO 9) 0, vI v1] u wV (rX10_test v1 u)) (hX10_sums : ∀ (v1 : Int32) (u : ab_S), ab_C 1 yX10_sums cX10_sums 3 none dd [vR (kO 9) 0, vI v1] u wV (rX10_sums v1 u)) (hX10_products : ∀ (v1 : Int32) (u : ab_S), ab_C 1 yX10_products cX10_products 2 none dd [vR (kO 9) 0, vI v1] u wV (rX10_products v1 u)) (hX10_takePart : ∀ (v1 : Int32) (u : ab_S), ab_C 1 yX10_takePart cX10_takePart 4 none dd [vR (kO 9) 0, vI v1] u wV (rX10_takePart v1 u)) (hdd : 0 ≤ dd) (k5 : Int32 → ab_S → Option (Unit × ab_S)) (hk5 : ∀ (v1 : Int32) (u : ab_S), ab_G 1 9 cX10_sums none (dd + 1) 5 [some (vR (kO 9) 0), some (vI v1), none] [] u wV (k5 v1 u)) (v1 : Int32) (s1 : Int32) (u : ab_S) : ab_G 1 9 cX10_sums none (dd + 1) 55 [some (vR (kO 9) 0), some (vI v1), none] [vI s1, vR (kO 9) 0] u wV (fX10_sums_55 rX10_whole rX10_test rX10_sums rX10_products rX10_takePart k5 v1 s1 u) := by
  rw [fX10_sums_55]
  refine g_seg0 (pc' := 56) (L' := [some (vR (kO 9) 0), some (vI v1), none]) (st' := [vI 0, vI s1, vR (kO 9) 0]) (u1 := u) [(oC 0, 1)] (by decide +kernel) rfl rfl ?_
  refine g_callV (k := 250) (pc2 := 59) (st := []) (CX10_emit s1 0 u) miX10_emit mvX10_emit rfl (by decide) lk9_250 wV_ok (by decide +kernel) rfl (Nat.le_of_ble_eq_true rfl) (by omega) rfl (fun q1 hq1 => ?_)
  refine g_goto (off := (-54)) (tgt := 5) (by decide +kernel) (by decide) ?_
  exact hk5 v1 q1.2
def fX10_sums_23 (rX10_whole : Int32 → ab_S → Option (Unit × ab_S)) (rX10_test : Int32 → ab_S → Option (Unit × ab_S)) (rX10_sums : Int32 → ab_S → Option (Unit × ab_S)) (rX10_products : Int32 → ab_S → Option (Unit × ab_S)) (rX10_takePart : Int32 → ab_S → Option (Unit × ab_S)) (k5 : Int32 → ab_S → Option (Unit × ab_S)) (v1 : Int32) (u : ab_S) : Option (Unit × ab_S) :=
  (fX10_isSign 43 u).bind fun q2 =>
    (rX10_products v1 (sI q2.2 0 7 ((q2.2.1 0 7) + 1))).bind fun q3 =>
      bif decide (q2.1 = 0) then (
        fX10_sums_55 rX10_whole rX10_test rX10_sums rX10_products rX10_takePart k5 v1 5 q3.2)
      else (
        fX10_sums_55 rX10_whole rX10_test rX10_sums rX10_products rX10_takePart k5 v1 4 q3.2)
theorem tX10_sums_23 (rX10_whole : Int32 → ab_S → Option (Unit × ab_S)) (rX10_test : Int32 → ab_S → Option (Unit × ab_S)) (rX10_sums : Int32 → ab_S → Option (Unit × ab_S)) (rX10_products : Int32 → ab_S → Option (Unit × ab_S)) (rX10_takePart : Int32 → ab_S → Option (Unit × ab_S)) {dd : Nat} (hX10_whole : ∀ (v1 : Int32) (u : ab_S), ab_C 1 yX10_whole cX10_whole 3 none dd [vR (kO 9) 0, vI v1] u wV (rX10_whole v1 u)) (hX10_test : ∀ (v1 : Int32) (u : ab_S), ab_C 1 yX10_test cX10_test 3 none dd [vR (kO 9) 0, vI v1] u wV (rX10_test v1 u)) (hX10_sums : ∀ (v1 : Int32) (u : ab_S), ab_C 1 yX10_sums cX10_sums 3 none dd [vR (kO 9) 0, vI v1] u wV (rX10_sums v1 u)) (hX10_products : ∀ (v1 : Int32) (u : ab_S), ab_C 1 yX10_products cX10_products 2 none dd [vR (kO 9) 0, vI v1] u wV (rX10_products v1 u)) (hX10_takePart : ∀ (v1 : Int32) (u : ab_S), ab_C 1 yX10_takePart cX10_takePart 4 none dd [vR (kO 9) 0, vI v1] u wV (rX10_takePart v1 u)) (hdd : 0 ≤ dd) (k5 : Int32 → ab_S → Option (Unit × ab_S)) (hk5 : ∀ (v1 : Int32) (u : ab_S), ab_G 1 9 cX10_sums none (dd + 1) 5 [some (vR (kO 9) 0), some (vI v1), none] [] u wV (k5 v1 u)) (v1 : Int32) (u : ab_S) : ab_G 1 9 cX10_sums none (dd + 1) 23 [some (vR (kO 9) 0), some (vI v1), none] [] u wV (fX10_sums_23 rX10_whole rX10_test rX10_sums rX10_products rX10_takePart k5 v1 u) := by
  rw [fX10_sums_23]
  refine g_seg0 (pc' := 26) (L' := [some (vR (kO 9) 0), some (vI v1), none]) (st' := [vI 43, vR (kO 9) 0]) (u1 := u) [(oL 2 0, 1), (oC 43, 2)] (by decide +kernel) rfl rfl ?_
  refine g_callV (k := 171) (pc2 := 29) (st := []) (CX10_isSign 43 u) miX10_isSign mvX10_isSign rfl (by decide) lk9_171 wI_ok (by decide +kernel) rfl (Nat.le_of_ble_eq_true rfl) (by omega) rfl (fun q2 hq2 => ?_)
  refine g_seg0 (pc' := 42) (L' := [some (vR (kO 9) 0), some (vI v1), some (vI (q2.1))]) (st' := [vI v1, vR (kO 9) 0]) (u1 := (sI q2.2 0 7 ((q2.2.1 0 7) + 1))) [(oL 3 2, 1), (oL 2 0, 1), (oP .dup, 1), (oP (.getfield 165), 3), (oC 1, 1), (oP .iadd, 1), (oP (.putfield 165), 3), (oL 2 0, 1), (oL 0 1, 1)] (by decide +kernel) rfl rfl ?_
  refine g_callV (k := 266) (pc2 := 45) (st := []) (hX10_products v1 (sI q2.2 0 7 ((q2.2.1 0 7) + 1))) miX10_products mvX10_products rfl (by decide) lk9_266 wV_ok (by decide +kernel) rfl (Nat.le_of_ble_eq_true rfl) (Nat.le_refl _) rfl (fun q3 hq3 => ?_)
  refine g_seg0 (pc' := 47) (L' := [some (vR (kO 9) 0), some (vI v1), some (vI (q2.1))]) (st' := [vI (q2.1), vR (kO 9) 0]) (u1 := q3.2) [(oL 2 0, 1), (oL 0 2, 1)] (by decide +kernel) rfl rfl ?_
  refine g_zeq (off := 7) (tgt := 54) (pc2 := 50) (by decide +kernel) (by decide) rfl ?_ ?_
  · refine g_seg0 (pc' := 55) (L' := [some (vR (kO 9) 0), some (vI v1), some (vI (q2.1))]) (st' := [vI 5, vR (kO 9) 0]) (u1 := q3.2) [(oC 5, 1)] (by decide +kernel) rfl rfl ?_
    exact g_jump [true, true, false] rfl (tX10_sums_55 rX10_whole rX10_test rX10_sums rX10_products rX10_takePart hX10_whole hX10_test hX10_sums hX10_products hX10_takePart hdd k5 hk5 v1 5 q3.2)
  · refine g_seg0 (pc' := 51) (L' := [some (vR (kO 9) 0), some (vI v1), some (vI (q2.1))]) (st' := [vI 4, vR (kO 9) 0]) (u1 := q3.2) [(oC 4, 1)] (by decide +kernel) rfl rfl ?_
    refine g_goto (off := 4) (tgt := 55) (by decide +kernel) (by decide) ?_
    exact g_jump [true, true, false] rfl (tX10_sums_55 rX10_whole rX10_test rX10_sums rX10_products rX10_takePart hX10_whole hX10_test hX10_sums hX10_products hX10_takePart hdd k5 hk5 v1 4 q3.2)
def fX10_sums_5 (rX10_whole : Int32 → ab_S → Option (Unit × ab_S)) (rX10_test : Int32 → ab_S → Option (Unit × ab_S)) (rX10_sums : Int32 → ab_S → Option (Unit × ab_S)) (rX10_products : Int32 → ab_S → Option (Unit × ab_S)) (rX10_takePart : Int32 → ab_S → Option (Unit × ab_S)) : Nat → Int32 → ab_S → Option (Unit × ab_S)
  | 0, _, _ => none
  | n + 1, v1, u =>
  (fX10_isSign 43 u).bind fun q4 =>
    bif decide (q4.1 = 0) then (
      (fX10_isSign 45 q4.2).bind fun q5 =>
        bif decide (q5.1 = 0) then (
          some ((), q5.2))
        else (
          fX10_sums_23 rX10_whole rX10_test rX10_sums rX10_products rX10_takePart (fX10_sums_5 rX10_whole rX10_test rX10_sums rX10_products rX10_takePart n) v1 q5.2))
    else (
      fX10_sums_23 rX10_whole rX10_test rX10_sums rX10_products rX10_takePart (fX10_sums_5 rX10_whole rX10_test rX10_sums rX10_products rX10_takePart n) v1 q4.2)
theorem tX10_sums_5 (rX10_whole : Int32 → ab_S → Option (Unit × ab_S)) (rX10_test : Int32 → ab_S → Option (Unit × ab_S)) (rX10_sums : Int32 → ab_S → Option (Unit × ab_S)) (rX10_products : Int32 → ab_S → Option (Unit × ab_S)) (rX10_takePart : Int32 → ab_S → Option (Unit × ab_S)) {dd : Nat} (hX10_whole : ∀ (v1 : Int32) (u : ab_S), ab_C 1 yX10_whole cX10_whole 3 none dd [vR (kO 9) 0, vI v1] u wV (rX10_whole v1 u)) (hX10_test : ∀ (v1 : Int32) (u : ab_S), ab_C 1 yX10_test cX10_test 3 none dd [vR (kO 9) 0, vI v1] u wV (rX10_test v1 u)) (hX10_sums : ∀ (v1 : Int32) (u : ab_S), ab_C 1 yX10_sums cX10_sums 3 none dd [vR (kO 9) 0, vI v1] u wV (rX10_sums v1 u)) (hX10_products : ∀ (v1 : Int32) (u : ab_S), ab_C 1 yX10_products cX10_products 2 none dd [vR (kO 9) 0, vI v1] u wV (rX10_products v1 u)) (hX10_takePart : ∀ (v1 : Int32) (u : ab_S), ab_C 1 yX10_takePart cX10_takePart 4 none dd [vR (kO 9) 0, vI v1] u wV (rX10_takePart v1 u)) (hdd : 0 ≤ dd) : ∀ (n : Nat) (v1 : Int32) (u : ab_S), ab_G 1 9 cX10_sums none (dd + 1) 5 [some (vR (kO 9) 0), some (vI v1), none] [] u wV (fX10_sums_5 rX10_whole rX10_test rX10_sums rX10_products rX10_takePart n v1 u) := by
  intro n
  induction n with
  | zero => intros; exact g_none
  | succ n ih =>
    intro v1 u
    rw [fX10_sums_5]
    refine g_seg0 (pc' := 8) (L' := [some (vR (kO 9) 0), some (vI v1), none]) (st' := [vI 43, vR (kO 9) 0]) (u1 := u) [(oL 2 0, 1), (oC 43, 2)] (by decide +kernel) rfl rfl ?_
    refine g_callV (k := 171) (pc2 := 11) (st := []) (CX10_isSign 43 u) miX10_isSign mvX10_isSign rfl (by decide) lk9_171 wI_ok (by decide +kernel) rfl (Nat.le_of_ble_eq_true rfl) (by omega) rfl (fun q4 hq4 => ?_)
    refine g_zne (off := 12) (tgt := 23) (pc2 := 14) (by decide +kernel) (by decide) rfl ?_ ?_
    · exact tX10_sums_23 rX10_whole rX10_test rX10_sums rX10_products rX10_takePart hX10_whole hX10_test hX10_sums hX10_products hX10_takePart hdd (fX10_sums_5 rX10_whole rX10_test rX10_sums rX10_products rX10_takePart n) ih v1 q4.2
    · refine g_seg0 (pc' := 17) (L' := [some (vR (kO 9) 0), some (vI v1), none]) (st' := [vI 45, vR (kO 9) 0]) (u1 := q4.2) [(oL 2 0, 1), (oC 45, 2)] (by decide +kernel) rfl rfl ?_
      refine g_callV (k := 171) (pc2 := 20) (st := []) (CX10_isSign 45 q4.2) miX10_isSign mvX10_isSign rfl (by decide) lk9_171 wI_ok (by decide +kernel) rfl (Nat.le_of_ble_eq_true rfl) (by omega) rfl (fun q5 hq5 => ?_)
      refine g_zeq (off := 42) (tgt := 62) (pc2 := 23) (by decide +kernel) (by decide) rfl ?_ ?_
      · exact g_vret (by decide +kernel) rfl
      · exact tX10_sums_23 rX10_whole rX10_test rX10_sums rX10_products rX10_takePart hX10_whole hX10_test hX10_sums hX10_products hX10_takePart hdd (fX10_sums_5 rX10_whole rX10_test rX10_sums rX10_products rX10_takePart n) ih v1 q5.2
def fX10_sums (rX10_whole : Int32 → ab_S → Option (Unit × ab_S)) (rX10_test : Int32 → ab_S → Option (Unit × ab_S)) (rX10_sums : Int32 → ab_S → Option (Unit × ab_S)) (rX10_products : Int32 → ab_S → Option (Unit × ab_S)) (rX10_takePart : Int32 → ab_S → Option (Unit × ab_S)) (v1 : Int32) (u : ab_S) : Option (Unit × ab_S) :=
  (rX10_products v1 u).bind fun q6 =>
    fX10_sums_5 rX10_whole rX10_test rX10_sums rX10_products rX10_takePart fu v1 q6.2
theorem tX10_sums (rX10_whole : Int32 → ab_S → Option (Unit × ab_S)) (rX10_test : Int32 → ab_S → Option (Unit × ab_S)) (rX10_sums : Int32 → ab_S → Option (Unit × ab_S)) (rX10_products : Int32 → ab_S → Option (Unit × ab_S)) (rX10_takePart : Int32 → ab_S → Option (Unit × ab_S)) {dd : Nat} (hX10_whole : ∀ (v1 : Int32) (u : ab_S), ab_C 1 yX10_whole cX10_whole 3 none dd [vR (kO 9) 0, vI v1] u wV (rX10_whole v1 u)) (hX10_test : ∀ (v1 : Int32) (u : ab_S), ab_C 1 yX10_test cX10_test 3 none dd [vR (kO 9) 0, vI v1] u wV (rX10_test v1 u)) (hX10_sums : ∀ (v1 : Int32) (u : ab_S), ab_C 1 yX10_sums cX10_sums 3 none dd [vR (kO 9) 0, vI v1] u wV (rX10_sums v1 u)) (hX10_products : ∀ (v1 : Int32) (u : ab_S), ab_C 1 yX10_products cX10_products 2 none dd [vR (kO 9) 0, vI v1] u wV (rX10_products v1 u)) (hX10_takePart : ∀ (v1 : Int32) (u : ab_S), ab_C 1 yX10_takePart cX10_takePart 4 none dd [vR (kO 9) 0, vI v1] u wV (rX10_takePart v1 u)) (hdd : 0 ≤ dd) (v1 : Int32) (u : ab_S) : ab_G 1 9 cX10_sums none (dd + 1) 0 [some (vR (kO 9) 0), some (vI v1), none] [] u wV (fX10_sums rX10_whole rX10_test rX10_sums rX10_products rX10_takePart v1 u) := by
  rw [fX10_sums]
  refine g_seg0 (pc' := 2) (L' := [some (vR (kO 9) 0), some (vI v1), none]) (st' := [vI v1, vR (kO 9) 0]) (u1 := u) [(oL 2 0, 1), (oL 0 1, 1)] (by decide +kernel) rfl rfl ?_
  refine g_callV (k := 266) (pc2 := 5) (st := []) (hX10_products v1 u) miX10_products mvX10_products rfl (by decide) lk9_266 wV_ok (by decide +kernel) rfl (Nat.le_of_ble_eq_true rfl) (Nat.le_refl _) rfl (fun q6 hq6 => ?_)
  exact tX10_sums_5 rX10_whole rX10_test rX10_sums rX10_products rX10_takePart hX10_whole hX10_test hX10_sums hX10_products hX10_takePart hdd fu v1 q6.2
theorem CX10_sums (rX10_whole : Int32 → ab_S → Option (Unit × ab_S)) (rX10_test : Int32 → ab_S → Option (Unit × ab_S)) (rX10_sums : Int32 → ab_S → Option (Unit × ab_S)) (rX10_products : Int32 → ab_S → Option (Unit × ab_S)) (rX10_takePart : Int32 → ab_S → Option (Unit × ab_S)) {dd : Nat} (hX10_whole : ∀ (v1 : Int32) (u : ab_S), ab_C 1 yX10_whole cX10_whole 3 none dd [vR (kO 9) 0, vI v1] u wV (rX10_whole v1 u)) (hX10_test : ∀ (v1 : Int32) (u : ab_S), ab_C 1 yX10_test cX10_test 3 none dd [vR (kO 9) 0, vI v1] u wV (rX10_test v1 u)) (hX10_sums : ∀ (v1 : Int32) (u : ab_S), ab_C 1 yX10_sums cX10_sums 3 none dd [vR (kO 9) 0, vI v1] u wV (rX10_sums v1 u)) (hX10_products : ∀ (v1 : Int32) (u : ab_S), ab_C 1 yX10_products cX10_products 2 none dd [vR (kO 9) 0, vI v1] u wV (rX10_products v1 u)) (hX10_takePart : ∀ (v1 : Int32) (u : ab_S), ab_C 1 yX10_takePart cX10_takePart 4 none dd [vR (kO 9) 0, vI v1] u wV (rX10_takePart v1 u)) (hdd : 0 ≤ dd) (v1 : Int32) (u : ab_S) : ab_C 1 yX10_sums cX10_sums 3 none (dd + 1) [vR (kO 9) 0, vI v1] u wV (fX10_sums rX10_whole rX10_test rX10_sums rX10_products rX10_takePart v1 u) := ab_entry (by decide +kernel) rfl (by decide) (by decide) (fun _ => Nat.le_of_ble_eq_true rfl) rfl (tX10_sums rX10_whole rX10_test rX10_sums rX10_products rX10_takePart hX10_whole hX10_test hX10_sums hX10_products hX10_takePart hdd v1 u)
def fX10_products_5 (rX10_whole : Int32 → ab_S → Option (Unit × ab_S)) (rX10_test : Int32 → ab_S → Option (Unit × ab_S)) (rX10_sums : Int32 → ab_S → Option (Unit × ab_S)) (rX10_products : Int32 → ab_S → Option (Unit × ab_S)) (rX10_takePart : Int32 → ab_S → Option (Unit × ab_S)) : Nat → Int32 → ab_S → Option (Unit × ab_S)
  | 0, _, _ => none
  | n + 1, v1, u =>
  (fX10_hasSign 42 u).bind fun q1 =>
    bif decide (q1.1 = 0) then (
      some ((), q1.2))
    else (
      (rX10_takePart v1 q1.2).bind fun q2 =>
        (fX10_emit 6 0 q2.2).bind fun q3 =>
          (fX10_products_5 rX10_whole rX10_test rX10_sums rX10_products rX10_takePart n) v1 q3.2)
theorem tX10_products_5 (rX10_whole : Int32 → ab_S → Option (Unit × ab_S)) (rX10_test : Int32 → ab_S → Option (Unit × ab_S)) (rX10_sums : Int32 → ab_S → Option (Unit × ab_S)) (rX10_products : Int32 → ab_S → Option (Unit × ab_S)) (rX10_takePart : Int32 → ab_S → Option (Unit × ab_S)) {dd : Nat} (hX10_whole : ∀ (v1 : Int32) (u : ab_S), ab_C 1 yX10_whole cX10_whole 3 none dd [vR (kO 9) 0, vI v1] u wV (rX10_whole v1 u)) (hX10_test : ∀ (v1 : Int32) (u : ab_S), ab_C 1 yX10_test cX10_test 3 none dd [vR (kO 9) 0, vI v1] u wV (rX10_test v1 u)) (hX10_sums : ∀ (v1 : Int32) (u : ab_S), ab_C 1 yX10_sums cX10_sums 3 none dd [vR (kO 9) 0, vI v1] u wV (rX10_sums v1 u)) (hX10_products : ∀ (v1 : Int32) (u : ab_S), ab_C 1 yX10_products cX10_products 2 none dd [vR (kO 9) 0, vI v1] u wV (rX10_products v1 u)) (hX10_takePart : ∀ (v1 : Int32) (u : ab_S), ab_C 1 yX10_takePart cX10_takePart 4 none dd [vR (kO 9) 0, vI v1] u wV (rX10_takePart v1 u)) (hdd : 1 ≤ dd) : ∀ (n : Nat) (v1 : Int32) (u : ab_S), ab_G 1 9 cX10_products none (dd + 1) 5 [some (vR (kO 9) 0), some (vI v1)] [] u wV (fX10_products_5 rX10_whole rX10_test rX10_sums rX10_products rX10_takePart n v1 u) := by
  intro n
  induction n with
  | zero => intros; exact g_none
  | succ n ih =>
    intro v1 u
    rw [fX10_products_5]
    refine g_seg0 (pc' := 8) (L' := [some (vR (kO 9) 0), some (vI v1)]) (st' := [vI 42, vR (kO 9) 0]) (u1 := u) [(oL 2 0, 1), (oC 42, 2)] (by decide +kernel) rfl rfl ?_
    refine g_callV (k := 263) (pc2 := 11) (st := []) (CX10_hasSign 42 u) miX10_hasSign mvX10_hasSign rfl (by decide) lk9_263 wI_ok (by decide +kernel) rfl (Nat.le_of_ble_eq_true rfl) (by omega) rfl (fun q1 hq1 => ?_)
    refine g_zeq (off := 18) (tgt := 29) (pc2 := 14) (by decide +kernel) (by decide) rfl ?_ ?_
    · exact g_vret (by decide +kernel) rfl
    · refine g_seg0 (pc' := 16) (L' := [some (vR (kO 9) 0), some (vI v1)]) (st' := [vI v1, vR (kO 9) 0]) (u1 := q1.2) [(oL 2 0, 1), (oL 0 1, 1)] (by decide +kernel) rfl rfl ?_
      refine g_callV (k := 269) (pc2 := 19) (st := []) (hX10_takePart v1 q1.2) miX10_takePart mvX10_takePart rfl (by decide) lk9_269 wV_ok (by decide +kernel) rfl (Nat.le_of_ble_eq_true rfl) (Nat.le_refl _) rfl (fun q2 hq2 => ?_)
      refine g_seg0 (pc' := 23) (L' := [some (vR (kO 9) 0), some (vI v1)]) (st' := [vI 0, vI 6, vR (kO 9) 0]) (u1 := q2.2) [(oL 2 0, 1), (oC 6, 2), (oC 0, 1)] (by decide +kernel) rfl rfl ?_
      refine g_callV (k := 250) (pc2 := 26) (st := []) (CX10_emit 6 0 q2.2) miX10_emit mvX10_emit rfl (by decide) lk9_250 wV_ok (by decide +kernel) rfl (Nat.le_of_ble_eq_true rfl) (by omega) rfl (fun q3 hq3 => ?_)
      refine g_goto (off := (-21)) (tgt := 5) (by decide +kernel) (by decide) ?_
      exact ih v1 q3.2
def fX10_products (rX10_whole : Int32 → ab_S → Option (Unit × ab_S)) (rX10_test : Int32 → ab_S → Option (Unit × ab_S)) (rX10_sums : Int32 → ab_S → Option (Unit × ab_S)) (rX10_products : Int32 → ab_S → Option (Unit × ab_S)) (rX10_takePart : Int32 → ab_S → Option (Unit × ab_S)) (v1 : Int32) (u : ab_S) : Option (Unit × ab_S) :=
  (rX10_takePart v1 u).bind fun q4 =>
    fX10_products_5 rX10_whole rX10_test rX10_sums rX10_products rX10_takePart fu v1 q4.2
theorem tX10_products (rX10_whole : Int32 → ab_S → Option (Unit × ab_S)) (rX10_test : Int32 → ab_S → Option (Unit × ab_S)) (rX10_sums : Int32 → ab_S → Option (Unit × ab_S)) (rX10_products : Int32 → ab_S → Option (Unit × ab_S)) (rX10_takePart : Int32 → ab_S → Option (Unit × ab_S)) {dd : Nat} (hX10_whole : ∀ (v1 : Int32) (u : ab_S), ab_C 1 yX10_whole cX10_whole 3 none dd [vR (kO 9) 0, vI v1] u wV (rX10_whole v1 u)) (hX10_test : ∀ (v1 : Int32) (u : ab_S), ab_C 1 yX10_test cX10_test 3 none dd [vR (kO 9) 0, vI v1] u wV (rX10_test v1 u)) (hX10_sums : ∀ (v1 : Int32) (u : ab_S), ab_C 1 yX10_sums cX10_sums 3 none dd [vR (kO 9) 0, vI v1] u wV (rX10_sums v1 u)) (hX10_products : ∀ (v1 : Int32) (u : ab_S), ab_C 1 yX10_products cX10_products 2 none dd [vR (kO 9) 0, vI v1] u wV (rX10_products v1 u)) (hX10_takePart : ∀ (v1 : Int32) (u : ab_S), ab_C 1 yX10_takePart cX10_takePart 4 none dd [vR (kO 9) 0, vI v1] u wV (rX10_takePart v1 u)) (hdd : 1 ≤ dd) (v1 : Int32) (u : ab_S) : ab_G 1 9 cX10_products none (dd + 1) 0 [some (vR (kO 9) 0), some (vI v1)] [] u wV (fX10_products rX10_whole rX10_test rX10_sums rX10_products rX10_takePart v1 u) := by
  rw [fX10_products]
  refine g_seg0 (pc' := 2) (L' := [some (vR (kO 9) 0), some (vI v1)]) (st' := [vI v1, vR (kO 9) 0]) (u1 := u) [(oL 2 0, 1), (oL 0 1, 1)] (by decide +kernel) rfl rfl ?_
  refine g_callV (k := 269) (pc2 := 5) (st := []) (hX10_takePart v1 u) miX10_takePart mvX10_takePart rfl (by decide) lk9_269 wV_ok (by decide +kernel) rfl (Nat.le_of_ble_eq_true rfl) (Nat.le_refl _) rfl (fun q4 hq4 => ?_)
  exact tX10_products_5 rX10_whole rX10_test rX10_sums rX10_products rX10_takePart hX10_whole hX10_test hX10_sums hX10_products hX10_takePart hdd fu v1 q4.2
theorem CX10_products (rX10_whole : Int32 → ab_S → Option (Unit × ab_S)) (rX10_test : Int32 → ab_S → Option (Unit × ab_S)) (rX10_sums : Int32 → ab_S → Option (Unit × ab_S)) (rX10_products : Int32 → ab_S → Option (Unit × ab_S)) (rX10_takePart : Int32 → ab_S → Option (Unit × ab_S)) {dd : Nat} (hX10_whole : ∀ (v1 : Int32) (u : ab_S), ab_C 1 yX10_whole cX10_whole 3 none dd [vR (kO 9) 0, vI v1] u wV (rX10_whole v1 u)) (hX10_test : ∀ (v1 : Int32) (u : ab_S), ab_C 1 yX10_test cX10_test 3 none dd [vR (kO 9) 0, vI v1] u wV (rX10_test v1 u)) (hX10_sums : ∀ (v1 : Int32) (u : ab_S), ab_C 1 yX10_sums cX10_sums 3 none dd [vR (kO 9) 0, vI v1] u wV (rX10_sums v1 u)) (hX10_products : ∀ (v1 : Int32) (u : ab_S), ab_C 1 yX10_products cX10_products 2 none dd [vR (kO 9) 0, vI v1] u wV (rX10_products v1 u)) (hX10_takePart : ∀ (v1 : Int32) (u : ab_S), ab_C 1 yX10_takePart cX10_takePart 4 none dd [vR (kO 9) 0, vI v1] u wV (rX10_takePart v1 u)) (hdd : 1 ≤ dd) (v1 : Int32) (u : ab_S) : ab_C 1 yX10_products cX10_products 2 none (dd + 1) [vR (kO 9) 0, vI v1] u wV (fX10_products rX10_whole rX10_test rX10_sums rX10_products rX10_takePart v1 u) := ab_entry (by decide +kernel) rfl (by decide) (by decide) (fun _ => Nat.le_of_ble_eq_true rfl) rfl (tX10_products rX10_whole rX10_test rX10_sums rX10_products rX10_takePart hX10_whole hX10_test hX10_sums hX10_products hX10_takePart hdd v1 u)
def fX10_takePart_165 (rX10_whole : Int32 → ab_S → Option (Unit × ab_S)) (rX10_test : Int32 → ab_S → Option (Unit × ab_S)) (rX10_sums : Int32 → ab_S → Option (Unit × ab_S)) (rX10_products : Int32 → ab_S → Option (Unit × ab_S)) (rX10_takePart : Int32 → ab_S → Option (Unit × ab_S)) (s1 : Int32) (s2 : Int32) (u : ab_S) : Option (Unit × ab_S) :=
  (fX10_emit s1 s2 u).bind fun q1 =>
    some ((), (sI q1.2 0 7 ((q1.2.1 0 7) + 1)))
theorem tX10_takePart_165 (rX10_whole : Int32 → ab_S → Option (Unit × ab_S)) (rX10_test : Int32 → ab_S → Option (Unit × ab_S)) (rX10_sums : Int32 → ab_S → Option (Unit × ab_S)) (rX10_products : Int32 → ab_S → Option (Unit × ab_S)) (rX10_takePart : Int32 → ab_S → Option (Unit × ab_S)) {dd : Nat} (hX10_whole : ∀ (v1 : Int32) (u : ab_S), ab_C 1 yX10_whole cX10_whole 3 none dd [vR (kO 9) 0, vI v1] u wV (rX10_whole v1 u)) (hX10_test : ∀ (v1 : Int32) (u : ab_S), ab_C 1 yX10_test cX10_test 3 none dd [vR (kO 9) 0, vI v1] u wV (rX10_test v1 u)) (hX10_sums : ∀ (v1 : Int32) (u : ab_S), ab_C 1 yX10_sums cX10_sums 3 none dd [vR (kO 9) 0, vI v1] u wV (rX10_sums v1 u)) (hX10_products : ∀ (v1 : Int32) (u : ab_S), ab_C 1 yX10_products cX10_products 2 none dd [vR (kO 9) 0, vI v1] u wV (rX10_products v1 u)) (hX10_takePart : ∀ (v1 : Int32) (u : ab_S), ab_C 1 yX10_takePart cX10_takePart 4 none dd [vR (kO 9) 0, vI v1] u wV (rX10_takePart v1 u)) (hdd : 1 ≤ dd) (s1 : Int32) (s2 : Int32) (u : ab_S) : ab_G 1 9 cX10_takePart none (dd + 1) 165 [some (vR (kO 9) 0), none, none, none] [vI s2, vI s1, vR (kO 9) 0] u wV (fX10_takePart_165 rX10_whole rX10_test rX10_sums rX10_products rX10_takePart s1 s2 u) := by
  rw [fX10_takePart_165]
  refine g_callV (k := 250) (pc2 := 168) (st := []) (CX10_emit s1 s2 u) miX10_emit mvX10_emit rfl (by decide) lk9_250 wV_ok (by decide +kernel) rfl (Nat.le_of_ble_eq_true rfl) (by omega) rfl (fun q1 hq1 => ?_)
  refine g_seg0 (pc' := 178) (L' := [some (vR (kO 9) 0), none, none, none]) (st' := []) (u1 := (sI q1.2 0 7 ((q1.2.1 0 7) + 1))) [(oL 2 0, 1), (oP .dup, 1), (oP (.getfield 165), 3), (oC 1, 1), (oP .iadd, 1), (oP (.putfield 165), 3)] (by decide +kernel) rfl rfl ?_
  exact g_vret (by decide +kernel) rfl
def fX10_takePart_147 (rX10_whole : Int32 → ab_S → Option (Unit × ab_S)) (rX10_test : Int32 → ab_S → Option (Unit × ab_S)) (rX10_sums : Int32 → ab_S → Option (Unit × ab_S)) (rX10_products : Int32 → ab_S → Option (Unit × ab_S)) (rX10_takePart : Int32 → ab_S → Option (Unit × ab_S)) (v2 : Int32) (v3 : Int32) (s1 : Int32) (u : ab_S) : Option (Unit × ab_S) :=
  bif decide (v2 = 0) then (
    fX10_takePart_165 rX10_whole rX10_test rX10_sums rX10_products rX10_takePart s1 v3 u)
  else (
    ab_gd [ab_ix (u.1 0 7) 1002] (
      fX10_takePart_165 rX10_whole rX10_test rX10_sums rX10_products rX10_takePart s1 (Int64.toInt32 (u.2.1 4 (nc (u.1 0 7)))) u))
theorem tX10_takePart_147 (rX10_whole : Int32 → ab_S → Option (Unit × ab_S)) (rX10_test : Int32 → ab_S → Option (Unit × ab_S)) (rX10_sums : Int32 → ab_S → Option (Unit × ab_S)) (rX10_products : Int32 → ab_S → Option (Unit × ab_S)) (rX10_takePart : Int32 → ab_S → Option (Unit × ab_S)) {dd : Nat} (hX10_whole : ∀ (v1 : Int32) (u : ab_S), ab_C 1 yX10_whole cX10_whole 3 none dd [vR (kO 9) 0, vI v1] u wV (rX10_whole v1 u)) (hX10_test : ∀ (v1 : Int32) (u : ab_S), ab_C 1 yX10_test cX10_test 3 none dd [vR (kO 9) 0, vI v1] u wV (rX10_test v1 u)) (hX10_sums : ∀ (v1 : Int32) (u : ab_S), ab_C 1 yX10_sums cX10_sums 3 none dd [vR (kO 9) 0, vI v1] u wV (rX10_sums v1 u)) (hX10_products : ∀ (v1 : Int32) (u : ab_S), ab_C 1 yX10_products cX10_products 2 none dd [vR (kO 9) 0, vI v1] u wV (rX10_products v1 u)) (hX10_takePart : ∀ (v1 : Int32) (u : ab_S), ab_C 1 yX10_takePart cX10_takePart 4 none dd [vR (kO 9) 0, vI v1] u wV (rX10_takePart v1 u)) (hdd : 1 ≤ dd) (v2 : Int32) (v3 : Int32) (s1 : Int32) (u : ab_S) : ab_G 1 9 cX10_takePart none (dd + 1) 147 [some (vR (kO 9) 0), none, some (vI v2), some (vI v3)] [vI s1, vR (kO 9) 0] u wV (fX10_takePart_147 rX10_whole rX10_test rX10_sums rX10_products rX10_takePart v2 v3 s1 u) := by
  rw [fX10_takePart_147]
  refine g_seg0 (pc' := 148) (L' := [some (vR (kO 9) 0), none, some (vI v2), some (vI v3)]) (st' := [vI v2, vI s1, vR (kO 9) 0]) (u1 := u) [(oL 0 2, 1)] (by decide +kernel) rfl rfl ?_
  refine g_zeq (off := 16) (tgt := 164) (pc2 := 151) (by decide +kernel) (by decide) rfl ?_ ?_
  · refine g_seg0 (pc' := 165) (L' := [some (vR (kO 9) 0), none, some (vI v2), some (vI v3)]) (st' := [vI v3, vI s1, vR (kO 9) 0]) (u1 := u) [(oL 0 3, 1)] (by decide +kernel) rfl rfl ?_
    exact g_jump [true, false, false, false] rfl (tX10_takePart_165 rX10_whole rX10_test rX10_sums rX10_products rX10_takePart hX10_whole hX10_test hX10_sums hX10_products hX10_takePart hdd s1 v3 u)
  · refine g_seg (pc' := 161) (L' := [some (vR (kO 9) 0), none, some (vI v2), some (vI v3)]) (st' := [vI (Int64.toInt32 (u.2.1 4 (nc (u.1 0 7)))), vI s1, vR (kO 9) 0]) (u1 := u) [(oL 2 0, 1), (oP (.getfield 30), 3), (oL 2 0, 1), (oP (.getfield 165), 3), (oP .laload, 1), (oP .l2i, 1)] (by decide +kernel) rfl rfl ?_
    refine g_goto (off := 4) (tgt := 165) (by decide +kernel) (by decide) ?_
    exact g_jump [true, false, false, false] rfl (tX10_takePart_165 rX10_whole rX10_test rX10_sums rX10_products rX10_takePart hX10_whole hX10_test hX10_sums hX10_products hX10_takePart hdd s1 (Int64.toInt32 (u.2.1 4 (nc (u.1 0 7)))) u)
def fX10_takePart_79 (rX10_whole : Int32 → ab_S → Option (Unit × ab_S)) (rX10_test : Int32 → ab_S → Option (Unit × ab_S)) (rX10_sums : Int32 → ab_S → Option (Unit × ab_S)) (rX10_products : Int32 → ab_S → Option (Unit × ab_S)) (rX10_takePart : Int32 → ab_S → Option (Unit × ab_S)) (v1 : Int32) (v2 : Int32) (v3 : Int32) (u : ab_S) : Option (Unit × ab_S) :=
  bif decide ((u.1 0 8) ≤ 0) then (
    (fX10_hasWord 16 u).bind fun q2 =>
      bif decide (q2.1 = 0) then (
        (fX10_hasSign 40 q2.2).bind fun q3 =>
          bif decide (q3.1 = 0) then (
            bif decide (v2 = 0) then (
              fX10_takePart_147 rX10_whole rX10_test rX10_sums rX10_products rX10_takePart v2 v3 2 q3.2)
            else (
              fX10_takePart_147 rX10_whole rX10_test rX10_sums rX10_products rX10_takePart v2 v3 1 q3.2))
          else (
            (rX10_whole (v1 + 1) q3.2).bind fun q4 =>
              (fX10_takeSign 41 q4.2).bind fun q5 =>
                some ((), q5.2)))
      else (
        (rX10_takePart (v1 + 1) q2.2).bind fun q6 =>
          (fX10_emit 3 0 q6.2).bind fun q7 =>
            some ((), q7.2)))
  else (
    some ((), u))
theorem tX10_takePart_79 (rX10_whole : Int32 → ab_S → Option (Unit × ab_S)) (rX10_test : Int32 → ab_S → Option (Unit × ab_S)) (rX10_sums : Int32 → ab_S → Option (Unit × ab_S)) (rX10_products : Int32 → ab_S → Option (Unit × ab_S)) (rX10_takePart : Int32 → ab_S → Option (Unit × ab_S)) {dd : Nat} (hX10_whole : ∀ (v1 : Int32) (u : ab_S), ab_C 1 yX10_whole cX10_whole 3 none dd [vR (kO 9) 0, vI v1] u wV (rX10_whole v1 u)) (hX10_test : ∀ (v1 : Int32) (u : ab_S), ab_C 1 yX10_test cX10_test 3 none dd [vR (kO 9) 0, vI v1] u wV (rX10_test v1 u)) (hX10_sums : ∀ (v1 : Int32) (u : ab_S), ab_C 1 yX10_sums cX10_sums 3 none dd [vR (kO 9) 0, vI v1] u wV (rX10_sums v1 u)) (hX10_products : ∀ (v1 : Int32) (u : ab_S), ab_C 1 yX10_products cX10_products 2 none dd [vR (kO 9) 0, vI v1] u wV (rX10_products v1 u)) (hX10_takePart : ∀ (v1 : Int32) (u : ab_S), ab_C 1 yX10_takePart cX10_takePart 4 none dd [vR (kO 9) 0, vI v1] u wV (rX10_takePart v1 u)) (hdd : 1 ≤ dd) (v1 : Int32) (v2 : Int32) (v3 : Int32) (u : ab_S) : ab_G 1 9 cX10_takePart none (dd + 1) 79 [some (vR (kO 9) 0), some (vI v1), some (vI v2), some (vI v3)] [] u wV (fX10_takePart_79 rX10_whole rX10_test rX10_sums rX10_products rX10_takePart v1 v2 v3 u) := by
  rw [fX10_takePart_79]
  refine g_seg0 (pc' := 83) (L' := [some (vR (kO 9) 0), some (vI v1), some (vI v2), some (vI v3)]) (st' := [vI (u.1 0 8)]) (u1 := u) [(oL 2 0, 1), (oP (.getfield 168), 3)] (by decide +kernel) rfl rfl ?_
  refine g_zle (off := 4) (tgt := 87) (pc2 := 86) (by decide +kernel) (by decide) rfl ?_ ?_
  · refine g_seg0 (pc' := 90) (L' := [some (vR (kO 9) 0), some (vI v1), some (vI v2), some (vI v3)]) (st' := [vI 16, vR (kO 9) 0]) (u1 := u) [(oL 2 0, 1), (oC 16, 2)] (by decide +kernel) rfl rfl ?_
    refine g_callV (k := 180) (pc2 := 93) (st := []) (CX10_hasWord 16 u) miX10_hasWord mvX10_hasWord rfl (by decide) lk9_180 wI_ok (by decide +kernel) rfl (Nat.le_of_ble_eq_true rfl) (by omega) rfl (fun q2 hq2 => ?_)
    refine g_zeq (off := 19) (tgt := 112) (pc2 := 96) (by decide +kernel) (by decide) rfl ?_ ?_
    · refine g_seg0 (pc' := 115) (L' := [some (vR (kO 9) 0), some (vI v1), some (vI v2), some (vI v3)]) (st' := [vI 40, vR (kO 9) 0]) (u1 := q2.2) [(oL 2 0, 1), (oC 40, 2)] (by decide +kernel) rfl rfl ?_
      refine g_callV (k := 263) (pc2 := 118) (st := []) (CX10_hasSign 40 q2.2) miX10_hasSign mvX10_hasSign rfl (by decide) lk9_263 wI_ok (by decide +kernel) rfl (Nat.le_of_ble_eq_true rfl) (by omega) rfl (fun q3 hq3 => ?_)
      refine g_zeq (off := 19) (tgt := 137) (pc2 := 121) (by decide +kernel) (by decide) rfl ?_ ?_
      · refine g_seg0 (pc' := 139) (L' := [some (vR (kO 9) 0), some (vI v1), some (vI v2), some (vI v3)]) (st' := [vI v2, vR (kO 9) 0]) (u1 := q3.2) [(oL 2 0, 1), (oL 0 2, 1)] (by decide +kernel) rfl rfl ?_
        refine g_zeq (off := 7) (tgt := 146) (pc2 := 142) (by decide +kernel) (by decide) rfl ?_ ?_
        · refine g_seg0 (pc' := 147) (L' := [some (vR (kO 9) 0), some (vI v1), some (vI v2), some (vI v3)]) (st' := [vI 2, vR (kO 9) 0]) (u1 := q3.2) [(oC 2, 1)] (by decide +kernel) rfl rfl ?_
          exact g_jump [true, false, true, true] rfl (tX10_takePart_147 rX10_whole rX10_test rX10_sums rX10_products rX10_takePart hX10_whole hX10_test hX10_sums hX10_products hX10_takePart hdd v2 v3 2 q3.2)
        · refine g_seg0 (pc' := 143) (L' := [some (vR (kO 9) 0), some (vI v1), some (vI v2), some (vI v3)]) (st' := [vI 1, vR (kO 9) 0]) (u1 := q3.2) [(oC 1, 1)] (by decide +kernel) rfl rfl ?_
          refine g_goto (off := 4) (tgt := 147) (by decide +kernel) (by decide) ?_
          exact g_jump [true, false, true, true] rfl (tX10_takePart_147 rX10_whole rX10_test rX10_sums rX10_products rX10_takePart hX10_whole hX10_test hX10_sums hX10_products hX10_takePart hdd v2 v3 1 q3.2)
      · refine g_seg0 (pc' := 125) (L' := [some (vR (kO 9) 0), some (vI v1), some (vI v2), some (vI v3)]) (st' := [vI (v1 + 1), vR (kO 9) 0]) (u1 := q3.2) [(oL 2 0, 1), (oL 0 1, 1), (oC 1, 1), (oP .iadd, 1)] (by decide +kernel) rfl rfl ?_
        refine g_callV (k := 247) (pc2 := 128) (st := []) (hX10_whole (v1 + 1) q3.2) miX10_whole mvX10_whole rfl (by decide) lk9_247 wV_ok (by decide +kernel) rfl (Nat.le_of_ble_eq_true rfl) (Nat.le_refl _) rfl (fun q4 hq4 => ?_)
        refine g_seg0 (pc' := 131) (L' := [some (vR (kO 9) 0), some (vI v1), some (vI v2), some (vI v3)]) (st' := [vI 41, vR (kO 9) 0]) (u1 := q4.2) [(oL 2 0, 1), (oC 41, 2)] (by decide +kernel) rfl rfl ?_
        refine g_callV (k := 223) (pc2 := 134) (st := []) (CX10_takeSign 41 q4.2) miX10_takeSign mvX10_takeSign rfl (by decide) lk9_223 wV_ok (by decide +kernel) rfl (Nat.le_of_ble_eq_true rfl) (by omega) rfl (fun q5 hq5 => ?_)
        refine g_goto (off := 44) (tgt := 178) (by decide +kernel) (by decide) ?_
        exact g_vret (by decide +kernel) rfl
    · refine g_seg0 (pc' := 100) (L' := [some (vR (kO 9) 0), some (vI v1), some (vI v2), some (vI v3)]) (st' := [vI (v1 + 1), vR (kO 9) 0]) (u1 := q2.2) [(oL 2 0, 1), (oL 0 1, 1), (oC 1, 1), (oP .iadd, 1)] (by decide +kernel) rfl rfl ?_
      refine g_callV (k := 269) (pc2 := 103) (st := []) (hX10_takePart (v1 + 1) q2.2) miX10_takePart mvX10_takePart rfl (by decide) lk9_269 wV_ok (by decide +kernel) rfl (Nat.le_of_ble_eq_true rfl) (Nat.le_refl _) rfl (fun q6 hq6 => ?_)
      refine g_seg0 (pc' := 106) (L' := [some (vR (kO 9) 0), some (vI v1), some (vI v2), some (vI v3)]) (st' := [vI 0, vI 3, vR (kO 9) 0]) (u1 := q6.2) [(oL 2 0, 1), (oC 3, 1), (oC 0, 1)] (by decide +kernel) rfl rfl ?_
      refine g_callV (k := 250) (pc2 := 109) (st := []) (CX10_emit 3 0 q6.2) miX10_emit mvX10_emit rfl (by decide) lk9_250 wV_ok (by decide +kernel) rfl (Nat.le_of_ble_eq_true rfl) (by omega) rfl (fun q7 hq7 => ?_)
      refine g_goto (off := 69) (tgt := 178) (by decide +kernel) (by decide) ?_
      exact g_vret (by decide +kernel) rfl
  · exact g_vret (by decide +kernel) rfl
def fX10_takePart_69 (rX10_whole : Int32 → ab_S → Option (Unit × ab_S)) (rX10_test : Int32 → ab_S → Option (Unit × ab_S)) (rX10_sums : Int32 → ab_S → Option (Unit × ab_S)) (rX10_products : Int32 → ab_S → Option (Unit × ab_S)) (rX10_takePart : Int32 → ab_S → Option (Unit × ab_S)) (v1 : Int32) (v2 : Int32) (v3 : Int32) (u : ab_S) : Option (Unit × ab_S) :=
  bif decide (v1 = 5) then (
    (fX10_wrong 5 u).bind fun q8 =>
      fX10_takePart_79 rX10_whole rX10_test rX10_sums rX10_products rX10_takePart v1 v2 v3 q8.2)
  else (
    fX10_takePart_79 rX10_whole rX10_test rX10_sums rX10_products rX10_takePart v1 v2 v3 u)
theorem tX10_takePart_69 (rX10_whole : Int32 → ab_S → Option (Unit × ab_S)) (rX10_test : Int32 → ab_S → Option (Unit × ab_S)) (rX10_sums : Int32 → ab_S → Option (Unit × ab_S)) (rX10_products : Int32 → ab_S → Option (Unit × ab_S)) (rX10_takePart : Int32 → ab_S → Option (Unit × ab_S)) {dd : Nat} (hX10_whole : ∀ (v1 : Int32) (u : ab_S), ab_C 1 yX10_whole cX10_whole 3 none dd [vR (kO 9) 0, vI v1] u wV (rX10_whole v1 u)) (hX10_test : ∀ (v1 : Int32) (u : ab_S), ab_C 1 yX10_test cX10_test 3 none dd [vR (kO 9) 0, vI v1] u wV (rX10_test v1 u)) (hX10_sums : ∀ (v1 : Int32) (u : ab_S), ab_C 1 yX10_sums cX10_sums 3 none dd [vR (kO 9) 0, vI v1] u wV (rX10_sums v1 u)) (hX10_products : ∀ (v1 : Int32) (u : ab_S), ab_C 1 yX10_products cX10_products 2 none dd [vR (kO 9) 0, vI v1] u wV (rX10_products v1 u)) (hX10_takePart : ∀ (v1 : Int32) (u : ab_S), ab_C 1 yX10_takePart cX10_takePart 4 none dd [vR (kO 9) 0, vI v1] u wV (rX10_takePart v1 u)) (hdd : 1 ≤ dd) (v1 : Int32) (v2 : Int32) (v3 : Int32) (u : ab_S) : ab_G 1 9 cX10_takePart none (dd + 1) 69 [some (vR (kO 9) 0), some (vI v1), some (vI v2), some (vI v3)] [] u wV (fX10_takePart_69 rX10_whole rX10_test rX10_sums rX10_products rX10_takePart v1 v2 v3 u) := by
  rw [fX10_takePart_69]
  refine g_seg0 (pc' := 71) (L' := [some (vR (kO 9) 0), some (vI v1), some (vI v2), some (vI v3)]) (st' := [vI 5, vI v1]) (u1 := u) [(oL 0 1, 1), (oC 5, 1)] (by decide +kernel) rfl rfl ?_
  refine g_ine (off := 8) (tgt := 79) (pc2 := 74) (by decide +kernel) (by decide) rfl ?_ ?_
  · exact tX10_takePart_79 rX10_whole rX10_test rX10_sums rX10_products rX10_takePart hX10_whole hX10_test hX10_sums hX10_products hX10_takePart hdd v1 v2 v3 u
  · refine g_seg0 (pc' := 76) (L' := [some (vR (kO 9) 0), some (vI v1), some (vI v2), some (vI v3)]) (st' := [vI 5, vR (kO 9) 0]) (u1 := u) [(oL 2 0, 1), (oC 5, 1)] (by decide +kernel) rfl rfl ?_
    refine g_callV (k := 174) (pc2 := 79) (st := []) (CX10_wrong 5 u) miX10_wrong mvX10_wrong rfl (by decide) lk9_174 wV_ok (by decide +kernel) rfl (Nat.le_of_ble_eq_true rfl) (by omega) rfl (fun q8 hq8 => ?_)
    exact tX10_takePart_79 rX10_whole rX10_test rX10_sums rX10_products rX10_takePart hX10_whole hX10_test hX10_sums hX10_products hX10_takePart hdd v1 v2 v3 q8.2
def fX10_takePart_26 (rX10_whole : Int32 → ab_S → Option (Unit × ab_S)) (rX10_test : Int32 → ab_S → Option (Unit × ab_S)) (rX10_sums : Int32 → ab_S → Option (Unit × ab_S)) (rX10_products : Int32 → ab_S → Option (Unit × ab_S)) (rX10_takePart : Int32 → ab_S → Option (Unit × ab_S)) (v1 : Int32) (s0 : Int32) (u : ab_S) : Option (Unit × ab_S) :=
  (fX10_wordHere 19 4 u).bind fun q9 =>
    bif decide (q9.1 < 0) then (
      bif decide (s0 = 0) then (
        (fX10_isSign 40 q9.2).bind fun q10 =>
          bif decide (q10.1 = 0) then (
            (fX10_isWord 16 q10.2).bind fun q11 =>
              bif decide (q11.1 = 0) then (
                (fX10_wrong 1 q11.2).bind fun q12 =>
                  fX10_takePart_79 rX10_whole rX10_test rX10_sums rX10_products rX10_takePart v1 s0 q9.1 q12.2)
              else (
                fX10_takePart_69 rX10_whole rX10_test rX10_sums rX10_products rX10_takePart v1 s0 q9.1 q11.2))
          else (
            fX10_takePart_69 rX10_whole rX10_test rX10_sums rX10_products rX10_takePart v1 s0 q9.1 q10.2))
      else (
        fX10_takePart_69 rX10_whole rX10_test rX10_sums rX10_products rX10_takePart v1 s0 q9.1 q9.2))
    else (
      fX10_takePart_69 rX10_whole rX10_test rX10_sums rX10_products rX10_takePart v1 s0 q9.1 q9.2)
theorem tX10_takePart_26 (rX10_whole : Int32 → ab_S → Option (Unit × ab_S)) (rX10_test : Int32 → ab_S → Option (Unit × ab_S)) (rX10_sums : Int32 → ab_S → Option (Unit × ab_S)) (rX10_products : Int32 → ab_S → Option (Unit × ab_S)) (rX10_takePart : Int32 → ab_S → Option (Unit × ab_S)) {dd : Nat} (hX10_whole : ∀ (v1 : Int32) (u : ab_S), ab_C 1 yX10_whole cX10_whole 3 none dd [vR (kO 9) 0, vI v1] u wV (rX10_whole v1 u)) (hX10_test : ∀ (v1 : Int32) (u : ab_S), ab_C 1 yX10_test cX10_test 3 none dd [vR (kO 9) 0, vI v1] u wV (rX10_test v1 u)) (hX10_sums : ∀ (v1 : Int32) (u : ab_S), ab_C 1 yX10_sums cX10_sums 3 none dd [vR (kO 9) 0, vI v1] u wV (rX10_sums v1 u)) (hX10_products : ∀ (v1 : Int32) (u : ab_S), ab_C 1 yX10_products cX10_products 2 none dd [vR (kO 9) 0, vI v1] u wV (rX10_products v1 u)) (hX10_takePart : ∀ (v1 : Int32) (u : ab_S), ab_C 1 yX10_takePart cX10_takePart 4 none dd [vR (kO 9) 0, vI v1] u wV (rX10_takePart v1 u)) (hdd : 1 ≤ dd) (v1 : Int32) (s0 : Int32) (u : ab_S) : ab_G 1 9 cX10_takePart none (dd + 1) 26 [some (vR (kO 9) 0), some (vI v1), none, none] [vI s0] u wV (fX10_takePart_26 rX10_whole rX10_test rX10_sums rX10_products rX10_takePart v1 s0 u) := by
  rw [fX10_takePart_26]
  refine g_seg0 (pc' := 31) (L' := [some (vR (kO 9) 0), some (vI v1), some (vI s0), none]) (st' := [vI 4, vI 19, vR (kO 9) 0]) (u1 := u) [(oL 3 2, 1), (oL 2 0, 1), (oC 19, 2), (oC 4, 1)] (by decide +kernel) rfl rfl ?_
  refine g_callV (k := 190) (pc2 := 34) (st := []) (CX10_wordHere 19 4 u) miX10_wordHere mvX10_wordHere rfl (by decide) lk9_190 wI_ok (by decide +kernel) rfl (Nat.le_of_ble_eq_true rfl) (by omega) rfl (fun q9 hq9 => ?_)
  refine g_seg0 (pc' := 36) (L' := [some (vR (kO 9) 0), some (vI v1), some (vI s0), some (vI (q9.1))]) (st' := [vI (q9.1)]) (u1 := q9.2) [(oL 3 3, 1), (oL 0 3, 1)] (by decide +kernel) rfl rfl ?_
  refine g_zge (off := 33) (tgt := 69) (pc2 := 39) (by decide +kernel) (by decide) rfl ?_ ?_
  · exact tX10_takePart_69 rX10_whole rX10_test rX10_sums rX10_products rX10_takePart hX10_whole hX10_test hX10_sums hX10_products hX10_takePart hdd v1 s0 q9.1 q9.2
  · refine g_seg0 (pc' := 40) (L' := [some (vR (kO 9) 0), some (vI v1), some (vI s0), some (vI (q9.1))]) (st' := [vI s0]) (u1 := q9.2) [(oL 0 2, 1)] (by decide +kernel) rfl rfl ?_
    refine g_zne (off := 29) (tgt := 69) (pc2 := 43) (by decide +kernel) (by decide) rfl ?_ ?_
    · exact tX10_takePart_69 rX10_whole rX10_test rX10_sums rX10_products rX10_takePart hX10_whole hX10_test hX10_sums hX10_products hX10_takePart hdd v1 s0 q9.1 q9.2
    · refine g_seg0 (pc' := 46) (L' := [some (vR (kO 9) 0), some (vI v1), some (vI s0), some (vI (q9.1))]) (st' := [vI 40, vR (kO 9) 0]) (u1 := q9.2) [(oL 2 0, 1), (oC 40, 2)] (by decide +kernel) rfl rfl ?_
      refine g_callV (k := 171) (pc2 := 49) (st := []) (CX10_isSign 40 q9.2) miX10_isSign mvX10_isSign rfl (by decide) lk9_171 wI_ok (by decide +kernel) rfl (Nat.le_of_ble_eq_true rfl) (by omega) rfl (fun q10 hq10 => ?_)
      refine g_zne (off := 20) (tgt := 69) (pc2 := 52) (by decide +kernel) (by decide) rfl ?_ ?_
      · exact tX10_takePart_69 rX10_whole rX10_test rX10_sums rX10_products rX10_takePart hX10_whole hX10_test hX10_sums hX10_products hX10_takePart hdd v1 s0 q9.1 q10.2
      · refine g_seg0 (pc' := 55) (L' := [some (vR (kO 9) 0), some (vI v1), some (vI s0), some (vI (q9.1))]) (st' := [vI 16, vR (kO 9) 0]) (u1 := q10.2) [(oL 2 0, 1), (oC 16, 2)] (by decide +kernel) rfl rfl ?_
        refine g_callV (k := 177) (pc2 := 58) (st := []) (CX10_isWord 16 q10.2) miX10_isWord mvX10_isWord rfl (by decide) lk9_177 wI_ok (by decide +kernel) rfl (Nat.le_of_ble_eq_true rfl) (by omega) rfl (fun q11 hq11 => ?_)
        refine g_zne (off := 11) (tgt := 69) (pc2 := 61) (by decide +kernel) (by decide) rfl ?_ ?_
        · exact tX10_takePart_69 rX10_whole rX10_test rX10_sums rX10_products rX10_takePart hX10_whole hX10_test hX10_sums hX10_products hX10_takePart hdd v1 s0 q9.1 q11.2
        · refine g_seg0 (pc' := 63) (L' := [some (vR (kO 9) 0), some (vI v1), some (vI s0), some (vI (q9.1))]) (st' := [vI 1, vR (kO 9) 0]) (u1 := q11.2) [(oL 2 0, 1), (oC 1, 1)] (by decide +kernel) rfl rfl ?_
          refine g_callV (k := 174) (pc2 := 66) (st := []) (CX10_wrong 1 q11.2) miX10_wrong mvX10_wrong rfl (by decide) lk9_174 wV_ok (by decide +kernel) rfl (Nat.le_of_ble_eq_true rfl) (by omega) rfl (fun q12 hq12 => ?_)
          refine g_goto (off := 13) (tgt := 79) (by decide +kernel) (by decide) ?_
          exact tX10_takePart_79 rX10_whole rX10_test rX10_sums rX10_products rX10_takePart hX10_whole hX10_test hX10_sums hX10_products hX10_takePart hdd v1 s0 q9.1 q12.2
def fX10_takePart (rX10_whole : Int32 → ab_S → Option (Unit × ab_S)) (rX10_test : Int32 → ab_S → Option (Unit × ab_S)) (rX10_sums : Int32 → ab_S → Option (Unit × ab_S)) (rX10_products : Int32 → ab_S → Option (Unit × ab_S)) (rX10_takePart : Int32 → ab_S → Option (Unit × ab_S)) (v1 : Int32) (u : ab_S) : Option (Unit × ab_S) :=
  bif decide ((u.1 0 8) ≤ 0) then (
    ab_gd [ab_ix (u.1 0 7) 1002] (
      bif decide ((u.1 2 (nc (u.1 0 7))) = 2) then (
        fX10_takePart_26 rX10_whole rX10_test rX10_sums rX10_products rX10_takePart v1 1 u)
      else (
        fX10_takePart_26 rX10_whole rX10_test rX10_sums rX10_products rX10_takePart v1 0 u)))
  else (
    some ((), u))
theorem tX10_takePart (rX10_whole : Int32 → ab_S → Option (Unit × ab_S)) (rX10_test : Int32 → ab_S → Option (Unit × ab_S)) (rX10_sums : Int32 → ab_S → Option (Unit × ab_S)) (rX10_products : Int32 → ab_S → Option (Unit × ab_S)) (rX10_takePart : Int32 → ab_S → Option (Unit × ab_S)) {dd : Nat} (hX10_whole : ∀ (v1 : Int32) (u : ab_S), ab_C 1 yX10_whole cX10_whole 3 none dd [vR (kO 9) 0, vI v1] u wV (rX10_whole v1 u)) (hX10_test : ∀ (v1 : Int32) (u : ab_S), ab_C 1 yX10_test cX10_test 3 none dd [vR (kO 9) 0, vI v1] u wV (rX10_test v1 u)) (hX10_sums : ∀ (v1 : Int32) (u : ab_S), ab_C 1 yX10_sums cX10_sums 3 none dd [vR (kO 9) 0, vI v1] u wV (rX10_sums v1 u)) (hX10_products : ∀ (v1 : Int32) (u : ab_S), ab_C 1 yX10_products cX10_products 2 none dd [vR (kO 9) 0, vI v1] u wV (rX10_products v1 u)) (hX10_takePart : ∀ (v1 : Int32) (u : ab_S), ab_C 1 yX10_takePart cX10_takePart 4 none dd [vR (kO 9) 0, vI v1] u wV (rX10_takePart v1 u)) (hdd : 1 ≤ dd) (v1 : Int32) (u : ab_S) : ab_G 1 9 cX10_takePart none (dd + 1) 0 [some (vR (kO 9) 0), some (vI v1), none, none] [] u wV (fX10_takePart rX10_whole rX10_test rX10_sums rX10_products rX10_takePart v1 u) := by
  rw [fX10_takePart]
  refine g_seg0 (pc' := 4) (L' := [some (vR (kO 9) 0), some (vI v1), none, none]) (st' := [vI (u.1 0 8)]) (u1 := u) [(oL 2 0, 1), (oP (.getfield 168), 3)] (by decide +kernel) rfl rfl ?_
  refine g_zle (off := 4) (tgt := 8) (pc2 := 7) (by decide +kernel) (by decide) rfl ?_ ?_
  · refine g_seg (pc' := 18) (L' := [some (vR (kO 9) 0), some (vI v1), none, none]) (st' := [vI 2, vI (u.1 2 (nc (u.1 0 7)))]) (u1 := u) [(oL 2 0, 1), (oP (.getfield 24), 3), (oL 2 0, 1), (oP (.getfield 165), 3), (oP .iaload, 1), (oC 2, 1)] (by decide +kernel) rfl rfl ?_
    refine g_ine (off := 7) (tgt := 25) (pc2 := 21) (by decide +kernel) (by decide) rfl ?_ ?_
    · refine g_seg0 (pc' := 26) (L' := [some (vR (kO 9) 0), some (vI v1), none, none]) (st' := [vI 0]) (u1 := u) [(oC 0, 1)] (by decide +kernel) rfl rfl ?_
      exact tX10_takePart_26 rX10_whole rX10_test rX10_sums rX10_products rX10_takePart hX10_whole hX10_test hX10_sums hX10_products hX10_takePart hdd v1 0 u
    · refine g_seg0 (pc' := 22) (L' := [some (vR (kO 9) 0), some (vI v1), none, none]) (st' := [vI 1]) (u1 := u) [(oC 1, 1)] (by decide +kernel) rfl rfl ?_
      refine g_goto (off := 4) (tgt := 26) (by decide +kernel) (by decide) ?_
      exact tX10_takePart_26 rX10_whole rX10_test rX10_sums rX10_products rX10_takePart hX10_whole hX10_test hX10_sums hX10_products hX10_takePart hdd v1 1 u
  · exact g_vret (by decide +kernel) rfl
theorem CX10_takePart (rX10_whole : Int32 → ab_S → Option (Unit × ab_S)) (rX10_test : Int32 → ab_S → Option (Unit × ab_S)) (rX10_sums : Int32 → ab_S → Option (Unit × ab_S)) (rX10_products : Int32 → ab_S → Option (Unit × ab_S)) (rX10_takePart : Int32 → ab_S → Option (Unit × ab_S)) {dd : Nat} (hX10_whole : ∀ (v1 : Int32) (u : ab_S), ab_C 1 yX10_whole cX10_whole 3 none dd [vR (kO 9) 0, vI v1] u wV (rX10_whole v1 u)) (hX10_test : ∀ (v1 : Int32) (u : ab_S), ab_C 1 yX10_test cX10_test 3 none dd [vR (kO 9) 0, vI v1] u wV (rX10_test v1 u)) (hX10_sums : ∀ (v1 : Int32) (u : ab_S), ab_C 1 yX10_sums cX10_sums 3 none dd [vR (kO 9) 0, vI v1] u wV (rX10_sums v1 u)) (hX10_products : ∀ (v1 : Int32) (u : ab_S), ab_C 1 yX10_products cX10_products 2 none dd [vR (kO 9) 0, vI v1] u wV (rX10_products v1 u)) (hX10_takePart : ∀ (v1 : Int32) (u : ab_S), ab_C 1 yX10_takePart cX10_takePart 4 none dd [vR (kO 9) 0, vI v1] u wV (rX10_takePart v1 u)) (hdd : 1 ≤ dd) (v1 : Int32) (u : ab_S) : ab_C 1 yX10_takePart cX10_takePart 4 none (dd + 1) [vR (kO 9) 0, vI v1] u wV (fX10_takePart rX10_whole rX10_test rX10_sums rX10_products rX10_takePart v1 u) := ab_entry (by decide +kernel) rfl (by decide) (by decide) (fun _ => Nat.le_of_ble_eq_true rfl) rfl (tX10_takePart rX10_whole rX10_test rX10_sums rX10_products rX10_takePart hX10_whole hX10_test hX10_sums hX10_products hX10_takePart hdd v1 u)
def zX10_whole : Nat → (Int32 → ab_S → Option (Unit × ab_S)) × (Int32 → ab_S → Option (Unit × ab_S)) × (Int32 → ab_S → Option (Unit × ab_S)) × (Int32 → ab_S → Option (Unit × ab_S)) × (Int32 → ab_S → Option (Unit × ab_S))
  | 0 => (fun _ _ => none, fun _ _ => none, fun _ _ => none, fun _ _ => none, fun _ _ => none)
  | n + 1 => (fun v1 u => fX10_whole (zX10_whole n).1 (zX10_whole n).2.1 (zX10_whole n).2.2.1 (zX10_whole n).2.2.2.1 (zX10_whole n).2.2.2.2 v1 u, fun v1 u => fX10_test (zX10_whole n).1 (zX10_whole n).2.1 (zX10_whole n).2.2.1 (zX10_whole n).2.2.2.1 (zX10_whole n).2.2.2.2 v1 u, fun v1 u => fX10_sums (zX10_whole n).1 (zX10_whole n).2.1 (zX10_whole n).2.2.1 (zX10_whole n).2.2.2.1 (zX10_whole n).2.2.2.2 v1 u, fun v1 u => fX10_products (zX10_whole n).1 (zX10_whole n).2.1 (zX10_whole n).2.2.1 (zX10_whole n).2.2.2.1 (zX10_whole n).2.2.2.2 v1 u, fun v1 u => fX10_takePart (zX10_whole n).1 (zX10_whole n).2.1 (zX10_whole n).2.2.1 (zX10_whole n).2.2.2.1 (zX10_whole n).2.2.2.2 v1 u)
theorem zX10_whole_ok : ∀ n : Nat, (∀ (v1 : Int32) (u : ab_S), ab_C 1 yX10_whole cX10_whole 3 none (2 + n) [vR (kO 9) 0, vI v1] u wV ((zX10_whole n).1 v1 u)) ∧ (∀ (v1 : Int32) (u : ab_S), ab_C 1 yX10_test cX10_test 3 none (2 + n) [vR (kO 9) 0, vI v1] u wV ((zX10_whole n).2.1 v1 u)) ∧ (∀ (v1 : Int32) (u : ab_S), ab_C 1 yX10_sums cX10_sums 3 none (2 + n) [vR (kO 9) 0, vI v1] u wV ((zX10_whole n).2.2.1 v1 u)) ∧ (∀ (v1 : Int32) (u : ab_S), ab_C 1 yX10_products cX10_products 2 none (2 + n) [vR (kO 9) 0, vI v1] u wV ((zX10_whole n).2.2.2.1 v1 u)) ∧ (∀ (v1 : Int32) (u : ab_S), ab_C 1 yX10_takePart cX10_takePart 4 none (2 + n) [vR (kO 9) 0, vI v1] u wV ((zX10_whole n).2.2.2.2 v1 u))
  | 0 => ⟨fun _ _ _ _ h => (by cases h), fun _ _ _ _ h => (by cases h), fun _ _ _ _ h => (by cases h), fun _ _ _ _ h => (by cases h), fun _ _ _ _ h => (by cases h)⟩
  | n + 1 => by
    have ih := zX10_whole_ok n
    obtain ⟨h0, h1, h2, h3, h4⟩ := ih
    exact ⟨fun v1 u => CX10_whole _ _ _ _ _ h0 h1 h2 h3 h4 (by omega) v1 u, fun v1 u => CX10_test _ _ _ _ _ h0 h1 h2 h3 h4 (by omega) v1 u, fun v1 u => CX10_sums _ _ _ _ _ h0 h1 h2 h3 h4 (by omega) v1 u, fun v1 u => CX10_products _ _ _ _ _ h0 h1 h2 h3 h4 (by omega) v1 u, fun v1 u => CX10_takePart _ _ _ _ _ h0 h1 h2 h3 h4 (by omega) v1 u⟩
def wX10_whole (v1 : Int32) (u : ab_S) : Option (Unit × ab_S) := (zX10_whole 50).1 v1 u
theorem WX10_whole (v1 : Int32) (u : ab_S) : ab_C 1 yX10_whole cX10_whole 3 none 52 [vR (kO 9) 0, vI v1] u wV (wX10_whole v1 u) := (zX10_whole_ok 50).1 v1 u
def wX10_test (v1 : Int32) (u : ab_S) : Option (Unit × ab_S) := (zX10_whole 50).2.1 v1 u
theorem WX10_test (v1 : Int32) (u : ab_S) : ab_C 1 yX10_test cX10_test 3 none 52 [vR (kO 9) 0, vI v1] u wV (wX10_test v1 u) := (zX10_whole_ok 50).2.1 v1 u
def wX10_sums (v1 : Int32) (u : ab_S) : Option (Unit × ab_S) := (zX10_whole 50).2.2.1 v1 u
theorem WX10_sums (v1 : Int32) (u : ab_S) : ab_C 1 yX10_sums cX10_sums 3 none 52 [vR (kO 9) 0, vI v1] u wV (wX10_sums v1 u) := (zX10_whole_ok 50).2.2.1 v1 u
def wX10_products (v1 : Int32) (u : ab_S) : Option (Unit × ab_S) := (zX10_whole 50).2.2.2.1 v1 u
theorem WX10_products (v1 : Int32) (u : ab_S) : ab_C 1 yX10_products cX10_products 2 none 52 [vR (kO 9) 0, vI v1] u wV (wX10_products v1 u) := (zX10_whole_ok 50).2.2.2.1 v1 u
def wX10_takePart (v1 : Int32) (u : ab_S) : Option (Unit × ab_S) := (zX10_whole 50).2.2.2.2 v1 u
theorem WX10_takePart (v1 : Int32) (u : ab_S) : ab_C 1 yX10_takePart cX10_takePart 4 none 52 [vR (kO 9) 0, vI v1] u wV (wX10_takePart v1 u) := (zX10_whole_ok 50).2.2.2.2 v1 u
def fX10_readOnce_37 (v1 : Int32) (u : ab_S) : Option (Unit × ab_S) :=
  bif decide ((u.1 0 8) ≤ 0) then (
    bif decide (v1 = 0) then (
      (fX10_takeNumber 0 9999 (sI (sI u 0 20 ((u.1 0 20) ||| ((1 : Int32) <<< (v1 &&& 31)))) 0 7 (((sI u 0 20 ((u.1 0 20) ||| ((1 : Int32) <<< (v1 &&& 31)))).1 0 7) + 1))).bind fun q3 =>
        ab_gd [ab_ix 92 180] (
          some ((), (sI q3.2 6 (nc 92) q3.1))))
    else (
      ab_gd [ab_ix 93 180] (
        (wX10_whole 0 (sI (sI (sI u 0 20 ((u.1 0 20) ||| ((1 : Int32) <<< (v1 &&& 31)))) 0 7 (((sI u 0 20 ((u.1 0 20) ||| ((1 : Int32) <<< (v1 &&& 31)))).1 0 7) + 1)) 6 (nc 93) ((sI (sI u 0 20 ((u.1 0 20) ||| ((1 : Int32) <<< (v1 &&& 31)))) 0 7 (((sI u 0 20 ((u.1 0 20) ||| ((1 : Int32) <<< (v1 &&& 31)))).1 0 7) + 1)).1 0 13))).bind fun q1 =>
          (fX10_emit 0 0 q1.2).bind fun q2 =>
            some ((), q2.2))))
  else (
    some ((), u))
theorem tX10_readOnce_37 (v1 : Int32) (u : ab_S) : ab_G 1 9 cX10_readOnce none 53 37 [some (vR (kO 9) 0), some (vI v1)] [] u wV (fX10_readOnce_37 v1 u) := by
  rw [fX10_readOnce_37]
  refine g_seg0 (pc' := 41) (L' := [some (vR (kO 9) 0), some (vI v1)]) (st' := [vI (u.1 0 8)]) (u1 := u) [(oL 2 0, 1), (oP (.getfield 168), 3)] (by decide +kernel) rfl rfl ?_
  refine g_zle (off := 4) (tgt := 45) (pc2 := 44) (by decide +kernel) (by decide) rfl ?_ ?_
  · refine g_seg0 (pc' := 68) (L' := [some (vR (kO 9) 0), some (vI v1)]) (st' := [vI v1]) (u1 := (sI (sI u 0 20 ((u.1 0 20) ||| ((1 : Int32) <<< (v1 &&& 31)))) 0 7 (((sI u 0 20 ((u.1 0 20) ||| ((1 : Int32) <<< (v1 &&& 31)))).1 0 7) + 1))) [(oL 2 0, 1), (oP .dup, 1), (oP (.getfield 217), 3), (oC 1, 1), (oL 0 1, 1), (oP .ishl, 1), (oP .ior, 1), (oP (.putfield 217), 3), (oL 2 0, 1), (oP .dup, 1), (oP (.getfield 165), 3), (oC 1, 1), (oP .iadd, 1), (oP (.putfield 165), 3), (oL 0 1, 1)] (by decide +kernel) rfl rfl ?_
    refine g_zne (off := 21) (tgt := 89) (pc2 := 71) (by decide +kernel) (by decide) rfl ?_ ?_
    · refine g_seg (pc' := 102) (L' := [some (vR (kO 9) 0), some (vI v1)]) (st' := [vI 0, vR (kO 9) 0]) (u1 := (sI (sI (sI u 0 20 ((u.1 0 20) ||| ((1 : Int32) <<< (v1 &&& 31)))) 0 7 (((sI u 0 20 ((u.1 0 20) ||| ((1 : Int32) <<< (v1 &&& 31)))).1 0 7) + 1)) 6 (nc 93) ((sI (sI u 0 20 ((u.1 0 20) ||| ((1 : Int32) <<< (v1 &&& 31)))) 0 7 (((sI u 0 20 ((u.1 0 20) ||| ((1 : Int32) <<< (v1 &&& 31)))).1 0 7) + 1)).1 0 13))) [(oL 2 0, 1), (oP (.getfield 83), 3), (oC 93, 2), (oL 2 0, 1), (oP (.getfield 214), 3), (oP .iastore, 1), (oL 2 0, 1), (oC 0, 1)] (by decide +kernel) rfl rfl ?_
      refine g_callV (k := 247) (pc2 := 105) (st := []) (WX10_whole 0 (sI (sI (sI u 0 20 ((u.1 0 20) ||| ((1 : Int32) <<< (v1 &&& 31)))) 0 7 (((sI u 0 20 ((u.1 0 20) ||| ((1 : Int32) <<< (v1 &&& 31)))).1 0 7) + 1)) 6 (nc 93) ((sI (sI u 0 20 ((u.1 0 20) ||| ((1 : Int32) <<< (v1 &&& 31)))) 0 7 (((sI u 0 20 ((u.1 0 20) ||| ((1 : Int32) <<< (v1 &&& 31)))).1 0 7) + 1)).1 0 13))) miX10_whole mvX10_whole rfl (by decide) lk9_247 wV_ok (by decide +kernel) rfl (Nat.le_of_ble_eq_true rfl) (by decide) rfl (fun q1 hq1 => ?_)
      refine g_seg0 (pc' := 108) (L' := [some (vR (kO 9) 0), some (vI v1)]) (st' := [vI 0, vI 0, vR (kO 9) 0]) (u1 := q1.2) [(oL 2 0, 1), (oC 0, 1), (oC 0, 1)] (by decide +kernel) rfl rfl ?_
      refine g_callV (k := 250) (pc2 := 111) (st := []) (CX10_emit 0 0 q1.2) miX10_emit mvX10_emit rfl (by decide) lk9_250 wV_ok (by decide +kernel) rfl (Nat.le_of_ble_eq_true rfl) (by decide) rfl (fun q2 hq2 => ?_)
      exact g_vret (by decide +kernel) rfl
    · refine g_seg0 (pc' := 82) (L' := [some (vR (kO 9) 0), some (vI v1)]) (st' := [vI 9999, vI 0, vR (kO 9) 0, vI 92, vR (kA 0 180) 6]) (u1 := (sI (sI u 0 20 ((u.1 0 20) ||| ((1 : Int32) <<< (v1 &&& 31)))) 0 7 (((sI u 0 20 ((u.1 0 20) ||| ((1 : Int32) <<< (v1 &&& 31)))).1 0 7) + 1))) [(oL 2 0, 1), (oP (.getfield 83), 3), (oC 92, 2), (oL 2 0, 1), (oC 0, 1), (oC 9999, 3)] (by decide +kernel) rfl rfl ?_
      refine g_callV (k := 186) (pc2 := 85) (st := [vI 92, vR (kA 0 180) 6]) (CX10_takeNumber 0 9999 (sI (sI u 0 20 ((u.1 0 20) ||| ((1 : Int32) <<< (v1 &&& 31)))) 0 7 (((sI u 0 20 ((u.1 0 20) ||| ((1 : Int32) <<< (v1 &&& 31)))).1 0 7) + 1))) miX10_takeNumber mvX10_takeNumber rfl (by decide) lk9_186 wI_ok (by decide +kernel) rfl (Nat.le_of_ble_eq_true rfl) (by decide) rfl (fun q3 hq3 => ?_)
      refine g_seg (pc' := 86) (L' := [some (vR (kO 9) 0), some (vI v1)]) (st' := []) (u1 := (sI q3.2 6 (nc 92) q3.1)) [(oP .iastore, 1)] (by decide +kernel) rfl rfl ?_
      refine g_goto (off := 25) (tgt := 111) (by decide +kernel) (by decide) ?_
      exact g_vret (by decide +kernel) rfl
  · exact g_vret (by decide +kernel) rfl
def fX10_readOnce (u : ab_S) : Option (Unit × ab_S) :=
  (fX10_wordHere 6 2 u).bind fun q4 =>
    bif decide (q4.1 < 0) then (
      (fX10_wrong 1 q4.2).bind fun q6 =>
        fX10_readOnce_37 q4.1 q6.2)
    else (
      bif decide ((((q4.2.1 0 20) >>> (q4.1 &&& 31)) &&& 1) = 1) then (
        (fX10_wrong 3 q4.2).bind fun q5 =>
          fX10_readOnce_37 q4.1 q5.2)
      else (
        fX10_readOnce_37 q4.1 q4.2))
theorem tX10_readOnce (u : ab_S) : ab_G 1 9 cX10_readOnce none 53 0 [some (vR (kO 9) 0), none] [] u wV (fX10_readOnce u) := by
  rw [fX10_readOnce]
  refine g_seg0 (pc' := 4) (L' := [some (vR (kO 9) 0), none]) (st' := [vI 2, vI 6, vR (kO 9) 0]) (u1 := u) [(oL 2 0, 1), (oC 6, 2), (oC 2, 1)] (by decide +kernel) rfl rfl ?_
  refine g_callV (k := 190) (pc2 := 7) (st := []) (CX10_wordHere 6 2 u) miX10_wordHere mvX10_wordHere rfl (by decide) lk9_190 wI_ok (by decide +kernel) rfl (Nat.le_of_ble_eq_true rfl) (by decide) rfl (fun q4 hq4 => ?_)
  refine g_seg0 (pc' := 9) (L' := [some (vR (kO 9) 0), some (vI (q4.1))]) (st' := [vI (q4.1)]) (u1 := q4.2) [(oL 3 1, 1), (oL 0 1, 1)] (by decide +kernel) rfl rfl ?_
  refine g_zge (off := 11) (tgt := 20) (pc2 := 12) (by decide +kernel) (by decide) rfl ?_ ?_
  · refine g_seg0 (pc' := 29) (L' := [some (vR (kO 9) 0), some (vI (q4.1))]) (st' := [vI 1, vI (((q4.2.1 0 20) >>> (q4.1 &&& 31)) &&& 1)]) (u1 := q4.2) [(oL 2 0, 1), (oP (.getfield 217), 3), (oL 0 1, 1), (oP .ishr, 1), (oC 1, 1), (oP .iand, 1), (oC 1, 1)] (by decide +kernel) rfl rfl ?_
    refine g_ine (off := 8) (tgt := 37) (pc2 := 32) (by decide +kernel) (by decide) rfl ?_ ?_
    · exact tX10_readOnce_37 q4.1 q4.2
    · refine g_seg0 (pc' := 34) (L' := [some (vR (kO 9) 0), some (vI (q4.1))]) (st' := [vI 3, vR (kO 9) 0]) (u1 := q4.2) [(oL 2 0, 1), (oC 3, 1)] (by decide +kernel) rfl rfl ?_
      refine g_callV (k := 174) (pc2 := 37) (st := []) (CX10_wrong 3 q4.2) miX10_wrong mvX10_wrong rfl (by decide) lk9_174 wV_ok (by decide +kernel) rfl (Nat.le_of_ble_eq_true rfl) (by decide) rfl (fun q5 hq5 => ?_)
      exact tX10_readOnce_37 q4.1 q5.2
  · refine g_seg0 (pc' := 14) (L' := [some (vR (kO 9) 0), some (vI (q4.1))]) (st' := [vI 1, vR (kO 9) 0]) (u1 := q4.2) [(oL 2 0, 1), (oC 1, 1)] (by decide +kernel) rfl rfl ?_
    refine g_callV (k := 174) (pc2 := 17) (st := []) (CX10_wrong 1 q4.2) miX10_wrong mvX10_wrong rfl (by decide) lk9_174 wV_ok (by decide +kernel) rfl (Nat.le_of_ble_eq_true rfl) (by decide) rfl (fun q6 hq6 => ?_)
    refine g_goto (off := 20) (tgt := 37) (by decide +kernel) (by decide) ?_
    exact tX10_readOnce_37 q4.1 q6.2
theorem CX10_readOnce (u : ab_S) : ab_C 1 yX10_readOnce cX10_readOnce 2 none 53 [vR (kO 9) 0] u wV (fX10_readOnce u) := ab_entry (by decide +kernel) rfl (by decide) (by decide) (fun _ => Nat.le_of_ble_eq_true rfl) rfl (tX10_readOnce u)
def fX10_readLine (u : ab_S) : Option (Unit × ab_S) :=
  (fX10_isWord 0 u).bind fun q1 =>
    bif decide (q1.1 = 0) then (
      (fX10_isWord 2 q1.2).bind fun q2 =>
        bif decide (q2.1 = 0) then (
          (fX10_isWord 5 q2.2).bind fun q3 =>
            bif decide (q3.1 = 0) then (
              (fX10_readOnce q3.2).bind fun q4 =>
                some ((), q4.2))
            else (
              (fX10_readLike q3.2).bind fun q5 =>
                some ((), q5.2)))
        else (
          ab_gd [ab_ix 91 180] (
            (fX10_readName 1 8 20 q2.2).bind fun q6 =>
              (fX10_takeAfter 3 0 30 q6.2).bind fun q7 =>
                (fX10_takeWord 4 q7.2).bind fun q8 =>
                  (fX10_takeTold 1 0 0 q8.2).bind fun q9 =>
                    bif decide ((q9.2.1 0 8) = 0) then (
                      ab_gd [ab_ix (106 + (2 * (q2.2.1 6 (nc 91)))) 180, ab_ix ((106 + (2 * (q2.2.1 6 (nc 91)))) + 1) 180] (
                        some ((), (sI (sI q9.2 6 (nc (106 + (2 * (q2.2.1 6 (nc 91))))) q7.1) 6 (nc ((106 + (2 * (q2.2.1 6 (nc 91)))) + 1)) q9.1))))
                    else (
                      some ((), q9.2)))))
    else (
      ab_gd [ab_ix 90 180] (
        (fX10_readName 0 6 0 q1.2).bind fun q10 =>
          (fX10_takeOne 12 4 q10.2).bind fun q11 =>
            (fX10_takeAfter 1 0 50 q11.2).bind fun q12 =>
              bif decide ((q12.2.1 0 8) = 0) then (
                ab_gd [ab_ix (94 + (2 * (q1.2.1 6 (nc 90)))) 180, ab_ix ((94 + (2 * (q1.2.1 6 (nc 90)))) + 1) 180] (
                  some ((), (sI (sI q12.2 6 (nc (94 + (2 * (q1.2.1 6 (nc 90))))) q11.1) 6 (nc ((94 + (2 * (q1.2.1 6 (nc 90)))) + 1)) q12.1))))
              else (
                some ((), q12.2))))
theorem tX10_readLine (u : ab_S) : ab_G 1 9 cX10_readLine none 54 0 [some (vR (kO 9) 0), none, none, none] [] u wV (fX10_readLine u) := by
  rw [fX10_readLine]
  refine g_seg0 (pc' := 2) (L' := [some (vR (kO 9) 0), none, none, none]) (st' := [vI 0, vR (kO 9) 0]) (u1 := u) [(oL 2 0, 1), (oC 0, 1)] (by decide +kernel) rfl rfl ?_
  refine g_callV (k := 177) (pc2 := 5) (st := []) (CX10_isWord 0 u) miX10_isWord mvX10_isWord rfl (by decide) lk9_177 wI_ok (by decide +kernel) rfl (Nat.le_of_ble_eq_true rfl) (by decide) rfl (fun q1 hq1 => ?_)
  refine g_zeq (off := 67) (tgt := 72) (pc2 := 8) (by decide +kernel) (by decide) rfl ?_ ?_
  · refine g_seg0 (pc' := 74) (L' := [some (vR (kO 9) 0), none, none, none]) (st' := [vI 2, vR (kO 9) 0]) (u1 := q1.2) [(oL 2 0, 1), (oC 2, 1)] (by decide +kernel) rfl rfl ?_
    refine g_callV (k := 177) (pc2 := 77) (st := []) (CX10_isWord 2 q1.2) miX10_isWord mvX10_isWord rfl (by decide) lk9_177 wI_ok (by decide +kernel) rfl (Nat.le_of_ble_eq_true rfl) (by decide) rfl (fun q2 hq2 => ?_)
    refine g_zeq (off := 73) (tgt := 150) (pc2 := 80) (by decide +kernel) (by decide) rfl ?_ ?_
    · refine g_seg0 (pc' := 152) (L' := [some (vR (kO 9) 0), none, none, none]) (st' := [vI 5, vR (kO 9) 0]) (u1 := q2.2) [(oL 2 0, 1), (oC 5, 1)] (by decide +kernel) rfl rfl ?_
      refine g_callV (k := 177) (pc2 := 155) (st := []) (CX10_isWord 5 q2.2) miX10_isWord mvX10_isWord rfl (by decide) lk9_177 wI_ok (by decide +kernel) rfl (Nat.le_of_ble_eq_true rfl) (by decide) rfl (fun q3 hq3 => ?_)
      refine g_zeq (off := 10) (tgt := 165) (pc2 := 158) (by decide +kernel) (by decide) rfl ?_ ?_
      · refine g_seg0 (pc' := 166) (L' := [some (vR (kO 9) 0), none, none, none]) (st' := [vR (kO 9) 0]) (u1 := q3.2) [(oL 2 0, 1)] (by decide +kernel) rfl rfl ?_
        refine g_callV (k := 244) (pc2 := 169) (st := []) (CX10_readOnce q3.2) miX10_readOnce mvX10_readOnce rfl (by decide) lk9_244 wV_ok (by decide +kernel) rfl (Nat.le_of_ble_eq_true rfl) (by decide) rfl (fun q4 hq4 => ?_)
        exact g_vret (by decide +kernel) rfl
      · refine g_seg0 (pc' := 159) (L' := [some (vR (kO 9) 0), none, none, none]) (st' := [vR (kO 9) 0]) (u1 := q3.2) [(oL 2 0, 1)] (by decide +kernel) rfl rfl ?_
        refine g_callV (k := 241) (pc2 := 162) (st := []) (CX10_readLike q3.2) miX10_readLike mvX10_readLike rfl (by decide) lk9_241 wV_ok (by decide +kernel) rfl (Nat.le_of_ble_eq_true rfl) (by decide) rfl (fun q5 hq5 => ?_)
        refine g_goto (off := 7) (tgt := 169) (by decide +kernel) (by decide) ?_
        exact g_vret (by decide +kernel) rfl
    · refine g_seg (pc' := 99) (L' := [some (vR (kO 9) 0), some (vI (106 + (2 * (q2.2.1 6 (nc 91))))), none, none]) (st' := [vI 20, vI 8, vI 1, vR (kO 9) 0]) (u1 := q2.2) [(oC 106, 2), (oC 2, 1), (oL 2 0, 1), (oP (.getfield 83), 3), (oC 91, 2), (oP .iaload, 1), (oP .imul, 1), (oP .iadd, 1), (oL 3 1, 1), (oL 2 0, 1), (oC 1, 1), (oC 8, 2), (oC 20, 2)] (by decide +kernel) rfl rfl ?_
      refine g_callV (k := 226) (pc2 := 102) (st := []) (CX10_readName 1 8 20 q2.2) miX10_readName mvX10_readName rfl (by decide) lk9_226 wV_ok (by decide +kernel) rfl (Nat.le_of_ble_eq_true rfl) (by decide) rfl (fun q6 hq6 => ?_)
      refine g_seg0 (pc' := 107) (L' := [some (vR (kO 9) 0), some (vI (106 + (2 * (q2.2.1 6 (nc 91))))), none, none]) (st' := [vI 30, vI 0, vI 3, vR (kO 9) 0]) (u1 := q6.2) [(oL 2 0, 1), (oC 3, 1), (oC 0, 1), (oC 30, 2)] (by decide +kernel) rfl rfl ?_
      refine g_callV (k := 233) (pc2 := 110) (st := []) (CX10_takeAfter 3 0 30 q6.2) miX10_takeAfter mvX10_takeAfter rfl (by decide) lk9_233 wI_ok (by decide +kernel) rfl (Nat.le_of_ble_eq_true rfl) (by decide) rfl (fun q7 hq7 => ?_)
      refine g_seg0 (pc' := 113) (L' := [some (vR (kO 9) 0), some (vI (106 + (2 * (q2.2.1 6 (nc 91))))), some (vI (q7.1)), none]) (st' := [vI 4, vR (kO 9) 0]) (u1 := q7.2) [(oL 3 2, 1), (oL 2 0, 1), (oC 4, 1)] (by decide +kernel) rfl rfl ?_
      refine g_callV (k := 183) (pc2 := 116) (st := []) (CX10_takeWord 4 q7.2) miX10_takeWord mvX10_takeWord rfl (by decide) lk9_183 wV_ok (by decide +kernel) rfl (Nat.le_of_ble_eq_true rfl) (by decide) rfl (fun q8 hq8 => ?_)
      refine g_seg0 (pc' := 120) (L' := [some (vR (kO 9) 0), some (vI (106 + (2 * (q2.2.1 6 (nc 91))))), some (vI (q7.1)), none]) (st' := [vI 0, vI 0, vI 1, vR (kO 9) 0]) (u1 := q8.2) [(oL 2 0, 1), (oC 1, 1), (oC 0, 1), (oC 0, 1)] (by decide +kernel) rfl rfl ?_
      refine g_callV (k := 237) (pc2 := 123) (st := []) (CX10_takeTold 1 0 0 q8.2) miX10_takeTold mvX10_takeTold rfl (by decide) lk9_237 wI_ok (by decide +kernel) rfl (Nat.le_of_ble_eq_true rfl) (by decide) rfl (fun q9 hq9 => ?_)
      refine g_seg0 (pc' := 128) (L' := [some (vR (kO 9) 0), some (vI (106 + (2 * (q2.2.1 6 (nc 91))))), some (vI (q7.1)), some (vI (q9.1))]) (st' := [vI (q9.2.1 0 8)]) (u1 := q9.2) [(oL 3 3, 1), (oL 2 0, 1), (oP (.getfield 168), 3)] (by decide +kernel) rfl rfl ?_
      refine g_zne (off := 19) (tgt := 147) (pc2 := 131) (by decide +kernel) (by decide) rfl ?_ ?_
      · refine g_goto (off := 22) (tgt := 169) (by decide +kernel) (by decide) ?_
        exact g_vret (by decide +kernel) rfl
      · refine g_seg (pc' := 147) (L' := [some (vR (kO 9) 0), some (vI (106 + (2 * (q2.2.1 6 (nc 91))))), some (vI (q7.1)), some (vI (q9.1))]) (st' := []) (u1 := (sI (sI q9.2 6 (nc (106 + (2 * (q2.2.1 6 (nc 91))))) q7.1) 6 (nc ((106 + (2 * (q2.2.1 6 (nc 91)))) + 1)) q9.1)) [(oL 2 0, 1), (oP (.getfield 83), 3), (oL 0 1, 1), (oL 0 2, 1), (oP .iastore, 1), (oL 2 0, 1), (oP (.getfield 83), 3), (oL 0 1, 1), (oC 1, 1), (oP .iadd, 1), (oL 0 3, 1), (oP .iastore, 1)] (by decide +kernel) rfl rfl ?_
        refine g_goto (off := 22) (tgt := 169) (by decide +kernel) (by decide) ?_
        exact g_vret (by decide +kernel) rfl
  · refine g_seg (pc' := 26) (L' := [some (vR (kO 9) 0), some (vI (94 + (2 * (q1.2.1 6 (nc 90))))), none, none]) (st' := [vI 0, vI 6, vI 0, vR (kO 9) 0]) (u1 := q1.2) [(oC 94, 2), (oC 2, 1), (oL 2 0, 1), (oP (.getfield 83), 3), (oC 90, 2), (oP .iaload, 1), (oP .imul, 1), (oP .iadd, 1), (oL 3 1, 1), (oL 2 0, 1), (oC 0, 1), (oC 6, 2), (oC 0, 1)] (by decide +kernel) rfl rfl ?_
    refine g_callV (k := 226) (pc2 := 29) (st := []) (CX10_readName 0 6 0 q1.2) miX10_readName mvX10_readName rfl (by decide) lk9_226 wV_ok (by decide +kernel) rfl (Nat.le_of_ble_eq_true rfl) (by decide) rfl (fun q10 hq10 => ?_)
    refine g_seg0 (pc' := 33) (L' := [some (vR (kO 9) 0), some (vI (94 + (2 * (q1.2.1 6 (nc 90))))), none, none]) (st' := [vI 4, vI 12, vR (kO 9) 0]) (u1 := q10.2) [(oL 2 0, 1), (oC 12, 2), (oC 4, 1)] (by decide +kernel) rfl rfl ?_
    refine g_callV (k := 230) (pc2 := 36) (st := []) (CX10_takeOne 12 4 q10.2) miX10_takeOne mvX10_takeOne rfl (by decide) lk9_230 wI_ok (by decide +kernel) rfl (Nat.le_of_ble_eq_true rfl) (by decide) rfl (fun q11 hq11 => ?_)
    refine g_seg0 (pc' := 42) (L' := [some (vR (kO 9) 0), some (vI (94 + (2 * (q1.2.1 6 (nc 90))))), some (vI (q11.1)), none]) (st' := [vI 50, vI 0, vI 1, vR (kO 9) 0]) (u1 := q11.2) [(oL 3 2, 1), (oL 2 0, 1), (oC 1, 1), (oC 0, 1), (oC 50, 2)] (by decide +kernel) rfl rfl ?_
    refine g_callV (k := 233) (pc2 := 45) (st := []) (CX10_takeAfter 1 0 50 q11.2) miX10_takeAfter mvX10_takeAfter rfl (by decide) lk9_233 wI_ok (by decide +kernel) rfl (Nat.le_of_ble_eq_true rfl) (by decide) rfl (fun q12 hq12 => ?_)
    refine g_seg0 (pc' := 50) (L' := [some (vR (kO 9) 0), some (vI (94 + (2 * (q1.2.1 6 (nc 90))))), some (vI (q11.1)), some (vI (q12.1))]) (st' := [vI (q12.2.1 0 8)]) (u1 := q12.2) [(oL 3 3, 1), (oL 2 0, 1), (oP (.getfield 168), 3)] (by decide +kernel) rfl rfl ?_
    refine g_zne (off := 19) (tgt := 69) (pc2 := 53) (by decide +kernel) (by decide) rfl ?_ ?_
    · refine g_goto (off := 100) (tgt := 169) (by decide +kernel) (by decide) ?_
      exact g_vret (by decide +kernel) rfl
    · refine g_seg (pc' := 69) (L' := [some (vR (kO 9) 0), some (vI (94 + (2 * (q1.2.1 6 (nc 90))))), some (vI (q11.1)), some (vI (q12.1))]) (st' := []) (u1 := (sI (sI q12.2 6 (nc (94 + (2 * (q1.2.1 6 (nc 90))))) q11.1) 6 (nc ((94 + (2 * (q1.2.1 6 (nc 90)))) + 1)) q12.1)) [(oL 2 0, 1), (oP (.getfield 83), 3), (oL 0 1, 1), (oL 0 2, 1), (oP .iastore, 1), (oL 2 0, 1), (oP (.getfield 83), 3), (oL 0 1, 1), (oC 1, 1), (oP .iadd, 1), (oL 0 3, 1), (oP .iastore, 1)] (by decide +kernel) rfl rfl ?_
      refine g_goto (off := 100) (tgt := 169) (by decide +kernel) (by decide) ?_
      exact g_vret (by decide +kernel) rfl
theorem CX10_readLine (u : ab_S) : ab_C 1 yX10_readLine cX10_readLine 4 none 54 [vR (kO 9) 0] u wV (fX10_readLine u) := ab_entry (by decide +kernel) rfl (by decide) (by decide) (fun _ => Nat.le_of_ble_eq_true rfl) rfl (tX10_readLine u)
def fX10_persons (u : ab_S) : Option (Int32 × ab_S) :=
  ab_gd [ab_ix 0 180] (
    some ((u.1 6 (nc 0)), u))
theorem tX10_persons (u : ab_S) : ab_G 1 9 cX10_persons (some .int) 0 0 [some (vR (kO 9) 0)] [] u wI (fX10_persons u) := by
  rw [fX10_persons]
  refine g_seg (pc' := 6) (L' := [some (vR (kO 9) 0)]) (st' := [vI (u.1 6 (nc 0))]) (u1 := u) [(oL 2 0, 1), (oP (.getfield 83), 3), (oC 0, 1), (oP .iaload, 1)] (by decide +kernel) rfl rfl ?_
  exact g_iret (by decide +kernel) rfl
theorem CX10_persons (u : ab_S) : ab_C 1 yX10_persons cX10_persons 1 (some .int) 0 [vR (kO 9) 0] u wI (fX10_persons u) := ab_entry (by decide +kernel) rfl (by decide) (by decide) (fun _ => Nat.le_of_ble_eq_true rfl) rfl (tX10_persons u)
def fX10_personOf (v1 : Int32) (v2 : Int32) (u : ab_S) : Option (Int32 × ab_S) :=
  ab_gd [ab_ix ((4 + (2 * v1)) + v2) 180] (
    some ((u.1 6 (nc ((4 + (2 * v1)) + v2))), u))
theorem tX10_personOf (v1 : Int32) (v2 : Int32) (u : ab_S) : ab_G 1 9 cX10_personOf (some .int) 0 0 [some (vR (kO 9) 0), some (vI v1), some (vI v2)] [] u wI (fX10_personOf v1 v2 u) := by
  rw [fX10_personOf]
  refine g_seg (pc' := 12) (L' := [some (vR (kO 9) 0), some (vI v1), some (vI v2)]) (st' := [vI (u.1 6 (nc ((4 + (2 * v1)) + v2)))]) (u1 := u) [(oL 2 0, 1), (oP (.getfield 83), 3), (oC 4, 1), (oC 2, 1), (oL 0 1, 1), (oP .imul, 1), (oP .iadd, 1), (oL 0 2, 1), (oP .iadd, 1), (oP .iaload, 1)] (by decide +kernel) rfl rfl ?_
  exact g_iret (by decide +kernel) rfl
theorem CX10_personOf (v1 : Int32) (v2 : Int32) (u : ab_S) : ab_C 1 yX10_personOf cX10_personOf 3 (some .int) 0 [vR (kO 9) 0, vI v1, vI v2] u wI (fX10_personOf v1 v2 u) := ab_entry (by decide +kernel) rfl (by decide) (by decide) (fun _ => Nat.le_of_ble_eq_true rfl) rfl (tX10_personOf v1 v2 u)
def fX10_starts_64 : Nat → Int32 → Int32 → ab_S → Option (Unit × ab_S)
  | 0, _, _, _ => none
  | n + 1, v1, v2, u =>
  (fX10_persons u).bind fun q1 =>
    bif decide (v2 < q1.1) then (
      (fX10_personOf v2 1 q1.2).bind fun q2 =>
        ab_gd [ab_ix ((v1 + 10) + v2) 1081] (
          (fX10_starts_64 n) v1 (v2 + 1) (sI q2.2 16 (nc ((v1 + 10) + v2)) q2.1)))
    else (
      some ((), q1.2))
theorem tX10_starts_64 : ∀ (n : Nat) (v1 : Int32) (v2 : Int32) (u : ab_S), ab_G 1 9 cX10_starts none 1 64 [some (vR (kO 9) 0), some (vI v1), some (vI v2)] [] u wV (fX10_starts_64 n v1 v2 u) := by
  intro n
  induction n with
  | zero => intros; exact g_none
  | succ n ih =>
    intro v1 v2 u
    rw [fX10_starts_64]
    refine g_seg0 (pc' := 66) (L' := [some (vR (kO 9) 0), some (vI v1), some (vI v2)]) (st' := [vR (kO 9) 0, vI v2]) (u1 := u) [(oL 0 2, 1), (oL 2 0, 1)] (by decide +kernel) rfl rfl ?_
    refine g_callV (k := 275) (pc2 := 69) (st := [vI v2]) (CX10_persons u) miX10_persons mvX10_persons rfl (by decide) lk9_275 wI_ok (by decide +kernel) rfl (Nat.le_of_ble_eq_true rfl) (by decide) rfl (fun q1 hq1 => ?_)
    refine g_ige (off := 26) (tgt := 95) (pc2 := 72) (by decide +kernel) (by decide) rfl ?_ ?_
    · exact g_vret (by decide +kernel) rfl
    · refine g_seg0 (pc' := 85) (L' := [some (vR (kO 9) 0), some (vI v1), some (vI v2)]) (st' := [vI 1, vI v2, vR (kO 9) 0, vI ((v1 + 10) + v2), vR (kA 0 1081) 16]) (u1 := q1.2) [(oL 2 0, 1), (oP (.getfield 113), 3), (oL 0 1, 1), (oC 10, 2), (oP .iadd, 1), (oL 0 2, 1), (oP .iadd, 1), (oL 2 0, 1), (oL 0 2, 1), (oC 1, 1)] (by decide +kernel) rfl rfl ?_
      refine g_callV (k := 279) (pc2 := 88) (st := [vI ((v1 + 10) + v2), vR (kA 0 1081) 16]) (CX10_personOf v2 1 q1.2) miX10_personOf mvX10_personOf rfl (by decide) lk9_279 wI_ok (by decide +kernel) rfl (Nat.le_of_ble_eq_true rfl) (by decide) rfl (fun q2 hq2 => ?_)
      refine g_seg (pc' := 92) (L' := [some (vR (kO 9) 0), some (vI v1), some (vI (v2 + 1))]) (st' := []) (u1 := (sI q2.2 16 (nc ((v1 + 10) + v2)) q2.1)) [(oP .iastore, 1), (oN 2 1, 3)] (by decide +kernel) rfl rfl ?_
      refine g_goto (off := (-28)) (tgt := 64) (by decide +kernel) (by decide) ?_
      exact ih v1 (v2 + 1) (sI q2.2 16 (nc ((v1 + 10) + v2)) q2.1)
def fX10_starts_39 : Nat → Int32 → Int32 → ab_S → Option (Unit × ab_S)
  | 0, _, _, _ => none
  | n + 1, v1, v2, u =>
  bif decide (v2 < 8) then (
    ab_gd [ab_ix ((v1 + 2) + v2) 1081] (
      (fX10_starts_39 n) v1 (v2 + 1) (sI u 16 (nc ((v1 + 2) + v2)) (-1))))
  else (
    fX10_starts_64 fu v1 0 u)
theorem tX10_starts_39 : ∀ (n : Nat) (v1 : Int32) (v2 : Int32) (u : ab_S), ab_G 1 9 cX10_starts none 1 39 [some (vR (kO 9) 0), some (vI v1), some (vI v2)] [] u wV (fX10_starts_39 n v1 v2 u) := by
  intro n
  induction n with
  | zero => intros; exact g_none
  | succ n ih =>
    intro v1 v2 u
    rw [fX10_starts_39]
    refine g_seg0 (pc' := 42) (L' := [some (vR (kO 9) 0), some (vI v1), some (vI v2)]) (st' := [vI 8, vI v2]) (u1 := u) [(oL 0 2, 1), (oC 8, 2)] (by decide +kernel) rfl rfl ?_
    refine g_ige (off := 20) (tgt := 62) (pc2 := 45) (by decide +kernel) (by decide) rfl ?_ ?_
    · refine g_seg0 (pc' := 64) (L' := [some (vR (kO 9) 0), some (vI v1), some (vI 0)]) (st' := []) (u1 := u) [(oC 0, 1), (oL 3 2, 1)] (by decide +kernel) rfl rfl ?_
      exact tX10_starts_64 fu v1 0 u
    · refine g_seg (pc' := 59) (L' := [some (vR (kO 9) 0), some (vI v1), some (vI (v2 + 1))]) (st' := []) (u1 := (sI u 16 (nc ((v1 + 2) + v2)) (-1))) [(oL 2 0, 1), (oP (.getfield 113), 3), (oL 0 1, 1), (oC 2, 1), (oP .iadd, 1), (oL 0 2, 1), (oP .iadd, 1), (oC (-1), 1), (oP .iastore, 1), (oN 2 1, 3)] (by decide +kernel) rfl rfl ?_
      refine g_goto (off := (-20)) (tgt := 39) (by decide +kernel) (by decide) ?_
      exact ih v1 (v2 + 1) (sI u 16 (nc ((v1 + 2) + v2)) (-1))
def fX10_starts_2 : Nat → Int32 → Int32 → ab_S → Option (Unit × ab_S)
  | 0, _, _, _ => none
  | n + 1, v1, v2, u =>
  bif decide (v2 < 22) then (
    ab_gd [ab_ix (v1 + v2) 1081] (
      (fX10_starts_2 n) v1 (v2 + 1) (sI u 16 (nc (v1 + v2)) 0)))
  else (
    ab_gd [ab_ix 2 180, ab_ix (v1 + 1) 1081] (
      fX10_starts_39 fu v1 0 (sI u 16 (nc (v1 + 1)) (u.1 6 (nc 2)))))
theorem tX10_starts_2 : ∀ (n : Nat) (v1 : Int32) (v2 : Int32) (u : ab_S), ab_G 1 9 cX10_starts none 1 2 [some (vR (kO 9) 0), some (vI v1), some (vI v2)] [] u wV (fX10_starts_2 n v1 v2 u) := by
  intro n
  induction n with
  | zero => intros; exact g_none
  | succ n ih =>
    intro v1 v2 u
    rw [fX10_starts_2]
    refine g_seg0 (pc' := 5) (L' := [some (vR (kO 9) 0), some (vI v1), some (vI v2)]) (st' := [vI 22, vI v2]) (u1 := u) [(oL 0 2, 1), (oC 22, 2)] (by decide +kernel) rfl rfl ?_
    refine g_ige (off := 18) (tgt := 23) (pc2 := 8) (by decide +kernel) (by decide) rfl ?_ ?_
    · refine g_seg (pc' := 39) (L' := [some (vR (kO 9) 0), some (vI v1), some (vI 0)]) (st' := []) (u1 := (sI u 16 (nc (v1 + 1)) (u.1 6 (nc 2)))) [(oL 2 0, 1), (oP (.getfield 113), 3), (oL 0 1, 1), (oC 1, 1), (oP .iadd, 1), (oL 2 0, 1), (oP (.getfield 83), 3), (oC 2, 1), (oP .iaload, 1), (oP .iastore, 1), (oC 0, 1), (oL 3 2, 1)] (by decide +kernel) rfl rfl ?_
      exact tX10_starts_39 fu v1 0 (sI u 16 (nc (v1 + 1)) (u.1 6 (nc 2)))
    · refine g_seg (pc' := 20) (L' := [some (vR (kO 9) 0), some (vI v1), some (vI (v2 + 1))]) (st' := []) (u1 := (sI u 16 (nc (v1 + v2)) 0)) [(oL 2 0, 1), (oP (.getfield 113), 3), (oL 0 1, 1), (oL 0 2, 1), (oP .iadd, 1), (oC 0, 1), (oP .iastore, 1), (oN 2 1, 3)] (by decide +kernel) rfl rfl ?_
      refine g_goto (off := (-18)) (tgt := 2) (by decide +kernel) (by decide) ?_
      exact ih v1 (v2 + 1) (sI u 16 (nc (v1 + v2)) 0)
def fX10_starts (v1 : Int32) (u : ab_S) : Option (Unit × ab_S) :=
  fX10_starts_2 fu v1 0 u
theorem tX10_starts (v1 : Int32) (u : ab_S) : ab_G 1 9 cX10_starts none 1 0 [some (vR (kO 9) 0), some (vI v1), none] [] u wV (fX10_starts v1 u) := by
  rw [fX10_starts]
  refine g_seg0 (pc' := 2) (L' := [some (vR (kO 9) 0), some (vI v1), some (vI 0)]) (st' := []) (u1 := u) [(oC 0, 1), (oL 3 2, 1)] (by decide +kernel) rfl rfl ?_
  exact tX10_starts_2 fu v1 0 u
theorem CX10_starts (v1 : Int32) (u : ab_S) : ab_C 1 yX10_starts cX10_starts 3 none 1 [vR (kO 9) 0, vI v1] u wV (fX10_starts v1 u) := ab_entry (by decide +kernel) rfl (by decide) (by decide) (fun _ => Nat.le_of_ble_eq_true rfl) rfl (tX10_starts v1 u)
def fX10_begins_27 : Nat → Int32 → ab_S → Option (Unit × ab_S)
  | 0, _, _ => none
  | n + 1, v1, u =>
  bif decide (v1 < 4) then (
    ab_gd [ab_ix v1 4, ab_b1 0] (
      (fX10_begins_27 n) (v1 + 1) (sI u 17 (nc v1) 0)))
  else (
    some ((), u))
theorem tX10_begins_27 : ∀ (n : Nat) (v1 : Int32) (u : ab_S), ab_G 1 9 cX10_begins none 2 27 [some (vR (kO 9) 0), some (vI v1)] [] u wV (fX10_begins_27 n v1 u) := by
  intro n
  induction n with
  | zero => intros; exact g_none
  | succ n ih =>
    intro v1 u
    rw [fX10_begins_27]
    refine g_seg0 (pc' := 29) (L' := [some (vR (kO 9) 0), some (vI v1)]) (st' := [vI 4, vI v1]) (u1 := u) [(oL 0 1, 1), (oC 4, 1)] (by decide +kernel) rfl rfl ?_
    refine g_ige (off := 16) (tgt := 45) (pc2 := 32) (by decide +kernel) (by decide) rfl ?_ ?_
    · exact g_vret (by decide +kernel) rfl
    · refine g_seg (pc' := 42) (L' := [some (vR (kO 9) 0), some (vI (v1 + 1))]) (st' := []) (u1 := (sI u 17 (nc v1) 0)) [(oL 2 0, 1), (oP (.getfield 116), 3), (oL 0 1, 1), (oC 0, 1), (oP .bastore, 1), (oN 1 1, 3)] (by decide +kernel) rfl rfl ?_
      refine g_goto (off := (-15)) (tgt := 27) (by decide +kernel) (by decide) ?_
      exact ih (v1 + 1) (sI u 17 (nc v1) 0)
def fX10_begins (u : ab_S) : Option (Unit × ab_S) :=
  (fX10_starts 0 u).bind fun q1 =>
    ab_gd [ab_ix 22 1081, ab_ix 0 250] (
      fX10_begins_27 fu 0 (sI (sI (sI q1.2 16 (nc 22) 0) 13 (nc 0) 0) 0 25 0))
theorem tX10_begins (u : ab_S) : ab_G 1 9 cX10_begins none 2 0 [some (vR (kO 9) 0), none] [] u wV (fX10_begins u) := by
  rw [fX10_begins]
  refine g_seg0 (pc' := 2) (L' := [some (vR (kO 9) 0), none]) (st' := [vI 0, vR (kO 9) 0]) (u1 := u) [(oL 2 0, 1), (oC 0, 1)] (by decide +kernel) rfl rfl ?_
  refine g_callV (k := 282) (pc2 := 5) (st := []) (CX10_starts 0 u) miX10_starts mvX10_starts rfl (by decide) lk9_282 wV_ok (by decide +kernel) rfl (Nat.le_of_ble_eq_true rfl) (by decide) rfl (fun q1 hq1 => ?_)
  refine g_seg (pc' := 27) (L' := [some (vR (kO 9) 0), some (vI 0)]) (st' := []) (u1 := (sI (sI (sI q1.2 16 (nc 22) 0) 13 (nc 0) 0) 0 25 0)) [(oL 2 0, 1), (oP (.getfield 113), 3), (oC 22, 2), (oC 0, 1), (oP .iastore, 1), (oL 2 0, 1), (oP (.getfield 104), 3), (oC 0, 1), (oC 0, 1), (oP .iastore, 1), (oL 2 0, 1), (oC 0, 1), (oP (.putfield 285), 3), (oC 0, 1), (oL 3 1, 1)] (by decide +kernel) rfl rfl ?_
  exact tX10_begins_27 fu 0 (sI (sI (sI q1.2 16 (nc 22) 0) 13 (nc 0) 0) 0 25 0)
theorem CX10_begins (u : ab_S) : ab_C 1 yX10_begins cX10_begins 2 none 2 [vR (kO 9) 0] u wV (fX10_begins u) := ab_entry (by decide +kernel) rfl (by decide) (by decide) (fun _ => Nat.le_of_ble_eq_true rfl) rfl (tX10_begins u)
def fX10_office_153 : Nat → Int32 → ab_S → Option (Int32 × ab_S)
  | 0, _, _ => none
  | n + 1, v1, u =>
  bif decide (v1 < (u.1 0 19)) then (
    ab_gd [ab_ix v1 14, ab_ix v1 14, ab_ix v1 14, ab_ix v1 14] (
      (fX10_office_153 n) (v1 + 1) (sI (sJ u 9 (nc v1) (u.2.1 10 (nc v1))) 11 (nc v1) ((sJ u 9 (nc v1) (u.2.1 10 (nc v1))).1 12 (nc v1)))))
  else (
    (fX10_begins (sI u 0 18 (u.1 0 19))).bind fun q1 =>
      some (0, q1.2))
theorem tX10_office_153 : ∀ (n : Nat) (v1 : Int32) (u : ab_S), ab_G 1 9 cX10_office (some .int) 55 153 [some (vR (kO 9) 0), some (vI v1)] [] u wI (fX10_office_153 n v1 u) := by
  intro n
  induction n with
  | zero => intros; exact g_none
  | succ n ih =>
    intro v1 u
    rw [fX10_office_153]
    refine g_seg0 (pc' := 158) (L' := [some (vR (kO 9) 0), some (vI v1)]) (st' := [vI (u.1 0 19), vI v1]) (u1 := u) [(oL 0 1, 1), (oL 2 0, 1), (oP (.getfield 193), 3)] (by decide +kernel) rfl rfl ?_
    refine g_ige (off := 33) (tgt := 191) (pc2 := 161) (by decide +kernel) (by decide) rfl ?_ ?_
    · refine g_seg0 (pc' := 200) (L' := [some (vR (kO 9) 0), some (vI v1)]) (st' := [vR (kO 9) 0]) (u1 := (sI u 0 18 (u.1 0 19))) [(oL 2 0, 1), (oL 2 0, 1), (oP (.getfield 193), 3), (oP (.putfield 196), 3), (oL 2 0, 1)] (by decide +kernel) rfl rfl ?_
      refine g_callV (k := 139) (pc2 := 203) (st := []) (CX10_begins (sI u 0 18 (u.1 0 19))) miX10_begins mvX10_begins rfl (by decide) lk9_139 wV_ok (by decide +kernel) rfl (Nat.le_of_ble_eq_true rfl) (by decide) rfl (fun q1 hq1 => ?_)
      refine g_seg0 (pc' := 204) (L' := [some (vR (kO 9) 0), some (vI v1)]) (st' := [vI 0]) (u1 := q1.2) [(oC 0, 1)] (by decide +kernel) rfl rfl ?_
      exact g_iret (by decide +kernel) rfl
    · refine g_seg (pc' := 188) (L' := [some (vR (kO 9) 0), some (vI (v1 + 1))]) (st' := []) (u1 := (sI (sJ u 9 (nc v1) (u.2.1 10 (nc v1))) 11 (nc v1) ((sJ u 9 (nc v1) (u.2.1 10 (nc v1))).1 12 (nc v1)))) [(oL 2 0, 1), (oP (.getfield 92), 3), (oL 0 1, 1), (oL 2 0, 1), (oP (.getfield 95), 3), (oL 0 1, 1), (oP .laload, 1), (oP .lastore, 1), (oL 2 0, 1), (oP (.getfield 98), 3), (oL 0 1, 1), (oL 2 0, 1), (oP (.getfield 101), 3), (oL 0 1, 1), (oP .iaload, 1), (oP .iastore, 1), (oN 1 1, 3)] (by decide +kernel) rfl rfl ?_
      refine g_goto (off := (-35)) (tgt := 153) (by decide +kernel) (by decide) ?_
      exact ih (v1 + 1) (sI (sJ u 9 (nc v1) (u.2.1 10 (nc v1))) 11 (nc v1) ((sJ u 9 (nc v1) (u.2.1 10 (nc v1))).1 12 (nc v1)))
def fX10_office_105 : Nat → Int32 → ab_S → Option (Int32 × ab_S)
  | 0, _, _ => none
  | n + 1, v1, u =>
  bif decide (v1 < (u.1 0 13)) then (
    ab_gd [ab_ix (1100 + v1) 2200, ab_ix v1 2200, ab_ix (1100 + v1) 2200, ab_ix v1 2200] (
      (fX10_office_105 n) (v1 + 1) (sI (sI u 7 (nc v1) (u.1 7 (nc (1100 + v1)))) 8 (nc v1) ((sI u 7 (nc v1) (u.1 7 (nc (1100 + v1)))).1 8 (nc (1100 + v1))))))
  else (
    fX10_office_153 fu 0 u)
theorem tX10_office_105 : ∀ (n : Nat) (v1 : Int32) (u : ab_S), ab_G 1 9 cX10_office (some .int) 55 105 [some (vR (kO 9) 0), some (vI v1)] [] u wI (fX10_office_105 n v1 u) := by
  intro n
  induction n with
  | zero => intros; exact g_none
  | succ n ih =>
    intro v1 u
    rw [fX10_office_105]
    refine g_seg0 (pc' := 110) (L' := [some (vR (kO 9) 0), some (vI v1)]) (st' := [vI (u.1 0 13), vI v1]) (u1 := u) [(oL 0 1, 1), (oL 2 0, 1), (oP (.getfield 214), 3)] (by decide +kernel) rfl rfl ?_
    refine g_ige (off := 41) (tgt := 151) (pc2 := 113) (by decide +kernel) (by decide) rfl ?_ ?_
    · refine g_seg0 (pc' := 153) (L' := [some (vR (kO 9) 0), some (vI 0)]) (st' := []) (u1 := u) [(oC 0, 1), (oL 3 1, 1)] (by decide +kernel) rfl rfl ?_
      exact tX10_office_153 fu 0 u
    · refine g_seg (pc' := 148) (L' := [some (vR (kO 9) 0), some (vI (v1 + 1))]) (st' := []) (u1 := (sI (sI u 7 (nc v1) (u.1 7 (nc (1100 + v1)))) 8 (nc v1) ((sI u 7 (nc v1) (u.1 7 (nc (1100 + v1)))).1 8 (nc (1100 + v1))))) [(oL 2 0, 1), (oP (.getfield 86), 3), (oL 0 1, 1), (oL 2 0, 1), (oP (.getfield 86), 3), (oC 1100, 3), (oL 0 1, 1), (oP .iadd, 1), (oP .iaload, 1), (oP .iastore, 1), (oL 2 0, 1), (oP (.getfield 89), 3), (oL 0 1, 1), (oL 2 0, 1), (oP (.getfield 89), 3), (oC 1100, 3), (oL 0 1, 1), (oP .iadd, 1), (oP .iaload, 1), (oP .iastore, 1), (oN 1 1, 3)] (by decide +kernel) rfl rfl ?_
      refine g_goto (off := (-43)) (tgt := 105) (by decide +kernel) (by decide) ?_
      exact ih (v1 + 1) (sI (sI u 7 (nc v1) (u.1 7 (nc (1100 + v1)))) 8 (nc v1) ((sI u 7 (nc v1) (u.1 7 (nc (1100 + v1)))).1 8 (nc (1100 + v1))))
def fX10_office_76 : Nat → Int32 → ab_S → Option (Int32 × ab_S)
  | 0, _, _ => none
  | n + 1, v1, u =>
  bif decide (v1 < 90) then (
    ab_gd [ab_ix (90 + v1) 180, ab_ix v1 180] (
      (fX10_office_76 n) (v1 + 1) (sI u 6 (nc v1) (u.1 6 (nc (90 + v1))))))
  else (
    fX10_office_105 fu 0 u)
theorem tX10_office_76 : ∀ (n : Nat) (v1 : Int32) (u : ab_S), ab_G 1 9 cX10_office (some .int) 55 76 [some (vR (kO 9) 0), some (vI v1)] [] u wI (fX10_office_76 n v1 u) := by
  intro n
  induction n with
  | zero => intros; exact g_none
  | succ n ih =>
    intro v1 u
    rw [fX10_office_76]
    refine g_seg0 (pc' := 79) (L' := [some (vR (kO 9) 0), some (vI v1)]) (st' := [vI 90, vI v1]) (u1 := u) [(oL 0 1, 1), (oC 90, 2)] (by decide +kernel) rfl rfl ?_
    refine g_ige (off := 24) (tgt := 103) (pc2 := 82) (by decide +kernel) (by decide) rfl ?_ ?_
    · refine g_seg0 (pc' := 105) (L' := [some (vR (kO 9) 0), some (vI 0)]) (st' := []) (u1 := u) [(oC 0, 1), (oL 3 1, 1)] (by decide +kernel) rfl rfl ?_
      exact tX10_office_105 fu 0 u
    · refine g_seg (pc' := 100) (L' := [some (vR (kO 9) 0), some (vI (v1 + 1))]) (st' := []) (u1 := (sI u 6 (nc v1) (u.1 6 (nc (90 + v1))))) [(oL 2 0, 1), (oP (.getfield 83), 3), (oL 0 1, 1), (oL 2 0, 1), (oP (.getfield 83), 3), (oC 90, 2), (oL 0 1, 1), (oP .iadd, 1), (oP .iaload, 1), (oP .iastore, 1), (oN 1 1, 3)] (by decide +kernel) rfl rfl ?_
      refine g_goto (off := (-24)) (tgt := 76) (by decide +kernel) (by decide) ?_
      exact ih (v1 + 1) (sI u 6 (nc v1) (u.1 6 (nc (90 + v1))))
def fX10_office_62 (u : ab_S) : Option (Int32 × ab_S) :=
  bif decide ((u.1 0 8) ≤ 0) then (
    fX10_office_76 fu 0 u)
  else (
    some ((u.1 0 8), u))
theorem tX10_office_62 (u : ab_S) : ab_G 1 9 cX10_office (some .int) 55 62 [some (vR (kO 9) 0), none] [] u wI (fX10_office_62 u) := by
  rw [fX10_office_62]
  refine g_seg0 (pc' := 66) (L' := [some (vR (kO 9) 0), none]) (st' := [vI (u.1 0 8)]) (u1 := u) [(oL 2 0, 1), (oP (.getfield 168), 3)] (by decide +kernel) rfl rfl ?_
  refine g_zle (off := 8) (tgt := 74) (pc2 := 69) (by decide +kernel) (by decide) rfl ?_ ?_
  · refine g_seg0 (pc' := 76) (L' := [some (vR (kO 9) 0), some (vI 0)]) (st' := []) (u1 := u) [(oC 0, 1), (oL 3 1, 1)] (by decide +kernel) rfl rfl ?_
    exact tX10_office_76 fu 0 u
  · refine g_seg0 (pc' := 73) (L' := [some (vR (kO 9) 0), none]) (st' := [vI (u.1 0 8)]) (u1 := u) [(oL 2 0, 1), (oP (.getfield 168), 3)] (by decide +kernel) rfl rfl ?_
    exact g_iret (by decide +kernel) rfl
def fX10_office_30 : Nat → ab_S → Option (Int32 × ab_S)
  | 0, _ => none
  | n + 1, u =>
  bif decide ((u.1 0 8) = 0) then (
    ab_gd [ab_ix (u.1 0 7) 1002] (
      bif decide ((u.1 2 (nc (u.1 0 7))) = 0) then (
        fX10_office_62 u)
      else (
        (fX10_readLine u).bind fun q2 =>
          (fX10_takeSign 59 q2.2).bind fun q3 =>
            (fX10_office_30 n) q3.2)))
  else (
    fX10_office_62 u)
theorem tX10_office_30 : ∀ (n : Nat) (u : ab_S), ab_G 1 9 cX10_office (some .int) 55 30 [some (vR (kO 9) 0), none] [] u wI (fX10_office_30 n u) := by
  intro n
  induction n with
  | zero => intros; exact g_none
  | succ n ih =>
    intro u
    rw [fX10_office_30]
    refine g_seg0 (pc' := 34) (L' := [some (vR (kO 9) 0), none]) (st' := [vI (u.1 0 8)]) (u1 := u) [(oL 2 0, 1), (oP (.getfield 168), 3)] (by decide +kernel) rfl rfl ?_
    refine g_zne (off := 28) (tgt := 62) (pc2 := 37) (by decide +kernel) (by decide) rfl ?_ ?_
    · exact tX10_office_62 u
    · refine g_seg (pc' := 46) (L' := [some (vR (kO 9) 0), none]) (st' := [vI (u.1 2 (nc (u.1 0 7)))]) (u1 := u) [(oL 2 0, 1), (oP (.getfield 24), 3), (oL 2 0, 1), (oP (.getfield 165), 3), (oP .iaload, 1)] (by decide +kernel) rfl rfl ?_
      refine g_zeq (off := 16) (tgt := 62) (pc2 := 49) (by decide +kernel) (by decide) rfl ?_ ?_
      · exact tX10_office_62 u
      · refine g_seg0 (pc' := 50) (L' := [some (vR (kO 9) 0), none]) (st' := [vR (kO 9) 0]) (u1 := u) [(oL 2 0, 1)] (by decide +kernel) rfl rfl ?_
        refine g_callV (k := 220) (pc2 := 53) (st := []) (CX10_readLine u) miX10_readLine mvX10_readLine rfl (by decide) lk9_220 wV_ok (by decide +kernel) rfl (Nat.le_of_ble_eq_true rfl) (by decide) rfl (fun q2 hq2 => ?_)
        refine g_seg0 (pc' := 56) (L' := [some (vR (kO 9) 0), none]) (st' := [vI 59, vR (kO 9) 0]) (u1 := q2.2) [(oL 2 0, 1), (oC 59, 2)] (by decide +kernel) rfl rfl ?_
        refine g_callV (k := 223) (pc2 := 59) (st := []) (CX10_takeSign 59 q2.2) miX10_takeSign mvX10_takeSign rfl (by decide) lk9_223 wV_ok (by decide +kernel) rfl (Nat.le_of_ble_eq_true rfl) (by decide) rfl (fun q3 hq3 => ?_)
        refine g_goto (off := (-29)) (tgt := 30) (by decide +kernel) (by decide) ?_
        exact ih q3.2
def fX10_office (u : ab_S) : Option (Int32 × ab_S) :=
  (fX10_cutAll (sI u 0 0 0)).bind fun q4 =>
    (fX10_standsAsAlways 90 (sI (sI (sI q4.2 0 13 0) 0 19 0) 0 20 0)).bind fun q5 =>
      fX10_office_30 fu q5.2
theorem tX10_office (u : ab_S) : ab_G 1 9 cX10_office (some .int) 55 0 [some (vR (kO 9) 0), none] [] u wI (fX10_office u) := by
  rw [fX10_office]
  refine g_seg0 (pc' := 6) (L' := [some (vR (kO 9) 0), none]) (st' := [vR (kO 9) 0]) (u1 := (sI u 0 0 0)) [(oL 2 0, 1), (oC 0, 1), (oP (.putfield 1), 3), (oL 2 0, 1)] (by decide +kernel) rfl rfl ?_
  refine g_callV (k := 211) (pc2 := 9) (st := []) (CX10_cutAll (sI u 0 0 0)) miX10_cutAll mvX10_cutAll rfl (by decide) lk9_211 wV_ok (by decide +kernel) rfl (Nat.le_of_ble_eq_true rfl) (by decide) rfl (fun q4 hq4 => ?_)
  refine g_seg0 (pc' := 27) (L' := [some (vR (kO 9) 0), none]) (st' := [vI 90, vR (kO 9) 0]) (u1 := (sI (sI (sI q4.2 0 13 0) 0 19 0) 0 20 0)) [(oL 2 0, 1), (oC 0, 1), (oP (.putfield 214), 3), (oL 2 0, 1), (oC 0, 1), (oP (.putfield 193), 3), (oL 2 0, 1), (oC 0, 1), (oP (.putfield 217), 3), (oL 2 0, 1), (oC 90, 2)] (by decide +kernel) rfl rfl ?_
  refine g_callV (k := 135) (pc2 := 30) (st := []) (CX10_standsAsAlways 90 (sI (sI (sI q4.2 0 13 0) 0 19 0) 0 20 0)) miX10_standsAsAlways mvX10_standsAsAlways rfl (by decide) lk9_135 wV_ok (by decide +kernel) rfl (Nat.le_of_ble_eq_true rfl) (by decide) rfl (fun q5 hq5 => ?_)
  exact tX10_office_30 fu q5.2
theorem CX10_office (u : ab_S) : ab_C 1 yX10_office cX10_office 2 (some .int) 55 [vR (kO 9) 0] u wI (fX10_office u) := ab_entry (by decide +kernel) rfl (by decide) (by decide) (fun _ => Nat.le_of_ble_eq_true rfl) rfl (tX10_office u)
def fX10_readYear_39 (v1 : Int32) (v2 : Int32) (s1 : Int32) (s2 : Int32) (u : ab_S) : Option (Unit × ab_S) :=
  ab_gd [ab_ix s1 250] (
    bif decide (v2 = 2) then (
      ab_gd [ab_ix (v1 + 1) 250] (
        (fX10_takeTold 0 20 ((1 : Int32) <<< (((sI u 13 (nc s1) s2).1 13 (nc (v1 + 1))) &&& 31)) (sI u 13 (nc s1) s2)).bind fun q1 =>
          ab_gd [ab_ix (v1 + 2) 250] (
            some ((), (sI q1.2 13 (nc (v1 + 2)) q1.1)))))
    else (
      ab_gd [ab_ix (v1 + 2) 250] (
        some ((), (sI (sI u 13 (nc s1) s2) 13 (nc (v1 + 2)) 0)))))
theorem tX10_readYear_39 (v1 : Int32) (v2 : Int32) (s1 : Int32) (s2 : Int32) (u : ab_S) : ab_G 1 9 cX10_readYear none 4 39 [some (vR (kO 9) 0), some (vI v1), some (vI v2)] [vI s2, vI s1, vR (kA 0 250) 13] u wV (fX10_readYear_39 v1 v2 s1 s2 u) := by
  rw [fX10_readYear_39]
  refine g_seg (pc' := 49) (L' := [some (vR (kO 9) 0), some (vI v1), some (vI v2)]) (st' := [vI 2, vI v2, vI (v1 + 2), vR (kA 0 250) 13]) (u1 := (sI u 13 (nc s1) s2)) [(oP .iastore, 1), (oL 2 0, 1), (oP (.getfield 104), 3), (oL 0 1, 1), (oC 2, 1), (oP .iadd, 1), (oL 0 2, 1), (oC 2, 1)] (by decide +kernel) rfl rfl ?_
  refine g_ine (off := 23) (tgt := 72) (pc2 := 52) (by decide +kernel) (by decide) rfl ?_ ?_
  · refine g_seg (pc' := 74) (L' := [some (vR (kO 9) 0), some (vI v1), some (vI v2)]) (st' := []) (u1 := (sI (sI u 13 (nc s1) s2) 13 (nc (v1 + 2)) 0)) [(oC 0, 1), (oP .iastore, 1)] (by decide +kernel) rfl rfl ?_
    exact g_vret (by decide +kernel) rfl
  · refine g_seg (pc' := 66) (L' := [some (vR (kO 9) 0), some (vI v1), some (vI v2)]) (st' := [vI ((1 : Int32) <<< (((sI u 13 (nc s1) s2).1 13 (nc (v1 + 1))) &&& 31)), vI 20, vI 0, vR (kO 9) 0, vI (v1 + 2), vR (kA 0 250) 13]) (u1 := (sI u 13 (nc s1) s2)) [(oL 2 0, 1), (oC 0, 1), (oC 20, 2), (oC 1, 1), (oL 2 0, 1), (oP (.getfield 104), 3), (oL 0 1, 1), (oC 1, 1), (oP .iadd, 1), (oP .iaload, 1), (oP .ishl, 1)] (by decide +kernel) rfl rfl ?_
    refine g_callV (k := 237) (pc2 := 69) (st := [vI (v1 + 2), vR (kA 0 250) 13]) (CX10_takeTold 0 20 ((1 : Int32) <<< (((sI u 13 (nc s1) s2).1 13 (nc (v1 + 1))) &&& 31)) (sI u 13 (nc s1) s2)) miX10_takeTold mvX10_takeTold rfl (by decide) lk9_237 wI_ok (by decide +kernel) rfl (Nat.le_of_ble_eq_true rfl) (by decide) rfl (fun q1 hq1 => ?_)
    refine g_goto (off := 4) (tgt := 73) (by decide +kernel) (by decide) ?_
    refine g_seg (pc' := 74) (L' := [some (vR (kO 9) 0), some (vI v1), some (vI v2)]) (st' := []) (u1 := (sI q1.2 13 (nc (v1 + 2)) q1.1)) [(oP .iastore, 1)] (by decide +kernel) rfl rfl ?_
    exact g_vret (by decide +kernel) rfl
def fX10_readYear_35 (v1 : Int32) (v2 : Int32) (s1 : Int32) (s3 : Int32) (s4 : Int32) (u : ab_S) : Option (Unit × ab_S) :=
  (fX10_takeTold s3 s4 0 u).bind fun q2 =>
    fX10_readYear_39 v1 v2 s1 q2.1 q2.2
theorem tX10_readYear_35 (v1 : Int32) (v2 : Int32) (s1 : Int32) (s3 : Int32) (s4 : Int32) (u : ab_S) : ab_G 1 9 cX10_readYear none 4 35 [some (vR (kO 9) 0), some (vI v1), some (vI v2)] [vI s4, vI s3, vR (kO 9) 0, vI s1, vR (kA 0 250) 13] u wV (fX10_readYear_35 v1 v2 s1 s3 s4 u) := by
  rw [fX10_readYear_35]
  refine g_seg0 (pc' := 36) (L' := [some (vR (kO 9) 0), some (vI v1), some (vI v2)]) (st' := [vI 0, vI s4, vI s3, vR (kO 9) 0, vI s1, vR (kA 0 250) 13]) (u1 := u) [(oC 0, 1)] (by decide +kernel) rfl rfl ?_
  refine g_callV (k := 237) (pc2 := 39) (st := [vI s1, vR (kA 0 250) 13]) (CX10_takeTold s3 s4 0 u) miX10_takeTold mvX10_takeTold rfl (by decide) lk9_237 wI_ok (by decide +kernel) rfl (Nat.le_of_ble_eq_true rfl) (by decide) rfl (fun q2 hq2 => ?_)
  exact tX10_readYear_39 v1 v2 s1 q2.1 q2.2
def fX10_readYear (v1 : Int32) (v2 : Int32) (u : ab_S) : Option (Unit × ab_S) :=
  ab_gd [ab_ix v1 250] (
    bif decide (v2 = 0) then (
      fX10_readYear_39 v1 v2 (v1 + 1) 0 (sI u 13 (nc v1) v2))
    else (
      bif decide (v2 = 1) then (
        fX10_readYear_35 v1 v2 (v1 + 1) 0 0 (sI u 13 (nc v1) v2))
      else (
        fX10_readYear_35 v1 v2 (v1 + 1) 0 20 (sI u 13 (nc v1) v2))))
theorem tX10_readYear (v1 : Int32) (v2 : Int32) (u : ab_S) : ab_G 1 9 cX10_readYear none 4 0 [some (vR (kO 9) 0), some (vI v1), some (vI v2)] [] u wV (fX10_readYear v1 v2 u) := by
  rw [fX10_readYear]
  refine g_seg (pc' := 15) (L' := [some (vR (kO 9) 0), some (vI v1), some (vI v2)]) (st' := [vI v2, vI (v1 + 1), vR (kA 0 250) 13]) (u1 := (sI u 13 (nc v1) v2)) [(oL 2 0, 1), (oP (.getfield 104), 3), (oL 0 1, 1), (oL 0 2, 1), (oP .iastore, 1), (oL 2 0, 1), (oP (.getfield 104), 3), (oL 0 1, 1), (oC 1, 1), (oP .iadd, 1), (oL 0 2, 1)] (by decide +kernel) rfl rfl ?_
  refine g_zne (off := 7) (tgt := 22) (pc2 := 18) (by decide +kernel) (by decide) rfl ?_ ?_
  · refine g_seg0 (pc' := 26) (L' := [some (vR (kO 9) 0), some (vI v1), some (vI v2)]) (st' := [vI 1, vI v2, vI 0, vR (kO 9) 0, vI (v1 + 1), vR (kA 0 250) 13]) (u1 := (sI u 13 (nc v1) v2)) [(oL 2 0, 1), (oC 0, 1), (oL 0 2, 1), (oC 1, 1)] (by decide +kernel) rfl rfl ?_
    refine g_ine (off := 7) (tgt := 33) (pc2 := 29) (by decide +kernel) (by decide) rfl ?_ ?_
    · refine g_seg0 (pc' := 35) (L' := [some (vR (kO 9) 0), some (vI v1), some (vI v2)]) (st' := [vI 20, vI 0, vR (kO 9) 0, vI (v1 + 1), vR (kA 0 250) 13]) (u1 := (sI u 13 (nc v1) v2)) [(oC 20, 2)] (by decide +kernel) rfl rfl ?_
      exact tX10_readYear_35 v1 v2 (v1 + 1) 0 20 (sI u 13 (nc v1) v2)
    · refine g_seg0 (pc' := 30) (L' := [some (vR (kO 9) 0), some (vI v1), some (vI v2)]) (st' := [vI 0, vI 0, vR (kO 9) 0, vI (v1 + 1), vR (kA 0 250) 13]) (u1 := (sI u 13 (nc v1) v2)) [(oC 0, 1)] (by decide +kernel) rfl rfl ?_
      refine g_goto (off := 5) (tgt := 35) (by decide +kernel) (by decide) ?_
      exact tX10_readYear_35 v1 v2 (v1 + 1) 0 0 (sI u 13 (nc v1) v2)
  · refine g_seg0 (pc' := 19) (L' := [some (vR (kO 9) 0), some (vI v1), some (vI v2)]) (st' := [vI 0, vI (v1 + 1), vR (kA 0 250) 13]) (u1 := (sI u 13 (nc v1) v2)) [(oC 0, 1)] (by decide +kernel) rfl rfl ?_
    refine g_goto (off := 20) (tgt := 39) (by decide +kernel) (by decide) ?_
    exact tX10_readYear_39 v1 v2 (v1 + 1) 0 (sI u 13 (nc v1) v2)
theorem CX10_readYear (v1 : Int32) (v2 : Int32) (u : ab_S) : ab_C 1 yX10_readYear cX10_readYear 3 none 4 [vR (kO 9) 0, vI v1, vI v2] u wV (fX10_readYear v1 v2 u) := ab_entry (by decide +kernel) rfl (by decide) (by decide) (fun _ => Nat.le_of_ble_eq_true rfl) rfl (tX10_readYear v1 v2 u)
