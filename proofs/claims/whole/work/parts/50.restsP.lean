/-! SoulRaffle.rests as a pure function -/
def pR_b (v : Int32) : Int32 := bif decide (v < 0) then 0 else bif decide (v ≤ 9) then 1 else 0
theorem pR_b_eq (v : Int32) (u : ab_S) : fX9_isBargain v u = some (pR_b v, u) := by
  unfold fX9_isBargain pR_b
  cases decide (v < 0) <;> cases decide (v ≤ 9) <;> rfl
def pR_g (v0 v1 v2 v3 v4 : Int32) : Int32 := bif decide (v3 = 1) then (bif decide (v4 = 1) then v0 else -v1) else (bif decide (v4 = 1) then v2 else 0)
theorem pR_g_eq (v0 v1 v2 v3 v4 : Int32) (u : ab_S) : fX9_bargained v0 v1 v2 v3 v4 u = some (pR_g v0 v1 v2 v3 v4, u) := by
  unfold fX9_bargained pR_g
  cases decide (v3 = 1) <;> cases decide (v4 = 1) <;> rfl
def pR_i (v0 v1 v2 v3 : Int32) : Int32 :=
  bif decide (pR_g v0 v1 v2 (1 - (v3 >>> ((1 : Int32) &&& 31))) (v3 &&& 1) ≤ pR_g v0 v1 v2 (v3 >>> ((1 : Int32) &&& 31)) (v3 &&& 1)) then
    (bif decide (pR_g v0 v1 v2 (1 - (v3 &&& 1)) (v3 >>> ((1 : Int32) &&& 31)) ≤ pR_g v0 v1 v2 (v3 &&& 1) (v3 >>> ((1 : Int32) &&& 31))) then 1 else 0)
  else 0
theorem pR_i_eq (v0 v1 v2 v3 : Int32) (u : ab_S) : fX9_isRest v0 v1 v2 v3 u = some (pR_i v0 v1 v2 v3, u) := by
  unfold fX9_isRest pR_i
  simp only [pR_g_eq, Option.bind_some]
  generalize decide (pR_g v0 v1 v2 (1 - (v3 >>> ((1 : Int32) &&& 31))) (v3 &&& 1) ≤ pR_g v0 v1 v2 (v3 >>> ((1 : Int32) &&& 31)) (v3 &&& 1)) = b1
  generalize decide (pR_g v0 v1 v2 (1 - (v3 &&& 1)) (v3 >>> ((1 : Int32) &&& 31)) ≤ pR_g v0 v1 v2 (v3 &&& 1) (v3 >>> ((1 : Int32) &&& 31))) = b2
  cases b1 <;> cases b2 <;> rfl
def pR_80 (v4 v5 : Int32) : Option Int32 := bif decide (v4 = -1) then some v5 else none
def pR_44 : Nat → Int32 → Int32 → Int32 → Int32 → Int32 → Int32 → Option Int32
  | 0, _, _, _, _, _, _ => none
  | n + 1, v1, v2, v3, v4, v5, v6 =>
    bif decide (v6 < 4) then (bif decide (pR_i v1 v2 v3 v6 = 0) then pR_44 n v1 v2 v3 v4 v5 (v6 + 1) else (bif decide (v5 = v4) then some v6 else pR_44 n v1 v2 v3 v4 (v5 + 1) (v6 + 1)))
    else pR_80 v4 v5
def pR_P (n : Nat) (v6 : Int32) : Prop := ∀ (v1 v2 v3 v4 v5 : Int32) (u : ab_S), fX9_rests_44 n v1 v2 v3 v4 v5 v6 u = some (pR_44 n v1 v2 v3 v4 v5 v6, u)
theorem pR_P0 {n : Nat} {v6 : Int32} (h : decide (v6 < 4) = false) : pR_P (n + 1) v6 := by
  intro v1 v2 v3 v4 v5 u
  rw [fX9_rests_44, pR_44, h]
  simp only [cond_false]
  unfold fX9_rests_80 pR_80
  cases decide (v4 = -1) <;> rfl
theorem pR_P1 {n : Nat} {v6 : Int32} (h : decide (v6 < 4) = true) (k : pR_P n (v6 + 1)) : pR_P (n + 1) v6 := by
  intro v1 v2 v3 v4 v5 u
  rw [fX9_rests_44, pR_44, h]
  simp only [cond_true, pR_i_eq, Option.bind_some]
  rw [k, k]
  generalize decide (pR_i v1 v2 v3 v6 = 0) = b1
  generalize decide (v5 = v4) = b2
  cases b1 <;> cases b2 <;> rfl
theorem pR_Pz : pR_P 5000 0 := pR_P1 (by decide) (pR_P1 (by decide) (pR_P1 (by decide) (pR_P1 (by decide) (pR_P0 (n := 4995) (by decide)))))
def rsC0 (v1 v2 v3 v4 : Int32) : Option Int32 :=
  bif decide (pR_b v1 = 0) then none else bif decide (pR_b v2 = 0) then none else bif decide (pR_b v3 = 0) then none else bif decide (v4 < -1) then none else pR_44 5000 v1 v2 v3 v4 0 0
theorem rsC0_eq (v1 v2 v3 v4 : Int32) (u : ab_S) : fX9_rests v1 v2 v3 v4 u = some (rsC0 v1 v2 v3 v4, u) := by
  unfold fX9_rests rsC0 fX9_rests_21
  simp only [pR_b_eq, Option.bind_some]
  rw [pR_Pz]
  generalize pR_44 5000 v1 v2 v3 v4 0 0 = z
  generalize decide (pR_b v1 = 0) = b1
  generalize decide (pR_b v2 = 0) = b2
  generalize decide (pR_b v3 = 0) = b3
  generalize decide (v4 < -1) = b4
  cases b1 <;> cases b2 <;> cases b3 <;> cases b4 <;> rfl
