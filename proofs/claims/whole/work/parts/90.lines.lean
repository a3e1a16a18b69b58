/-! the lines of an office -/
section PU
variable {u v u' v' : ab_S} {n T i o : Nat}
theorem nmR.addP {np ng : Nat} {x y : Int64} (h : nmR np ng o 10 12 u v) (hx : WR x y) (a1 : ∀ p, p < np → u'.2.1 (o + 1) p = u.2.1 (o + 1) p) (a2 : u'.2.1 (o + 1) np = x) (a3 : ∀ k, k < ng → u'.2.1 (o + 2) k = u.2.1 (o + 2) k) (b1 : ∀ j, j < np + ng → v'.2.1 10 j = v.2.1 10 j ∧ v'.1 12 j = v.1 12 j) (b2 : v'.2.1 10 (np + ng) = y) (b3 : v'.1 12 (np + ng) = nI np) (f1 : ∀ p, p < np → u.2.1 (o + 1) p ≠ x) (f2 : ∀ k, k < ng → u.2.1 (o + 2) k ≠ x) : nmR (np + 1) ng o 10 12 u' v' := by
  obtain ⟨h1, h2, h3, h4, h5, h6⟩ := h
  refine ⟨fun j hj => ?_, fun p hp => ?_, fun k hk => ?_, fun p q hp hq e => ?_, fun p q hp hq e => ?_, fun p q hp hq e => ?_⟩
  · by_cases ej : j = np + ng
    · subst ej
      refine Or.inl ⟨np, by omega, b3, ?_⟩
      rw [a2, b2]
      exact hx
    · obtain ⟨c1, c2⟩ := b1 j (by omega)
      rw [c1, c2]
      obtain ⟨p, p1, p2, p3⟩ | ⟨k, k1, k2, k3⟩ := h1 j (by omega)
      · exact Or.inl ⟨p, by omega, p2, by rw [a1 p p1]; exact p3⟩
      · exact Or.inr ⟨k, k1, k2, by rw [a3 k k1]; exact k3⟩
  · by_cases ep : p = np
    · subst ep
      exact ⟨p + ng, by omega, b3⟩
    · obtain ⟨j, j1, j2⟩ := h2 p (by omega)
      exact ⟨j, by omega, by rw [(b1 j j1).2]; exact j2⟩
  · obtain ⟨j, j1, j2⟩ := h3 k hk
    exact ⟨j, by omega, by rw [(b1 j j1).2]; exact j2⟩
  · by_cases ep : p = np
    · subst ep
      by_cases eq : q = p
      · exact eq.symm
      · rw [a2, a1 q (by omega)] at e
        exact absurd e.symm (f1 q (by omega))
    · by_cases eq : q = np
      · subst eq
        rw [a2, a1 p (by omega)] at e
        exact absurd e (f1 p (by omega))
      · rw [a1 p (by omega), a1 q (by omega)] at e
        exact h4 p q (by omega) (by omega) e
  · rw [a3 p hp, a3 q hq] at e
    exact h5 p q hp hq e
  · rw [a3 q hq] at e
    by_cases ep : p = np
    · subst ep
      rw [a2] at e
      exact f2 q hq e.symm
    · rw [a1 p (by omega)] at e
      exact h6 p q (by omega) hq e
theorem nmR.addG {np ng : Nat} {x y : Int64} (h : nmR np ng o 10 12 u v) (hx : WR x y) (a1 : ∀ p, p < np → u'.2.1 (o + 1) p = u.2.1 (o + 1) p) (a2 : u'.2.1 (o + 2) ng = x) (a3 : ∀ k, k < ng → u'.2.1 (o + 2) k = u.2.1 (o + 2) k) (b1 : ∀ j, j < np + ng → v'.2.1 10 j = v.2.1 10 j ∧ v'.1 12 j = v.1 12 j) (b2 : v'.2.1 10 (np + ng) = y) (b3 : v'.1 12 (np + ng) = nI (20 + ng)) (f1 : ∀ p, p < np → u.2.1 (o + 1) p ≠ x) (f2 : ∀ k, k < ng → u.2.1 (o + 2) k ≠ x) : nmR np (ng + 1) o 10 12 u' v' := by
  obtain ⟨h1, h2, h3, h4, h5, h6⟩ := h
  refine ⟨fun j hj => ?_, fun p hp => ?_, fun k hk => ?_, fun p q hp hq e => ?_, fun p q hp hq e => ?_, fun p q hp hq e => ?_⟩
  · by_cases ej : j = np + ng
    · subst ej
      refine Or.inr ⟨ng, by omega, b3, ?_⟩
      rw [a2, b2]
      exact hx
    · obtain ⟨c1, c2⟩ := b1 j (by omega)
      rw [c1, c2]
      obtain ⟨p, p1, p2, p3⟩ | ⟨k, k1, k2, k3⟩ := h1 j (by omega)
      · exact Or.inl ⟨p, p1, p2, by rw [a1 p p1]; exact p3⟩
      · exact Or.inr ⟨k, by omega, k2, by rw [a3 k k1]; exact k3⟩
  · obtain ⟨j, j1, j2⟩ := h2 p hp
    exact ⟨j, by omega, by rw [(b1 j j1).2]; exact j2⟩
  · by_cases ek : k = ng
    · subst ek
      exact ⟨np + k, by omega, b3⟩
    · obtain ⟨j, j1, j2⟩ := h3 k (by omega)
      exact ⟨j, by omega, by rw [(b1 j j1).2]; exact j2⟩
  · rw [a1 p hp, a1 q hq] at e
    exact h4 p q hp hq e
  · by_cases ep : p = ng
    · subst ep
      by_cases eq : q = p
      · exact eq.symm
      · rw [a2, a3 q (by omega)] at e
        exact absurd e.symm (f2 q (by omega))
    · by_cases eq : q = ng
      · subst eq
        rw [a2, a3 p (by omega)] at e
        exact absurd e (f2 p (by omega))
      · rw [a3 p (by omega), a3 q (by omega)] at e
        exact h5 p q (by omega) (by omega) e
  · rw [a1 p hp] at e
    by_cases eq : q = ng
    · subst eq
      rw [a2] at e
      exact f1 p hp e
    · rw [a3 q (by omega)] at e
      exact h6 p q hp (by omega) e
end PU
-- what is read of an office, so far
def ofR (np ng o : Nat) (u v : ab_S) : Prop := np ≤ 6 ∧ ng ≤ 8 ∧ u.1 o 0 = nI np ∧ u.1 o 1 = nI ng ∧ v.1 6 90 = nI np ∧ v.1 6 91 = nI ng ∧ v.1 0 19 = nI (np + ng) ∧ nmR np ng o 10 12 u v ∧ (∀ p, p < np → u.1 (o + 3) p = v.1 6 (94 + 2 * p)) ∧ (∀ p, p < np → ∃ c, c ≤ 50 ∧ u.1 (o + 4) p = nI c ∧ v.1 6 (95 + 2 * p) = nI c) ∧ (∀ k, k < ng → ∃ c, c ≤ 30 ∧ u.1 (o + 5) k = nI c ∧ v.1 6 (106 + 2 * k) = nI c) ∧ (∀ k, k < ng → ∃ p, p < np ∧ u.1 (o + 6) k = nI p ∧ v.1 6 (107 + 2 * k) = nI p) ∧ (∀ p, p < 6 → ∀ k, k < 8 → ∃ l, l ≤ 20 ∧ u.1 (o + 7) (p * 8 + k) = nI l ∧ v.1 6 (122 + 8 * p + k) = nI l) ∧ (∃ a b : Bool, u.1 o 10 = b01 a ∧ u.1 o 11 = b01 b ∧ v.1 0 20 = nI (a.toNat + 2 * b.toNat)) ∧ (∃ g, g ≤ 9999 ∧ u.1 o 9 = nI g ∧ v.1 6 92 = nI g)
def dQu (o a k : Nat) : Prop := (a = 1 ∧ 6 ≤ k ∧ k ≤ 10) ∨ (o ≤ a ∧ a < o + 8 ∧ ¬ (a = o ∧ k = 11))
def dQv (a k : Nat) : Prop := dSv a k ∨ a = 10 ∨ a = 12 ∨ (a = 0 ∧ (k = 19 ∨ k = 20)) ∨ (a = 6 ∧ 90 ≤ k ∧ k ≠ 93)
-- a line read on both sides: y the class's answer, z the reference's (its semicolon too)
def lnO (n T i o : Nat) (y : Option (Int32 × ab_S)) (z : Option (Unit × ab_S)) (u v : ab_S) : Prop := (∃ u' v' i' np ng, i < i' ∧ y = some (1, u') ∧ z = some ((), v') ∧ pR n T i' u' v' ∧ ofR np ng o u' v' ∧ Fr (dQu o) u u' ∧ Fr dQv v v') ∨ (∃ f u' v', y = some (0, u') ∧ z = some ((), v') ∧ u'.1 1 10 = nI f ∧ mF f v' ∧ Fr (dQu o) u u' ∧ Fr dQv v v')
