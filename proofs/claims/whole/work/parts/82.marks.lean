/-! seeing, marks, counts, feeding -/
section PU
variable {Z : dZ} {s : Nat → Int32} {u v u' v' : ab_S}
-- ===== see =====
theorem i_S36 (u v : ab_S) (a0 a1 a2 : Int32) (ha2 : a2 = 0 ∨ a2 = 1) (h : Inv u v) : ∃ (r : Int32) (u1 v1 : ab_S), fX9_see a0 a1 a2 u = some (r, u1) ∧ fX10_see a0 a1 a2 v = some (r, v1) ∧ Inv u1 v1 := by
  obtain ⟨Z, s, h⟩ := h
  have h0 := h.th
  have hN0 := h0.1
  have hE := hN0.1
  have hg8 := hE.2.1
  have e99 : (99 : Int32) = nI 99 := rfl
  unfold fX9_see fX10_see
  rcases isG Z hE.2.1 a0 with ⟨k, hk, rfl⟩ | hx
  · rw [c_hasG1 hE hN0.2.1 hk, m_isG1 hE hN0.2.2.2.1 hk]
    simp only [i10, i00, decide_true, decide_false, cnd_t, cnd_f, gd_nil, gd_t, b1_0, b1_1, sw_nil, sw_cons, obs, fX10_in]
    rw [e99]
    rcases rng0 a1 99 (by decide) with ⟨c, hc, rfl⟩ | hy
    · rw [in_t hc (by decide)]
      obtain ⟨⟨n, hn, e1, e2, hl⟩, hb⟩ := h0.2.2.1
      rw [Nat.zero_add] at e2
      simp (disch := first | omega | decide) only [i10, i00, decide_true, decide_false, cnd_t, cnd_f, gd_nil, gd_t, b1_0, b1_1, sw_nil, sw_cons, obs, nI_lt0, nI_le2, hc, b01_t, ix_o, nc_o, e2, nI_eqo]
      unfold fX4_add
      rw [e1]
      simp (disch := first | omega | decide) only [i10, i00, decide_true, decide_false, cnd_t, cnd_f, gd_nil, gd_t, b1_0, b1_1, sw_nil, sw_cons, obs, nI_lt0, nI_lto]
      by_cases e8 : n = 8
      · have e8' : ¬ n < 8 := by omega
        simp only [e8, e8', i10, i00, decide_true, decide_false, cnd_t, cnd_f, gd_nil, gd_t, b1_0, b1_1, sw_nil, sw_cons, obs, Nat.lt_irrefl]
        exact ⟨_, u, _, rfl, rfl, Z, s, h0⟩
      · have e8' : n < 8 := by omega
        obtain ⟨x, hx⟩ : ∃ x : Bool, a2 = b01 x := by
          rcases ha2 with e | e
          · exact ⟨false, e⟩
          · exact ⟨true, e⟩
        -- the class
        have f1 : Fr (fun a _ => 46 ≤ a ∧ a < 50) u (sI (sI (sI (sI u 47 n (nI k)) 48 n (nI c)) 49 n a2) 46 3 (nI (n + 1))) := Fr.trans (Fr.trans (Fr.trans (Fr.sI ⟨by omega, by omega⟩) (Fr.sI ⟨by omega, by omega⟩)) (Fr.sI ⟨by omega, by omega⟩)) (Fr.sI ⟨by omega, by omega⟩)
        have g1 : Fr (fun a k => a = 16 ∧ 22 ≤ k ∧ k < 47) (sI v 0 0 0) (sI (sI (sI (sI (sI v 0 0 0) 16 (23 + 3 * n) (nI k)) 16 (24 + 3 * n) (nI c)) 16 (25 + 3 * n) a2) 16 22 (nI (n + 1))) := Fr.trans (Fr.trans (Fr.trans (Fr.sI ⟨rfl, by omega, by omega⟩) (Fr.sI ⟨rfl, by omega, by omega⟩)) (Fr.sI ⟨rfl, by omega, by omega⟩)) (Fr.sI ⟨rfl, by omega, by omega⟩)
        have hse : seR Z 46 0 (sI (sI (sI (sI u 47 n (nI k)) 48 n (nI c)) 49 n a2) 46 3 (nI (n + 1))) (sI (sI (sI (sI (sI v 0 0 0) 16 (23 + 3 * n) (nI k)) 16 (24 + 3 * n) (nI c)) 16 (25 + 3 * n) a2) 16 22 (nI (n + 1))) := by
          refine ⟨⟨n + 1, by omega, by rw [sI_at, if_pos ⟨rfl, rfl⟩], by rw [sI_at, if_pos ⟨rfl, by omega⟩], fun i hi => ?_⟩, fun i hi => ?_⟩
          · by_cases ei : i = n
            · subst ei
              refine ⟨k, c, x, hk, hc, ?_, ?_, ?_, ?_, ?_, ?_⟩
              · rw [sI_at, if_neg (by omega), sI_at, if_neg (by omega), sI_at, if_neg (by omega), sI_at, if_pos ⟨rfl, rfl⟩]
              · rw [sI_at, if_neg (by omega), sI_at, if_neg (by omega), sI_at, if_neg (by omega), sI_at, if_pos ⟨rfl, by omega⟩]
              · rw [sI_at, if_neg (by omega), sI_at, if_neg (by omega), sI_at, if_pos ⟨rfl, rfl⟩]
              · rw [sI_at, if_neg (by omega), sI_at, if_neg (by omega), sI_at, if_pos ⟨rfl, by omega⟩]
              · rw [sI_at, if_neg (by omega), sI_at, if_pos ⟨rfl, rfl⟩, hx]
              · rw [sI_at, if_neg (by omega), sI_at, if_pos ⟨rfl, by omega⟩, hx]
            · obtain ⟨k', c', x', b1, b2, b3, b4, b5, b6, b7, b8⟩ := hl i (by omega)
              refine ⟨k', c', x', b1, b2, ?_, ?_, ?_, ?_, ?_, ?_⟩
              · rw [sI_at, if_neg (by omega), sI_at, if_neg (by omega), sI_at, if_neg (by omega), sI_at, if_neg (by omega)]; exact b3
              · rw [sI_at, if_neg (by omega), sI_at, if_neg (by omega), sI_at, if_neg (by omega), sI_at, if_neg (by omega)]; exact b4
              · rw [sI_at, if_neg (by omega), sI_at, if_neg (by omega), sI_at, if_neg (by omega), sI_at, if_neg (by omega)]; exact b5
              · rw [sI_at, if_neg (by omega), sI_at, if_neg (by omega), sI_at, if_neg (by omega), sI_at, if_neg (by omega)]; exact b6
              · rw [sI_at, if_neg (by omega), sI_at, if_neg (by omega), sI_at, if_neg (by omega), sI_at, if_neg (by omega)]; exact b7
              · rw [sI_at, if_neg (by omega), sI_at, if_neg (by omega), sI_at, if_neg (by omega), sI_at, if_neg (by omega)]; exact b8
          · by_cases ei : i = n
            · subst ei
              exact ⟨x, by rw [sI_at, if_neg (by omega), sI_at, if_pos ⟨rfl, rfl⟩, hx]⟩
            · obtain ⟨x', b1⟩ := hb i hi
              exact ⟨x', by rw [sI_at, if_neg (by omega), sI_at, if_neg (by omega), sI_at, if_neg (by omega), sI_at, if_neg (by omega)]; exact b1⟩
        have hb1 : ab_b1 a2 = true := by rw [hx]; exact b1_b x
        simp only [e8, e8', i10, i00, decide_true, decide_false, cnd_t, cnd_f, gd_nil, gd_t, b1_0, b1_1, sw_nil, sw_cons, obs]
        rw [c_put e8' (by decide)]
        simp only [obs]
        have e46 : (sI u (46 + 1) n (nI k)).1 46 3 = nI n := by rw [sI_at, if_neg (by omega)]; exact e1
        rw [e46, c_put e8' (by decide)]
        have e46b : (sI (sI u (46 + 1) n (nI k)) (46 + 2) n (nI c)).1 46 3 = nI n := by rw [sI_at, if_neg (by omega)]; exact e46
        have e46c : (sI (sI (sI u (46 + 1) n (nI k)) (46 + 2) n (nI c)) (46 + 3) n a2).1 46 3 = nI n := by rw [sI_at, if_neg (by omega)]; exact e46b
        simp (disch := first | omega | decide) only [obs, e46b, ix_nI, nc_nI, hb1, gd_t, gd_nil, e46c, nI_addo, i10, i00, decide_true, decide_false, cnd_t, cnd_f, gd_nil, gd_t, b1_0, b1_1, sw_nil, sw_cons, obs, nI_omul, nI_oadd]
        have hres : InvZ Z s (sI (sI (sI (sI u 47 n (nI k)) 48 n (nI c)) 49 n a2) 46 3 (nI (n + 1))) (sI (sI (sI (sI (sI v 0 0 0) 16 (23 + 3 * n) (nI k)) 16 (24 + 3 * n) (nI c)) 16 (25 + 3 * n) a2) 16 22 (nI (n + 1))) := by
          obtain ⟨h1, h2, h3, h4, h5, h6, h7, h8, h9, h10⟩ := h0
          refine ⟨⟨h1.1, h1.2.1.fr f1 (fun a k a1 a2 z => by have := h1.2.2.1; omega), h1.2.2.1, h1.2.2.2.1.fr g1 (fun a k a1 a2 z => by omega), h1.2.2.2.2.1.fr f1 (fun a k a1 a2 z => by omega), h1.2.2.2.2.2.1.fr g1 (fun k a1 z => by omega), h1.2.2.2.2.2.2⟩, h2.fr f1 g1 (fun a k a1 a2 z => by omega) (fun k a1 z => by omega), hse, h4.fr f1 g1 (fun a k a1 a2 z => by omega) ⟨by omega, by omega⟩ (by omega) (fun k a1 a2 z => by omega), h5.fr f1 g1 (fun a k a1 a2 z => by omega) (fun k z => by omega) (fun k a1 a2 z => by omega), h6.fr f1 (fun a k a1 z => by omega), h7.fr f1 g1 (fun a k a1 a2 z => by omega) h10 (fun k => ⟨by omega, by omega⟩) (by omega), h8.fr g1 (fun k z => by omega), h9.fr f1 g1 (by omega) (fun k z => by omega) (by omega) (fun k z => by omega), h10.fr f1⟩
        have m24 : 23 + 3 * n + 1 = 24 + 3 * n := by omega
        have m25 : 23 + 3 * n + 2 = 25 + 3 * n := by omega
        rcases ha2 with e | e
        · subst e
          unfold fX10_see_86
          simp (disch := first | omega | decide) only [i10, i00, decide_true, decide_false, cnd_t, cnd_f, gd_nil, gd_t, b1_0, b1_1, sw_nil, sw_cons, obs, nI_addo, m24, m25, ix_nI, nc_nI, ix_o, nc_o]
          refine ⟨_, _, _, rfl, ?_, Z, s, hres⟩
          rw [sI_at, if_neg (by omega), sI_at, if_neg (by omega), sI_at, if_neg (by omega), e2, nI_addo]
        · subst e
          unfold fX10_see_86
          simp (disch := first | omega | decide) only [i10, i00, decide_true, decide_false, cnd_t, cnd_f, gd_nil, gd_t, b1_0, b1_1, sw_nil, sw_cons, obs, nI_addo, m24, m25, ix_nI, nc_nI, ix_o, nc_o]
          refine ⟨_, _, _, rfl, ?_, Z, s, hres⟩
          rw [sI_at, if_neg (by omega), sI_at, if_neg (by omega), sI_at, if_neg (by omega), e2, nI_addo]
    · rcases hy with hy | ⟨hy1, hy2⟩
      · simp only [hy, i10, i00, decide_true, decide_false, cnd_t, cnd_f, gd_nil, gd_t, b1_0, b1_1, sw_nil, sw_cons, obs, Bool.not_true, Bool.false_and, b01_f]
        exact ⟨_, u, _, rfl, rfl, Z, s, h0⟩
      · simp only [hy1, hy2, i10, i00, decide_true, decide_false, cnd_t, cnd_f, gd_nil, gd_t, b1_0, b1_1, sw_nil, sw_cons, obs, Bool.not_false, Bool.and_false, b01_f]
        exact ⟨_, u, _, rfl, rfl, Z, s, h0⟩
  · rw [c_hasG0 hN0.2.1 hx, m_isG0 hE hN0.2.2.2.1 hx]
    simp only [i10, i00, decide_true, decide_false, cnd_t, cnd_f, gd_nil, gd_t, b1_0, b1_1, sw_nil, sw_cons, obs]
    exact ⟨_, u, _, rfl, rfl, Z, s, h0⟩
-- ===== marks =====
theorem c_seen24 {o0 o1 : Nat} (hd : o0 + 4 ≤ o1 ∨ o1 + 4 ≤ o0) : ∀ (d k n : Nat) (u : ab_S), k + d = 8 → d < n → (∀ i, i < 8 → ∃ x : Bool, u.1 (o1 + 3) i = b01 x) → (∀ i, i < k → u.1 (o0 + 3) i = u.1 (o1 + 3) i) → ∃ u', fX4_copyOf_24 o0 o1 n (nI k) u = some ((), u') ∧ (∀ i, i < 8 → u'.1 (o0 + 3) i = u.1 (o1 + 3) i) ∧ u'.1 o0 3 = u.1 o1 3 ∧ Fr (fun a _ => a = o0 + 3 ∨ a = o0) u u' := by
  intro d
  induction d with
  | zero =>
    intro k n u hk hn hb hi
    obtain ⟨n, rfl⟩ : ∃ j, n = j + 1 := ⟨n - 1, by omega⟩
    have e : k = 8 := by omega
    subst e
    refine ⟨sI u o0 3 (u.1 o1 3), ?_, fun i h8 => by rw [sI_at, if_neg (by omega)]; exact hi i h8, by rw [sI_at, if_pos ⟨rfl, rfl⟩], Fr.sI (Or.inr rfl)⟩
    rw [fX4_copyOf_24]
    simp (disch := first | omega | decide) only [i10, i00, decide_true, decide_false, cnd_t, cnd_f, gd_nil, gd_t, b1_0, b1_1, sw_nil, sw_cons, obs, nI_lto, Nat.lt_irrefl]
  | succ d ih =>
    intro k n u hk hn hb hi
    obtain ⟨n, rfl⟩ : ∃ j, n = j + 1 := ⟨n - 1, by omega⟩
    have hk8 : k < 8 := by omega
    obtain ⟨x, hx⟩ := hb k hk8
    have f : Fr (fun a _ => a = o0 + 3 ∨ a = o0) u (sI u (o0 + 3) k (u.1 (o1 + 3) k)) := Fr.sI (Or.inl rfl)
    obtain ⟨u', q1, q2, q3, q4⟩ := ih (k + 1) n (sI u (o0 + 3) k (u.1 (o1 + 3) k)) (by omega) (by omega) (fun i h8 => by rw [sI_at, if_neg (by omega)]; exact hb i h8) (fun i hik => by
      by_cases e : i = k
      · subst e
        rw [sI_at, if_pos ⟨rfl, rfl⟩, sI_at, if_neg (by omega)]
      · rw [sI_at, if_neg (by omega), sI_at, if_neg (by omega)]; exact hi i (by omega))
    refine ⟨u', ?_, fun i h8 => by rw [q2 i h8, sI_at, if_neg (by omega)], by rw [q3, sI_at, if_neg (by omega)], f.trans q4⟩
    have hb1 : ab_b1 (u.1 (o1 + 3) k) = true := by rw [hx]; exact b1_b x
    rw [fX4_copyOf_24]
    simp (disch := first | omega | decide) only [i10, i00, decide_true, decide_false, cnd_t, cnd_f, gd_nil, gd_t, b1_0, b1_1, sw_nil, sw_cons, obs, nI_lto, hk8, ix_nI, nc_nI, hb1, nI_addo]
    exact q1
theorem c_seenCopy {o0 o1 b : Nat} (hd : o0 + 4 ≤ o1 ∨ o1 + 4 ≤ o0) (h : seR Z o1 b u v) : ∃ u', fX4_copyOf o0 o1 u = some ((), u') ∧ Fc o0 u u' ∧ seR Z o0 b u' v := by
  obtain ⟨⟨n, h1, h2, h3, h4⟩, h5⟩ := h
  obtain ⟨u1, q1, a1, f1⟩ := c_copy (u := u) (n := 8) (a := o1 + 1) (c := o0 + 1) (by omega) (by decide)
  obtain ⟨u2, q2, a2, f2⟩ := c_copy (u := u1) (n := 8) (a := o1 + 2) (c := o0 + 2) (by omega) (by decide)
  obtain ⟨u3, q3, a3, a4, f3⟩ := c_seen24 (u := u2) hd 8 0 fu rfl (by decide) (fun i hi => by
    rw [f2.1 _ _ (by omega), f1.1 _ _ (by omega)]
    exact h5 i hi) (fun i hi => absurd hi (Nat.not_lt_zero i))
  have e3 : ∀ i, i < 8 → u3.1 (o0 + 3) i = u.1 (o1 + 3) i := fun i hi => by rw [a3 i hi, f2.1 _ _ (by omega), f1.1 _ _ (by omega)]
  have e2 : ∀ i, i < 8 → u3.1 (o0 + 2) i = u.1 (o1 + 2) i := fun i hi => by rw [f3.1 _ _ (by omega), a2 i hi, f1.1 _ _ (by omega)]
  have e1 : ∀ i, i < 8 → u3.1 (o0 + 1) i = u.1 (o1 + 1) i := fun i hi => by rw [f3.1 _ _ (by omega), f2.1 _ _ (by omega), a1 i hi]
  have e4 : u3.1 o0 3 = u.1 o1 3 := by rw [a4, f2.1 _ _ (by omega), f1.1 _ _ (by omega)]
  refine ⟨u3, ?_, ?_, ⟨⟨n, h1, by rw [e4]; exact h2, h3, fun i hi => ?_⟩, fun i hi => by rw [e3 i hi]; exact h5 i hi⟩⟩
  · unfold fX4_copyOf
    rw [q1]
    simp only [obs]
    rw [q2]
    simp only [obs]
    exact q3
  · refine Fr.trans (f1.mono ?_) (Fr.trans (f2.mono ?_) (f3.mono ?_)) <;> (intro a k z; exact ⟨by omega, by omega⟩)
  · rw [e1 i (by omega), e2 i (by omega), e3 i (by omega)]
    exact h4 i hi
theorem seR.mv {q b b' : Nat} (h : seR Z q b u v) {w : ab_S} (e : ∀ k, 22 ≤ k → k < 47 → w.1 16 (b' + k) = v.1 16 (b + k)) : seR Z q b' u w := by
  obtain ⟨⟨n, h1, h2, h3, h4⟩, h5⟩ := h
  refine ⟨⟨n, h1, h2, by rw [e 22 (by omega) (by omega)]; exact h3, fun i hi => ?_⟩, h5⟩
  obtain ⟨k, c, x, a1, a2, a3, a4, a5, a6, a7, a8⟩ := h4 i hi
  refine ⟨k, c, x, a1, a2, a3, ?_, a5, ?_, a7, ?_⟩
  · rw [show b' + 23 + 3 * i = b' + (23 + 3 * i) by omega, e _ (by omega) (by omega), ← Nat.add_assoc]; exact a4
  · rw [show b' + 24 + 3 * i = b' + (24 + 3 * i) by omega, e _ (by omega) (by omega), ← Nat.add_assoc]; exact a6
  · rw [show b' + 25 + 3 * i = b' + (25 + 3 * i) by omega, e _ (by omega) (by omega), ← Nat.add_assoc]; exact a8
theorem i_S46 (u v : ab_S) (a0 a1 : Int32) (h : Inv u v) : ∃ (r : Int32) (u1 v1 : ab_S), fX9_mark a0 a1 u = some (r, u1) ∧ fX10_mark a0 a1 v = some (r, v1) ∧ Inv u1 v1 := by
  obtain ⟨Z, s, h⟩ := h
  have h0 := h.th
  have h00 := h0
  have e3 : (3 : Int32) = nI 3 := rfl
  unfold fX9_mark fX10_mark
  simp only [fX10_in, obs, e3]
  rcases rng0 a0 3 (by decide) with ⟨j, hj, rfl⟩ | hx
  · have hj4 : j < 4 := by omega
    rw [in_t hj (by decide)]
    obtain ⟨x, m1, m2, m3⟩ := h0.2.2.2.2.1 j hj4
    obtain ⟨h1, h2, h3, h4, h5, h6, h7, h8, h9, h10⟩ := h0
    have ho := h1.2.2.1
    have ho6 : 6 ≤ u.2.2 0 := by
      rcases h10.1 with z | z <;> omega
    simp (disch := first | omega | decide) only [i10, i00, decide_true, decide_false, cnd_t, cnd_f, gd_nil, gd_t, b1_0, b1_1, sw_nil, sw_cons, obs, nI_lt0, nI_lto, hj4, b01_t, ix_nI, nc_nI, m1, m2, b01_0]
    by_cases ea : a1 = 0
    · -- laid
      subst ea
      obtain ⟨u1, q1, f1, s1⟩ := c_copyOf (o0 := 116 + 4 * j) (Or.inr (by omega)) h1.2.2.2.2.1
      have hse1 : seR Z 46 0 u1 (sI v 0 0 0) := h3.fr (E := fun _ _ => False) f1 Fr.rfl' (fun a k a1 a2 z => by omega) (fun _ _ _ z => z)
      obtain ⟨u2, q2, f2, s2⟩ := c_seenCopy (o0 := 133 + 4 * j) (Or.inr (by omega)) hse1
      have g1 : Fr (fun a k => a = 17 ∧ k = j) (sI v 0 0 0) (sI (sI v 0 0 0) 17 j 1) := Fr.sI ⟨rfl, rfl⟩
      obtain ⟨v2, w1, w2, w3⟩ := m_copy (v := sI (sI v 0 0 0) 17 j 1) (f := 0) (t := 47 * (1 + j)) (n := 47) (Or.inl (by omega)) (by omega) (by omega)
      obtain ⟨n, w, hn, hw, u10, v25, u9, hun⟩ := h4
      have g3 : Fr (fun a k => a = 0 ∧ k = 25) v2 (sI v2 0 25 (v2.1 0 25)) := Fr.sI ⟨rfl, rfl⟩
      have f3 : Fr (fun a k => a = 149 ∧ k = j) u2 (sI u2 149 j 1) := Fr.sI ⟨rfl, rfl⟩
      have fA : Fr (fun a k => (116 + 4 * j ≤ a ∧ a < 120 + 4 * j) ∨ ((133 + 4 * j ≤ a ∧ a < 137 + 4 * j) ∨ (a = 149 ∧ k = j))) u (sI u2 149 j 1) := (f1.mono fun a k z => Or.inl (by omega)).trans ((f2.mono fun a k z => Or.inr (Or.inl (by omega))).trans (f3.mono fun a k z => Or.inr (Or.inr z)))
      have gA : Fr (fun a k => (a = 17 ∧ k = j) ∨ ((a = 16 ∧ 47 * (1 + j) ≤ k ∧ k < 47 * (1 + j) + 47) ∨ (a = 0 ∧ k = 25))) (sI v 0 0 0) (sI v2 0 25 (v2.1 0 25)) := (g1.mono fun a k z => Or.inl z).trans ((w3.mono fun a k z => Or.inr (Or.inl z)).trans (g3.mono fun a k z => Or.inr (Or.inr z)))
      have e25 : (sI v2 0 25 (v2.1 0 25)).1 0 25 = nI n := by
        rw [sI_at, if_pos ⟨rfl, rfl⟩, w3.1 _ _ (by omega), sI_at, if_neg (by omega)]
        exact v25
      unfold fX9_mark_72 fX10_mark_29 fX10_mark_51 fX10_mark_65
      have ew : (47 : Int32) * (1 + nI j) = nI (47 * (1 + j)) := by simp only [nI_oadd, nI_omul]
      have w1' : fX10_copies 0 (nI (47 * (1 + j))) 47 (sI (sI v 0 0 0) 17 j 1) = some ((), v2) := w1
      simp (disch := first | omega | decide) only [i10, i00, decide_true, decide_false, cnd_t, cnd_f, gd_nil, gd_t, b1_0, b1_1, sw_nil, sw_cons, obs, q1, q2, ix_nI, nc_nI, ew, w1']
      refine ⟨_, _, _, rfl, rfl, Z, s, ⟨h1.1, by rw [fA.2.2]; exact h1.2.1.fr fA (fun a k a1 a2 z => by rcases z with z | z | z <;> omega), by rw [fA.2.2]; exact ho, h1.2.2.2.1.fr gA (fun a k a1 a2 z => by rcases z with z | z | z <;> omega), h1.2.2.2.2.1.fr fA (fun a k a1 a2 z => by rcases z with z | z | z <;> omega), h1.2.2.2.2.2.1.fr gA (fun k a1 z => by rcases z with z | z | z <;> omega), h1.2.2.2.2.2.2⟩, h2.fr fA gA (fun a k a1 a2 z => by rcases z with z | z | z <;> omega) (fun k a1 z => by rcases z with z | z | z <;> omega), h3.fr fA gA (fun a k a1 a2 z => by rcases z with z | z | z <;> omega) (fun k a1 a2 z => by rcases z with z | z | z <;> omega), ⟨n, w, hn, hw, by rw [fA.1 _ _ (by omega)]; exact u10, e25, by rw [fA.1 _ _ (by omega)]; exact u9, fun i hi => ?_⟩, ?_, h6.fr fA (fun a k a1 z => by rcases z with z | z | z <;> omega), h7.fr fA gA (fun a k a1 a2 z => by rcases z with z | z | z <;> omega) h10 (fun k => ⟨by omega, by omega⟩) (by omega), h8.fr gA (fun k z => by omega), h9.fr fA gA (by omega) (fun k z => by omega) (by omega) (fun k z => by omega), h10.fr fA⟩
      · obtain ⟨s', b1, b2, b3⟩ := hun i hi
        exact ⟨s', b1, b2.fr fA (fun a k a1 a2 z => by rcases z with z | z | z <;> omega), b3.fr gA (fun k a1 z => by rcases z with z | z | z <;> omega)⟩
      · intro i hi
        by_cases ei : i = j
        · subst ei
          refine ⟨true, by rw [sI_at, if_pos ⟨rfl, rfl⟩]; rfl, ?_, fun _ => ⟨s, h1.2.2.2.2.2.2, ?_, ?_, ?_⟩⟩
          · rw [sI_at, if_neg (by omega), w3.1 _ _ (by omega), sI_at, if_pos ⟨rfl, rfl⟩]; rfl
          · exact (s1.fr f2 (fun a k a1 a2 z => by omega)).fr f3 (fun a k a1 a2 z => by omega)
          · intro k hk
            rw [sI_at, if_neg (by omega), w2 k (by omega), sI_at, if_neg (by omega)]
            exact h1.2.2.2.2.2.1 k hk
          · have := s2.mv (w := sI v2 0 25 (v2.1 0 25)) (b' := 47 * (1 + i)) (fun k a1 a2 => by
              rw [sI_at, if_neg (by omega), w2 k (by omega), sI_at, if_neg (by omega)])
            exact this.fr (E := fun _ _ => False) f3 Fr.rfl' (fun a k a1 a2 z => by omega) (fun _ _ _ z => z)
        · obtain ⟨x', b1, b2, b3⟩ := h5 i hi
          refine ⟨x', by rw [fA.1 _ _ (by omega)]; exact b1, by rw [gA.1 _ _ (by omega)]; exact b2, fun hx' => ?_⟩
          obtain ⟨s', c1, c2, c3, c4⟩ := b3 hx'
          exact ⟨s', c1, c2.fr fA (fun a k a1 a2 z => by rcases z with z | z | z <;> omega), c3.fr gA (fun k a1 z => by rcases z with z | z | z <;> omega), c4.fr fA gA (fun a k a1 a2 z => by rcases z with z | z | z <;> omega) (fun k a1 a2 z => by rcases z with z | z | z <;> omega)⟩
    · simp only [ea, i10, i00, decide_true, decide_false, cnd_t, cnd_f, gd_nil, gd_t, b1_0, b1_1, sw_nil, sw_cons, obs]
      cases hxx : x
      · simp only [i10, i00, decide_true, decide_false, cnd_t, cnd_f, gd_nil, gd_t, b1_0, b1_1, sw_nil, sw_cons, obs]
        exact ⟨_, u, _, rfl, rfl, Z, s, h00⟩
      · -- back
        subst hxx
        obtain ⟨s', c1, c2, c3, c4⟩ := m3 rfl
        obtain ⟨u1, q1, f1, s1⟩ := c_copyOf (o0 := 38) (Or.inl (by omega)) c2
        have hse1 : seR Z (133 + 4 * j) (47 * (1 + j)) u1 (sI v 0 0 0) := c4.fr (E := fun _ _ => False) f1 Fr.rfl' (fun a k a1 a2 z => by omega) (fun _ _ _ z => z)
        obtain ⟨u2, q2, f2, s2⟩ := c_seenCopy (o0 := 46) (Or.inl (by omega)) hse1
        have g1 : Fr (fun a k => a = 17 ∧ k = j) (sI v 0 0 0) (sI (sI v 0 0 0) 17 j 1) := Fr.sI ⟨rfl, rfl⟩
        obtain ⟨v2, w1, w2, w3⟩ := m_copy (v := sI (sI v 0 0 0) 17 j 1) (f := 47 * (1 + j)) (t := 0) (n := 47) (Or.inr (by omega)) (by omega) (by omega)
        have g3 : Fr (fun a k => a = 0 ∧ k = 25) v2 (sI v2 0 25 0) := Fr.sI ⟨rfl, rfl⟩
        have f3 : Fr (fun a k => a = 0 ∧ k = 10) u2 (sI u2 0 10 0) := Fr.sI ⟨rfl, rfl⟩
        have fA : Fr (fun a k => (38 ≤ a ∧ a < 42) ∨ ((46 ≤ a ∧ a < 50) ∨ (a = 0 ∧ k = 10))) u (sI u2 0 10 0) := (f1.mono fun a k z => Or.inl (by omega)).trans ((f2.mono fun a k z => Or.inr (Or.inl (by omega))).trans (f3.mono fun a k z => Or.inr (Or.inr z)))
        have gA : Fr (fun a k => (a = 17 ∧ k = j) ∨ ((a = 16 ∧ k < 47) ∨ (a = 0 ∧ k = 25))) (sI v 0 0 0) (sI v2 0 25 0) := (g1.mono fun a k z => Or.inl z).trans ((w3.mono fun a k z => Or.inr (Or.inl (by omega))).trans (g3.mono fun a k z => Or.inr (Or.inr z)))
        obtain ⟨n, w, hn, hw, u10, v25, u9, hun⟩ := h4
        unfold fX9_mark_72 fX10_mark_29 fX10_mark_51 fX10_mark_65
        have ew : (47 : Int32) * (1 + nI j) = nI (47 * (1 + j)) := by simp only [nI_oadd, nI_omul]
        have w1' : fX10_copies (nI (47 * (1 + j))) 0 47 (sI (sI v 0 0 0) 17 j 1) = some ((), v2) := w1
        simp (disch := first | omega | decide) only [i10, i00, decide_true, decide_false, cnd_t, cnd_f, gd_nil, gd_t, b1_0, b1_1, sw_nil, sw_cons, obs, ea, Bool.true_eq_false, q1, q2, ix_nI, nc_nI, ew, w1']
        refine ⟨_, _, _, rfl, rfl, Z, s', ⟨h1.1, by rw [fA.2.2]; exact h1.2.1.fr fA (fun a k a1 a2 z => by rcases z with z | z | z <;> omega), by rw [fA.2.2]; exact ho, h1.2.2.2.1.fr gA (fun a k a1 a2 z => by rcases z with z | z | z <;> omega), (s1.fr f2 (fun a k a1 a2 z => by omega)).fr f3 (fun a k a1 a2 z => by omega), ?_, c1⟩, h2.fr fA gA (fun a k a1 a2 z => by rcases z with z | z | z <;> omega) (fun k a1 z => by rcases z with z | z | z <;> omega), ?_, ⟨0, w, by omega, hw, by rw [sI_at, if_pos ⟨rfl, rfl⟩]; rfl, by rw [sI_at, if_pos ⟨rfl, rfl⟩]; rfl, by rw [fA.1 _ _ (by omega)]; exact u9, fun i hi => absurd hi (Nat.not_lt_zero i)⟩, ?_, h6.fr fA (fun a k a1 z => by rcases z with z | z | z <;> omega), h7.fr fA gA (fun a k a1 a2 z => by rcases z with z | z | z <;> omega) h10 (fun k => ⟨by omega, by omega⟩) (by omega), h8.fr gA (fun k z => by omega), h9.fr fA gA (by omega) (fun k z => by omega) (by omega) (fun k z => by omega), h10.fr fA⟩
        · intro k hk
          rw [sI_at, if_neg (by omega), w2 k (by omega), sI_at, if_neg (by omega)]
          exact c3 k hk
        · have := s2.mv (w := sI v2 0 25 0) (b' := 0) (fun k a1 a2 => by
            rw [sI_at, if_neg (by omega), w2 k (by omega), sI_at, if_neg (by omega)])
          exact this.fr (E := fun _ _ => False) f3 Fr.rfl' (fun a k a1 a2 z => by omega) (fun _ _ _ z => z)
        · intro i hi
          obtain ⟨x', b1, b2, b3⟩ := h5 i hi
          refine ⟨x', by rw [fA.1 _ _ (by omega)]; exact b1, ?_, fun hx' => ?_⟩
          · by_cases ei : i = j
            · subst ei
              have ex : x' = true := by
                have := b1.symm.trans m1
                revert this
                cases x' <;> decide +kernel
              rw [sI_at, if_neg (by omega), w3.1 _ _ (by omega), sI_at, if_pos ⟨rfl, rfl⟩, ex]
              rfl
            · rw [gA.1 _ _ (by omega)]; exact b2
          · obtain ⟨s'', d1, d2, d3, d4⟩ := b3 hx'
            exact ⟨s'', d1, d2.fr fA (fun a k a1 a2 z => by rcases z with z | z | z <;> omega), d3.fr gA (fun k a1 z => by rcases z with z | z | z <;> omega), d4.fr fA gA (fun a k a1 a2 z => by rcases z with z | z | z <;> omega) (fun k a1 a2 z => by rcases z with z | z | z <;> omega)⟩
  · have h34 : ¬ a0 < 0 → ¬ a0 ≤ nI 3 → ¬ a0 < 4 := by
      intro x1 x2 x3
      have x3 : a0 < nI 4 := x3
      obtain ⟨k, hk, rfl⟩ := (nI_inR (by decide)).mp ⟨x1, x3⟩
      exact x2 (nI_le (by omega) (by decide))
    rcases hx with hy | ⟨hy1, hy2⟩
    · simp only [hy, i10, i00, decide_true, decide_false, cnd_t, cnd_f, gd_nil, gd_t, b1_0, b1_1, sw_nil, sw_cons, obs, Bool.not_true, Bool.false_and, b01_f]
      exact ⟨_, u, _, rfl, rfl, Z, s, h0⟩
    · have hy3 := h34 hy1 hy2
      simp only [hy1, hy2, hy3, i10, i00, decide_true, decide_false, cnd_t, cnd_f, gd_nil, gd_t, b1_0, b1_1, sw_nil, sw_cons, obs, Bool.not_false, Bool.and_false, b01_f]
      exact ⟨_, u, _, rfl, rfl, Z, s, h0⟩
end PU
