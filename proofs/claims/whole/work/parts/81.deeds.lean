/-! what is done by hand, undone, marked, seen -/
def dRu (a k : Nat) : Prop := (51 ≤ a ∧ a < 115) ∨ (a = 0 ∧ (k = 9 ∨ k = 10))
def dRv (a k : Nat) : Prop := (a = 16 ∧ 235 ≤ k ∧ k < 987) ∨ (a = 0 ∧ k = 25)
def dOu (a k : Nat) : Prop := (38 ≤ a ∧ a < 42) ∨ ((51 ≤ a ∧ a < 115) ∨ (a = 0 ∧ (k = 9 ∨ k = 10)))
def dOv (a k : Nat) : Prop := a = 14 ∨ (a = 15 ∨ ((a = 16 ∧ (k < 22 ∨ (235 ≤ k ∧ k < 987))) ∨ (a = 0 ∧ (k = 0 ∨ k = 25))))
section PU
variable {Z : dZ} {s : Nat → Int32} {u v u' v' : ab_S}
theorem InvZ.op {s' : Nat → Int32} (h : InvZ Z s u v) (f : Fr dOu u u') (g : Fr dOv v v') (hc : pc_S 38 s' u') (hs : pm_S 0 s' v') (hv : pv_S Z s') (hU : pUn Z u' v') : InvZ Z s' u' v' := by
  obtain ⟨h1, h2, h3, h4, h5, h6, h7, h8, h9, h10⟩ := h
  have dn : ∀ a k, (a < 38 ∨ (42 ≤ a ∧ a < 51) ∨ 115 ≤ a) → (a ≠ 0 ∨ (k ≠ 9 ∧ k ≠ 10)) → ¬ dOu a k := by
    intro a k z z2 q
    rcases q with q | q | q <;> omega
  have en : ∀ a k, (a ≠ 14 ∧ a ≠ 15 ∧ (a ≠ 16 ∨ (22 ≤ k ∧ k < 235)) ∧ (a ≠ 0 ∨ (k ≠ 0 ∧ k ≠ 25))) → ¬ dOv a k := by
    intro a k z q
    rcases q with q | q | q | q <;> omega
  have e2 : u'.2.2 = u.2.2 := f.2.2
  have ho : u.2.2 0 = 6 ∨ u.2.2 0 = 18 := by
    rcases h10.1 with h | h
    · exact Or.inl h.1
    · exact Or.inr h.1
  refine ⟨⟨h1.1, ?_, ?_, h1.2.2.2.1.fr g (fun a k a1 a2 => en _ _ (by omega)), hc, hs, hv⟩, h2.fr f g (fun a k a1 a2 => dn _ _ (by omega) (by omega)) (fun k a1 => en _ _ (by omega)), h3.fr f g (fun a k a1 a2 => dn _ _ (by omega) (by omega)) (fun k a1 a2 => en _ _ (by omega)), hU, h5.fr f g (fun a k a1 a2 => dn _ _ (by omega) (by omega)) (fun k => en _ _ (by omega)) (fun k a1 a2 => en _ _ (by omega)), h6.fr f (fun a k a1 => dn _ _ (by omega) (by omega)), h7.fr f g (fun a k a1 a2 => dn _ _ (by omega) (by omega)) h10 (fun k => ⟨en _ _ (by omega), en _ _ (by omega)⟩) (en _ _ (by omega)), h8.fr g (fun k => en _ _ (by omega)), h9.fr f g (dn _ _ (by omega) (by omega)) (fun k => dn _ _ (by omega) (by omega)) (en _ _ (by omega)) (fun k => en _ _ (by omega)), h10.fr f⟩
  · rw [e2]
    exact h1.2.1.fr f (fun a k a1 a2 => dn _ _ (by omega) (by omega))
  · rw [e2]; exact h1.2.2.1
theorem Fr.ru {u' : ab_S} (f : Fr dRu u u') : Fr dOu u u' := f.mono fun a k z => Or.inr z
theorem Fr.rv {v' : ab_S} (f : Fr dRv v v') : Fr dOv v v' := f.mono fun a k z => by
  rcases z with z | z
  · exact Or.inr (Or.inr (Or.inl ⟨z.1, Or.inr z.2⟩))
  · exact Or.inr (Or.inr (Or.inr ⟨z.1, Or.inr z.2⟩))
theorem Fc.ou (f : Fc 38 u u') : Fr dOu u u' := f.mono fun a k z => Or.inl z
theorem Fm.ov (f : Fm 0 v v') : Fr dOv v v' := f.mono fun a k z => by
  rcases z with z | z | z
  · exact Or.inl z
  · exact Or.inr (Or.inl z)
  · exact Or.inr (Or.inr (Or.inl ⟨z.1, Or.inl (by omega)⟩))
theorem th_ov {x : Int32} : Fr dOv v (sI v 0 0 x) := Fr.sI (Or.inr (Or.inr (Or.inr ⟨rfl, Or.inl rfl⟩)))
-- ===== remember =====
theorem m_shift (S : Nat → Nat → Int32) : ∀ (d k n : Nat) (v : ab_S), k + d = 16 → d < n → 1 ≤ k → v.1 0 25 = 16 → (∀ j, j + 1 < k → pm_S (47 * (5 + j)) (S (j + 1)) v) → (∀ j, k ≤ j → j < 16 → pm_S (47 * (5 + j)) (S j) v) → ∃ v', fX10_keeps_11 n (nI k) v = fX10_keeps_53 (sI v' 0 25 15) ∧ (∀ j, j < 15 → pm_S (47 * (5 + j)) (S (j + 1)) v') ∧ Fr dRv v v' := by
  intro d
  induction d with
  | zero =>
    intro k n v hk hn h1 h25 ha hb
    obtain ⟨n, rfl⟩ : ∃ j, n = j + 1 := ⟨n - 1, by omega⟩
    have e : k = 16 := by omega
    subst e
    refine ⟨v, ?_, fun j hj => ha j (by omega), Fr.rfl'⟩
    rw [fX10_keeps_11, h25]
    have e15 : (16 : Int32) - 1 = 15 := by decide +kernel
    simp (disch := first | omega | decide) only [i10, i00, decide_true, decide_false, cnd_t, cnd_f, gd_nil, gd_t, b1_0, b1_1, sw_nil, sw_cons, obs, nI_lto, Nat.lt_irrefl, e15]
  | succ d ih =>
    intro k n v hk hn h1 h25 ha hb
    obtain ⟨n, rfl⟩ : ∃ j, n = j + 1 := ⟨n - 1, by omega⟩
    have hk16 : k < 16 := by omega
    obtain ⟨v1, q1, f1, s1⟩ := m_copyS (f := 47 * (5 + k)) (t := 47 * (5 + (k - 1))) (Or.inr (by omega)) (by omega) (by omega) (hb k (Nat.le_refl k) hk16)
    have f1' : Fr dRv v v1 := f1.mono fun a j z => Or.inl ⟨z.1, by omega, by omega⟩
    obtain ⟨v', w1, w2, w3⟩ := ih (k + 1) n v1 (by omega) (by omega) (by omega) (by rw [f1.1 _ _ (by omega)]; exact h25) (fun j hj => by
      by_cases e : j + 1 = k
      · have ej : j = k - 1 := by omega
        subst ej
        rw [show k - 1 + 1 = k by omega]
        exact s1
      · exact (ha j (by omega)).fr f1 (fun i hi z => by omega)) (fun j hj hj16 => (hb j (by omega) hj16).fr f1 (fun i hi z => by omega))
    refine ⟨v', ?_, w2, f1'.trans w3⟩
    have e1 : 47 * (5 + nI k) = nI (47 * (5 + k)) := by simp only [nI_oadd, nI_omul]
    have e2 : 47 * (5 + nI k - 1) = nI (47 * (5 + (k - 1))) := by
      rw [nI_oadd, show (1 : Int32) = nI 1 from rfl, nI_sub (by omega), nI_omul]
      congr 2
      omega
    have q1' : fX10_copies (nI (47 * (5 + k))) (nI (47 * (5 + (k - 1)))) 22 v = some ((), v1) := q1
    rw [fX10_keeps_11, e1, e2, q1']
    simp (disch := first | omega | decide) only [i10, i00, decide_true, decide_false, cnd_t, cnd_f, gd_nil, gd_t, b1_0, b1_1, sw_nil, sw_cons, obs, nI_lto, hk16, nI_addo]
    exact w1
theorem m_keep53 {n : Nat} (hn : n ≤ 15) (h : v.1 0 25 = nI n) (hs : pm_S 0 s v) : ∃ v', fX10_keeps_53 v = some ((), v') ∧ v'.1 0 25 = nI (n + 1) ∧ pm_S (47 * (5 + n)) s v' ∧ Fr (fun a k => (a = 16 ∧ 47 * (5 + n) ≤ k ∧ k < 47 * (5 + n) + 22) ∨ (a = 0 ∧ k = 25)) v v' := by
  obtain ⟨v1, q1, f1, s1⟩ := m_copyS (f := 0) (t := 47 * (5 + n)) (Or.inl (by omega)) (by omega) (by omega) hs
  have f2 : Fr (fun a k => (a = 16 ∧ 47 * (5 + n) ≤ k ∧ k < 47 * (5 + n) + 22) ∨ (a = 0 ∧ k = 25)) v1 (sI v1 0 25 (nI (n + 1))) := Fr.sI (Or.inr ⟨rfl, rfl⟩)
  refine ⟨sI v1 0 25 (nI (n + 1)), ?_, by rw [sI_at, if_pos ⟨rfl, rfl⟩], s1.fr (D := fun a _ => a = 0) (Fr.sI rfl) (fun i hi z => by omega), (f1.mono fun a k z => Or.inl z).trans f2⟩
  have e1 : 47 * (5 + nI n) = nI (47 * (5 + n)) := by simp only [nI_oadd, nI_omul]
  have q1' : fX10_copies 0 (nI (47 * (5 + n))) 22 v = some ((), v1) := q1
  unfold fX10_keeps_53
  rw [h, e1, q1']
  simp only [obs]
  rw [f1.1 0 25 (by omega), h, nI_addo]
theorem remember_rel (hU : pUn Z u v) (hc : pc_S 38 s u) (hs : pm_S 0 s v) (hv : pv_S Z s) : ∃ u' v', fX9_remember u = some ((), u') ∧ fX10_keeps v = some ((), v') ∧ pUn Z u' v' ∧ Fr dRu u u' ∧ Fr dRv v v' := by
  obtain ⟨n, w, hn, hw, h1, h2, h3, h4⟩ := hU
  -- the class
  have hcl : ∃ w', w' < 16 ∧ (w' = w + 1 ∨ (w = 15 ∧ w' = 0)) ∧ ∃ u', fX9_remember u = some ((), u') ∧ u'.1 0 9 = nI w' ∧ u'.1 0 10 = nI (if n = 16 then 16 else n + 1) ∧ pc_S (51 + 4 * w') s u' ∧ Fr (fun a k => (51 + 4 * w' ≤ a ∧ a < 51 + 4 * w' + 4) ∨ (a = 0 ∧ (k = 9 ∨ k = 10))) u u' := by
    have go : ∀ w', w' < 16 → ∃ u', fX9_remember_24 (nI w') u = some ((), u') ∧ u'.1 0 9 = nI w' ∧ u'.1 0 10 = nI (if n = 16 then 16 else n + 1) ∧ pc_S (51 + 4 * w') s u' ∧ Fr (fun a k => (51 + 4 * w' ≤ a ∧ a < 51 + 4 * w' + 4) ∨ (a = 0 ∧ (k = 9 ∨ k = 10))) u u' := by
      intro w' hw'
      obtain ⟨u1, q1, f1, s1⟩ := c_copyOf (o0 := 51 + 4 * w') (Or.inr (by omega)) hc
      have e10 : u1.1 0 10 = nI n := by rw [f1.1 _ _ (by omega)]; exact h1
      have f2 : Fr (fun a k => (51 + 4 * w' ≤ a ∧ a < 51 + 4 * w' + 4) ∨ (a = 0 ∧ (k = 9 ∨ k = 10))) u1 (sI (sI u1 0 9 (nI w')) 0 10 (nI (if n = 16 then 16 else n + 1))) := Fr.trans (Fr.sI (Or.inr ⟨rfl, Or.inl rfl⟩)) (Fr.sI (Or.inr ⟨rfl, Or.inr rfl⟩))
      refine ⟨sI (sI u1 0 9 (nI w')) 0 10 (nI (if n = 16 then 16 else n + 1)), ?_, by rw [sI_at, if_neg (by omega), sI_at, if_pos ⟨rfl, rfl⟩], by rw [sI_at, if_pos ⟨rfl, rfl⟩], s1.fr (D := fun a _ => a = 0) (Fr.trans (Fr.sI rfl) (Fr.sI rfl)) (fun a k a1 a2 z => by omega), (f1.mono fun a k z => Or.inl z).trans f2⟩
      have e9 : (sI u1 0 9 (nI w')).1 0 10 = nI n := by rw [sI_at, if_neg (by omega)]; exact e10
      unfold fX9_remember_24
      simp (disch := first | omega | decide) only [i10, i00, decide_true, decide_false, cnd_t, cnd_f, gd_nil, gd_t, b1_0, b1_1, sw_nil, sw_cons, obs, Nat.not_lt_zero, nI_lto, hw', ix_nI, nc_nI, q1, e9, nI_addo, nI_olt]
      congr 3
      by_cases e : n = 16
      · subst e
        rw [if_pos (by omega), if_pos rfl]
        rfl
      · rw [if_neg (by omega), if_neg e]
    unfold fX9_remember
    rw [h3]
    simp (disch := first | omega | decide) only [nI_addo, nI_lto]
    by_cases e : w + 1 < 16
    · simp only [e, i10, i00, decide_true, decide_false, cnd_t, cnd_f, gd_nil, gd_t, b1_0, b1_1, sw_nil, sw_cons, obs]
      exact ⟨w + 1, e, Or.inl rfl, go (w + 1) e⟩
    · simp only [e, i10, i00, decide_true, decide_false, cnd_t, cnd_f, gd_nil, gd_t, b1_0, b1_1, sw_nil, sw_cons, obs]
      exact ⟨0, by omega, Or.inr ⟨by omega, rfl⟩, go 0 (by omega)⟩
  obtain ⟨w', hw', hww, u', q1, e9, e10, sN, f1⟩ := hcl
  have f1' : Fr dRu u u' := f1.mono fun a k z => by
    rcases z with z | z
    · exact Or.inl (by omega)
    · exact Or.inr z
  have old : ∀ j, 1 ≤ j → j < 16 → j ≤ n → ∃ s', pv_S Z s' ∧ pc_S (51 + 4 * ((w' + 16 - j) % 16)) s' u' ∧ pm_S (47 * (5 + (n - j))) s' v := by
    intro j a1 a2 a3
    obtain ⟨s', b1, b2, b3⟩ := h4 (j - 1) (by omega)
    have e1 : (w' + 16 - j) % 16 = (w + 16 - (j - 1)) % 16 := by omega
    have e2 : n - 1 - (j - 1) = n - j := by omega
    rw [e2] at b3
    rw [e1]
    exact ⟨s', b1, b2.fr f1 (fun a k c1 c2 z => by omega), b3⟩
  have e00 : (w' + 16 - 0) % 16 = w' := by omega
  by_cases e : n = 16
  · subst e
    obtain ⟨v1, q2, p2, f2⟩ := m_shift (fun j k => v.1 16 (47 * (5 + j) + k)) 15 1 fu v rfl (by decide) (Nat.le_refl _) h2 (fun j hj => absurd hj (by omega)) (fun j _ _ k hk => rfl)
    have f2b : Fr dRv v1 (sI v1 0 25 15) := Fr.sI (Or.inr ⟨rfl, rfl⟩)
    have hs1 : pm_S 0 s (sI v1 0 25 15) := (hs.fr f2 (fun k hk z => by rcases z with z | z <;> omega)).fr f2b (fun k hk z => by rcases z with z | z <;> omega)
    obtain ⟨v', q3, e25, s3, f3⟩ := m_keep53 (n := 15) (Nat.le_refl _) (by rw [sI_at, if_pos ⟨rfl, rfl⟩]; rfl) hs1
    have f3' : Fr dRv (sI v1 0 25 15) v' := f3.mono fun a k z => by
      rcases z with z | z
      · exact Or.inl ⟨z.1, by omega, by omega⟩
      · exact Or.inr z
    refine ⟨u', v', q1, ?_, ⟨16, w', by omega, hw', e10, e25, e9, fun j hj => ?_⟩, f1', f2.trans (f2b.trans f3')⟩
    · unfold fX10_keeps
      rw [h2]
      have h16 : (nI 16 = (16 : Int32)) = True := eq_true rfl
      simp only [h16, i10, i00, decide_true, decide_false, cnd_t, cnd_f, gd_nil, gd_t, b1_0, b1_1, sw_nil, sw_cons, obs]
      have q2' : fX10_keeps_11 fu 1 v = fX10_keeps_53 (sI v1 0 25 15) := q2
      rw [q2', q3]
    · by_cases ej : j = 0
      · subst ej
        rw [e00]
        exact ⟨s, hv, sN, s3⟩
      · obtain ⟨s', b1, b2, b3⟩ := old j (by omega) hj (by omega)
        refine ⟨s', b1, b2, ?_⟩
        have p3 := p2 (15 - j) (by omega)
        intro k hk
        rw [show 16 - 1 - j = 15 - j by omega, f3.1 16 _ (by omega), sI_at, if_neg (by omega), p3 k hk]
        show v.1 16 (47 * (5 + (15 - j + 1)) + k) = s' k
        rw [show 15 - j + 1 = 16 - j by omega]
        exact b3 k hk
  · obtain ⟨v', q3, e25, s3, f3⟩ := m_keep53 (show n ≤ 15 by omega) h2 hs
    have f3' : Fr dRv v v' := f3.mono fun a k z => by
      rcases z with z | z
      · exact Or.inl ⟨z.1, by omega, by omega⟩
      · exact Or.inr z
    rw [if_neg e] at e10
    refine ⟨u', v', q1, ?_, ⟨n + 1, w', by omega, hw', e10, e25, e9, fun j hj => ?_⟩, f1', f3'⟩
    · unfold fX10_keeps
      rw [h2]
      simp (disch := first | omega | decide) only [nI_eqo, e, i10, i00, decide_true, decide_false, cnd_t, cnd_f, gd_nil, gd_t, b1_0, b1_1, sw_nil, sw_cons, obs]
      exact q3
    · by_cases ej : j = 0
      · subst ej
        rw [e00, show n + 1 - 1 - 0 = n by omega]
        exact ⟨s, hv, sN, s3⟩
      · obtain ⟨s', b1, b2, b3⟩ := old j (by omega) (by omega) (by omega)
        rw [show n + 1 - 1 - j = n - j by omega]
        exact ⟨s', b1, b2, b3.fr f3 (fun k hk z => by omega)⟩
theorem InvZ.th (h : InvZ Z s u v) : InvZ Z s u (sI v 0 0 0) := h.qu Fr.rfl' th_mu
-- ===== buy =====
theorem i_S6 (u v : ab_S) (a0 : Int32) (h : Inv u v) : ∃ (r : Int32) (u1 v1 : ab_S), fX9_buy a0 u = some (r, u1) ∧ fX10_buy a0 v = some (r, v1) ∧ Inv u1 v1 := by
  obtain ⟨Z, s, h⟩ := h
  have h0 := h.th
  have hN0 := h0.1
  have hE := hN0.1
  have hp6 := hE.1
  unfold fX9_buy fX10_buy
  rcases isP Z hE.1 a0 with ⟨p, hp, rfl⟩ | hx
  · have mb : fX10_mayBuy 0 (nI p) (sI v 0 0 0) = some (b01 (buyS s p), sI v 0 0 0) := m_mayBuy (b := 0) hN0.2.2.2.2.2.1 (by decide) (by omega)
    rw [c_hasP1 hE hN0.2.1 hp, m_isP1 hE hN0.2.2.2.1 hp]
    simp only [i10, i00, decide_true, decide_false, cnd_t, cnd_f, gd_nil, gd_t, b1_0, b1_1, sw_nil, sw_cons, obs, mb]
    rw [c_canBuy hN0.2.2.2.2.1 (by omega)]
    simp only [i10, i00, decide_true, decide_false, cnd_t, cnd_f, gd_nil, gd_t, b1_0, b1_1, sw_nil, sw_cons, obs, b01_0]
    cases hb : buyS s p
    · simp only [i10, i00, decide_true, decide_false, cnd_t, cnd_f, gd_nil, gd_t, b1_0, b1_1, sw_nil, sw_cons, obs]
      exact ⟨_, u, _, rfl, rfl, Z, s, h0⟩
    · simp only [i10, i00, decide_true, decide_false, cnd_t, cnd_f, gd_nil, gd_t, b1_0, b1_1, sw_nil, sw_cons, obs, Bool.true_eq_false]
      obtain ⟨u1, v1, q1, q2, hU, f1, f2⟩ := remember_rel h0.2.2.2.1 hN0.2.2.2.2.1 hN0.2.2.2.2.2.1 hN0.2.2.2.2.2.2
      have hc1 : pc_S 38 s u1 := hN0.2.2.2.2.1.fr f1 (fun a k a1 a2 z => by rcases z with z | z <;> omega)
      have hs1 : pm_S 0 s v1 := hN0.2.2.2.2.2.1.fr f2 (fun k a1 z => by rcases z with z | z <;> omega)
      obtain ⟨u2, q3, f3, s3⟩ := c_buy hc1 (show p < 6 by omega)
      obtain ⟨v2, q4, f4, s4⟩ := m_buy hs1 (show 0 ≤ 1050 by decide) (show p < 6 by omega)
      have q4' : fX10_buys 0 (nI p) v1 = some ((), v2) := q4
      have hU2 : pUn Z u2 v2 := hU.fr f3 f4 (fun a k a1 a2 z => by omega) ⟨by omega, by omega⟩ (by intro z; rcases z with z | z | z <;> omega) (fun k a1 a2 z => by rcases z with z | z | z <;> omega)
      rw [q1, q2]
      simp only [obs, q3, q4']
      rw [c_tick s3 (by omega)]
      simp (disch := first | omega | decide) only [i10, i00, decide_true, decide_false, cnd_t, cnd_f, gd_nil, gd_t, b1_0, b1_1, sw_nil, sw_cons, obs, nI_oadd, ix_nI, nc_nI, s4.at (k := 16 + p) (by omega) (show 16 + p = 0 + (16 + p) by omega)]
      exact ⟨_, u2, v2, rfl, rfl, Z, _, h0.op ((Fr.ru f1).trans (Fc.ou f3)) ((Fr.rv f2).trans (Fm.ov f4)) s3 s4 (hN0.2.2.2.2.2.2.buy hE hp hb) hU2⟩
  · rw [c_hasP0 hN0.2.1 hx, m_isP0 hE hN0.2.2.2.1 hx]
    simp only [i10, i00, decide_true, decide_false, cnd_t, cnd_f, gd_nil, gd_t, b1_0, b1_1, sw_nil, sw_cons, obs]
    exact ⟨_, u, _, rfl, rfl, Z, s, h0⟩
-- ===== swap =====
theorem i_S7 (u v : ab_S) (a0 a1 : Int32) (h : Inv u v) : ∃ (r : Int32) (u1 v1 : ab_S), fX9_swap a0 a1 u = some (r, u1) ∧ fX10_swap a0 a1 v = some (r, v1) ∧ Inv u1 v1 := by
  obtain ⟨Z, s, h⟩ := h
  have h0 := h.th
  have hN0 := h0.1
  have hE := hN0.1
  have hg8 := hE.2.1
  unfold fX9_swap fX10_swap
  rcases isG Z hE.2.1 a0 with ⟨k, hk, rfl⟩ | hx
  · rw [c_hasG1 hE hN0.2.1 hk, m_isG1 hE hN0.2.2.2.1 hk]
    simp only [i10, i00, decide_true, decide_false, cnd_t, cnd_f, gd_nil, gd_t, b1_0, b1_1, sw_nil, sw_cons, obs]
    rcases isG Z hE.2.1 a1 with ⟨j, hj, rfl⟩ | hy
    · rw [c_hasG1 hE hN0.2.1 hj, m_isG1 hE hN0.2.2.2.1 hj]
      simp only [i10, i00, decide_true, decide_false, cnd_t, cnd_f, gd_nil, gd_t, b1_0, b1_1, sw_nil, sw_cons, obs]
      rw [c_canTrade hE hN0.2.1 hN0.2.2.2.2.2.2 hN0.2.2.2.2.1 hk hj]
      simp (disch := first | omega | decide) only [i10, i00, decide_true, decide_false, cnd_t, cnd_f, gd_nil, gd_t, b1_0, b1_1, sw_nil, sw_cons, obs, b01_0, nI_eq2]
      by_cases ekj : k = j
      · subst ekj
        have hf : tradeS Z s k k = false := by
          unfold tradeS
          simp only [decide_true, Bool.not_true, Bool.and_false, Bool.false_and]
        simp only [hf, i10, i00, decide_true, decide_false, cnd_t, cnd_f, gd_nil, gd_t, b1_0, b1_1, sw_nil, sw_cons, obs]
        exact ⟨_, u, _, rfl, rfl, Z, s, h0⟩
      · simp only [ekj, i10, i00, decide_true, decide_false, cnd_t, cnd_f, gd_nil, gd_t, b1_0, b1_1, sw_nil, sw_cons, obs]
        have hw : Wp (fX10_maySwap 0 (nI k) (nI j) (sI v 0 0 0)) (fun r w => r = b01 (tradeS Z s k j) ∧ Sc (sI v 0 0 0) w) := m_maySwap (b := 0) hE hN0.2.2.2.1 hN0.2.2.2.2.2.2 hN0.2.2.2.2.2.1 (by decide) hk hj fun w s' => ⟨rfl, s'⟩
        obtain ⟨r, v0, q6, q7, s0'⟩ := hw
        subst q7
        have h1 : InvZ Z s u v0 := h0.qu Fr.rfl' (Sc.mu s0')
        have hN1 := h1.1
        rw [q6]
        simp only [i10, i00, decide_true, decide_false, cnd_t, cnd_f, gd_nil, gd_t, b1_0, b1_1, sw_nil, sw_cons, obs, b01_0]
        cases hb : tradeS Z s k j
        · simp only [i10, i00, decide_true, decide_false, cnd_t, cnd_f, gd_nil, gd_t, b1_0, b1_1, sw_nil, sw_cons, obs]
          exact ⟨_, u, v0, rfl, rfl, Z, s, h1⟩
        · simp only [i10, i00, decide_true, decide_false, cnd_t, cnd_f, gd_nil, gd_t, b1_0, b1_1, sw_nil, sw_cons, obs, Bool.true_eq_false]
          obtain ⟨u1, v1, q1, q2, hU, f1, f2⟩ := remember_rel h1.2.2.2.1 hN1.2.2.2.2.1 hN1.2.2.2.2.2.1 hN1.2.2.2.2.2.2
          have hc1 : pc_S 38 s u1 := hN1.2.2.2.2.1.fr f1 (fun a k a1 a2 z => by rcases z with z | z <;> omega)
          have hs1 : pm_S 0 s v1 := hN1.2.2.2.2.2.1.fr f2 (fun k a1 z => by rcases z with z | z <;> omega)
          obtain ⟨u2, q3, f3, s3⟩ := c_trade hc1 (show k < 8 by omega) (show j < 8 by omega)
          obtain ⟨v2, q4, f4, s4⟩ := m_swaps hs1 (show 0 ≤ 1050 by decide) (show k < 8 by omega) (show j < 8 by omega)
          have q4' : fX10_swaps 0 (nI k) (nI j) v1 = some ((), v2) := q4
          have hU2 : pUn Z u2 v2 := hU.fr f3 f4 (fun a k a1 a2 z => by omega) ⟨by omega, by omega⟩ (by intro z; rcases z with z | z | z <;> omega) (fun k a1 a2 z => by rcases z with z | z | z <;> omega)
          rw [q1, q2]
          simp only [obs, q3, q4', i10, i00, decide_true, decide_false, cnd_t, cnd_f, gd_nil, gd_t, b1_0, b1_1, sw_nil, sw_cons, obs]
          exact ⟨_, u2, v2, rfl, rfl, Z, _, h1.op ((Fr.ru f1).trans (Fc.ou f3)) ((Fr.rv f2).trans (Fm.ov f4)) s3 s4 (hN1.2.2.2.2.2.2.trade hE hk hj) hU2⟩
    · rw [c_hasG0 hN0.2.1 hy, m_isG0 hE hN0.2.2.2.1 hy]
      simp only [i10, i00, decide_true, decide_false, cnd_t, cnd_f, gd_nil, gd_t, b1_0, b1_1, sw_nil, sw_cons, obs]
      exact ⟨_, u, _, rfl, rfl, Z, s, h0⟩
  · rw [c_hasG0 hN0.2.1 hx, m_isG0 hE hN0.2.2.2.1 hx]
    simp only [i10, i00, decide_true, decide_false, cnd_t, cnd_f, gd_nil, gd_t, b1_0, b1_1, sw_nil, sw_cons, obs]
    exact ⟨_, u, _, rfl, rfl, Z, s, h0⟩
-- ===== bring =====
theorem i_S8 (u v : ab_S) (a0 : Int32) (h : Inv u v) : ∃ (r : Int32) (u1 v1 : ab_S), fX9_bring a0 u = some (r, u1) ∧ fX10_bring a0 v = some (r, v1) ∧ Inv u1 v1 := by
  obtain ⟨Z, s, h⟩ := h
  have h0 := h.th
  have hN0 := h0.1
  have hE := hN0.1
  have hg8 := hE.2.1
  have hp6 := hE.1
  unfold fX9_bring fX10_bring
  rcases isG Z hE.2.1 a0 with ⟨k, hk, rfl⟩ | hx
  · have e2 := hN0.2.2.2.2.2.1.at (k := 2 + k) (by omega) (show 2 + k = 0 + (2 + k) by omega)
    rw [c_hasG1 hE hN0.2.1 hk, m_isG1 hE hN0.2.2.2.1 hk]
    simp (disch := first | omega | decide) only [i10, i00, decide_true, decide_false, cnd_t, cnd_f, gd_nil, gd_t, b1_0, b1_1, sw_nil, sw_cons, obs, nI_oadd, ix_nI, nc_nI, e2]
    rw [c_hold hN0.2.2.2.2.1 (by omega)]
    simp only [obs]
    rcases hN0.2.2.2.2.2.2.1 k hk with z | ⟨p, hp, z⟩
    · rw [z]
      simp only [m1lt0, i10, i00, decide_true, decide_false, cnd_t, cnd_f, gd_nil, gd_t, b1_0, b1_1, sw_nil, sw_cons, obs]
      exact ⟨_, u, _, rfl, rfl, Z, s, h0⟩
    · rw [z]
      simp (disch := first | omega | decide) only [nI_lt0, nI_nm1, i10, i00, decide_true, decide_false, cnd_t, cnd_f, gd_nil, gd_t, b1_0, b1_1, sw_nil, sw_cons, obs]
      obtain ⟨u1, v1, q1, q2, hU, f1, f2⟩ := remember_rel h0.2.2.2.1 hN0.2.2.2.2.1 hN0.2.2.2.2.2.1 hN0.2.2.2.2.2.2
      have hc1 : pc_S 38 s u1 := hN0.2.2.2.2.1.fr f1 (fun a k a1 a2 z => by rcases z with z | z <;> omega)
      have hs1 : pm_S 0 s v1 := hN0.2.2.2.2.2.1.fr f2 (fun k a1 z => by rcases z with z | z <;> omega)
      obtain ⟨u2, q3, f3, s3⟩ := c_place hc1 (show k < 8 by omega) (x := -1)
      have f4 : Fm 0 v1 (sI v1 16 (2 + k) (-1)) := Fm.put (k := 2 + k) (by omega) (by omega)
      have s4 : pm_S 0 (su s (2 + k) (-1)) (sI v1 16 (2 + k) (-1)) := hs1.put (by omega)
      have hU2 : pUn Z u2 (sI v1 16 (2 + k) (-1)) := hU.fr f3 f4 (fun a k a1 a2 z => by omega) ⟨by omega, by omega⟩ (by intro z; rcases z with z | z | z <;> omega) (fun k a1 a2 z => by rcases z with z | z | z <;> omega)
      have e3 := hs1.at (k := 2 + k) (by omega) (show 2 + k = 0 + (2 + k) by omega)
      rw [q1, q2]
      simp (disch := first | omega | decide) only [i10, i00, decide_true, decide_false, cnd_t, cnd_f, gd_nil, gd_t, b1_0, b1_1, sw_nil, sw_cons, obs, ix_nI, nc_nI, e3]
      rw [c_hold hc1 (by omega)]
      simp only [obs, q3, i10, i00, decide_true, decide_false, cnd_t, cnd_f, gd_nil, gd_t, b1_0, b1_1, sw_nil, sw_cons, obs]
      exact ⟨_, u2, _, rfl, rfl, Z, _, h0.op ((Fr.ru f1).trans (Fc.ou f3)) ((Fr.rv f2).trans (Fm.ov f4)) s3 s4 (hN0.2.2.2.2.2.2.hold hE hk (Or.inl rfl)) hU2⟩
  · rw [c_hasG0 hN0.2.1 hx, m_isG0 hE hN0.2.2.2.1 hx]
    simp only [i10, i00, decide_true, decide_false, cnd_t, cnd_f, gd_nil, gd_t, b1_0, b1_1, sw_nil, sw_cons, obs]
    exact ⟨_, u, _, rfl, rfl, Z, s, h0⟩
-- ===== quarter =====
theorem i_S9 (u v : ab_S) (h : Inv u v) : ∃ (r : Int32) (u1 v1 : ab_S), fX9_quarter u = some (r, u1) ∧ fX10_quarter v = some (r, v1) ∧ Inv u1 v1 := by
  obtain ⟨Z, s, h⟩ := h
  have h0 := h.th
  have hN0 := h0.1
  have hE := hN0.1
  obtain ⟨u1, v1, q1, q2, hU, f1, f2⟩ := remember_rel h0.2.2.2.1 hN0.2.2.2.2.1 hN0.2.2.2.2.2.1 hN0.2.2.2.2.2.2
  have hc1 : pc_S 38 s u1 := hN0.2.2.2.2.1.fr f1 (fun a k a1 a2 z => by rcases z with z | z <;> omega)
  have hs1 : pm_S 0 s v1 := hN0.2.2.2.2.2.1.fr f2 (fun k a1 z => by rcases z with z | z <;> omega)
  have h1 : InvZ Z s u1 v1 := h0.op (Fr.ru f1) (Fr.rv f2) hc1 hs1 hN0.2.2.2.2.2.2 hU
  obtain ⟨r, s', hv', -, ⟨u2, q3, f3, s3⟩, r', v2, q4, e4, f4, s4⟩ := pass_rel (b := 0) hE h1.1.2.2.1 (by decide) h1.1.2.1 h1.1.2.2.2.1 hc1 hs1 hN0.2.2.2.2.2.2
  subst e4
  have q4' : fX10_passes 0 v1 = some (r', v2) := q4
  have hU2 : pUn Z u2 v2 := hU.fr f3 f4 (fun a k a1 a2 z => by omega) ⟨by omega, by omega⟩ (by intro z; rcases z with z | z | z <;> omega) (fun k a1 a2 z => by rcases z with z | z | z <;> omega)
  unfold fX9_quarter fX10_quarter
  rw [q1, q2]
  simp only [obs, q3, q4']
  exact ⟨_, u2, v2, rfl, rfl, Z, s', h1.op (Fc.ou f3) (Fm.ov f4) s3 s4 hv' hU2⟩
-- ===== undo =====
theorem i_S10 (u v : ab_S) (h : Inv u v) : ∃ (r : Int32) (u1 v1 : ab_S), fX9_undo u = some (r, u1) ∧ fX10_undo v = some (r, v1) ∧ Inv u1 v1 := by
  obtain ⟨Z, s, h⟩ := h
  have h0 := h.th
  have hN0 := h0.1
  obtain ⟨n, w, hn, hw, h1, h2, h3, h4⟩ := h0.2.2.2.1
  unfold fX9_undo fX10_undo
  rw [h1, h3]
  rw [h2]
  simp (disch := first | omega | decide) only [nI_leo, nI_eqo, nI_lt0, nI_lto, i10, i00, decide_true, decide_false, cnd_t, cnd_f, gd_nil, gd_t, b1_0, b1_1, sw_nil, sw_cons, obs, hw, ix_nI, nc_nI]
  by_cases e : n = 0
  · subst e
    simp only [Nat.le_refl, i10, i00, decide_true, decide_false, cnd_t, cnd_f, gd_nil, gd_t, b1_0, b1_1, sw_nil, sw_cons, obs]
    exact ⟨_, u, _, rfl, rfl, Z, s, h0⟩
  · have e' : ¬ n ≤ 0 := by omega
    simp only [e, e', i10, i00, decide_true, decide_false, cnd_t, cnd_f, gd_nil, gd_t, b1_0, b1_1, sw_nil, sw_cons, obs]
    obtain ⟨s', hv', hc', hs'⟩ := h4 0 (by omega)
    rw [show (w + 16 - 0) % 16 = w by omega] at hc'
    rw [show n - 1 - 0 = n - 1 by omega] at hs'
    obtain ⟨u1, q1, f1, s1⟩ := c_copyOf (o0 := 38) (Or.inl (by omega)) hc'
    have e1 : nI n - 1 = nI (n - 1) := nI_sub (b := 1) (by omega)
    have g0 : Fr (fun a k => a = 0 ∧ k = 25) (sI v 0 0 0) (sI (sI v 0 0 0) 0 25 (nI (n - 1))) := Fr.sI ⟨rfl, rfl⟩
    have g0' : Fr dOv (sI v 0 0 0) (sI (sI v 0 0 0) 0 25 (nI (n - 1))) := g0.mono fun a k z => Or.inr (Or.inr (Or.inr ⟨z.1, Or.inr z.2⟩))
    obtain ⟨v1, q2, f2, s2⟩ := m_copyS (f := 47 * (5 + (n - 1))) (t := 0) (Or.inr (by omega)) (by omega) (by omega) (hs'.fr g0 (fun k hk z => by omega))
    have f2' : Fr dOv (sI (sI v 0 0 0) 0 25 (nI (n - 1))) v1 := f2.mono fun a k z => Or.inr (Or.inr (Or.inl ⟨z.1, Or.inl (by omega)⟩))
    have e2 : 47 * (5 + nI (n - 1)) = nI (47 * (5 + (n - 1))) := by simp only [nI_oadd, nI_omul]
    have q2' : fX10_copies (nI (47 * (5 + (n - 1)))) 0 22 (sI (sI v 0 0 0) 0 25 (nI (n - 1))) = some ((), v1) := q2
    have e3 : (sI (sI v 0 0 0) 0 25 (nI (n - 1))).1 0 25 = nI (n - 1) := by rw [sI_at, if_pos ⟨rfl, rfl⟩]
    rw [e1, e3, e2, q1, q2']
    have e9 : u1.1 0 9 = nI w := by rw [f1.1 _ _ (by omega)]; exact h3
    have e10 : u1.1 0 10 = nI n := by rw [f1.1 _ _ (by omega)]; exact h1
    have go : ∀ w', w' < 16 → (w' + 1 = w ∨ (w = 0 ∧ w' = 15)) → ∃ (r : Int32) (u2 v2 : ab_S), fX9_undo_76 (nI w') u1 = some (r, u2) ∧ (some ((1 : Int32), v1)) = some (r, v2) ∧ Inv u2 v2 := by
      intro w' hw' hww
      have g1 : Fr (fun a k => a = 0 ∧ (k = 9 ∨ k = 10)) u1 (sI (sI u1 0 9 (nI w')) 0 10 (nI (n - 1))) := Fr.trans (Fr.sI ⟨rfl, Or.inl rfl⟩) (Fr.sI ⟨rfl, Or.inr rfl⟩)
      have e11 : (sI u1 0 9 (nI w')).1 0 10 = nI n := by rw [sI_at, if_neg (by omega)]; exact e10
      unfold fX9_undo_76
      rw [e11, e1]
      simp only [i10, i00, decide_true, decide_false, cnd_t, cnd_f, gd_nil, gd_t, b1_0, b1_1, sw_nil, sw_cons, obs]
      refine ⟨_, _, v1, rfl, rfl, Z, s', h0.op ((Fc.ou f1).trans (g1.mono fun a k z => Or.inr (Or.inr z))) (g0'.trans f2') (s1.fr g1 (fun a k a1 a2 z => by omega)) s2 hv' ⟨n - 1, w', by omega, hw', by rw [sI_at, if_pos ⟨rfl, rfl⟩], ?_, by rw [sI_at, if_neg (by omega), sI_at, if_pos ⟨rfl, rfl⟩], fun j hj => ?_⟩⟩
      · rw [f2.1 _ _ (by omega), e3]
      · obtain ⟨s'', b1, b2, b3⟩ := h4 (j + 1) (by omega)
        have x1 : (w' + 16 - j) % 16 = (w + 16 - (j + 1)) % 16 := by omega
        have x2 : n - 1 - (j + 1) = n - 1 - 1 - j := by omega
        rw [x2] at b3
        rw [x1]
        exact ⟨s'', b1, (b2.fr f1 (fun a k a1 a2 z => by omega)).fr g1 (fun a k a1 a2 z => by omega), (b3.fr g0 (fun k hk z => by omega)).fr f2 (fun k hk z => by omega)⟩
    simp (disch := first | omega | decide) only [i10, i00, decide_true, decide_false, cnd_t, cnd_f, gd_nil, gd_t, b1_0, b1_1, sw_nil, sw_cons, obs, e9, nI_leo]
    by_cases ew : w ≤ 0
    · have e15 : (16 : Int32) - 1 = nI 15 := by decide +kernel
      simp only [ew, i10, i00, decide_true, decide_false, cnd_t, cnd_f, gd_nil, gd_t, b1_0, b1_1, sw_nil, sw_cons, obs, e15]
      exact go 15 (by omega) (Or.inr ⟨by omega, rfl⟩)
    · have ew1 : nI w - 1 = nI (w - 1) := nI_sub (b := 1) (by omega)
      simp only [ew, i10, i00, decide_true, decide_false, cnd_t, cnd_f, gd_nil, gd_t, b1_0, b1_1, sw_nil, sw_cons, obs, ew1]
      exact go (w - 1) (by omega) (Or.inl (by omega))
end PU
