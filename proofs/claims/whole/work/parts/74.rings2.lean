/-! rings: the rounds -/
theorem pc_zero0 : (List.range 64).all (fun m => (m == 0) || decide (0 < pc m)) = true := by decide +kernel
theorem pc_zero {m : Nat} (hm : m < 64) (h : m ≠ 0) : 0 < pc m := by
  have q := List.all_eq_true.mp pc_zero0 m (List.mem_range.mpr hm)
  rw [Bool.or_eq_true, beq_iff_eq, decide_eq_true_eq] at q
  exact q.resolve_left h
theorem bit_of_ne {m : Nat} (h : m ≠ 0) : ∃ p, m.testBit p = true := by
  apply Classical.byContradiction
  intro q
  apply h
  apply bit_ext
  intro k
  rw [Nat.zero_testBit]
  cases e : m.testBit k
  · rfl
  · exact absurd ⟨k, e⟩ q
section PU
variable {Z : dZ} {s : Nat → Int32} {u v : ab_S} {m : Nat}
def kpS (Z : dZ) (s : Nat → Int32) (p : Nat) : Nat := pc (hS Z s (nI p)) - 1
def gdR (Z : dZ) (s : Nat → Int32) (m p a : Nat) : Prop := m.testBit a = true ∧ ∀ j, m.testBit j = true → Z.2.2.2 p (fP Z s j) (kpS Z s p) ≤ Z.2.2.2 p (fP Z s a) (kpS Z s p) ∧ (Z.2.2.2 p (fP Z s j) (kpS Z s p) = Z.2.2.2 p (fP Z s a) (kpS Z s p) → fP Z s a ≤ fP Z s j)
def inR (Z : dZ) (s : Nat → Int32) (m : Nat) : Prop := m < 64 ∧ ∀ p, m.testBit p = true → p < Z.1 ∧ (fG Z s p).isSome = true
theorem gdR.uniq (hE : pE Z) (hm : inR Z s m) {p a c : Nat} (h : gdR Z s m p a) (k : gdR Z s m p c) : a = c := by
  have hp6 := hE.1
  obtain ⟨a1, a2⟩ := hm.2 a h.1
  obtain ⟨c1, c2⟩ := hm.2 c k.1
  have h1 := h.2 c k.1
  have h2 := k.2 a h.1
  have e1 : fP Z s a ≤ fP Z s c := h1.2 (by omega)
  have e2 : fP Z s c ≤ fP Z s a := h2.2 (by omega)
  exact fP_inj (by omega) (by omega) a2 c2 (by omega)
theorem kp_ok (hE : pE Z) {p : Nat} (h : (fG Z s p).isSome = true) : nI (pc (hS Z s (nI p))) - 1 = nI (kpS Z s p) ∧ kpS Z s p < Z.2.1 := by
  obtain ⟨h1, h2, h3⟩ := fG_some h
  obtain ⟨h4, h5⟩ := hS_pos hE h2 h3
  unfold kpS
  exact ⟨nI_pc1 h4, by omega⟩
def chOk (Z : dZ) (s : Nat → Int32) (m p n : Nat) (q : Option (Nat × Nat)) : Prop := (q = none ∧ ∀ j, j < n → m.testBit j = false) ∨ ∃ a, q = some (a, Z.2.2.2 p (fP Z s a) (kpS Z s p)) ∧ a < n ∧ m.testBit a = true ∧ ∀ j, j < n → m.testBit j = true → Z.2.2.2 p (fP Z s j) (kpS Z s p) ≤ Z.2.2.2 p (fP Z s a) (kpS Z s p) ∧ (Z.2.2.2 p (fP Z s j) (kpS Z s p) = Z.2.2.2 p (fP Z s a) (kpS Z s p) → fP Z s a ≤ fP Z s j)
theorem c_pts21 (hE : pE Z) (hO : pc_O Z (u.2.2 0) u) (hm : inR Z s m) (hr : ∀ p, p < Z.1 → u.1 151 p = eO (fG Z s p)) {p : Nat} (hp : m.testBit p = true) : ∀ (d k n : Nat) (q : Option (Nat × Nat)), chOk Z s m p k q → k + d = Z.1 → d < n → ∃ q', chOk Z s m p Z.1 q' ∧ fX3_pointsTo_21 (u.2.2 0) 38 n (nI p) (nI m) (nI (kpS Z s p)) (wb q) (wm q) (nI k) u = some (wb q', u) := by
  have hp6 := hE.1
  have hg := hE.2.1
  have h64 := hm.1
  obtain ⟨pp, ps⟩ := hm.2 p hp
  obtain ⟨-, kk⟩ := kp_ok hE ps
  intro d
  induction d with
  | zero =>
    intro k n q hq hk hn
    obtain ⟨n, rfl⟩ : ∃ i, n = i + 1 := ⟨n - 1, by omega⟩
    have e : k = Z.1 := by omega
    subst e
    refine ⟨q, hq, ?_⟩
    rw [fX3_pointsTo_21, hO.1]
    simp (disch := first | omega | decide) only [i10, i00, decide_true, decide_false, cnd_t, cnd_f, gd_nil, gd_t, b1_0, b1_1, sw_nil, sw_cons, obs, Nat.not_lt_zero, nI_addo, nI_oadd, nI_add, nI_mulo, nI_omul, nI_mul, nI_lto, nI_leo, nI_olt, nI_ole, nI_eqo, nI_oeq, nI_lt2, nI_le2, nI_eq2, nI_nm1, nI_m1n, nI_lt0, nI_lem1, nc_nI, nc_o, ix_nI, ix_o, Nat.lt_irrefl]
  | succ d ih =>
    intro k n q hq hk hn
    obtain ⟨n, rfl⟩ : ∃ i, n = i + 1 := ⟨n - 1, by omega⟩
    have hk8 : k < Z.1 := by omega
    rw [fX3_pointsTo_21, hO.1]
    simp (disch := first | omega | decide) only [i10, i00, decide_true, decide_false, cnd_t, cnd_f, gd_nil, gd_t, b1_0, b1_1, sw_nil, sw_cons, obs, nI_lt2, hk8, zb_b1 (show m < 256 by omega) (show k < 8 by omega)]
    cases hb : m.testBit k
    · simp only [i10, i00, decide_true, decide_false, cnd_t, cnd_f, gd_nil, gd_t, b1_0, b1_1, sw_nil, sw_cons, obs, Bool.false_eq_true, nI_addo]
      refine ih (k + 1) n q ?_ (by omega) (by omega)
      rcases hq with ⟨h1, h2⟩ | ⟨a, h1, h2, h3, h4⟩
      · refine Or.inl ⟨h1, fun j hj => ?_⟩
        by_cases e : j = k
        · subst e; exact hb
        · exact h2 j (by omega)
      · refine Or.inr ⟨a, h1, by omega, h3, fun j hj hjb => ?_⟩
        by_cases e : j = k
        · subst e; rw [hb] at hjb; cases hjb
        · exact h4 j (by omega) hjb
    · obtain ⟨g1, g2, g3⟩ := fG_some (hm.2 k hb).2
      have er : u.1 151 k = nI (fP Z s k) := by rw [hr k hk8, g1]; rfl
      have f1 := hE.2.2.2.2.2.2.2.1 p (fP Z s k) (kpS Z s p)
      simp only [i10, i00, decide_true, decide_false, cnd_t, cnd_f, gd_nil, gd_t, b1_0, b1_1, sw_nil, sw_cons, obs]
      rw [c_at (by omega) (by decide), er]
      simp only [obs]
      rw [c_fitBy hE hO pp g2 kk]
      simp only [obs]
      have take : chOk Z s m p (k + 1) (some (k, Z.2.2.2 p (fP Z s k) (kpS Z s p))) → ∃ q', chOk Z s m p Z.1 q' ∧ fX3_pointsTo_21 (u.2.2 0) 38 n (nI p) (nI m) (nI (kpS Z s p)) (nI k) (nI (Z.2.2.2 p (fP Z s k) (kpS Z s p))) (nI (k + 1)) u = some (wb q', u) := fun hh => ih (k + 1) n (some (k, Z.2.2.2 p (fP Z s k) (kpS Z s p))) hh (by omega) (by omega)
      rcases hq with ⟨h1, h2⟩ | ⟨a, h1, h2, h3, h4⟩
      · subst h1
        simp (disch := first | omega | decide) only [wb, wm, nI_nm1, nI_lem1, i10, i00, decide_true, decide_false, cnd_t, cnd_f, gd_nil, gd_t, b1_0, b1_1, sw_nil, sw_cons, obs, fX3_pointsTo_92, nI_addo]
        refine take (Or.inr ⟨k, rfl, Nat.lt_succ_self k, hb, fun j hj hjb => ?_⟩)
        by_cases e : j = k
        · subst e; exact ⟨Nat.le_refl _, fun _ => Nat.le_refl _⟩
        · rw [h2 j (by omega)] at hjb; cases hjb
      · subst h1
        have f2 := hE.2.2.2.2.2.2.2.1 p (fP Z s a) (kpS Z s p)
        obtain ⟨ga1, ga2, ga3⟩ := fG_some (hm.2 a h3).2
        have era : u.1 151 a = nI (fP Z s a) := by rw [hr a (by omega), ga1]; rfl
        simp (disch := first | omega | decide) only [wb, wm, nI_eq2, fX3_pointsTo_92, nI_addo, nI_le2]
        have keep : (Z.2.2.2 p (fP Z s k) (kpS Z s p) < Z.2.2.2 p (fP Z s a) (kpS Z s p) ∨ (Z.2.2.2 p (fP Z s k) (kpS Z s p) = Z.2.2.2 p (fP Z s a) (kpS Z s p) ∧ fP Z s a ≤ fP Z s k)) → ∃ q', chOk Z s m p Z.1 q' ∧ fX3_pointsTo_21 (u.2.2 0) 38 n (nI p) (nI m) (nI (kpS Z s p)) (nI a) (nI (Z.2.2.2 p (fP Z s a) (kpS Z s p))) (nI (k + 1)) u = some (wb q', u) := fun hh => ih (k + 1) n (some (a, Z.2.2.2 p (fP Z s a) (kpS Z s p))) (Or.inr ⟨a, rfl, by omega, h3, fun j hj hjb => by
          by_cases e : j = k
          · subst e
            exact ⟨by omega, fun z => by omega⟩
          · exact h4 j (by omega) hjb⟩) (by omega) (by omega)
        have take2 : (Z.2.2.2 p (fP Z s a) (kpS Z s p) < Z.2.2.2 p (fP Z s k) (kpS Z s p) ∨ (Z.2.2.2 p (fP Z s k) (kpS Z s p) = Z.2.2.2 p (fP Z s a) (kpS Z s p) ∧ fP Z s k < fP Z s a)) → ∃ q', chOk Z s m p Z.1 q' ∧ fX3_pointsTo_21 (u.2.2 0) 38 n (nI p) (nI m) (nI (kpS Z s p)) (nI k) (nI (Z.2.2.2 p (fP Z s k) (kpS Z s p))) (nI (k + 1)) u = some (wb q', u) := fun hh => take (Or.inr ⟨k, rfl, Nat.lt_succ_self k, hb, fun j hj hjb => by
          by_cases e : j = k
          · subst e
            exact ⟨Nat.le_refl _, fun _ => Nat.le_refl _⟩
          · have h5 := h4 j (by omega) hjb
            refine ⟨by omega, fun z => ?_⟩
            rcases hh with hh | ⟨h6, h7⟩
            · omega
            · have := h5.2 (by omega)
              omega⟩)
        by_cases e : Z.2.2.2 p (fP Z s k) (kpS Z s p) = Z.2.2.2 p (fP Z s a) (kpS Z s p)
        · have ele : Z.2.2.2 p (fP Z s k) (kpS Z s p) ≤ Z.2.2.2 p (fP Z s a) (kpS Z s p) := by omega
          rw [c_at (by omega) (by decide), er]
          simp only [obs]
          rw [c_at (by omega) (by decide), era]
          simp (disch := first | omega | decide) only [obs, nI_lt2]
          by_cases e2 : fP Z s k < fP Z s a
          · simp only [ele, e2, i10, i00, decide_true, decide_false, cnd_t, cnd_f, gd_nil, gd_t, b1_0, b1_1, sw_nil, sw_cons, obs]
            simp only [e, i10, i00, decide_true, decide_false, cnd_t, cnd_f, gd_nil, gd_t, b1_0, b1_1, sw_nil, sw_cons, obs]
            rw [← e]
            exact take2 (Or.inr ⟨e, e2⟩)
          · simp only [ele, e2, i10, i00, decide_true, decide_false, cnd_t, cnd_f, gd_nil, gd_t, b1_0, b1_1, sw_nil, sw_cons, obs]
            simp only [e, i10, i00, decide_true, decide_false, cnd_t, cnd_f, gd_nil, gd_t, b1_0, b1_1, sw_nil, sw_cons, obs]
            exact keep (Or.inr ⟨e, by omega⟩)
        · by_cases e2 : Z.2.2.2 p (fP Z s k) (kpS Z s p) ≤ Z.2.2.2 p (fP Z s a) (kpS Z s p)
          · simp only [e, e2, i10, i00, decide_true, decide_false, cnd_t, cnd_f, gd_nil, gd_t, b1_0, b1_1, sw_nil, sw_cons, obs]
            exact keep (Or.inl (by omega))
          · simp only [e, e2, i10, i00, decide_true, decide_false, cnd_t, cnd_f, gd_nil, gd_t, b1_0, b1_1, sw_nil, sw_cons, obs]
            exact take2 (Or.inl (by omega))
theorem c_pts (hE : pE Z) (hO : pc_O Z (u.2.2 0) u) (hv : pv_S Z s) (hc : pc_S 38 s u) (hm : inR Z s m) (hr : ∀ p, p < Z.1 → u.1 151 p = eO (fG Z s p)) {p : Nat} (hp : m.testBit p = true) : ∃ a, gdR Z s m p a ∧ fX3_pointsTo (u.2.2 0) 38 (nI p) (nI m) u = some (nI a, u) := by
  have hp6 := hE.1
  obtain ⟨pp, ps⟩ := hm.2 p hp
  obtain ⟨kk, -⟩ := kp_ok hE ps
  obtain ⟨q, h1, h2⟩ := c_pts21 hE hO hm hr hp Z.1 0 fu none (Or.inl ⟨rfl, fun j hj => absurd hj (Nat.not_lt_zero j)⟩) (Nat.zero_add _) (by simp only [fu]; omega)
  rcases h1 with ⟨h1, h3⟩ | ⟨a, h1, h3, h4, h5⟩
  · rw [h3 p pp] at hp
    cases hp
  · refine ⟨a, ⟨h4, fun j hj => h5 j (hm.2 j hj).1 hj⟩, ?_⟩
    unfold fX3_pointsTo
    rw [c_bits hE hv hc pp]
    simp only [obs]
    rw [pc_c (hS_lt hE _)]
    simp only [obs, kk]
    rw [h1] at h2
    exact h2
def poC (Z : dZ) (s : Nat → Int32) (m : Nat) (u : ab_S) (n : Nat) : Prop := ∀ p, p < n → m.testBit p = true → ∃ a, gdR Z s m p a ∧ u.1 152 p = nI a
theorem c_round29 {v : ab_S} (hm : inR Z s m) {K : Int32 → Int32 → ab_S → Option (Unit × ab_S)} {r : Int32} {o1 : Nat} : ∀ (d k n : Nat) (u : ab_S), u.2.2 0 = o1 → pN Z s u v → (∀ p, p < Z.1 → u.1 151 p = eO (fG Z s p)) → poC Z s m u k → k + d = Z.1 → d < n → ∃ u', fX3_trade_29 o1 38 K n (nI m) r (nI k) u = ((fX3_handOut o1 (nI m) u').bind fun q1 => K (nI m &&& (q1.1 ^^^ (-1))) (r + 1) (sI q1.2 150 3 ((q1.2.1 150 3) + 1))) ∧ poC Z s m u' Z.1 ∧ Fr (fun a _ => a = 152) u u' := by
  intro d
  induction d with
  | zero =>
    intro k n u eo hN hr hpo hk hn
    obtain ⟨n, rfl⟩ : ∃ i, n = i + 1 := ⟨n - 1, by omega⟩
    subst eo
    obtain ⟨hE, hO, ho, hm1, hc, hs, hv⟩ := hN
    have hp6 := hE.1
    have e : k = Z.1 := by omega
    subst e
    refine ⟨u, ?_, hpo, Fr.rfl'⟩
    rw [fX3_trade_29, hO.1]
    simp (disch := first | omega | decide) only [i10, i00, decide_true, decide_false, cnd_t, cnd_f, gd_nil, gd_t, b1_0, b1_1, sw_nil, sw_cons, obs, Nat.not_lt_zero, nI_addo, nI_oadd, nI_add, nI_mulo, nI_omul, nI_mul, nI_lto, nI_leo, nI_olt, nI_ole, nI_eqo, nI_oeq, nI_lt2, nI_le2, nI_eq2, nI_nm1, nI_m1n, nI_lt0, nI_lem1, nc_nI, nc_o, ix_nI, ix_o, Nat.lt_irrefl]
  | succ d ih =>
    intro k n u eo hN hr hpo hk hn
    obtain ⟨n, rfl⟩ : ∃ i, n = i + 1 := ⟨n - 1, by omega⟩
    subst eo
    have hN' := hN
    obtain ⟨hE, hO, ho, hm1, hc, hs, hv⟩ := hN
    have hp6 := hE.1
    have h64 := hm.1
    have hk8 : k < Z.1 := by omega
    rw [fX3_trade_29, hO.1]
    simp (disch := first | omega | decide) only [i10, i00, decide_true, decide_false, cnd_t, cnd_f, gd_nil, gd_t, b1_0, b1_1, sw_nil, sw_cons, obs, nI_lt2, hk8, zb_b1 (show m < 256 by omega) (show k < 8 by omega)]
    cases hb : m.testBit k
    · simp only [i10, i00, decide_true, decide_false, cnd_t, cnd_f, gd_nil, gd_t, b1_0, b1_1, sw_nil, sw_cons, obs, Bool.false_eq_true, nI_addo]
      refine ih (k + 1) n u rfl hN' hr ?_ (by omega) (by omega)
      intro p hp hpb
      by_cases e : p = k
      · subst e; rw [hb] at hpb; cases hpb
      · exact hpo p (by omega) hpb
    · obtain ⟨a, g, q⟩ := c_pts hE hO hv hc hm hr hb
      simp only [i10, i00, decide_true, decide_false, cnd_t, cnd_f, gd_nil, gd_t, b1_0, b1_1, sw_nil, sw_cons, obs, q]
      rw [c_put (by omega) (by decide)]
      simp only [obs, nI_addo]
      have f : Fr (fun a _ => a = 152) u (sI u 152 k (nI a)) := Fr.sI rfl
      have f2 : Fr dCu u (sI u 152 k (nI a)) := f.mono fun x j z => Or.inr (by omega)
      obtain ⟨u', q1, q2, q3⟩ := ih (k + 1) n (sI u 152 k (nI a)) rfl (hN'.fr f2 Fr.rfl') (fun p hp => by rw [sI_at, if_neg (by omega)]; exact hr p hp) (fun p hp hpb => by
        by_cases e : p = k
        · subst e
          exact ⟨a, g, by rw [sI_at, if_pos ⟨rfl, rfl⟩]⟩
        · obtain ⟨a', g', e'⟩ := hpo p (by omega) hpb
          exact ⟨a', g', by rw [sI_at, if_neg (by omega)]; exact e'⟩) (by omega) (by omega)
      exact ⟨u', q1, q2, f.trans q3⟩
-- the goods that are in
theorem m_110 (hE : pE Z) (hv0 : pm_O Z v) (hm : inR Z s m) (hr : ∀ p, p < Z.1 → v.1 18 p = eO (fG Z s p)) {K : Int32 → Int32 → ab_S → Option (Int32 × ab_S)} {r : Int32} : ∀ (d k n a : Nat), a < 256 → (∀ j, a.testBit j = true ↔ ∃ q, q < k ∧ m.testBit q = true ∧ fP Z s q = j) → k + d = Z.1 → d < n → ∃ G, G < 256 ∧ (∀ j, G.testBit j = true ↔ ∃ q, m.testBit q = true ∧ fP Z s q = j) ∧ fX10_ringsNow_110 K n (nI m) r (nI a) (nI k) v = fX10_ringsNow_154 K fu (nI m) r (nI G) 0 v := by
  have hp6 := hE.1
  have hg := hE.2.1
  have h64 := hm.1
  intro d
  induction d with
  | zero =>
    intro k n a ha hj hk hn
    obtain ⟨n, rfl⟩ : ∃ i, n = i + 1 := ⟨n - 1, by omega⟩
    have e : k = Z.1 := by omega
    subst e
    refine ⟨a, ha, fun j => ?_, ?_⟩
    · rw [hj]
      exact ⟨fun ⟨q, _, h2, h3⟩ => ⟨q, h2, h3⟩, fun ⟨q, h2, h3⟩ => ⟨q, (hm.2 q h2).1, h2, h3⟩⟩
    · rw [fX10_ringsNow_110, m_persons hE hv0]
      simp (disch := first | omega | decide) only [i10, i00, decide_true, decide_false, cnd_t, cnd_f, gd_nil, gd_t, b1_0, b1_1, sw_nil, sw_cons, obs, Nat.not_lt_zero, nI_addo, nI_oadd, nI_add, nI_mulo, nI_omul, nI_mul, nI_lto, nI_leo, nI_olt, nI_ole, nI_eqo, nI_oeq, nI_lt2, nI_le2, nI_eq2, nI_nm1, nI_m1n, nI_lt0, nI_lem1, nc_nI, nc_o, ix_nI, ix_o, Nat.lt_irrefl]
  | succ d ih =>
    intro k n a ha hj hk hn
    obtain ⟨n, rfl⟩ : ∃ i, n = i + 1 := ⟨n - 1, by omega⟩
    have hk8 : k < Z.1 := by omega
    rw [fX10_ringsNow_110, m_persons hE hv0]
    simp (disch := first | omega | decide) only [i10, i00, decide_true, decide_false, cnd_t, cnd_f, gd_nil, gd_t, b1_0, b1_1, sw_nil, sw_cons, obs, nI_lt2, hk8, zb_b1 (show m < 256 by omega) (show k < 8 by omega)]
    cases hb : m.testBit k
    · simp only [i10, i00, decide_true, decide_false, cnd_t, cnd_f, gd_nil, gd_t, b1_0, b1_1, sw_nil, sw_cons, obs, Bool.false_eq_true, nI_addo, Int32.or_zero]
      refine ih (k + 1) n a ha (fun j => ?_) (by omega) (by omega)
      rw [hj]
      constructor
      · rintro ⟨q, h1, h2, h3⟩
        exact ⟨q, by omega, h2, h3⟩
      · rintro ⟨q, h1, h2, h3⟩
        by_cases e : q = k
        · subst e; rw [hb] at h2; cases h2
        · exact ⟨q, by omega, h2, h3⟩
    · obtain ⟨g1, g2, g3⟩ := fG_some (hm.2 k hb).2
      have er : v.1 18 k = nI (fP Z s k) := by rw [hr k hk8, g1]; rfl
      simp (disch := first | omega | decide) only [i10, i00, decide_true, decide_false, cnd_t, cnd_f, gd_nil, gd_t, b1_0, b1_1, sw_nil, sw_cons, obs, ix_nI, nc_nI, er, zb_or ha (show fP Z s k < 8 by omega), nI_addo]
      refine ih (k + 1) n _ (zb_or256 ha (by omega)) (fun j => ?_) (by omega) (by omega)
      rw [Nat.testBit_or, Nat.testBit_two_pow, Bool.or_eq_true, decide_eq_true_eq, hj]
      constructor
      · rintro (⟨q, h1, h2, h3⟩ | h)
        · exact ⟨q, by omega, h2, h3⟩
        · exact ⟨k, by omega, hb, h⟩
      · rintro ⟨q, h1, h2, h3⟩
        by_cases e : q = k
        · subst e; exact Or.inr h3
        · exact Or.inl ⟨q, by omega, h2, h3⟩
def poM (Z : dZ) (s : Nat → Int32) (m : Nat) (v : ab_S) (n : Nat) : Prop := ∀ p, p < n → m.testBit p = true → ∃ a, gdR Z s m p a ∧ v.1 19 p = nI (fP Z s a)
theorem m_154 {u : ab_S} (hm : inR Z s m) {G : Nat} (hG : G < 256) (hGb : ∀ j, G.testBit j = true ↔ ∃ q, m.testBit q = true ∧ fP Z s q = j) {K : Int32 → Int32 → ab_S → Option (Int32 × ab_S)} {r : Int32} {Q : Int32 → ab_S → Prop} : ∀ (d k n : Nat) (v : ab_S), pN Z s u v → poM Z s m v k → k + d = Z.1 → d < n → (∀ v', pN Z s u v' → poM Z s m v' Z.1 → Fr (fun a _ => a = 14 ∨ a = 15 ∨ a = 19) v v' → Wp (fX10_ringsNow_215 K fu (nI m) r 0 0 v') Q) → Wp (fX10_ringsNow_154 K n (nI m) r (nI G) (nI k) v) Q := by
  intro d
  induction d with
  | zero =>
    intro k n v hN hpo hk hn hQ
    obtain ⟨n, rfl⟩ : ∃ i, n = i + 1 := ⟨n - 1, by omega⟩
    have hN' := hN
    obtain ⟨hE, hO, ho, hm1, hc, hs, hv⟩ := hN
    have hp6 := hE.1
    have e : k = Z.1 := by omega
    subst e
    rw [fX10_ringsNow_154, m_persons hE hm1]
    simp (disch := first | omega | decide) only [i10, i00, decide_true, decide_false, cnd_t, cnd_f, gd_nil, gd_t, b1_0, b1_1, sw_nil, sw_cons, obs, Nat.not_lt_zero, nI_addo, nI_oadd, nI_add, nI_mulo, nI_omul, nI_mul, nI_lto, nI_leo, nI_olt, nI_ole, nI_eqo, nI_oeq, nI_lt2, nI_le2, nI_eq2, nI_nm1, nI_m1n, nI_lt0, nI_lem1, nc_nI, nc_o, ix_nI, ix_o, Nat.lt_irrefl]
    exact hQ v hN' hpo Fr.rfl'
  | succ d ih =>
    intro k n v hN hpo hk hn hQ
    obtain ⟨n, rfl⟩ : ∃ i, n = i + 1 := ⟨n - 1, by omega⟩
    have hN' := hN
    obtain ⟨hE, hO, ho, hm1, hc, hs, hv⟩ := hN
    have hp6 := hE.1
    have hg := hE.2.1
    have h64 := hm.1
    have hk8 : k < Z.1 := by omega
    rw [fX10_ringsNow_154, m_persons hE hm1]
    simp (disch := first | omega | decide) only [i10, i00, decide_true, decide_false, cnd_t, cnd_f, gd_nil, gd_t, b1_0, b1_1, sw_nil, sw_cons, obs, nI_lt2, hk8, zb_b1 (show m < 256 by omega) (show k < 8 by omega)]
    cases hb : m.testBit k
    · simp (disch := first | omega | decide) only [i10, i00, decide_true, decide_false, cnd_t, cnd_f, gd_nil, gd_t, b1_0, b1_1, sw_nil, sw_cons, obs, Bool.false_eq_true, nI_addo, ix_nI, nc_nI]
      have f : Fr (fun a _ => a = 14 ∨ a = 15 ∨ a = 19) v (sI v 19 k (-1)) := Fr.sI (Or.inr (Or.inr rfl))
      have f2 : Fr dMu v (sI v 19 k (-1)) := Fr.sI (Or.inr (Or.inr (Or.inr (Or.inl (by omega)))))
      refine ih (k + 1) n _ (hN'.fr Fr.rfl' f2) (fun p hp hpb => ?_) (by omega) (by omega) fun v' h1 h2 h3 => hQ v' h1 h2 (f.trans h3)
      by_cases e : p = k
      · subst e; rw [hb] at hpb; cases hpb
      · obtain ⟨a', g', e'⟩ := hpo p (by omega) hpb
        exact ⟨a', g', by rw [sI_at, if_neg (by omega)]; exact e'⟩
    · obtain ⟨pp, ps⟩ := hm.2 k hb
      obtain ⟨kk1, kk2⟩ := kp_ok hE ps
      simp only [i10, i00, decide_true, decide_false, cnd_t, cnd_f, gd_nil, gd_t, b1_0, b1_1, sw_nil, sw_cons, obs]
      rw [m_held0 hE hm1 hs]
      simp only [obs]
      rw [pc_m (hS_lt hE _)]
      simp only [obs, kk1, wp_bind]
      have w3 : ¬ nI (kpS Z s k) < 0 := nI_pos (by omega)
      unfold fX10_wantOf
      refine m_want9 hE pp hG (val := fun j => Z.2.2.2 k j (kpS Z s k)) (fun j => hE.2.2.2.2.2.2.2.1 _ _ _) (w3 := nI (kpS Z s k)) (fun j v0 Q0 a1 a2 a3 a4 q => by
        simp only [w3, i10, i00, decide_true, decide_false, cnd_t, cnd_f, gd_nil, gd_t, b1_0, b1_1, sw_nil, sw_cons, obs]
        exact m_fitBy hE a1 hk8 a3 kk2 q) Z.2.1 0 fu v hm1 hs (Nat.zero_add _) (by simp only [fu]; omega) fun v1 s1 => ?_
      rcases wst_ok (val := fun j => Z.2.2.2 k j (kpS Z s k)) (inn := fun j => G.testBit j) Z.2.1 with ⟨-, c2⟩ | ⟨q, c1, c2, c3, c4, c5, c6⟩
      · have := c2 (fP Z s k) (fG_some ps).2.1
        rw [(hGb (fP Z s k)).mpr ⟨k, hb, rfl⟩] at this
        cases this
      · rw [c1]
        obtain ⟨a, ha1, ha2⟩ := (hGb q.1).mp c3
        simp (disch := first | omega | decide) only [wb, i10, i00, decide_true, decide_false, cnd_t, cnd_f, gd_nil, gd_t, b1_0, b1_1, sw_nil, sw_cons, obs, ix_nI, nc_nI, nI_addo]
        have c4 : q.2 = Z.2.2.2 k q.1 (kpS Z s k) := c4
        have hga : gdR Z s m k a := by
          refine ⟨ha1, fun j hj => ?_⟩
          have hjG := (hGb (fP Z s j)).mpr ⟨j, hj, rfl⟩
          have h5 : Z.2.2.2 k (fP Z s j) (kpS Z s k) ≤ q.2 := c5 (fP Z s j) (fG_some (hm.2 j hj).2).2.1 hjG
          rw [ha2, ← c4]
          refine ⟨h5, fun z => ?_⟩
          by_cases hlt : fP Z s j < q.1
          · have h6 : Z.2.2.2 k (fP Z s j) (kpS Z s k) < q.2 := c6 (fP Z s j) hlt hjG
            omega
          · omega
        have f1 : Fr (fun a _ => a = 14 ∨ a = 15 ∨ a = 19) v v1 := s1.mono fun x j z => by
          rcases z with z | z
          · exact Or.inl z
          · exact Or.inr (Or.inl z)
        have f2 : Fr (fun a _ => a = 14 ∨ a = 15 ∨ a = 19) v1 (sI v1 19 k (nI q.1)) := Fr.sI (Or.inr (Or.inr rfl))
        have f3 : Fr dMu v1 (sI v1 19 k (nI q.1)) := Fr.sI (Or.inr (Or.inr (Or.inr (Or.inl (by omega)))))
        refine ih (k + 1) n _ ((hN'.sc s1).fr Fr.rfl' f3) (fun p hp hpb => ?_) (by omega) (by omega) fun v' h1 h2 h3 => hQ v' h1 h2 (f1.trans (f2.trans h3))
        by_cases e : p = k
        · subst e
          exact ⟨a, hga, by rw [sI_at, if_pos ⟨rfl, rfl⟩, ha2]⟩
        · obtain ⟨a', g', e'⟩ := hpo p (by omega) hpb
          refine ⟨a', g', ?_⟩
          rw [sI_at, if_neg (by omega), s1.1 19 p (by intro z; rcases z with z | z <;> omega)]
          exact e'
end PU
