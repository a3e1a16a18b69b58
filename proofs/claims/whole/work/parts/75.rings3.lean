/-! rings: who comes round, what is handed out -/
section PU
variable {Z : dZ} {s : Nat → Int32} {u v : ab_S} {m : Nat}
-- what is pointed to: on both sides the same person
def poF (Z : dZ) (s : Nat → Int32) (m : Nat) (f : Nat → Nat) (u v : ab_S) : Prop := ∀ p, m.testBit p = true → m.testBit (f p) = true ∧ u.1 152 p = nI (f p) ∧ v.1 19 p = nI (fP Z s (f p))
theorem poF_of (hE : pE Z) (hm : inR Z s m) (h1 : poC Z s m u Z.1) (h2 : poM Z s m v Z.1) : poF Z s m (fun p => nc (u.1 152 p)) u v := by
  have hp6 := hE.1
  intro p hp
  obtain ⟨pp, ps⟩ := hm.2 p hp
  obtain ⟨a, g1, e1⟩ := h1 p pp hp
  obtain ⟨c, g2, e2⟩ := h2 p pp hp
  have e := gdR.uniq hE hm g1 g2
  subst e
  have hap := (hm.2 a g1.1).1
  have en : nc (u.1 152 p) = a := by rw [e1, nc_nI (by omega)]
  show m.testBit (nc (u.1 152 p)) = true ∧ u.1 152 p = nI (nc (u.1 152 p)) ∧ v.1 19 p = nI (fP Z s (nc (u.1 152 p)))
  rw [en]
  exact ⟨g1.1, e1, e2⟩
theorem c_come4 (hE : pE Z) (hm : inR Z s m) {f : Nat → Nat} (hf : poF Z s m f u v) {p : Nat} (hp : p < Z.1) : ∀ (d i n x : Nat), m.testBit x = true → i + d = 6 → d < n → fX3_comesRound_4 n (nI p) (nI x) (nI i) u = some (b01 (itA f p x d), u) := by
  have hp6 := hE.1
  intro d
  induction d with
  | zero =>
    intro i n x hx hi hn
    obtain ⟨n, rfl⟩ : ∃ j, n = j + 1 := ⟨n - 1, by omega⟩
    have e : i = 6 := by omega
    subst e
    rw [fX3_comesRound_4]
    simp (disch := first | omega | decide) only [i10, i00, decide_true, decide_false, cnd_t, cnd_f, gd_nil, gd_t, b1_0, b1_1, sw_nil, sw_cons, obs, Nat.not_lt_zero, nI_addo, nI_oadd, nI_add, nI_mulo, nI_omul, nI_mul, nI_lto, nI_leo, nI_olt, nI_ole, nI_eqo, nI_oeq, nI_lt2, nI_le2, nI_eq2, nI_nm1, nI_m1n, nI_lt0, nI_lem1, nc_nI, nc_o, ix_nI, ix_o, Nat.lt_irrefl, itA, b01_f]
  | succ d ih =>
    intro i n x hx hi hn
    obtain ⟨n, rfl⟩ : ∃ j, n = j + 1 := ⟨n - 1, by omega⟩
    have hi6 : i < 6 := by omega
    obtain ⟨h1, h2, h3⟩ := hf x hx
    have hxp := (hm.2 x hx).1
    have hfp := (hm.2 (f x) h1).1
    rw [fX3_comesRound_4, c_at (by omega) (by decide), h2, itA]
    simp (disch := first | omega | decide) only [i10, i00, decide_true, decide_false, cnd_t, cnd_f, gd_nil, gd_t, b1_0, b1_1, sw_nil, sw_cons, obs, nI_lto, hi6, nI_eq2, nI_addo]
    by_cases e : f x = p
    · simp only [e, i10, i00, decide_true, decide_false, cnd_t, cnd_f, gd_nil, gd_t, b1_0, b1_1, sw_nil, sw_cons, obs, Bool.true_or, b01_t]
    · simp only [e, i10, i00, decide_true, decide_false, cnd_t, cnd_f, gd_nil, gd_t, b1_0, b1_1, sw_nil, sw_cons, obs, Bool.false_or]
      exact ih (i + 1) n (f x) h1 (by omega) (by omega)
theorem m_owner2 (hE : pE Z) {a : Nat} (ha : a < Z.1) (hs : (fG Z s a).isSome = true) (hr : ∀ p, p < Z.1 → v.1 18 p = eO (fG Z s p)) : ∀ (d k n : Nat), k + d = a → d < n → fX10_ownerIn_2 n (nI (fP Z s a)) (nI k) v = some (nI a, v) := by
  have hp6 := hE.1
  have hg := hE.2.1
  obtain ⟨g1, g2, g3⟩ := fG_some hs
  intro d
  induction d with
  | zero =>
    intro k n hk hn
    obtain ⟨n, rfl⟩ : ∃ j, n = j + 1 := ⟨n - 1, by omega⟩
    have e : k = a := by omega
    subst e
    rw [fX10_ownerIn_2]
    simp (disch := first | omega | decide) only [i10, i00, decide_true, decide_false, cnd_t, cnd_f, gd_nil, gd_t, b1_0, b1_1, sw_nil, sw_cons, obs, ix_nI, nc_nI]
    rw [hr k ha, g1]
    simp only [eO, i10, i00, decide_true, decide_false, cnd_t, cnd_f, gd_nil, gd_t, b1_0, b1_1, sw_nil, sw_cons, obs]
  | succ d ih =>
    intro k n hk hn
    obtain ⟨n, rfl⟩ : ∃ j, n = j + 1 := ⟨n - 1, by omega⟩
    rw [fX10_ownerIn_2]
    simp (disch := first | omega | decide) only [i10, i00, decide_true, decide_false, cnd_t, cnd_f, gd_nil, gd_t, b1_0, b1_1, sw_nil, sw_cons, obs, ix_nI, nc_nI]
    rw [hr k (by omega)]
    have e : ¬ eO (fG Z s k) = nI (fP Z s a) := by
      intro z
      cases hh : fG Z s k with
      | none =>
        rw [hh] at z
        exact (nI_m1n (k := fP Z s a) (by omega)).mp z
      | some b =>
        have hb : (fG Z s k).isSome = true := by rw [hh]; rfl
        obtain ⟨k1, k2, k3⟩ := fG_some hb
        rw [k1] at z
        have ez := (nI_eq2 (show fP Z s k < 2147483648 by omega) (show fP Z s a < 2147483648 by omega)).mp z
        have := fP_inj (show k < 2147483648 by omega) (show a < 2147483648 by omega) hb hs ez
        omega
    simp only [e, i10, i00, decide_true, decide_false, cnd_t, cnd_f, gd_nil, gd_t, b1_0, b1_1, sw_nil, sw_cons, obs, nI_addo]
    exact ih (k + 1) n (by omega) (by omega)
theorem m_owner (hE : pE Z) {a : Nat} (ha : a < Z.1) (hs : (fG Z s a).isSome = true) (hr : ∀ p, p < Z.1 → v.1 18 p = eO (fG Z s p)) : fX10_ownerIn (nI (fP Z s a)) v = some (nI a, v) := m_owner2 hE ha hs hr a 0 fu (Nat.zero_add _) (by have := hE.1; simp only [fu]; omega)
theorem m_come234 (hE : pE Z) (hm : inR Z s m) {f : Nat → Nat} (hf : poF Z s m f u v) (hr : ∀ p, p < Z.1 → v.1 18 p = eO (fG Z s p)) {p : Nat} (hp : m.testBit p = true) {K : Int32 → Int32 → ab_S → Option (Int32 × ab_S)} {L : Int32 → Int32 → Int32 → Int32 → ab_S → Option (Int32 × ab_S)} {r a : Int32} : ∀ (d i n x : Nat) (b : Bool), m.testBit x = true → i + d = 6 → d < n → fX10_ringsNow_234 K L n (nI m) r a (nI p) (nI x) (b01 b) (nI i) v = fX10_ringsNow_289 K L (nI m) r a (nI p) (b01 (b || itA f p x d)) v := by
  have hp6 := hE.1
  have h64 := hm.1
  have hpp := (hm.2 p hp).1
  intro d
  induction d with
  | zero =>
    intro i n x b hx hi hn
    obtain ⟨n, rfl⟩ : ∃ j, n = j + 1 := ⟨n - 1, by omega⟩
    have e : i = 6 := by omega
    subst e
    rw [fX10_ringsNow_234]
    simp (disch := first | omega | decide) only [i10, i00, decide_true, decide_false, cnd_t, cnd_f, gd_nil, gd_t, b1_0, b1_1, sw_nil, sw_cons, obs, Nat.not_lt_zero, nI_addo, nI_oadd, nI_add, nI_mulo, nI_omul, nI_mul, nI_lto, nI_leo, nI_olt, nI_ole, nI_eqo, nI_oeq, nI_lt2, nI_le2, nI_eq2, nI_nm1, nI_m1n, nI_lt0, nI_lem1, nc_nI, nc_o, ix_nI, ix_o, Nat.lt_irrefl, itA, Bool.or_false]
  | succ d ih =>
    intro i n x b hx hi hn
    obtain ⟨n, rfl⟩ : ∃ j, n = j + 1 := ⟨n - 1, by omega⟩
    have hi6 : i < 6 := by omega
    obtain ⟨h1, h2, h3⟩ := hf x hx
    have hxp := (hm.2 x hx).1
    obtain ⟨hfp, hfs⟩ := hm.2 (f x) h1
    rw [fX10_ringsNow_234, itA]
    simp (disch := first | omega | decide) only [i10, i00, decide_true, decide_false, cnd_t, cnd_f, gd_nil, gd_t, b1_0, b1_1, sw_nil, sw_cons, obs, nI_lto, hi6, zb_b1 (show m < 256 by omega) (show p < 8 by omega), hp, ix_nI, nc_nI, h3, b01_0]
    rw [m_owner hE hfp hfs hr]
    simp (disch := first | omega | decide) only [i10, i00, decide_true, decide_false, cnd_t, cnd_f, gd_nil, gd_t, b1_0, b1_1, sw_nil, sw_cons, obs, nI_eq2, nI_addo]
    cases b
    · by_cases e : f x = p
      · simp only [e, i10, i00, decide_true, decide_false, cnd_t, cnd_f, gd_nil, gd_t, b1_0, b1_1, sw_nil, sw_cons, obs, Bool.true_or, Bool.false_or]
        have := ih (i + 1) n (f x) true h1 (by omega) (by omega)
        rw [e] at this
        exact this
      · simp only [e, i10, i00, decide_true, decide_false, cnd_t, cnd_f, gd_nil, gd_t, b1_0, b1_1, sw_nil, sw_cons, obs, Bool.false_or]
        exact ih (i + 1) n (f x) false h1 (by omega) (by omega)
    · simp only [i10, i00, decide_true, decide_false, cnd_t, cnd_f, gd_nil, gd_t, b1_0, b1_1, sw_nil, sw_cons, obs, Bool.true_eq_false, Bool.true_or]
      exact ih (i + 1) n (f x) true h1 (by omega) (by omega)
def oR (m : Nat) (f : Nat → Nat) (n : Nat) : Nat := bS (fun p => m.testBit p && itA f p p 6) n
theorem hand_out (hm : inR Z s m) {f : Nat → Nat} {K : Int32 → Int32 → ab_S → Option (Int32 × ab_S)} {r : Int32} {o1 : Nat} : ∀ (d k n n' : Nat) (u v : ab_S), u.2.2 0 = o1 → pN Z s u v → poF Z s m f u v → (∀ p, p < Z.1 → u.1 151 p = eO (fG Z s p) ∧ v.1 18 p = eO (fG Z s p) ∧ u.1 153 p = v.1 20 p) → k + d = Z.1 → d < n → d < n' → ∃ u' v', fX3_handOut_5 o1 n (nI m) (nI (oR m f k)) (nI k) u = some (nI (oR m f Z.1), u') ∧ fX10_ringsNow_215 K n' (nI m) r (nI (oR m f k)) (nI k) v = K (nI m &&& (nI (oR m f Z.1) ^^^ (-1))) (r + 1) v' ∧ (∀ p, p < Z.1 → u'.1 153 p = v'.1 20 p) ∧ Fr (fun a _ => a = 153) u u' ∧ Fr (fun a _ => a = 20) v v' := by
  intro d
  induction d with
  | zero =>
    intro k n n' u v eo hN hf hr hk hn hn'
    obtain ⟨n, rfl⟩ : ∃ j, n = j + 1 := ⟨n - 1, by omega⟩
    obtain ⟨n', rfl⟩ : ∃ j, n' = j + 1 := ⟨n' - 1, by omega⟩
    subst eo
    obtain ⟨hE, hO, ho, hm1, hc, hs, hv⟩ := hN
    have hp6 := hE.1
    have e : k = Z.1 := by omega
    subst e
    refine ⟨u, v, ?_, ?_, fun p hp => (hr p hp).2.2, Fr.rfl', Fr.rfl'⟩
    · rw [fX3_handOut_5, hO.1]
      simp (disch := first | omega | decide) only [i10, i00, decide_true, decide_false, cnd_t, cnd_f, gd_nil, gd_t, b1_0, b1_1, sw_nil, sw_cons, obs, Nat.not_lt_zero, nI_addo, nI_oadd, nI_add, nI_mulo, nI_omul, nI_mul, nI_lto, nI_leo, nI_olt, nI_ole, nI_eqo, nI_oeq, nI_lt2, nI_le2, nI_eq2, nI_nm1, nI_m1n, nI_lt0, nI_lem1, nc_nI, nc_o, ix_nI, ix_o, Nat.lt_irrefl]
    · rw [fX10_ringsNow_215, m_persons hE hm1]
      simp (disch := first | omega | decide) only [i10, i00, decide_true, decide_false, cnd_t, cnd_f, gd_nil, gd_t, b1_0, b1_1, sw_nil, sw_cons, obs, Nat.not_lt_zero, nI_addo, nI_oadd, nI_add, nI_mulo, nI_omul, nI_mul, nI_lto, nI_leo, nI_olt, nI_ole, nI_eqo, nI_oeq, nI_lt2, nI_le2, nI_eq2, nI_nm1, nI_m1n, nI_lt0, nI_lem1, nc_nI, nc_o, ix_nI, ix_o, Nat.lt_irrefl]
  | succ d ih =>
    intro k n n' u v eo hN hf hr hk hn hn'
    obtain ⟨n, rfl⟩ : ∃ j, n = j + 1 := ⟨n - 1, by omega⟩
    obtain ⟨n', rfl⟩ : ∃ j, n' = j + 1 := ⟨n' - 1, by omega⟩
    subst eo
    have hN' := hN
    obtain ⟨hE, hO, ho, hm1, hc, hs, hv⟩ := hN
    have hp6 := hE.1
    have hg := hE.2.1
    have h64 := hm.1
    have hk8 : k < Z.1 := by omega
    have ha : oR m f k < 256 := bS_256 (show k ≤ 8 by omega)
    have hrM : ∀ p, p < Z.1 → v.1 18 p = eO (fG Z s p) := fun p hp => (hr p hp).2.1
    have eb : oR m f (k + 1) = if (m.testBit k && itA f k k 6) = true then oR m f k ||| 2 ^ k else oR m f k := rfl
    have ih := ih (k + 1) n n'
    rw [eb] at ih
    rw [fX3_handOut_5, fX10_ringsNow_215, hO.1, m_persons hE hm1]
    simp (disch := first | omega | decide) only [i10, i00, decide_true, decide_false, cnd_t, cnd_f, gd_nil, gd_t, b1_0, b1_1, sw_nil, sw_cons, obs, nI_lt2, hk8, zb_b1 (show m < 256 by omega) (show k < 8 by omega)]
    -- nothing for this one
    have none : (m.testBit k && itA f k k 6) = false → ∃ u' v', fX3_handOut_5 (u.2.2 0) n (nI m) (nI (oR m f k)) (nI (k + 1)) u = some (nI (oR m f Z.1), u') ∧ fX10_ringsNow_215 K n' (nI m) r (nI (oR m f k)) (nI (k + 1)) (sI v 20 k (v.1 20 k)) = K (nI m &&& (nI (oR m f Z.1) ^^^ (-1))) (r + 1) v' ∧ (∀ p, p < Z.1 → u'.1 153 p = v'.1 20 p) ∧ Fr (fun a _ => a = 153) u u' ∧ Fr (fun a _ => a = 20) v v' := by
      intro hz
      simp only [hz, Bool.false_eq_true, if_false] at ih
      have f1 : Fr (fun a _ => a = 20) v (sI v 20 k (v.1 20 k)) := Fr.sI rfl
      have f2 : Fr dMu v (sI v 20 k (v.1 20 k)) := Fr.sI (Or.inr (Or.inr (Or.inr (Or.inl (by omega)))))
      obtain ⟨u', v', q1, q2, q3, q4, q5⟩ := ih u (sI v 20 k (v.1 20 k)) rfl (hN'.fr Fr.rfl' f2) (fun p hp => by
        obtain ⟨x1, x2, x3⟩ := hf p hp
        exact ⟨x1, x2, by rw [sI_at, if_neg (by omega)]; exact x3⟩) (fun p hp => by
        obtain ⟨x1, x2, x3⟩ := hr p hp
        refine ⟨x1, by rw [sI_at, if_neg (by omega)]; exact x2, ?_⟩
        rw [x3, sI_at]
        by_cases e : p = k
        · subst e; rw [if_pos ⟨rfl, rfl⟩]
        · rw [if_neg (by omega)]) (by omega) (by omega) (by omega)
      exact ⟨u', v', q1, q2, q3, q4, f1.trans q5⟩
    cases hb : m.testBit k
    · simp only [i10, i00, decide_true, decide_false, cnd_t, cnd_f, gd_nil, gd_t, b1_0, b1_1, sw_nil, sw_cons, obs, Bool.false_eq_true, nI_addo]
      have h234 : ∀ N, 0 < N → fX10_ringsNow_234 K (fX10_ringsNow_215 K n') N (nI m) r (nI (oR m f k)) (nI k) (nI k) 0 0 v = fX10_ringsNow_215 K n' (nI m) r (nI (oR m f k)) (nI (k + 1)) (sI v 20 k (v.1 20 k)) := by
        intro N hN
        obtain ⟨N, rfl⟩ : ∃ j, N = j + 1 := ⟨N - 1, by omega⟩
        rw [fX10_ringsNow_234]
        have h06 : ((0 : Int32) < 6) = True := eq_true (by decide +kernel)
        simp (disch := first | omega | decide) only [h06, zb_b1 (show m < 256 by omega) (show k < 8 by omega), hb, Bool.false_eq_true, i10, i00, decide_true, decide_false, cnd_t, cnd_f, gd_nil, gd_t, b1_0, b1_1, sw_nil, sw_cons, obs, fX10_ringsNow_289, fX10_ringsNow_304, ix_nI, nc_nI, nI_addo, Int32.or_zero]
      rw [h234 fu (by decide)]
      exact none (by rw [hb]; rfl)
    · obtain ⟨x1, x2, x3⟩ := hf k hb
      obtain ⟨fp, fs⟩ := hm.2 (f k) x1
      obtain ⟨g1, g2, g3⟩ := fG_some fs
      simp only [i10, i00, decide_true, decide_false, cnd_t, cnd_f, gd_nil, gd_t, b1_0, b1_1, sw_nil, sw_cons, obs]
      have cc : fX3_comesRound (nI k) u = some (b01 (itA f k k 6), u) := c_come4 hE hm hf hk8 6 0 fu k hb rfl (by decide)
      have mm : fX10_ringsNow_234 K (fX10_ringsNow_215 K n') fu (nI m) r (nI (oR m f k)) (nI k) (nI k) 0 0 v = fX10_ringsNow_289 K (fX10_ringsNow_215 K n') (nI m) r (nI (oR m f k)) (nI k) (b01 (false || itA f k k 6)) v := m_come234 hE hm hf hrM hb 6 0 fu k false hb rfl (by decide)
      rw [cc, mm]
      simp only [obs, b01_0, Bool.false_or]
      unfold fX10_ringsNow_289 fX10_ringsNow_304
      cases hi : itA f k k 6
      · simp (disch := first | omega | decide) only [b01_f, i10, i00, decide_true, decide_false, cnd_t, cnd_f, gd_nil, gd_t, b1_0, b1_1, sw_nil, sw_cons, obs, ix_nI, nc_nI, nI_addo, Int32.or_zero]
        exact none (by rw [hb, hi]; rfl)
      · simp (disch := first | omega | decide) only [b01_t, i10, i00, decide_true, decide_false, cnd_t, cnd_f, gd_nil, gd_t, b1_0, b1_1, sw_nil, sw_cons, obs, Bool.true_eq_false, ix_nI, nc_nI, nI_addo, zb_or ha (show k < 8 by omega)]
        rw [c_at (by omega) (by decide), x2]
        simp only [obs]
        rw [c_at (by omega) (by decide), (hr (f k) fp).1, g1]
        simp only [obs]
        rw [c_put (by omega) (by decide)]
        simp only [obs, eO]
        rw [x3]
        simp only [hb, hi, Bool.and_self, if_true] at ih
        have f1 : Fr (fun a _ => a = 20) v (sI v 20 k (nI (fP Z s (f k)))) := Fr.sI rfl
        have f2 : Fr dMu v (sI v 20 k (nI (fP Z s (f k)))) := Fr.sI (Or.inr (Or.inr (Or.inr (Or.inl (by omega)))))
        have f3 : Fr (fun a _ => a = 153) u (sI u 153 k (nI (fP Z s (f k)))) := Fr.sI rfl
        have f4 : Fr dCu u (sI u 153 k (nI (fP Z s (f k)))) := Fr.sI (Or.inr (by omega))
        obtain ⟨u', v', q1, q2, q3, q4, q5⟩ := ih (sI u 153 k (nI (fP Z s (f k)))) (sI v 20 k (nI (fP Z s (f k)))) rfl (hN'.fr f4 f2) (fun p hp => by
          obtain ⟨y1, y2, y3⟩ := hf p hp
          exact ⟨y1, by rw [sI_at, if_neg (by omega)]; exact y2, by rw [sI_at, if_neg (by omega)]; exact y3⟩) (fun p hp => by
          obtain ⟨y1, y2, y3⟩ := hr p hp
          refine ⟨by rw [sI_at, if_neg (by omega)]; exact y1, by rw [sI_at, if_neg (by omega)]; exact y2, ?_⟩
          by_cases e : p = k
          · subst e; rw [sI_at, sI_at, if_pos ⟨rfl, rfl⟩, if_pos ⟨rfl, rfl⟩]
          · rw [sI_at, sI_at, if_neg (by omega), if_neg (by omega)]; exact y3) (by omega) (by omega) (by omega)
        exact ⟨u', v', q1, q2, q3, f3.trans q4, f1.trans q5⟩
-- ===== the rounds =====
theorem rings_go {o1 : Nat} : ∀ (d m r n n' : Nat) (u v : ab_S), u.2.2 0 = o1 → pN Z s u v → inR Z s m → (∀ p, p < Z.1 → u.1 151 p = eO (fG Z s p) ∧ v.1 18 p = eO (fG Z s p) ∧ u.1 153 p = v.1 20 p) → u.1 150 3 = nI r → pc m ≤ d → r + d ≤ 6 → d < n → d < n' → ∃ u' r', fX3_trade_15 o1 38 n (nI m) (nI r) u = some ((), u') ∧ Wp (fX10_ringsNow_101 n' (nI m) (nI r) v) (fun x v' => x = nI r' ∧ u'.1 150 3 = nI r' ∧ (∀ p, p < Z.1 → u'.1 153 p = v'.1 20 p) ∧ Fr dCu u u' ∧ Fr dMu v v') := by
  intro d
  induction d with
  | zero =>
    intro m r n n' u v eo hN hm hr hp hd hrd hn hn'
    obtain ⟨n, rfl⟩ : ∃ j, n = j + 1 := ⟨n - 1, by omega⟩
    obtain ⟨n', rfl⟩ : ∃ j, n' = j + 1 := ⟨n' - 1, by omega⟩
    have e : m = 0 := by
      by_cases z : m = 0
      · exact z
      · have := pc_zero hm.1 z
        omega
    subst e
    refine ⟨u, r, ?_, ?_⟩
    · rw [fX3_trade_15]
      simp (disch := first | omega | decide) only [nI_lto, nI_eqo, i10, i00, decide_true, decide_false, cnd_t, cnd_f, gd_nil, gd_t, b1_0, b1_1, sw_nil, sw_cons, obs]
      by_cases z : r < 6 <;> simp only [z, i10, i00, decide_true, decide_false, cnd_t, cnd_f, gd_nil, gd_t, b1_0, b1_1, sw_nil, sw_cons, obs]
    · rw [fX10_ringsNow_101]
      simp (disch := first | omega | decide) only [nI_eqo, i10, i00, decide_true, decide_false, cnd_t, cnd_f, gd_nil, gd_t, b1_0, b1_1, sw_nil, sw_cons, obs, wp_ret]
      exact ⟨trivial, hp, fun p hp => (hr p hp).2.2, Fr.rfl', Fr.rfl'⟩
  | succ d ih =>
    intro m r n n' u v eo hN hm hr hp hd hrd hn hn'
    obtain ⟨n, rfl⟩ : ∃ j, n = j + 1 := ⟨n - 1, by omega⟩
    obtain ⟨n', rfl⟩ : ∃ j, n' = j + 1 := ⟨n' - 1, by omega⟩
    have h64 := hm.1
    by_cases e : m = 0
    · subst e
      refine ⟨u, r, ?_, ?_⟩
      · rw [fX3_trade_15]
        simp (disch := first | omega | decide) only [nI_lto, nI_eqo, i10, i00, decide_true, decide_false, cnd_t, cnd_f, gd_nil, gd_t, b1_0, b1_1, sw_nil, sw_cons, obs]
        by_cases z : r < 6 <;> simp only [z, i10, i00, decide_true, decide_false, cnd_t, cnd_f, gd_nil, gd_t, b1_0, b1_1, sw_nil, sw_cons, obs]
      · rw [fX10_ringsNow_101]
        simp (disch := first | omega | decide) only [nI_eqo, i10, i00, decide_true, decide_false, cnd_t, cnd_f, gd_nil, gd_t, b1_0, b1_1, sw_nil, sw_cons, obs, wp_ret]
        exact ⟨trivial, hp, fun p hp => (hr p hp).2.2, Fr.rfl', Fr.rfl'⟩
    · subst eo
      have hN' := hN
      obtain ⟨hE, hO, ho, hm1, hc, hs, hv⟩ := hN
      have hp6 := hE.1
      have hr6 : r < 6 := by omega
      rw [fX3_trade_15, fX10_ringsNow_101]
      simp (disch := first | omega | decide) only [nI_lto, nI_eqo, hr6, e, i10, i00, decide_true, decide_false, cnd_t, cnd_f, gd_nil, gd_t, b1_0, b1_1, sw_nil, sw_cons, obs]
      -- the class points
      obtain ⟨u1, q1, p1, f1⟩ := c_round29 (v := v) hm (K := fX3_trade_15 (u.2.2 0) 38 n) (r := nI r) Z.1 0 fu u rfl hN' (fun p hp => (hr p hp).1) (fun p hp => absurd hp (Nat.not_lt_zero p)) (Nat.zero_add _) (by simp only [fu]; omega)
      have f1' : Fr dCu u u1 := f1.mono fun x j z => Or.inr (by omega)
      have q1' : fX3_trade_29 (u.2.2 0) 38 (fX3_trade_15 (u.2.2 0) 38 n) fu (nI m) (nI r) 0 u = _ := q1
      -- the reference's goods
      obtain ⟨G, g1, g2, g3⟩ := m_110 hE hm1 hm (fun p hp => (hr p hp).2.1) (K := fX10_ringsNow_101 n') (r := nI r) Z.1 0 fu 0 (by decide) (fun j => by
        rw [Nat.zero_testBit]
        constructor
        · intro z; cases z
        · rintro ⟨q, hq, -⟩; exact absurd hq (Nat.not_lt_zero q)) (Nat.zero_add _) (by simp only [fu]; omega)
      have g3' : fX10_ringsNow_110 (fX10_ringsNow_101 n') fu (nI m) (nI r) 0 0 v = fX10_ringsNow_154 (fX10_ringsNow_101 n') fu (nI m) (nI r) (nI G) 0 v := g3
      -- the class goes on: what its state is
      have hN1 : pN Z s u1 v := hN'.fr f1' Fr.rfl'
      have hr1 : ∀ p, p < Z.1 → u1.1 151 p = eO (fG Z s p) ∧ v.1 18 p = eO (fG Z s p) ∧ u1.1 153 p = v.1 20 p := fun p hp => by
        obtain ⟨x1, x2, x3⟩ := hr p hp
        exact ⟨by rw [f1.1 _ _ (by omega)]; exact x1, x2, by rw [f1.1 _ _ (by omega)]; exact x3⟩
      -- for each state that the reference may have then
      have key : ∀ v1, pN Z s u v1 → poM Z s m v1 Z.1 → Fr (fun a _ => a = 14 ∨ a = 15 ∨ a = 19) v v1 → ∃ u' r', (fX3_trade_29 (u.2.2 0) 38 (fX3_trade_15 (u.2.2 0) 38 n) fu (nI m) (nI r) 0 u = some ((), u')) ∧ Wp (fX10_ringsNow_215 (fX10_ringsNow_101 n') fu (nI m) (nI r) 0 0 v1) (fun x v' => x = nI r' ∧ u'.1 150 3 = nI r' ∧ (∀ p, p < Z.1 → u'.1 153 p = v'.1 20 p) ∧ Fr dCu u u' ∧ Fr dMu v v') := by
        intro v1 n1 p2 f2
        have f2' : Fr dMu v v1 := f2.mono fun x j z => by
          rcases z with z | z | z
          · exact Or.inl z
          · exact Or.inr (Or.inl z)
          · exact Or.inr (Or.inr (Or.inr (Or.inl (by omega))))
        have hf := poF_of hE hm p1 p2
        obtain ⟨u2, v2, w1, w2, w3, w4, w5⟩ := hand_out (o1 := u.2.2 0) hm (f := fun p => nc (u1.1 152 p)) (K := fX10_ringsNow_101 n') (r := nI r) Z.1 0 fu fu u1 v1 (congrFun f1.2.2 0) (hN'.fr f1' f2') hf (fun p hp => by
          obtain ⟨x1, x2, x3⟩ := hr1 p hp
          exact ⟨x1, by rw [f2.1 _ _ (by omega)]; exact x2, by rw [f2.1 _ _ (by omega)]; exact x3⟩) (Nat.zero_add _) (by simp only [fu]; omega) (by simp only [fu]; omega)
        have hO8 : oR m (fun p => nc (u1.1 152 p)) Z.1 < 2 ^ Z.1 := bS_lt _ _
        have hO64 : oR m (fun p => nc (u1.1 152 p)) Z.1 < 64 := Nat.lt_of_lt_of_le hO8 (show 2 ^ Z.1 ≤ 2 ^ 6 from Nat.pow_le_pow_right (by decide) hp6)
        have w4' : Fr dCu u1 u2 := w4.mono fun x j z => Or.inr (by omega)
        have w5' : Fr dMu v1 v2 := w5.mono fun x j z => Or.inr (Or.inr (Or.inr (Or.inl (by omega))))
        generalize hOO : oR m (fun p => nc (u1.1 152 p)) Z.1 = O at w1 w2 hO64
        have hne : m &&& O ≠ 0 := by
          obtain ⟨p, hp⟩ := bit_of_ne e
          obtain ⟨p', h1, h2⟩ := ring_is (f := fun p => nc (u1.1 152 p)) (S := fun x => m.testBit x = true) (fun x hx => by have := (hm.2 x hx).1; omega) (fun x hx => (hf x hx).1) hp
          intro z
          have hb : (m &&& O).testBit p' = true := by
            rw [Nat.testBit_and, ← hOO, oR, bS_bit, h1, h2]
            simp only [(hm.2 p' h1).1, decide_true, Bool.and_self]
          rw [z, Nat.zero_testBit] at hb
          cases hb
        have hless := pc_less h64 hO64 hne
        have hm' : inR Z s (m &&& (255 ^^^ O)) := by
          refine ⟨Nat.lt_of_le_of_lt Nat.and_le_left h64, fun p hp => hm.2 p ?_⟩
          rw [Nat.testBit_and, Bool.and_eq_true] at hp
          exact hp.1
        have e150 : u2.1 150 3 = nI r := by
          rw [w4.1 _ _ (by omega), f1.1 _ _ (by omega)]
          exact hp
        have f5 : Fr dCu u2 (sI u2 150 3 (nI (r + 1))) := Fr.sI (Or.inr (by omega))
        have hN2 : pN Z s (sI u2 150 3 (nI (r + 1))) v2 := hN'.fr (f1'.trans (w4'.trans f5)) (f2'.trans w5')
        obtain ⟨u', r', z1, z2⟩ := ih (m &&& (255 ^^^ O)) (r + 1) n n' (sI u2 150 3 (nI (r + 1))) v2 (by
          show u2.2.2 0 = u.2.2 0
          rw [congrFun w4.2.2 0, congrFun f1.2.2 0]) hN2 hm' (fun p hp => by
          obtain ⟨x1, x2, x3⟩ := hr1 p hp
          refine ⟨?_, ?_, ?_⟩
          · rw [sI_at, if_neg (by omega), w4.1 _ _ (by omega)]; exact x1
          · rw [w5.1 _ _ (by omega), f2.1 _ _ (by omega)]; exact x2
          · rw [sI_at, if_neg (by omega)]; exact w3 p hp) (by rw [sI_at, if_pos ⟨rfl, rfl⟩]) (by omega) (by omega) (by omega) (by omega)
        refine ⟨u', r', ?_, ?_⟩
        · rw [q1']
          unfold fX3_handOut
          have w1' : fX3_handOut_5 (u.2.2 0) fu (nI m) 0 0 u1 = some (nI O, u2) := w1
          rw [w1']
          simp only [obs, e150, nI_addo]
          rw [zb_diff (show m < 256 by omega) (show O < 256 by omega)]
          exact z1
        · have w2' : fX10_ringsNow_215 (fX10_ringsNow_101 n') fu (nI m) (nI r) 0 0 v1 = fX10_ringsNow_101 n' (nI m &&& (nI O ^^^ (-1))) (nI r + 1) v2 := w2
          rw [w2', zb_diff (show m < 256 by omega) (show O < 256 by omega), nI_addo]
          exact z2.mono fun x v' zz => ⟨zz.1, zz.2.1, zz.2.2.1, f1'.trans (w4'.trans (f5.trans zz.2.2.2.1)), f2'.trans (w5'.trans zz.2.2.2.2)⟩
      -- the reference's own road there
      have h154 : ∃ v1, pN Z s u v1 ∧ poM Z s m v1 Z.1 ∧ Fr (fun a _ => a = 14 ∨ a = 15 ∨ a = 19) v v1 ∧ ∀ Q : Int32 → ab_S → Prop, True := by
        have hW : Wp (some ((0 : Int32), v)) (fun _ _ => True) := wp_ret.mpr trivial
        exact Classical.byContradiction fun hne => by
          have hq := m_154 (u := u) hm g1 g2 (K := fun _ _ _ => none) (r := nI r) (Q := fun _ _ => False) Z.1 0 fu v hN' (fun p hp => absurd hp (Nat.not_lt_zero p)) (Nat.zero_add _) (by simp only [fu]; omega) (fun v' a c d => absurd ⟨v', a, c, d, fun _ => trivial⟩ hne)
          obtain ⟨x, w, -, hf⟩ := hq
          exact hf
      obtain ⟨v1, n1, p2, f2, -⟩ := h154
      obtain ⟨u', r', z1, z0⟩ := key v1 n1 p2 f2
      obtain ⟨x0, w0, -, -, e0, -⟩ := z0
      refine ⟨u', r', z1, ?_⟩
      rw [g3']
      refine m_154 (u := u) hm g1 g2 Z.1 0 fu v hN' (fun p hp => absurd hp (Nat.not_lt_zero p)) (Nat.zero_add _) (by simp only [fu]; omega) fun v' a c d => ?_
      obtain ⟨u'', r'', y1, y2⟩ := key v' a c d
      have eu : u'' = u' := congrArg Prod.snd (Option.some.inj (y1.symm.trans z1))
      subst eu
      exact y2.mono fun x w zz => by
        exact ⟨zz.1.trans (zz.2.1.symm.trans e0), e0, zz.2.2⟩
theorem rings_t (hN : pN Z s u v) : ∃ u' r', fX3_trade (u.2.2 0) 38 u = some ((), u') ∧ Wp (fX10_ringsNow v) (fun x v' => x = nI r' ∧ u'.1 150 3 = nI r' ∧ (∀ p, p < Z.1 → u'.1 153 p = v'.1 20 p) ∧ Fr dCu u u' ∧ Fr dMu v v') := by
  have hp6 := hN.1.1
  have f0 : Fr dCu u (sI u 150 3 0) := Fr.sI (Or.inr (by omega))
  have hN0 : pN Z s (sI u 150 3 0) v := hN.fr f0 Fr.rfl'
  obtain ⟨u1, q1, p1, f1⟩ := c_put5 (v := v) Z.1 0 fu (sI u 150 3 0) hN0 (fun p hp => absurd hp (Nat.not_lt_zero p)) (Nat.zero_add _) (by simp only [fu]; omega)
  obtain ⟨v1, q2, p2, f2⟩ := m_put4 (u := u) Z.1 0 fu v hN (fun p hp => absurd hp (Nat.not_lt_zero p)) (Nat.zero_add _) (by simp only [fu]; omega)
  have f1' : Fr dCu (sI u 150 3 0) u1 := f1.mono fun x j z => Or.inr (by omega)
  have f2' : Fr dMu v v1 := f2.mono fun x j z => Or.inr (Or.inr (Or.inr (Or.inl (by omega))))
  have hI : inR Z s (in0 Z s Z.1) := by
    refine ⟨Nat.lt_of_lt_of_le (bS_lt _ _) (show 2 ^ Z.1 ≤ 2 ^ 6 from Nat.pow_le_pow_right (by decide) hp6), fun p hp => ?_⟩
    rw [in0, bS_bit, Bool.and_eq_true, decide_eq_true_eq] at hp
    exact hp
  have hpc : pc (in0 Z s Z.1) ≤ 6 := Nat.le_trans (pc_bound (show Z.1 ≤ 8 by omega) (bS_lt _ _)) hp6
  have e150 : u1.1 150 3 = nI 0 := by
    rw [f1.1 _ _ (by omega), sI_at, if_pos ⟨rfl, rfl⟩]
    rfl
  obtain ⟨u', r', z1, z2⟩ := rings_go (o1 := u.2.2 0) 6 (in0 Z s Z.1) 0 fu fu u1 v1 (congrFun f1.2.2 0) (hN.fr (f0.trans f1') f2') hI (fun p hp => ⟨(p1 p hp).1, (p2 p hp).1, by rw [(p1 p hp).2, (p2 p hp).2]⟩) e150 hpc (Nat.le_refl _) (by decide) (by decide)
  refine ⟨u', r', ?_, ?_⟩
  · unfold fX3_trade fX3_putIn
    have q1' : fX3_putIn_5 (u.2.2 0) 38 fu 0 0 (sI u 150 3 0) = some (nI (in0 Z s Z.1), u1) := q1
    rw [q1']
    simp only [obs]
    exact z1
  · unfold fX10_ringsNow
    have q2' : fX10_ringsNow_4 fu 0 0 v = fX10_ringsNow_101 fu (nI (in0 Z s Z.1)) 0 v1 := q2
    rw [q2']
    exact z2.mono fun x v' zz => ⟨zz.1, zz.2.1, zz.2.2.1, f0.trans (f1'.trans zz.2.2.2.1), f2'.trans zz.2.2.2.2⟩
theorem q_rounds (hN : pN Z s u v) : qT (fX9_rounds u) (fX10_rounds v) u v := by
  have hN0 := hN.th (x := 0)
  obtain ⟨u', r', q1, x, v', q2, e1, e2, -, f1, f2⟩ := rings_t hN0
  subst e1
  unfold fX9_rounds fX10_rounds
  rw [q1, q2]
  simp only [obs, e2]
  exact ⟨_, u', v', rfl, rfl, f1, th_mu.trans f2⟩
theorem q_gets (hN : pN Z s u v) (x : Int32) : qT (fX9_gets x u) (fX10_gets x v) u v := by
  have hN0 := hN.th (x := 0)
  have hp6 := hN.1.1
  obtain ⟨u', r', q1, y, v', q2, e1, e2, e3, f1, f2⟩ := rings_t hN0
  have hN1 := hN0.fr f1 f2
  unfold fX9_gets fX10_gets
  rw [q2]
  simp only [obs]
  rcases isP Z hN.1.1 x with ⟨p, hp, rfl⟩ | hx
  · have hp' : p < 6 := by omega
    rw [c_hasP1 hN0.1 hN0.2.1 hp, m_isP1 hN0.1 hN1.2.2.2.1 hp]
    simp only [i10, i00, decide_true, decide_false, cnd_t, cnd_f, gd_nil, gd_t, b1_0, b1_1, sw_nil, sw_cons, obs]
    rw [q1]
    unfold fX3_gotBy
    simp (disch := first | omega | decide) only [i10, i00, decide_true, decide_false, cnd_t, cnd_f, gd_nil, gd_t, b1_0, b1_1, sw_nil, sw_cons, obs, Nat.not_lt_zero, nI_addo, nI_oadd, nI_add, nI_mulo, nI_omul, nI_mul, nI_lto, nI_leo, nI_olt, nI_ole, nI_eqo, nI_oeq, nI_lt2, nI_le2, nI_eq2, nI_nm1, nI_m1n, nI_lt0, nI_lem1, nc_nI, nc_o, ix_nI, ix_o, hp', e3 p hp]
    exact ⟨_, u', v', rfl, rfl, f1, th_mu.trans f2⟩
  · rw [c_hasP0 hN0.2.1 hx, m_isP0 hN0.1 hN1.2.2.2.1 hx]
    simp only [i10, i00, decide_true, decide_false, cnd_t, cnd_f, gd_nil, gd_t, b1_0, b1_1, sw_nil, sw_cons, obs]
    exact qT.ret.tr Fr.rfl' (th_mu.trans f2)
end PU
