/-! tokens: words, numbers, the whole text -/
def txC (c : Nat → Nat) (n : Nat) (u : ab_S) : Prop := u.1 1 1 = nI n ∧ ∀ i, i < n → u.1 2 i = nI (c i)
def txM (c : Nat → Nat) (n : Nat) (v : ab_S) : Prop := v.1 0 3 = nI n ∧ ∀ i, i < n → v.1 1 i = nI (c i)
def tkK (kc : Int32) (xc : Int64) (km : Int32) (xm : Int64) : Prop := (kc = 1 ∧ km = 4) ∨ (kc = 2 ∧ km = 1 ∧ WR xc xm) ∨ (kc = 3 ∧ km = 2 ∧ ∃ n, n < 10000 ∧ xc = lN n ∧ xm = lN n) ∨ (kc = 4 ∧ km = 3 ∧ ∃ c, c ∈ sgL ∧ xc = lN c ∧ xm = lN c)
theorem enc_snoc (b : Nat) (ds : List Nat) (d : Nat) : enc b (ds ++ [d]) = enc b ds * b + d := by
  unfold enc
  rw [List.foldl_append]
  rfl
theorem c_sgn {c : Nat → Nat} {n : Nat} {u : ab_S} (h : txC c n u) (hn : n ≤ 1000) {i : Nat} (hi : i < n) (hc : c i ≤ 126) : fX6_signAt (nI i) u = some (nI (c i), u) := by
  unfold fX6_signAt
  have e1 : ab_c1 (nI (c i)) = true := (show ∀ c, c < 128 → ab_c1 (nI c) = true by decide +kernel) _ (by omega)
  simp (disch := first | omega | decide) only [i10, i00, decide_true, decide_false, cnd_t, cnd_f, gd_nil, gd_t, b1_0, b1_1, sw_nil, sw_cons, obs, Nat.not_lt_zero, nI_addo, nI_oadd, nI_add, nI_mulo, nI_omul, nI_mul, nI_lto, nI_leo, nI_olt, nI_ole, nI_eqo, nI_oeq, nI_lt2, nI_le2, nI_eq2, nI_nm1, nI_m1n, nI_lt0, nI_lem1, nc_nI, nc_o, ix_nI, ix_o, show i < 1000 by omega, h.2 i hi, e1]
section PU
variable {u v : ab_S} {c : Nat → Nat} {n : Nat}
theorem w_loop (hu : txC c n u) (hv : txM c n v) (hn : n ≤ 1000) (hx : ∀ i, i < n → ctx (c i)) (k17 : Int32 → Int32 → ab_S → Option (Unit × ab_S)) (t p : Nat) (ht : t ≤ 1000) : ∀ d q N M x y, q + d = n → d < N → d < M → p ≤ q → (q - p ≤ 8 → ∃ ds : List Nat, ds.length = q - p ∧ (∀ e, e ∈ ds → 1 ≤ e ∧ e ≤ 26) ∧ x = lN (enc 27 ds) ∧ y = lN (enc 37 ds)) → ∃ e kc xc km xm, q ≤ e ∧ e ≤ n ∧ (q < n → (97 ≤ c q ∧ c q ≤ 122) → q < e) ∧ fX6_scanWord_4 N (nI p) (nI q) x u = (fX6_add kc (nI p) xc u).bind (fun q1 => some (nI e, q1.2)) ∧ fX10_cutAll_70 k17 M (nI t) (nI q) (nI p) y v = fX10_cutAll_265 k17 (nI t) (nI e) xm (sI v 2 t km) ∧ (p < e → tkK kc xc km xm) := by
  have fin : ∀ q x y, p ≤ q → q ≤ n → (q - p ≤ 8 → ∃ ds : List Nat, ds.length = q - p ∧ (∀ e, e ∈ ds → 1 ≤ e ∧ e ≤ 26) ∧ x = lN (enc 27 ds) ∧ y = lN (enc 37 ds)) → ∃ kc xc km xm, fX6_scanWord_39 (nI p) (nI q) x u = (fX6_add kc (nI p) xc u).bind (fun q1 => some (nI q, q1.2)) ∧ fX10_cutAll_129 k17 (nI t) (nI q) (nI p) y v = fX10_cutAll_265 k17 (nI t) (nI q) xm (sI v 2 t km) ∧ (p < q → tkK kc xc km xm) := by
    intro q x y hpq hqn hd
    unfold fX6_scanWord_39 fX6_scanWord_53 fX10_cutAll_129
    by_cases e : q - p ≤ 8
    · simp (disch := first | omega | decide) only [i10, i00, decide_true, decide_false, cnd_t, cnd_f, gd_nil, gd_t, b1_0, b1_1, sw_nil, sw_cons, obs, Nat.not_lt_zero, nI_addo, nI_oadd, nI_add, nI_mulo, nI_omul, nI_mul, nI_lto, nI_leo, nI_olt, nI_ole, nI_eqo, nI_oeq, nI_lt2, nI_le2, nI_eq2, nI_nm1, nI_m1n, nI_lt0, nI_lem1, nc_nI, nc_o, ix_nI, ix_o, nI_sub hpq, e]
      obtain ⟨ds, h1, h2, h3, h4⟩ := hd e
      exact ⟨2, x, 1, y, rfl, rfl, fun hp => Or.inr (Or.inl ⟨rfl, rfl, ds, by omega, by omega, h2, h3, h4⟩)⟩
    · simp (disch := first | omega | decide) only [i10, i00, decide_true, decide_false, cnd_t, cnd_f, gd_nil, gd_t, b1_0, b1_1, sw_nil, sw_cons, obs, Nat.not_lt_zero, nI_addo, nI_oadd, nI_add, nI_mulo, nI_omul, nI_mul, nI_lto, nI_leo, nI_olt, nI_ole, nI_eqo, nI_oeq, nI_lt2, nI_le2, nI_eq2, nI_nm1, nI_m1n, nI_lt0, nI_lem1, nc_nI, nc_o, ix_nI, ix_o, nI_sub hpq, e]
      exact ⟨1, x, 4, y, rfl, rfl, fun _ => Or.inl ⟨rfl, rfl⟩⟩
  intro d
  induction d with
  | zero =>
    intro q N M x y hq hN hM hp hd
    obtain ⟨N, rfl⟩ : ∃ m, N = m + 1 := ⟨N - 1, by omega⟩
    obtain ⟨M, rfl⟩ : ∃ m, M = m + 1 := ⟨M - 1, by omega⟩
    obtain ⟨kc, xc, km, xm, f1, f2, f3⟩ := fin q x y hp (by omega) hd
    rw [fX6_scanWord_4, fX10_cutAll_70, hu.1, hv.1]
    simp (disch := first | omega | decide) only [i10, i00, decide_true, decide_false, cnd_t, cnd_f, gd_nil, gd_t, b1_0, b1_1, sw_nil, sw_cons, obs, Nat.not_lt_zero, nI_addo, nI_oadd, nI_add, nI_mulo, nI_omul, nI_mul, nI_lto, nI_leo, nI_olt, nI_ole, nI_eqo, nI_oeq, nI_lt2, nI_le2, nI_eq2, nI_nm1, nI_m1n, nI_lt0, nI_lem1, nc_nI, nc_o, ix_nI, ix_o, show ¬ q < n by omega]
    exact ⟨q, kc, xc, km, xm, Nat.le_refl q, by omega, (by intro h; first | exact h.elim | omega), f1, f2, f3⟩
  | succ d ih =>
    intro q N M x y hq hN hM hp hd
    obtain ⟨N, rfl⟩ : ∃ m, N = m + 1 := ⟨N - 1, by omega⟩
    obtain ⟨M, rfl⟩ : ∃ m, M = m + 1 := ⟨M - 1, by omega⟩
    have hcq := ctx_lt (hx q (by omega))
    rw [fX6_scanWord_4, fX10_cutAll_70, hu.1, hv.1]
    simp (disch := first | omega | decide) only [i10, i00, decide_true, decide_false, cnd_t, cnd_f, gd_nil, gd_t, b1_0, b1_1, sw_nil, sw_cons, obs, Nat.not_lt_zero, nI_addo, nI_oadd, nI_add, nI_mulo, nI_omul, nI_mul, nI_lto, nI_leo, nI_olt, nI_ole, nI_eqo, nI_oeq, nI_lt2, nI_le2, nI_eq2, nI_nm1, nI_m1n, nI_lt0, nI_lem1, nc_nI, nc_o, ix_nI, ix_o, show q < n by omega, c_sgn hu hn (i := q) (by omega) hcq, hv.2 q (by omega)]
    by_cases hl : 97 ≤ c q ∧ c q ≤ 122
    · rw [c_lt1 hl, m_lt1 hl]
      simp (disch := first | omega | decide) only [i10, i00, decide_true, decide_false, cnd_t, cnd_f, gd_nil, gd_t, b1_0, b1_1, sw_nil, sw_cons, obs, Nat.not_lt_zero, nI_addo, nI_oadd, nI_add, nI_mulo, nI_omul, nI_mul, nI_lto, nI_leo, nI_olt, nI_ole, nI_eqo, nI_oeq, nI_lt2, nI_le2, nI_eq2, nI_nm1, nI_m1n, nI_lt0, nI_lem1, nc_nI, nc_o, ix_nI, ix_o, nI_sub hp, c_sgn hu hn (i := q) (by omega) hcq, hv.2 q (by omega), nI_sub]
      unfold fX9_spell fX10_rank
      rw [m_lt1 hl]
      simp (disch := first | omega | decide) only [i10, i00, decide_true, decide_false, cnd_t, cnd_f, gd_nil, gd_t, b1_0, b1_1, sw_nil, sw_cons, obs, Nat.not_lt_zero, nI_addo, nI_oadd, nI_add, nI_mulo, nI_omul, nI_mul, nI_lto, nI_leo, nI_olt, nI_ole, nI_eqo, nI_oeq, nI_lt2, nI_le2, nI_eq2, nI_nm1, nI_m1n, nI_lt0, nI_lem1, nc_nI, nc_o, ix_nI, ix_o, nI_subo, show c q - 97 + 1 = c q - 96 by omega, nI_l (show c q - 96 < 2 ^ 31 by omega)]
      by_cases e8 : q - p < 8
      · simp only [e8, i10, i00, decide_true, decide_false, cnd_t, cnd_f, gd_nil, gd_t, b1_0, b1_1, sw_nil, sw_cons, obs]
        have hd' := hd (by omega)
        clear hd
        obtain ⟨ds, h1, h2, h3, h4⟩ := hd'
        subst h3 h4
        obtain ⟨e, kc, xc, km, xm, g1, g2, g3, g4, g5, g6⟩ := ih (q + 1) N M (lN (enc 27 (ds ++ [c q - 96]))) (lN (enc 37 (ds ++ [c q - 96]))) (by omega) (by omega) (by omega) (by omega) (fun _ => ⟨ds ++ [c q - 96], by rw [List.length_append, List.length_singleton]; omega, fun e he => by
          rcases List.mem_append.mp he with h | h
          · exact h2 e h
          · have h := List.mem_singleton.mp h
            omega, rfl, rfl⟩)
        have ex : lN (enc 27 ds) * 27 + lN (c q - 96) = lN (enc 27 (ds ++ [c q - 96])) := by
          rw [enc_snoc, show (27 : Int64) = lN 27 from rfl, lN_mul, lN_add]
        have ey : 37 * lN (enc 37 ds) + lN (c q - 96) = lN (enc 37 (ds ++ [c q - 96])) := by
          rw [enc_snoc, show (37 : Int64) = lN 37 from rfl, lN_mul, lN_add, Nat.mul_comm]
        rw [ex, ey]
        exact ⟨e, kc, xc, km, xm, by omega, g2, fun _ _ => by omega, g4, g5, g6⟩
      · simp only [e8, i10, i00, decide_true, decide_false, cnd_t, cnd_f, gd_nil, gd_t, b1_0, b1_1, sw_nil, sw_cons, obs]
        obtain ⟨e, kc, xc, km, xm, g1, g2, g3, g4, g5, g6⟩ := ih (q + 1) N M (x * 27 + lN (c q - 96)) y (by omega) (by omega) (by omega) (by omega) (fun h => by omega)
        exact ⟨e, kc, xc, km, xm, by omega, g2, fun _ _ => by omega, g4, g5, g6⟩
    · rw [c_lt0 hl hcq, m_lt0 hl hcq]
      simp (disch := first | omega | decide) only [i10, i00, decide_true, decide_false, cnd_t, cnd_f, gd_nil, gd_t, b1_0, b1_1, sw_nil, sw_cons, obs]
      obtain ⟨kc, xc, km, xm, f1, f2, f3⟩ := fin q x y hp (by omega) hd
      exact ⟨q, kc, xc, km, xm, Nat.le_refl q, by omega, fun _ h => absurd h hl, f1, f2, f3⟩
theorem n_loop (hu : txC c n u) (hv : txM c n v) (hn : n ≤ 1000) (hx : ∀ i, i < n → ctx (c i)) (k17 : Int32 → Int32 → ab_S → Option (Unit × ab_S)) (t p : Nat) (ht : t ≤ 1000) : ∀ d q N M x y, q + d = n → d < N → d < M → p ≤ q → (q - p ≤ 4 → ∃ m, m < 10 ^ (q - p) ∧ x = lN m ∧ y = lN m) → ∃ e kc xc km xm, q ≤ e ∧ e ≤ n ∧ (q < n → (48 ≤ c q ∧ c q ≤ 57) → q < e) ∧ fX6_scanNumber_4 N (nI p) (nI q) x u = (fX6_add kc (nI p) xc u).bind (fun q1 => some (nI e, q1.2)) ∧ fX10_cutAll_159 k17 M (nI t) (nI q) (nI p) y v = fX10_cutAll_265 k17 (nI t) (nI e) xm (sI v 2 t km) ∧ tkK kc xc km xm := by
  have fin : ∀ q x y, p ≤ q → q ≤ n → (q - p ≤ 4 → ∃ m, m < 10 ^ (q - p) ∧ x = lN m ∧ y = lN m) → ∃ kc xc km xm, fX6_scanNumber_45 (nI p) (nI q) x u = (fX6_add kc (nI p) xc u).bind (fun q1 => some (nI q, q1.2)) ∧ fX10_cutAll_218 k17 (nI t) (nI q) (nI p) y v = fX10_cutAll_265 k17 (nI t) (nI q) xm (sI v 2 t km) ∧ tkK kc xc km xm := by
    intro q x y hpq hqn hd
    unfold fX6_scanNumber_45 fX6_scanNumber_58 fX10_cutAll_218
    by_cases e : q - p ≤ 4
    · simp (disch := first | omega | decide) only [i10, i00, decide_true, decide_false, cnd_t, cnd_f, gd_nil, gd_t, b1_0, b1_1, sw_nil, sw_cons, obs, Nat.not_lt_zero, nI_addo, nI_oadd, nI_add, nI_mulo, nI_omul, nI_mul, nI_lto, nI_leo, nI_olt, nI_ole, nI_eqo, nI_oeq, nI_lt2, nI_le2, nI_eq2, nI_nm1, nI_m1n, nI_lt0, nI_lem1, nc_nI, nc_o, ix_nI, ix_o, nI_sub hpq, e]
      obtain ⟨m, h2, h3, h4⟩ := hd e
      have h5 : 10 ^ (q - p) ≤ 10 ^ 4 := Nat.pow_le_pow_right (by decide) e
      exact ⟨3, x, 2, y, rfl, rfl, Or.inr (Or.inr (Or.inl ⟨rfl, rfl, m, by omega, h3, h4⟩))⟩
    · simp (disch := first | omega | decide) only [i10, i00, decide_true, decide_false, cnd_t, cnd_f, gd_nil, gd_t, b1_0, b1_1, sw_nil, sw_cons, obs, Nat.not_lt_zero, nI_addo, nI_oadd, nI_add, nI_mulo, nI_omul, nI_mul, nI_lto, nI_leo, nI_olt, nI_ole, nI_eqo, nI_oeq, nI_lt2, nI_le2, nI_eq2, nI_nm1, nI_m1n, nI_lt0, nI_lem1, nc_nI, nc_o, ix_nI, ix_o, nI_sub hpq, e]
      exact ⟨1, x, 4, y, rfl, rfl, Or.inl ⟨rfl, rfl⟩⟩
  intro d
  induction d with
  | zero =>
    intro q N M x y hq hN hM hp hd
    obtain ⟨N, rfl⟩ : ∃ m, N = m + 1 := ⟨N - 1, by omega⟩
    obtain ⟨M, rfl⟩ : ∃ m, M = m + 1 := ⟨M - 1, by omega⟩
    obtain ⟨kc, xc, km, xm, f1, f2, f3⟩ := fin q x y hp (by omega) hd
    rw [fX6_scanNumber_4, fX10_cutAll_159, hu.1, hv.1]
    simp (disch := first | omega | decide) only [i10, i00, decide_true, decide_false, cnd_t, cnd_f, gd_nil, gd_t, b1_0, b1_1, sw_nil, sw_cons, obs, Nat.not_lt_zero, nI_addo, nI_oadd, nI_add, nI_mulo, nI_omul, nI_mul, nI_lto, nI_leo, nI_olt, nI_ole, nI_eqo, nI_oeq, nI_lt2, nI_le2, nI_eq2, nI_nm1, nI_m1n, nI_lt0, nI_lem1, nc_nI, nc_o, ix_nI, ix_o, show ¬ q < n by omega]
    exact ⟨q, kc, xc, km, xm, Nat.le_refl q, by omega, (by intro h; first | exact h.elim | omega), f1, f2, f3⟩
  | succ d ih =>
    intro q N M x y hq hN hM hp hd
    obtain ⟨N, rfl⟩ : ∃ m, N = m + 1 := ⟨N - 1, by omega⟩
    obtain ⟨M, rfl⟩ : ∃ m, M = m + 1 := ⟨M - 1, by omega⟩
    have hcq := ctx_lt (hx q (by omega))
    rw [fX6_scanNumber_4, fX10_cutAll_159, hu.1, hv.1]
    simp (disch := first | omega | decide) only [i10, i00, decide_true, decide_false, cnd_t, cnd_f, gd_nil, gd_t, b1_0, b1_1, sw_nil, sw_cons, obs, Nat.not_lt_zero, nI_addo, nI_oadd, nI_add, nI_mulo, nI_omul, nI_mul, nI_lto, nI_leo, nI_olt, nI_ole, nI_eqo, nI_oeq, nI_lt2, nI_le2, nI_eq2, nI_nm1, nI_m1n, nI_lt0, nI_lem1, nc_nI, nc_o, ix_nI, ix_o, show q < n by omega, c_sgn hu hn (i := q) (by omega) hcq, hv.2 q (by omega)]
    by_cases hl : 48 ≤ c q ∧ c q ≤ 57
    · rw [c_dg1 hl, m_dg1 hl]
      simp (disch := first | omega | decide) only [i10, i00, decide_true, decide_false, cnd_t, cnd_f, gd_nil, gd_t, b1_0, b1_1, sw_nil, sw_cons, obs, Nat.not_lt_zero, nI_addo, nI_oadd, nI_add, nI_mulo, nI_omul, nI_mul, nI_lto, nI_leo, nI_olt, nI_ole, nI_eqo, nI_oeq, nI_lt2, nI_le2, nI_eq2, nI_nm1, nI_m1n, nI_lt0, nI_lem1, nc_nI, nc_o, ix_nI, ix_o, nI_sub hp, c_sgn hu hn (i := q) (by omega) hcq, hv.2 q (by omega), nI_subo, nI_l (show c q - 48 < 2 ^ 31 by omega), nI_l (show c q < 2 ^ 31 by omega)]
      by_cases e4 : q - p < 4
      · simp only [e4, i10, i00, decide_true, decide_false, cnd_t, cnd_f, gd_nil, gd_t, b1_0, b1_1, sw_nil, sw_cons, obs]
        have hd' := hd (by omega)
        clear hd
        obtain ⟨m, h2, h3, h4⟩ := hd'
        subst h3 h4
        have hp10 : 10 ^ (q + 1 - p) = 10 ^ (q - p) * 10 := by rw [show q + 1 - p = (q - p) + 1 by omega, Nat.pow_succ]
        obtain ⟨e, kc, xc, km, xm, g1, g2, g3, g4, g5, g6⟩ := ih (q + 1) N M (lN (m * 10 + (c q - 48))) (lN (m * 10 + (c q - 48))) (by omega) (by omega) (by omega) (by omega) (fun _ => ⟨m * 10 + (c q - 48), by omega, rfl, rfl⟩)
        have ex : lN m * 10 + lN (c q - 48) = lN (m * 10 + (c q - 48)) := by
          rw [show (10 : Int64) = lN 10 from rfl, lN_mul, lN_add]
        have ey : 10 * lN m + lN (c q) - 48 = lN (m * 10 + (c q - 48)) := by
          rw [show (10 : Int64) = lN 10 from rfl, show (48 : Int64) = lN 48 from rfl, lN_mul, lN_add, lN_sub (by omega)]
          congr 1
          omega
        rw [ex, ey]
        exact ⟨e, kc, xc, km, xm, by omega, g2, fun _ _ => by omega, g4, g5, g6⟩
      · simp only [e4, i10, i00, decide_true, decide_false, cnd_t, cnd_f, gd_nil, gd_t, b1_0, b1_1, sw_nil, sw_cons, obs]
        obtain ⟨e, kc, xc, km, xm, g1, g2, g3, g4, g5, g6⟩ := ih (q + 1) N M (x * 10 + lN (c q - 48)) y (by omega) (by omega) (by omega) (by omega) (fun h => by omega)
        exact ⟨e, kc, xc, km, xm, by omega, g2, fun _ _ => by omega, g4, g5, g6⟩
    · rw [c_dg0 hl hcq, m_dg0 hl hcq]
      simp (disch := first | omega | decide) only [i10, i00, decide_true, decide_false, cnd_t, cnd_f, gd_nil, gd_t, b1_0, b1_1, sw_nil, sw_cons, obs]
      obtain ⟨kc, xc, km, xm, f1, f2, f3⟩ := fin q x y hp (by omega) hd
      exact ⟨q, kc, xc, km, xm, Nat.le_refl q, by omega, fun _ h => absurd h hl, f1, f2, f3⟩
end PU
