/-! the words of the text -/
def wdD : List (List Nat) := [[16, 5, 18, 19, 15, 14], [3, 15, 9, 14, 19], [7, 15, 15, 4], [23, 15, 18, 20, 8], [15, 6], [12, 9, 11, 5, 19], [19, 5, 5, 4], [6, 9, 20, 19], [17, 21, 1, 18, 20, 5, 18], [2, 21, 25], [19, 23, 1, 16], [2, 18, 9, 14, 7], [16, 12, 1, 9, 14], [16, 18, 15, 21, 4], [13, 5, 5, 11], [13, 1, 20, 5], [14, 15, 20], [1, 14, 4], [15, 18], [16, 18, 9, 3, 5], [13, 9, 14, 5], [12, 9, 11, 5], [15, 20, 8, 5, 18, 19]]
def encR (b : Nat) : List Nat → Nat
  | [] => 0
  | d :: r => encR b r * b + d
theorem enc_rev (b : Nat) : ∀ ds : List Nat, enc b ds.reverse = encR b ds
  | [] => rfl
  | d :: r => by rw [List.reverse_cons, enc_snoc, enc_rev b r]; rfl
theorem enc_encR (b : Nat) (ds : List Nat) : enc b ds = encR b ds.reverse := by rw [← enc_rev, List.reverse_reverse]
theorem encR_pos {b : Nat} {d : Nat} {r : List Nat} (h : 1 ≤ d) : 1 ≤ encR b (d :: r) := Nat.le_trans h (Nat.le_add_left _ _)
theorem encR_inj {b : Nat} (hb : 27 ≤ b) : ∀ ds ds' : List Nat, (∀ e, e ∈ ds → 1 ≤ e ∧ e ≤ 26) → (∀ e, e ∈ ds' → 1 ≤ e ∧ e ≤ 26) → encR b ds = encR b ds' → ds = ds'
  | [], [], _, _, _ => rfl
  | [], d :: r, _, h', e => absurd e (by have := encR_pos (b := b) (r := r) (h' d (List.mem_cons_self)).1; show ¬ (0 = _); omega)
  | d :: r, [], h, _, e => absurd e (by have := encR_pos (b := b) (r := r) (h d (List.mem_cons_self)).1; show ¬ (_ = 0); omega)
  | d :: r, d' :: r', h, h', e => by
    have h1 := h d List.mem_cons_self
    have h2 := h' d' List.mem_cons_self
    have e1 : encR b r * b + d = encR b r' * b + d' := e
    have ed : d = d' := by
      have := congrArg (· % b) e1
      simp only [Nat.add_comm (_ * b), Nat.add_mul_mod_self_right] at this
      rwa [Nat.mod_eq_of_lt (by omega), Nat.mod_eq_of_lt (by omega)] at this
    subst ed
    have er : encR b r = encR b r' := Nat.eq_of_mul_eq_mul_right (show 0 < b by omega) (Nat.add_right_cancel e1)
    rw [encR_inj hb r r' (fun e he => h e (List.mem_cons_of_mem _ he)) (fun e he => h' e (List.mem_cons_of_mem _ he)) er]
theorem encR_lt {b : Nat} (hb : 27 ≤ b) : ∀ ds : List Nat, (∀ e, e ∈ ds → 1 ≤ e ∧ e ≤ 26) → encR b ds < b ^ ds.length
  | [], _ => by show 0 < 1; decide
  | d :: r, h => by
    have h1 := h d List.mem_cons_self
    have h2 := encR_lt hb r (fun e he => h e (List.mem_cons_of_mem _ he))
    have h3 : (encR b r + 1) * b ≤ b ^ r.length * b := Nat.mul_le_mul_right b h2
    rw [Nat.add_mul, Nat.one_mul] at h3
    show encR b r * b + d < b ^ (r.length + 1)
    rw [Nat.pow_succ]
    omega
theorem lN_inj {a b : Nat} (ha : a < 9223372036854775808) (hb : b < 9223372036854775808) : lN a = lN b ↔ a = b := by
  constructor
  · intro h
    have := congrArg Int64.toInt h
    rw [lN_toI ha, lN_toI hb] at this
    omega
  · intro h; rw [h]
theorem enc_inj {b : Nat} (hb : 27 ≤ b) (hb2 : b ≤ 37) {ds ds' : List Nat} (l : ds.length ≤ 8) (l' : ds'.length ≤ 8) (h : ∀ e, e ∈ ds → 1 ≤ e ∧ e ≤ 26) (h' : ∀ e, e ∈ ds' → 1 ≤ e ∧ e ≤ 26) : lN (enc b ds) = lN (enc b ds') ↔ ds = ds' := by
  have bd : ∀ ds : List Nat, ds.length ≤ 8 → (∀ e, e ∈ ds → 1 ≤ e ∧ e ≤ 26) → enc b ds < 9223372036854775808 := by
    intro ds l h
    rw [enc_encR]
    have h1 := encR_lt hb ds.reverse (fun e he => h e (List.mem_reverse.mp he))
    rw [List.length_reverse] at h1
    have h2 : b ^ ds.length ≤ b ^ 8 := Nat.pow_le_pow_right (by omega) l
    have h3 : b ^ 8 ≤ 37 ^ 8 := Nat.pow_le_pow_left hb2 8
    have h4 : 37 ^ 8 < 9223372036854775808 := by decide
    omega
  rw [lN_inj (bd ds l h) (bd ds' l' h')]
  constructor
  · intro e
    rw [enc_encR, enc_encR] at e
    have := encR_inj hb ds.reverse ds'.reverse (fun e he => h e (List.mem_reverse.mp he)) (fun e he => h' e (List.mem_reverse.mp he)) e
    exact List.reverse_inj.mp this
  · intro e; rw [e]
theorem WR.inj {x y x' y' : Int64} (h : WR x y) (h' : WR x' y') : x = x' ↔ y = y' := by
  obtain ⟨ds, a1, a2, a3, a4, a5⟩ := h
  obtain ⟨ds', b1, b2, b3, b4, b5⟩ := h'
  subst a4 a5 b4 b5
  rw [enc_inj (by decide) (by decide) a2 b2 a3 b3, enc_inj (by decide) (by decide) a2 b2 a3 b3]
theorem wd_key : ∀ k, k < 23 → 1 ≤ (wdD.getD k []).length ∧ (wdD.getD k []).length ≤ 8 ∧ (∀ e, e ∈ wdD.getD k [] → 1 ≤ e ∧ e ≤ 26) ∧ ab_wl.getD k 0 = lN (enc 27 (wdD.getD k [])) ∧ lN (wdL.getD k 0) = lN (enc 37 (wdD.getD k [])) := by decide +kernel
theorem wd_WR {k : Nat} (h : k < 23) : WR (ab_wl.getD k 0) (lN (wdL.getD k 0)) := ⟨_, wd_key k h⟩
theorem wd_ne : ∀ k, k < 23 → ∀ j, j < 23 → ab_wl.getD k 0 = ab_wl.getD j 0 → k = j := by decide +kernel
-- ===== the token that stands first =====
def pR (n T i : Nat) (u v : ab_S) : Prop := tkT n T u v ∧ tkA i u v ∧ i ≤ T ∧ v.1 0 8 = 0 ∧ pWd v
def curK (kc : Int32) (xc : Int64) (km : Int32) (xm : Int64) : Prop := (kc = 0 ∧ km = 0) ∨ tkK kc xc km xm
abbrev isW (k : Nat) (u : ab_S) : Prop := u.1 1 7 = 2 ∧ u.2.1 1 9 = ab_wl.getD k 0
section PU
variable {u v : ab_S} {n T i : Nat}
theorem pR.i1000 (h : pR n T i u v) : i ≤ 1000 := Nat.le_trans h.2.2.1 (Nat.le_trans h.1.1 h.1.2.1)
theorem pR.cur (h : pR n T i u v) : curK (u.1 1 7) (u.2.1 1 9) (v.1 2 i) (v.2.1 4 i) := by
  obtain ⟨⟨h1, h2, h3, h4, h5, -⟩, ⟨a1, a2, a3, a4, a5⟩, hi, -⟩ := h
  rw [a2, a4]
  by_cases e : i = T
  · subst e
    exact Or.inl ⟨h4, h5⟩
  · obtain ⟨p, -, -, -, k⟩ := h3 i (by omega)
    exact Or.inr k
theorem pR.plc (h : pR n T i u v) : ∃ p, p ≤ 1000 ∧ u.1 1 8 = nI p ∧ v.1 3 i = nI p := by
  obtain ⟨⟨h1, h2, h3, h4, h5, h6, h7, -⟩, ⟨a1, a2, a3, a4, a5⟩, hi, -⟩ := h
  rw [a3]
  by_cases e : i = T
  · subst e
    exact ⟨n, h2, h6, h7⟩
  · obtain ⟨p, q1, q2, q3, k⟩ := h3 i (by omega)
    exact ⟨p, by omega, q2, q3⟩
theorem pR.end (h : pR n T i u v) : (u.1 1 7 = 0 ↔ v.1 2 i = 0) := by
  obtain h | ⟨a, b⟩ | ⟨a, b, -⟩ | ⟨a, b, -⟩ | ⟨a, b, -⟩ := h.cur
  · simp only [h.1, h.2]
  all_goals (simp only [a, b]; decide +kernel)
theorem pR.word (h : pR n T i u v) : (u.1 1 7 = 2 ↔ v.1 2 i = 1) ∧ (u.1 1 7 = 2 → WR (u.2.1 1 9) (v.2.1 4 i)) := by
  obtain h | ⟨a, b⟩ | ⟨a, b, w⟩ | ⟨a, b, -⟩ | ⟨a, b, -⟩ := h.cur
  · rw [h.1, h.2]; exact ⟨by decide +kernel, fun z => absurd z (by decide +kernel)⟩
  · rw [a, b]; exact ⟨by decide +kernel, fun z => absurd z (by decide +kernel)⟩
  · rw [a, b]; exact ⟨by decide +kernel, fun _ => w⟩
  · rw [a, b]; exact ⟨by decide +kernel, fun z => absurd z (by decide +kernel)⟩
  · rw [a, b]; exact ⟨by decide +kernel, fun z => absurd z (by decide +kernel)⟩
theorem pR.wd (h : pR n T i u v) {k : Nat} (hk : k < 23) : isW k u ↔ (v.1 2 i = 1 ∧ v.2.1 4 i = v.2.1 5 k) := by
  show (u.1 1 7 = 2 ∧ u.2.1 1 9 = ab_wl.getD k 0) ↔ _
  rw [h.2.2.2.2 k hk, h.word.1]
  constructor
  · rintro ⟨a, b⟩
    exact ⟨a, ((h.word.2 (h.word.1.mpr a)).inj (wd_WR hk)).mp b⟩
  · rintro ⟨a, b⟩
    exact ⟨a, ((h.word.2 (h.word.1.mpr a)).inj (wd_WR hk)).mpr b⟩
theorem isW.uniq {k j : Nat} (hk : k < 23) (hj : j < 23) (h : isW k u) (h' : isW j u) : k = j := wd_ne k hk j hj (h.2.symm.trans h'.2)
theorem c_isWord (k : Nat) : fX6_isWord k u = some (if isW k u then 1 else 0, u) := by
  unfold fX6_isWord
  by_cases e : u.1 1 7 = 2
  · by_cases e2 : u.2.1 1 9 = ab_wl.getD k 0
    · rw [if_pos ⟨e, e2⟩]
      simp only [i10, i00, decide_true, decide_false, cnd_t, cnd_f, gd_nil, gd_t, b1_0, b1_1, sw_nil, sw_cons, obs, e, e2]
    · rw [if_neg fun h => e2 h.2]
      simp only [i10, i00, decide_true, decide_false, cnd_t, cnd_f, gd_nil, gd_t, b1_0, b1_1, sw_nil, sw_cons, obs, e, e2]
  · rw [if_neg fun h => e h.1]
    simp only [i10, i00, decide_true, decide_false, cnd_t, cnd_f, gd_nil, gd_t, b1_0, b1_1, sw_nil, sw_cons, obs, e]
theorem m_isWord (h : pR n T i u v) {k : Nat} (hk : k < 23) : fX10_isWord (nI k) v = some (if isW k u then 1 else 0, v) := by
  have h7 := h.2.1.2.2.2.2
  have h8 := h.2.2.2.1
  have hi := h.i1000
  have hw := h.wd hk
  unfold fX10_isWord
  rw [h7, h8]
  simp (disch := first | omega | decide) only [i10, i00, decide_true, decide_false, cnd_t, cnd_f, gd_nil, gd_t, b1_0, b1_1, sw_nil, sw_cons, obs, Nat.not_lt_zero, nI_addo, nI_oadd, nI_add, nI_mulo, nI_omul, nI_mul, nI_lto, nI_leo, nI_olt, nI_ole, nI_eqo, nI_oeq, nI_lt2, nI_le2, nI_eq2, nI_nm1, nI_m1n, nI_lt0, nI_lem1, nc_nI, nc_o, ix_nI, ix_o]
  by_cases e : v.1 2 i = 1
  · by_cases e2 : v.2.1 4 i = v.2.1 5 k
    · rw [if_pos (hw.mpr ⟨e, e2⟩)]
      simp only [i10, i00, decide_true, decide_false, cnd_t, cnd_f, gd_nil, gd_t, b1_0, b1_1, sw_nil, sw_cons, obs, e, e2]
    · rw [if_neg fun z => e2 (hw.mp z).2]
      simp only [i10, i00, decide_true, decide_false, cnd_t, cnd_f, gd_nil, gd_t, b1_0, b1_1, sw_nil, sw_cons, obs, e, e2]
  · rw [if_neg fun z => e (hw.mp z).1]
    simp only [i10, i00, decide_true, decide_false, cnd_t, cnd_f, gd_nil, gd_t, b1_0, b1_1, sw_nil, sw_cons, obs, e]
-- a row of words
theorem m_wordLoop (h : pR n T i u v) (a m : Nat) (ham : a + m ≤ 23) : ∀ (d k N : Nat) (r : Int32), k + d = m → d < N → (∃ r', fX10_wordHere_5 N (nI a) (nI m) r (nI k) v = some (r', v) ∧ (∀ j, k ≤ j → j < m → isW (a + j) u → r' = nI j) ∧ ((∀ j, k ≤ j → j < m → ¬ isW (a + j) u) → r' = r)) := by
  intro d
  induction d with
  | zero =>
    intro k N r hk hN
    obtain ⟨N, rfl⟩ : ∃ m, N = m + 1 := ⟨N - 1, by omega⟩
    rw [fX10_wordHere_5]
    simp (disch := first | omega | decide) only [i10, i00, decide_true, decide_false, cnd_t, cnd_f, gd_nil, gd_t, b1_0, b1_1, sw_nil, sw_cons, obs, Nat.not_lt_zero, nI_addo, nI_oadd, nI_add, nI_mulo, nI_omul, nI_mul, nI_lto, nI_leo, nI_olt, nI_ole, nI_eqo, nI_oeq, nI_lt2, nI_le2, nI_eq2, nI_nm1, nI_m1n, nI_lt0, nI_lem1, nc_nI, nc_o, ix_nI, ix_o, show ¬ k < m by omega]
    exact ⟨r, rfl, fun j h1 h2 => by omega, fun _ => rfl⟩
  | succ d ih =>
    intro k N r hk hN
    obtain ⟨N, rfl⟩ : ∃ m, N = m + 1 := ⟨N - 1, by omega⟩
    rw [fX10_wordHere_5]
    simp (disch := first | omega | decide) only [i10, i00, decide_true, decide_false, cnd_t, cnd_f, gd_nil, gd_t, b1_0, b1_1, sw_nil, sw_cons, obs, Nat.not_lt_zero, nI_addo, nI_oadd, nI_add, nI_mulo, nI_omul, nI_mul, nI_lto, nI_leo, nI_olt, nI_ole, nI_eqo, nI_oeq, nI_lt2, nI_le2, nI_eq2, nI_nm1, nI_m1n, nI_lt0, nI_lem1, nc_nI, nc_o, ix_nI, ix_o, show k < m by omega, m_isWord h (show a + k < 23 by omega)]
    by_cases e : isW (a + k) u
    · simp only [if_pos e, i10, i00, decide_true, decide_false, cnd_t, cnd_f, gd_nil, gd_t, b1_0, b1_1, sw_nil, sw_cons, obs]
      obtain ⟨r', g1, g2, g3⟩ := ih (k + 1) N (nI k) (by omega) (by omega)
      have no : ∀ j, k + 1 ≤ j → j < m → ¬ isW (a + j) u := fun j h1 h2 h3 => by
        have := isW.uniq (by omega) (by omega) e h3
        omega
      refine ⟨r', g1, fun j h1 h2 h3 => ?_, fun z => absurd e (z k (Nat.le_refl k) (by omega))⟩
      have := isW.uniq (by omega) (by omega) e h3
      have ej : j = k := by omega
      rw [ej]
      exact g3 no
    · simp only [if_neg e, i10, i00, decide_true, decide_false, cnd_t, cnd_f, gd_nil, gd_t, b1_0, b1_1, sw_nil, sw_cons, obs]
      obtain ⟨r', g1, g2, g3⟩ := ih (k + 1) N r (by omega) (by omega)
      refine ⟨r', g1, fun j h1 h2 h3 => ?_, fun z => g3 fun j h1 h2 => z j (by omega) h2⟩
      by_cases ej : j = k
      · subst ej; exact absurd h3 e
      · exact g2 j (by omega) h2 h3
theorem m_wordHere (h : pR n T i u v) (a m : Nat) (ham : a + m ≤ 23) : ∃ r, fX10_wordHere (nI a) (nI m) v = some (r, v) ∧ (∀ j, j < m → isW (a + j) u → r = nI j) ∧ ((∀ j, j < m → ¬ isW (a + j) u) → r = -1) := by
  obtain ⟨r, h1, h2, h3⟩ := m_wordLoop h a m ham m 0 fu (-1) (by omega) (show m < 5000 by omega)
  exact ⟨r, h1, fun j => h2 j (Nat.zero_le j), fun z => h3 fun j _ => z j⟩
end PU
