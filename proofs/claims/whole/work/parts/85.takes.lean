/-! the words of the text -/
def wdD : List (List Nat) := [[16, 5, 18, 19, 15, 14], [3, 15, 9, 14, 19], [7, 15, 15, 4], [23, 15, 18, 20, 8], [15, 6], [12, 9, 11, 5, 19], [19, 5, 5, 4], [6, 9, 20, 19], [17, 21, 1, 18, 20, 5, 18], [2, 21, 25], [19, 23, 1, 16], [2, 18, 9, 14, 7], [16, 12, 1, 9, 14], [16, 18, 15, 21, 4], [13, 5, 5, 11], [13, 1, 20, 5], [14, 15, 20], [1, 14, 4], [15, 18], [16, 18, 9, 3, 5], [13, 9, 14, 5], [12, 9, 11, 5], [15, 20, 8, 5, 18, 19]]
def encR (b : Nat) : List Nat → Nat
  | [] => 0
  | d :: r => encR b r * b + d
theorem enc_rev (b : Nat) : ∀ ds : List Nat, enc b ds.reverse = encR b ds
  | [] => rfl
  | d :: r => by rw [List.reverse_cons, enc_snoc, enc_rev b r]; rfl
theorem enc_encR (b : Nat) (ds : List Nat) : enc b ds = encR b ds.reverse := by rw [← enc_rev, List.reverse_reverse]
theorem encR_pos {b : Nat} {d : Nat} {r : List Nat} (h : 1 ≤ d) : 1 ≤ encR b (d :: r) := Nat.le_trans h (Nat.le_add_left _ _)
theorem encR_inj {b : Nat} (hb : 27 ≤ b) : ∀ ds ds' : List Nat, (∀ e, e ∈ ds → 1 ≤ e ∧ e ≤ 26) → (∀ e, e ∈ ds' → 1 ≤ e ∧ e ≤ 26) → encR b ds = encR b ds' → ds = ds'
  | [], [], _, _, _ => rfl
  | [], d :: r, _, h', e => absurd e (by have := encR_pos (b := b) (r := r) (h' d (List.mem_cons_self)).1; show ¬ (0 = _); omega)
  | d :: r, [], h, _, e => absurd e (by have := encR_pos (b := b) (r := r) (h d (List.mem_cons_self)).1; show ¬ (_ = 0); omega)
  | d :: r, d' :: r', h, h', e => by
    have h1 := h d List.mem_cons_self
    have h2 := h' d' List.mem_cons_self
    have e1 : encR b r * b + d = encR b r' * b + d' := e
    have ed : d = d' := by
      have := congrArg (· % b) e1
      simp only [Nat.add_comm (_ * b), Nat.add_mul_mod_self_right] at this
      rwa [Nat.mod_eq_of_lt (by omega), Nat.mod_eq_of_lt (by omega)] at this
    subst ed
    have er : encR b r = encR b r' := Nat.eq_of_mul_eq_mul_right (show 0 < b by omega) (Nat.add_right_cancel e1)
    rw [encR_inj hb r r' (fun e he => h e (List.mem_cons_of_mem _ he)) (fun e he => h' e (List.mem_cons_of_mem _ he)) er]
theorem encR_lt {b : Nat} (hb : 27 ≤ b) : ∀ ds : List Nat, (∀ e, e ∈ ds → 1 ≤ e ∧ e ≤ 26) → encR b ds < b ^ ds.length
  | [], _ => by show 0 < 1; decide
  | d :: r, h => by
    have h1 := h d List.mem_cons_self
    have h2 := encR_lt hb r (fun e he => h e (List.mem_cons_of_mem _ he))
    have h3 : (encR b r + 1) * b ≤ b ^ r.length * b := Nat.mul_le_mul_right b h2
    rw [Nat.add_mul, Nat.one_mul] at h3
    show encR b r * b + d < b ^ (r.length + 1)
    rw [Nat.pow_succ]
    omega
theorem lN_inj {a b : Nat} (ha : a < 9223372036854775808) (hb : b < 9223372036854775808) : lN a = lN b ↔ a = b := by
  constructor
  · intro h
    have := congrArg Int64.toInt h
    rw [lN_toI ha, lN_toI hb] at this
    omega
  · intro h; rw [h]
theorem enc_inj {b : Nat} (hb : 27 ≤ b) (hb2 : b ≤ 37) {ds ds' : List Nat} (l : ds.length ≤ 8) (l' : ds'.length ≤ 8) (h : ∀ e, e ∈ ds → 1 ≤ e ∧ e ≤ 26) (h' : ∀ e, e ∈ ds' → 1 ≤ e ∧ e ≤ 26) : lN (enc b ds) = lN (enc b ds') ↔ ds = ds' := by
  have bd : ∀ ds : List Nat, ds.length ≤ 8 → (∀ e, e ∈ ds → 1 ≤ e ∧ e ≤ 26) → enc b ds < 9223372036854775808 := by
    intro ds l h
    rw [enc_encR]
    have h1 := encR_lt hb ds.reverse (fun e he => h e (List.mem_reverse.mp he))
    rw [List.length_reverse] at h1
    have h2 : b ^ ds.length ≤ b ^ 8 := Nat.pow_le_pow_right (by omega) l
    have h3 : b ^ 8 ≤ 37 ^ 8 := Nat.pow_le_pow_left hb2 8
    have h4 : 37 ^ 8 < 9223372036854775808 := by decide
    omega
  rw [lN_inj (bd ds l h) (bd ds' l' h')]
  constructor
  · intro e
    rw [enc_encR, enc_encR] at e
    have := encR_inj hb ds.reverse ds'.reverse (fun e he => h e (List.mem_reverse.mp he)) (fun e he => h' e (List.mem_reverse.mp he)) e
    exact List.reverse_inj.mp this
  · intro e; rw [e]
theorem WR.inj {x y x' y' : Int64} (h : WR x y) (h' : WR x' y') : x = x' ↔ y = y' := by
  obtain ⟨ds, a1, a2, a3, a4, a5⟩ := h
  obtain ⟨ds', b1, b2, b3, b4, b5⟩ := h'
  subst a4 a5 b4 b5
  rw [enc_inj (by decide) (by decide) a2 b2 a3 b3, enc_inj (by decide) (by decide) a2 b2 a3 b3]
theorem wd_key : ∀ k, k < 23 → 1 ≤ (wdD.getD k []).length ∧ (wdD.getD k []).length ≤ 8 ∧ (∀ e, e ∈ wdD.getD k [] → 1 ≤ e ∧ e ≤ 26) ∧ ab_wl.getD k 0 = lN (enc 27 (wdD.getD k [])) ∧ lN (wdL.getD k 0) = lN (enc 37 (wdD.getD k [])) := by decide +kernel
theorem wd_WR {k : Nat} (h : k < 23) : WR (ab_wl.getD k 0) (lN (wdL.getD k 0)) := ⟨_, wd_key k h⟩
theorem wd_ne : ∀ k, k < 23 → ∀ j, j < 23 → ab_wl.getD k 0 = ab_wl.getD j 0 → k = j := by decide +kernel
-- ===== the token that stands first =====
def pR (n T i : Nat) (u v : ab_S) : Prop := tkT n T u v ∧ tkA i u v ∧ i ≤ T ∧ v.1 0 8 = 0 ∧ pWd v
def curK (kc : Int32) (xc : Int64) (km : Int32) (xm : Int64) : Prop := (kc = 0 ∧ km = 0) ∨ tkK kc xc km xm
abbrev isW (k : Nat) (u : ab_S) : Prop := u.1 1 7 = 2 ∧ u.2.1 1 9 = ab_wl.getD k 0
section PU
variable {u v : ab_S} {n T i : Nat}
theorem pR.i1000 (h : pR n T i u v) : i ≤ 1000 := Nat.le_trans h.2.2.1 (Nat.le_trans h.1.1 h.1.2.1)
theorem pR.cur (h : pR n T i u v) : curK (u.1 1 7) (u.2.1 1 9) (v.1 2 i) (v.2.1 4 i) := by
  obtain ⟨⟨h1, h2, h3, h4, h5, -⟩, ⟨a1, a2, a3, a4, a5⟩, hi, -⟩ := h
  rw [a2, a4]
  by_cases e : i = T
  · subst e
    exact Or.inl ⟨h4, h5⟩
  · obtain ⟨p, -, -, -, k⟩ := h3 i (by omega)
    exact Or.inr k
theorem pR.plc (h : pR n T i u v) : ∃ p, p ≤ 1000 ∧ u.1 1 8 = nI p ∧ v.1 3 i = nI p := by
  obtain ⟨⟨h1, h2, h3, h4, h5, h6, h7, -⟩, ⟨a1, a2, a3, a4, a5⟩, hi, -⟩ := h
  rw [a3]
  by_cases e : i = T
  · subst e
    exact ⟨n, h2, h6, h7⟩
  · obtain ⟨p, q1, q2, q3, k⟩ := h3 i (by omega)
    exact ⟨p, by omega, q2, q3⟩
theorem pR.end (h : pR n T i u v) : (u.1 1 7 = 0 ↔ v.1 2 i = 0) := by
  obtain h | ⟨a, b⟩ | ⟨a, b, -⟩ | ⟨a, b, -⟩ | ⟨a, b, -⟩ := h.cur
  · simp only [h.1, h.2]
  all_goals (simp only [a, b]; decide +kernel)
theorem pR.word (h : pR n T i u v) : (u.1 1 7 = 2 ↔ v.1 2 i = 1) ∧ (u.1 1 7 = 2 → WR (u.2.1 1 9) (v.2.1 4 i)) := by
  obtain h | ⟨a, b⟩ | ⟨a, b, w⟩ | ⟨a, b, -⟩ | ⟨a, b, -⟩ := h.cur
  · rw [h.1, h.2]; exact ⟨by decide +kernel, fun z => absurd z (by decide +kernel)⟩
  · rw [a, b]; exact ⟨by decide +kernel, fun z => absurd z (by decide +kernel)⟩
  · rw [a, b]; exact ⟨by decide +kernel, fun _ => w⟩
  · rw [a, b]; exact ⟨by decide +kernel, fun z => absurd z (by decide +kernel)⟩
  · rw [a, b]; exact ⟨by decide +kernel, fun z => absurd z (by decide +kernel)⟩
theorem pR.wd (h : pR n T i u v) {k : Nat} (hk : k < 23) : isW k u ↔ (v.1 2 i = 1 ∧ v.2.1 4 i = v.2.1 5 k) := by
  show (u.1 1 7 = 2 ∧ u.2.1 1 9 = ab_wl.getD k 0) ↔ _
  rw [h.2.2.2.2 k hk, h.word.1]
  constructor
  · rintro ⟨a, b⟩
    exact ⟨a, ((h.word.2 (h.word.1.mpr a)).inj (wd_WR hk)).mp b⟩
  · rintro ⟨a, b⟩
    exact ⟨a, ((h.word.2 (h.word.1.mpr a)).inj (wd_WR hk)).mpr b⟩
theorem isW.uniq {k j : Nat} (hk : k < 23) (hj : j < 23) (h : isW k u) (h' : isW j u) : k = j := wd_ne k hk j hj (h.2.symm.trans h'.2)
theorem c_isWord (k : Nat) : fX6_isWord k u = some (if isW k u then 1 else 0, u) := by
  unfold fX6_isWord
  by_cases e : u.1 1 7 = 2
  · by_cases e2 : u.2.1 1 9 = ab_wl.getD k 0
    · rw [if_pos ⟨e, e2⟩]
      simp only [i10, i00, decide_true, decide_false, cnd_t, cnd_f, gd_nil, gd_t, b1_0, b1_1, sw_nil, sw_cons, obs, e, e2]
    · rw [if_neg fun h => e2 h.2]
      simp only [i10, i00, decide_true, decide_false, cnd_t, cnd_f, gd_nil, gd_t, b1_0, b1_1, sw_nil, sw_cons, obs, e, e2]
  · rw [if_neg fun h => e h.1]
    simp only [i10, i00, decide_true, decide_false, cnd_t, cnd_f, gd_nil, gd_t, b1_0, b1_1, sw_nil, sw_cons, obs, e]
theorem m_isWord (h : pR n T i u v) {k : Nat} (hk : k < 23) : fX10_isWord (nI k) v = some (if isW k u then 1 else 0, v) := by
  have h7 := h.2.1.2.2.2.2
  have h8 := h.2.2.2.1
  have hi := h.i1000
  have hw := h.wd hk
  unfold fX10_isWord
  rw [h7, h8]
  simp (disch := first | omega | decide) only [i10, i00, decide_true, decide_false, cnd_t, cnd_f, gd_nil, gd_t, b1_0, b1_1, sw_nil, sw_cons, obs, Nat.not_lt_zero, nI_addo, nI_oadd, nI_add, nI_mulo, nI_omul, nI_mul, nI_lto, nI_leo, nI_olt, nI_ole, nI_eqo, nI_oeq, nI_lt2, nI_le2, nI_eq2, nI_nm1, nI_m1n, nI_lt0, nI_lem1, nc_nI, nc_o, ix_nI, ix_o]
  by_cases e : v.1 2 i = 1
  · by_cases e2 : v.2.1 4 i = v.2.1 5 k
    · rw [if_pos (hw.mpr ⟨e, e2⟩)]
      simp only [i10, i00, decide_true, decide_false, cnd_t, cnd_f, gd_nil, gd_t, b1_0, b1_1, sw_nil, sw_cons, obs, e, e2]
    · rw [if_neg fun z => e2 (hw.mp z).2]
      simp only [i10, i00, decide_true, decide_false, cnd_t, cnd_f, gd_nil, gd_t, b1_0, b1_1, sw_nil, sw_cons, obs, e, e2]
  · rw [if_neg fun z => e (hw.mp z).1]
    simp only [i10, i00, decide_true, decide_false, cnd_t, cnd_f, gd_nil, gd_t, b1_0, b1_1, sw_nil, sw_cons, obs, e]
-- a row of words
theorem m_wordLoop (h : pR n T i u v) (a m : Nat) (ham : a + m ≤ 23) : ∀ (d k N : Nat) (r : Int32), k + d = m → d < N → (∃ r', fX10_wordHere_5 N (nI a) (nI m) r (nI k) v = some (r', v) ∧ (∀ j, k ≤ j → j < m → isW (a + j) u → r' = nI j) ∧ ((∀ j, k ≤ j → j < m → ¬ isW (a + j) u) → r' = r)) := by
  intro d
  induction d with
  | zero =>
    intro k N r hk hN
    obtain ⟨N, rfl⟩ : ∃ m, N = m + 1 := ⟨N - 1, by omega⟩
    rw [fX10_wordHere_5]
    simp (disch := first | omega | decide) only [i10, i00, decide_true, decide_false, cnd_t, cnd_f, gd_nil, gd_t, b1_0, b1_1, sw_nil, sw_cons, obs, Nat.not_lt_zero, nI_addo, nI_oadd, nI_add, nI_mulo, nI_omul, nI_mul, nI_lto, nI_leo, nI_olt, nI_ole, nI_eqo, nI_oeq, nI_lt2, nI_le2, nI_eq2, nI_nm1, nI_m1n, nI_lt0, nI_lem1, nc_nI, nc_o, ix_nI, ix_o, show ¬ k < m by omega]
    exact ⟨r, rfl, fun j h1 h2 => by omega, fun _ => rfl⟩
  | succ d ih =>
    intro k N r hk hN
    obtain ⟨N, rfl⟩ : ∃ m, N = m + 1 := ⟨N - 1, by omega⟩
    rw [fX10_wordHere_5]
    simp (disch := first | omega | decide) only [i10, i00, decide_true, decide_false, cnd_t, cnd_f, gd_nil, gd_t, b1_0, b1_1, sw_nil, sw_cons, obs, Nat.not_lt_zero, nI_addo, nI_oadd, nI_add, nI_mulo, nI_omul, nI_mul, nI_lto, nI_leo, nI_olt, nI_ole, nI_eqo, nI_oeq, nI_lt2, nI_le2, nI_eq2, nI_nm1, nI_m1n, nI_lt0, nI_lem1, nc_nI, nc_o, ix_nI, ix_o, show k < m by omega, m_isWord h (show a + k < 23 by omega)]
    by_cases e : isW (a + k) u
    · simp only [if_pos e, i10, i00, decide_true, decide_false, cnd_t, cnd_f, gd_nil, gd_t, b1_0, b1_1, sw_nil, sw_cons, obs]
      obtain ⟨r', g1, g2, g3⟩ := ih (k + 1) N (nI k) (by omega) (by omega)
      have no : ∀ j, k + 1 ≤ j → j < m → ¬ isW (a + j) u := fun j h1 h2 h3 => by
        have := isW.uniq (by omega) (by omega) e h3
        omega
      refine ⟨r', g1, fun j h1 h2 h3 => ?_, fun z => absurd e (z k (Nat.le_refl k) (by omega))⟩
      have := isW.uniq (by omega) (by omega) e h3
      have ej : j = k := by omega
      rw [ej]
      exact g3 no
    · simp only [if_neg e, i10, i00, decide_true, decide_false, cnd_t, cnd_f, gd_nil, gd_t, b1_0, b1_1, sw_nil, sw_cons, obs]
      obtain ⟨r', g1, g2, g3⟩ := ih (k + 1) N r (by omega) (by omega)
      refine ⟨r', g1, fun j h1 h2 h3 => ?_, fun z => g3 fun j h1 h2 => z j (by omega) h2⟩
      by_cases ej : j = k
      · subst ej; exact absurd h3 e
      · exact g2 j (by omega) h2 h3
theorem m_wordHere (h : pR n T i u v) (a m : Nat) (ham : a + m ≤ 23) : ∃ r, fX10_wordHere (nI a) (nI m) v = some (r, v) ∧ (∀ j, j < m → isW (a + j) u → r = nI j) ∧ ((∀ j, j < m → ¬ isW (a + j) u) → r = -1) := by
  obtain ⟨r, h1, h2, h3⟩ := m_wordLoop h a m ham m 0 fu (-1) (by omega) (show m < 5000 by omega)
  exact ⟨r, h1, fun j => h2 j (Nat.zero_le j), fun z => h3 fun j _ => z j⟩
end PU
/-! what a reader takes: a step, a fault, names, signs -/
def dSu (a k : Nat) : Prop := a = 1 ∧ 6 ≤ k ∧ k ≤ 10
def dSv (a k : Nat) : Prop := a = 0 ∧ (k = 7 ∨ k = 8)
def mF (f : Nat) (v : ab_S) : Prop := v.1 0 8 = nI f ∧ 1 ≤ f ∧ f < 20000
section PU
variable {u v u' v' : ab_S} {n T i : Nat}
theorem tkT.fr {D E : Nat → Nat → Prop} (h : tkT n T u v) (f : Fr D u u') (g : Fr E v v') (hd : ∀ a k, (a = 3 ∨ a = 4 ∨ a = 5 ∨ (a = 1 ∧ k = 5)) → ¬ D a k) (he : ∀ a k, (a = 2 ∨ a = 3 ∨ a = 4) → ¬ E a k) : tkT n T u' v' := by
  obtain ⟨h1, h2, h3, h4, h5, h6, h7, h8⟩ := h
  refine ⟨h1, h2, fun i hi => ?_, ?_, ?_, ?_, ?_, ?_⟩
  · rw [f.1 _ _ (hd 4 i (by omega)), f.1 _ _ (hd 3 i (by omega)), f.2.1 _ _ (hd 5 i (by omega)), g.1 _ _ (he 3 i (by omega)), g.1 _ _ (he 2 i (by omega)), g.2.1 _ _ (he 4 i (by omega))]
    exact h3 i hi
  · rw [f.1 _ _ (hd 3 T (by omega))]; exact h4
  · rw [g.1 _ _ (he 2 T (by omega))]; exact h5
  · rw [f.1 _ _ (hd 4 T (by omega))]; exact h6
  · rw [g.1 _ _ (he 3 T (by omega))]; exact h7
  · rw [f.1 _ _ (hd 1 5 (by omega))]; exact h8
-- what the parser stands on is left alone
def oPu (a k : Nat) : Prop := a = 3 ∨ a = 4 ∨ a = 5 ∨ (a = 1 ∧ 5 ≤ k ∧ k ≤ 9)
def oPv (a k : Nat) : Prop := a = 2 ∨ a = 3 ∨ a = 4 ∨ a = 5 ∨ (a = 0 ∧ (k = 7 ∨ k = 8))
theorem pR.fr {D E : Nat → Nat → Prop} (h : pR n T i u v) (f : Fr D u u') (g : Fr E v v') (hd : ∀ a k, oPu a k → ¬ D a k) (he : ∀ a k, oPv a k → ¬ E a k) : pR n T i u' v' := by
  obtain ⟨h1, ⟨a1, a2, a3, a4, a5⟩, h3, h4, h5⟩ := h
  refine ⟨h1.fr f g (fun a k z => hd a k (by unfold oPu; omega)) (fun a k z => he a k (by unfold oPv; omega)), ⟨?_, ?_, ?_, ?_, ?_⟩, h3, ?_, h5.fr g fun k => he 5 k (by unfold oPv; omega)⟩
  · rw [f.1 _ _ (hd 1 6 (by unfold oPu; omega))]; exact a1
  · rw [f.1 _ _ (hd 1 7 (by unfold oPu; omega)), f.1 _ _ (hd 3 i (by unfold oPu; omega))]; exact a2
  · rw [f.1 _ _ (hd 1 8 (by unfold oPu; omega)), f.1 _ _ (hd 4 i (by unfold oPu; omega))]; exact a3
  · rw [f.2.1 _ _ (hd 1 9 (by unfold oPu; omega)), f.2.1 _ _ (hd 5 i (by unfold oPu; omega))]; exact a4
  · rw [g.1 _ _ (he 0 7 (by unfold oPv; omega))]; exact a5
  · rw [g.1 _ _ (he 0 8 (by unfold oPv; omega))]; exact h4
theorem pR.at (h : pR n T i u v) : v.1 0 7 = nI i := h.2.1.2.2.2.2
theorem pR.ok (h : pR n T i u v) : v.1 0 8 = 0 := h.2.2.2.1
theorem pR.lt (h : pR n T i u v) (hk : u.1 1 7 ≠ 0) : i < T := by
  obtain ⟨⟨-, -, -, h4, -⟩, ⟨-, a2, -⟩, hi, -⟩ := h
  by_cases e : i = T
  · subst e
    exact absurd (a2.trans h4) hk
  · omega
-- ===== a step =====
theorem p_step (h : pR n T i u v) (hk : u.1 1 7 ≠ 0) : ∃ u', fX6_step u = some ((), u') ∧ pR n T (i + 1) u' (sI v 0 7 (nI (i + 1))) ∧ Fr dSu u u' := by
  have hT := h.lt hk
  have hi := h.i1000
  obtain ⟨h1, ⟨a1, a2, a3, a4, a5⟩, h3, h4, h5⟩ := h
  have h8 := h1.2.2.2.2.2.2.2
  have hTn := h1.1
  have hn := h1.2.1
  have es : fX6_step u = some ((), sJ (sI (sI (sI u 1 6 (nI (i + 1))) 1 7 (u.1 3 (i + 1))) 1 8 (u.1 4 (i + 1))) 1 9 (u.2.1 5 (i + 1))) := by
    unfold fX6_step
    rw [a1, h8]
    simp (disch := first | omega | decide) only [sI_at, sI_l, sJ_at, sJ_i, sJ_m, sM_at, sM_i, sM_l, Nat.reduceEqDiff, false_and, and_false, true_and, and_true, and_self, if_false, if_true, ite_false, ite_true, i10, i00, decide_true, decide_false, cnd_t, cnd_f, gd_nil, gd_t, b1_0, b1_1, sw_nil, sw_cons, obs, Nat.not_lt_zero, nI_addo, nI_oadd, nI_add, nI_mulo, nI_omul, nI_mul, nI_lto, nI_leo, nI_olt, nI_ole, nI_eqo, nI_oeq, nI_lt2, nI_le2, nI_eq2, nI_nm1, nI_m1n, nI_lt0, nI_lem1, nc_nI, nc_o, ix_nI, ix_o, show i + 1 < T + 1 by omega, show i + 1 < 1001 by omega]
  have f0 : Fr dSu u (sJ (sI (sI (sI u 1 6 (nI (i + 1))) 1 7 (u.1 3 (i + 1))) 1 8 (u.1 4 (i + 1))) 1 9 (u.2.1 5 (i + 1))) := Fr.trans (Fr.sI ⟨rfl, by decide, by decide⟩) (Fr.trans (Fr.sI ⟨rfl, by decide, by decide⟩) (Fr.trans (Fr.sI ⟨rfl, by decide, by decide⟩) (Fr.sJ ⟨rfl, by decide, by decide⟩)))
  have g0 : Fr dSv v (sI v 0 7 (nI (i + 1))) := Fr.sI ⟨rfl, Or.inl rfl⟩
  refine ⟨_, es, ⟨h1.fr f0 g0 (fun a k z => by unfold dSu; omega) (fun a k z => by unfold dSv; omega), ⟨?_, ?_, ?_, ?_, ?_⟩, by omega, ?_, h5.fr g0 fun k => by unfold dSv; omega⟩, f0⟩
  · simp only [sI_at, sI_l, sJ_at, sJ_i, sJ_m, sM_at, sM_i, sM_l, Nat.reduceEqDiff, false_and, and_false, true_and, and_true, and_self, if_false, if_true, ite_false, ite_true]
  · simp only [sI_at, sI_l, sJ_at, sJ_i, sJ_m, sM_at, sM_i, sM_l, Nat.reduceEqDiff, false_and, and_false, true_and, and_true, and_self, if_false, if_true, ite_false, ite_true]
  · simp only [sI_at, sI_l, sJ_at, sJ_i, sJ_m, sM_at, sM_i, sM_l, Nat.reduceEqDiff, false_and, and_false, true_and, and_true, and_self, if_false, if_true, ite_false, ite_true]
  · simp only [sI_at, sI_l, sJ_at, sJ_i, sJ_m, sM_at, sM_i, sM_l, Nat.reduceEqDiff, false_and, and_false, true_and, and_true, and_self, if_false, if_true, ite_false, ite_true]
  · simp only [sI_at, sI_l, sJ_at, sJ_i, sJ_m, sM_at, sM_i, sM_l, Nat.reduceEqDiff, false_and, and_false, true_and, and_true, and_self, if_false, if_true, ite_false, ite_true]
  · simp only [sI_at, sI_l, sJ_at, sJ_i, sJ_m, sM_at, sM_i, sM_l, Nat.reduceEqDiff, false_and, and_false, true_and, and_true, and_self, if_false, if_true, ite_false, ite_true]
    exact h4
-- ===== a fault =====
theorem p_fail (h : pR n T i u v) (K : Nat) (h1 : 1 ≤ K) (h2 : K < 16) : ∃ f, 1 ≤ f ∧ f < 20000 ∧ fX6_fail (nI K) u = some (0, sI u 1 10 (nI f)) ∧ fX10_wrong (nI K) v = some ((), sI v 0 8 (nI f)) := by
  obtain ⟨p, p1, p2, p3⟩ := h.plc
  have hi := h.i1000
  have ha := h.at
  have hk := h.ok
  refine ⟨K + 16 * p, by omega, by omega, ?_, ?_⟩
  · unfold fX6_fail
    rw [p2]
    simp (disch := first | omega | decide) only [i10, i00, decide_true, decide_false, cnd_t, cnd_f, gd_nil, gd_t, b1_0, b1_1, sw_nil, sw_cons, obs, Nat.not_lt_zero, nI_addo, nI_oadd, nI_add, nI_mulo, nI_omul, nI_mul, nI_lto, nI_leo, nI_olt, nI_ole, nI_eqo, nI_oeq, nI_lt2, nI_le2, nI_eq2, nI_nm1, nI_m1n, nI_lt0, nI_lem1, nc_nI, nc_o, ix_nI, ix_o]
  · unfold fX10_wrong
    rw [ha, hk]
    simp (disch := first | omega | decide) only [i10, i00, decide_true, decide_false, cnd_t, cnd_f, gd_nil, gd_t, b1_0, b1_1, sw_nil, sw_cons, obs, Nat.not_lt_zero, nI_addo, nI_oadd, nI_add, nI_mulo, nI_omul, nI_mul, nI_lto, nI_leo, nI_olt, nI_ole, nI_eqo, nI_oeq, nI_lt2, nI_le2, nI_eq2, nI_nm1, nI_m1n, nI_lt0, nI_lem1, nc_nI, nc_o, ix_nI, ix_o, p3]
-- ===== the reference behind a fault =====
theorem mF.nz {f : Nat} (h : mF f v) : ¬ v.1 0 8 = 0 ∧ ¬ v.1 0 8 ≤ 0 := by
  obtain ⟨h1, h2, h3⟩ := h
  rw [h1]
  refine ⟨fun z => ?_, fun z => ?_⟩
  · have := (nI_eq (b := 0) (show f < 2 ^ 31 by omega) (by decide)).mp z
    omega
  · have := (nI_leI (b := 0) (show f < 2 ^ 31 by omega) (by decide)).mp z
    omega
theorem mF_wrong {f : Nat} (h : mF f v) (K : Int32) : fX10_wrong K v = some ((), v) := by
  unfold fX10_wrong
  simp only [h.nz.1, i10, i00, decide_true, decide_false, cnd_t, cnd_f, gd_nil, gd_t, b1_0, b1_1, sw_nil, sw_cons, obs]
theorem mF_isWord {f : Nat} (h : mF f v) (K : Int32) : fX10_isWord K v = some (0, v) := by
  unfold fX10_isWord
  simp only [h.nz.1, i10, i00, decide_true, decide_false, cnd_t, cnd_f, gd_nil, gd_t, b1_0, b1_1, sw_nil, sw_cons, obs]
theorem mF_isSign {f : Nat} (h : mF f v) (K : Int32) : fX10_isSign K v = some (0, v) := by
  unfold fX10_isSign
  simp only [h.nz.1, i10, i00, decide_true, decide_false, cnd_t, cnd_f, gd_nil, gd_t, b1_0, b1_1, sw_nil, sw_cons, obs]
theorem mF_takeSign {f : Nat} (h : mF f v) (K : Int32) : fX10_takeSign K v = some ((), v) := by
  unfold fX10_takeSign
  rw [mF_isSign h]
  simp only [i10, i00, decide_true, decide_false, cnd_t, cnd_f, gd_nil, gd_t, b1_0, b1_1, sw_nil, sw_cons, obs]
  rw [mF_wrong h]
  simp only [i10, i00, decide_true, decide_false, cnd_t, cnd_f, gd_nil, gd_t, b1_0, b1_1, sw_nil, sw_cons, obs]
theorem mF_takeTold {f : Nat} (h : mF f v) (a b c : Int32) : ∃ v', fX10_takeTold a b c v = some (0, v') ∧ mF f v' ∧ Fr dSv v v' := by
  obtain ⟨h1, h2⟩ := h.nz
  refine ⟨sI v 0 7 (v.1 0 7 + 0), ?_, ?_, Fr.sI ⟨rfl, Or.inl rfl⟩⟩
  · unfold fX10_takeTold fX10_takeTold_19 fX10_takeTold_37 fX10_takeTold_65 fX10_takeTold_87 fX10_takeTold_104
    simp only [sI_at, sI_l, sJ_at, sJ_i, sJ_m, sM_at, sM_i, sM_l, Nat.reduceEqDiff, false_and, and_false, true_and, and_true, and_self, if_false, if_true, ite_false, ite_true, h1, h2, i10, i00, decide_true, decide_false, cnd_t, cnd_f, gd_nil, gd_t, b1_0, b1_1, sw_nil, sw_cons, obs]
  · unfold mF
    simp only [sI_at, sI_l, sJ_at, sJ_i, sJ_m, sM_at, sM_i, sM_l, Nat.reduceEqDiff, false_and, and_false, true_and, and_true, and_self, if_false, if_true, ite_false, ite_true]
    exact h
theorem mF_takeNumber {f : Nat} (h : mF f v) (a b : Int32) : fX10_takeNumber a b v = some (0, v) := by
  obtain ⟨h1, h2⟩ := h.nz
  unfold fX10_takeNumber fX10_takeNumber_28 fX10_takeNumber_70
  simp only [h1, h2, i10, i00, decide_true, decide_false, cnd_t, cnd_f, gd_nil, gd_t, b1_0, b1_1, sw_nil, sw_cons, obs]
-- ===== a sign =====
theorem p_isSign (h : pR n T i u v) {s : Nat} (hs : s < 128) : ∃ b : Bool, fX6_isSign (nI s) u = some (b01 b, u) ∧ fX10_isSign (nI s) v = some (b01 b, v) ∧ (b = true → u.1 1 7 = 4 ∧ u.2.1 1 9 = lN s) := by
  have hi := h.i1000
  have h7 := h.at
  have h8 := h.ok
  have key : (u.1 1 7 = 4 ↔ v.1 2 i = 3) ∧ (u.1 1 7 = 4 → u.2.1 1 9 = v.2.1 4 i) := by
    obtain h | ⟨a, b⟩ | ⟨a, b, w⟩ | ⟨a, b, -⟩ | ⟨a, b, c, d, e, f⟩ := h.cur
    · rw [h.1, h.2]; exact ⟨by decide +kernel, fun z => absurd z (by decide +kernel)⟩
    · rw [a, b]; exact ⟨by decide +kernel, fun z => absurd z (by decide +kernel)⟩
    · rw [a, b]; exact ⟨by decide +kernel, fun z => absurd z (by decide +kernel)⟩
    · rw [a, b]; exact ⟨by decide +kernel, fun z => absurd z (by decide +kernel)⟩
    · rw [a, b]; exact ⟨by decide +kernel, fun _ => e.trans f.symm⟩
  unfold fX6_isSign fX10_isSign
  rw [h7, h8, nI_l (show s < 2 ^ 31 by omega)]
  simp (disch := first | omega | decide) only [i10, i00, decide_true, decide_false, cnd_t, cnd_f, gd_nil, gd_t, b1_0, b1_1, sw_nil, sw_cons, obs, Nat.not_lt_zero, nI_addo, nI_oadd, nI_add, nI_mulo, nI_omul, nI_mul, nI_lto, nI_leo, nI_olt, nI_ole, nI_eqo, nI_oeq, nI_lt2, nI_le2, nI_eq2, nI_nm1, nI_m1n, nI_lt0, nI_lem1, nc_nI, nc_o, ix_nI, ix_o]
  by_cases e : u.1 1 7 = 4
  · have e1 := key.1.mp e
    have e2 := key.2 e
    rw [← e2]
    by_cases e3 : u.2.1 1 9 = lN s
    · refine ⟨true, ?_, ?_, fun _ => ⟨e, e3⟩⟩
      · simp only [e, e3, i10, i00, decide_true, decide_false, cnd_t, cnd_f, gd_nil, gd_t, b1_0, b1_1, sw_nil, sw_cons, obs]; rfl
      · simp only [e1, e3, i10, i00, decide_true, decide_false, cnd_t, cnd_f, gd_nil, gd_t, b1_0, b1_1, sw_nil, sw_cons, obs]; rfl
    · refine ⟨false, ?_, ?_, fun z => absurd z Bool.false_ne_true⟩
      · simp only [e, e3, i10, i00, decide_true, decide_false, cnd_t, cnd_f, gd_nil, gd_t, b1_0, b1_1, sw_nil, sw_cons, obs]; rfl
      · simp only [e1, e3, i10, i00, decide_true, decide_false, cnd_t, cnd_f, gd_nil, gd_t, b1_0, b1_1, sw_nil, sw_cons, obs]; rfl
  · have e1 : ¬ v.1 2 i = 3 := fun z => e (key.1.mpr z)
    refine ⟨false, ?_, ?_, fun z => absurd z Bool.false_ne_true⟩
    · simp only [e, i10, i00, decide_true, decide_false, cnd_t, cnd_f, gd_nil, gd_t, b1_0, b1_1, sw_nil, sw_cons, obs]; rfl
    · simp only [e1, i10, i00, decide_true, decide_false, cnd_t, cnd_f, gd_nil, gd_t, b1_0, b1_1, sw_nil, sw_cons, obs]; rfl
theorem p_end (h : pR n T i u v) : (∃ u', fX6_takeEnd u = some (1, u') ∧ fX10_takeSign 59 v = some ((), sI v 0 7 (nI (i + 1))) ∧ pR n T (i + 1) u' (sI v 0 7 (nI (i + 1))) ∧ Fr dSu u u' ∧ i < T) ∨ (∃ f, fX6_takeEnd u = some (0, sI u 1 10 (nI f)) ∧ fX10_takeSign 59 v = some ((), sI v 0 8 (nI f)) ∧ 1 ≤ f ∧ f < 20000) := by
  obtain ⟨b, s1, s2, s3⟩ := p_isSign h (s := 59) (by decide)
  have s1' : fX6_isSign 59 u = some (b01 b, u) := s1
  have s2' : fX10_isSign 59 v = some (b01 b, v) := s2
  unfold fX6_takeEnd fX10_takeSign
  rw [s1', s2']
  cases b
  · obtain ⟨f, f1, f2, f3, f4⟩ := p_fail h 1 (by decide) (by decide)
    have f3' : fX6_fail 1 u = some (0, sI u 1 10 (nI f)) := f3
    have f4' : fX10_wrong 1 v = some ((), sI v 0 8 (nI f)) := f4
    refine Or.inr ⟨f, ?_, ?_, f1, f2⟩
    · simp only [b01, Bool.false_eq_true, if_false, i10, i00, decide_true, decide_false, cnd_t, cnd_f, gd_nil, gd_t, b1_0, b1_1, sw_nil, sw_cons, obs, f3']
    · simp only [b01, Bool.false_eq_true, if_false, i10, i00, decide_true, decide_false, cnd_t, cnd_f, gd_nil, gd_t, b1_0, b1_1, sw_nil, sw_cons, obs, f4']
  · have hk : u.1 1 7 ≠ 0 := by rw [(s3 rfl).1]; decide +kernel
    obtain ⟨u', g1, g2, g3⟩ := p_step h hk
    refine Or.inl ⟨u', ?_, ?_, g2, g3, h.lt hk⟩
    · simp only [b01, if_true, i10, i00, decide_true, decide_false, cnd_t, cnd_f, gd_nil, gd_t, b1_0, b1_1, sw_nil, sw_cons, obs, g1]
    · simp only [b01, if_true, i10, i00, decide_true, decide_false, cnd_t, cnd_f, gd_nil, gd_t, b1_0, b1_1, sw_nil, sw_cons, obs, h.at, nI_addo]
-- ===== a name =====
theorem c_nameLoop (hk : u.1 1 7 = 2) : ∀ d k N, k + d = 23 → d < N → ∃ b : Bool, fX6_isName_19 N 23 (nI k) u = some (b01 b, u) ∧ (b = true ↔ ∀ j, k ≤ j → j < 19 → ¬ isW j u) := by
  intro d
  induction d with
  | zero =>
    intro k N hk2 hN
    obtain ⟨N, rfl⟩ : ∃ m, N = m + 1 := ⟨N - 1, by omega⟩
    rw [fX6_isName_19]
    simp (disch := first | omega | decide) only [i10, i00, decide_true, decide_false, cnd_t, cnd_f, gd_nil, gd_t, b1_0, b1_1, sw_nil, sw_cons, obs, Nat.not_lt_zero, nI_addo, nI_oadd, nI_add, nI_mulo, nI_omul, nI_mul, nI_lto, nI_leo, nI_olt, nI_ole, nI_eqo, nI_oeq, nI_lt2, nI_le2, nI_eq2, nI_nm1, nI_m1n, nI_lt0, nI_lem1, nc_nI, nc_o, ix_nI, ix_o, show ¬ k < 23 by omega]
    exact ⟨true, rfl, fun _ j h1 h2 => by omega, fun _ => rfl⟩
  | succ d ih =>
    intro k N hk2 hN
    obtain ⟨N, rfl⟩ : ∃ m, N = m + 1 := ⟨N - 1, by omega⟩
    obtain ⟨b, h1, h2⟩ := ih (k + 1) N (by omega) (by omega)
    rw [fX6_isName_19]
    simp (disch := first | omega | decide) only [i10, i00, decide_true, decide_false, cnd_t, cnd_f, gd_nil, gd_t, b1_0, b1_1, sw_nil, sw_cons, obs, Nat.not_lt_zero, nI_addo, nI_oadd, nI_add, nI_mulo, nI_omul, nI_mul, nI_lto, nI_leo, nI_olt, nI_ole, nI_eqo, nI_oeq, nI_lt2, nI_le2, nI_eq2, nI_nm1, nI_m1n, nI_lt0, nI_lem1, nc_nI, nc_o, ix_nI, ix_o, show k < 23 by omega]
    have wr : ∀ k, k < 23 → (ab_wr.getD k 0 = 0 ↔ 19 ≤ k) := by decide +kernel
    by_cases e : ab_wr.getD k 0 = 0
    · simp only [e, i10, i00, decide_true, decide_false, cnd_t, cnd_f, gd_nil, gd_t, b1_0, b1_1, sw_nil, sw_cons, obs]
      have := (wr k (by omega)).mp e
      exact ⟨b, h1, h2.trans ⟨fun z j h1 h2 => by omega, fun z j h1 h2 => by omega⟩⟩
    · have hk19 : k < 19 := by
        have := mt (wr k (by omega)).mpr e
        omega
      by_cases e2 : ab_wl.getD k 0 = u.2.1 1 9
      · simp only [e, e2, i10, i00, decide_true, decide_false, cnd_t, cnd_f, gd_nil, gd_t, b1_0, b1_1, sw_nil, sw_cons, obs]
        exact ⟨false, rfl, fun z => absurd z Bool.false_ne_true, fun z => absurd ⟨hk, e2.symm⟩ (z k (Nat.le_refl k) hk19)⟩
      · simp only [e, e2, i10, i00, decide_true, decide_false, cnd_t, cnd_f, gd_nil, gd_t, b1_0, b1_1, sw_nil, sw_cons, obs]
        refine ⟨b, h1, h2.trans ⟨fun z j h3 h4 => ?_, fun z j h3 h4 => z j (by omega) h4⟩⟩
        by_cases ej : j = k
        · subst ej
          exact fun w => e2 w.2.symm
        · exact z j (by omega) h4
theorem p_isName (h : pR n T i u v) : ∃ b : Bool, fX6_isName u = some (b01 b, u) ∧ fX10_isName v = some (b01 b, v) ∧ (b = true → u.1 1 7 = 2) := by
  have hi := h.i1000
  have h7 := h.at
  have h8 := h.ok
  unfold fX6_isName fX10_isName
  rw [h7, h8]
  simp (disch := first | omega | decide) only [i10, i00, decide_true, decide_false, cnd_t, cnd_f, gd_nil, gd_t, b1_0, b1_1, sw_nil, sw_cons, obs, Nat.not_lt_zero, nI_addo, nI_oadd, nI_add, nI_mulo, nI_omul, nI_mul, nI_lto, nI_leo, nI_olt, nI_ole, nI_eqo, nI_oeq, nI_lt2, nI_le2, nI_eq2, nI_nm1, nI_m1n, nI_lt0, nI_lem1, nc_nI, nc_o, ix_nI, ix_o]
  by_cases e : u.1 1 7 = 2
  · have e1 := h.word.1.mp e
    obtain ⟨b, b1, b2⟩ := c_nameLoop (u := u) e 23 0 fu rfl (by decide)
    obtain ⟨r, r1, r2, r3⟩ := m_wordHere h 0 19 (by decide)
    have b1' : fX6_isName_19 fu 23 0 u = some (b01 b, u) := b1
    have r1' : fX10_wordHere 0 19 v = some (r, v) := r1
    refine ⟨b, ?_, ?_, fun _ => e⟩
    · simp only [e, i10, i00, decide_true, decide_false, cnd_t, cnd_f, gd_nil, gd_t, b1_0, b1_1, sw_nil, sw_cons, obs]
      exact b1'
    · simp only [e1, i10, i00, decide_true, decide_false, cnd_t, cnd_f, gd_nil, gd_t, b1_0, b1_1, sw_nil, sw_cons, obs, r1']
      cases b
      · have nn : ¬ ∀ j, 0 ≤ j → j < 19 → ¬ isW j u := fun z => absurd (b2.mpr z) Bool.false_ne_true
        have ⟨j, hj⟩ : ∃ j, j < 19 ∧ isW j u := Classical.byContradiction fun z => nn fun j _ h2 h3 => z ⟨j, h2, h3⟩
        have er := r2 j hj.1 (by rw [Nat.zero_add]; exact hj.2)
        rw [er]
        simp (disch := first | omega | decide) only [i10, i00, decide_true, decide_false, cnd_t, cnd_f, gd_nil, gd_t, b1_0, b1_1, sw_nil, sw_cons, obs, Nat.not_lt_zero, nI_addo, nI_oadd, nI_add, nI_mulo, nI_omul, nI_mul, nI_lto, nI_leo, nI_olt, nI_ole, nI_eqo, nI_oeq, nI_lt2, nI_le2, nI_eq2, nI_nm1, nI_m1n, nI_lt0, nI_lem1, nc_nI, nc_o, ix_nI, ix_o]
        rfl
      · have er := r3 fun j hj => by rw [Nat.zero_add]; exact b2.mp rfl j (Nat.zero_le j) hj
        rw [er]
        simp only [show ((-1 : Int32) < 0) = True from eq_true (by decide +kernel), i10, i00, decide_true, decide_false, cnd_t, cnd_f, gd_nil, gd_t, b1_0, b1_1, sw_nil, sw_cons, obs]
        rfl
  · have e1 : ¬ v.1 2 i = 1 := fun z => e (h.word.1.mpr z)
    refine ⟨false, ?_, ?_, fun z => absurd z Bool.false_ne_true⟩
    · simp only [e, i10, i00, decide_true, decide_false, cnd_t, cnd_f, gd_nil, gd_t, b1_0, b1_1, sw_nil, sw_cons, obs]; rfl
    · simp only [e1, i10, i00, decide_true, decide_false, cnd_t, cnd_f, gd_nil, gd_t, b1_0, b1_1, sw_nil, sw_cons, obs]; rfl
end PU
