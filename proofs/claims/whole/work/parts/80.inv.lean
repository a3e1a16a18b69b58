/-! what holds between two calls -/
def enc (b : Nat) (ds : List Nat) : Nat := ds.foldl (fun a d => a * b + d) 0
def WR (x y : Int64) : Prop := ∃ ds : List Nat, 1 ≤ ds.length ∧ ds.length ≤ 8 ∧ (∀ d, d ∈ ds → 1 ≤ d ∧ d ≤ 26) ∧ x = lN (enc 27 ds) ∧ y = lN (enc 37 ds)
-- the names told, in the class's office at o, in the reference's two arrays
def nmR (np ng o a1 a2 : Nat) (u v : ab_S) : Prop := (∀ i, i < np + ng → (∃ p, p < np ∧ v.1 a2 i = nI p ∧ WR (u.2.1 (o + 1) p) (v.2.1 a1 i)) ∨ (∃ k, k < ng ∧ v.1 a2 i = nI (20 + k) ∧ WR (u.2.1 (o + 2) k) (v.2.1 a1 i))) ∧ (∀ p, p < np → ∃ i, i < np + ng ∧ v.1 a2 i = nI p) ∧ (∀ k, k < ng → ∃ i, i < np + ng ∧ v.1 a2 i = nI (20 + k)) ∧ (∀ p q, p < np → q < np → u.2.1 (o + 1) p = u.2.1 (o + 1) q → p = q) ∧ (∀ p q, p < ng → q < ng → u.2.1 (o + 2) p = u.2.1 (o + 2) q → p = q) ∧ (∀ p q, p < np → q < ng → u.2.1 (o + 1) p ≠ u.2.1 (o + 2) q)
def pNm (Z : dZ) (u v : ab_S) : Prop := v.1 0 18 = nI (Z.1 + Z.2.1) ∧ nmR Z.1 Z.2.1 (u.2.2 0) 9 11 u v
def wdL : List Nat := [1119812451, 6395136, 375665, 43890888, 561, 22961072, 969441, 316998, 45076385548, 3540, 993947, 4672922, 30596128, 30919646, 665530, 660603, 19741, 1891, 573, 30910767, 671333, 620569, 1078055329]
def pWd (v : ab_S) : Prop := ∀ k, k < 23 → v.2.1 5 k = lN (wdL.getD k 0)
def pTp (u v : ab_S) : Prop := ∃ n, n ≤ 1000 ∧ u.1 1 1 = nI n ∧ v.1 0 2 = nI n ∧ ∀ i, i < n → ∃ c, (c = 10 ∨ (32 ≤ c ∧ c ≤ 126)) ∧ u.1 2 i = nI c ∧ v.1 1 i = nI c
def pRf (u : ab_S) : Prop := ((u.2.2 0 = 6 ∧ u.2.2 1 = 18) ∨ (u.2.2 0 = 18 ∧ u.2.2 1 = 6)) ∧ ((u.2.2 2 = 30 ∧ u.2.2 3 = 34) ∨ (u.2.2 2 = 34 ∧ u.2.2 3 = 30))
def pUn (Z : dZ) (u v : ab_S) : Prop := ∃ n w, n ≤ 16 ∧ w < 16 ∧ u.1 0 10 = nI n ∧ v.1 0 25 = nI n ∧ u.1 0 9 = nI w ∧ ∀ j, j < n → ∃ s, pv_S Z s ∧ pc_S (51 + 4 * ((w + 16 - j) % 16)) s u ∧ pm_S (47 * (5 + (n - 1 - j))) s v
def pMk (Z : dZ) (u v : ab_S) : Prop := ∀ j, j < 4 → ∃ x : Bool, u.1 149 j = b01 x ∧ v.1 17 j = b01 x ∧ (x = true → ∃ s, pv_S Z s ∧ pc_S (116 + 4 * j) s u ∧ pm_S (47 * (1 + j)) s v ∧ seR Z (133 + 4 * j) (47 * (1 + j)) u v)
def InvZ (Z : dZ) (s : Nat → Int32) (u v : ab_S) : Prop := pN Z s u v ∧ pY Z u v ∧ seR Z 46 0 u v ∧ pUn Z u v ∧ pMk Z u v ∧ gR Z u ∧ pNm Z u v ∧ pWd v ∧ pTp u v ∧ pRf u
def Inv (u v : ab_S) : Prop := ∃ Z s, InvZ Z s u v
section PU
variable {Z : dZ} {s : Nat → Int32} {u v u' v' : ab_S} {D E : Nat → Nat → Prop}
theorem pWd.fr (h : pWd v) (g : Fr E v v') (he : ∀ k, ¬ E 5 k) : pWd v' := fun k hk => (g.2.1 5 k (he k)).trans (h k hk)
theorem pTp.fr (h : pTp u v) (f : Fr D u u') (g : Fr E v v') (hd : ¬ D 1 1) (hd2 : ∀ k, ¬ D 2 k) (he : ¬ E 0 2) (he2 : ∀ k, ¬ E 1 k) : pTp u' v' := by
  obtain ⟨n, h1, h2, h3, h4⟩ := h
  refine ⟨n, h1, by rw [f.1 _ _ hd]; exact h2, by rw [g.1 _ _ he]; exact h3, fun i hi => ?_⟩
  rw [f.1 _ _ (hd2 i), g.1 _ _ (he2 i)]
  exact h4 i hi
theorem pRf.fr (h : pRf u) (f : Fr D u u') : pRf u' := by
  unfold pRf
  rw [f.2.2]
  exact h
theorem pMk.fr (h : pMk Z u v) (f : Fr D u u') (g : Fr E v v') (hd : ∀ a k, 116 ≤ a → a < 150 → ¬ D a k) (he : ∀ k, ¬ E 17 k) (he2 : ∀ k, 47 ≤ k → k < 235 → ¬ E 16 k) : pMk Z u' v' := by
  intro j hj
  obtain ⟨x, h1, h2, h3⟩ := h j hj
  refine ⟨x, by rw [f.1 _ _ (hd _ _ (by omega) (by omega))]; exact h1, by rw [g.1 _ _ (he _)]; exact h2, fun hx => ?_⟩
  obtain ⟨s', a1, a2, a3, a4⟩ := h3 hx
  exact ⟨s', a1, a2.fr f (fun a k b c => hd a k (by omega) (by omega)), a3.fr g (fun k hk => he2 _ (by omega) (by omega)), a4.fr f g (fun a k b c => hd a k (by omega) (by omega)) (fun k b c => he2 k (by omega) (by omega))⟩
theorem pUn.fr (h : pUn Z u v) (f : Fr D u u') (g : Fr E v v') (hd : ∀ a k, 51 ≤ a → a < 115 → ¬ D a k) (hd2 : ¬ D 0 9 ∧ ¬ D 0 10) (he : ¬ E 0 25) (he2 : ∀ k, 235 ≤ k → k < 987 → ¬ E 16 k) : pUn Z u' v' := by
  obtain ⟨n, w, h1, h2, h3, h4, h5, h6⟩ := h
  refine ⟨n, w, h1, h2, by rw [f.1 _ _ hd2.2]; exact h3, by rw [g.1 _ _ he]; exact h4, by rw [f.1 _ _ hd2.1]; exact h5, fun j hj => ?_⟩
  obtain ⟨s', a1, a2, a3⟩ := h6 j hj
  exact ⟨s', a1, a2.fr f (fun a k b c => hd a k (by omega) (by omega)), a3.fr g (fun k hk => he2 _ (by omega) (by omega))⟩
theorem nmR.fr {np ng o a1 a2 : Nat} (h : nmR np ng o a1 a2 u v) (f : Fr D u u') (g : Fr E v v') (hd : ∀ k, ¬ D (o + 1) k ∧ ¬ D (o + 2) k) (he : ∀ k, ¬ E a1 k ∧ ¬ E a2 k) : nmR np ng o a1 a2 u' v' := by
  have e1 : ∀ k, u'.2.1 (o + 1) k = u.2.1 (o + 1) k := fun k => f.2.1 _ _ (hd k).1
  have e2 : ∀ k, u'.2.1 (o + 2) k = u.2.1 (o + 2) k := fun k => f.2.1 _ _ (hd k).2
  have e3 : ∀ k, v'.2.1 a1 k = v.2.1 a1 k := fun k => g.2.1 _ _ (he k).1
  have e4 : ∀ k, v'.1 a2 k = v.1 a2 k := fun k => g.1 _ _ (he k).2
  unfold nmR
  simp only [e1, e2, e3, e4]
  exact h
theorem pNm.fr (h : pNm Z u v) (f : Fr D u u') (g : Fr E v v') (hd : ∀ a k, 6 ≤ a → a < 30 → ¬ D a k) (hr : pRf u) (he : ∀ k, ¬ E 9 k ∧ ¬ E 11 k) (he2 : ¬ E 0 18) : pNm Z u' v' := by
  have ho : u.2.2 0 = 6 ∨ u.2.2 0 = 18 := by
    rcases hr.1 with h | h
    · exact Or.inl h.1
    · exact Or.inr h.1
  unfold pNm
  rw [f.2.2, g.1 _ _ he2]
  exact ⟨h.1, h.2.fr f g (fun k => ⟨hd _ _ (by omega) (by omega), hd _ _ (by omega) (by omega)⟩) he⟩
-- a question leaves it
theorem InvZ.qu (h : InvZ Z s u v) (f : Fr dCu u u') (g : Fr dMu v v') : InvZ Z s u' v' := by
  obtain ⟨h1, h2, h3, h4, h5, h6, h7, h8, h9, h10⟩ := h
  have dn : ∀ a k, (a < 42 ∨ (46 ≤ a ∧ a < 150) ∨ 154 ≤ a) → ¬ dCu a k := by
    intro a k z q
    rcases q with q | q <;> omega
  have en : ∀ a k, (a ≠ 14 ∧ a ≠ 15 ∧ (a ≠ 16 ∨ k < 987) ∧ (a < 18 ∨ 22 < a) ∧ (a ≠ 0 ∨ (k ≠ 0 ∧ k ≠ 32))) → ¬ dMu a k := by
    intro a k z q
    rcases q with q | q | q | q | q <;> omega
  refine ⟨h1.fr f g, h2.cu f g, h3.fr f g (fun a k a1 a2 => dn _ _ (by omega)) (fun k a1 a2 => en _ _ (by omega)), h4.fr f g (fun a k a1 a2 => dn _ _ (by omega)) ⟨dn _ _ (by omega), dn _ _ (by omega)⟩ (en _ _ (by omega)) (fun k a1 a2 => en _ _ (by omega)), h5.fr f g (fun a k a1 a2 => dn _ _ (by omega)) (fun k => en _ _ (by omega)) (fun k a1 a2 => en _ _ (by omega)), h6.fr f (fun a k a1 => dn _ _ (by omega)), h7.fr f g (fun a k a1 a2 => dn _ _ (by omega)) h10 (fun k => ⟨en _ _ (by omega), en _ _ (by omega)⟩) (en _ _ (by omega)), h8.fr g (fun k => en _ _ (by omega)), h9.fr f g (dn _ _ (by omega)) (fun k => dn _ _ (by omega)) (en _ _ (by omega)) (fun k => en _ _ (by omega)), h10.fr f⟩
theorem InvZ.gi (h : InvZ Z s u v) (f : Fr dGu u u') (hg : gR Z u') : InvZ Z s u' v := by
  obtain ⟨h1, h2, h3, h4, h5, h6, h7, h8, h9, h10⟩ := h
  have g : Fr (fun _ _ => False) v v := Fr.rfl'
  have dn : ∀ a k, a < 154 → ¬ dGu a k := by
    intro a k z q
    rcases q with q | q | q <;> omega
  have hF : ¬ False := fun z => z
  refine ⟨h1.gu f, h2.fr f g (fun a k a1 a2 => dn _ _ (by omega)) (fun k _ => hF), h3.fr f g (fun a k a1 a2 => dn _ _ (by omega)) (fun k a1 a2 => hF), h4.fr f g (fun a k a1 a2 => dn _ _ (by omega)) ⟨dn _ _ (by omega), dn _ _ (by omega)⟩ hF (fun k a1 a2 => hF), h5.fr f g (fun a k a1 a2 => dn _ _ (by omega)) (fun k => hF) (fun k a1 a2 => hF), hg, h7.fr f g (fun a k a1 a2 => dn _ _ (by omega)) h10 (fun k => ⟨hF, hF⟩) hF, h8, h9.fr f g (dn _ _ (by omega)) (fun k => dn _ _ (by omega)) hF (fun k => hF), h10.fr f⟩
theorem st_T {x y : Option (Int32 × ab_S)} (h : InvZ Z s u v) (q : qT x y u v) : ∃ (r : Int32) (u1 v1 : ab_S), x = some (r, u1) ∧ y = some (r, v1) ∧ Inv u1 v1 := by
  obtain ⟨r, u1, v1, q1, q2, f, g⟩ := q
  exact ⟨r, u1, v1, q1, q2, Z, s, h.qu f g⟩
theorem st_P {x y : Option (Int32 × ab_S)} (h : InvZ Z s u v) (q : qP x u y (sI v 0 0 0)) : ∃ (r : Int32) (u1 v1 : ab_S), x = some (r, u1) ∧ y = some (r, v1) ∧ Inv u1 v1 := st_T h q.T
theorem st_G {x y : Option (Int32 × ab_S)} (h : InvZ Z s u v) (q : qG Z x y u v) : ∃ (r : Int32) (u1 v1 : ab_S), x = some (r, u1) ∧ y = some (r, v1) ∧ Inv u1 v1 := by
  obtain ⟨r, u1, v1, q1, q2, f, g, hg⟩ := q
  exact ⟨r, u1, v1, q1, q2, Z, s, (h.qu Fr.rfl' g).gi f hg⟩
-- ===== the questions' steps =====
theorem i_S3 (u v : ab_S) (a0 a1 : Int32) (h : Inv u v) : ∃ (r : Int32) (u1 v1 : ab_S), fX9_person a0 a1 u = some (r, u1) ∧ fX10_person a0 a1 v = some (r, v1) ∧ Inv u1 v1 := by
  obtain ⟨Z, s, h⟩ := h
  exact st_P h (q_person h.1 a0 a1)
theorem i_S4 (u v : ab_S) (a0 a1 : Int32) (h : Inv u v) : ∃ (r : Int32) (u1 v1 : ab_S), fX9_good a0 a1 u = some (r, u1) ∧ fX10_good a0 a1 v = some (r, v1) ∧ Inv u1 v1 := by
  obtain ⟨Z, s, h⟩ := h
  exact st_P h (q_good h.1 a0 a1)
theorem i_S5 (u v : ab_S) (a0 a1 : Int32) (h : Inv u v) : ∃ (r : Int32) (u1 v1 : ab_S), fX9_fit a0 a1 u = some (r, u1) ∧ fX10_fit a0 a1 v = some (r, v1) ∧ Inv u1 v1 := by
  obtain ⟨Z, s, h⟩ := h
  exact st_P h (q_fit h.1 a0 a1)
theorem i_S11 (u v : ab_S) (a0 : Int32) (h : Inv u v) : ∃ (r : Int32) (u1 v1 : ab_S), fX9_judged a0 u = some (r, u1) ∧ fX10_judged a0 v = some (r, v1) ∧ Inv u1 v1 := by
  obtain ⟨Z, s, h⟩ := h
  exact st_T h (q_judged h.1 h.2.1 a0)
theorem i_S12 (u v : ab_S) (a0 : Int32) (h : Inv u v) : ∃ (r : Int32) (u1 v1 : ab_S), fX9_winner a0 u = some (r, u1) ∧ fX10_winner a0 v = some (r, v1) ∧ Inv u1 v1 := by
  obtain ⟨Z, s, h⟩ := h
  exact st_T h (q_winner h.1 a0)
theorem i_S13 (u v : ab_S) (a0 a1 : Int32) (h : Inv u v) : ∃ (r : Int32) (u1 v1 : ab_S), fX9_where a0 a1 u = some (r, u1) ∧ fX10_where a0 a1 v = some (r, v1) ∧ Inv u1 v1 := by
  obtain ⟨Z, s, h⟩ := h
  exact st_T h (q_where h.1 a0 a1)
theorem i_S14 (u v : ab_S) (a0 a1 : Int32) (h : Inv u v) : ∃ (r : Int32) (u1 v1 : ab_S), fX9_has a0 a1 u = some (r, u1) ∧ fX10_has a0 a1 v = some (r, v1) ∧ Inv u1 v1 := by
  obtain ⟨Z, s, h⟩ := h
  exact st_T h (q_has h.1 a0 a1)
theorem i_S15 (u v : ab_S) (h : Inv u v) : ∃ (r : Int32) (u1 v1 : ab_S), fX9_home u = some (r, u1) ∧ fX10_home v = some (r, v1) ∧ Inv u1 v1 := by
  obtain ⟨Z, s, h⟩ := h
  exact st_T h (q_home h.1)
theorem i_S16 (u v : ab_S) (h : Inv u v) : ∃ (r : Int32) (u1 v1 : ab_S), fX9_empty u = some (r, u1) ∧ fX10_empty v = some (r, v1) ∧ Inv u1 v1 := by
  obtain ⟨Z, s, h⟩ := h
  exact st_T h (q_empty h.1)
theorem i_S17 (u v : ab_S) (a0 a1 : Int32) (h : Inv u v) : ∃ (r : Int32) (u1 v1 : ab_S), fX9_won a0 a1 u = some (r, u1) ∧ fX10_won a0 a1 v = some (r, v1) ∧ Inv u1 v1 := by
  obtain ⟨Z, s, h⟩ := h
  exact st_T h (q_won h.1 a0 a1)
theorem i_S18 (u v : ab_S) (a0 a1 : Int32) (h : Inv u v) : ∃ (r : Int32) (u1 v1 : ab_S), fX9_streak a0 a1 u = some (r, u1) ∧ fX10_streak a0 a1 v = some (r, v1) ∧ Inv u1 v1 := by
  obtain ⟨Z, s, h⟩ := h
  exact st_T h (q_streak h.1 a0 a1)
theorem i_S19 (u v : ab_S) (a0 : Int32) (h : Inv u v) : ∃ (r : Int32) (u1 v1 : ab_S), fX9_moves a0 u = some (r, u1) ∧ fX10_moves a0 v = some (r, v1) ∧ Inv u1 v1 := by
  obtain ⟨Z, s, h⟩ := h
  exact st_T h (q_moves h.1 a0)
theorem i_S20 (u v : ab_S) (h : Inv u v) : ∃ (r : Int32) (u1 v1 : ab_S), fX9_least u = some (r, u1) ∧ fX10_least v = some (r, v1) ∧ Inv u1 v1 := by
  obtain ⟨Z, s, h⟩ := h
  exact st_P h (q_least h.1)
theorem i_S21 (u v : ab_S) (h : Inv u v) : ∃ (r : Int32) (u1 v1 : ab_S), fX9_rights u = some (r, u1) ∧ fX10_rights v = some (r, v1) ∧ Inv u1 v1 := by
  obtain ⟨Z, s, h⟩ := h
  exact st_P h (q_rights h.1)
theorem i_S22 (u v : ab_S) (a0 : Int32) (h : Inv u v) : ∃ (r : Int32) (u1 v1 : ab_S), fX9_joy a0 u = some (r, u1) ∧ fX10_joy a0 v = some (r, v1) ∧ Inv u1 v1 := by
  obtain ⟨Z, s, h⟩ := h
  exact st_P h (q_joy h.1 a0)
theorem i_S23 (u v : ab_S) (a0 : Int32) (h : Inv u v) : ∃ (r : Int32) (u1 v1 : ab_S), fX9_envy a0 u = some (r, u1) ∧ fX10_envy a0 v = some (r, v1) ∧ Inv u1 v1 := by
  obtain ⟨Z, s, h⟩ := h
  exact st_P h (q_envy h.1 a0)
theorem i_S24 (u v : ab_S) (a0 : Int32) (h : Inv u v) : ∃ (r : Int32) (u1 v1 : ab_S), fX9_offers a0 u = some (r, u1) ∧ fX10_offers a0 v = some (r, v1) ∧ Inv u1 v1 := by
  obtain ⟨Z, s, h⟩ := h
  exact st_P h (q_offers h.1 a0)
theorem i_S25 (u v : ab_S) (a0 : Int32) (h : Inv u v) : ∃ (r : Int32) (u1 v1 : ab_S), fX9_want a0 u = some (r, u1) ∧ fX10_want a0 v = some (r, v1) ∧ Inv u1 v1 := by
  obtain ⟨Z, s, h⟩ := h
  exact st_P h (q_want h.1 a0)
theorem i_S26 (u v : ab_S) (a0 : Int32) (h : Inv u v) : ∃ (r : Int32) (u1 v1 : ab_S), fX9_fans a0 u = some (r, u1) ∧ fX10_fans a0 v = some (r, v1) ∧ Inv u1 v1 := by
  obtain ⟨Z, s, h⟩ := h
  exact st_P h (q_fans h.1 a0)
theorem i_S27 (u v : ab_S) (h : Inv u v) : ∃ (r : Int32) (u1 v1 : ab_S), fX9_dull u = some (r, u1) ∧ fX10_dull v = some (r, v1) ∧ Inv u1 v1 := by
  obtain ⟨Z, s, h⟩ := h
  exact st_P h (q_dull h.1)
theorem i_S28 (u v : ab_S) (a0 : Int32) (h : Inv u v) : ∃ (r : Int32) (u1 v1 : ab_S), fX9_gets a0 u = some (r, u1) ∧ fX10_gets a0 v = some (r, v1) ∧ Inv u1 v1 := by
  obtain ⟨Z, s, h⟩ := h
  exact st_T h (q_gets h.1 a0)
theorem i_S29 (u v : ab_S) (h : Inv u v) : ∃ (r : Int32) (u1 v1 : ab_S), fX9_rounds u = some (r, u1) ∧ fX10_rounds v = some (r, v1) ∧ Inv u1 v1 := by
  obtain ⟨Z, s, h⟩ := h
  exact st_T h (q_rounds h.1)
theorem i_S30 (u v : ab_S) (a0 : Int32) (h : Inv u v) : ∃ (r : Int32) (u1 v1 : ab_S), fX9_best a0 u = some (r, u1) ∧ fX10_best a0 v = some (r, v1) ∧ Inv u1 v1 := by
  obtain ⟨Z, s, h⟩ := h
  exact st_G h (q_best h.1 h.2.2.2.2.2.1 a0)
theorem i_S31 (u v : ab_S) (a0 : Int32) (h : Inv u v) : ∃ (r : Int32) (u1 v1 : ab_S), fX9_owes a0 u = some (r, u1) ∧ fX10_owes a0 v = some (r, v1) ∧ Inv u1 v1 := by
  obtain ⟨Z, s, h⟩ := h
  exact st_G h (q_owes h.1 h.2.2.2.2.2.1 a0)
theorem i_S32 (u v : ab_S) (h : Inv u v) : ∃ (r : Int32) (u1 v1 : ab_S), fX9_spare u = some (r, u1) ∧ fX10_spare v = some (r, v1) ∧ Inv u1 v1 := by
  obtain ⟨Z, s, h⟩ := h
  exact st_G h (q_spare h.1 h.2.2.2.2.2.1)
theorem i_S33 (u v : ab_S) (a0 a1 : Int32) (h : Inv u v) : ∃ (r : Int32) (u1 v1 : ab_S), fX9_odds a0 a1 u = some (r, u1) ∧ fX10_odds a0 a1 v = some (r, v1) ∧ Inv u1 v1 := by
  obtain ⟨Z, s, h⟩ := h
  exact st_P h (q_odds h.1 a0 a1)
theorem i_S34 (u v : ab_S) (a0 a1 : Int32) (h : Inv u v) : ∃ (r : Int32) (u1 v1 : ab_S), fX9_enough a0 a1 u = some (r, u1) ∧ fX10_enough a0 a1 v = some (r, v1) ∧ Inv u1 v1 := by
  obtain ⟨Z, s, h⟩ := h
  exact st_P h (q_enough h.1 a0 a1)
theorem i_S35 (u v : ab_S) (a0 : Int32) (h : Inv u v) : ∃ (r : Int32) (u1 v1 : ab_S), fX9_run a0 u = some (r, u1) ∧ fX10_run a0 v = some (r, v1) ∧ Inv u1 v1 := by
  obtain ⟨Z, s, h⟩ := h
  exact st_P h (q_run h.1 a0)
theorem i_S37 (u v : ab_S) (h : Inv u v) : ∃ (r : Int32) (u1 v1 : ab_S), fX9_who u = some (r, u1) ∧ fX10_who v = some (r, v1) ∧ Inv u1 v1 := by
  obtain ⟨Z, s, h⟩ := h
  exact st_P h (q_who h.1 h.2.2.1)
theorem i_S38 (u v : ab_S) (h : Inv u v) : ∃ (r : Int32) (u1 v1 : ab_S), fX9_ask u = some (r, u1) ∧ fX10_ask v = some (r, v1) ∧ Inv u1 v1 := by
  obtain ⟨Z, s, h⟩ := h
  exact st_P h (q_ask h.1 h.2.2.1)
theorem i_S39 (u v : ab_S) (h : Inv u v) : ∃ (r : Int32) (u1 v1 : ab_S), fX9_rich u = some (r, u1) ∧ fX10_rich v = some (r, v1) ∧ Inv u1 v1 := by
  obtain ⟨Z, s, h⟩ := h
  exact st_P h (q_rich h.1)
theorem i_S40 (u v : ab_S) (h : Inv u v) : ∃ (r : Int32) (u1 v1 : ab_S), fX9_sad u = some (r, u1) ∧ fX10_sad v = some (r, v1) ∧ Inv u1 v1 := by
  obtain ⟨Z, s, h⟩ := h
  exact st_P h (q_sad h.1)
theorem i_S41 (u v : ab_S) (a0 : Int32) (h : Inv u v) : ∃ (r : Int32) (u1 v1 : ab_S), fX9_lack a0 u = some (r, u1) ∧ fX10_lack a0 v = some (r, v1) ∧ Inv u1 v1 := by
  obtain ⟨Z, s, h⟩ := h
  exact st_P h (q_lack h.1 a0)
theorem i_S42 (u v : ab_S) (h : Inv u v) : ∃ (r : Int32) (u1 v1 : ab_S), fX9_debt u = some (r, u1) ∧ fX10_debt v = some (r, v1) ∧ Inv u1 v1 := by
  obtain ⟨Z, s, h⟩ := h
  exact st_P h (q_debt h.1)
theorem i_S43 (u v : ab_S) (h : Inv u v) : ∃ (r : Int32) (u1 v1 : ab_S), fX9_poor u = some (r, u1) ∧ fX10_poor v = some (r, v1) ∧ Inv u1 v1 := by
  obtain ⟨Z, s, h⟩ := h
  exact st_P h (q_poor h.1)
theorem i_S45 (u v : ab_S) (a0 a1 a2 : Int32) (h : Inv u v) : ∃ (r : Int32) (u1 v1 : ab_S), fX9_luck a0 a1 a2 u = some (r, u1) ∧ fX10_luck a0 a1 a2 v = some (r, v1) ∧ Inv u1 v1 := by
  obtain ⟨Z, s, h⟩ := h
  exact st_T h (q_luck h.1 a0 a1 a2)
end PU
