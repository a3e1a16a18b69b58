/-- a constructor's call: the new object stands last in the world -/
theorem ng_call {own : Nat} {b : ByteArray} {R : Room} {nL : Nat} {E : ab_E} {a N0 N1 kF mF : Nat} {WF : va_W} {pc pc2 : Nat} {L : List (Nat × Value)} {st : List Value} {w0 : va_W} {x n cells slots : Nat}
    {y : MethodName} {b' : ByteArray} {nL' : Nat} {R' : Room} {ci : Nat} {fs : List Value} {k' idx : Nat} {WF' : ab_E → Nat → Nat → va_W} (hM : nw_C y b' nL' R' ci fs k' WF') (hc : Cond.code y b' nL' none ∈ ab_W0) (hini : Cond.initialized y.cls ∈ ab_W0) (hinst : Cond.instanceMethod y ∈ ab_W0) (hyn : y.name = "<init>") (hyc : y.cls ≠ "java/lang/invoke/MethodHandle" ∧ y.cls ≠ "java/lang/invoke/VarHandle") (hpar : (parseMethodDescriptor y.desc).map (fun d => d.parameters.length) = some 0)
    (hlk : ab_lp own idx y ∨ ab_ln' own idx y) (hd : decode b pc = .ok (.invokespecial idx, 3)) (hcat : (st.map fun v => v.category).sum ≤ 8) (hRf : R'.frames + 1 ≤ R.frames ∧ 8 + (nL' + 11) + R'.locals ≤ R.locals) (hR : cells + R'.cells ≤ R.cells ∧ slots + R'.slots ≤ R.slots) (hp : pc + 3 = pc2)
    (k : nw_G own b R nL E a N0 N1 kF mF WF pc2 L st (w0 ++ WF' E x n) (n + k') (cells + R'.cells) (slots + R'.slots)) : nw_G own b R nL E a N0 N1 kF mF WF pc L (.ref x :: st) (w0 ++ [(x, .inr (ci, fs))]) n cells slots := by
  intro p l e s m args below meth c H locs ls hfl F hml X hl
  subst hp
  obtain ⟨hx, hb, hown, hts, hNW, hK, hsz, -⟩ := id F
  obtain ⟨hP, hD, hS, hn⟩ := X
  have hPx : va_P (E.1, E.2.1) vwCl [(x, .inr (ci, fs))] H := fun i q hq => by
    match i, hq with
    | 0, hq => cases hq; exact hP w0.length _ (by rw [List.getElem?_append_right (Nat.le_refl _)]; simp)
    | i + 1, hq => simp at hq
  have hP0 : va_P (E.1, E.2.1) vwCl w0 H := fun i q hq => hP i q (by rw [List.getElem?_append_left (List.getElem?_eq_some_iff.mp hq).1]; exact hq)
  have hA0 : ∀ (i : Nat) (q : Nat × va_E), w0[i]? = some q → nw_A a N0 q.1 := fun i q hq => hD.2 i q (by rw [List.getElem?_append_left (List.getElem?_eq_some_iff.mp hq).1]; exact hq)
  have hx0 : (w0 ++ [(x, (Sum.inr (ci, fs) : va_E))])[w0.length]? = some (x, .inr (ci, fs)) := by rw [List.getElem?_append_right (Nat.le_refl _)]; simp
  have hAx : nw_A a N0 x := hD.2 w0.length _ hx0
  have hne : ∀ (i : Nat) (q : Nat × va_E), w0[i]? = some q → q.1 ≠ x := fun i q hq h => by
    have hi := (List.getElem?_eq_some_iff.mp hq).1
    have h2 := hD.1 i w0.length q _ (by rw [List.getElem?_append_left hi]; exact hq) hx0 h
    omega
  have hN0 : N0 ≤ n := by rw [← hn, ← hsz]; exact hS.1
  have hpv : PreS s H (va_Pc [.ref x] (nw_B E x n ci fs)) [.ref x] := ⟨nw_B_blind E x n ci fs _, fun U hU hW => ⟨rfl, va_K.moved hW.alike hK, by rw [hU]; exact hPx, by rw [hU]; exact hn, ab_NW.moved hW hNW⟩⟩
  have hfix : CallFix p m c b nL s args ab_W0 (ab_cn own) := ⟨hx, hb, hml, hown, hts⟩
  have hlen : ∀ sig, parseMethodDescriptor y.desc = some sig → 0 = sig.parameters.length := fun sig h => by
    rw [h] at hpar
    exact (Option.some.inj hpar).symm
  have hmon : 2 * (F0 m pc ls (.ref x :: st)).monitorRoom + (st.map fun v => v.category).sum ≤ 8 := lv_room hcat
  have hrun : va_Run p l e R s m args below meth c H locs cells slots R'.cells R'.slots (F0 m pc ls (.ref x :: st)) st (nw_Q E x n (n + k') (WF' E x n) [Value.ref x].toArray) (nw_A x n) := by
    rcases hlk with h | h
    · exact va_runI (As := []) hfix (hM l E x n hfl) ⟨⟨rfl, rfl, hRf.1, hRf.2, ab_ws hts hc, List.mem_cons_self, hts _ hc, hts _ hini, hyc, hlen, hts _ h⟩, hyn, hts _ hinst⟩ hpv rfl rfl hl.1 rfl hmon hd hR
    · exact va_runIN (As := []) hfix (hM l E x n hfl) ⟨⟨⟨rfl, rfl, hRf.1, hRf.2, ab_ws hts hc, List.mem_cons_self⟩, hts _ hc, hts _ hini, hyc, hlen, va_Nw.use rfl (hNW _ h rfl)⟩, hyn, hts _ hinst⟩ hpv rfl rfl hl.1 rfl hmon hd hR
  intro T hT Y
  obtain ⟨v, st₀, t, T', Lc, h0, Y', hLc, e1, e2, ⟨hv, hP', hz', ⟨hz, hk⟩, hD'⟩, stp⟩ := hrun T hT Y
  cases hv
  rw [h0] at hz hk
  have hsub : ∀ q, nw_A x n q → nw_A a N0 q := fun q h => by
    rcases h with h | h
    · rw [h]; exact hAx
    · exact Or.inr (Nat.le_trans hN0 h)
  have hlt : ∀ (i : Nat) (q : Nat × va_E), w0[i]? = some q → q.1 < n := fun i q hq => by rw [← hn]; exact (hP0 i q hq).lt
  have hX1 : nw_W E (nw_A a N0) s.heap (w0 ++ WF' E x n) (n + k') T'.heap (locs ++ Lc) := by
    rw [e1]
    refine ⟨(hP0.kept (fun i q hq => hk q.1 (by rw [hn]; exact hlt i q hq) (fun h => ?_))).app hP', ⟨fun i j pq qq hi hj h => ?_, fun i q hq => ?_⟩, ⟨Nat.le_trans hS.1 hz, fun q h1 h2 => by rw [hk q (Nat.lt_of_lt_of_le h1 hS.1) (fun h => h2 (hsub q h))]; exact hS.2.1 q h1 h2, fun q hq => ?_⟩, hz'⟩
    · rcases h with h | h
      · exact hne i q hq h
      · have := hlt i q hq; omega
    · by_cases h1 : i < w0.length
      · rw [List.getElem?_append_left h1] at hi
        by_cases h2 : j < w0.length
        · rw [List.getElem?_append_left h2] at hj
          exact hD.1 i j pq qq (by rw [List.getElem?_append_left h1]; exact hi) (by rw [List.getElem?_append_left h2]; exact hj) h
        · rw [List.getElem?_append_right (by omega)] at hj
          rcases hD'.2 _ _ hj with h3 | h3
          · exact absurd (h.trans h3) (hne i pq hi)
          · have := hlt i pq hi; omega
      · rw [List.getElem?_append_right (by omega)] at hi
        by_cases h2 : j < w0.length
        · rw [List.getElem?_append_left h2] at hj
          rcases hD'.2 _ _ hi with h3 | h3
          · exact absurd (h.symm.trans h3) (hne j qq hj)
          · have := hlt j qq hj; omega
        · rw [List.getElem?_append_right (by omega)] at hj
          have := hD'.1 _ _ pq qq hi hj h
          omega
    · by_cases h1 : i < w0.length
      · rw [List.getElem?_append_left h1] at hq
        exact hA0 i q hq
      · rw [List.getElem?_append_right (by omega)] at hq
        exact hsub _ (hD'.2 _ _ hq)
    · rcases List.mem_append.mp hq with h | h
      · exact hS.2.2 q h
      · exact hsub _ (hLc q h)
  obtain ⟨t2, b1, b2⟩ := k p l e s m args below meth c T'.heap (locs ++ Lc) ls hfl F hml hX1 hl T' rfl Y'
  exact ⟨t2, stp t2 b1, b2⟩
