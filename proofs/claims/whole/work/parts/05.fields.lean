/-! fields, statics and array elements: the evaluator's answers are the machine's -/
theorem ab_wwB : (List.range 10).all (fun ci => (u_ws (ab_cn ci) (ab_TT ci) (ab_fs ci).length).all (fun w => decide (w ∈ lw_tbl) && goodWord w)) = true := by decide +kernel
theorem ab_ww {ci : Nat} (h : ci < 10) : ∀ w ∈ u_ws (ab_cn ci) (ab_TT ci) (ab_fs ci).length, w ∈ ab_W0 := by
  intro w hw
  have h1 := List.all_eq_true.mp (List.all_eq_true.mp ab_wwB ci (List.mem_range.mpr h)) w hw
  simp only [Bool.and_eq_true, decide_eq_true_eq] at h1
  exact List.mem_filter.mpr h1
theorem ab_vw {ci : Nat} (h : ci < 10) : vwCl[ci]? = some (ab_cn ci, ab_TT ci, (ab_fs ci).length) := by
  match ci, h with
  | 0, _ | 1, _ | 2, _ | 3, _ | 4, _ | 5, _ | 6, _ | 7, _ | 8, _ | 9, _ => rfl
theorem ab_ty_ok {ci : Nat} (h : ci < 10) : ∀ k, k < (ab_fs ci).length → parseFieldDescriptor (ab_TT ci k).2.2.1 = some (ab_tt ci k) := by
  match ci, h with
  | 0, _ => exact tyX0_ok
  | 1, _ => exact tyX1_ok
  | 2, _ => exact tyX2_ok
  | 3, _ => exact tyX3_ok
  | 4, _ => exact tyX4_ok
  | 5, _ => exact tyX5_ok
  | 6, _ => exact tyX6_ok
  | 7, _ => exact tyX8_ok
  | 8, _ => exact tyX9_ok
  | 9, _ => exact tyX10_ok
theorem ab_nm_ok {ci : Nat} (h : ci < 10) : ∀ a, a < (ab_fs ci).length → ∀ b, b < (ab_fs ci).length → a ≠ b → (ab_TT ci a).2.1 ≠ (ab_TT ci b).2.1 := by
  match ci, h with
  | 0, _ => exact nmX0
  | 1, _ => exact nmX1
  | 2, _ => exact nmX2
  | 3, _ => exact nmX3
  | 4, _ => exact nmX4
  | 5, _ => exact nmX5
  | 6, _ => exact nmX6
  | 7, _ => exact nmX8
  | 8, _ => exact nmX9
  | 9, _ => exact nmX10
def ab_kdB (ci k : Nat) : Bool := decide ((ab_TT ci k).1 = ab_cn ci) && (match (ab_fk ci k).1 with
  | 0 => decide (ab_tt ci k = .int) && !(ab_TT ci k).2.2.2
  | 4 => decide (ab_tt ci k = .boolean) && !(ab_TT ci k).2.2.2
  | 1 => decide (ab_tt ci k = .long) && !(ab_TT ci k).2.2.2
  | 3 => decide (ab_tt ci k = .object (if k < 3 then "SoulRaffle$Office" else "SoulRaffle$Year")) && !(ab_TT ci k).2.2.2 && decide (ci = 8) && decide (1 ≤ k) && decide (k < 5) && decide ((ab_fk ci k).2.2 = k - 1) && decide ((ab_fk ci k).2.1 = if k < 3 then kO 2 else kO 7)
  | 2 => true
  | _ => false)
theorem ab_kd0 : (List.range 10).all (fun ci => (List.range (ab_fs ci).length).all (fun k => ab_kdB ci k)) = true := by decide +kernel
theorem ab_kd {ci k : Nat} (h : ci < 10) (hk : k < (ab_fs ci).length) : ab_kdB ci k = true := List.all_eq_true.mp (List.all_eq_true.mp ab_kd0 ci (List.mem_range.mpr h)) k (List.mem_range.mpr hk)
-- links
theorem ab_lkAll {own : Nat} (h : own < 15) : ab_lkB own = true := by
  match own, h with
  | 0, _ => exact ab_lkB0
  | 1, _ => exact ab_lkB1
  | 2, _ => exact ab_lkB2
  | 3, _ => exact ab_lkB3
  | 4, _ => exact ab_lkB4
  | 5, _ => exact ab_lkB5
  | 6, _ => exact ab_lkB6
  | 7, _ => exact ab_lkB7
  | 8, _ => exact ab_lkB8
  | 9, _ => exact ab_lkB9
  | 10, _ => exact ab_lkB10
  | 11, _ => exact ab_lkB11
  | 12, _ => exact ab_lkB12
  | 13, _ => exact ab_lkB13
  | 14, _ => exact ab_lkB14
theorem ab_look {l : List (Nat × ab_K)} {k : Nat} {q : ab_K} (h : l.lookup k = some q) : (k, q) ∈ l := by
  induction l with
  | nil => cases h
  | cons p r ih =>
    obtain ⟨j, z⟩ := p
    rw [List.lookup_cons] at h
    by_cases e : k = j
    · subst e
      simp only [beq_self_eq_true] at h
      cases h
      exact List.mem_cons_self
    · rw [show (k == j) = false from by simpa using e] at h
      exact List.mem_cons_of_mem _ (ih h)
theorem ab_lk_ok {own k : Nat} (h : own < 15) (hn : (ab_lk own k).1 ≠ 99) : ab_lkw own k (ab_lk own k) ∈ lw_tbl ∧ (goodWord (ab_lkw own k (ab_lk own k)) = true ∨ ab_isNest (ab_lkw own k (ab_lk own k)) = true ∨ (ab_lk own k).1 = 7) ∧ ((ab_lk own k).1 ≤ 1 → (ab_lk own k).2.1 < 10 ∧ (ab_lk own k).2.2.1 < (ab_fs (ab_lk own k).2.1).length) := by
  have h0 := ab_lkAll h
  unfold ab_lkB at h0
  cases hq : (ab_lks own).lookup k with
  | none => exact absurd (by unfold ab_lk; rw [hq]; rfl) hn
  | some q =>
    have e : ab_lk own k = q := by unfold ab_lk; rw [hq]; rfl
    have h1 := List.all_eq_true.mp h0 (k, q) (ab_look hq)
    rw [e]
    simp only [Bool.and_eq_true, Bool.or_eq_true, decide_eq_true_eq, beq_iff_eq] at h1
    obtain ⟨⟨⟨h2, h3⟩, -⟩, h4⟩ := h1
    refine ⟨h2, ?_, fun h5 => h4.resolve_left (by omega)⟩
    rcases h3 with (h3 | h3) | h3
    · exact Or.inl h3
    · exact Or.inr (Or.inl h3)
    · exact Or.inr (Or.inr h3)
-- ===== what is never written: the Words, their row, one text =====
def ab_SF (E : ab_E) (A : Nat → Prop) (U : State) (H : Heap) : Prop :=
  (∀ i, i < 23 → va_Z "SoulRaffle$Word" (ab_wn.getD i "") "LSoulRaffle$Word;" (.ref (ab_sa E 20 i)) A U H ∧ va_OF "SoulRaffle$Word" "letters" "J" (.long (ab_wl.getD i 0)) (ab_sa E 20 i) A U H ∧ va_OF "SoulRaffle$Word" "reserved" "Z" (.int (ab_wr.getD i 0)) (ab_sa E 20 i) A U H) ∧
  va_Z "SoulRaffle" "WORDS" "[LSoulRaffle$Word;" (.ref (ab_sa E 106 0)) A U H ∧ va_T (.object "SoulRaffle$Word") (ab_sa E 106 0) 23 (fun i => .ref (ab_sa E 20 i)) A U H ∧
  vk_S 1 [8] [ab_by] (fun _ => ab_sa E 21 0) (fun _ => ab_sa E 107 0) A U H ∧ vk_R "SoulRaffle$Tokens" 75 "()<=+-*;" (ab_sa E 21 0) U ∧ va_Z "java/lang/String" "COMPACT_STRINGS" "Z" (.int 1) A U H
abbrev ab_F (p : Program) (s : State) (m : MethodId) (args : Array Value) (c : Code) (E : ab_E) (sy own : Nat) (b : ByteArray) (A : Nat → Prop) : Prop :=
  p.tables.exec = Jvm.exec ∧ c.code = b ∧ s.vm.findClass (ab_cn own) = some m.cls ∧ (∀ w ∈ ab_W0, w.before args s = true) ∧ ab_NW s ∧ va_K (E.1, E.2.1) vwCl (ab_ty E) s ∧ ab_SF E A s s.heap ∧ own < 15 ∧ sy < 2
abbrev ab_X (E : ab_E) (sy : Nat) (A : Nat → Prop) (s : State) (u : ab_S) (H : Heap) (locs : List Loc) : Prop :=
  va_P (E.1, E.2.1) vwCl (ab_wd E sy u) H ∧ va_D A (ab_wd E sy u) ∧ va_S A s.heap H locs ∧ ab_WT sy u
theorem ab_re_ro (E : ab_E) {sy x : Nat} {t : ab_T} (hs : sy < 2) (h : (ab_sh sy)[x]? = some t) : ab_re E t x = ab_ro E x := by
  cases t with
  | inl c =>
    have h1 := (ab_lay (k := 0) hs h).1
    simp only [ab_re]
    rw [if_pos (by omega)]
  | inr p =>
    obtain ⟨e, n⟩ := p
    have h1 := (ab_layA hs h).1
    simp only [ab_re]
    rw [if_pos h1]
theorem ab_ia_of {sy x : Nat} {t : ab_T} (hs : sy < 2) (h : (ab_sh sy)[x]? = some t) : ab_ia sy t x := by
  cases t with
  | inl c =>
    have h1 := (ab_lay (k := 0) hs h).1
    simp only [ab_ia]
    rw [if_pos (by omega)]
    exact h
  | inr p =>
    obtain ⟨e, n⟩ := p
    have h1 := (ab_layA hs h).1
    simp only [ab_ia]
    rw [if_pos h1]
    exact h
theorem ab_fval_ok (E : ab_E) {sy a c k : Nat} {u : ab_S} {v : ab_V} (hs : sy < 2) (hW : ab_WT sy u) (h : (ab_sh sy)[a]? = some (kO c)) (hk : k < (ab_fs c).length) (hv : ab_fval u a c k = some v) : ab_ok sy v ∧ ab_vm E v = ab_fv E u a (ab_fk c k) k := by
  obtain ⟨hc, h8, hl⟩ := ab_lay (k := k) hs h
  have hd := ab_kd hc hk
  unfold ab_fval at hv
  unfold ab_fv
  split at hv
  · rename_i e; rw [e]; cases hv; exact ⟨trivial, rfl⟩
  · rename_i e; rw [e]; cases hv; exact ⟨trivial, rfl⟩
  · rename_i e; rw [e]; cases hv; exact ⟨trivial, rfl⟩
  · rename_i e
    rw [e]
    cases hv
    have h1 := hl e
    exact ⟨ab_ia_of hs h1, congrArg Value.ref (ab_re_ro E hs h1)⟩
  · rename_i e
    cases hv
    unfold ab_kdB at hd
    rw [e] at hd
    simp only [Bool.and_eq_true, decide_eq_true_eq] at hd
    obtain ⟨-, ⟨⟨⟨⟨⟨-, hc8⟩, hk1⟩, hk5⟩, hj⟩, ht⟩⟩ := hd
    obtain ⟨hs0, -⟩ := h8 hc8
    subst hs0
    have h1 := hW (k - 1) (by omega) rfl
    have e2 : (if k - 1 < 2 then kO 2 else kO 7) = (if k < 3 then kO 2 else kO 7) := by
      by_cases q : k < 3
      · rw [if_pos q, if_pos (by omega)]
      · rw [if_neg q, if_neg (by omega)]
    rw [e2, ← ht, ← hj] at h1
    rw [e]
    exact ⟨ab_ia_of hs h1, congrArg Value.ref (ab_re_ro E hs h1)⟩
  · cases hv
section ABF
variable {p : Program} {l : Launch} {e : Env} {R : Room} {s : State} {m : MethodId} {args : Array Value} {below : List Frame} {meth : Method} {c : Code} {H : Heap} {locs : List Loc} {cells slots : Nat} {Q : State → Prop} {E : ab_E} {sy own : Nat} {b : ByteArray} {A : Nat → Prop} {u : ab_S} {pc : Nat} {ls : Array Slot} {rest : List Value}
theorem ab_get_ok {t : ab_T} {a k : Nat} {v : ab_V} (F : ab_F p s m args c E sy own b A) (X : ab_X E sy A s u H locs) (hia : ab_ia sy t a) (hd : decode b pc = .ok (.getfield k, 3)) (h : ab_gf (ab_lk own k) t a u = some v) :
    ab_ok sy v ∧ (W p l e R s m args below meth c H locs cells slots Q (F0 m (pc + 3) ls (ab_vm E v :: rest)) → W p l e R s m args below meth c H locs cells slots Q (F0 m pc ls (.ref (ab_re E t a) :: rest))) := by
  obtain ⟨hx, hb, hown, hts, hNW, hK, hSF, ho, hs⟩ := F
  obtain ⟨hP, hD, hS, hW⟩ := X
  cases t with
  | inr z => cases h
  | inl ci =>
    have pool : ∀ (hq : (ab_lk own k).1 ≤ 1) (e1 : ci = (ab_lk own k).2.1), ab_fval u a ci (ab_lk own k).2.2.1 = some v → (ab_sh sy)[a]? = some (kO ci) ∧ ci < 10 ∧ (ab_lk own k).2.2.1 < (ab_fs ci).length ∧ ab_re E (.inl ci) a = ab_ro E a ∧ ab_ok sy v ∧ ab_vm E v = ab_fv E u a (ab_fk ci (ab_lk own k).2.2.1) (ab_lk own k).2.2.1 ∧ (ab_TT ci (ab_lk own k).2.2.1).1 = ab_cn ci := by
      intro hq e1 hv
      obtain ⟨-, -, h3⟩ := ab_lk_ok (k := k) ho (by omega)
      obtain ⟨h4, h5⟩ := h3 hq
      rw [← e1] at h4 h5
      have h6 : (ab_sh sy)[a]? = some (kO ci) := by
        simp only [ab_ia] at hia
        rwa [if_pos (by omega)] at hia
      obtain ⟨h7, h8⟩ := ab_fval_ok E hs hW h6 h5 hv
      have h9 := ab_kd h4 h5
      unfold ab_kdB at h9
      simp only [Bool.and_eq_true, decide_eq_true_eq] at h9
      exact ⟨h6, h4, h5, ab_re_ro E hs h6, h7, h8, h9.1⟩
    unfold ab_gf at h
    dsimp only at h
    split at h
    · rename_i hq
      cases hc : Nat.beq ci (ab_lk own k).2.1 with
      | false => rw [hc] at h; cases h
      | true =>
        rw [hc] at h
        have e1 := Nat.eq_of_beq_eq_true hc
        obtain ⟨g1, g2, g3, g4, g5, g6, g7⟩ := pool (by omega) e1 h
        refine ⟨g5, fun kk => ?_⟩
        obtain ⟨w1, w2, -⟩ := ab_lk_ok (k := k) ho (by omega)
        unfold ab_lkw at w1 w2
        rw [hq] at w1 w2
        simp only [ab_isNest] at w2
        have w3 : Cond.fieldLink (ab_cn own) k (ab_cn ci) (ab_TT ci (ab_lk own k).2.2.1).2.1 (ab_TT ci (ab_lk own k).2.2.1).2.2.1 ∈ ab_W0 := by
          rw [← e1] at w1 w2
          exact List.mem_filter.mpr ⟨w1, by rcases w2 with w2 | w2 | w2 <;> first | exact w2 | cases w2⟩
        rw [g4]
        rw [g6] at kk
        exact va_get hx hb (T := ab_TT ci) (ref := ab_cn ci) hts (ab_ww g2) hown hK hP a (ab_wd_at E g1) (ab_vw g2) _ g3 (hts _ w3) (fun x hx => by rw [g7] at hx; exact hx) (by rw [List.getElem?_map, List.getElem?_range g3]; rfl) hd kk
    · rename_i hq
      cases hc : Nat.beq ci (ab_lk own k).2.1 with
      | false => rw [hc] at h; cases h
      | true =>
        rw [hc] at h
        have e1 := Nat.eq_of_beq_eq_true hc
        obtain ⟨g1, g2, g3, g4, g5, g6, g7⟩ := pool (by omega) e1 h
        refine ⟨g5, fun kk => ?_⟩
        obtain ⟨w1, w2, -⟩ := ab_lk_ok (k := k) ho (by omega)
        unfold ab_lkw at w1
        rw [hq, ← e1] at w1
        have w3 := va_Nw.use (A := args) rfl (hNW _ w1 rfl)
        rw [g4]
        rw [g6] at kk
        exact va_getN hx hb (T := ab_TT ci) (ref := ab_cn ci) hts (ab_ww g2) hown hK hP a (ab_wd_at E g1) (ab_vw g2) _ g3 w3 (fun x hx => by rw [g7] at hx; exact hx) (by rw [List.getElem?_map, List.getElem?_range g3]; rfl) hd kk
    · rename_i hq
      cases hc : Nat.beq ci 20 with
      | false => rw [hc] at h; cases h
      | true =>
        rw [hc] at h
        have e1 := Nat.eq_of_beq_eq_true hc
        subst e1
        obtain ⟨w1, w2, -⟩ := ab_lk_ok (k := k) ho (by omega)
        unfold ab_lkw at w1 w2
        rw [hq] at w1 w2
        simp only [ab_isNest] at w2
        have w3 : _ ∈ ab_W0 := List.mem_filter.mpr ⟨w1, by rcases w2 with w2 | w2 | w2 <;> first | exact w2 | cases w2⟩
        have hi : a < 23 := hia
        obtain ⟨s1, s2, s3⟩ := hSF.1 a hi
        cases hf : Nat.beq (ab_lk own k).2.1 0 with
        | true =>
          rw [hf] at h
          cases h
          have e2 := Nat.eq_of_beq_eq_true hf
          rw [if_pos e2, if_pos e2] at w3
          exact ⟨trivial, fun kk => vk_getf hx hb s2 hS hown (hts _ w3) (fun x hx => hx) hd kk⟩
        | false =>
          rw [hf] at h
          cases h
          have e2 : ¬ (ab_lk own k).2.1 = 0 := fun q => by rw [q] at hf; cases hf
          rw [if_neg e2, if_neg e2] at w3
          exact ⟨trivial, fun kk => vk_getf hx hb s3 hS hown (hts _ w3) (fun x hx => hx) hd kk⟩
    · rename_i hq
      cases hc : Nat.beq ci 21 with
      | false => rw [hc] at h; cases h
      | true =>
        rw [hc] at h
        have e1 := Nat.eq_of_beq_eq_true hc
        subst e1
        cases h
        obtain ⟨w1, w2, -⟩ := ab_lk_ok (k := k) ho (by omega)
        unfold ab_lkw at w1 w2
        rw [hq] at w1 w2
        simp only [ab_isNest] at w2
        have w3 : _ ∈ ab_W0 := List.mem_filter.mpr ⟨w1, by rcases w2 with w2 | w2 | w2 <;> first | exact w2 | cases w2⟩
        have hi : a < 1 := hia
        have ha : a = 0 := by omega
        subst ha
        obtain ⟨s1, s2, s3, s4⟩ := hSF.2.2.2.1.1 0 (by omega)
        exact ⟨⟨by omega, by omega, rfl⟩, fun kk => vk_getf hx hb s3 hS hown (hts _ w3) (fun x hx => hx) hd kk⟩
    · rename_i hq
      cases hc : Nat.beq ci 21 with
      | false => rw [hc] at h; cases h
      | true =>
        rw [hc] at h
        have e1 := Nat.eq_of_beq_eq_true hc
        subst e1
        cases h
        obtain ⟨w1, w2, -⟩ := ab_lk_ok (k := k) ho (by omega)
        unfold ab_lkw at w1 w2
        rw [hq] at w1 w2
        simp only [ab_isNest] at w2
        have w3 : _ ∈ ab_W0 := List.mem_filter.mpr ⟨w1, by rcases w2 with w2 | w2 | w2 <;> first | exact w2 | cases w2⟩
        have hi : a < 1 := hia
        have ha : a = 0 := by omega
        subst ha
        obtain ⟨s1, s2, s3, s4⟩ := hSF.2.2.2.1.1 0 (by omega)
        exact ⟨trivial, fun kk => vk_getf hx hb s2 hS hown (hts _ w3) (fun x hx => hx) hd kk⟩
    · cases h
end ABF
