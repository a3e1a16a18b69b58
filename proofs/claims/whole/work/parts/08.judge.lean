/-! stretches, the judgement on a place in a method, its rows -/
theorem ab_stp_ok {p : Program} {l : Launch} {e : Env} {R : Room} {s : State} {m : MethodId} {args : Array Value} {below : List Frame} {meth : Method} {c : Code} {H : Heap} {locs : List Loc} {cells slots : Nat} {Q : State → Prop} {E : ab_E} {sy own : Nat} {b : ByteArray} {A : Nat → Prop} {u : ab_S} {pc : Nat} {ls : Array Slot}
    {o : ab_O} {n : Nat} {L L' : List (Option ab_V)} {st st' : List ab_V} {u' : ab_S} {g : List Bool} (F : ab_F p s m args c E sy own b A) (X : ab_X E sy A s u H locs) (hl : ab_hl E ls L) (hL : ∀ (j : Nat) (w : ab_V), L[j]? = some (some w) → ab_ok sy w) (hst : ab_oks sy st) (hd : ab_dc own b pc o n = true) (h : ab_stp own o L st u = some (g, L', st', u')) (hg : g.all id = true)
    (kk : ∀ (H1 : Heap) (locs1 : List Loc) (ls1 : Array Slot), ab_X E sy A s u' H1 locs1 → ab_hl E ls1 L' → L'.length = L.length → (∀ (j : Nat) (w : ab_V), L'[j]? = some (some w) → ab_ok sy w) → ab_oks sy st' → W p l e R s m args below meth c H1 locs1 cells slots Q (F0 m (pc + n) ls1 (st'.map (ab_vm E)))) : W p l e R s m args below meth c H locs cells slots Q (F0 m pc ls (st.map (ab_vm E))) := by
  obtain ⟨i, hdec, hn, hm⟩ := ab_dc_ok hd
  obtain ⟨hx, hb, hown, hts, hNW, hK, hSF, ho, hs⟩ := id F
  rcases o with (j | ⟨k, x⟩) | ((x | x) | ⟨k, z⟩)
  · -- a plain one
    have hij : i = j := by simpa [ab_om] using hm
    subst hij
    simp only [ab_stp] at h
    split at h
    · rename_i g0 st0 u0 hq
      cases h
      exact ab_sti_ok F X hst hdec hn hq hg (fun H1 locs1 X1 h1 => kk H1 locs1 ls X1 hl rfl hL h1)
    · cases h
  · -- a place
    simp only [ab_stp] at h
    split at h
    · rename_i L0 st0 hq
      cases h
      simp only [ab_om] at hm
      subst hn
      unfold ab_stl at hq
      split at hq
      · split at hq
        · rename_i y hy
          cases hq
          have hat := hl.at hy
          cases i with
          | iload k => have e1 : k = x := by simpa [ab_ol] using hm
                       subst e1
                       exact lv_iload hx hb hdec hat (kk H locs ls X hl rfl hL (hst.cons trivial))
          | iload_n k => have e1 : k.val = x := by simpa [ab_ol] using hm
                         exact lv_iload_n hx hb hdec e1 hat (kk H locs ls X hl rfl hL (hst.cons trivial))
          | _ => simp [ab_ol] at hm
        · cases hq
      · split at hq
        · rename_i y hy
          cases hq
          have hat := hl.at hy
          cases i with
          | lload k => have e1 : k = x := by simpa [ab_ol] using hm
                       subst e1
                       exact lv_lload hx hb hdec hat (kk H locs ls X hl rfl hL (hst.cons trivial))
          | lload_n k => have e1 : k.val = x := by simpa [ab_ol] using hm
                         exact lv_lload_n hx hb hdec e1 hat (kk H locs ls X hl rfl hL (hst.cons trivial))
          | _ => simp [ab_ol] at hm
        · cases hq
      · split at hq
        · rename_i y hy
          cases hq
          have hat := hl.at hy
          cases i with
          | aload k => have e1 : k = x := by simpa [ab_ol] using hm
                       subst e1
                       exact lv_aload hx hb hdec hat (kk H locs ls X hl rfl hL (hst.cons (hL _ _ hy)))
          | aload_n k => have e1 : k.val = x := by simpa [ab_ol] using hm
                         exact lv_aload_n hx hb hdec e1 hat (kk H locs ls X hl rfl hL (hst.cons (hL _ _ hy)))
          | _ => simp [ab_ol] at hm
        · cases hq
      · split at hq
        · rename_i y r
          cases hc : Nat.blt x L.length with
          | false => rw [hc] at hq; cases hq
          | true =>
            rw [hc] at hq
            cases hq
            have hlt : x < L.length := Nat.le_of_ble_eq_true hc
            cases i with
            | istore k => have e1 : k = x := by simpa [ab_ol] using hm
                          subst e1
                          exact lv_istore hx hb hdec hl hlt rfl (fun ls1 h1 => kk H locs ls1 X (ab_hl.st1 h1) (ab_st1_len _ _ _) (ab_ok_st1 hL trivial) hst.tl)
            | istore_n k => have e1 : k.val = x := by simpa [ab_ol] using hm
                            exact lv_istore_n hx hb hdec e1 hl hlt rfl (fun ls1 h1 => kk H locs ls1 X (ab_hl.st1 h1) (ab_st1_len _ _ _) (ab_ok_st1 hL trivial) hst.tl)
            | _ => simp [ab_ol] at hm
        · cases hq
      · split at hq
        · rename_i y r
          cases hc : Nat.blt (x + 1) L.length with
          | false => rw [hc] at hq; cases hq
          | true =>
            rw [hc] at hq
            cases hq
            have hlt : x + 1 < L.length := Nat.le_of_ble_eq_true hc
            cases i with
            | lstore k => have e1 : k = x := by simpa [ab_ol] using hm
                          subst e1
                          exact lv_lstore hx hb hdec hl hlt rfl (fun ls1 h1 => kk H locs ls1 X (ab_hl.st2 h1) (ab_st2_len _ _ _) (ab_ok_st2 hL trivial) hst.tl)
            | lstore_n k => have e1 : k.val = x := by simpa [ab_ol] using hm
                            exact lv_lstore_n hx hb hdec e1 hl hlt rfl (fun ls1 h1 => kk H locs ls1 X (ab_hl.st2 h1) (ab_st2_len _ _ _) (ab_ok_st2 hL trivial) hst.tl)
            | _ => simp [ab_ol] at hm
        · cases hq
      · split at hq
        · rename_i y r
          cases hc : Nat.blt x L.length with
          | false => rw [hc] at hq; cases hq
          | true =>
            rw [hc] at hq
            cases hq
            have hlt : x < L.length := Nat.le_of_ble_eq_true hc
            cases i with
            | astore k => have e1 : k = x := by simpa [ab_ol] using hm
                          subst e1
                          exact lv_astore hx hb hdec hl hlt rfl (fun ls1 h1 => kk H locs ls1 X (ab_hl.st1 h1) (ab_st1_len _ _ _) (ab_ok_st1 hL hst.hd) hst.tl)
            | astore_n k => have e1 : k.val = x := by simpa [ab_ol] using hm
                            exact lv_astore_n hx hb hdec e1 hl hlt rfl (fun ls1 h1 => kk H locs ls1 X (ab_hl.st1 h1) (ab_st1_len _ _ _) (ab_ok_st1 hL hst.hd) hst.tl)
            | _ => simp [ab_ol] at hm
        · cases hq
      · cases hq
    · cases h
  · -- a number
    simp only [ab_stp] at h
    cases h
    simp only [ab_om] at hm
    subst hn
    have k1 := kk H locs ls X hl rfl hL (hst.cons trivial)
    cases i with
    | iconst v => have e1 : Int32.ofInt v = x := by simpa [ab_oc] using hm
                  exact lv_iconst hx hb hdec e1 k1
    | bipush v => have e1 : (Int8.ofInt v).toInt32 = x := by simpa [ab_oc] using hm
                  exact lv_bipush hx hb hdec e1 k1
    | sipush v => have e1 : (Int16.ofInt v).toInt32 = x := by simpa [ab_oc] using hm
                  exact lv_sipush hx hb hdec e1 k1
    | ldc k =>
      have e1 : (ab_lk own k).1 = 2 ∧ Int32.ofInt (ab_lk own k).2.2.2 = x := by simpa [ab_oc] using hm
      obtain ⟨w1, w2, -⟩ := ab_lk_ok (k := k) ho (by omega)
      unfold ab_lkw at w1 w2
      rw [e1.1] at w1 w2
      simp only [ab_isNest] at w2
      have w3 : _ ∈ ab_W0 := List.mem_filter.mpr ⟨w1, by rcases w2 with w2 | w2 | w2 <;> first | exact w2 | cases w2⟩
      rw [e1.2] at w3
      exact lv_ldc hx hb hown (hts _ w3) hdec k1
    | ldc_w k =>
      have e1 : (ab_lk own k).1 = 2 ∧ Int32.ofInt (ab_lk own k).2.2.2 = x := by simpa [ab_oc] using hm
      obtain ⟨w1, w2, -⟩ := ab_lk_ok (k := k) ho (by omega)
      unfold ab_lkw at w1 w2
      rw [e1.1] at w1 w2
      simp only [ab_isNest] at w2
      have w3 : _ ∈ ab_W0 := List.mem_filter.mpr ⟨w1, by rcases w2 with w2 | w2 | w2 <;> first | exact w2 | cases w2⟩
      rw [e1.2] at w3
      exact lv_ldcw hx hb hown (hts _ w3) hdec k1
    | _ => simp [ab_oc] at hm
  · -- a long number
    simp only [ab_stp] at h
    cases h
    simp only [ab_om] at hm
    subst hn
    have k1 := kk H locs ls X hl rfl hL (hst.cons trivial)
    cases i with
    | lconst v => have e1 : Int64.ofNat v = x := by simpa [ab_od] using hm
                  exact lv_lconst hx hb hdec e1 k1
    | ldc2_w k =>
      have e1 : (ab_lk own k).1 = 3 ∧ Int64.ofInt (ab_lk own k).2.2.2 = x := by simpa [ab_od] using hm
      obtain ⟨w1, w2, -⟩ := ab_lk_ok (k := k) ho (by omega)
      unfold ab_lkw at w1 w2
      rw [e1.1] at w1 w2
      simp only [ab_isNest] at w2
      have w3 : _ ∈ ab_W0 := List.mem_filter.mpr ⟨w1, by rcases w2 with w2 | w2 | w2 <;> first | exact w2 | cases w2⟩
      rw [e1.2] at w3
      exact lv_ldc2 hx hb hown (hts _ w3) hdec k1
    | _ => simp [ab_od] at hm
  · -- iinc
    simp only [ab_stp] at h
    split at h
    · rename_i y hy
      cases h
      simp only [ab_om] at hm
      subst hn
      cases i with
      | iinc k1 z1 =>
        have e1 : k1 = k ∧ Int32.ofInt z1 = z := by simpa [ab_on] using hm
        obtain ⟨e1, e2⟩ := e1
        subst e1
        obtain ⟨k2, hk2⟩ := List.getElem?_of_mem (ab_al_mem.mpr ⟨k1, _, hy, rfl⟩ : ((0 + k1, ab_vm E (.inl y)) : Nat × Value) ∈ ab_al E L 0)
        rw [Nat.zero_add] at hk2
        have hlt : k1 < L.length := (List.getElem?_eq_some_iff.mp hy).1
        exact lv_iinc hx hb hdec hl hk2 (by rw [e2]) hlt rfl (fun ls1 h1 => kk H locs ls1 X (ab_hl.st1 h1) (ab_st1_len _ _ _) (ab_ok_st1 hL trivial) hst)
      | _ => simp [ab_on] at hm
    · cases h
-- ===== stretches =====
def ab_seg (own : Nat) : List (ab_O × Nat) → List (Option ab_V) → List ab_V → ab_S → Option (List Bool × (List (Option ab_V) × (List ab_V × ab_S)))
  | [], L, st, u => some ([], L, st, u)
  | q :: r, L, st, u => match ab_stp own q.1 L st u with
    | some (g, L', st', u') => match ab_seg own r L' st' u' with
      | some (g2, x) => some (g ++ g2, x)
      | none => none
    | none => none
def ab_dcs (own : Nat) (b : ByteArray) : Nat → List (ab_O × Nat) → Bool
  | _, [] => true
  | pc, q :: r => ab_dc own b pc q.1 q.2 && ab_dcs own b (pc + q.2) r
def ab_sl : Nat → List (ab_O × Nat) → Nat
  | pc, [] => pc
  | pc, q :: r => ab_sl (pc + q.2) r
def ab_gd {α : Type} : List Bool → Option α → Option α
  | [], r => r
  | b :: l, r => bif b then ab_gd l r else none
theorem ab_gd_some {α : Type} {l : List Bool} {r : Option α} {x : α} (h : ab_gd l r = some x) : l.all id = true ∧ r = some x := by
  induction l with
  | nil => exact ⟨rfl, h⟩
  | cons b l ih =>
    cases b with
    | false => cases h
    | true => exact ⟨by simpa using (ih h).1, (ih h).2⟩
theorem ab_seg_ok {p : Program} {l : Launch} {e : Env} {R : Room} {s : State} {m : MethodId} {args : Array Value} {below : List Frame} {meth : Method} {c : Code} {cells slots : Nat} {Q : State → Prop} {E : ab_E} {sy own : Nat} {b : ByteArray} {A : Nat → Prop} (F : ab_F p s m args c E sy own b A) : ∀ (is : List (ab_O × Nat)) {H : Heap} {locs : List Loc} {u : ab_S} {pc : Nat} {ls : Array Slot} {L L' : List (Option ab_V)} {st st' : List ab_V} {u' : ab_S} {g : List Bool}
    (_ : ab_X E sy A s u H locs) (_ : ab_hl E ls L) (_ : ∀ (j : Nat) (w : ab_V), L[j]? = some (some w) → ab_ok sy w) (_ : ab_oks sy st) (_ : ab_dcs own b pc is = true) (_ : ab_seg own is L st u = some (g, L', st', u')) (_ : g.all id = true)
    (_ : ∀ (H1 : Heap) (locs1 : List Loc) (ls1 : Array Slot), ab_X E sy A s u' H1 locs1 → ab_hl E ls1 L' → L'.length = L.length → (∀ (j : Nat) (w : ab_V), L'[j]? = some (some w) → ab_ok sy w) → ab_oks sy st' → W p l e R s m args below meth c H1 locs1 cells slots Q (F0 m (ab_sl pc is) ls1 (st'.map (ab_vm E)))), W p l e R s m args below meth c H locs cells slots Q (F0 m pc ls (st.map (ab_vm E)))
  | [], H, locs, u, pc, ls, L, L', st, st', u', g, X, hl, hL, hst, hd, h, hg, kk => by
    cases h
    exact kk H locs ls X hl rfl hL hst
  | q :: r, H, locs, u, pc, ls, L, L', st, st', u', g, X, hl, hL, hst, hd, h, hg, kk => by
    simp only [ab_seg] at h
    split at h
    · rename_i g1 L1 st1 u1 h1
      split at h
      · rename_i g2 x h2
        cases h
        rw [List.all_append, Bool.and_eq_true] at hg
        simp only [ab_dcs, Bool.and_eq_true] at hd
        refine ab_stp_ok F X hl hL hst hd.1 h1 hg.1 (fun H1 locs1 ls1 X1 hl1 hn1 hL1 hst1 => ?_)
        exact ab_seg_ok F r X1 hl1 hL1 hst1 hd.2 h2 hg.2 (fun H2 locs2 ls2 X2 hl2 hn2 hL2 hst2 => kk H2 locs2 ls2 X2 hl2 (hn2.trans hn1) hL2 hst2)
      · cases h
    · cases h
-- ===== the judgement =====
def ab_A (E : ab_E) (sy : Nat) : Nat → Prop := fun q => ∃ a, a < (ab_sh sy).length ∧ q = ab_ro E a
def ab_rm (d : Nat) : Room := { frames := d, cells := 0, slots := 0, locals := 64 * d }
def ab_Q {τ : Type} (E : ab_E) (sy : Nat) (w : τ → Option ab_V) (x : τ) (u' : ab_S) : Array Value → State → Outcome → State → Prop := fun _ st o t =>
  o = .returned ((w x).map (ab_vm E)) ∧ va_P (E.1, E.2.1) vwCl (ab_wd E sy u') t.heap ∧ ab_WT sy u' ∧ va_F (ab_A E sy) st t
def wI (x : Int32) : Option ab_V := some (.inl x)
def wJ (x : Int64) : Option ab_V := some (.inr (.inl x))
def wV (_ : Unit) : Option ab_V := none
def ab_G {τ : Type} (sy own : Nat) (b : ByteArray) (rt : Option FieldType) (d pc : Nat) (L : List (Option ab_V)) (st : List ab_V) (u : ab_S) (w : τ → Option ab_V) (r : Option (τ × ab_S)) : Prop :=
  ∀ (x : τ) (u' : ab_S), r = some (x, u') → ∀ (p : Program) (l : Launch) (e : Env) (s : State) (m : MethodId) (args : Array Value) (below : List Frame) (meth : Method) (c : Code) (H : Heap) (locs : List Loc) (ls : Array Slot) (E : ab_E),
    l.flags = flags0 → ab_F p s m args c E sy own b (ab_A E sy) → meth.sig.returnType = rt → meth.locks = false → c.maxLocals = L.length → ab_X E sy (ab_A E sy) s u H locs → ab_hl E ls L → (∀ (j : Nat) (w : ab_V), L[j]? = some (some w) → ab_ok sy w) → ab_oks sy st →
    W p l e (ab_rm d) s m args below meth c H locs 0 0 (MQ below (ab_Q E sy w x u') args s 0 0 (ab_A E sy)) (F0 m pc ls (st.map (ab_vm E)))
section ABG
variable {τ : Type} {sy own : Nat} {b : ByteArray} {rt : Option FieldType} {d pc : Nat} {L : List (Option ab_V)} {st : List ab_V} {u : ab_S} {w : τ → Option ab_V} {r : Option (τ × ab_S)}
theorem g_none : ab_G sy own b rt d pc L st u w (none : Option (τ × ab_S)) := fun _ _ h => by cases h
theorem g_seg {pc' : Nat} {L' : List (Option ab_V)} {st' : List ab_V} {u1 : ab_S} {gs : List Bool} (is : List (ab_O × Nat)) (hd : ab_dcs own b pc is = true) (hp : ab_sl pc is = pc') (hr : ab_seg own is L st u = some (gs, L', st', u1)) (k : ab_G sy own b rt d pc' L' st' u1 w r) : ab_G sy own b rt d pc L st u w (ab_gd gs r) := by
  intro x u' hx p l e s m args below meth c H locs ls E hfl F hret hlk hml X hl hL hst
  obtain ⟨h1, h2⟩ := ab_gd_some hx
  refine ab_seg_ok F is X hl hL hst hd hr h1 (fun H1 locs1 ls1 X1 hl1 hn1 hL1 hst1 => ?_)
  rw [hp]
  exact k x u' h2 p l e s m args below meth c H1 locs1 ls1 E hfl F hret hlk (by rw [hn1]; exact hml) X1 hl1 hL1 hst1
theorem g_seg0 {pc' : Nat} {L' : List (Option ab_V)} {st' : List ab_V} {u1 : ab_S} (is : List (ab_O × Nat)) (hd : ab_dcs own b pc is = true) (hp : ab_sl pc is = pc') (hr : ab_seg own is L st u = some ([], L', st', u1)) (k : ab_G sy own b rt d pc' L' st' u1 w r) : ab_G sy own b rt d pc L st u w r :=
  g_seg is hd hp hr k
theorem g_weak {L' : List (Option ab_V)} (hn : L'.length = L.length) (hw : ∀ (i : Nat) (v : ab_V), L'[i]? = some (some v) → L[i]? = some (some v)) (k : ab_G sy own b rt d pc L' st u w r) : ab_G sy own b rt d pc L st u w r := by
  intro x u' hx p l e s m args below meth c H locs ls E hfl F hret hlk hml X hl hL hst
  exact k x u' hx p l e s m args below meth c H locs ls E hfl F hret hlk (by rw [hn]; exact hml) X (hl.weak hn hw) (fun j v h => hL j v (hw j v h)) hst
theorem g_goto {off : Int} {tgt : Nat} (hd : decode b pc = .ok (.goto off, 3)) (ht : (pc : Int) + off = (tgt : Int)) (k : ab_G sy own b rt d tgt L st u w r) : ab_G sy own b rt d pc L st u w r := by
  intro x u' hx p l e s m args below meth c H locs ls E hfl F hret hlk hml X hl hL hst
  exact lv_goto F.1 F.2.1 hd ht (k x u' hx p l e s m args below meth c H locs ls E hfl F hret hlk hml X hl hL hst)
theorem g_ifnull {off : Int} {pc2 : Nat} {q : ab_T × Nat} (hd : decode b pc = .ok (.ifnull off, 3)) (hp : pc + 3 = pc2) (k : ab_G sy own b rt d pc2 L st u w r) : ab_G sy own b rt d pc L (.inr (.inr q) :: st) u w r := by
  intro x u' hx p l e s m args below meth c H locs ls E hfl F hret hlk hml X hl hL hst
  subst hp
  exact lv_ifnull F.1 F.2.1 hd (k x u' hx p l e s m args below meth c H locs ls E hfl F hret hlk hml X hl hL hst.tl)
theorem g_ifnonnull {off : Int} {tgt : Nat} {q : ab_T × Nat} (hd : decode b pc = .ok (.ifnonnull off, 3)) (ht : (pc : Int) + off = (tgt : Int)) (k : ab_G sy own b rt d tgt L st u w r) : ab_G sy own b rt d pc L (.inr (.inr q) :: st) u w r := by
  intro x u' hx p l e s m args below meth c H locs ls E hfl F hret hlk hml X hl hL hst
  exact lv_ifnonnull F.1 F.2.1 hd ht (k x u' hx p l e s m args below meth c H locs ls E hfl F hret hlk hml X hl hL hst.tl)
theorem ab_cnd {α : Type} {P : Prop} [Decidable P] {r1 r2 : Option α} {x : α} (h : (bif decide P then r1 else r2) = some x) : (P → r1 = some x) ∧ (¬ P → r2 = some x) := by
  by_cases q : P
  · simp [q] at h; exact ⟨fun _ => h, fun z => absurd q z⟩
  · simp [q] at h; exact ⟨fun z => absurd z q, fun _ => h⟩
theorem g_iret {v : Int32} (hd : decode b pc = .ok (.ireturn, 1)) (hr : rt = some .int) : ab_G sy own b rt d pc L [.inl v] u wI (some (v, u)) := by
  intro x u' hx p l e s m args below meth c H locs ls E hfl F hret hlk hml X hl hL hst
  cases hx
  exact W.iret F.1 F.2.1 (by rw [hret, hr]) (fun t ht _ => ⟨rfl, by rw [ht]; exact X.1, X.2.2.2, X.2.2.1.F ht⟩) X.2.2.1.2.2 hd hlk
theorem g_zret {v : Int32} (hd : decode b pc = .ok (.ireturn, 1)) (hr : rt = some .boolean) : ab_G sy own b rt d pc L [.inl v] u wI (ab_gd [ab_b1 v] (some (v, u))) := by
  intro x u' hx p l e s m args below meth c H locs ls E hfl F hret hlk hml X hl hL hst
  obtain ⟨h1, hx⟩ := ab_gd_some hx
  cases hx
  have h2 : v = 0 ∨ v = 1 := by simpa [ab_b1] using h1
  exact W.zret (ty := .boolean) F.1 F.2.1 (by rw [hret, hr]) (by rcases h2 with rfl | rfl <;> rfl) (fun t ht _ => ⟨rfl, by rw [ht]; exact X.1, X.2.2.2, X.2.2.1.F ht⟩) X.2.2.1.2.2 hd hlk
theorem ab_c1_nar {v : Int32} (h : ab_c1 v = true) : narrow .char (.int v) = .int v := by
  have h1 := ab_c1_eq h
  unfold vp_nar at h1
  cases hq : narrow .char (.int v) with
  | int y => rw [hq] at h1; exact congrArg Value.int h1
  | _ => simp [narrow] at hq
theorem g_cret {v : Int32} (hd : decode b pc = .ok (.ireturn, 1)) (hr : rt = some .char) : ab_G sy own b rt d pc L [.inl v] u wI (ab_gd [ab_c1 v] (some (v, u))) := by
  intro x u' hx p l e s m args below meth c H locs ls E hfl F hret hlk hml X hl hL hst
  obtain ⟨h1, hx⟩ := ab_gd_some hx
  cases hx
  exact W.zret (ty := .char) F.1 F.2.1 (by rw [hret, hr]) (ab_c1_nar (by simpa using h1)) (fun t ht _ => ⟨rfl, by rw [ht]; exact X.1, X.2.2.2, X.2.2.1.F ht⟩) X.2.2.1.2.2 hd hlk
theorem g_lret {v : Int64} (hd : decode b pc = .ok (.lreturn, 1)) (hr : rt = some .long) : ab_G sy own b rt d pc L [.inr (.inl v)] u wJ (some (v, u)) := by
  intro x u' hx p l e s m args below meth c H locs ls E hfl F hret hlk hml X hl hL hst
  cases hx
  exact W.lret F.1 F.2.1 (by rw [hret, hr]) (fun t ht _ => ⟨rfl, by rw [ht]; exact X.1, X.2.2.2, X.2.2.1.F ht⟩) X.2.2.1.2.2 hd hlk
theorem g_vret (hd : decode b pc = .ok (.return_, 1)) (hr : rt = none) : ab_G sy own b rt d pc L [] u wV (some ((), u)) := by
  intro x u' hx p l e s m args below meth c H locs ls E hfl F hret hlk hml X hl hL hst
  cases hx
  exact W.vret F.1 F.2.1 (by rw [hret, hr]) (fun t ht _ => ⟨rfl, by rw [ht]; exact X.1, X.2.2.2, X.2.2.1.F ht⟩) X.2.2.1.2.2 hd hlk
end ABG
