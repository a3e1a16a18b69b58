/-! the law's method: its rows over the two pools, the script and the row 'out' -/
abbrev lw_A (s : State) : Nat → Prop := fun q => s.heap.size ≤ q
def lw_Em (E : ab_E) (rm : Nat → Nat) : ab_E := (E.1, (E.2.1, (E.2.2.1, (rm, E.2.2.2.2))))
def lw_dj (E : ab_E) (rm : Nat → Nat) (s : State) : Prop := (∀ a a', a < (ab_sh 0).length → a' < (ab_sh 1).length → ab_ro E a ≠ rm a') ∧ (∀ a, a < (ab_sh 0).length → ab_ro E a ≠ ab_sa E 24 0) ∧ (∀ a, a < (ab_sh 1).length → rm a ≠ ab_sa E 24 0) ∧ s.heap.size ≤ ab_sa E 24 0
def lw_cx (p : Program) (l : Launch) (s : State) (m : MethodId) (meth : Method) (c : Code) (b Lx : Nat) (xs : Nat → Int32) (E : ab_E) (rm : Nat → Nat) : Prop :=
  lw_At p s m meth c b Lx xs ∧ l.flags = flags0 ∧ ab_F p s m #[Value.ref b] c E 0 10 code (lw_A s) ∧ ab_sa E 23 0 = b ∧ ab_sa E 22 0 = rm 0 ∧ lw_dj E rm s ∧ Lx ≤ 3584
def lw_O (E : ab_E) (ov : Int64) (H : Heap) : Prop := H[ab_sa E 24 0]? = some (vp_cell (ab_cA E 1) (1, .inr (.inl (fun _ => ov))))
def lw_M (E : ab_E) (rm : Nat → Nat) (s : State) (v : ab_S) (H : Heap) : Prop := va_P (E.1, E.2.1) vwCl (ab_wd (lw_Em E rm) 1 v) H ∧ va_D (lw_A s) (ab_wd (lw_Em E rm) 1 v)
def LG (p : Program) (l : Launch) (e : Env) (s : State) (m : MethodId) (below : List Frame) (meth : Method) (c : Code) (b : Nat) (E : ab_E) (rm : Nat → Nat) (kc ks pc : Nat) (L : List (Option ab_V)) (st : List ab_V) (u v : ab_S) (ov : Int64) : Prop :=
  ∀ (H : Heap) (locs : List Loc) (ls : Array Slot), ab_X E 0 (lw_A s) s u H locs → lw_M E rm s v H → lw_O E ov H → ab_hl E ls L → (∀ (j : Nat) (w : ab_V), L[j]? = some (some w) → ab_ok 0 w) → ab_oks 0 st → L.length = 7 →
    W p l e room_1 s m #[Value.ref b] below meth c H locs kc ks (lw_Z below #[Value.ref b] s) (F0 m pc ls (st.map (ab_vm E)))
theorem ab_SF.narrow {E : ab_E} {A B : Nat → Prop} {s : State} {H : Heap} (h : ab_SF E A s H) (hAB : ∀ q, B q → A q) : ab_SF E B s H := by
  obtain ⟨f1, f2, f3, f4, f5, f6⟩ := h
  exact ⟨fun i hi => ⟨(f1 i hi).1.narrow hAB, (f1 i hi).2.1.narrow hAB, (f1 i hi).2.2.narrow hAB⟩, f2.narrow hAB, f3.narrow hAB, f4.narrow hAB, f5, f6.narrow hAB⟩
theorem ab_D_in {E : ab_E} {sy : Nat} {A : Nat → Prop} {u : ab_S} (h : va_D A (ab_wd E sy u)) : ∀ q, ab_A E sy q → A q := by
  rintro q ⟨a, ha, rfl⟩
  obtain ⟨t, ht⟩ : ∃ t, (ab_sh sy)[a]? = some t := ⟨_, List.getElem?_eq_getElem ha⟩
  exact h.2 a _ (ab_wd_at E ht)
theorem ab_D_self {E : ab_E} {sy : Nat} {A : Nat → Prop} {u : ab_S} (h : va_D A (ab_wd E sy u)) : va_D (ab_A E sy) (ab_wd E sy u) := by
  refine ⟨h.1, fun k q hk => ?_⟩
  have hl : k < (ab_sh sy).length := by
    have := (List.getElem?_eq_some_iff.mp hk).1
    simpa [ab_wd] using this
  obtain ⟨t, ht⟩ : ∃ t, (ab_sh sy)[k]? = some t := ⟨_, List.getElem?_eq_getElem hl⟩
  rw [ab_wd_at E ht] at hk
  cases hk
  exact ⟨k, hl, rfl⟩
theorem ab_P_kept {E : ab_E} {sy : Nat} {u : ab_S} {D : va_G} {H H1 : Heap} (h : va_P D vwCl (ab_wd E sy u) H) (hq : ∀ a, a < (ab_sh sy).length → H1[ab_ro E a]? = H[ab_ro E a]?) : va_P D vwCl (ab_wd E sy u) H1 := by
  refine h.kept (fun k q hk => ?_)
  have hl : k < (ab_sh sy).length := by
    have := (List.getElem?_eq_some_iff.mp hk).1
    simpa [ab_wd] using this
  obtain ⟨t, ht⟩ : ∃ t, (ab_sh sy)[k]? = some t := ⟨_, List.getElem?_eq_getElem hl⟩
  rw [ab_wd_at E ht] at hk
  cases hk
  exact hq k hl
def lw_ev (o : ab_O) (L : List (Option ab_V)) (st : List ab_V) : Option (List (Option ab_V) × List ab_V) := match o with
  | .inr (.inl (.inl x)) => some (L, .inl x :: st)
  | .inr (.inl (.inr x)) => some (L, .inr (.inl x) :: st)
  | .inr (.inr (i, z)) => match L[i]? with
    | some (some (.inl x)) => some (ab_st1 L i (.inl (x + z)), st)
    | _ => none
  | .inl (.inr (c, n)) => match ab_stl c n L st with
    | some (L', st') => some (L', st')
    | none => none
  | .inl (.inl i) => match i, st with
    | .iadd, .inl y :: .inl x :: r => some (L, vI (x + y) :: r)
    | .isub, .inl y :: .inl x :: r => some (L, vI (x - y) :: r)
    | .iand, .inl y :: .inl x :: r => some (L, vI (x &&& y) :: r)
    | .i2l, .inl x :: r => some (L, vL x.toInt64 :: r)
    | .lshl, .inl y :: .inr (.inl x) :: r => some (L, vL (x <<< (y.toInt64 &&& 63)) :: r)
    | .land, .inr (.inl y) :: .inr (.inl x) :: r => some (L, vL (x &&& y) :: r)
    | .lor, .inr (.inl y) :: .inr (.inl x) :: r => some (L, vL (x ||| y) :: r)
    | .lcmp, .inr (.inl y) :: .inr (.inl x) :: r => some (L, vI (lg_cmp x y) :: r)
    | _, _ => none
theorem lw_ev_ok {p : Program} {l : Launch} {e : Env} {R : Room} {s : State} {m : MethodId} {args : Array Value} {below : List Frame} {meth : Method} {c : Code} {H : Heap} {locs : List Loc} {cells slots : Nat} {Q : State → Prop} {E : ab_E} {sy own : Nat} {b : ByteArray} {A : Nat → Prop} {pc : Nat} {ls : Array Slot}
    {o : ab_O} {n : Nat} {L L' : List (Option ab_V)} {st st' : List ab_V} (F : ab_F p s m args c E sy own b A) (hl : ab_hl E ls L) (hL : ∀ (j : Nat) (w : ab_V), L[j]? = some (some w) → ab_ok sy w) (hst : ab_oks sy st) (hd : ab_dc own b pc o n = true) (h : lw_ev o L st = some (L', st'))
    (kk : ∀ (ls1 : Array Slot), ab_hl E ls1 L' → L'.length = L.length → (∀ (j : Nat) (w : ab_V), L'[j]? = some (some w) → ab_ok sy w) → ab_oks sy st' → W p l e R s m args below meth c H locs cells slots Q (F0 m (pc + n) ls1 (st'.map (ab_vm E)))) : W p l e R s m args below meth c H locs cells slots Q (F0 m pc ls (st.map (ab_vm E))) := by
  obtain ⟨i, hdec, hn, hm⟩ := ab_dc_ok hd
  obtain ⟨hx, hb, hown, hts, hNW, hK, hSF, ho, hs⟩ := id F
  rcases o with (j | ⟨k, x⟩) | ((x | x) | ⟨k, z⟩)
  · -- a plain one
    have hij : i = j := by simpa [ab_om] using hm
    subst hij
    subst hn
    simp only [lw_ev] at h
    split at h
    · cases h; exact lv_iadd hx hb hdec (kk ls hl rfl hL (hst.tl.tl.cons trivial))
    · cases h; exact lv_isub hx hb hdec (kk ls hl rfl hL (hst.tl.tl.cons trivial))
    · cases h; exact lv_iand hx hb hdec (kk ls hl rfl hL (hst.tl.tl.cons trivial))
    · cases h; exact lv_i2l hx hb hdec rfl (kk ls hl rfl hL (hst.tl.cons trivial))
    · cases h; exact lv_lshl hx hb hdec rfl (kk ls hl rfl hL (hst.tl.tl.cons trivial))
    · cases h; exact lv_land hx hb hdec (kk ls hl rfl hL (hst.tl.tl.cons trivial))
    · cases h; exact lv_lor hx hb hdec (kk ls hl rfl hL (hst.tl.tl.cons trivial))
    · cases h; exact W.lcmp hx hb hdec (kk ls hl rfl hL (hst.tl.tl.cons trivial))
    · cases h
  · -- a place
    simp only [lw_ev] at h
    split at h
    · rename_i L0 st0 hq
      cases h
      simp only [ab_om] at hm
      subst hn
      unfold ab_stl at hq
      split at hq
      · split at hq
        · rename_i y hy
          cases hq
          have hat := hl.at hy
          cases i with
          | iload k => have e1 : k = x := by simpa [ab_ol] using hm
                       subst e1
                       exact lv_iload hx hb hdec hat (kk ls hl rfl hL (hst.cons trivial))
          | iload_n k => have e1 : k.val = x := by simpa [ab_ol] using hm
                         exact lv_iload_n hx hb hdec e1 hat (kk ls hl rfl hL (hst.cons trivial))
          | _ => simp [ab_ol] at hm
        · cases hq
      · split at hq
        · rename_i y hy
          cases hq
          have hat := hl.at hy
          cases i with
          | lload k => have e1 : k = x := by simpa [ab_ol] using hm
                       subst e1
                       exact lv_lload hx hb hdec hat (kk ls hl rfl hL (hst.cons trivial))
          | lload_n k => have e1 : k.val = x := by simpa [ab_ol] using hm
                         exact lv_lload_n hx hb hdec e1 hat (kk ls hl rfl hL (hst.cons trivial))
          | _ => simp [ab_ol] at hm
        · cases hq
      · split at hq
        · rename_i y hy
          cases hq
          have hat := hl.at hy
          cases i with
          | aload k => have e1 : k = x := by simpa [ab_ol] using hm
                       subst e1
                       exact lv_aload hx hb hdec hat (kk ls hl rfl hL (hst.cons (hL _ _ hy)))
          | aload_n k => have e1 : k.val = x := by simpa [ab_ol] using hm
                         exact lv_aload_n hx hb hdec e1 hat (kk ls hl rfl hL (hst.cons (hL _ _ hy)))
          | _ => simp [ab_ol] at hm
        · cases hq
      · split at hq
        · rename_i y r
          cases hc : Nat.blt x L.length with
          | false => rw [hc] at hq; cases hq
          | true =>
            rw [hc] at hq
            cases hq
            have hlt : x < L.length := Nat.le_of_ble_eq_true hc
            cases i with
            | istore k => have e1 : k = x := by simpa [ab_ol] using hm
                          subst e1
                          exact lv_istore hx hb hdec hl hlt rfl (fun ls1 h1 => kk ls1 (ab_hl.st1 h1) (ab_st1_len _ _ _) (ab_ok_st1 hL trivial) hst.tl)
            | istore_n k => have e1 : k.val = x := by simpa [ab_ol] using hm
                            exact lv_istore_n hx hb hdec e1 hl hlt rfl (fun ls1 h1 => kk ls1 (ab_hl.st1 h1) (ab_st1_len _ _ _) (ab_ok_st1 hL trivial) hst.tl)
            | _ => simp [ab_ol] at hm
        · cases hq
      · split at hq
        · rename_i y r
          cases hc : Nat.blt (x + 1) L.length with
          | false => rw [hc] at hq; cases hq
          | true =>
            rw [hc] at hq
            cases hq
            have hlt : x + 1 < L.length := Nat.le_of_ble_eq_true hc
            cases i with
            | lstore k => have e1 : k = x := by simpa [ab_ol] using hm
                          subst e1
                          exact lv_lstore hx hb hdec hl hlt rfl (fun ls1 h1 => kk ls1 (ab_hl.st2 h1) (ab_st2_len _ _ _) (ab_ok_st2 hL trivial) hst.tl)
            | lstore_n k => have e1 : k.val = x := by simpa [ab_ol] using hm
                            exact lv_lstore_n hx hb hdec e1 hl hlt rfl (fun ls1 h1 => kk ls1 (ab_hl.st2 h1) (ab_st2_len _ _ _) (ab_ok_st2 hL trivial) hst.tl)
            | _ => simp [ab_ol] at hm
        · cases hq
      · split at hq
        · rename_i y r
          cases hc : Nat.blt x L.length with
          | false => rw [hc] at hq; cases hq
          | true =>
            rw [hc] at hq
            cases hq
            have hlt : x < L.length := Nat.le_of_ble_eq_true hc
            cases i with
            | astore k => have e1 : k = x := by simpa [ab_ol] using hm
                          subst e1
                          exact lv_astore hx hb hdec hl hlt rfl (fun ls1 h1 => kk ls1 (ab_hl.st1 h1) (ab_st1_len _ _ _) (ab_ok_st1 hL hst.hd) hst.tl)
            | astore_n k => have e1 : k.val = x := by simpa [ab_ol] using hm
                            exact lv_astore_n hx hb hdec e1 hl hlt rfl (fun ls1 h1 => kk ls1 (ab_hl.st1 h1) (ab_st1_len _ _ _) (ab_ok_st1 hL hst.hd) hst.tl)
            | _ => simp [ab_ol] at hm
        · cases hq
      · cases hq
    · cases h
  · -- a number
    simp only [lw_ev] at h
    cases h
    simp only [ab_om] at hm
    subst hn
    have k1 := kk ls hl rfl hL (hst.cons trivial)
    cases i with
    | iconst v => have e1 : Int32.ofInt v = x := by simpa [ab_oc] using hm
                  exact lv_iconst hx hb hdec e1 k1
    | bipush v => have e1 : (Int8.ofInt v).toInt32 = x := by simpa [ab_oc] using hm
                  exact lv_bipush hx hb hdec e1 k1
    | sipush v => have e1 : (Int16.ofInt v).toInt32 = x := by simpa [ab_oc] using hm
                  exact lv_sipush hx hb hdec e1 k1
    | ldc k =>
      have e1 : (ab_lk own k).1 = 2 ∧ Int32.ofInt (ab_lk own k).2.2.2 = x := by simpa [ab_oc] using hm
      obtain ⟨w1, w2, -⟩ := ab_lk_ok (k := k) ho (by omega)
      unfold ab_lkw at w1 w2
      rw [e1.1] at w1 w2
      simp only [ab_isNest] at w2
      have w3 : _ ∈ ab_W0 := List.mem_filter.mpr ⟨w1, by rcases w2 with w2 | w2 | w2 <;> first | exact w2 | cases w2⟩
      rw [e1.2] at w3
      exact lv_ldc hx hb hown (hts _ w3) hdec k1
    | ldc_w k =>
      have e1 : (ab_lk own k).1 = 2 ∧ Int32.ofInt (ab_lk own k).2.2.2 = x := by simpa [ab_oc] using hm
      obtain ⟨w1, w2, -⟩ := ab_lk_ok (k := k) ho (by omega)
      unfold ab_lkw at w1 w2
      rw [e1.1] at w1 w2
      simp only [ab_isNest] at w2
      have w3 : _ ∈ ab_W0 := List.mem_filter.mpr ⟨w1, by rcases w2 with w2 | w2 | w2 <;> first | exact w2 | cases w2⟩
      rw [e1.2] at w3
      exact lv_ldcw hx hb hown (hts _ w3) hdec k1
    | _ => simp [ab_oc] at hm
  · -- a long number
    simp only [lw_ev] at h
    cases h
    simp only [ab_om] at hm
    subst hn
    have k1 := kk ls hl rfl hL (hst.cons trivial)
    cases i with
    | lconst v => have e1 : Int64.ofNat v = x := by simpa [ab_od] using hm
                  exact lv_lconst hx hb hdec e1 k1
    | ldc2_w k =>
      have e1 : (ab_lk own k).1 = 3 ∧ Int64.ofInt (ab_lk own k).2.2.2 = x := by simpa [ab_od] using hm
      obtain ⟨w1, w2, -⟩ := ab_lk_ok (k := k) ho (by omega)
      unfold ab_lkw at w1 w2
      rw [e1.1] at w1 w2
      simp only [ab_isNest] at w2
      have w3 : _ ∈ ab_W0 := List.mem_filter.mpr ⟨w1, by rcases w2 with w2 | w2 | w2 <;> first | exact w2 | cases w2⟩
      rw [e1.2] at w3
      exact lv_ldc2 hx hb hown (hts _ w3) hdec k1
    | _ => simp [ab_od] at hm
  · -- iinc
    simp only [lw_ev] at h
    split at h
    · rename_i y hy
      cases h
      simp only [ab_om] at hm
      subst hn
      cases i with
      | iinc k1 z1 =>
        have e1 : k1 = k ∧ Int32.ofInt z1 = z := by simpa [ab_on] using hm
        obtain ⟨e1, e2⟩ := e1
        subst e1
        obtain ⟨k2, hk2⟩ := List.getElem?_of_mem (ab_al_mem.mpr ⟨k1, _, hy, rfl⟩ : ((0 + k1, ab_vm E (.inl y)) : Nat × Value) ∈ ab_al E L 0)
        rw [Nat.zero_add] at hk2
        have hlt : k1 < L.length := (List.getElem?_eq_some_iff.mp hy).1
        exact lv_iinc hx hb hdec hl hk2 (by rw [e2]) hlt rfl (fun ls1 h1 => kk ls1 (ab_hl.st1 h1) (ab_st1_len _ _ _) (ab_ok_st1 hL trivial) hst)
      | _ => simp [ab_on] at hm
    · cases h
def lw_es : List (ab_O × Nat) → List (Option ab_V) → List ab_V → Option (List (Option ab_V) × List ab_V)
  | [], L, st => some (L, st)
  | q :: r, L, st => match lw_ev q.1 L st with
    | some (L', st') => lw_es r L' st'
    | none => none
theorem lw_es_ok {p : Program} {l : Launch} {e : Env} {R : Room} {s : State} {m : MethodId} {args : Array Value} {below : List Frame} {meth : Method} {c : Code} {H : Heap} {locs : List Loc} {cells slots : Nat} {Q : State → Prop} {E : ab_E} {sy own : Nat} {b : ByteArray} {A : Nat → Prop} (F : ab_F p s m args c E sy own b A) : ∀ (is : List (ab_O × Nat)) {pc : Nat} {ls : Array Slot} {L L' : List (Option ab_V)} {st st' : List ab_V}
    (_ : ab_hl E ls L) (_ : ∀ (j : Nat) (w : ab_V), L[j]? = some (some w) → ab_ok sy w) (_ : ab_oks sy st) (_ : ab_dcs own b pc is = true) (_ : lw_es is L st = some (L', st'))
    (_ : ∀ (ls1 : Array Slot), ab_hl E ls1 L' → L'.length = L.length → (∀ (j : Nat) (w : ab_V), L'[j]? = some (some w) → ab_ok sy w) → ab_oks sy st' → W p l e R s m args below meth c H locs cells slots Q (F0 m (ab_sl pc is) ls1 (st'.map (ab_vm E)))), W p l e R s m args below meth c H locs cells slots Q (F0 m pc ls (st.map (ab_vm E)))
  | [], pc, ls, L, L', st, st', hl, hL, hst, hd, h, kk => by
    cases h
    exact kk ls hl rfl hL hst
  | q :: r, pc, ls, L, L', st, st', hl, hL, hst, hd, h, kk => by
    simp only [lw_es] at h
    split at h
    · rename_i L1 st1 h1
      simp only [ab_dcs, Bool.and_eq_true] at hd
      refine lw_ev_ok F hl hL hst hd.1 h1 (fun ls1 hl1 hn1 hL1 hst1 => ?_)
      exact lw_es_ok F r hl1 hL1 hst1 hd.2 h (fun ls2 hl2 hn2 hL2 hst2 => kk ls2 hl2 (hn2.trans hn1) hL2 hst2)
    · cases h
section LWR
variable {p : Program} {l : Launch} {e : Env} {s : State} {m : MethodId} {below : List Frame} {meth : Method} {c : Code} {b Lx : Nat} {xs : Nat → Int32} {E : ab_E} {rm : Nat → Nat} {kc ks pc pc2 : Nat} {L : List (Option ab_V)} {st : List ab_V} {u v : ab_S} {ov : Int64}
theorem lw_seg {pc' : Nat} {L' : List (Option ab_V)} {st' : List ab_V} (C : lw_cx p l s m meth c b Lx xs E rm) (is : List (ab_O × Nat)) (hd : ab_dcs 10 code pc is = true) (hp : ab_sl pc is = pc') (hr : lw_es is L st = some (L', st')) (k : LG p l e s m below meth c b E rm kc ks pc' L' st' u v ov) : LG p l e s m below meth c b E rm kc ks pc L st u v ov := by
  intro H locs ls X hM hO hl hL hst hn
  obtain ⟨C0, hfl, F, -⟩ := C
  refine lw_es_ok F is hl hL hst hd hr (fun ls1 hl1 hn1 hL1 hst1 => ?_)
  rw [hp]
  exact k H locs ls1 X hM hO hl1 hL1 hst1 (by rw [hn1]; exact hn)
theorem lw_rd {i : Int32} (C : lw_cx p l s m meth c b Lx xs E rm) (hd : decode code pc = .ok (.iaload, 1)) (hp : pc + 1 = pc2) (hi : ab_ix i Lx = true) (k : LG p l e s m below meth c b E rm kc ks pc2 L (vI (xs (nc i)) :: st) u v ov) : LG p l e s m below meth c b E rm kc ks pc L (vI i :: vR (kO 23) 0 :: st) u v ov := by
  intro H locs ls X hM hO hl hL hst hn
  subst hp
  obtain ⟨C0, hfl, F, hsb, -⟩ := C
  obtain ⟨hex, hb, -, -, -, -, hX, hbl, -⟩ := C0
  show W p l e room_1 s m #[Value.ref b] below meth c H locs kc ks _ (F0 m pc ls (.int i :: .ref (ab_sa E 23 0) :: st.map (ab_vm E)))
  rw [hsb]
  exact va_sld hex hb hX hbl (Nat.not_le.mpr hbl) X.2.2.1 (ab_ix_in hi) hd (k H locs ls X hM hO hl hL (hst.tl.tl.cons trivial) hn)
theorem lw_len (C : lw_cx p l s m meth c b Lx xs E rm) (hd : decode code pc = .ok (.arraylength, 1)) (hp : pc + 1 = pc2) (k : LG p l e s m below meth c b E rm kc ks pc2 L (vI (Int32.ofNat Lx) :: st) u v ov) : LG p l e s m below meth c b E rm kc ks pc L (vR (kO 23) 0 :: st) u v ov := by
  intro H locs ls X hM hO hl hL hst hn
  subst hp
  obtain ⟨C0, hfl, F, hsb, -⟩ := C
  obtain ⟨hex, hb, -, -, -, -, hX, hbl, -⟩ := C0
  show W p l e room_1 s m #[Value.ref b] below meth c H locs kc ks _ (F0 m pc ls (.ref (ab_sa E 23 0) :: st.map (ab_vm E)))
  rw [hsb]
  exact va_slen hex hb hX hbl (Nat.not_le.mpr hbl) X.2.2.1 hd (k H locs ls X hM hO hl hL (hst.tl.cons trivial) hn)
theorem lw_eq {x : Int32} {off : Int} {tgt : Nat} (C : lw_cx p l s m meth c b Lx xs E rm) (hd : decode code pc = .ok (.if_icmp .eq off, 3)) (ht : (pc : Int) + off = (tgt : Int)) (k : LG p l e s m below meth c b E rm kc ks tgt L st u v ov) : LG p l e s m below meth c b E rm kc ks pc L (vI x :: vI x :: st) u v ov := by
  intro H locs ls X hM hO hl hL hst hn
  obtain ⟨C0, -⟩ := C
  obtain ⟨hex, hb, -⟩ := C0
  exact lv_icmp_eq hex hb hd ht (fun _ => k H locs ls X hM hO hl hL hst.tl.tl hn) (fun h => absurd rfl h)
theorem lw_goto {off : Int} {tgt : Nat} (C : lw_cx p l s m meth c b Lx xs E rm) (hd : decode code pc = .ok (.goto off, 3)) (ht : (pc : Int) + off = (tgt : Int)) (k : LG p l e s m below meth c b E rm kc ks tgt L st u v ov) : LG p l e s m below meth c b E rm kc ks pc L st u v ov := by
  intro H locs ls X hM hO hl hL hst hn
  obtain ⟨C0, -⟩ := C
  exact lv_goto C0.1 C0.2.1 hd ht (k H locs ls X hM hO hl hL hst hn)
theorem lw_zeq {x : Int32} {off : Int} {tgt : Nat} (C : lw_cx p l s m meth c b Lx xs E rm) (hd : decode code pc = .ok (.ifCond .eq off, 3)) (ht : (pc : Int) + off = (tgt : Int)) (hp : pc + 3 = pc2) (k1 : x = 0 → LG p l e s m below meth c b E rm kc ks tgt L st u v ov) (k2 : ¬ x = 0 → LG p l e s m below meth c b E rm kc ks pc2 L st u v ov) : LG p l e s m below meth c b E rm kc ks pc L (vI x :: st) u v ov := by
  intro H locs ls X hM hO hl hL hst hn
  subst hp
  obtain ⟨C0, -⟩ := C
  exact lv_if_eq C0.1 C0.2.1 hd ht (fun h => k1 h H locs ls X hM hO hl hL hst.tl hn) (fun h => k2 h H locs ls X hM hO hl hL hst.tl hn)
theorem lw_zne {x : Int32} {off : Int} {tgt : Nat} (C : lw_cx p l s m meth c b Lx xs E rm) (hd : decode code pc = .ok (.ifCond .ne off, 3)) (ht : (pc : Int) + off = (tgt : Int)) (hp : pc + 3 = pc2) (k1 : ¬ x = 0 → LG p l e s m below meth c b E rm kc ks tgt L st u v ov) (k2 : x = 0 → LG p l e s m below meth c b E rm kc ks pc2 L st u v ov) : LG p l e s m below meth c b E rm kc ks pc L (vI x :: st) u v ov := by
  intro H locs ls X hM hO hl hL hst hn
  subst hp
  obtain ⟨C0, -⟩ := C
  exact lv_if_ne C0.1 C0.2.1 hd ht (fun h => k1 h H locs ls X hM hO hl hL hst.tl hn) (fun h => k2 h H locs ls X hM hO hl hL hst.tl hn)
theorem lw_igt {x y : Int32} {off : Int} {tgt : Nat} (C : lw_cx p l s m meth c b Lx xs E rm) (hd : decode code pc = .ok (.if_icmp .gt off, 3)) (ht : (pc : Int) + off = (tgt : Int)) (hp : pc + 3 = pc2) (k1 : y < x → LG p l e s m below meth c b E rm kc ks tgt L st u v ov) (k2 : ¬ y < x → LG p l e s m below meth c b E rm kc ks pc2 L st u v ov) : LG p l e s m below meth c b E rm kc ks pc L (vI y :: vI x :: st) u v ov := by
  intro H locs ls X hM hO hl hL hst hn
  subst hp
  obtain ⟨C0, -⟩ := C
  exact lv_icmp_gt C0.1 C0.2.1 hd ht (fun h => k1 h H locs ls X hM hO hl hL hst.tl.tl hn) (fun h => k2 h H locs ls X hM hO hl hL hst.tl.tl hn)
theorem lw_widen {kc2 ks2 : Nat} (h1 : kc ≤ kc2) (h2 : ks ≤ ks2) (k : LG p l e s m below meth c b E rm kc2 ks2 pc L st u v ov) : LG p l e s m below meth c b E rm kc ks pc L st u v ov := fun H locs ls X hM hO hl hL hst hn => W.widen h1 h2 (k H locs ls X hM hO hl hL hst hn)
theorem lw_true (C : lw_cx p l s m meth c b Lx xs E rm) (hd : decode code pc = .ok (.ireturn, 1)) (h1 : kc ≤ 601024) (h2 : ks ≤ 7293034) : LG p l e s m below meth c b E rm kc ks pc L [vI 1] u v ov := by
  intro H locs ls X hM hO hl hL hst hn
  obtain ⟨C0, -⟩ := C
  obtain ⟨hex, hb, hr, -, -, -, -, -, hlocks, -⟩ := C0
  refine va_forget (fun q hq => X.2.2.1.2.2 q hq) ?_
  refine W.widen h1 h2 ?_
  exact lw_ret hex hb hr hlocks hd
/-- a call upon the class's object -/
theorem lw_callC {τ' : Type} {w' : τ' → Option ab_V} {y : MethodName} {b' : ByteArray} {nL' : Nat} {rt' : Option FieldType} {d' k : Nat} {bs : List ab_V} {u' : ab_S} {z : τ'} {r0 : Option (τ' × ab_S)} {st0 : List ab_V} (C : lw_cx p l s m meth c b Lx xs E rm) (hM0 : ab_C 0 y b' nL' rt' d' (vR (kO 8) 0 :: bs) u w' r0) (hr0 : r0 = some (z, u')) (hI : ab_mI y b' nL' rt' bs.length) (hV : ab_mV y) (hci : ab_cn 8 = y.cls) (hlp : ab_lp 10 k y) (hw : ab_wok w') (hd : decode code pc = .ok (.invokevirtual k, 3)) (hst0 : st0 = bs.reverse ++ vR (kO 8) 0 :: st) (hcat : (st.map ab_cat).sum ≤ 8) (hdep : d' ≤ 1000) (hp : pc + 3 = pc2)
    (kk : LG p l e s m below meth c b E rm kc ks pc2 L ((w' z).toList ++ st) u' v ov) (hcap : kc ≤ 601024 ∧ ks ≤ 7293034) : LG p l e s m below meth c b E rm kc ks pc L st0 u v ov := by
  intro H locs ls X hM hO hl hL hok hn
  subst hp
  subst hst0
  obtain ⟨C0, hfl, F, hsb, hsm, hdj, hLx⟩ := C
  obtain ⟨hex, hb, hown, hts, hNW, hK, hSF, ho, hs⟩ := id F
  have hoka : ab_oks 0 (vR (kO 8) 0 :: bs) := fun v hv => hok v (by
    rcases List.mem_cons.mp hv with h | h
    · rw [h]; exact List.mem_append_right _ List.mem_cons_self
    · exact List.mem_append_left _ (List.mem_reverse.mpr h))
  have hokr : ab_oks 0 st := fun v hv => hok v (List.mem_append_right _ (List.mem_cons_of_mem _ hv))
  have h6 : (ab_sh 0)[0]? = some (kO 8) := rfl
  have hM2 := hM0 z u' hr0 hoka l E hfl
  have hre : ab_re E (kO 8) 0 = ab_ro E 0 := ab_re_ro E hs h6
  have hrec : ∃ cellB : Cell, H[ab_re E (kO 8) 0]? = some cellB ∧ cellB.vm.isStatics = false ∧ s.vm.findClass y.cls = some cellB.cls := by
    rw [hre, ← hci]
    exact va_recv hK X.1 (ab_vw (by decide)) (ab_wd_at E h6)
  have hsub := ab_D_in X.2.1
  have hpre : ∀ U : State, U.heap = H → s.WarmedH U.vm → va_Pc ((vR (kO 8) 0 :: bs).map (ab_vm E)) (ab_B E 0 u) ((vR (kO 8) 0 :: bs).map (ab_vm E)).toArray U := by
    intro U hU hW
    exact ⟨rfl, va_K.moved hW.alike hK, by rw [hU]; exact X.1, ab_D_self X.2.1, by rw [hU]; exact ab_SF.moved hW ((ab_SF.kept hSF X.2.2.1.2.1).narrow hsub), ab_NW.moved hW hNW, X.2.2.2⟩
  have hpv : PreV s H y.cls (ab_re E (kO 8) 0) (va_Pc ((vR (kO 8) 0 :: bs).map (ab_vm E)) (ab_B E 0 u)) (bs.map (ab_vm E)) := ⟨ab_B_blind E 0 u _, hrec, hpre⟩
  have hstack : (List.map (ab_vm E) (bs.reverse ++ vR (kO 8) 0 :: st)) = (bs.map (ab_vm E)).reverse ++ .ref (ab_re E (kO 8) 0) :: st.map (ab_vm E) := by
    rw [List.map_append, List.map_reverse]
    rfl
  have hml : c.maxLocals = L.length := by rw [hn]; exact C0.2.2.2.1
  have hfix : CallFix p m c code L.length s #[Value.ref b] ab_W0 (ab_cn 10) := ⟨hex, hb, hml, hown, hts⟩
  have hmon : 2 * (F0 m pc ls (List.map (ab_vm E) (bs.reverse ++ vR (kO 8) 0 :: st))).monitorRoom + ((st.map (ab_vm E)).map fun v => v.category).sum ≤ 8 := lv_room (by rw [ab_cats]; exact hcat)
  have hCB : CallB room_1 s #[Value.ref b] (ab_cn 10) k y b' nL' rt' (Cond.code y b' nL' rt' :: ab_W0) (ab_rm d') 0 0 bs.length := by
    obtain ⟨h1, h2, h3, h4, h5⟩ := hI
    refine ⟨rfl, rfl, by show d' + 1 ≤ 2048; omega, by show 8 + (nL' + 11) + 64 * d' ≤ 84000; omega, ab_ws hts h1, List.mem_cons_self, hts _ h1, hts _ h2, h3, fun sig h => ?_, hts _ hlp⟩
    rw [h] at h4
    exact (Option.some.inj h4).symm
  have hrun : va_Run p l e room_1 s m #[Value.ref b] below meth c H locs kc ks 0 0 (F0 m pc ls (List.map (ab_vm E) (bs.reverse ++ vR (kO 8) 0 :: st))) (st.map (ab_vm E)) (ab_Q E 0 w' z u' (Value.ref (ab_re E (kO 8) 0) :: bs.map (ab_vm E)).toArray) (ab_A E 0) :=
    va_runV hfix hM2 ⟨hCB, hts _ hV.1, hts _ hV.2⟩ hpv rfl (by simp) hl.1 hstack hmon hd ⟨hcap.1, hcap.2⟩
  intro T hT Y
  obtain ⟨v1, st₀, t, T', Lc, h0, Y', hLc, e1, e2, ⟨hv, hP', hW', hz, hk⟩, stp⟩ := hrun T hT Y
  cases hv
  rw [h0] at hz hk
  have hnew : ∀ q, q < H.size → ¬ ab_A E 0 q → T'.heap[q]? = H[q]? := fun q h1 h2 => by rw [e1]; exact hk q h1 h2
  have hX1 : ab_X E 0 (lw_A s) s u' T'.heap (locs ++ Lc) := ⟨by rw [e1]; exact hP', ab_D_eq X.2.1, ⟨Nat.le_trans X.2.2.1.1 (by rw [e1]; exact hz), fun q h1 h2 => by rw [hnew q (Nat.lt_of_lt_of_le h1 X.2.2.1.1) (fun z => h2 (hsub q z))]; exact X.2.2.1.2.1 q h1 h2, fun q hq => by
      rcases List.mem_append.mp hq with h | h
      · exact X.2.2.1.2.2 q h
      · exact hsub _ (hLc q h)⟩, hW'⟩
  have hlt : ∀ a, a < (ab_sh 1).length → ab_ro (lw_Em E rm) a < H.size := fun a ha => by
    obtain ⟨t1, ht1⟩ : ∃ t1, (ab_sh 1)[a]? = some t1 := ⟨_, List.getElem?_eq_getElem ha⟩
    exact (hM.1 a _ (ab_wd_at (lw_Em E rm) ht1)).lt
  have hM1 : lw_M E rm s v T'.heap := ⟨ab_P_kept hM.1 (fun a ha => hnew _ (hlt a ha) (by
    rintro ⟨a0, ha0, h7⟩
    exact hdj.1 a0 a ha0 ha h7.symm)), hM.2⟩
  have hO1 : lw_O E ov T'.heap := by
    unfold lw_O
    rw [hnew _ (Array.getElem?_eq_some_iff.mp hO).1 (by
      rintro ⟨a0, ha0, h7⟩
      exact hdj.2.1 a0 ha0 h7.symm)]
    exact hO
  obtain ⟨t2, a1, b1⟩ := kk T'.heap (locs ++ Lc) ls hX1 hM1 hO1 hl hL (fun v hv => by
    rcases List.mem_append.mp hv with h | h
    · exact hw z v (by simpa using h) 0
    · exact hokr v h) hn T' rfl Y'
  refine ⟨t2, stp t2 ?_, b1⟩
  rw [List.map_append] at a1
  rw [show Option.toList (Option.map (ab_vm E) (w' z)) = List.map (ab_vm E) (Option.toList (w' z)) by cases w' z <;> rfl]
  exact a1
def ab_num : ab_V → Bool
  | .inr (.inr _) => false
  | _ => true
theorem ab_num_map (E E' : ab_E) : ∀ (bs : List ab_V), bs.all ab_num = true → bs.map (ab_vm E) = bs.map (ab_vm E')
  | [], _ => rfl
  | .inl x :: r, h => congrArg (List.cons _) (ab_num_map E E' r (by simpa [ab_num] using h))
  | .inr (.inl x) :: r, h => congrArg (List.cons _) (ab_num_map E E' r (by simpa [ab_num] using h))
  | .inr (.inr x) :: r, h => by simp [ab_num] at h
/-- a call upon the reference -/
theorem lw_callM {τ' : Type} {w' : τ' → Option ab_V} {y : MethodName} {b' : ByteArray} {nL' : Nat} {rt' : Option FieldType} {d' k : Nat} {bs : List ab_V} {v' : ab_S} {z : τ'} {r0 : Option (τ' × ab_S)} {st0 : List ab_V} (C : lw_cx p l s m meth c b Lx xs E rm) (hM0 : ab_C 1 y b' nL' rt' d' (vR (kO 9) 0 :: bs) v w' r0) (hr0 : r0 = some (z, v')) (hnum : bs.all ab_num = true) (hnw : ∀ E1 E2, (w' z).map (ab_vm E1) = (w' z).map (ab_vm E2)) (hI : ab_mI y b' nL' rt' bs.length) (hV : ab_mV y) (hci : ab_cn 9 = y.cls) (hlp : ab_lp 10 k y) (hw : ab_wok w') (hd : decode code pc = .ok (.invokevirtual k, 3)) (hst0 : st0 = bs.reverse ++ vR (kO 22) 0 :: st) (hcat : (st.map ab_cat).sum ≤ 8) (hdep : d' ≤ 1000) (hp : pc + 3 = pc2)
    (kk : LG p l e s m below meth c b E rm kc ks pc2 L ((w' z).toList ++ st) u v' ov) (hcap : kc ≤ 601024 ∧ ks ≤ 7293034) : LG p l e s m below meth c b E rm kc ks pc L st0 u v ov := by
  intro H locs ls X hM hO hl hL hok hn
  subst hp
  subst hst0
  obtain ⟨C0, hfl, F, hsb, hsm, hdj, hLx⟩ := C
  obtain ⟨hex, hb, hown, hts, hNW, hK, hSF, ho, hs⟩ := id F
  have h6 : (ab_sh 1)[0]? = some (kO 9) := rfl
  have hoka : ab_oks 1 (vR (kO 9) 0 :: bs) := fun v hv => by
    rcases List.mem_cons.mp hv with h | h
    · rw [h]; exact ab_ia_of (by decide) h6
    · have h1 := List.all_eq_true.mp hnum v h
      rcases v with x | x | x
      · trivial
      · trivial
      · cases h1
  have hokr : ab_oks 0 st := fun v hv => hok v (List.mem_append_right _ (List.mem_cons_of_mem _ hv))
  have hM2 := hM0 z v' hr0 hoka l (lw_Em E rm) hfl
  have hre : ab_re (lw_Em E rm) (kO 9) 0 = rm 0 := ab_re_ro (lw_Em E rm) (by decide) h6
  have hre2 : ab_re E (kO 22) 0 = rm 0 := hsm
  have hrec : ∃ cellB : Cell, H[rm 0]? = some cellB ∧ cellB.vm.isStatics = false ∧ s.vm.findClass y.cls = some cellB.cls := by
    rw [← hci]
    exact va_recv hK hM.1 (ab_vw (by decide)) (ab_wd_at (lw_Em E rm) h6)
  have hsub := ab_D_in hM.2
  have hpre : ∀ U : State, U.heap = H → s.WarmedH U.vm → va_Pc ((vR (kO 9) 0 :: bs).map (ab_vm (lw_Em E rm))) (ab_B (lw_Em E rm) 1 v) (Value.ref (rm 0) :: bs.map (ab_vm E)).toArray U := by
    intro U hU hW
    refine ⟨?_, va_K.moved hW.alike hK, by rw [hU]; exact hM.1, ab_D_self hM.2, by rw [hU]; exact ab_SF.moved hW ((ab_SF.kept hSF X.2.2.1.2.1).narrow hsub), ab_NW.moved hW hNW, fun j hj h => by cases h⟩
    rw [ab_num_map E (lw_Em E rm) bs hnum]
    show _ = (Value.ref (ab_re (lw_Em E rm) (kO 9) 0) :: bs.map (ab_vm (lw_Em E rm))).toArray
    rw [hre]
  have hpv : PreV s H y.cls (rm 0) (va_Pc ((vR (kO 9) 0 :: bs).map (ab_vm (lw_Em E rm))) (ab_B (lw_Em E rm) 1 v)) (bs.map (ab_vm E)) := ⟨ab_B_blind (lw_Em E rm) 1 v _, hrec, hpre⟩
  have hstack : (List.map (ab_vm E) (bs.reverse ++ vR (kO 22) 0 :: st)) = (bs.map (ab_vm E)).reverse ++ .ref (rm 0) :: st.map (ab_vm E) := by
    rw [List.map_append, List.map_reverse, ← hre2]
    rfl
  have hml : c.maxLocals = L.length := by rw [hn]; exact C0.2.2.2.1
  have hfix : CallFix p m c code L.length s #[Value.ref b] ab_W0 (ab_cn 10) := ⟨hex, hb, hml, hown, hts⟩
  have hmon : 2 * (F0 m pc ls (List.map (ab_vm E) (bs.reverse ++ vR (kO 22) 0 :: st))).monitorRoom + ((st.map (ab_vm E)).map fun v => v.category).sum ≤ 8 := lv_room (by rw [ab_cats]; exact hcat)
  have hCB : CallB room_1 s #[Value.ref b] (ab_cn 10) k y b' nL' rt' (Cond.code y b' nL' rt' :: ab_W0) (ab_rm d') 0 0 bs.length := by
    obtain ⟨h1, h2, h3, h4, h5⟩ := hI
    refine ⟨rfl, rfl, by show d' + 1 ≤ 2048; omega, by show 8 + (nL' + 11) + 64 * d' ≤ 84000; omega, ab_ws hts h1, List.mem_cons_self, hts _ h1, hts _ h2, h3, fun sig h => ?_, hts _ hlp⟩
    rw [h] at h4
    exact (Option.some.inj h4).symm
  have hrun : va_Run p l e room_1 s m #[Value.ref b] below meth c H locs kc ks 0 0 (F0 m pc ls (List.map (ab_vm E) (bs.reverse ++ vR (kO 22) 0 :: st))) (st.map (ab_vm E)) (ab_Q (lw_Em E rm) 1 w' z v' (Value.ref (rm 0) :: bs.map (ab_vm E)).toArray) (ab_A (lw_Em E rm) 1) :=
    va_runV hfix hM2 ⟨hCB, hts _ hV.1, hts _ hV.2⟩ hpv rfl (by simp) hl.1 hstack hmon hd ⟨hcap.1, hcap.2⟩
  intro T hT Y
  obtain ⟨v1, st₀, t, T', Lc, h0, Y', hLc, e1, e2, ⟨hv, hP', hW', hz, hk⟩, stp⟩ := hrun T hT Y
  cases hv
  rw [h0] at hz hk
  have hnew : ∀ q, q < H.size → ¬ ab_A (lw_Em E rm) 1 q → T'.heap[q]? = H[q]? := fun q h1 h2 => by rw [e1]; exact hk q h1 h2
  have hlt : ∀ a, a < (ab_sh 0).length → ab_ro E a < H.size := fun a ha => by
    obtain ⟨t1, ht1⟩ : ∃ t1, (ab_sh 0)[a]? = some t1 := ⟨_, List.getElem?_eq_getElem ha⟩
    exact (X.1 a _ (ab_wd_at E ht1)).lt
  have hX1 : ab_X E 0 (lw_A s) s u T'.heap (locs ++ Lc) := ⟨ab_P_kept X.1 (fun a ha => hnew _ (hlt a ha) (by
    rintro ⟨a0, ha0, h7⟩
    exact hdj.1 a a0 ha ha0 h7)), X.2.1, ⟨Nat.le_trans X.2.2.1.1 (by rw [e1]; exact hz), fun q h1 h2 => by rw [hnew q (Nat.lt_of_lt_of_le h1 X.2.2.1.1) (fun z => h2 (hsub q z))]; exact X.2.2.1.2.1 q h1 h2, fun q hq => by
      rcases List.mem_append.mp hq with h | h
      · exact X.2.2.1.2.2 q h
      · exact hsub _ (hLc q h)⟩, X.2.2.2⟩
  have hM1 : lw_M E rm s v' T'.heap := ⟨by rw [e1]; exact hP', ab_D_eq hM.2⟩
  have hO1 : lw_O E ov T'.heap := by
    unfold lw_O
    rw [hnew _ (Array.getElem?_eq_some_iff.mp hO).1 (by
      rintro ⟨a0, ha0, h7⟩
      exact hdj.2.2.1 a0 ha0 h7.symm)]
    exact hO
  obtain ⟨t2, a1, b1⟩ := kk T'.heap (locs ++ Lc) ls hX1 hM1 hO1 hl hL (fun v hv => by
    rcases List.mem_append.mp hv with h | h
    · exact hw z v (by simpa using h) 0
    · exact hokr v h) hn T' rfl Y'
  refine ⟨t2, stp t2 ?_, b1⟩
  rw [List.map_append] at a1
  rw [hnw (lw_Em E rm) E, show Option.toList (Option.map (ab_vm E) (w' z)) = List.map (ab_vm E) (Option.toList (w' z)) by cases w' z <;> rfl]
  exact a1
end LWR
