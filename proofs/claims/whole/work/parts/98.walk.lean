/-! the law from its entry -/
/-- a constructor's call out of any frame: the new object stands last in the world -/
theorem lc_call {XX : ab_E → Nat → Nat → State → Prop} {own : Nat} {p : Program} {l : Launch} {e : Env} {R : Room} {s : State} {m : MethodId} {args : Array Value} {below : List Frame} {meth : Method} {c : Code} {H : Heap} {locs : List Loc} {cells slots : Nat} {Q : State → Prop} {cc : ByteArray} {pc nL : Nat} {ls : Array Slot} {L : List (Nat × Value)} {st : List Value} {A : Nat → Prop} {E : ab_E} {w0 : va_W} {x n : Nat}
    {y : MethodName} {b' : ByteArray} {nL' : Nat} {R' : Room} {ci : Nat} {fs : List Value} {k' idx : Nat} {WF' : ab_E → Nat → Nat → va_W} (hM : mg_C XX y b' nL' R' ci fs k' WF') (hfl : l.flags = flags0) (hx : p.tables.exec = Jvm.exec) (hb : c.code = cc) (hml : c.maxLocals = nL) (hown : s.vm.findClass (ab_cn own) = some m.cls) (hts : ∀ w ∈ ab_W0, w.before args s = true) (hNW : ab_NW s) (hK : va_K (E.1, E.2.1) vwCl (ab_ty E) s) (hA : ∀ q, s.heap.size ≤ q → A q) (hX : nw_W E A s.heap (w0 ++ [(x, .inr (ci, fs))]) n H locs) (hl : lv_has ls nL L)
    (hXb : FrameBlind (fun _ U => XX E x n U)) (hXX : ∀ U : State, U.heap = H → s.WarmedH U.vm → XX E x n U) (hc : Cond.code y b' nL' none ∈ ab_W0) (hini : Cond.initialized y.cls ∈ ab_W0) (hinst : Cond.instanceMethod y ∈ ab_W0) (hyn : y.name = "<init>") (hyc : y.cls ≠ "java/lang/invoke/MethodHandle" ∧ y.cls ≠ "java/lang/invoke/VarHandle") (hpar : (parseMethodDescriptor y.desc).map (fun d => d.parameters.length) = some 0)
    (hlk : ab_lp own idx y) (hd : decode cc pc = .ok (.invokespecial idx, 3)) (hcat : (st.map fun v => v.category).sum ≤ 8) (hRf : R'.frames + 1 ≤ R.frames ∧ 8 + (nL' + 11) + R'.locals ≤ R.locals) (hR : cells + R'.cells ≤ R.cells ∧ slots + R'.slots ≤ R.slots)
    (kk : ∀ (H1 : Heap) (locs1 : List Loc), nw_W E A s.heap (w0 ++ WF' E x n) (n + k') H1 locs1 → W p l e R s m args below meth c H1 locs1 (cells + R'.cells) (slots + R'.slots) Q (F0 m (pc + 3) ls st)) : W p l e R s m args below meth c H locs cells slots Q (F0 m pc ls (.ref x :: st)) := by
  obtain ⟨hP, hD, hS, hn⟩ := hX
  have hPx : va_P (E.1, E.2.1) vwCl [(x, .inr (ci, fs))] H := fun i q hq => by
    match i, hq with
    | 0, hq => cases hq; exact hP w0.length _ (by rw [List.getElem?_append_right (Nat.le_refl _)]; simp)
    | i + 1, hq => simp at hq
  have hP0 : va_P (E.1, E.2.1) vwCl w0 H := fun i q hq => hP i q (by rw [List.getElem?_append_left (List.getElem?_eq_some_iff.mp hq).1]; exact hq)
  have hA0 : ∀ (i : Nat) (q : Nat × va_E), w0[i]? = some q → A q.1 := fun i q hq => hD.2 i q (by rw [List.getElem?_append_left (List.getElem?_eq_some_iff.mp hq).1]; exact hq)
  have hx0 : (w0 ++ [(x, (Sum.inr (ci, fs) : va_E))])[w0.length]? = some (x, .inr (ci, fs)) := by rw [List.getElem?_append_right (Nat.le_refl _)]; simp
  have hAx : A x := hD.2 w0.length _ hx0
  have hne : ∀ (i : Nat) (q : Nat × va_E), w0[i]? = some q → q.1 ≠ x := fun i q hq h => by
    have hi := (List.getElem?_eq_some_iff.mp hq).1
    have h2 := hD.1 i w0.length q _ (by rw [List.getElem?_append_left hi]; exact hq) hx0 h
    omega
  have hN0 : s.heap.size ≤ n := by rw [← hn]; exact hS.1
  have hpv : PreS s H (va_Pc [.ref x] (fun U => nw_B E x n ci fs U ∧ XX E x n U)) [.ref x] := by
    refine ⟨fun a U g mk h => ?_, fun U hU hW => ⟨rfl, ⟨va_K.moved hW.alike hK, by rw [hU]; exact hPx, by rw [hU]; exact hn, ab_NW.moved hW hNW⟩, hXX U hU hW⟩⟩
    obtain ⟨h0, ⟨h1, h2, h3, h4⟩, h5⟩ := h
    exact ⟨h0, ⟨va_K.moved (u := U) (U := U.calling g mk a) (Vm.Alike.refl U.vm) h1, h2, h3, ab_NW.same (s := U) (U := U.calling g mk a) rfl h4⟩, hXb a U g mk h5⟩
  have hfix : CallFix p m c cc nL s args ab_W0 (ab_cn own) := ⟨hx, hb, hml, hown, hts⟩
  have hlen : ∀ sig, parseMethodDescriptor y.desc = some sig → 0 = sig.parameters.length := fun sig h => by
    rw [h] at hpar
    exact (Option.some.inj hpar).symm
  have hmon : 2 * (F0 m pc ls (.ref x :: st)).monitorRoom + (st.map fun v => v.category).sum ≤ 8 := lv_room hcat
  have hrun : va_Run p l e R s m args below meth c H locs cells slots R'.cells R'.slots (F0 m pc ls (.ref x :: st)) st (nw_Q E x n (n + k') (WF' E x n) [Value.ref x].toArray) (nw_A x n) :=
    va_runI (As := []) hfix (hM l E x n hfl) ⟨⟨rfl, rfl, hRf.1, hRf.2, ab_ws hts hc, List.mem_cons_self, hts _ hc, hts _ hini, hyc, hlen, hts _ hlk⟩, hyn, hts _ hinst⟩ hpv rfl rfl hl.1 rfl hmon hd hR
  intro T hT Y
  obtain ⟨v, st₀, t, T', Lc, h0, Y', hLc, e1, e2, ⟨hv, hP', hz', ⟨hz, hk⟩, hD'⟩, stp⟩ := hrun T hT Y
  cases hv
  rw [h0] at hz hk
  have hsub : ∀ q, nw_A x n q → A q := fun q h => by
    rcases h with h | h
    · rw [h]; exact hAx
    · exact hA q (Nat.le_trans hN0 h)
  have hlt : ∀ (i : Nat) (q : Nat × va_E), w0[i]? = some q → q.1 < n := fun i q hq => by rw [← hn]; exact (hP0 i q hq).lt
  have hX1 : nw_W E A s.heap (w0 ++ WF' E x n) (n + k') T'.heap (locs ++ Lc) := by
    rw [e1]
    refine ⟨(hP0.kept (fun i q hq => hk q.1 (by rw [hn]; exact hlt i q hq) (fun h => ?_))).app hP', ⟨fun i j pq qq hi hj h => ?_, fun i q hq => ?_⟩, ⟨Nat.le_trans hS.1 hz, fun q h1 h2 => by rw [hk q (Nat.lt_of_lt_of_le h1 hS.1) (fun h => h2 (hsub q h))]; exact hS.2.1 q h1 h2, fun q hq => ?_⟩, hz'⟩
    · rcases h with h | h
      · exact hne i q hq h
      · have := hlt i q hq; omega
    · by_cases h1 : i < w0.length
      · rw [List.getElem?_append_left h1] at hi
        by_cases h2 : j < w0.length
        · rw [List.getElem?_append_left h2] at hj
          exact hD.1 i j pq qq (by rw [List.getElem?_append_left h1]; exact hi) (by rw [List.getElem?_append_left h2]; exact hj) h
        · rw [List.getElem?_append_right (by omega)] at hj
          rcases hD'.2 _ _ hj with h3 | h3
          · exact absurd (h.trans h3) (hne i pq hi)
          · have := hlt i pq hi; omega
      · rw [List.getElem?_append_right (by omega)] at hi
        by_cases h2 : j < w0.length
        · rw [List.getElem?_append_left h2] at hj
          rcases hD'.2 _ _ hi with h3 | h3
          · exact absurd (h.symm.trans h3) (hne j qq hj)
          · have := hlt j qq hj; omega
        · rw [List.getElem?_append_right (by omega)] at hj
          have := hD'.1 _ _ pq qq hi hj h
          omega
    · by_cases h1 : i < w0.length
      · rw [List.getElem?_append_left h1] at hq
        exact hA0 i q hq
      · rw [List.getElem?_append_right (by omega)] at hq
        exact hsub _ (hD'.2 _ _ hq)
    · rcases List.mem_append.mp hq with h | h
      · exact hS.2.2 q h
      · exact hsub _ (hLc q h)
  obtain ⟨t2, b1, b2⟩ := kk T'.heap (locs ++ Lc) hX1 T' rfl Y'
  exact ⟨t2, stp t2 b1, b2⟩
theorem st_cx {p : Program} {l : Launch} {s : State} {m : MethodId} {meth : Method} {c : Code} {b Lx : Nat} {xs : Nat → Int32} {E : ab_E} {rm : Nat → Nat} (C0 : lw_At p s m meth c b Lx xs) (hfl : l.flags = flags0) (hK : va_K (E.1, E.2.1) vwCl (ab_ty E) s) (hSF : ab_SF E (lw_A s) s s.heap) (h23 : ab_sa E 23 0 = b) (h22 : ab_sa E 22 0 = rm 0) (hdj : lw_dj E rm s) (hL : Lx ≤ 3584) : lw_cx p l s m meth c b Lx xs E rm := by
  obtain ⟨hx, hb, hr, hml, hown, hts, hX, hbl, hlocks, hgv⟩ := id C0
  exact ⟨C0, hfl, ⟨hx, hb, hown, fun w hw => hts w (List.mem_filter.mp hw).1, st_NW hts, hK, hSF, by decide, by decide⟩, h23, h22, hdj, hL⟩
theorem wd_lt {s : State} {D : va_G} {ws : va_W} {H : Heap} (h : va_P D vwCl ws H) {k : Nat} {q : Nat × va_E} (hq : ws[k]? = some q) : q.1 < H.size := (h k q hq).lt
def sa9 (sa : Nat → Nat → Nat) (b z : Nat) : Nat → Nat → Nat := fun c i => if c = 23 then b else if c = 22 then z + 157 else if c = 24 then z + 180 else sa c i
set_option maxHeartbeats 4000000 in
set_option maxRecDepth 100000 in
/-- THE LAW, from its entry -/
theorem whole_start {p : Program} {e : Env} {s : State} {m : MethodId} {below : List Frame} {meth : Method} {c : Code} (l : Launch) (hflags : l.flags = flags0) {b L : Nat} {xs : Nat → Int32} (hL : L ≤ 3584) (C0 : lw_At p s m meth c b L xs) : W p l e room_1 s m #[Value.ref b] below meth c s.heap [] 0 0 (lw_Z below #[Value.ref b] s) (entryFrame m ([Value.ref b] : List Value).toArray 7) := by
  obtain ⟨hx, hb, hr, hml, hown, hts, hX, hbl, hlocks, hgv⟩ := id C0
  have hW : ∀ w ∈ ab_W0, w.before #[Value.ref b] s = true := fun w hw => hts w (List.mem_filter.mp hw).1
  have hNW := st_NW hts
  have hAn : ∀ a : Nat, a < s.heap.size → ¬ lw_A s a := fun a h1 h2 => by
    have h3 : s.heap.size ≤ a := h2
    omega
  have hA : ∀ q, s.heap.size ≤ q → lw_A s q := fun q h => h
  obtain ⟨cl, cN, cA, hK0⟩ := st_K hts
  obtain ⟨sa, hSF0⟩ := st_SF hts hgv hAn
  have hSX := st_SX hts hgv hAn
  obtain ⟨v1, v2, g1, g2, hInv⟩ := ex9
  generalize hz : s.heap.size = z at hA hAn
  have hown' : s.vm.findClass (ab_cn 10) = some m.cls := hown
  have hAO : va_AO "SoulRaffle$Standing" s ∧ va_AO "SoulRaffle$Seen" s := ⟨va_AO.of (A := #[Value.ref b]) (hts _ (by decide +kernel)), va_AO.of (A := #[Value.ref b]) (hts _ (by decide +kernel))⟩
  -- the pools' addresses
  have hE0 : ∃ E0 : ab_E, E0 = (cl, (cN, (cA, ((fun _ => 0), sa9 sa b z)))) := ⟨_, rfl⟩
  obtain ⟨E0, hE0⟩ := hE0
  have hK : va_K (E0.1, E0.2.1) vwCl (ab_ty E0) s := by rw [hE0]; exact hK0 _ _
  have hSFE : ∀ E : ab_E, E.2.2.2.2 = sa9 sa b z → ab_SF E (lw_A s) s s.heap := fun E h => by
    have h' : ∀ c i, ab_sa E c i = sa9 sa b z c i := fun c i => congrFun (congrFun h c) i
    refine hSF0 E (fun i => ?_) ?_ ?_ ?_
    · rw [h']; unfold sa9; rw [if_neg (by decide), if_neg (by decide), if_neg (by decide)]
    · rw [h']; unfold sa9; rw [if_neg (by decide), if_neg (by decide), if_neg (by decide)]
    · rw [h']; unfold sa9; rw [if_neg (by decide), if_neg (by decide), if_neg (by decide)]
    · rw [h']; unfold sa9; rw [if_neg (by decide), if_neg (by decide), if_neg (by decide)]
  have hl := lv_entry ([.ref b]) (n := 7) (Nat.le_of_ble_eq_true rfl)
  rw [lg_entry_eq]
  generalize (lg_sl ([.ref b]) ++ List.replicate (7 - (lg_sl ([.ref b])).length) Slot.unset).toArray = ls at hl ⊢
  have hl : lv_has ls 7 [(0, .ref b)] := hl
  have hW0 : nw_W E0 (lw_A s) s.heap [] z s.heap [] := ⟨fun k q h => by simp at h, ⟨fun i j p q h => by simp at h, fun k q h => by simp at h⟩, va_S.rf, hz⟩
  -- new SoulRaffle()
  refine nw_obj (own := ab_cn 10) (C := ab_cn 8) (T := ab_TT 8) (N := (ab_fs 8).length) (ci := 8) (index := 8) (fs := [.null, .null, .null, .null, .null, .null, .null, .null, .null, .int 0, .int 0, .null, .null, .null, .null, .null]) hx hb hW (ab_ww (by decide)) (ab_tt 8) (ab_ty_ok (by decide)) hown' (hW _ (by decide +kernel)) (hW _ (by decide +kernel)) (hW _ (by decide +kernel)) hK hW0 (by rw [hz]; exact hA) (ab_vw (by decide)) nf8 (Nat.le_of_ble_eq_true rfl) (Nat.le_of_ble_eq_true rfl) (show decode code 0 = .ok (.new 8, 3) by decide +kernel) (fun H1 X1 => ?_)
  refine lv_dup hx hb (show decode code 3 = .ok (.dup, 1) by decide +kernel) rfl ?_
  refine lc_call (own := 10) (idx := 15) nC8 hflags hx hb hml hown' hW hNW hK (by rw [hz]; exact hA) X1 hl (fun a U g mk h => ⟨va_AO.moved (u := U) (U := U.calling g mk a) (Vm.Alike.refl U.vm) h.1, va_AO.moved (u := U) (U := U.calling g mk a) (Vm.Alike.refl U.vm) h.2⟩) (fun U hU hW' => ⟨va_AO.moved hW'.alike hAO.1, va_AO.moved hW'.alike hAO.2⟩) (by decide +kernel) (by decide +kernel) (by decide +kernel) rfl ⟨by decide, by decide⟩ (by decide +kernel) (by unfold ab_lp; decide +kernel) (show decode code 4 = .ok (.invokespecial 15, 3) by decide +kernel) (Nat.le_of_ble_eq_true rfl) ⟨Nat.le_of_ble_eq_true rfl, Nat.le_of_ble_eq_true rfl⟩ ⟨Nat.le_of_ble_eq_true rfl, Nat.le_of_ble_eq_true rfl⟩ (fun H2 locs2 X2 => ?_)
  refine lv_astore_n (lv' := [(1, .ref z), (0, .ref b)]) hx hb (show decode code 7 = .ok (.astore_n 1, 1) by decide +kernel) rfl hl (by decide) rfl (fun ls hl => ?_)
  have X2 : nw_W E0 (lw_A s) s.heap (nW8 E0 z (z + 1)) (z + 157) H2 locs2 := by
    have h := X2
    rw [show ([] : va_W) ++ nW8 E0 z (z + 1) = nW8 E0 z (z + 1) from rfl, show z + 1 + 156 = z + 157 by omega] at h
    exact h
  -- new SoulRaffleModel()
  refine nw_obj (own := ab_cn 10) (C := ab_cn 9) (T := ab_TT 9) (N := (ab_fs 9).length) (ci := 9) (index := 16) hx hb hW (ab_ww (by decide)) (ab_tt 9) (ab_ty_ok (by decide)) hown' (hW _ (by decide +kernel)) (hW _ (by decide +kernel)) (hW _ (by decide +kernel)) hK X2 (by rw [hz]; exact hA) (ab_vw (by decide)) nf9 (Nat.le_of_ble_eq_true rfl) (Nat.le_of_ble_eq_true rfl) (show decode code 8 = .ok (.new 16, 3) by decide +kernel) (fun H3 X3 => ?_)
  refine lv_dup hx hb (show decode code 11 = .ok (.dup, 1) by decide +kernel) rfl ?_
  refine lc_call (own := 10) (idx := 18) (nC9 g1 g2) hflags hx hb hml hown' hW hNW hK (by rw [hz]; exact hA) X3 hl (fun a U g mk h => ab_SF.same (s := U) (U := U.calling g mk a) rfl h) (fun U hU hW' => ?_) (by decide +kernel) (by decide +kernel) (by decide +kernel) rfl ⟨by decide, by decide⟩ (by decide +kernel) (by unfold ab_lp; decide +kernel) (show decode code 12 = .ok (.invokespecial 18, 3) by decide +kernel) (Nat.le_of_ble_eq_true rfl) ⟨Nat.le_of_ble_eq_true rfl, Nat.le_of_ble_eq_true rfl⟩ ⟨Nat.le_of_ble_eq_true rfl, Nat.le_of_ble_eq_true rfl⟩ (fun H4 locs4 X4 => ?_)
  · show ab_SF (E9 E0 (z + 157) (z + 157 + 1)) (nw_A (z + 157) (z + 157 + 1)) U U.heap
    rw [hU]
    refine ab_SF.moved hW' ((ab_SF.kept (hSFE (E9 E0 (z + 157) (z + 157 + 1)) (by rw [hE0]; rfl)) X3.2.2.1.2.1).narrow (fun q h => ?_))
    show s.heap.size ≤ q
    rw [hz]
    rcases h with h | h <;> omega
  refine lv_astore_n (lv' := [(2, .ref (z + 157)), (1, .ref z), (0, .ref b)]) hx hb (show decode code 15 = .ok (.astore_n 2, 1) by decide +kernel) rfl hl (by decide) rfl (fun ls hl => ?_)
  refine lv_iconst (v := 1) hx hb (show decode code 16 = .ok (.iconst 1, 1) by decide +kernel) (by decide +kernel) ?_
  refine nw_arr (atype := .long) (N := z + 157 + 1 + 22) (N' := 1) (a0 := (1, .inr (.inl (fun _ => 0)))) hx hb hK (hW _ (by decide +kernel)) 1 (by decide) rfl X4 (by rw [hz]; exact hA) (nz1 1) (by decide +kernel) (by decide +kernel) (Nat.le_of_ble_eq_true rfl) (Nat.le_of_ble_eq_true rfl) (Nat.le_of_ble_eq_true rfl) (show decode code 17 = .ok (.newarray .long, 2) by decide +kernel) (fun H5 X5 => ?_)
  refine lv_astore_n (lv' := [(3, .ref (z + 157 + 1 + 22)), (2, .ref (z + 157)), (1, .ref z), (0, .ref b)]) hx hb (show decode code 19 = .ok (.astore_n 3, 1) by decide +kernel) rfl hl (by decide) rfl (fun ls hl => ?_)
  refine lv_iconst (v := 0) hx hb (show decode code 20 = .ok (.iconst 0, 1) by decide +kernel) (by decide +kernel) ?_
  refine lv_istore (lv' := [(4, .int 0), (3, .ref (z + 157 + 1 + 22)), (2, .ref (z + 157)), (1, .ref z), (0, .ref b)]) hx hb (show decode code 21 = .ok (.istore 4, 2) by decide +kernel) hl (by decide) rfl (fun ls hl => ?_)
  -- the loop
  obtain ⟨hP5, hD5, hS5, hz5⟩ := X5
  have hPA : va_P (E0.1, E0.2.1) vwCl (nW8 E0 z (z + 1)) H5 := fun k q hq => hP5 k q (by
    have hk := (List.getElem?_eq_some_iff.mp hq).1
    rw [List.append_assoc, List.getElem?_append_left hk]
    exact hq)
  have hPB : va_P (E0.1, E0.2.1) vwCl (ab_wd (E9 E0 (z + 157) (z + 157 + 1)) 1 v2) H5 := fun k q hq => hP5 ((nW8 E0 z (z + 1)).length + k) q (by
    have hk := (List.getElem?_eq_some_iff.mp hq).1
    rw [List.append_assoc, List.getElem?_append_right (Nat.le_add_right _ _), Nat.add_sub_cancel_left, List.getElem?_append_left hk]
    exact hq)
  have hPC : H5[z + 157 + 1 + 22]? = some (vp_cell (ab_cA E0 1) (1, .inr (.inl (fun _ => 0)))) := hP5 ((nW8 E0 z (z + 1) ++ ab_wd (E9 E0 (z + 157) (z + 157 + 1)) 1 v2).length) (z + 157 + 1 + 22, .inl (ab_cA E0 1, (1, .inr (.inl (fun _ => 0))))) gx_last
  have hrm : ∀ a, a < (ab_sh 1).length → (ab_ro (E9 E0 (z + 157) (z + 157 + 1)) a = z + 157 + a ∧ a < 23) := fun a ha => by
    have h23 : a < 23 := ha
    cases a with
    | zero => exact ⟨rfl, h23⟩
    | succ a => exact ⟨show z + 157 + 1 + a = z + 157 + (a + 1) by omega, h23⟩
  have hro : ∀ a, a < (ab_sh 0).length → ab_ro (E8 E0 z (z + 1) (sa9 sa b z)) a < z + 157 := fun a ha => by
    rw [sh0_len] at ha
    cases a with
    | zero => rw [ro8_0]; omega
    | succ a =>
      rw [ro8_s]
      have := sg8_lt a (by omega)
      omega
  have hdj : lw_dj (E8 E0 z (z + 1) (sa9 sa b z)) (ab_ro (E9 E0 (z + 157) (z + 157 + 1))) s := by
    have h24 : ab_sa (E8 E0 z (z + 1) (sa9 sa b z)) 24 0 = z + 180 := rfl
    refine ⟨fun a a' ha ha' h => ?_, fun a ha h => ?_, fun a ha h => ?_, ?_⟩
    · have h1 := hro a ha
      have h2 := (hrm a' ha').1
      omega
    · have h1 := hro a ha
      omega
    · have h2 := hrm a ha
      omega
    · rw [hz, h24]; omega
  have hCX : lw_cx p l s m meth c b L xs (E8 E0 z (z + 1) (sa9 sa b z)) (ab_ro (E9 E0 (z + 157) (z + 157 + 1))) := st_cx C0 hflags (by rw [hE0]; exact hK0 _ _) (hSFE _ rfl) rfl rfl hdj hL
  have hcX : lw_cX s := ⟨hSX, va_Nw.of rfl (hts _ (by decide +kernel))⟩
  have hM : lw_M (E8 E0 z (z + 1) (sa9 sa b z)) (ab_ro (E9 E0 (z + 157) (z + 157 + 1))) s v2 H5 := by
    have hwd : ab_wd (lw_Em (E8 E0 z (z + 1) (sa9 sa b z)) (ab_ro (E9 E0 (z + 157) (z + 157 + 1)))) 1 v2 = ab_wd (E9 E0 (z + 157) (z + 157 + 1)) 1 v2 := by
      rw [hE0]
      rfl
    refine ⟨by rw [hwd]; exact hPB, ?_⟩
    rw [hwd]
    refine ⟨fun i j p q hi hj h => ?_, fun k q hq => ?_⟩
    · have hi2 := (List.getElem?_eq_some_iff.mp hi).1
      have hj2 := (List.getElem?_eq_some_iff.mp hj).1
      have h9 := hD5.1 ((nW8 E0 z (z + 1)).length + i) ((nW8 E0 z (z + 1)).length + j) p q (by
        rw [List.append_assoc, List.getElem?_append_right (Nat.le_add_right _ _), Nat.add_sub_cancel_left, List.getElem?_append_left hi2]
        exact hi) (by
        rw [List.append_assoc, List.getElem?_append_right (Nat.le_add_right _ _), Nat.add_sub_cancel_left, List.getElem?_append_left hj2]
        exact hj) h
      omega
    · have hk := (List.getElem?_eq_some_iff.mp hq).1
      exact hD5.2 ((nW8 E0 z (z + 1)).length + k) q (by
        rw [List.append_assoc, List.getElem?_append_right (Nat.le_add_right _ _), Nat.add_sub_cancel_left, List.getElem?_append_left hk]
        exact hq)
  have hXX : ab_X (E8 E0 z (z + 1) (sa9 sa b z)) 0 (lw_A s) s u8 H5 locs4 := ⟨P8_pool (sa9 sa b z) hPA, D8_pool (Nat.lt_succ_self z) (fun q h => by show s.heap.size ≤ q; rw [hz]; exact h), hS5, WT8⟩
  have hok : ∀ (j : Nat) (w : ab_V), (lw_L (nI 0))[j]? = some (some w) → ab_ok 0 w := by
    have e22 : ab_ia 0 (.inl 22) 0 := by
      show (if 22 < 20 then (ab_sh 0)[0]? = some (.inl 22) else (0 : Nat) < ab_sn 22)
      rw [if_neg (by decide)]
      decide
    have e23 : ab_ia 0 (.inl 23) 0 := by
      show (if 23 < 20 then (ab_sh 0)[0]? = some (.inl 23) else (0 : Nat) < ab_sn 23)
      rw [if_neg (by decide)]
      decide
    have e24 : ab_ia 0 (.inl 24) 0 := by
      show (if 24 < 20 then (ab_sh 0)[0]? = some (.inl 24) else (0 : Nat) < ab_sn 24)
      rw [if_neg (by decide)]
      decide
    have e8 : ab_ia 0 (.inl 8) 0 := ab_ia_of (by decide) (show (ab_sh 0)[0]? = some (.inl 8) from rfl)
    intro j w h
    match j, h with
    | 0, h => cases h; exact e23
    | 1, h => cases h; exact e8
    | 2, h => cases h; exact e22
    | 3, h => cases h; exact e24
    | 4, h => cases h; trivial
    | 5, h => cases h
    | 6, h => cases h
    | j + 7, h => cases h
  refine lw_loop hCX (lw_R_of hCX hcX rsC0_eq) i_Ss 513 0 _ _ u8 v2 0 hInv (by omega) (by omega) ?_ ?_ H5 locs4 ls hXX hM hPC (lv_sub hl [4, 3, 2, 1, 0] rfl) hok (fun v hv => by cases hv) rfl
  · exact Nat.le_of_ble_eq_true rfl
  · exact Nat.le_of_ble_eq_true rfl
