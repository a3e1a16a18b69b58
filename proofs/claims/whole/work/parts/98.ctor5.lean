/-! constructors with loops: rows -/
section NWJ
variable {p : Program} {l : Launch} {e : Env} {R : Room} {s : State} {m : MethodId} {args : Array Value} {below : List Frame} {meth : Method} {c : Code} {H : Heap} {locs : List Loc} {cells slots : Nat} {Q : State → Prop}
variable {cc : ByteArray} {pc : Nat} {ls : Array Slot} {rest : List Value} {A : Nat → Prop} {E : ab_E} {ws : va_W} {H0 : Heap} {a N : Nat}
theorem nw_iast (hexec : p.tables.exec = Jvm.exec) (hb : c.code = cc) (hK : va_K (E.1, E.2.1) vwCl (ab_ty E) s) (hX : nw_W E A H0 ws N H locs) (q0 : Nat) {n : Nat} {f : Nat → Int32} (ha : ws[q0]? = some (a, .inl (ab_cA E 0, n, .inl f))) {i x : Int32} (hin : vp_in i n) (hdg : decode cc pc = .ok (.iastore, 1))
    (kk : ∀ (H1 : Heap) (locs1 : List Loc), nw_W E A H0 (ws.set q0 (a, .inl (ab_cA E 0, n, .inl (upd f i.toNatClampNeg x)))) N H1 locs1 → W p l e R s m args below meth c H1 locs1 cells slots Q (F0 m (pc + 1) ls rest)) : W p l e R s m args below meth c H locs cells slots Q (F0 m pc ls (.int x :: .int i :: .ref a :: rest)) := by
  obtain ⟨hP, hD, hS, hz⟩ := hX
  refine W.iast hexec hb (hP q0 _ ha) ((hK.2 0 _ (ab_ty_at E (by decide))).1 n (fun j => .int (f j))) (fun q => by cases q) (by show ¬ (i < 0 ∨ (arrV _ _ _).slots.size ≤ _); rw [arrV_size]; exact hin) rfl rfl hdg fun H1 e z oq => ?_
  refine kk H1 _ ⟨hP.set hD ha ?_ oq, hD.set ha, hS.put z oq (hD.2 q0 _ ha), z.trans hz⟩
  show H1[a]? = some (vp_cell _ _)
  rw [e]
  rw [vp_cell_i, vp_cell_i, arrV_store]
  congr 2
  funext q
  by_cases hq : q = i.toNatClampNeg
  · subst hq
    simp [updV, upd]
  · simp [updV, upd, hq]
theorem nw_last (hexec : p.tables.exec = Jvm.exec) (hb : c.code = cc) (hK : va_K (E.1, E.2.1) vwCl (ab_ty E) s) (hX : nw_W E A H0 ws N H locs) (q0 : Nat) {n : Nat} {f : Nat → Int64} (ha : ws[q0]? = some (a, .inl (ab_cA E 1, n, .inr (.inl f)))) {i : Int32} {x : Int64} (hin : vp_in i n) (hdg : decode cc pc = .ok (.lastore, 1))
    (kk : ∀ (H1 : Heap) (locs1 : List Loc), nw_W E A H0 (ws.set q0 (a, .inl (ab_cA E 1, n, .inr (.inl (vp_updL f i.toNatClampNeg x))))) N H1 locs1 → W p l e R s m args below meth c H1 locs1 cells slots Q (F0 m (pc + 1) ls rest)) : W p l e R s m args below meth c H locs cells slots Q (F0 m pc ls (.long x :: .int i :: .ref a :: rest)) := by
  obtain ⟨hP, hD, hS, hz⟩ := hX
  refine W.last hexec hb (hP q0 _ ha) ((hK.2 1 _ (ab_ty_at E (by decide))).1 n (fun j => .long (f j))) (fun q => by cases q) (by show ¬ (i < 0 ∨ (arrV _ _ _).slots.size ≤ _); rw [arrV_size]; exact hin) rfl rfl hdg fun H1 e z oq => ?_
  refine kk H1 _ ⟨hP.set hD ha ?_ oq, hD.set ha, hS.put z oq (hD.2 q0 _ ha), z.trans hz⟩
  show H1[a]? = some (vp_cell _ _)
  rw [e]
  rw [vp_cell_l, vp_cell_l, arrV_store]
  congr 2
  funext q
  by_cases hq : q = i.toNatClampNeg
  · subst hq
    simp [updV, vp_updL]
  · simp [updV, vp_updL, hq]
theorem nw_anew {own C : String} {index k : Nat} (hexec : p.tables.exec = Jvm.exec) (hb : c.code = cc) (hown : s.vm.findClass own = some m.cls) (hclink : (Cond.classLink own index C).before args s = true) (hover : (Cond.arrayOver (.object C)).before args s = true) (hK : va_K (E.1, E.2.1) vwCl (ab_ty E) s) (hk6 : k < 6) (hty : ab_el k = .object C) (hX : nw_W E A H0 ws N H locs) (hA : ∀ q, H0.size ≤ q → A q)
    {n : Int32} {N' : Nat} (hn : ¬ n < 0) (hN : n.toNatClampNeg = N') (hbytes : N' * 4 ≤ 536870912) (hcells : cells + 1 ≤ R.cells) (hslots : slots + N' ≤ R.slots) (hdg : decode cc pc = .ok (.anewarray index, 3))
    (kk : ∀ (H1 : Heap), nw_W E A H0 (ws ++ [(N, .inl (ab_cA E k, N', .inr (.inr (.inr (.inr (fun _ => none))))))]) (N + 1) H1 locs → W p l e R s m args below meth c H1 locs (cells + 1) (slots + N') Q (F0 m (pc + 3) ls (.ref N :: rest))) : W p l e R s m args below meth c H locs cells slots Q (F0 m pc ls (.int n :: rest)) := by
  obtain ⟨hP, hD, hS, hz⟩ := hX
  subst hN
  subst hz
  refine W.anew hexec hb hown hclink hover rfl hdg rfl hn hbytes hcells hslots fun cA kA comp f1 f2 f3 f4 => ?_
  have hcA : cA = ab_cA E k := by
    have h2 := (hK.2 k _ (ab_ty_at E hk6)).2
    rw [show (ab_cA E k, ab_el k).2 = .object C from hty] at h2
    obtain ⟨kA', comp', g1, g2, g3, g4⟩ := h2
    exact Option.some.inj (f1.symm.trans g4)
  subst hcA
  generalize hH1 : H.push ({ cls := ab_cA E k, slots := Array.replicate n.toNatClampNeg .null, vm := .none } : Cell) = H1
  have z1 : H1.size = H.size + 1 := by rw [← hH1, Array.size_push]
  have e1 : H1[H.size]? = some (arrV (ab_cA E k) n.toNatClampNeg (fun _ => .null)) := by rw [← hH1, Array.getElem?_push_size, ← arrV_new]
  have o1 : ∀ q : Nat, q < H.size → H1[q]? = H[q]? := fun q hq => by rw [← hH1, Array.getElem?_push, if_neg (Nat.ne_of_lt hq)]
  have hk : ∀ (k : Nat) (x : Nat × va_E), ws[k]? = some x → H1[x.1]? = H[x.1]? := fun k x hx => o1 x.1 ((hP k x hx).lt)
  refine kk H1 ⟨(hP.kept hk).app (fun k x hx => ?_), hD.push hP rfl (hA _ hS.1), ⟨Nat.le_trans hS.1 (by omega), fun x h1 h2 => (o1 x (Nat.lt_of_lt_of_le h1 hS.1)).trans (hS.2.1 x h1 h2), hS.2.2⟩, z1⟩
  have hz : k < 1 := (List.getElem?_eq_some_iff.mp hx).1
  rw [show k = 0 by omega] at hx
  cases hx
  show H1[H.size]? = some (vp_cell _ _)
  rw [vp_cell_q]
  exact e1
end NWJ
section NWK
variable {own : Nat} {b : ByteArray} {R : Room} {nL : Nat} {E : ab_E} {a N0 N1 kF mF : Nat} {WF : va_W} {pc pc2 : Nat} {L : List (Nat × Value)} {st : List Value} {ws : va_W} {n cells slots : Nat}
theorem ng_eq {ws' : va_W} {n' cells' slots' : Nat} (hw : ws = ws') (hn : n = n') (hc : cells = cells') (hs : slots = slots') (k : nw_G own b R nL E a N0 N1 kF mF WF pc L st ws' n' cells' slots') : nw_G own b R nL E a N0 N1 kF mF WF pc L st ws n cells slots := by
  subst hw hn hc hs
  exact k
theorem ng_il1 {x : Int32} (hd : decode b pc = .ok (.iload_n 1, 1)) (hp : pc + 1 = pc2) (j : Nat) (hj : L[j]? = some (1, .int x)) (k : nw_G own b R nL E a N0 N1 kF mF WF pc2 L (.int x :: st) ws n cells slots) : nw_G own b R nL E a N0 N1 kF mF WF pc L st ws n cells slots := by
  intro p l e s m args below meth c H locs ls hfl F hml X hl
  subst hp
  exact lv_iload_n F.1 F.2.1 hd rfl (lv_at hl j hj) (k p l e s m args below meth c H locs ls hfl F hml X hl)
theorem ng_is1 {x : Int32} {L' : List (Nat × Value)} (hd : decode b pc = .ok (.istore_n 1, 1)) (hp : pc + 1 = pc2) (hn : 1 < nL) (hL : (1, Value.int x) :: L.filter (fun q => !(q.1 == 1) && !(q.1 + 1 == 1 && q.2.category == 2)) = L') (k : nw_G own b R nL E a N0 N1 kF mF WF pc2 L' st ws n cells slots) : nw_G own b R nL E a N0 N1 kF mF WF pc L (.int x :: st) ws n cells slots := by
  intro p l e s m args below meth c H locs ls hfl F hml X hl
  subst hp
  exact lv_istore_n F.1 F.2.1 hd rfl hl hn hL (fun ls' hl' => k p l e s m args below meth c H locs ls' hfl F hml X hl')
theorem ng_inc {x v : Int32} {L' : List (Nat × Value)} (hd : decode b pc = .ok (.iinc 1 1, 3)) (hp : pc + 3 = pc2) (hn : 1 < nL) (j : Nat) (hj : L[j]? = some (1, .int x)) (hv : x + Int32.ofInt 1 = v) (hL : (1, Value.int v) :: L.filter (fun q => !(q.1 == 1) && !(q.1 + 1 == 1 && q.2.category == 2)) = L') (k : nw_G own b R nL E a N0 N1 kF mF WF pc2 L' st ws n cells slots) : nw_G own b R nL E a N0 N1 kF mF WF pc L st ws n cells slots := by
  intro p l e s m args below meth c H locs ls hfl F hml X hl
  subst hp
  exact lv_iinc F.1 F.2.1 hd hl hj hv hn hL (fun ls' hl' => k p l e s m args below meth c H locs ls' hfl F hml X hl')
theorem ng_alen {x e : Nat} {a0 : vp_A} {v : Int32} (hd : decode b pc = .ok (.arraylength, 1)) (hp : pc + 1 = pc2) (q0 : Nat) (he : ws[q0]? = some (x, .inl (ab_cA E e, a0))) (h6 : e < 6) (hv : Int32.ofNat a0.1 = v) (k : nw_G own b R nL E a N0 N1 kF mF WF pc2 L (.int v :: st) ws n cells slots) : nw_G own b R nL E a N0 N1 kF mF WF pc L (.ref x :: st) ws n cells slots := by
  intro p l e s m args below meth c H locs ls hfl F hml X hl
  subst hp
  obtain ⟨hx, hb, hown, hts, hNW, hK, -⟩ := id F
  exact va_alen hx hb hK X.1 q0 _ he (ab_ty_at E h6) hv hd (k p l e s m args below meth c H locs ls hfl F hml X hl)
theorem ng_iast {x n' : Nat} {f : Nat → Int32} {i v : Int32} (hd : decode b pc = .ok (.iastore, 1)) (hp : pc + 1 = pc2) (q0 : Nat) (he : ws[q0]? = some (x, .inl (ab_cA E 0, n', .inl f))) (hin : vp_in i n') (k : nw_G own b R nL E a N0 N1 kF mF WF pc2 L st (ws.set q0 (x, .inl (ab_cA E 0, n', .inl (upd f i.toNatClampNeg v)))) n cells slots) : nw_G own b R nL E a N0 N1 kF mF WF pc L (.int v :: .int i :: .ref x :: st) ws n cells slots := by
  intro p l e s m args below meth c H locs ls hfl F hml X hl
  subst hp
  obtain ⟨hx, hb, hown, hts, hNW, hK, -⟩ := id F
  exact nw_iast hx hb hK X q0 he hin hd (fun H1 locs1 X1 => k p l e s m args below meth c H1 locs1 ls hfl F hml X1 hl)
theorem ng_last {x n' : Nat} {f : Nat → Int64} {i : Int32} {v : Int64} (hd : decode b pc = .ok (.lastore, 1)) (hp : pc + 1 = pc2) (q0 : Nat) (he : ws[q0]? = some (x, .inl (ab_cA E 1, n', .inr (.inl f)))) (hin : vp_in i n') (k : nw_G own b R nL E a N0 N1 kF mF WF pc2 L st (ws.set q0 (x, .inl (ab_cA E 1, n', .inr (.inl (vp_updL f i.toNatClampNeg v))))) n cells slots) : nw_G own b R nL E a N0 N1 kF mF WF pc L (.long v :: .int i :: .ref x :: st) ws n cells slots := by
  intro p l e s m args below meth c H locs ls hfl F hml X hl
  subst hp
  obtain ⟨hx, hb, hown, hts, hNW, hK, -⟩ := id F
  exact nw_last hx hb hK X q0 he hin hd (fun H1 locs1 X1 => k p l e s m args below meth c H1 locs1 ls hfl F hml X1 hl)
theorem ng_ldc2 {idx : Nat} {v : Int64} (hd : decode b pc = .ok (.ldc2_w idx, 3)) (hp : pc + 3 = pc2) (hk : Cond.constantLong (ab_cn own) idx v ∈ ab_W0) (k : nw_G own b R nL E a N0 N1 kF mF WF pc2 L (.long v :: st) ws n cells slots) : nw_G own b R nL E a N0 N1 kF mF WF pc L st ws n cells slots := by
  intro p l e s m args below meth c H locs ls hfl F hml X hl
  subst hp
  obtain ⟨hx, hb, hown, hts, -⟩ := id F
  exact lv_ldc2 hx hb hown (hts _ hk) hd (k p l e s m args below meth c H locs ls hfl F hml X hl)
theorem ng_anew {C : String} {idx q : Nat} {i : Int32} {N' : Nat} (hd : decode b pc = .ok (.anewarray idx, 3)) (hp : pc + 3 = pc2) (hq6 : q < 6) (hty : ab_el q = .object C) (hlk : Cond.classLink (ab_cn own) idx C ∈ ab_W0) (hov : Cond.arrayOver (.object C) ∈ ab_W0) (hn : ¬ i < 0) (hN : i.toNatClampNeg = N') (hbytes : N' * 4 ≤ 536870912) (hR : cells + 1 ≤ R.cells ∧ slots + N' ≤ R.slots) (k : nw_G own b R nL E a N0 N1 kF mF WF pc2 L (.ref n :: st) (ws ++ [(n, .inl (ab_cA E q, N', .inr (.inr (.inr (.inr (fun _ => none))))))]) (n + 1) (cells + 1) (slots + N')) : nw_G own b R nL E a N0 N1 kF mF WF pc L (.int i :: st) ws n cells slots := by
  intro p l e s m args below meth c H locs ls hfl F hml X hl
  subst hp
  obtain ⟨hx, hb, hown, hts, hNW, hK, hsz, -⟩ := id F
  exact nw_anew hx hb hown (hts _ hlk) (hts _ hov) hK hq6 hty X (fun y hy => Or.inr (by rw [← hsz]; exact hy)) hn hN hbytes hR.1 hR.2 hd (fun H1 X1 => k p l e s m args below meth c H1 locs ls hfl F hml X1 hl)
theorem ng_ast {x v n' ci qe : Nat} {r : vw_C} {vs : List Value} {f : Nat → Option Nat} {i : Int32} (hd : decode b pc = .ok (.aastore, 1)) (hp : pc + 1 = pc2) (h6 : qe < 6) (hty : ab_el qe = .object r.1) (q0 : Nat) (he : ws[q0]? = some (x, .inl (ab_cA E qe, n', .inr (.inr (.inr (.inr f)))))) (qk : Nat) (hv : ws[qk]? = some (v, .inr (ci, vs))) (hr : vwCl[ci]? = some r) (hin : vp_in i n') (k : nw_G own b R nL E a N0 N1 kF mF WF pc2 L st (ws.set q0 (x, .inl (ab_cA E qe, n', .inr (.inr (.inr (.inr (va_up f i.toNatClampNeg (some v)))))))) n cells slots) : nw_G own b R nL E a N0 N1 kF mF WF pc L (.ref v :: .int i :: .ref x :: st) ws n cells slots := by
  intro p l e s m args below meth c H locs ls hfl F hml X hl
  subst hp
  obtain ⟨hx, hb, hown, hts, hNW, hK, -⟩ := id F
  exact nw_ast hx hb hK X q0 qe qk ci he (by rw [ab_ty_at E h6, hty]) hv hr hin hd (fun H1 locs1 X1 => k p l e s m args below meth c H1 locs1 ls hfl F hml X1 hl)
end NWK
-- ===== Standing =====
theorem nf5 : ∀ j, j < (ab_fs 5).length → defaultValue (ab_tt 5 j) = vp_V ([.null, .null, .null, .long 0, .int 0] : List Value) j := fun j hj => match j, hj with
  | 0, _ => rfl
  | 1, _ => rfl
  | 2, _ => rfl
  | 3, _ => rfl
  | 4, _ => rfl
  | n + 5, h => absurd h (by show ¬ (n + 5 < 5); omega)
def h8f (k : Nat) : Nat → Int32 := fun j => if j < k then -1 else 0
theorem h8_up {k : Nat} (hk : k < 8) : upd (h8f k) (nI k).toNatClampNeg (-1) = h8f (k + 1) := by
  have e : (nI k).toNatClampNeg = k := nI_clamp (by omega)
  rw [e]
  funext j
  simp only [upd, h8f]
  by_cases h1 : j = k
  · subst h1
    simp
  · by_cases h2 : j < k
    · simp [h1, h2, show j < k + 1 by omega]
    · simp [h1, h2, show ¬ j < k + 1 by omega]
def w5s (E : ab_E) (a N0 k : Nat) : va_W := [(a, .inr (5, [.ref (N0), .ref (N0 + 1), .ref (N0 + 2), .long 0, .int 0])), (N0, .inl (ab_cA E 0, (8, .inl (h8f k)))), (N0 + 1, .inl (ab_cA E 0, (6, .inl (fun _ => 0)))), (N0 + 2, .inl (ab_cA E 0, (6, .inl (fun _ => 0))))]
def nW5 (E : ab_E) (a N0 : Nat) : va_W := w5s E a N0 8
theorem nl5 {E : ab_E} {a N0 : Nat} : ∀ d k, k + d = 8 → nw_G 5 cX5_init { frames := 1, cells := 3, slots := 20, locals := 40 } 2 E a N0 (N0 + 3) 3 20 (nW5 E a N0) 30 [(1, .int (nI k)), (0, .ref a)] [] (w5s E a N0 k) (N0 + 3) 3 20 := by
  intro d
  induction d with
  | zero =>
    intro k hk
    have ek : k = 8 := by omega
    subst ek
    refine ng_il1 (pc2 := 31) (by decide +kernel) rfl 0 rfl ?_
    refine ng_al0 (pc2 := 32) (x := a) (by decide +kernel) rfl 1 rfl ?_
    refine ng_get (idx := 9) (pc2 := 35) (by decide +kernel) (by decide) 0 rfl 0 (by decide) (by decide +kernel) rfl rfl rfl ?_
    refine ng_alen (e := 0) (v := 8) (pc2 := 36) (by decide +kernel) rfl 1 rfl (by decide) rfl ?_
    refine ng_ige1 (tgt := 52) (off := 16) (by decide +kernel) (by decide) (by decide +kernel) ?_
    exact ng_vret (by decide +kernel) rfl rfl rfl rfl
  | succ d ih =>
    intro k hk
    refine ng_il1 (pc2 := 31) (by decide +kernel) rfl 0 rfl ?_
    refine ng_al0 (pc2 := 32) (x := a) (by decide +kernel) rfl 1 rfl ?_
    refine ng_get (idx := 9) (pc2 := 35) (by decide +kernel) (by decide) 0 rfl 0 (by decide) (by decide +kernel) rfl rfl rfl ?_
    refine ng_alen (e := 0) (v := 8) (pc2 := 36) (by decide +kernel) rfl 1 rfl (by decide) rfl ?_
    refine ng_ige0 (tgt := 52) (off := 16) (pc2 := 39) (by decide +kernel) (by decide) (show nI k < nI 8 from (nI_ltI (by omega) (by decide)).mpr (by omega)) rfl ?_
    refine ng_al0 (pc2 := 40) (x := a) (by decide +kernel) rfl 1 rfl ?_
    refine ng_get (idx := 9) (pc2 := 43) (by decide +kernel) (by decide) 0 rfl 0 (by decide) (by decide +kernel) rfl rfl rfl ?_
    refine ng_il1 (pc2 := 44) (by decide +kernel) rfl 0 rfl ?_
    refine ng_ic (v := -1) (x := -1) (pc2 := 45) (by decide +kernel) (by decide +kernel) rfl ?_
    refine ng_iast (pc2 := 46) (by decide +kernel) rfl 1 rfl (vp_in_nI (by omega) (by decide)) ?_
    refine ng_inc (pc2 := 49) (v := nI (k + 1)) (L' := [(1, .int (nI (k + 1))), (0, .ref a)]) (by decide +kernel) rfl (by decide) 0 rfl (nI_1 k) rfl ?_
    refine ng_goto (off := -19) (tgt := 30) (by decide +kernel) (by decide) ?_
    refine ng_eq (ws' := w5s E a N0 (k + 1)) ?_ rfl rfl rfl (ih (k + 1) (by omega))
    rw [h8_up (show k < 8 by omega)]
    rfl
theorem nC5 : nw_C yX5_init cX5_init 2 { frames := 1, cells := 3, slots := 20, locals := 40 } 5 [.null, .null, .null, .long 0, .int 0] 3 nW5 := by
  refine nw_entry (own := 5) (by decide +kernel) rfl rfl (by decide) (fun E a N0 hlt => ?_)
  refine ng_al0 (pc2 := 1) (x := a) (by decide +kernel) rfl 0 rfl ?_
  refine ng_obj (idx := 3) (pc2 := 4) (by decide +kernel) ⟨by decide +kernel, by decide +kernel, by decide +kernel⟩ ⟨by decide, by decide⟩ rfl ?_
  refine ng_al0 (pc2 := 5) (x := a) (by decide +kernel) rfl 0 rfl ?_
  refine ng_bi (w := 8) (x := 8) (pc2 := 7) (by decide +kernel) (by decide +kernel) rfl ?_
  refine ng_arr (N' := 8) (a0 := (8, .inl (fun _ => 0))) (pc2 := 9) (by decide +kernel) 0 (by decide) rfl (by decide +kernel) (nz0 8) (by decide +kernel) (by decide +kernel) (Nat.le_of_ble_eq_true rfl) ⟨Nat.le_of_ble_eq_true rfl, Nat.le_of_ble_eq_true rfl⟩ rfl ?_
  refine ng_put (idx := 9) (pc2 := 12) (by decide +kernel) (by decide) 0 rfl 0 (by decide) (by decide +kernel) rfl rfl rfl rfl (by show 0 < 5; decide) rfl ?_
  refine ng_al0 (pc2 := 13) (x := a) (by decide +kernel) rfl 0 rfl ?_
  refine ng_bi (w := 6) (x := 6) (pc2 := 15) (by decide +kernel) (by decide +kernel) rfl ?_
  refine ng_arr (N' := 6) (a0 := (6, .inl (fun _ => 0))) (pc2 := 17) (by decide +kernel) 0 (by decide) rfl (by decide +kernel) (nz0 6) (by decide +kernel) (by decide +kernel) (Nat.le_of_ble_eq_true rfl) ⟨Nat.le_of_ble_eq_true rfl, Nat.le_of_ble_eq_true rfl⟩ rfl ?_
  refine ng_put (idx := 15) (pc2 := 20) (by decide +kernel) (by decide) 0 rfl 1 (by decide) (by decide +kernel) rfl rfl rfl rfl (by show 1 < 5; decide) rfl ?_
  refine ng_al0 (pc2 := 21) (x := a) (by decide +kernel) rfl 0 rfl ?_
  refine ng_bi (w := 6) (x := 6) (pc2 := 23) (by decide +kernel) (by decide +kernel) rfl ?_
  refine ng_arr (N' := 6) (a0 := (6, .inl (fun _ => 0))) (pc2 := 25) (by decide +kernel) 0 (by decide) rfl (by decide +kernel) (nz0 6) (by decide +kernel) (by decide +kernel) (Nat.le_of_ble_eq_true rfl) ⟨Nat.le_of_ble_eq_true rfl, Nat.le_of_ble_eq_true rfl⟩ rfl ?_
  refine ng_put (idx := 18) (pc2 := 28) (by decide +kernel) (by decide) 0 rfl 2 (by decide) (by decide +kernel) rfl rfl rfl rfl (by show 2 < 5; decide) rfl ?_
  refine ng_ic (v := 0) (x := 0) (pc2 := 29) (by decide +kernel) (by decide +kernel) rfl ?_
  refine ng_is1 (pc2 := 30) (L' := [(1, .int (nI 0)), (0, .ref a)]) (by decide +kernel) rfl (by decide) rfl ?_
  refine ng_eq (ws' := w5s E a N0 0) ?_ rfl rfl rfl (nl5 8 0 rfl)
  unfold w5s
  rw [show h8f 0 = (fun _ => 0) from funext fun j => by simp [h8f]]
  rfl
