/-! a constructor's body: the judgement nw_G (a world of cells at known addresses, the heap's size, cells and slots used), its rows, its contract nw_C -/
abbrev nw_A (a N0 : Nat) : Nat → Prop := fun q => q = a ∨ N0 ≤ q
def nw_F (p : Program) (s : State) (m : MethodId) (args : Array Value) (meth : Method) (c : Code) (E : ab_E) (own : Nat) (b : ByteArray) (N0 : Nat) : Prop :=
  p.tables.exec = Jvm.exec ∧ c.code = b ∧ s.vm.findClass (ab_cn own) = some m.cls ∧ (∀ w ∈ ab_W0, w.before args s = true) ∧ ab_NW s ∧ va_K (E.1, E.2.1) vwCl (ab_ty E) s ∧ s.heap.size = N0 ∧ meth.name = "<init>" ∧ meth.sig.returnType = none ∧ meth.locks = false
def nw_Q (E : ab_E) (a N0 N1 : Nat) (WF : va_W) : Array Value → State → Outcome → State → Prop := fun _ st o t =>
  o = .returned none ∧ va_P (E.1, E.2.1) vwCl WF t.heap ∧ t.heap.size = N1 ∧ va_F (nw_A a N0) st t ∧ va_D (nw_A a N0) WF
def nw_G (own : Nat) (b : ByteArray) (R : Room) (nL : Nat) (E : ab_E) (a N0 N1 kF mF : Nat) (WF : va_W) (pc : Nat) (L : List (Nat × Value)) (st : List Value) (ws : va_W) (n cells slots : Nat) : Prop :=
  ∀ (p : Program) (l : Launch) (e : Env) (s : State) (m : MethodId) (args : Array Value) (below : List Frame) (meth : Method) (c : Code) (H : Heap) (locs : List Loc) (ls : Array Slot), l.flags = flags0 → nw_F p s m args meth c E own b N0 → c.maxLocals = nL →
    nw_W E (nw_A a N0) s.heap ws n H locs → lv_has ls nL L → W p l e R s m args below meth c H locs cells slots (MQ below (nw_Q E a N0 N1 WF) args s kF mF (nw_A a N0)) (F0 m pc ls st)
section NWG
variable {own : Nat} {b : ByteArray} {R : Room} {nL : Nat} {E : ab_E} {a N0 N1 kF mF : Nat} {WF : va_W} {pc pc2 : Nat} {L : List (Nat × Value)} {st : List Value} {ws : va_W} {n cells slots : Nat}
theorem ng_al0 {x : Nat} (hd : decode b pc = .ok (.aload_n 0, 1)) (hp : pc + 1 = pc2) (j : Nat) (hj : L[j]? = some (0, .ref x)) (k : nw_G own b R nL E a N0 N1 kF mF WF pc2 L (.ref x :: st) ws n cells slots) : nw_G own b R nL E a N0 N1 kF mF WF pc L st ws n cells slots := by
  intro p l e s m args below meth c H locs ls hfl F hml X hl
  subst hp
  exact lv_aload_n F.1 F.2.1 hd rfl (lv_at hl j hj) (k p l e s m args below meth c H locs ls hfl F hml X hl)
theorem ng_ic {v : Int} {x : Int32} (hd : decode b pc = .ok (.iconst v, 1)) (hv : Int32.ofInt v = x) (hp : pc + 1 = pc2) (k : nw_G own b R nL E a N0 N1 kF mF WF pc2 L (.int x :: st) ws n cells slots) : nw_G own b R nL E a N0 N1 kF mF WF pc L st ws n cells slots := by
  intro p l e s m args below meth c H locs ls hfl F hml X hl
  subst hp
  exact lv_iconst F.1 F.2.1 hd hv (k p l e s m args below meth c H locs ls hfl F hml X hl)
theorem ng_dup {x : Value} (hd : decode b pc = .ok (.dup, 1)) (hx : x.category = 1) (hp : pc + 1 = pc2) (k : nw_G own b R nL E a N0 N1 kF mF WF pc2 L (x :: x :: st) ws n cells slots) : nw_G own b R nL E a N0 N1 kF mF WF pc L (x :: st) ws n cells slots := by
  intro p l e s m args below meth c H locs ls hfl F hml X hl
  subst hp
  exact lv_dup F.1 F.2.1 hd hx (k p l e s m args below meth c H locs ls hfl F hml X hl)
theorem ng_obj {x idx : Nat} (hd : decode b pc = .ok (.invokespecial idx, 3)) (hlk : Cond.methodLink (ab_cn own) idx Lib.objectInit ∈ ab_W0 ∧ Cond.instanceMethod Lib.objectInit ∈ ab_W0 ∧ Cond.code Lib.objectInit ⟨#[0xb1]⟩ 1 none ∈ ab_W0) (hR : 1 ≤ R.frames ∧ (st.map fun v => v.category).sum + 14 ≤ R.locals) (hp : pc + 3 = pc2)
    (k : nw_G own b R nL E a N0 N1 kF mF WF pc2 L st ws n cells slots) : nw_G own b R nL E a N0 N1 kF mF WF pc L (.ref x :: st) ws n cells slots := by
  intro p l e s m args below meth c H locs ls hfl F hml X hl
  subst hp
  obtain ⟨hx, hb, hown, hts, -⟩ := id F
  exact W.objInit hx hb hown (hts _ hlk.1) (hts _ hlk.2.1) (hts _ hlk.2.2) rfl (by rw [hml]; exact hl.1) rfl hd hR.1 (by show 2 * 0 + (st.map fun v => v.category).sum + 12 ≤ R.locals; omega) (k p l e s m args below meth c H locs ls hfl F hml X hl)
theorem ng_arr {atype : ArrayType} {i : Int32} {N' : Nat} {a0 : vp_A} (hd : decode b pc = .ok (.newarray atype, 2)) (q : Nat) (hq6 : q < 6) (hty : newarray.typeOf atype = ab_el q) (harr : Cond.arrayClass (newarray.typeOf atype) ∈ ab_W0) (ha : ∀ cA : ClassId, vp_cell cA a0 = arrV cA N' (fun _ => defaultValue (newarray.typeOf atype))) (hn : ¬ i < 0) (hN : i.toNatClampNeg = N') (hbytes : N' * componentBytes (newarray.typeOf atype) ≤ 536870912) (hR : cells + 1 ≤ R.cells ∧ slots + N' ≤ R.slots) (hp : pc + 2 = pc2)
    (k : nw_G own b R nL E a N0 N1 kF mF WF pc2 L (.ref n :: st) (ws ++ [(n, .inl (ab_cA E q, a0))]) (n + 1) (cells + 1) (slots + N')) : nw_G own b R nL E a N0 N1 kF mF WF pc L (.int i :: st) ws n cells slots := by
  intro p l e s m args below meth c H locs ls hfl F hml X hl
  subst hp
  obtain ⟨hx, hb, hown, hts, hNW, hK, hsz, -⟩ := id F
  exact nw_arr hx hb hK (hts _ harr) q hq6 hty X (fun y hy => Or.inr (by rw [← hsz]; exact hy)) ha hn hN hbytes hR.1 hR.2 hd (fun H1 X1 => k p l e s m args below meth c H1 locs ls hfl F hml X1 hl)
theorem ng_vret (hd : decode b pc = .ok (.return_, 1)) (hn : n = N1) (hk : cells = kF) (hm : slots = mF) (hws : ws = WF) : nw_G own b R nL E a N0 N1 kF mF WF pc L [] ws n cells slots := by
  intro p l e s m args below meth c H locs ls hfl F hml X hl
  subst hn
  subst hk
  subst hm
  subst hws
  obtain ⟨hx, hb, hown, hts, hNW, hK, hsz, hnm, hr, hlk⟩ := id F
  exact W.vret hx hb hr (fun t ht _ => ⟨rfl, by rw [ht]; exact X.1, by rw [ht]; exact X.2.2.2, X.2.2.1.F ht, X.2.1⟩) X.2.2.1.2.2 hd hlk
end NWG
def nw_B (E : ab_E) (a N0 ci : Nat) (fs : List Value) (U : State) : Prop := va_K (E.1, E.2.1) vwCl (ab_ty E) U ∧ va_P (E.1, E.2.1) vwCl [(a, .inr (ci, fs))] U.heap ∧ U.heap.size = N0 ∧ ab_NW U
theorem nw_B_blind (E : ab_E) (a N0 ci : Nat) (fs av : List Value) : FrameBlind (va_Pc av (nw_B E a N0 ci fs)) := by
  intro x U g mk h
  obtain ⟨h0, h1, h2, h3, h4⟩ := h
  exact ⟨h0, va_K.moved (u := U) (U := U.calling g mk x) (Vm.Alike.refl U.vm) h1, h2, h3, ab_NW.same (s := U) (U := U.calling g mk x) rfl h4⟩
def nw_C (y : MethodName) (b : ByteArray) (nL : Nat) (R : Room) (ci : Nat) (fs : List Value) (k : Nat) (WF : ab_E → Nat → Nat → va_W) : Prop :=
  ∀ (l : Launch) (E : ab_E) (a N0 : Nat), l.flags = flags0 → Met l y (Cond.code y b nL none :: ab_W0) R (va_Pc [.ref a] (nw_B E a N0 ci fs)) (nw_Q E a N0 (N0 + k) (WF E a N0)) R.cells R.slots (nw_A a N0)
theorem nw_entry {own : Nat} {y : MethodName} {b : ByteArray} {nL : Nat} {R : Room} {ci : Nat} {fs : List Value} {k : Nat} {WF : ab_E → Nat → Nat → va_W} (hy : plainName y.cls = true) (hc : y.cls = ab_cn own) (hi : y.name = "<init>") (hnL : 1 ≤ nL)
    (hG : ∀ (E : ab_E) (a N0 : Nat), a < N0 → nw_G own b R nL E a N0 (N0 + k) R.cells R.slots (WF E a N0) 0 [(0, .ref a)] [] [(a, .inr (ci, fs))] N0 0 0) : nw_C y b nL R ci fs k WF := by
  intro l E a N0 hfl
  refine Met.ofW (cc := b) (maxL := nL) (ret := none) hy rfl ?_
  intro p e s m args below meth c s₁ B hml hv
  obtain ⟨rfl, hK, hP, hsz, hNW⟩ := hv
  have hts := atoms_spec (ws := Cond.code y b nL none :: ab_W0) B.pre
  have hown : s.vm.findClass (ab_cn own) = some m.cls := by rw [← hc]; exact findClass_of_methodNamed B.named
  have hin : meth.name = "<init>" := (name_of_methodNamed B.named B.method).1.trans hi
  have hlt : a < N0 := by rw [← hsz]; exact (hP 0 _ rfl).lt
  have hl := lv_entry ([.ref a]) (n := nL) hnL
  rw [lg_entry_eq]
  refine hG E a N0 hlt p l e s m _ below meth c s.heap [] _ hfl ⟨B.exec, B.bytes, hown, fun w hw => hts w (List.mem_cons_of_mem _ hw), hNW, hK, hsz, hin, B.returns, B.notSynchronized⟩ hml ⟨hP, ⟨fun i j p q hp hq h => ?_, fun i q hq => ?_⟩, va_S.rf, hsz⟩ hl
  · have h1 : i < 1 := (List.getElem?_eq_some_iff.mp hp).1
    have h2 : j < 1 := (List.getElem?_eq_some_iff.mp hq).1
    omega
  · match i, hq with
    | 0, hq => cases hq; exact Or.inl rfl
    | i + 1, hq => simp at hq
