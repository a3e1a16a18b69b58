def tx_ds : List MethodName := [Bundle.initS "java/lang/RuntimeException", Bundle.initS "java/lang/Exception", Bundle.initS Bundle.tN]
theorem tx_ws_W : ∀ w ∈ Cond.classLink RX9 278 "java/util/NoSuchElementException" :: Cond.initialized "java/util/NoSuchElementException" :: tx_ws, w ∈ ab_W0 ∨ w ∈ tx_ds.map Cond.declares := by decide +kernel
/-! a body that may throw: the judgement ab_GX (answer 'none': the exception of rests flies), its rows by renaming the rows of parts 08 to 10 (wip/gen/rows45.py) -/
def ab_rmx (d : Nat) : Room := { frames := d, cells := 1, slots := 6, locals := 64 * d }
def rx_N : String := "java/util/NoSuchElementException"
def ab_SX (A : Nat → Prop) (U : State) (H : Heap) : Prop := vx_Zq Bundle.tN "UNASSIGNED_STACK" Bundle.steD A U H ∧ vx_Zq Bundle.tN "SUPPRESSED_SENTINEL" Bundle.listD A U H ∧ (∃ a, vk_R RX9 280 "no such bargain" a U) ∧ (∃ a, vk_R RX9 289 "no such rest" a U) ∧ ∀ y ∈ tx_ds, va_Nw (.declares y) U
theorem tx_dm {y : MethodName} {s U : State} (hW : s.WarmedH U.vm) (h : va_Nw (.declares y) s) : va_Nw (.declares y) U := va_tabs rfl (rfl : (s.setVm U.vm).vm = U.vm) (by rw [Cond.declares_setVm hW.alike]; exact h)
theorem ab_SX.kept {A : Nat → Prop} {U : State} {H H1 : Heap} (h : ab_SX A U H) (hq : ∀ a : Nat, a < H.size → ¬ A a → H1[a]? = H[a]?) : ab_SX A U H1 := ⟨h.1.kept hq, h.2.1.kept hq, h.2.2⟩
theorem ab_SX.moved {A : Nat → Prop} {s U : State} {H : Heap} (hW : s.WarmedH U.vm) (h : ab_SX A s H) : ab_SX A U H := by
  obtain ⟨h1, h2, ⟨a, h3⟩, ⟨a', h4⟩, h5⟩ := h
  exact ⟨vx_Zq.moved hW.alike h1, vx_Zq.moved hW.alike h2, ⟨a, vk_R.warm hW h3⟩, ⟨a', vk_R.warm hW h4⟩, fun y hy => tx_dm hW (h5 y hy)⟩
theorem ab_SX.narrow {A B : Nat → Prop} {U : State} {H : Heap} (h : ab_SX A U H) (hAB : ∀ q, B q → A q) : ab_SX B U H := ⟨h.1.narrow hAB, h.2.1.narrow hAB, h.2.2⟩
theorem ab_SX.same {A : Nat → Prop} {s U : State} {H : Heap} (hv : U.vm = s.vm) (h : ab_SX A s H) : ab_SX A U H := h.moved (by rw [hv]; exact State.WarmedH.refl s)
def ab_QX (E : ab_E) (sy : Nat) (x : Option Int32) (u' : ab_S) : Array Value → State → Outcome → State → Prop := fun a st o t => ∃ v, x = some v ∧ ab_Q E sy wI v u' a st o t
def ab_XX (E : ab_E) (sy : Nat) (x : Option Int32) (u' : ab_S) : String → State → State → Prop := fun C st t => x = none ∧ C = rx_N ∧ va_P (E.1, E.2.1) vwCl (ab_wd E sy u') t.heap ∧ ab_WT sy u' ∧ va_F (ab_A E sy) st t
def ab_GX (sy own : Nat) (b : ByteArray) (rt : Option FieldType) (d pc : Nat) (L : List (Option ab_V)) (st : List ab_V) (u : ab_S) (r : Option (Option Int32 × ab_S)) : Prop :=
  ∀ (x : Option Int32) (u' : ab_S), r = some (x, u') → ∀ (p : Program) (l : Launch) (e : Env) (s : State) (m : MethodId) (args : Array Value) (below : List Frame) (meth : Method) (c : Code) (H : Heap) (locs : List Loc) (ls : Array Slot) (E : ab_E),
    l.flags = flags0 → ab_F p s m args c E sy own b (ab_A E sy) → (ab_SX (ab_A E sy) s s.heap ∧ c.exceptionTable.toList = []) → meth.sig.returnType = rt → meth.locks = false → c.maxLocals = L.length → ab_X E sy (ab_A E sy) s u H locs → ab_hl E ls L → (∀ (j : Nat) (w : ab_V), L[j]? = some (some w) → ab_ok sy w) → ab_oks sy st →
    W p l e (ab_rmx d) s m args below meth c H locs 0 0 (vx_MQ below (ab_QX E sy x u') (ab_XX E sy x u') args s 1 6 (ab_A E sy)) (F0 m pc ls (st.map (ab_vm E)))
theorem rx_fl {l : Launch} (h : l.flags = flags0) : l.stackTraces = false := by
  unfold Launch.stackTraces
  rw [h]
  decide +kernel

section AGX
variable {sy own : Nat} {b : ByteArray} {rt : Option FieldType} {d pc : Nat} {L : List (Option ab_V)} {st : List ab_V} {u : ab_S} {r r1 r2 : Option (Option Int32 × ab_S)}
theorem xg_seg {pc' : Nat} {L' : List (Option ab_V)} {st' : List ab_V} {u1 : ab_S} {gs : List Bool} (is : List (ab_O × Nat)) (hd : ab_dcs own b pc is = true) (hp : ab_sl pc is = pc') (hr : ab_seg own is L st u = some (gs, L', st', u1)) (k : ab_GX sy own b rt d pc' L' st' u1 r) : ab_GX sy own b rt d pc L st u (ab_gd gs r) := by
  intro x u' hx p l e s m args below meth c H locs ls E hfl F hSX hret hlk hml X hl hL hst
  obtain ⟨h1, h2⟩ := ab_gd_some hx
  refine ab_seg_ok F is X hl hL hst hd hr h1 (fun H1 locs1 ls1 X1 hl1 hn1 hL1 hst1 => ?_)
  rw [hp]
  exact k x u' h2 p l e s m args below meth c H1 locs1 ls1 E hfl F hSX hret hlk (by rw [hn1]; exact hml) X1 hl1 hL1 hst1
theorem xg_seg0 {pc' : Nat} {L' : List (Option ab_V)} {st' : List ab_V} {u1 : ab_S} (is : List (ab_O × Nat)) (hd : ab_dcs own b pc is = true) (hp : ab_sl pc is = pc') (hr : ab_seg own is L st u = some ([], L', st', u1)) (k : ab_GX sy own b rt d pc' L' st' u1 r) : ab_GX sy own b rt d pc L st u r :=
  xg_seg is hd hp hr k
theorem xg_weak {L' : List (Option ab_V)} (hn : L'.length = L.length) (hw : ∀ (i : Nat) (v : ab_V), L'[i]? = some (some v) → L[i]? = some (some v)) (k : ab_GX sy own b rt d pc L' st u r) : ab_GX sy own b rt d pc L st u r := by
  intro x u' hx p l e s m args below meth c H locs ls E hfl F hSX hret hlk hml X hl hL hst
  exact k x u' hx p l e s m args below meth c H locs ls E hfl F hSX hret hlk (by rw [hn]; exact hml) X (hl.weak hn hw) (fun j v h => hL j v (hw j v h)) hst
theorem xg_goto {off : Int} {tgt : Nat} (hd : decode b pc = .ok (.goto off, 3)) (ht : (pc : Int) + off = (tgt : Int)) (k : ab_GX sy own b rt d tgt L st u r) : ab_GX sy own b rt d pc L st u r := by
  intro x u' hx p l e s m args below meth c H locs ls E hfl F hSX hret hlk hml X hl hL hst
  exact lv_goto F.1 F.2.1 hd ht (k x u' hx p l e s m args below meth c H locs ls E hfl F hSX hret hlk hml X hl hL hst)
theorem xg_ieq {x y : Int32} {off : Int} {tgt pc2 : Nat} (hd : decode b pc = .ok (.if_icmp .eq off, 3)) (ht : (pc : Int) + off = (tgt : Int)) (hp : pc + 3 = pc2) (k1 : ab_GX sy own b rt d tgt L st u r1) (k2 : ab_GX sy own b rt d pc2 L st u r2) : ab_GX sy own b rt d pc L (.inl y :: .inl x :: st) u (bif decide (x = y) then r1 else r2) := by
  intro z u' hx p l e s m args below meth c H locs ls E hfl F hSX hret hlk hml X hl hL hst
  subst hp
  have hc := ab_cnd hx
  exact lv_icmp_eq F.1 F.2.1 hd ht (fun h => k1 z u' (hc.1 h) p l e s m args below meth c H locs ls E hfl F hSX hret hlk hml X hl hL hst.tl.tl) (fun h => k2 z u' (hc.2 h) p l e s m args below meth c H locs ls E hfl F hSX hret hlk hml X hl hL hst.tl.tl)
theorem xg_ine {x y : Int32} {off : Int} {tgt pc2 : Nat} (hd : decode b pc = .ok (.if_icmp .ne off, 3)) (ht : (pc : Int) + off = (tgt : Int)) (hp : pc + 3 = pc2) (k1 : ab_GX sy own b rt d tgt L st u r1) (k2 : ab_GX sy own b rt d pc2 L st u r2) : ab_GX sy own b rt d pc L (.inl y :: .inl x :: st) u (bif decide (x = y) then r2 else r1) := by
  intro z u' hx p l e s m args below meth c H locs ls E hfl F hSX hret hlk hml X hl hL hst
  subst hp
  have hc := ab_cnd hx
  exact lv_icmp_ne F.1 F.2.1 hd ht (fun h => k1 z u' (hc.2 h) p l e s m args below meth c H locs ls E hfl F hSX hret hlk hml X hl hL hst.tl.tl) (fun h => k2 z u' (hc.1 h) p l e s m args below meth c H locs ls E hfl F hSX hret hlk hml X hl hL hst.tl.tl)
theorem xg_ige {x y : Int32} {off : Int} {tgt pc2 : Nat} (hd : decode b pc = .ok (.if_icmp .ge off, 3)) (ht : (pc : Int) + off = (tgt : Int)) (hp : pc + 3 = pc2) (k1 : ab_GX sy own b rt d tgt L st u r1) (k2 : ab_GX sy own b rt d pc2 L st u r2) : ab_GX sy own b rt d pc L (.inl y :: .inl x :: st) u (bif decide (x < y) then r2 else r1) := by
  intro z u' hx p l e s m args below meth c H locs ls E hfl F hSX hret hlk hml X hl hL hst
  subst hp
  have hc := ab_cnd hx
  exact lv_icmp_ge F.1 F.2.1 hd ht (fun h => k1 z u' (hc.2 (Int32.not_lt.mpr h)) p l e s m args below meth c H locs ls E hfl F hSX hret hlk hml X hl hL hst.tl.tl) (fun h => k2 z u' (hc.1 (Int32.not_le.mp h)) p l e s m args below meth c H locs ls E hfl F hSX hret hlk hml X hl hL hst.tl.tl)
theorem xg_zeq {x : Int32} {off : Int} {tgt pc2 : Nat} (hd : decode b pc = .ok (.ifCond .eq off, 3)) (ht : (pc : Int) + off = (tgt : Int)) (hp : pc + 3 = pc2) (k1 : ab_GX sy own b rt d tgt L st u r1) (k2 : ab_GX sy own b rt d pc2 L st u r2) : ab_GX sy own b rt d pc L (.inl x :: st) u (bif decide (x = 0) then r1 else r2) := by
  intro z u' hx p l e s m args below meth c H locs ls E hfl F hSX hret hlk hml X hl hL hst
  subst hp
  have hc := ab_cnd hx
  exact lv_if_eq F.1 F.2.1 hd ht (fun h => k1 z u' (hc.1 h) p l e s m args below meth c H locs ls E hfl F hSX hret hlk hml X hl hL hst.tl) (fun h => k2 z u' (hc.2 h) p l e s m args below meth c H locs ls E hfl F hSX hret hlk hml X hl hL hst.tl)
theorem xg_jump {L' : List (Option ab_V)} (m : List Bool) (hm : ab_mk m L = L') (k : ab_GX sy own b rt d pc L' st u r) (hn : m.length = L.length := by rfl) : ab_GX sy own b rt d pc L st u r :=
  xg_weak (L' := L') (by rw [← hm]; exact ab_mk_len m L hn) (fun i v h => ab_mk_ok m L i v (by rw [hm]; exact h)) k
theorem xg_none : ab_GX sy own b rt d pc L st u (none : Option (Option Int32 × ab_S)) := fun _ _ h => by cases h
theorem xg_iret {v : Int32} (hd : decode b pc = .ok (.ireturn, 1)) (hr : rt = some .int) : ab_GX sy own b rt d pc L [.inl v] u (some (some v, u)) := by
  intro x u' hx p l e s m args below meth c H locs ls E hfl F hSX hret hlk hml X hl hL hst
  cases hx
  intro T hT Y
  exact vx_ret (W.iret (cells := 1) (slots := 6) F.1 F.2.1 (by rw [hret, hr]) (fun t ht _ => ⟨v, rfl, rfl, by rw [ht]; exact X.1, X.2.2.2, X.2.2.1.F ht⟩) X.2.2.1.2.2 hd hlk) T hT (stand_widen Y (Nat.zero_le _) (Nat.zero_le _))

theorem xg_throw {is : Nat} {text : String} (hs : ∀ (A : Nat → Prop) (U : State) (H : Heap), ab_SX A U H → ∃ a, vk_R RX9 is text a U) (d0 : decode b pc = .ok (.new 278, 3)) (d3 : decode b (pc + 3) = .ok (.dup, 1)) (d4 : decode b (pc + 4) = .ok (.ldc_w is, 3)) (d7 : decode b (pc + 7) = .ok (.invokespecial 282, 3)) (d10 : decode b (pc + 10) = .ok (.athrow, 1))
    (ho : own = 8) (hd : 6 ≤ d) : ab_GX sy own b rt d pc L [] u (some (none, u)) := by
  intro x u' hx p l e s m args below meth c H locs ls E hfl F hSX hret hlk hml X hl hL hst
  cases hx
  subst ho
  obtain ⟨hex, hb, hown, hts, hNW, hK, hSF, -, -⟩ := id F
  obtain ⟨sa, hsa⟩ := hs _ _ _ hSX.1
  have htb : ∀ w ∈ Cond.classLink RX9 278 "java/util/NoSuchElementException" :: Cond.initialized "java/util/NoSuchElementException" :: tx_ws, w.before args s = true := fun w hw => (tx_ws_W w hw).elim (hts w) (fun h => by obtain ⟨y, hy, rfl⟩ := List.mem_map.mp h; exact va_Nw.use rfl (hSX.1.2.2.2.2 y hy))
  refine tx_throw (own := RX9) (cls := "java/util/NoSuchElementException") (sup := "java/lang/RuntimeException") (names := ["java/lang/Exception"]) (ik := 278) (is := is) (ic := 282) (ix := 13) (rx := tx_rx) (text := text) (sa := sa) (A := ab_A E sy)
    hex hb (rx_fl hfl) (by decide +kernel) (by decide +kernel) (by decide +kernel) (by decide +kernel) hown (by decide +kernel) (by decide +kernel) (by decide +kernel)
    (htb _ List.mem_cons_self) (htb _ (List.mem_cons_of_mem _ List.mem_cons_self)) hsa (fun w hw => htb w (List.mem_cons_of_mem _ (List.mem_cons_of_mem _ hw))) tx_ws_ot hSX.1.1 hSX.1.2.1 X.2.2.1 (hl.1.trans hml.symm)
    d0 d3 d4 d7 d10 (fun z hz => by rw [hSX.2] at hz; cases hz) (by show 1 + 4 < d; omega) (by show (([] : List Value).map fun v => v.category).sum + (13 * (1 + 2) + 43) ≤ 64 * d; simp; omega) (Nat.le_refl 1) (Nat.le_refl 6) hlk
    (fun t hA hz hk => ?_) X.2.2.1.2.2 (Nat.le_refl 1) (Nat.le_refl 6)
  refine ⟨rfl, rfl, X.1.kept (fun k q hq => hk q.1 (va_at.lt (X.1 k q hq))), X.2.2.2, Nat.le_trans X.2.2.1.1 hz, fun q h1 h2 => ?_⟩
  rw [hk q (Nat.lt_of_lt_of_le h1 X.2.2.1.1)]
  exact X.2.2.1.2.1 q h1 h2
end AGX
