/-! calls -/
theorem ab_inT {y : Cond} (i : Nat) (h : lw_tbl[i]? = some y) (g : goodWord y = true) : y ∈ ab_W0 := List.mem_filter.mpr ⟨List.mem_of_getElem? h, g⟩
/-- what the tables say of a callee: its code, its kind, that its class is ready -/
def ab_mI (y : MethodName) (b : ByteArray) (nL : Nat) (rt : Option FieldType) (n : Nat) : Prop := Cond.code y b nL rt ∈ ab_W0 ∧ Cond.initialized y.cls ∈ ab_W0 ∧ (y.cls ≠ "java/lang/invoke/MethodHandle" ∧ y.cls ≠ "java/lang/invoke/VarHandle") ∧ (parseMethodDescriptor y.desc).map (fun d => d.parameters.length) = some n ∧ nL ≤ 45
def ab_mV (y : MethodName) : Prop := Cond.instanceMethod y ∈ ab_W0 ∧ Cond.selects y.cls y y ∈ ab_W0
def ab_mS (y : MethodName) : Prop := Cond.static y ∈ ab_W0
/-- a call site: the plain link, or the nest mate's -/
def ab_lp (own k : Nat) (y : MethodName) : Prop := Cond.methodLink (ab_cn own) k y ∈ ab_W0
def ab_ln' (own k : Nat) (y : MethodName) : Prop := Cond.methodLinkNest (ab_cn own) k y "SoulRaffle" ∈ lw_tbl
theorem ab_good0 {w : Cond} (h : w ∈ ab_W0) : (w.onTables && w.keeps) = true ∨ ∃ ty, w = .arrayClass ty := good_of_word (List.mem_filter.mp h).2
section ABI
variable {p : Program} {l : Launch} {e : Env} {s : State} {m : MethodId} {args : Array Value} {below : List Frame} {meth : Method} {c : Code} {H : Heap} {locs : List Loc} {Q : State → Prop} {E : ab_E} {sy own : Nat} {b : ByteArray} {u : ab_S} {pc : Nat} {ls : Array Slot} {d : Nat}
theorem ab_aft {τ : Type} {w : τ → Option ab_V} {x : τ} {u' : ab_S} {rest st0 : List Value} {a : Array Value} (hr : va_Run p l e (ab_rm d) s m args below meth c H locs 0 0 0 0 (F0 m pc ls st0) rest (ab_Q E sy w x u' a) (ab_A E sy)) (X : ab_X E sy (ab_A E sy) s u H locs)
    (kk : ∀ (H1 : Heap) (locs1 : List Loc), ab_X E sy (ab_A E sy) s u' H1 locs1 → W p l e (ab_rm d) s m args below meth c H1 locs1 0 0 Q (F0 m (pc + 3) ls (((w x).map (ab_vm E)).toList ++ rest))) : W p l e (ab_rm d) s m args below meth c H locs 0 0 Q (F0 m pc ls st0) := by
  obtain ⟨hP, hD, hS, hWT⟩ := X
  intro T hT Y
  obtain ⟨v, st₀, t, T', L, h0, Y', hL, e1, e2, ⟨hv, hP', hW', hz, hk⟩, stp⟩ := hr T hT Y
  cases hv
  rw [h0] at hz hk
  obtain ⟨t2, a1, b1⟩ := kk T'.heap (locs ++ L) ⟨by rw [e1]; exact hP', ab_D_eq hD, ⟨Nat.le_trans hS.1 (by rw [e1]; exact hz), fun q h1 h2 => by rw [e1, hk q (Nat.lt_of_lt_of_le h1 hS.1) h2]; exact hS.2.1 q h1 h2, fun q hq => by
      rcases List.mem_append.mp hq with h | h
      · exact hS.2.2 q h
      · exact hL q h⟩, hW'⟩ T' rfl Y'
  exact ⟨t2, stp t2 a1, b1⟩
theorem ab_pre {as : List ab_V} (F : ab_F p s m args c E sy own b (ab_A E sy)) (X : ab_X E sy (ab_A E sy) s u H locs) : ∀ U : State, U.heap = H → s.WarmedH U.vm → va_Pc (as.map (ab_vm E)) (ab_B E sy u) (as.map (ab_vm E)).toArray U := by
  obtain ⟨hx, hb, hown, hts, hNW, hK, hSF, ho, hs⟩ := F
  obtain ⟨hP, hD, hS, hWT⟩ := X
  intro U hU hW
  exact ⟨rfl, va_K.moved hW.alike hK, by rw [hU]; exact hP, hD, by rw [hU]; exact ab_SF.moved hW (ab_SF.kept hSF hS.2.1), ab_NW.moved hW hNW, hWT⟩
theorem ab_ws {y : MethodName} {b' : ByteArray} {nL' : Nat} {rt' : Option FieldType} (hts : ∀ w ∈ ab_W0, w.before args s = true) (hc : Cond.code y b' nL' rt' ∈ ab_W0) : ∀ w ∈ (Cond.code y b' nL' rt' :: ab_W0), ∀ (a' : Array Value) (U : State), s.WarmedH U.vm → w.before a' U = true :=
  pay_in hts (fun w hw => (List.mem_cons.mp hw).elim (fun e => by rw [e]; exact ⟨hc, ab_good0 hc⟩) (fun h => ⟨h, ab_good0 h⟩))
theorem ab_cats (E : ab_E) (st : List ab_V) : ((st.map (ab_vm E)).map fun v => v.category).sum = (st.map ab_cat).sum := by
  rw [List.map_map]
  congr 1
  exact List.map_congr_left (fun v _ => ab_cat_vm E v)
theorem ab_CB {y : MethodName} {b' : ByteArray} {nL' : Nat} {rt' : Option FieldType} {d' n k : Nat} (hts : ∀ w ∈ ab_W0, w.before args s = true) (hI : ab_mI y b' nL' rt' n) (hd : d' + 1 ≤ d) (hl : (Cond.methodLink (ab_cn own) k y).before args s = true) : CallB (ab_rm d) s args (ab_cn own) k y b' nL' rt' (Cond.code y b' nL' rt' :: ab_W0) (ab_rm d') 0 0 n := by
  obtain ⟨h1, h2, h3, h4, h5⟩ := hI
  refine ⟨rfl, rfl, hd, by simp only [ab_rm]; omega, ab_ws hts h1, List.mem_cons_self, hts _ h1, hts _ h2, h3, fun sig h => ?_, hl⟩
  rw [h] at h4
  exact (Option.some.inj h4).symm
theorem ab_CBN {y : MethodName} {b' : ByteArray} {nL' : Nat} {rt' : Option FieldType} {d' n k : Nat} (hts : ∀ w ∈ ab_W0, w.before args s = true) (hI : ab_mI y b' nL' rt' n) (hd : d' + 1 ≤ d) (hl : (Cond.methodLinkNest (ab_cn own) k y "SoulRaffle").before args s = true) : va_CN (ab_rm d) s args (ab_cn own) k y "SoulRaffle" b' nL' rt' (Cond.code y b' nL' rt' :: ab_W0) (ab_rm d') 0 0 n := by
  obtain ⟨h1, h2, h3, h4, h5⟩ := hI
  refine ⟨⟨rfl, rfl, hd, by simp only [ab_rm]; omega, ab_ws hts h1, List.mem_cons_self⟩, hts _ h1, hts _ h2, h3, fun sig h => ?_, hl⟩
  rw [h] at h4
  exact (Option.some.inj h4).symm
end ABI
section ABJ
variable {τ τ' : Type} {sy own : Nat} {b : ByteArray} {rt : Option FieldType} {d pc pc2 : Nat} {L : List (Option ab_V)} {st st0 : List ab_V} {u : ab_S} {w : τ → Option ab_V} {w' : τ' → Option ab_V} {r0 : Option (τ' × ab_S)} {r1 : τ' × ab_S → Option (τ × ab_S)} {y : MethodName} {b' : ByteArray} {nL' : Nat} {rt' : Option FieldType} {d' k : Nat} {as : List ab_V}
def ab_wok (w : τ' → Option ab_V) : Prop := ∀ x v, w x = some v → ∀ sy, ab_ok sy v
theorem wI_ok : ab_wok wI := fun x v h sy => by cases h; trivial
theorem wJ_ok : ab_wok wJ := fun x v h sy => by cases h; trivial
theorem wV_ok : ab_wok wV := fun x v h sy => by cases h
theorem ab_bind {α β : Type} {r : Option α} {f : α → Option β} {z : β} (h : r.bind f = some z) : ∃ x, r = some x ∧ f x = some z := by
  cases r with
  | none => cases h
  | some x => exact ⟨x, rfl, h⟩
/-- an instance call -/
theorem g_callV {ci a : Nat} {bs : List ab_V} (hM : ab_C sy y b' nL' rt' d' (vR (kO ci) a :: bs) u w' r0) (hI : ab_mI y b' nL' rt' bs.length) (hV : ab_mV y) (hci : ab_cn ci = y.cls) (hc10 : ci < 10) (hlk : ab_lp own k y ∨ ab_ln' own k y) (hw : ab_wok w') (hd : decode b pc = .ok (.invokevirtual k, 3)) (hst : st0 = bs.reverse ++ vR (kO ci) a :: st) (hcat : (st.map ab_cat).sum ≤ 8) (hdep : d' + 1 ≤ d) (hp : pc + 3 = pc2)
    (kk : ∀ q : τ' × ab_S, r0 = some q → ab_G sy own b rt d pc2 L ((w' q.1).toList ++ st) q.2 w (r1 q)) : ab_G sy own b rt d pc L st0 u w (r0.bind r1) := by
  intro x u' hx p l e s m args below meth c H locs ls E hfl F hret hlk2 hml X hl hL hok
  subst hp
  subst hst
  obtain ⟨q, hq, hx⟩ := ab_bind hx
  obtain ⟨z, uz⟩ := q
  obtain ⟨hex, hb, hown, hts, hNW, hK, hSF, ho, hs⟩ := id F
  have hoka : ab_oks sy (vR (kO ci) a :: bs) := fun v hv => hok v (by
    rcases List.mem_cons.mp hv with h | h
    · rw [h]; exact List.mem_append_right _ List.mem_cons_self
    · exact List.mem_append_left _ (List.mem_reverse.mpr h))
  have hokr : ab_oks sy st := fun v hv => hok v (List.mem_append_right _ (List.mem_cons_of_mem _ hv))
  have hia : ab_ia sy (kO ci) a := hoka.hd
  have h6 : (ab_sh sy)[a]? = some (kO ci) := by
    simp only [ab_ia] at hia
    rwa [if_pos (by omega)] at hia
  have hM2 := hM z uz hq hoka l E hfl
  have hre : ab_re E (kO ci) a = ab_ro E a := ab_re_ro E hs h6
  have hrec : ∃ cellB : Cell, H[ab_re E (kO ci) a]? = some cellB ∧ cellB.vm.isStatics = false ∧ s.vm.findClass y.cls = some cellB.cls := by
    rw [hre, ← hci]
    exact va_recv hK X.1 (ab_vw hc10) (ab_wd_at E h6)
  have hpv : PreV s H y.cls (ab_re E (kO ci) a) (va_Pc ((vR (kO ci) a :: bs).map (ab_vm E)) (ab_B E sy u)) (bs.map (ab_vm E)) := ⟨ab_B_blind E sy u _, hrec, fun U hU hW => ab_pre (as := vR (kO ci) a :: bs) F X U hU hW⟩
  have hstack : (List.map (ab_vm E) (bs.reverse ++ vR (kO ci) a :: st)) = (bs.map (ab_vm E)).reverse ++ .ref (ab_re E (kO ci) a) :: st.map (ab_vm E) := by
    rw [List.map_append, List.map_reverse]
    rfl
  have hfix : CallFix p m c b L.length s args ab_W0 (ab_cn own) := ⟨hex, hb, hml, hown, hts⟩
  have hmon : 2 * (F0 m pc ls (List.map (ab_vm E) (bs.reverse ++ vR (kO ci) a :: st))).monitorRoom + ((st.map (ab_vm E)).map fun v => v.category).sum ≤ 8 := lv_room (by rw [ab_cats]; exact hcat)
  have hrun : va_Run p l e (ab_rm d) s m args below meth c H locs 0 0 0 0 (F0 m pc ls (List.map (ab_vm E) (bs.reverse ++ vR (kO ci) a :: st))) (st.map (ab_vm E)) (ab_Q E sy w' z uz (Value.ref (ab_re E (kO ci) a) :: bs.map (ab_vm E)).toArray) (ab_A E sy) := by
    rcases hlk with hlk | hlk
    · exact va_runV hfix hM2 ⟨ab_CB hts hI hdep (hts _ hlk), hts _ hV.1, hts _ hV.2⟩ hpv rfl (by simp) hl.1 hstack hmon hd ⟨Nat.zero_le _, Nat.zero_le _⟩
    · exact va_runVN hfix hM2 ⟨ab_CBN hts hI hdep (va_Nw.use rfl (hNW _ hlk rfl)), hts _ hV.1, hts _ hV.2⟩ hpv rfl (by simp) hl.1 hstack hmon hd ⟨Nat.zero_le _, Nat.zero_le _⟩
  refine ab_aft hrun X (fun H1 locs1 X1 => ?_)
  have k1 := kk (z, uz) hq x u' hx p l e s m args below meth c H1 locs1 ls E hfl F hret hlk2 hml X1 hl hL (fun v hv => by
    rcases List.mem_append.mp hv with h | h
    · exact hw z v (by simpa using h) sy
    · exact hokr v h)
  rw [List.map_append] at k1
  rw [show Option.toList (Option.map (ab_vm E) (w' z)) = List.map (ab_vm E) (Option.toList (w' z)) by cases w' z <;> rfl]
  exact k1
/-- a static call -/
theorem g_callS (hM : ab_C sy y b' nL' rt' d' as u w' r0) (hI : ab_mI y b' nL' rt' as.length) (hV : ab_mS y) (hlk : ab_lp own k y ∨ ab_ln' own k y) (hw : ab_wok w') (hd : decode b pc = .ok (.invokestatic k, 3)) (hst : st0 = as.reverse ++ st) (hcat : (st.map ab_cat).sum ≤ 8) (hdep : d' + 1 ≤ d) (hp : pc + 3 = pc2)
    (kk : ∀ q : τ' × ab_S, r0 = some q → ab_G sy own b rt d pc2 L ((w' q.1).toList ++ st) q.2 w (r1 q)) : ab_G sy own b rt d pc L st0 u w (r0.bind r1) := by
  intro x u' hx p l e s m args below meth c H locs ls E hfl F hret hlk2 hml X hl hL hok
  subst hp
  subst hst
  obtain ⟨q, hq, hx⟩ := ab_bind hx
  obtain ⟨z, uz⟩ := q
  obtain ⟨hex, hb, hown, hts, hNW, hK, hSF, ho, hs⟩ := id F
  have hoka : ab_oks sy as := fun v hv => hok v (List.mem_append_left _ (List.mem_reverse.mpr hv))
  have hokr : ab_oks sy st := fun v hv => hok v (List.mem_append_right _ hv)
  have hM2 := hM z uz hq hoka l E hfl
  have hpv : PreS s H (va_Pc (as.map (ab_vm E)) (ab_B E sy u)) (as.map (ab_vm E)) := ⟨ab_B_blind E sy u _, fun U hU hW => ab_pre (as := as) F X U hU hW⟩
  have hstack : (List.map (ab_vm E) (as.reverse ++ st)) = (as.map (ab_vm E)).reverse ++ st.map (ab_vm E) := by
    rw [List.map_append, List.map_reverse]
  have hfix : CallFix p m c b L.length s args ab_W0 (ab_cn own) := ⟨hex, hb, hml, hown, hts⟩
  have hmon : 2 * (F0 m pc ls (List.map (ab_vm E) (as.reverse ++ st))).monitorRoom + ((st.map (ab_vm E)).map fun v => v.category).sum ≤ 8 := lv_room (by rw [ab_cats]; exact hcat)
  have hrun : va_Run p l e (ab_rm d) s m args below meth c H locs 0 0 0 0 (F0 m pc ls (List.map (ab_vm E) (as.reverse ++ st))) (st.map (ab_vm E)) (ab_Q E sy w' z uz (as.map (ab_vm E)).toArray) (ab_A E sy) := by
    rcases hlk with hlk | hlk
    · exact va_runS hfix hM2 ⟨ab_CB hts hI hdep (hts _ hlk), hts _ hV⟩ hpv rfl (by simp) hl.1 hstack hmon hd ⟨Nat.zero_le _, Nat.zero_le _⟩
    · exact va_runSN hfix hM2 ⟨ab_CBN hts hI hdep (va_Nw.use rfl (hNW _ hlk rfl)), hts _ hV, trivial⟩ hpv rfl (by simp) hl.1 hstack hmon hd ⟨Nat.zero_le _, Nat.zero_le _⟩
  refine ab_aft hrun X (fun H1 locs1 X1 => ?_)
  have k1 := kk (z, uz) hq x u' hx p l e s m args below meth c H1 locs1 ls E hfl F hret hlk2 hml X1 hl hL (fun v hv => by
    rcases List.mem_append.mp hv with h | h
    · exact hw z v (by simpa using h) sy
    · exact hokr v h)
  rw [List.map_append] at k1
  rw [show Option.toList (Option.map (ab_vm E) (w' z)) = List.map (ab_vm E) (Option.toList (w' z)) by cases w' z <;> rfl]
  exact k1
end ABJ
