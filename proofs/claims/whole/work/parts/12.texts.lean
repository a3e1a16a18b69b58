/-! a call upon the one text -/
section ABK
variable {τ τ' : Type} {own : Nat} {b : ByteArray} {rt : Option FieldType} {d pc pc2 : Nat} {L : List (Option ab_V)} {st st0 : List ab_V} {u : ab_S} {w : τ → Option ab_V} {w' : τ' → Option ab_V} {r0 : Option (τ' × ab_S)} {r1 : τ' × ab_S → Option (τ × ab_S)} {y : MethodName} {b' : ByteArray} {nL' : Nat} {rt' : Option FieldType} {d' k : Nat}
theorem g_callK {bs : List ab_V} (hM : ab_C 0 y b' nL' rt' d' (vR (kO 21) 0 :: bs) u w' r0) (hI : ab_mI y b' nL' rt' bs.length) (hV : ab_mV y) (hlk : ab_lp own k y ∨ ab_ln' own k y) (hw : ab_wok w') (hd : decode b pc = .ok (.invokevirtual k, 3)) (hst : st0 = bs.reverse ++ vR (kO 21) 0 :: st) (hcat : (st.map ab_cat).sum ≤ 8) (hdep : d' + 1 ≤ d) (hp : pc + 3 = pc2)
    (kk : ∀ q : τ' × ab_S, r0 = some q → ab_G 0 own b rt d pc2 L ((w' q.1).toList ++ st) q.2 w (r1 q)) (hcls : y.cls = "java/lang/String" := by rfl) : ab_G 0 own b rt d pc L st0 u w (r0.bind r1) := by
  intro x u' hx p l e s m args below meth c H locs ls E hfl F hret hlk2 hml X hl hL hok
  subst hp
  subst hst
  obtain ⟨q, hq, hx⟩ := ab_bind hx
  obtain ⟨z, uz⟩ := q
  obtain ⟨hex, hb, hown, hts, hNW, hK, hSF, ho, hs⟩ := id F
  have hoka : ab_oks 0 (vR (kO 21) 0 :: bs) := fun v hv => hok v (by
    rcases List.mem_cons.mp hv with h | h
    · rw [h]; exact List.mem_append_right _ List.mem_cons_self
    · exact List.mem_append_left _ (List.mem_reverse.mpr h))
  have hokr : ab_oks 0 st := fun v hv => hok v (List.mem_append_right _ (List.mem_cons_of_mem _ hv))
  have hM2 := hM z uz hq hoka l E hfl
  have hrec : ∃ cellB : Cell, H[ab_re E (kO 21) 0]? = some cellB ∧ cellB.vm.isStatics = false ∧ s.vm.findClass y.cls = some cellB.cls := by
    rw [hcls]
    have h9 := vk_recv (N := 1) (adK := fun _ => ab_sa E 21 0) (i := 0) hSF.2.2.2.1 (by omega) X.2.2.1
    exact h9
  have hpv : PreV s H y.cls (ab_re E (kO 21) 0) (va_Pc ((vR (kO 21) 0 :: bs).map (ab_vm E)) (ab_B E 0 u)) (bs.map (ab_vm E)) := ⟨ab_B_blind E 0 u _, hrec, fun U hU hW => ab_pre (as := vR (kO 21) 0 :: bs) F X U hU hW⟩
  have hstack : (List.map (ab_vm E) (bs.reverse ++ vR (kO 21) 0 :: st)) = (bs.map (ab_vm E)).reverse ++ .ref (ab_re E (kO 21) 0) :: st.map (ab_vm E) := by
    rw [List.map_append, List.map_reverse]
    rfl
  have hfix : CallFix p m c b L.length s args ab_W0 (ab_cn own) := ⟨hex, hb, hml, hown, hts⟩
  have hmon : 2 * (F0 m pc ls (List.map (ab_vm E) (bs.reverse ++ vR (kO 21) 0 :: st))).monitorRoom + ((st.map (ab_vm E)).map fun v => v.category).sum ≤ 8 := lv_room (by rw [ab_cats]; exact hcat)
  have hrun : va_Run p l e (ab_rm d) s m args below meth c H locs 0 0 0 0 (F0 m pc ls (List.map (ab_vm E) (bs.reverse ++ vR (kO 21) 0 :: st))) (st.map (ab_vm E)) (ab_Q E 0 w' z uz (Value.ref (ab_re E (kO 21) 0) :: bs.map (ab_vm E)).toArray) (ab_A E 0) := by
    rcases hlk with hlk | hlk
    · exact va_runV hfix hM2 ⟨ab_CB hts hI hdep (hts _ hlk), hts _ hV.1, hts _ hV.2⟩ hpv rfl (by simp) hl.1 hstack hmon hd ⟨Nat.zero_le _, Nat.zero_le _⟩
    · exact va_runVN hfix hM2 ⟨ab_CBN hts hI hdep (va_Nw.use rfl (hNW _ hlk rfl)), hts _ hV.1, hts _ hV.2⟩ hpv rfl (by simp) hl.1 hstack hmon hd ⟨Nat.zero_le _, Nat.zero_le _⟩
  refine ab_aft hrun X (fun H1 locs1 X1 => ?_)
  have k1 := kk (z, uz) hq x u' hx p l e s m args below meth c H1 locs1 ls E hfl F hret hlk2 hml X1 hl hL (fun v hv => by
    rcases List.mem_append.mp hv with h | h
    · exact hw z v (by simpa using h) 0
    · exact hokr v h)
  rw [List.map_append] at k1
  rw [show Option.toList (Option.map (ab_vm E) (w' z)) = List.map (ab_vm E) (Option.toList (w' z)) by cases w' z <;> rfl]
  exact k1
end ABK
-- the JDK's Math.max and Math.min, a byte's return, a table with its rows apart
theorem ab_maxW : Cond.static Lib.Math.max.name ∈ ab_W0 ∧ Cond.initialized "java/lang/Math" ∈ ab_W0 ∧ Cond.code Lib.Math.max.name Lib.Math.max.code 2 (some .int) ∈ ab_W0 := ⟨msJ9_max_7cf53, miJ9_max_7cf53.2.1, miJ9_max_7cf53.1⟩
theorem ab_minW : Cond.static Lib.Math.min.name ∈ ab_W0 ∧ Cond.initialized "java/lang/Math" ∈ ab_W0 ∧ Cond.code Lib.Math.min.name Lib.Math.min.code 2 (some .int) ∈ ab_W0 := ⟨msJ9_min_7cf53, miJ9_min_7cf53.2.1, miJ9_min_7cf53.1⟩
def ab_y1 (x : Int32) : Bool := vp_nar .byte x == x
section ABM
variable {τ : Type} {sy own : Nat} {b : ByteArray} {rt : Option FieldType} {d pc pc2 k : Nat} {L : List (Option ab_V)} {st : List ab_V} {u : ab_S} {w : τ → Option ab_V} {r : Option (τ × ab_S)}
theorem g_max {x y : Int32} (hlk : ab_lp own k Lib.Math.max.name) (hd : decode b pc = .ok (.invokestatic k, 3)) (hcat : (st.map ab_cat).sum ≤ 8) (hdep : 1 ≤ d) (hp : pc + 3 = pc2) (kk : ab_G sy own b rt d pc2 L (.inl (if x < y then y else x) :: st) u w r) : ab_G sy own b rt d pc L (.inl y :: .inl x :: st) u w r := by
  intro z u' hx p l e s m args below meth c H locs ls E hfl F hret hlk2 hml X hl hL hok
  subst hp
  obtain ⟨hex, hb, hown, hts, -⟩ := id F
  obtain ⟨w1, w2, w3⟩ := ab_maxW
  exact va_mmax hex hb (by rw [hml]; exact hl.1.symm) hown (hts _ hlk) (hts _ w1) (hts _ w2) (hts _ w3) hdep (by rw [ab_cats]; simp only [ab_rm]; omega) (Nat.zero_le _) (Nat.zero_le _) hd (kk z u' hx p l e s m args below meth c H locs ls E hfl F hret hlk2 hml X hl hL (hok.tl.tl.cons trivial))
theorem g_min {x y : Int32} (hlk : ab_lp own k Lib.Math.min.name) (hd : decode b pc = .ok (.invokestatic k, 3)) (hcat : (st.map ab_cat).sum ≤ 8) (hdep : 1 ≤ d) (hp : pc + 3 = pc2) (kk : ab_G sy own b rt d pc2 L (.inl (if y < x then y else x) :: st) u w r) : ab_G sy own b rt d pc L (.inl y :: .inl x :: st) u w r := by
  intro z u' hx p l e s m args below meth c H locs ls E hfl F hret hlk2 hml X hl hL hok
  subst hp
  obtain ⟨hex, hb, hown, hts, -⟩ := id F
  obtain ⟨w1, w2, w3⟩ := ab_minW
  exact va_mmin hex hb (by rw [hml]; exact hl.1.symm) hown (hts _ hlk) (hts _ w1) (hts _ w2) (hts _ w3) hdep (by rw [ab_cats]; simp only [ab_rm]; omega) (Nat.zero_le _) (Nat.zero_le _) hd (kk z u' hx p l e s m args below meth c H locs ls E hfl F hret hlk2 hml X hl hL (hok.tl.tl.cons trivial))
theorem g_bret {v : Int32} (hd : decode b pc = .ok (.ireturn, 1)) (hr : rt = some .byte) : ab_G sy own b rt d pc L [.inl v] u wI (ab_gd [ab_y1 v] (some (v, u))) := by
  intro x u' hx p l e s m args below meth c H locs ls E hfl F hret hlk hml X hl hL hst
  obtain ⟨h1, hx⟩ := ab_gd_some hx
  cases hx
  have h2 : vp_nar .byte v = v := by simpa [ab_y1] using h1
  have h3 : narrow .byte (.int v) = .int v := by
    unfold vp_nar at h2
    cases hq : narrow .byte (.int v) with
    | int y => rw [hq] at h2; exact congrArg Value.int h2
    | _ => simp [narrow] at hq
  exact W.zret (ty := .byte) F.1 F.2.1 (by rw [hret, hr]) h3 (fun t ht _ => ⟨rfl, by rw [ht]; exact X.1, X.2.2.2, X.2.2.1.F ht⟩) X.2.2.1.2.2 hd hlk
def ab_GS {τ : Type} (sy own : Nat) (b : ByteArray) (rt : Option FieldType) (d pc : Nat) (L : List (Option ab_V)) (x : Int32) (st : List ab_V) (u : ab_S) (w : τ → Option ab_V) (ks : List Int32) (r : Option (τ × ab_S)) : Prop :=
  (∀ k ∈ ks, x ≠ k) → ab_G sy own b rt d pc L (.inl x :: st) u w r
def ab_swk (pc : Nat) (lo hi : Int) (offs : Array Int) (k : Int32) (t : Nat) : Bool := decide (lo ≤ k.toInt) && (decide (k.toInt ≤ hi) && (match offs[(k.toInt - lo).toNat]? with
  | some o => decide ((pc : Int) + o = (t : Int))
  | none => false))
def ab_swc (lo hi : Int) (ks : List Int32) : Bool := (List.range (hi - lo + 1).toNat).all fun i => ks.any fun k => decide (k.toInt = lo + (i : Int))
theorem g_sw0 {x : Int32} (k : ab_GS sy own b rt d pc L x st u w [] r) : ab_G sy own b rt d pc L (.inl x :: st) u w r := k (fun k h => absurd h List.not_mem_nil)
theorem g_sw1 {x k : Int32} {dflt lo hi : Int} {offs : Array Int} {len t : Nat} {ks : List Int32} {r0 rd : Option (τ × ab_S)} {l : List (Int32 × Option (τ × ab_S))} (hd : decode b pc = .ok (.tableswitch dflt lo hi offs, len)) (hk : ab_swk pc lo hi offs k t = true) (k1 : ab_G sy own b rt d t L st u w r0) (k2 : ab_GS sy own b rt d pc L x st u w (k :: ks) (ab_sw x l rd)) : ab_GS sy own b rt d pc L x st u w ks (ab_sw x ((k, r0) :: l) rd) := by
  intro hks z u' hx p l e s m args below meth c H locs ls E hfl F hret hlk hml X hl hL hst
  obtain ⟨h1, h2⟩ := ab_cnd (show (bif decide (x = k) then r0 else ab_sw x _ rd) = some (z, u') from hx)
  by_cases e1 : x = k
  · subst e1
    simp only [ab_swk, Bool.and_eq_true, decide_eq_true_eq] at hk
    obtain ⟨a1, a2, a3⟩ := hk
    split at a3
    · rename_i o ho
      exact lv_tableIn F.1 F.2.1 hd (by omega) (by omega) ho (by simpa using a3) (k1 z u' (h1 rfl) p l e s m args below meth c H locs ls E hfl F hret hlk hml X hl hL hst.tl)
    · cases a3
  · exact k2 (fun q hq => (List.mem_cons.mp hq).elim (fun e => by rw [e]; exact e1) (hks q)) z u' (h2 e1) p l e s m args below meth c H locs ls E hfl F hret hlk hml X hl hL hst
theorem g_swd {x : Int32} {dflt lo hi : Int} {offs : Array Int} {len tgd : Nat} {ks : List Int32} {rd : Option (τ × ab_S)} (hd : decode b pc = .ok (.tableswitch dflt lo hi offs, len)) (ht : (pc : Int) + dflt = (tgd : Int)) (hc : ab_swc lo hi ks = true) (kd : ab_G sy own b rt d tgd L st u w rd) : ab_GS sy own b rt d pc L x st u w ks (ab_sw x [] rd) := by
  intro hks z u' hx p l e s m args below meth c H locs ls E hfl F hret hlk hml X hl hL hst
  refine lv_tableOut F.1 F.2.1 hd ?_ ht (kd z u' hx p l e s m args below meth c H locs ls E hfl F hret hlk hml X hl hL hst.tl)
  by_cases q1 : x.toInt < lo
  · exact Or.inl q1
  · refine Or.inr (Int.not_le.mp fun q2 => ?_)
    have h1 := List.all_eq_true.mp hc (x.toInt - lo).toNat (List.mem_range.mpr (by omega))
    obtain ⟨k, h2, h3⟩ := List.any_eq_true.mp h1
    rw [decide_eq_true_eq] at h3
    exact hks k h2 (Int32.toInt_inj.mp (by rw [h3]; omega))
end ABM
-- links to Math
theorem lm14_92 : ab_lp 14 92 Lib.Math.max.name := (ab_inT 566 (by decide +kernel) (by decide +kernel))
theorem lm14_38 : ab_lp 14 38 Lib.Math.min.name := (ab_inT 569 (by decide +kernel) (by decide +kernel))
theorem lm6_46 : ab_lp 6 46 Lib.Math.max.name := (ab_inT 624 (by decide +kernel) (by decide +kernel))
theorem lm2_216 : ab_lp 2 216 Lib.Math.min.name := (ab_inT 835 (by decide +kernel) (by decide +kernel))
theorem lm2_221 : ab_lp 2 221 Lib.Math.max.name := (ab_inT 836 (by decide +kernel) (by decide +kernel))
theorem lm8_185 : ab_lp 8 185 Lib.Math.min.name := (ab_inT 961 (by decide +kernel) (by decide +kernel))
theorem lm5_123 : ab_lp 5 123 Lib.Math.min.name := (ab_inT 1038 (by decide +kernel) (by decide +kernel))
theorem lm8_210 : ab_lp 8 210 Lib.Math.max.name := (ab_inT 1094 (by decide +kernel) (by decide +kernel))
theorem lm0_72 : ab_lp 0 72 Lib.Math.max.name := (ab_inT 1214 (by decide +kernel) (by decide +kernel))
