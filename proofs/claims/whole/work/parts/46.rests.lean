/-! calls in a body that may throw; SoulRaffle.rests (wip/gen/rows46.py) -/
section ABIX
variable {p : Program} {l : Launch} {e : Env} {s : State} {m : MethodId} {args : Array Value} {below : List Frame} {meth : Method} {c : Code} {H : Heap} {locs : List Loc} {Q : State → Prop} {E : ab_E} {sy own : Nat} {b : ByteArray} {u : ab_S} {pc : Nat} {ls : Array Slot} {d : Nat}
theorem ab_aftx {τ : Type} {w : τ → Option ab_V} {x : τ} {u' : ab_S} {rest st0 : List Value} {a : Array Value} (hr : va_Run p l e (ab_rmx d) s m args below meth c H locs 0 0 0 0 (F0 m pc ls st0) rest (ab_Q E sy w x u' a) (ab_A E sy)) (X : ab_X E sy (ab_A E sy) s u H locs)
    (kk : ∀ (H1 : Heap) (locs1 : List Loc), ab_X E sy (ab_A E sy) s u' H1 locs1 → W p l e (ab_rmx d) s m args below meth c H1 locs1 0 0 Q (F0 m (pc + 3) ls (((w x).map (ab_vm E)).toList ++ rest))) : W p l e (ab_rmx d) s m args below meth c H locs 0 0 Q (F0 m pc ls st0) := by
  obtain ⟨hP, hD, hS, hWT⟩ := X
  intro T hT Y
  obtain ⟨v, st₀, t, T', L, h0, Y', hL, e1, e2, ⟨hv, hP', hW', hz, hk⟩, stp⟩ := hr T hT Y
  cases hv
  rw [h0] at hz hk
  obtain ⟨t2, a1, b1⟩ := kk T'.heap (locs ++ L) ⟨by rw [e1]; exact hP', ab_D_eq hD, ⟨Nat.le_trans hS.1 (by rw [e1]; exact hz), fun q h1 h2 => by rw [e1, hk q (Nat.lt_of_lt_of_le h1 hS.1) h2]; exact hS.2.1 q h1 h2, fun q hq => by
      rcases List.mem_append.mp hq with h | h
      · exact hS.2.2 q h
      · exact hL q h⟩, hW'⟩ T' rfl Y'
  exact ⟨t2, stp t2 a1, b1⟩
theorem ab_CBx {y : MethodName} {b' : ByteArray} {nL' : Nat} {rt' : Option FieldType} {d' n k : Nat} (hts : ∀ w ∈ ab_W0, w.before args s = true) (hI : ab_mI y b' nL' rt' n) (hd : d' + 1 ≤ d) (hl : (Cond.methodLink (ab_cn own) k y).before args s = true) : CallB (ab_rmx d) s args (ab_cn own) k y b' nL' rt' (Cond.code y b' nL' rt' :: ab_W0) (ab_rm d') 0 0 n := by
  obtain ⟨h1, h2, h3, h4, h5⟩ := hI
  refine ⟨rfl, rfl, hd, by simp only [ab_rm, ab_rmx]; omega, ab_ws hts h1, List.mem_cons_self, hts _ h1, hts _ h2, h3, fun sig h => ?_, hl⟩
  rw [h] at h4
  exact (Option.some.inj h4).symm
theorem ab_CBNx {y : MethodName} {b' : ByteArray} {nL' : Nat} {rt' : Option FieldType} {d' n k : Nat} (hts : ∀ w ∈ ab_W0, w.before args s = true) (hI : ab_mI y b' nL' rt' n) (hd : d' + 1 ≤ d) (hl : (Cond.methodLinkNest (ab_cn own) k y "SoulRaffle").before args s = true) : va_CN (ab_rmx d) s args (ab_cn own) k y "SoulRaffle" b' nL' rt' (Cond.code y b' nL' rt' :: ab_W0) (ab_rm d') 0 0 n := by
  obtain ⟨h1, h2, h3, h4, h5⟩ := hI
  refine ⟨⟨rfl, rfl, hd, by simp only [ab_rm, ab_rmx]; omega, ab_ws hts h1, List.mem_cons_self⟩, hts _ h1, hts _ h2, h3, fun sig h => ?_, hl⟩
  rw [h] at h4
  exact (Option.some.inj h4).symm
end ABIX
section ABJX
variable {τ' : Type} {sy own : Nat} {b : ByteArray} {rt : Option FieldType} {d pc pc2 : Nat} {L : List (Option ab_V)} {st st0 : List ab_V} {u : ab_S} {w' : τ' → Option ab_V} {r0 : Option (τ' × ab_S)} {r1 : τ' × ab_S → Option (Option Int32 × ab_S)} {y : MethodName} {b' : ByteArray} {nL' : Nat} {rt' : Option FieldType} {d' k : Nat} {as : List ab_V}
theorem xg_callS (hM : ab_C sy y b' nL' rt' d' as u w' r0) (hI : ab_mI y b' nL' rt' as.length) (hV : ab_mS y) (hlk : ab_lp own k y ∨ ab_ln' own k y) (hw : ab_wok w') (hd : decode b pc = .ok (.invokestatic k, 3)) (hst : st0 = as.reverse ++ st) (hcat : (st.map ab_cat).sum ≤ 8) (hdep : d' + 1 ≤ d) (hp : pc + 3 = pc2)
    (kk : ∀ q : τ' × ab_S, r0 = some q → ab_GX sy own b rt d pc2 L ((w' q.1).toList ++ st) q.2 (r1 q)) : ab_GX sy own b rt d pc L st0 u (r0.bind r1) := by
  intro x u' hx p l e s m args below meth c H locs ls E hfl F hSX hret hlk2 hml X hl hL hok
  subst hp
  subst hst
  obtain ⟨q, hq, hx⟩ := ab_bind hx
  obtain ⟨z, uz⟩ := q
  obtain ⟨hex, hb, hown, hts, hNW, hK, hSF, ho, hs⟩ := id F
  have hoka : ab_oks sy as := fun v hv => hok v (List.mem_append_left _ (List.mem_reverse.mpr hv))
  have hokr : ab_oks sy st := fun v hv => hok v (List.mem_append_right _ hv)
  have hM2 := hM z uz hq hoka l E hfl
  have hpv : PreS s H (va_Pc (as.map (ab_vm E)) (ab_B E sy u)) (as.map (ab_vm E)) := ⟨ab_B_blind E sy u _, fun U hU hW => ab_pre (as := as) F X U hU hW⟩
  have hstack : (List.map (ab_vm E) (as.reverse ++ st)) = (as.map (ab_vm E)).reverse ++ st.map (ab_vm E) := by
    rw [List.map_append, List.map_reverse]
  have hfix : CallFix p m c b L.length s args ab_W0 (ab_cn own) := ⟨hex, hb, hml, hown, hts⟩
  have hmon : 2 * (F0 m pc ls (List.map (ab_vm E) (as.reverse ++ st))).monitorRoom + ((st.map (ab_vm E)).map fun v => v.category).sum ≤ 8 := lv_room (by rw [ab_cats]; exact hcat)
  have hrun : va_Run p l e (ab_rmx d) s m args below meth c H locs 0 0 0 0 (F0 m pc ls (List.map (ab_vm E) (as.reverse ++ st))) (st.map (ab_vm E)) (ab_Q E sy w' z uz (as.map (ab_vm E)).toArray) (ab_A E sy) := by
    rcases hlk with hlk | hlk
    · exact va_runS hfix hM2 ⟨ab_CBx hts hI hdep (hts _ hlk), hts _ hV⟩ hpv rfl (by simp) hl.1 hstack hmon hd ⟨Nat.zero_le _, Nat.zero_le _⟩
    · exact va_runSN hfix hM2 ⟨ab_CBNx hts hI hdep (va_Nw.use rfl (hNW _ hlk rfl)), hts _ hV, trivial⟩ hpv rfl (by simp) hl.1 hstack hmon hd ⟨Nat.zero_le _, Nat.zero_le _⟩
  refine ab_aftx hrun X (fun H1 locs1 X1 => ?_)
  have k1 := kk (z, uz) hq x u' hx p l e s m args below meth c H1 locs1 ls E hfl F hSX hret hlk2 hml X1 hl hL (fun v hv => by
    rcases List.mem_append.mp hv with h | h
    · exact hw z v (by simpa using h) sy
    · exact hokr v h)
  rw [List.map_append] at k1
  rw [show Option.toList (Option.map (ab_vm E) (w' z)) = List.map (ab_vm E) (Option.toList (w' z)) by cases w' z <;> rfl]
  exact k1
end ABJX
def fX9_rests_80 (v1 v2 v3 v4 : Int32) (v5 : Int32) (u : ab_S) : Option (Option Int32 × ab_S) :=
  bif decide (v4 = -1) then some (some v5, u) else some (none, u)
theorem tX9_rests_80 (v1 v2 v3 v4 : Int32) (v5 v6 : Int32) (u : ab_S) : ab_GX 0 8 cX9_rests (some .int) 6 80 [some (vR (kO 8) 0), some (vI v1), some (vI v2), some (vI v3), some (vI v4), some (vI v5), some (vI v6)] [] u (fX9_rests_80 v1 v2 v3 v4 v5 u) := by
  rw [fX9_rests_80]
  refine xg_seg0 (pc' := 83) (L' := [some (vR (kO 8) 0), some (vI v1), some (vI v2), some (vI v3), some (vI v4), some (vI v5), some (vI v6)]) (st' := [vI (-1), vI v4]) (u1 := u) [(oL 0 4, 2), (oC (-1), 1)] (by decide +kernel) rfl rfl ?_
  refine xg_ieq (off := 14) (tgt := 97) (pc2 := 86) (by decide +kernel) (by decide) rfl ?_ ?_
  · refine xg_seg0 (pc' := 99) (L' := [some (vR (kO 8) 0), some (vI v1), some (vI v2), some (vI v3), some (vI v4), some (vI v5), some (vI v6)]) (st' := [vI v5]) (u1 := u) [(oL 0 5, 2)] (by decide +kernel) rfl rfl ?_
    exact xg_iret (by decide +kernel) rfl
  · exact xg_throw (is := 289) (fun A U H h => h.2.2.2.1) (by decide +kernel) (by decide +kernel) (by decide +kernel) (by decide +kernel) (by decide +kernel) rfl (Nat.le_refl 6)
def fX9_rests_44 : Nat → Int32 → Int32 → Int32 → Int32 → Int32 → Int32 → ab_S → Option (Option Int32 × ab_S)
  | 0, _, _, _, _, _, _, _ => none
  | n + 1, v1, v2, v3, v4, v5, v6, u =>
    bif decide (v6 < 4) then (
      (fX9_isRest v1 v2 v3 v6 u).bind fun q1 =>
        bif decide (q1.1 = 0) then fX9_rests_44 n v1 v2 v3 v4 v5 (v6 + 1) q1.2
        else (
          bif decide (v5 = v4) then some (some v6, q1.2)
          else fX9_rests_44 n v1 v2 v3 v4 (v5 + 1) (v6 + 1) q1.2))
    else fX9_rests_80 v1 v2 v3 v4 v5 u
theorem tX9_rests_44 : ∀ (n : Nat) (v1 v2 v3 v4 : Int32) (v5 v6 : Int32) (u : ab_S), ab_GX 0 8 cX9_rests (some .int) 6 44 [some (vR (kO 8) 0), some (vI v1), some (vI v2), some (vI v3), some (vI v4), some (vI v5), some (vI v6)] [] u (fX9_rests_44 n v1 v2 v3 v4 v5 v6 u)
  | 0, v1, v2, v3, v4, v5, v6, u => xg_none
  | n + 1, v1, v2, v3, v4, v5, v6, u => by
    rw [fX9_rests_44]
    refine xg_seg0 (pc' := 47) (L' := [some (vR (kO 8) 0), some (vI v1), some (vI v2), some (vI v3), some (vI v4), some (vI v5), some (vI v6)]) (st' := [vI 4, vI v6]) (u1 := u) [(oL 0 6, 2), (oC 4, 1)] (by decide +kernel) rfl rfl ?_
    refine xg_ige (off := 33) (tgt := 80) (pc2 := 50) (by decide +kernel) (by decide) rfl ?_ ?_
    · exact tX9_rests_80 v1 v2 v3 v4 v5 v6 u
    · refine xg_seg0 (pc' := 55) (L' := [some (vR (kO 8) 0), some (vI v1), some (vI v2), some (vI v3), some (vI v4), some (vI v5), some (vI v6)]) (st' := [vI v6, vI v3, vI v2, vI v1]) (u1 := u) [(oL 0 1, 1), (oL 0 2, 1), (oL 0 3, 1), (oL 0 6, 2)] (by decide +kernel) rfl rfl ?_
      refine xg_callS (k := 285) (pc2 := 58) (st := []) (CX9_isRest v1 v2 v3 v6 u) miX9_isRest msX9_isRest lk8_285 wI_ok (by decide +kernel) rfl (Nat.le_of_ble_eq_true rfl) (by decide) rfl (fun q1 hq1 => ?_)
      refine xg_zeq (off := 16) (tgt := 74) (pc2 := 61) (by decide +kernel) (by decide) rfl ?_ ?_
      · refine xg_seg0 (pc' := 77) (L' := [some (vR (kO 8) 0), some (vI v1), some (vI v2), some (vI v3), some (vI v4), some (vI v5), some (vI (v6 + 1))]) (st' := []) (u1 := q1.2) [(oN 6 1, 3)] (by decide +kernel) rfl rfl ?_
        exact xg_goto (off := -33) (tgt := 44) (by decide +kernel) (by decide) (tX9_rests_44 n v1 v2 v3 v4 v5 (v6 + 1) q1.2)
      · refine xg_seg0 (pc' := 65) (L' := [some (vR (kO 8) 0), some (vI v1), some (vI v2), some (vI v3), some (vI v4), some (vI v5), some (vI v6)]) (st' := [vI v4, vI v5]) (u1 := q1.2) [(oL 0 5, 2), (oL 0 4, 2)] (by decide +kernel) rfl rfl ?_
        refine xg_ine (off := 6) (tgt := 71) (pc2 := 68) (by decide +kernel) (by decide) rfl ?_ ?_
        · refine xg_seg0 (pc' := 77) (L' := [some (vR (kO 8) 0), some (vI v1), some (vI v2), some (vI v3), some (vI v4), some (vI (v5 + 1)), some (vI (v6 + 1))]) (st' := []) (u1 := q1.2) [(oN 5 1, 3), (oN 6 1, 3)] (by decide +kernel) rfl rfl ?_
          exact xg_goto (off := -33) (tgt := 44) (by decide +kernel) (by decide) (tX9_rests_44 n v1 v2 v3 v4 (v5 + 1) (v6 + 1) q1.2)
        · refine xg_seg0 (pc' := 70) (L' := [some (vR (kO 8) 0), some (vI v1), some (vI v2), some (vI v3), some (vI v4), some (vI v5), some (vI v6)]) (st' := [vI v6]) (u1 := q1.2) [(oL 0 6, 2)] (by decide +kernel) rfl rfl ?_
          exact xg_iret (by decide +kernel) rfl
def fX9_rests_21 (v1 v2 v3 v4 : Int32) (u : ab_S) : Option (Option Int32 × ab_S) :=
  bif decide (v4 < -1) then some (none, u) else fX9_rests_44 5000 v1 v2 v3 v4 0 0 u
theorem tX9_rests_21 (v1 v2 v3 v4 : Int32) (u : ab_S) : ab_GX 0 8 cX9_rests (some .int) 6 21 [some (vR (kO 8) 0), some (vI v1), some (vI v2), some (vI v3), some (vI v4), none, none] [] u (fX9_rests_21 v1 v2 v3 v4 u) := by
  rw [fX9_rests_21]
  refine xg_seg0 (pc' := 24) (L' := [some (vR (kO 8) 0), some (vI v1), some (vI v2), some (vI v3), some (vI v4), none, none]) (st' := [vI (-1), vI v4]) (u1 := u) [(oL 0 4, 2), (oC (-1), 1)] (by decide +kernel) rfl rfl ?_
  refine xg_ige (off := 14) (tgt := 38) (pc2 := 27) (by decide +kernel) (by decide) rfl ?_ ?_
  · refine xg_seg0 (pc' := 44) (L' := [some (vR (kO 8) 0), some (vI v1), some (vI v2), some (vI v3), some (vI v4), some (vI 0), some (vI 0)]) (st' := []) (u1 := u) [(oC 0, 1), (oL 3 5, 2), (oC 0, 1), (oL 3 6, 2)] (by decide +kernel) rfl rfl ?_
    exact tX9_rests_44 5000 v1 v2 v3 v4 0 0 u
  · exact xg_throw (is := 280) (fun A U H h => h.2.2.1) (by decide +kernel) (by decide +kernel) (by decide +kernel) (by decide +kernel) (by decide +kernel) rfl (Nat.le_refl 6)
def fX9_rests (v1 v2 v3 v4 : Int32) (u : ab_S) : Option (Option Int32 × ab_S) :=
  (fX9_isBargain v1 u).bind fun q1 =>
    bif decide (q1.1 = 0) then some (none, q1.2) else (
      (fX9_isBargain v2 q1.2).bind fun q2 =>
        bif decide (q2.1 = 0) then some (none, q2.2) else (
          (fX9_isBargain v3 q2.2).bind fun q3 =>
            bif decide (q3.1 = 0) then some (none, q3.2) else fX9_rests_21 v1 v2 v3 v4 q3.2))
theorem tX9_rests (v1 v2 v3 v4 : Int32) (u : ab_S) : ab_GX 0 8 cX9_rests (some .int) 6 0 [some (vR (kO 8) 0), some (vI v1), some (vI v2), some (vI v3), some (vI v4), none, none] [] u (fX9_rests v1 v2 v3 v4 u) := by
  rw [fX9_rests]
  refine xg_seg0 (pc' := 1) (L' := [some (vR (kO 8) 0), some (vI v1), some (vI v2), some (vI v3), some (vI v4), none, none]) (st' := [vI v1]) (u1 := u) [(oL 0 1, 1)] (by decide +kernel) rfl rfl ?_
  refine xg_callS (k := 275) (pc2 := 4) (st := []) (CX9_isBargain v1 u) miX9_isBargain msX9_isBargain lk8_275 wI_ok (by decide +kernel) rfl (Nat.le_of_ble_eq_true rfl) (by decide) rfl (fun q1 hq1 => ?_)
  refine xg_zeq (off := 23) (tgt := 27) (pc2 := 7) (by decide +kernel) (by decide) rfl ?_ ?_
  · exact xg_throw (is := 280) (fun A U H h => h.2.2.1) (by decide +kernel) (by decide +kernel) (by decide +kernel) (by decide +kernel) (by decide +kernel) rfl (Nat.le_refl 6)
  refine xg_seg0 (pc' := 8) (L' := [some (vR (kO 8) 0), some (vI v1), some (vI v2), some (vI v3), some (vI v4), none, none]) (st' := [vI v2]) (u1 := q1.2) [(oL 0 2, 1)] (by decide +kernel) rfl rfl ?_
  refine xg_callS (k := 275) (pc2 := 11) (st := []) (CX9_isBargain v2 q1.2) miX9_isBargain msX9_isBargain lk8_275 wI_ok (by decide +kernel) rfl (Nat.le_of_ble_eq_true rfl) (by decide) rfl (fun q2 hq2 => ?_)
  refine xg_zeq (off := 16) (tgt := 27) (pc2 := 14) (by decide +kernel) (by decide) rfl ?_ ?_
  · exact xg_throw (is := 280) (fun A U H h => h.2.2.1) (by decide +kernel) (by decide +kernel) (by decide +kernel) (by decide +kernel) (by decide +kernel) rfl (Nat.le_refl 6)
  refine xg_seg0 (pc' := 15) (L' := [some (vR (kO 8) 0), some (vI v1), some (vI v2), some (vI v3), some (vI v4), none, none]) (st' := [vI v3]) (u1 := q2.2) [(oL 0 3, 1)] (by decide +kernel) rfl rfl ?_
  refine xg_callS (k := 275) (pc2 := 18) (st := []) (CX9_isBargain v3 q2.2) miX9_isBargain msX9_isBargain lk8_275 wI_ok (by decide +kernel) rfl (Nat.le_of_ble_eq_true rfl) (by decide) rfl (fun q3 hq3 => ?_)
  refine xg_zeq (off := 9) (tgt := 27) (pc2 := 21) (by decide +kernel) (by decide) rfl ?_ ?_
  · exact xg_throw (is := 280) (fun A U H h => h.2.2.1) (by decide +kernel) (by decide +kernel) (by decide +kernel) (by decide +kernel) (by decide +kernel) rfl (Nat.le_refl 6)
  · exact tX9_rests_21 v1 v2 v3 v4 q3.2
