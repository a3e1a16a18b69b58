/-! the law's own rests: it calls SoulRaffle.rests and catches its exception -/
def lr_A (E : ab_E) : Nat → Prop := fun q => ab_A E 0 q ∨ q = ab_sa E 24 0
def lr_B (E : ab_E) (u : ab_S) (ov : Int64) (U : State) : Prop := (va_K (E.1, E.2.1) vwCl (ab_ty E) U ∧ va_P (E.1, E.2.1) vwCl (ab_wd E 0 u) U.heap ∧ va_D (ab_A E 0) (ab_wd E 0 u) ∧ ab_SF E (lr_A E) U U.heap ∧ ab_NW U ∧ ab_WT 0 u) ∧
  ab_SX (lr_A E) U U.heap ∧ lw_O E ov U.heap ∧ ¬ ab_A E 0 (ab_sa E 24 0) ∧ va_Nw (.castable rx_N rx_N) U
theorem lr_B_blind (E : ab_E) (u : ab_S) (ov : Int64) (av : List Value) : FrameBlind (va_Pc av (lr_B E u ov)) := by
  intro a U g mk h
  obtain ⟨h0, ⟨h1, h2, h3, h4, h5, h6⟩, h7, h8, h9, h10⟩ := h
  exact ⟨h0, ⟨va_K.moved (u := U) (U := U.calling g mk a) (Vm.Alike.refl U.vm) h1, h2, h3, ab_SF.same (s := U) (U := U.calling g mk a) rfl h4, ab_NW.same (s := U) (U := U.calling g mk a) rfl h5, h6⟩, ab_SX.same (s := U) (U := U.calling g mk a) rfl h7, h8, h9, va_Nw.same (u := U) (U := U.calling g mk a) rfl rfl h10⟩
def lr_Q (E : ab_E) (u' : ab_S) (ov : Int64) (x : Option Int32) : Array Value → State → Outcome → State → Prop := fun _ st o t =>
  (match x with
    | some r => o = .returned (some (.int 0)) ∧ lw_O E r.toInt64 t.heap
    | none => o = .returned (some (.int 1)) ∧ lw_O E ov t.heap) ∧ va_P (E.1, E.2.1) vwCl (ab_wd E 0 u') t.heap ∧ ab_WT 0 u' ∧ va_F (lr_A E) st t
def lr_as (a1 a2 a3 a4 : Int32) : List ab_V := [vR (kO 8) 0, vI a1, vI a2, vI a3, vI a4, vR (kO 24) 0]
theorem lr_P1 {E : ab_E} {ov : Int64} {H : Heap} (h : lw_O E ov H) : va_P (E.1, E.2.1) vwCl [(ab_sa E 24 0, .inl (ab_cA E 1, (1, .inr (.inl (fun _ => ov)))))] H := by
  intro k q hk
  match k, hk with
  | 0, hk => cases hk; exact h
  | k + 1, hk => simp at hk
theorem tx_arr (cA : ClassId) (f g : Nat → Value) (h : f 0 = g 0) : arrV cA 1 f = arrV cA 1 g := by
  simp [arrV, h]
theorem lr_cl : Cond.classLink (ab_cn 10) 13 rx_N ∈ ab_W0 := by decide +kernel
theorem lr_met (a1 a2 a3 a4 : Int32) (u : ab_S) (ov : Int64) (x : Option Int32) (u' : ab_S) (hx : fX9_rests a1 a2 a3 a4 u = some (x, u')) (l : Launch) (E : ab_E) (hfl : l.flags = flags0) :
    vx_Met l yL_rests (Cond.codeWith yL_rests cL_rests 7 (some .int) [(0, 14, 17, 13)] :: ab_W0) { frames := 8, cells := 1, slots := 6, locals := 512 } (va_Pc ((lr_as a1 a2 a3 a4).map (ab_vm E)) (lr_B E u ov)) (lr_Q E u' ov x) (fun _ _ _ => False) 1 6 (lr_A E) := by
  refine vx_ofWH (cc := cL_rests) (maxL := 7) (ret := some .int) (hh := [(0, 14, 17, 13)]) (by decide +kernel) rfl ?_
  intro p e s m args below meth c s₁ B hml hv
  obtain ⟨rfl, ⟨hK, hP, hD, hSF, hNW, hWT⟩, hSX, hO, hnO, hcast⟩ := hv
  have hts0 := atoms_spec (ws := Cond.codeWith yL_rests cL_rests 7 (some .int) [(0, 14, 17, 13)] :: ab_W0) B.pre
  have hts : ∀ w ∈ ab_W0, w.before _ s = true := fun w hw => hts0 w (List.mem_cons_of_mem _ hw)
  have htab : c.exceptionTable.toList = tableOf [(0, 14, 17, 13)] := vx_table (x := yL_rests) B (hts0 _ List.mem_cons_self)
  have hown : s.vm.findClass (ab_cn 10) = some m.cls := findClass_of_methodNamed B.named
  have hsub : ∀ q, ab_A E 0 q → lr_A E q := fun q h => Or.inl h
  have hF : ab_F p s m ((lr_as a1 a2 a3 a4).map (ab_vm E)).toArray c E 0 10 cL_rests (lr_A E) := ⟨B.exec, B.bytes, hown, hts, hNW, hK, hSF, by decide, by decide⟩
  have hok : ab_oks 0 (lr_as a1 a2 a3 a4) := by
    intro v hv
    simp only [lr_as, List.mem_cons, List.not_mem_nil, or_false] at hv
    rcases hv with rfl | rfl | rfl | rfl | rfl | rfl
    · show ab_ia 0 (kO 8) 0
      simp only [ab_ia]
      first | rfl | decide
    · trivial
    · trivial
    · trivial
    · trivial
    · show ab_ia 0 (kO 24) 0
      simp only [ab_ia]
      first | rfl | decide | trivial
  have hst0 : ab_oks 0 ([] : List ab_V) := fun v hv => by cases hv
  have h6 : (ab_sh 0)[0]? = some (kO 8) := rfl
  have hre : ab_re E (kO 8) 0 = ab_ro E 0 := ab_re_ro E (by decide) h6
  have hout : ab_vm E (vR (kO 24) 0) = .ref (ab_sa E 24 0) := rfl
  have hi : 11 + 7 + 8 + 384 ≤ 512 := by decide
  have hw7 : ∀ (L : List (Option ab_V)) (ls1 : Array Slot), ab_hl E ls1 L → ls1.size = L.length := fun L ls1 h => h.1
  have hLok : ∀ (j : Nat) (w : ab_V), (ab_L0 7 (lr_as a1 a2 a3 a4))[j]? = some (some w) → ab_ok 0 w := fun j v hj => hok v (ab_al0_mem (lr_as a1 a2 a3 a4) 0 _ (ab_L0_at (lr_as a1 a2 a3 a4) 7 0 j v hj))
  rw [lg_entry_eq]
  have h1 := lv_entry ((lr_as a1 a2 a3 a4).map (ab_vm E)) (n := 7) (Nat.le_of_ble_eq_true rfl)
  refine lw_es_ok hF [(oL 2 5, 2), (oC 0, 1), (oL 2 0, 1), (oL 0 1, 1), (oL 0 2, 1), (oL 0 3, 1), (oL 0 4, 2)] (L := ab_L0 7 (lr_as a1 a2 a3 a4)) (L' := ab_L0 7 (lr_as a1 a2 a3 a4)) (st := []) (st' := [vI a4, vI a3, vI a2, vI a1, vR (kO 8) 0, vI 0, vR (kO 24) 0]) ?_ hLok hst0 (by decide +kernel) rfl (fun ls1 hl1 hn1 hL1 hst1 => ?_)
  · refine ⟨h1.1, h1.2.1, fun q hq => h1.2.2 q ?_⟩
    obtain ⟨j, v, b1, rfl⟩ := ab_al_mem.mp hq
    rw [ab_al0_args]
    exact List.mem_map.mpr ⟨(0 + j, v), ab_L0_at (lr_as a1 a2 a3 a4) 7 0 j v b1, rfl⟩
  · have hrec : ∃ cellB : Cell, s.heap[ab_re E (kO 8) 0]? = some cellB ∧ cellB.vm.isStatics = false ∧ s.vm.findClass yX9_rests.cls = some cellB.cls := by
      rw [hre]
      exact va_recv hK hP (ab_vw (ci := 8) (by decide)) (ab_wd_at E h6)
    have hpv : PreV s s.heap yX9_rests.cls (ab_re E (kO 8) 0) (va_Pc ([vR (kO 8) 0, vI a1, vI a2, vI a3, vI a4].map (ab_vm E)) (ab_BX E 0 u)) ([vI a1, vI a2, vI a3, vI a4].map (ab_vm E)) := ⟨ab_BX_blind E 0 u _, hrec, fun U hU hW => ⟨rfl, ⟨va_K.moved hW.alike hK, by rw [hU]; exact hP, hD, by rw [hU]; exact ab_SF.moved hW (hSF.narrow hsub), ab_NW.moved hW hNW, hWT⟩, by rw [hU]; exact (hSX.narrow hsub).moved hW⟩⟩
    have hfix : CallFix p m c cL_rests 7 s ((lr_as a1 a2 a3 a4).map (ab_vm E)).toArray ab_W0 (ab_cn 10) := ⟨B.exec, B.bytes, hml, hown, hts⟩
    have hCB : CallB { frames := 8, cells := 1, slots := 6, locals := 512 } s ((lr_as a1 a2 a3 a4).map (ab_vm E)).toArray (ab_cn 10) 7 yX9_rests cX9_rests 7 (some .int) (Cond.code yX9_rests cX9_rests 7 (some .int) :: ab_W0) (ab_rmx 6) 1 6 4 := by
      obtain ⟨b1, b2, b3, b4, b5⟩ := miX9_rests
      refine ⟨rfl, rfl, by decide, by decide, ab_ws hts b1, List.mem_cons_self, hts _ b1, hts _ b2, b3, fun sig h => ?_, hts _ lp10_7⟩
      rw [h] at b4
      exact (Option.some.inj b4).symm
    have hrun : vx_Run p l e { frames := 8, cells := 1, slots := 6, locals := 512 } s m ((lr_as a1 a2 a3 a4).map (ab_vm E)).toArray below meth c s.heap [] 0 0 1 6 (F0 m 9 ls1 ([vI a4, vI a3, vI a2, vI a1, vR (kO 8) 0, vI 0, vR (kO 24) 0].map (ab_vm E))) ([vI 0, vR (kO 24) 0].map (ab_vm E)) (ab_QX E 0 x u' (Value.ref (ab_re E (kO 8) 0) :: [vI a1, vI a2, vI a3, vI a4].map (ab_vm E)).toArray) (ab_XX E 0 x u') (ab_A E 0) :=
      vx_runV hfix (CX9_rests a1 a2 a3 a4 u x u' hx l E hfl) ⟨hCB, hts _ mvX9_rests.1, hts _ mvX9_rests.2⟩ hpv rfl rfl hl1.1 rfl (lv_room (by rw [ab_cats]; decide)) (show decode cL_rests 9 = .ok (.invokevirtual 7, 3) by decide +kernel) ⟨by decide, by decide⟩
    intro T hT Y
    rcases hrun T hT Y with ⟨v, st₀, t, T', Lc, h0, Y', hLc, e1, e2, ⟨r, hxr, hv, hP', hW', hz, hk⟩, stp⟩ | ⟨q, st₀, t, T', Lc, E', ce, h0, Y', hLc, e1, e2, ⟨hxn, hE', hP', hW', hz, hk⟩, hce, hcv, hcl, stp⟩
    · subst hxr
      cases hv
      rw [h0] at hz hk
      have hO1 : lw_O E ov T'.heap := by
        show T'.heap[ab_sa E 24 0]? = _
        rw [e1, hk _ (lr_P1 hO 0 _ rfl).lt hnO]
        exact hO
      have kk : W p l e { frames := 8, cells := 1, slots := 6, locals := 512 } s m ((lr_as a1 a2 a3 a4).map (ab_vm E)).toArray below meth c T'.heap ([] ++ Lc) (0 + 1) (0 + 6) (vx_MQ below (lr_Q E u' ov (some r)) (fun _ _ _ => False) ((lr_as a1 a2 a3 a4).map (ab_vm E)).toArray s 1 6 (lr_A E)) (F0 m 12 ls1 [.int r, .int 0, .ref (ab_sa E 24 0)]) := by
        refine lv_i2l (cc := cL_rests) B.exec B.bytes (by decide +kernel) rfl ?_
        refine W.last (cc := cL_rests) B.exec B.bytes hO1 ((hK.2 1 _ (ab_ty_at E (e := 1) (by decide))).1 1 (fun _ => .long ov)) (fun q => by cases q) (show ¬ ((0 : Int32) < 0 ∨ 1 ≤ Int32.toNatClampNeg 0) by decide) rfl rfl (show decode cL_rests 13 = .ok (.lastore, 1) by decide +kernel) fun H1 e z oq => ?_
        have hne : ∀ a, a < (ab_sh 0).length → ab_ro E a ≠ ab_sa E 24 0 := fun a ha h => hnO ⟨a, ha, h.symm⟩
        have hO2 : lw_O E r.toInt64 H1 := by
          show H1[ab_sa E 24 0]? = some (vp_cell (ab_cA E 1) (1, .inr (.inl (fun _ => r.toInt64))))
          rw [e, vp_cell_l, vp_cell_l, arrV_store]
          exact congrArg some (tx_arr _ _ _ (by simp [updV]))
        have hend : ∀ t1 : State, t1.heap = H1 → lr_Q E u' ov (some r) ((lr_as a1 a2 a3 a4).map (ab_vm E)).toArray s (.returned (some (.int 0))) t1 := fun t1 ht1 => by
          refine ⟨⟨rfl, by rw [ht1]; exact hO2⟩, ?_, hW', ?_, fun q hq1 hq2 => ?_⟩
          · rw [ht1]
            exact ab_P_kept hP' (fun a ha => by rw [oq _ (hne a ha), e1])
          · rw [ht1, z, e1]; exact hz
          · rw [ht1, oq q (fun h => hq2 (Or.inr h)), e1]
            exact hk q hq1 (fun h => hq2 (Or.inl h))
        refine lv_goto (cc := cL_rests) B.exec B.bytes (off := 7) (tgt := 21) (show decode cL_rests 14 = .ok (.goto 7, 3) by decide +kernel) (show ((14 : Nat) : Int) + 7 = ((21 : Nat) : Int) by decide) ?_
        refine lv_iconst (cc := cL_rests) (n := 0) (v := 0) B.exec B.bytes (by decide +kernel) rfl ?_
        exact vx_ret (W.iret (cc := cL_rests) B.exec B.bytes B.returns (fun t1 ht1 _ => hend t1 ht1) (fun y hy => by
          rcases List.mem_append.mp hy with h | h
          · rcases List.mem_append.mp h with h | h
            · cases h
            · exact Or.inl (hLc y h)
          · rw [List.mem_singleton.mp h]; exact Or.inr rfl) (by decide +kernel) B.notSynchronized)
      obtain ⟨t2, b1, b2⟩ := kk T' rfl Y'
      exact ⟨t2, stp t2 b1, b2⟩
    · subst hxn
      rw [h0] at hz hk
      rw [hE'] at hcl
      have hO1 : lw_O E ov T'.heap := by
        show T'.heap[ab_sa E 24 0]? = _
        rw [e1, hk _ (lr_P1 hO 0 _ rfl).lt hnO]
        exact hO
      have hend : ∀ t1 : State, t1.heap = T'.heap → lr_Q E u' ov none ((lr_as a1 a2 a3 a4).map (ab_vm E)).toArray s (.returned (some (.int 1))) t1 := fun t1 ht1 => by
        refine ⟨⟨rfl, by rw [ht1]; exact hO1⟩, by rw [ht1, e1]; exact hP', hW', by rw [ht1, e1]; exact hz, fun q hq1 hq2 => ?_⟩
        rw [ht1, e1]
        exact hk q hq1 (fun h => hq2 (Or.inl h))
      have kk : W p l e { frames := 8, cells := 1, slots := 6, locals := 512 } s m ((lr_as a1 a2 a3 a4).map (ab_vm E)).toArray below meth c T'.heap ([] ++ Lc) (0 + 1) (0 + 6) (vx_MQ below (lr_Q E u' ov none) (fun _ _ _ => False) ((lr_as a1 a2 a3 a4).map (ab_vm E)).toArray s 1 6 (lr_A E)) (F0 m 17 ls1 [.ref q]) := by
        refine lv_astore (cc := cL_rests) B.exec B.bytes (i := 6) (by decide +kernel) hl1 (show 6 < 7 by decide) rfl (fun ls2 h2 => ?_)
        refine lv_iconst (cc := cL_rests) (n := 1) (v := 1) B.exec B.bytes (by decide +kernel) rfl ?_
        exact vx_ret (W.iret (cc := cL_rests) B.exec B.bytes B.returns (fun t1 ht1 _ => hend t1 ht1) (fun y hy => by
          rcases List.mem_append.mp hy with h | h
          · cases h
          · exact Or.inl (hLc y h)) (by decide +kernel) B.notSynchronized)
      have hcatch := vx_catch (pc := 9) (ls := ls1) (rest := [vI 0, vR (kO 24) 0].map (ab_vm E)) (E := rx_N) (name := rx_N) hown [] ⟨0, 14, 17, 13⟩ [] (by rw [htab]; rfl) (fun z hz => nomatch hz) (by decide) (by decide)
        (hts _ lr_cl) (va_Nw.use rfl hcast) (by rw [e1]; exact hce) hcv hcl kk
      obtain ⟨t2, b1, b2⟩ := hcatch T' rfl Y'
      exact ⟨t2, stp.trans b1, b2⟩
