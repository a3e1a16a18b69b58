/-! the law's call of its own rests -/
def lw_cX (s : State) : Prop := ab_SX (lw_A s) s s.heap ∧ va_Nw (.castable rx_N rx_N) s
theorem lr_cw : Cond.codeWith yL_rests cL_rests 7 (some .int) [(0, 14, 17, 13)] ∈ ab_W0 ∧ Cond.initialized yL_rests.cls ∈ ab_W0 ∧ Cond.static yL_rests ∈ ab_W0 := ⟨by decide +kernel, by decide +kernel, by decide +kernel⟩
theorem lw_R_of {p : Program} {l : Launch} {e : Env} {s : State} {m : MethodId} {below : List Frame} {meth : Method} {c : Code} {b Lx : Nat} {xs : Nat → Int32} {E : ab_E} {rm : Nat → Nat} (C : lw_cx p l s m meth c b Lx xs E rm) (CX : lw_cX s) {rsC : Int32 → Int32 → Int32 → Int32 → Option Int32}
    (hpure : ∀ (a1 a2 a3 a4 : Int32) (u : ab_S), fX9_rests a1 a2 a3 a4 u = some (rsC a1 a2 a3 a4, u)) : lw_R p l e s m below meth c b E rm rsC := by
  intro kc ks a1 a2 a3 a4 i u v ov hc1 hc2 hk1 hk2 H locs ls X hM hO hl hL hok hn
  obtain ⟨C0, hfl, F, hsb, hsm, hdj, hLx⟩ := C
  obtain ⟨hex, hb, hown, hts, hNW, hK, hSF, ho, hs⟩ := id F
  have hsub := ab_D_in X.2.1
  have hsub2 : ∀ q, lr_A E q → lw_A s q := fun q h => h.elim (hsub q) (fun h => by rw [h]; exact hdj.2.2.2)
  have hnO : ¬ ab_A E 0 (ab_sa E 24 0) := by
    rintro ⟨a0, ha0, h7⟩
    exact hdj.2.1 a0 ha0 h7.symm
  have hpv : PreS s H (va_Pc ((lr_as a1 a2 a3 a4).map (ab_vm E)) (lr_B E u ov)) ((lr_as a1 a2 a3 a4).map (ab_vm E)) := ⟨lr_B_blind E u ov _, fun U hU hW => ⟨rfl, ⟨va_K.moved hW.alike hK, by rw [hU]; exact X.1, ab_D_self X.2.1, by rw [hU]; exact ab_SF.moved hW ((ab_SF.kept hSF X.2.2.1.2.1).narrow hsub2), ab_NW.moved hW hNW, X.2.2.2⟩,
    by rw [hU]; exact ((CX.1.kept X.2.2.1.2.1).narrow hsub2).moved hW, by rw [hU]; exact hO, hnO, va_Nw.warmC hW CX.2⟩⟩
  have hml : c.maxLocals = (lw_L i).length := by rw [hn]; exact C0.2.2.2.1
  have hfix : CallFix p m c code (lw_L i).length s #[Value.ref b] ab_W0 (ab_cn 10) := ⟨hex, hb, hml, hown, hts⟩
  have hcw : vx_CSW room_1 s #[Value.ref b] (ab_cn 10) 204 yL_rests cL_rests 7 (some .int) [(0, 14, 17, 13)] (Cond.codeWith yL_rests cL_rests 7 (some .int) [(0, 14, 17, 13)] :: ab_W0) { frames := 8, cells := 1, slots := 6, locals := 512 } 1 6 6 := by
    refine ⟨⟨rfl, rfl, by decide, by decide, pay_in hts (fun w hw => (List.mem_cons.mp hw).elim (fun e => by rw [e]; exact ⟨lr_cw.1, ab_good0 lr_cw.1⟩) (fun h => ⟨h, ab_good0 h⟩)), List.mem_cons_self⟩, hts _ lr_cw.1, hts _ lr_cw.2.1, ⟨by decide, by decide⟩, fun sig h => ?_, hts _ lp10_204, hts _ lr_cw.2.2⟩
    have h2 : (parseMethodDescriptor yL_rests.desc).map (fun d => d.parameters.length) = some 6 := by decide +kernel
    rw [h] at h2
    exact (Option.some.inj h2).symm
  have hrun : vx_Run p l e room_1 s m #[Value.ref b] below meth c H locs kc ks 1 6 (F0 m 1452 ls ([vR (kO 24) 0, vI a4, vI a3, vI a2, vI a1, vR (kO 8) 0].map (ab_vm E))) [] (lr_Q E u ov (rsC a1 a2 a3 a4) ((lr_as a1 a2 a3 a4).map (ab_vm E)).toArray) (fun _ _ _ => False) (lr_A E) :=
    vx_runSX hfix (lr_met a1 a2 a3 a4 u ov _ u (hpure a1 a2 a3 a4 u) l E hfl) hcw hpv rfl rfl hl.1 rfl (lv_room (by simp)) (show decode code 1452 = .ok (.invokestatic 204, 3) by decide +kernel) ⟨hc1, hc2⟩
  intro T hT Y
  rcases hrun T hT Y with ⟨v1, st₀, t, T', Lc, h0, Y', hLc, e1, e2, ⟨hv, hP', hW', hz, hk⟩, stp⟩ | ⟨q, st₀, t, T', Lc, E', ce, h0, Y', hLc, e1, e2, hx, -⟩
  · rw [h0] at hz hk
    have hnew : ∀ q, q < H.size → ¬ lr_A E q → T'.heap[q]? = H[q]? := fun q h1 h2 => by rw [e1]; exact hk q h1 h2
    have hX1 : ab_X E 0 (lw_A s) s u T'.heap (locs ++ Lc) := ⟨by rw [e1]; exact hP', X.2.1, ⟨Nat.le_trans X.2.2.1.1 (by rw [e1]; exact hz), fun q h1 h2 => by rw [hnew q (Nat.lt_of_lt_of_le h1 X.2.2.1.1) (fun z => h2 (hsub2 q z))]; exact X.2.2.1.2.1 q h1 h2, fun q hq => by
        rcases List.mem_append.mp hq with h | h
        · exact X.2.2.1.2.2 q h
        · exact hsub2 _ (hLc q h)⟩, hW'⟩
    have hlt : ∀ a, a < (ab_sh 1).length → ab_ro (lw_Em E rm) a < H.size := fun a ha => by
      obtain ⟨t1, ht1⟩ : ∃ t1, (ab_sh 1)[a]? = some t1 := ⟨_, List.getElem?_eq_getElem ha⟩
      exact (hM.1 a _ (ab_wd_at (lw_Em E rm) ht1)).lt
    have hM1 : lw_M E rm s v T'.heap := ⟨ab_P_kept hM.1 (fun a ha => hnew _ (hlt a ha) (by
      rintro (⟨a0, ha0, h7⟩ | h7)
      · exact hdj.1 a0 a ha0 ha h7.symm
      · exact hdj.2.2.1 a ha h7)), hM.2⟩
    cases hr : rsC a1 a2 a3 a4 with
    | some r =>
      rw [hr] at hv
      obtain ⟨ho1, hO1⟩ := hv
      cases ho1
      have hO2 : lw_O E r.toInt64 T'.heap := by unfold lw_O; rw [e1]; exact hO1
      obtain ⟨t2, b1, b2⟩ := hk1 r hr T'.heap (locs ++ Lc) ls hX1 hM1 hO2 hl hL (fun v hv => by rw [List.mem_singleton.mp hv]; trivial) hn T' rfl Y'
      exact ⟨t2, stp t2 b1, b2⟩
    | none =>
      rw [hr] at hv
      obtain ⟨ho1, hO1⟩ := hv
      cases ho1
      have hO2 : lw_O E ov T'.heap := by unfold lw_O; rw [e1]; exact hO1
      obtain ⟨t2, b1, b2⟩ := hk2 hr T'.heap (locs ++ Lc) ls hX1 hM1 hO2 hl hL (fun v hv => by rw [List.mem_singleton.mp hv]; trivial) hn T' rfl Y'
      exact ⟨t2, stp t2 b1, b2⟩
  · exact hx.elim
