/-! the contract of SoulRaffle.rests -/
def ab_BX (E : ab_E) (sy : Nat) (u : ab_S) (U : State) : Prop := ab_B E sy u U ∧ ab_SX (ab_A E sy) U U.heap
theorem ab_BX_blind (E : ab_E) (sy : Nat) (u : ab_S) (av : List Value) : FrameBlind (va_Pc av (ab_BX E sy u)) := by
  intro a U g mk h
  obtain ⟨h0, h1, h2⟩ := h
  exact ⟨h0, (ab_B_blind E sy u av a U g mk ⟨h0, h1⟩).2, ab_SX.same (s := U) (U := U.calling g mk a) rfl h2⟩
theorem CX9_rests (v1 v2 v3 v4 : Int32) (u : ab_S) (x : Option Int32) (u' : ab_S) (hx : fX9_rests v1 v2 v3 v4 u = some (x, u')) (l : Launch) (E : ab_E) (hfl : l.flags = flags0) :
    vx_Met l yX9_rests (Cond.code yX9_rests cX9_rests 7 (some .int) :: ab_W0) (ab_rmx 6) (va_Pc ([vR (kO 8) 0, vI v1, vI v2, vI v3, vI v4].map (ab_vm E)) (ab_BX E 0 u)) (ab_QX E 0 x u') (ab_XX E 0 x u') 1 6 (ab_A E 0) := by
  refine vx_ofW (cc := cX9_rests) (maxL := 7) (ret := some .int) (by decide +kernel) rfl ?_
  intro p e s m args below meth c s₁ B hml htab hv
  obtain ⟨rfl, ⟨hK, hP, hD, hSF, hNW, hWT⟩, hSX⟩ := hv
  have hts := atoms_spec (ws := Cond.code yX9_rests cX9_rests 7 (some .int) :: ab_W0) B.pre
  have hown : s.vm.findClass (ab_cn 8) = some m.cls := findClass_of_methodNamed B.named
  have hok : ab_oks 0 [vR (kO 8) 0, vI v1, vI v2, vI v3, vI v4] := by
    intro v hv
    rcases List.mem_cons.mp hv with rfl | hv
    · show ab_ia 0 (kO 8) 0
      simp only [ab_ia]
      first | rfl | decide
    · simp only [List.mem_cons, List.not_mem_nil, or_false] at hv
      rcases hv with rfl | rfl | rfl | rfl <;> trivial
  have htab' : c.exceptionTable.toList = [] := List.eq_nil_iff_forall_not_mem.mpr fun z hz => htab z hz
  rw [lg_entry_eq]
  refine tX9_rests v1 v2 v3 v4 u x u' hx p l e s m _ below meth c s.heap [] _ E hfl ⟨B.exec, B.bytes, hown, fun w hw => hts w (List.mem_cons_of_mem _ hw), hNW, hK, hSF, by decide, by decide⟩ ⟨hSX, htab'⟩ B.returns B.notSynchronized (by rw [hml]; rfl) ⟨hP, hD, va_S.rf, hWT⟩ ?_ (fun j v hj => hok v (ab_al0_mem [vR (kO 8) 0, vI v1, vI v2, vI v3, vI v4] 0 _ (ab_L0_at [vR (kO 8) 0, vI v1, vI v2, vI v3, vI v4] 7 0 j v hj))) (fun v hv => by cases hv)
  have h1 := lv_entry ([vR (kO 8) 0, vI v1, vI v2, vI v3, vI v4].map (ab_vm E)) (n := 7) (Nat.le_of_ble_eq_true rfl)
  refine ⟨h1.1, h1.2.1, fun q hq => h1.2.2 q ?_⟩
  obtain ⟨j, v, a1, rfl⟩ := ab_al_mem.mp hq
  rw [ab_al0_args]
  exact List.mem_map.mpr ⟨(0 + j, v), ab_L0_at [vR (kO 8) 0, vI v1, vI v2, vI v3, vI v4] 7 0 j v a1, rfl⟩
