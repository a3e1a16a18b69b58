/-! one instruction, and a stretch of them -/
def ab_oks (sy : Nat) (st : List ab_V) : Prop := ∀ v ∈ st, ab_ok sy v
theorem ab_oks.hd {sy : Nat} {v : ab_V} {r : List ab_V} (h : ab_oks sy (v :: r)) : ab_ok sy v := h v List.mem_cons_self
theorem ab_oks.tl {sy : Nat} {v : ab_V} {r : List ab_V} (h : ab_oks sy (v :: r)) : ab_oks sy r := fun w hw => h w (List.mem_cons_of_mem _ hw)
theorem ab_oks.cons {sy : Nat} {v : ab_V} {r : List ab_V} (hv : ab_ok sy v) (h : ab_oks sy r) : ab_oks sy (v :: r) := fun w hw => (List.mem_cons.mp hw).elim (fun e => by rw [e]; exact hv) (h w)
theorem ab_g1 {g : Bool} (h : [g].all id = true) : g = true := by simpa using h
theorem ab_g2 {g k : Bool} (h : [g, k].all id = true) : g = true ∧ k = true := by simpa using h
theorem ab_nz {P : Prop} [Decidable P] (h : [decide P].all id = true) : P := by simpa using h
theorem ab_s75B : (List.range 15).all (fun o => (ab_lks o).all (fun p => p.2.1 != 7 || (o == 6 && p.1 == 75))) = true := by decide +kernel
theorem ab_s75 {own k : Nat} (h : own < 15) (hq : (ab_lk own k).1 = 7) : own = 6 ∧ k = 75 := by
  cases hl : (ab_lks own).lookup k with
  | none => rw [show (ab_lk own k).1 = 99 from by unfold ab_lk; rw [hl]; rfl] at hq; omega
  | some q =>
    have e : ab_lk own k = q := by unfold ab_lk; rw [hl]; rfl
    have h1 := List.all_eq_true.mp (List.all_eq_true.mp ab_s75B own (List.mem_range.mpr h)) (k, q) (ab_look hl)
    rw [e] at hq
    simpa [hq] using h1
theorem ab_c1_eq {x : Int32} (h : ab_c1 x = true) : vp_nar .char x = x := by simpa [ab_c1] using h
theorem ab_b1_eq {x : Int32} (h : ab_b1 x = true) : vp_nar .boolean x = x := by
  have h2 : x = 0 ∨ x = 1 := by simpa [ab_b1] using h
  rcases h2 with rfl | rfl <;> rfl
section ABT
variable {p : Program} {l : Launch} {e : Env} {R : Room} {s : State} {m : MethodId} {args : Array Value} {below : List Frame} {meth : Method} {c : Code} {H : Heap} {locs : List Loc} {cells slots : Nat} {Q : State → Prop} {E : ab_E} {sy own : Nat} {b : ByteArray} {A : Nat → Prop} {u : ab_S} {pc : Nat} {ls : Array Slot}
set_option maxHeartbeats 4000000 in
theorem ab_sti_ok {i : Instr} {n : Nat} {st st' : List ab_V} {u' : ab_S} {g : List Bool} (F : ab_F p s m args c E sy own b A) (X : ab_X E sy A s u H locs) (hst : ab_oks sy st) (hd : decode b pc = .ok (i, n)) (hn : n = ab_ln i) (h : ab_sti own i st u = some (g, st', u')) (hg : g.all id = true)
    (kk : ∀ (H1 : Heap) (locs1 : List Loc), ab_X E sy A s u' H1 locs1 → ab_oks sy st' → W p l e R s m args below meth c H1 locs1 cells slots Q (F0 m (pc + n) ls (st'.map (ab_vm E)))) : W p l e R s m args below meth c H locs cells slots Q (F0 m pc ls (st.map (ab_vm E))) := by
  subst hn
  have F2 := F
  have X2 := X
  obtain ⟨hx, hb, hown, hts, hNW, hK, hSF, ho, hs⟩ := F
  obtain ⟨hP, hD, hS, hW⟩ := X
  unfold ab_sti at h
  split at h
  · cases h; exact lv_iadd hx hb hd (kk H locs X2 (hst.tl.tl.cons trivial))
  · cases h; exact lv_isub hx hb hd (kk H locs X2 (hst.tl.tl.cons trivial))
  · cases h; exact lv_imul hx hb hd (kk H locs X2 (hst.tl.tl.cons trivial))
  · cases h; exact lv_iand hx hb hd (kk H locs X2 (hst.tl.tl.cons trivial))
  · cases h; exact lv_ior hx hb hd (kk H locs X2 (hst.tl.tl.cons trivial))
  · cases h; exact lv_ixor hx hb hd (kk H locs X2 (hst.tl.tl.cons trivial))
  · cases h; exact lv_ineg hx hb hd (kk H locs X2 (hst.tl.cons trivial))
  · cases h; exact lv_ishl hx hb hd (kk H locs X2 (hst.tl.tl.cons trivial))
  · cases h; exact lv_ishr hx hb hd (kk H locs X2 (hst.tl.tl.cons trivial))
  · cases h; exact lv_iushr hx hb hd rfl (kk H locs X2 (hst.tl.tl.cons trivial))
  · cases h; exact lv_idiv hx hb hd (ab_nz hg) (kk H locs X2 (hst.tl.tl.cons trivial))
  · cases h; exact lv_irem hx hb hd (ab_nz hg) (kk H locs X2 (hst.tl.tl.cons trivial))
  · cases h; exact lv_ladd hx hb hd (kk H locs X2 (hst.tl.tl.cons trivial))
  · cases h; exact lv_lsub hx hb hd (kk H locs X2 (hst.tl.tl.cons trivial))
  · cases h; exact lv_lmul hx hb hd (kk H locs X2 (hst.tl.tl.cons trivial))
  · cases h; exact lv_land hx hb hd (kk H locs X2 (hst.tl.tl.cons trivial))
  · cases h; exact lv_lor hx hb hd (kk H locs X2 (hst.tl.tl.cons trivial))
  · cases h; exact lv_ldiv hx hb hd (ab_nz hg) (kk H locs X2 (hst.tl.tl.cons trivial))
  · cases h; exact lv_lrem hx hb hd (ab_nz hg) (kk H locs X2 (hst.tl.tl.cons trivial))
  · cases h; exact lv_lshl hx hb hd rfl (kk H locs X2 (hst.tl.tl.cons trivial))
  · cases h; exact lv_lshr hx hb hd rfl (kk H locs X2 (hst.tl.tl.cons trivial))
  · cases h; exact lv_lushr hx hb hd rfl (kk H locs X2 (hst.tl.tl.cons trivial))
  · cases h; exact lv_i2l hx hb hd rfl (kk H locs X2 (hst.tl.cons trivial))
  · cases h; exact lv_l2i hx hb hd rfl (kk H locs X2 (hst.tl.cons trivial))
  · cases h; exact lv_i2c hx hb hd rfl (kk H locs X2 (hst.tl.cons trivial))
  · cases h; exact lv_i2b hx hb hd rfl (kk H locs X2 (hst.tl.cons trivial))
  · cases h; exact W.lcmp hx hb hd (kk H locs X2 (hst.tl.tl.cons trivial))
  · cases h; exact lv_dup hx hb hd rfl (kk H locs X2 (hst.cons hst.hd))
  · cases h; exact lv_dup hx hb hd rfl (kk H locs X2 (hst.cons hst.hd))
  · cases h; exact lv_pop hx hb hd rfl (kk H locs X2 hst.tl)
  · cases h; exact lv_dup2_11 hx hb hd rfl rfl (kk H locs X2 ((hst.cons hst.tl.hd).cons hst.hd))
  · rename_i k t a r
    split at h
    · rename_i v hv
      cases h
      obtain ⟨h1, h2⟩ := ab_get_ok (l := l) (e := e) (R := R) (below := below) (meth := meth) (cells := cells) (slots := slots) (Q := Q) (ls := ls) (rest := r.map (ab_vm E)) F2 X2 hst.hd hd hv
      exact h2 (kk H locs X2 (hst.tl.cons h1))
    · cases h
  · rename_i k v t a r
    split at h
    · rename_i g1 u1 hv
      cases h
      exact ab_put_ok F2 X2 hst.tl.hd hst.hd hd hv hg (fun H1 locs1 X1 => kk H1 locs1 X1 hst.tl.tl)
    · cases h
  · rename_i k
    split at h
    · rename_i v hv
      cases h
      obtain ⟨h1, h2⟩ := ab_gst_ok (l := l) (e := e) (R := R) (below := below) (meth := meth) (cells := cells) (slots := slots) (Q := Q) (ls := ls) (rest := st.map (ab_vm E)) F2 X2 hd hv
      exact h2 (kk H locs X2 (hst.cons h1))
    · cases h
  · rename_i k
    cases hq : Nat.beq (ab_lk own k).1 7 with
    | false => rw [hq] at h; cases h
    | true =>
      rw [hq] at h
      cases h
      have hq7 := Nat.eq_of_beq_eq_true hq
      obtain ⟨w1, -, -⟩ := ab_lk_ok (k := k) ho (by omega)
      obtain ⟨ho6, hk75⟩ := ab_s75 ho hq7
      subst ho6
      subst hk75
      exact va_ldcS hx hb hown hSF.2.2.2.2.1 hd (kk H locs X2 (hst.cons (show (0 : Nat) < 1 by omega)))
  · rename_i e0 n0 a r
    cases h
    by_cases he : e0 < 6
    · obtain ⟨g1, g2, g3⟩ := ab_row (E := E) (u := u) (e' := e0) (n := n0) (a := a) hs hst.hd he
      show W p l e R s m args below meth c H locs cells slots Q (F0 m pc ls (.ref (ab_re E (kA e0 n0) a) :: r.map (ab_vm E)))
      rw [g3]
      exact va_alen hx hb hK hP a e0 g2 (ab_ty_at E he) rfl hd (kk H locs X2 (hst.tl.cons trivial))
    · have hia : a < 1 ∧ e0 < 8 ∧ n0 = (if e0 = 6 then 23 else 8) := by
        have h1 : ab_ia sy (kA e0 n0) a := hst.hd
        simp only [ab_ia] at h1
        rwa [if_neg he] at h1
      obtain ⟨ha, he8, hn0⟩ := hia
      have ha0 : a = 0 := by omega
      subst ha0
      rcases (show e0 = 6 ∨ e0 = 7 by omega) with rfl | rfl
      · subst hn0
        exact va_tlen hx hb hSF.2.2.1 hS rfl hd (kk H locs X2 (hst.tl.cons trivial))
      · subst hn0
        exact va_tlen hx hb (hSF.2.2.2.1.1 0 (by omega)).2.2.2 hS rfl hd (kk H locs X2 (hst.tl.cons trivial))
  · rename_i i0 n0 a r
    cases h
    obtain ⟨g1, g2, g3⟩ := ab_row (E := E) (u := u) (e' := 0) (n := n0) (a := a) hs hst.tl.hd (by omega)
    show W p l e R s m args below meth c H locs cells slots Q (F0 m pc ls (.int i0 :: .ref (ab_re E (kA 0 n0) a) :: r.map (ab_vm E)))
    rw [g3]
    exact va_iald hx hb hK hP a 0 g2 (ab_ty_at E (e := 0) (by omega)) (ab_ix_in (ab_g1 hg)) hd (kk H locs X2 (hst.tl.tl.cons trivial))
  · rename_i i0 n0 a r
    cases h
    obtain ⟨g1, g2, g3⟩ := ab_row (E := E) (u := u) (e' := 2) (n := n0) (a := a) hs hst.tl.hd (by omega)
    show W p l e R s m args below meth c H locs cells slots Q (F0 m pc ls (.int i0 :: .ref (ab_re E (kA 2 n0) a) :: r.map (ab_vm E)))
    rw [g3]
    exact va_cald hx hb hK hP a 2 g2 (ab_ty_at E (e := 2) (by omega)) (ab_ix_in (ab_g1 hg)) hd (kk H locs X2 (hst.tl.tl.cons trivial))
  · rename_i i0 n0 a r
    cases h
    obtain ⟨g1, g2, g3⟩ := ab_row (E := E) (u := u) (e' := 3) (n := n0) (a := a) hs hst.tl.hd (by omega)
    show W p l e R s m args below meth c H locs cells slots Q (F0 m pc ls (.int i0 :: .ref (ab_re E (kA 3 n0) a) :: r.map (ab_vm E)))
    rw [g3]
    exact va_zald hx hb hK hP a 3 g2 (ab_ty_at E (e := 3) (by omega)) (ab_ix_in (ab_g1 hg)) hd (kk H locs X2 (hst.tl.tl.cons trivial))
  · rename_i i0 n0 a r
    cases h
    have hia : a < 1 ∧ 7 < 8 ∧ n0 = 8 := hst.tl.hd
    obtain ⟨ha, -, hn0⟩ := hia
    have ha0 : a = 0 := by omega
    subst ha0
    exact va_tb hx hb (hSF.2.2.2.1.1 0 (by omega)).2.2.2 hS (ab_ix_in (ab_g1 hg)) rfl hd (kk H locs X2 (hst.tl.tl.cons trivial))
  · rename_i i0 n0 a r
    cases h
    obtain ⟨g1, g2, g3⟩ := ab_row (E := E) (u := u) (e' := 1) (n := n0) (a := a) hs hst.tl.hd (by omega)
    show W p l e R s m args below meth c H locs cells slots Q (F0 m pc ls (.int i0 :: .ref (ab_re E (kA 1 n0) a) :: r.map (ab_vm E)))
    rw [g3]
    exact va_lald hx hb hK hP a 1 g2 (ab_ty_at E (e := 1) (by omega)) (ab_ix_in (ab_g1 hg)) hd (kk H locs X2 (hst.tl.tl.cons trivial))
  · rename_i i0 n0 a r
    cases h
    obtain ⟨g1, g2, g3⟩ := ab_row (E := E) (u := u) (e' := 4) (n := n0) (a := a) hs hst.tl.hd (by omega)
    have hl := (ab_layA hs g1).2 (by omega) (nc i0) (ab_ix_lt (ab_g1 hg))
    show W p l e R s m args below meth c H locs cells slots Q (F0 m pc ls (.int i0 :: .ref (ab_re E (kA 4 n0) a) :: r.map (ab_vm E)))
    rw [g3]
    refine va_aldq hx hb hK hP a 4 g2 (ab_ty_at E (e := 4) (by omega)) (ab_ix_in (ab_g1 hg)) hd ?_
    have k1 := kk H locs X2 (hst.tl.tl.cons (ab_ia_of hs hl))
    have e1 : ab_vm E (vR (kO 5) (a + 1 + 4 * nc i0)) = .ref (ab_ro E (a + 1 + 4 * nc i0)) := congrArg Value.ref (ab_re_ro E hs hl)
    rw [List.map_cons, e1] at k1
    exact k1
  · rename_i i0 n0 a r
    cases h
    obtain ⟨g1, g2, g3⟩ := ab_row (E := E) (u := u) (e' := 5) (n := n0) (a := a) hs hst.tl.hd (by omega)
    have hl := (ab_layA hs g1).2 (by omega) (nc i0) (ab_ix_lt (ab_g1 hg))
    show W p l e R s m args below meth c H locs cells slots Q (F0 m pc ls (.int i0 :: .ref (ab_re E (kA 5 n0) a) :: r.map (ab_vm E)))
    rw [g3]
    refine va_aldq hx hb hK hP a 5 g2 (ab_ty_at E (e := 5) (by omega)) (ab_ix_in (ab_g1 hg)) hd ?_
    have k1 := kk H locs X2 (hst.tl.tl.cons (ab_ia_of hs hl))
    have e1 : ab_vm E (vR (kO 4) (a + 1 + 4 * nc i0)) = .ref (ab_ro E (a + 1 + 4 * nc i0)) := congrArg Value.ref (ab_re_ro E hs hl)
    rw [List.map_cons, e1] at k1
    exact k1
  · rename_i i0 n0 a r
    cases h
    have hia : a < 1 ∧ 6 < 8 ∧ n0 = 23 := hst.tl.hd
    obtain ⟨ha, -, hn0⟩ := hia
    have ha0 : a = 0 := by omega
    subst ha0
    have hi := ab_ix_lt (ab_g1 hg)
    exact vb_tq hx hb hSF.2.2.1 hS (ab_ix_in (ab_g1 hg)) rfl hd (kk H locs X2 (hst.tl.tl.cons hi))
  · rename_i x0 i0 n0 a r
    cases h
    obtain ⟨g1, g2, g3⟩ := ab_row (E := E) (u := u) (e' := 0) (n := n0) (a := a) hs hst.tl.tl.hd (by omega)
    show W p l e R s m args below meth c H locs cells slots Q (F0 m pc ls (.int x0 :: .int i0 :: .ref (ab_re E (kA 0 n0) a) :: st'.map (ab_vm E)))
    rw [g3]
    refine va_iast hx hb hK hP hD hS a 0 g2 (ab_ty_at E (e := 0) (by omega)) (ab_ix_in (ab_g1 hg)) hd (fun H1 locs1 h1 h2 h3 => ?_)
    have hset := ab_wd_set E g1 (ab_arr_sI E (by omega)).symm (fun b s hb _ => ab_cell_sI E hb) (u := u) (u' := sI u a (nc i0) x0)
    exact kk H1 locs1 ⟨by rw [← hset]; exact h1, by rw [← hset]; exact h2, h3, hW⟩ hst.tl.tl.tl
  · rename_i x0 i0 n0 a r
    cases h
    obtain ⟨g1, g2, g3⟩ := ab_row (E := E) (u := u) (e' := 2) (n := n0) (a := a) hs hst.tl.tl.hd (by omega)
    show W p l e R s m args below meth c H locs cells slots Q (F0 m pc ls (.int x0 :: .int i0 :: .ref (ab_re E (kA 2 n0) a) :: st'.map (ab_vm E)))
    rw [g3]
    refine va_cast hx hb hK hP hD hS a 2 g2 (ab_ty_at E (e := 2) (by omega)) (ab_ix_in (ab_g2 hg).1) hd (fun H1 locs1 h1 h2 h3 => ?_)
    rw [ab_c1_eq (ab_g2 hg).2] at h1 h2
    have hset := ab_wd_set E g1 (ab_arr_sI E (by omega)).symm (fun b s hb _ => ab_cell_sI E hb) (u := u) (u' := sI u a (nc i0) x0)
    exact kk H1 locs1 ⟨by rw [← hset]; exact h1, by rw [← hset]; exact h2, h3, hW⟩ hst.tl.tl.tl
  · rename_i x0 i0 n0 a r
    cases h
    obtain ⟨g1, g2, g3⟩ := ab_row (E := E) (u := u) (e' := 3) (n := n0) (a := a) hs hst.tl.tl.hd (by omega)
    show W p l e R s m args below meth c H locs cells slots Q (F0 m pc ls (.int x0 :: .int i0 :: .ref (ab_re E (kA 3 n0) a) :: st'.map (ab_vm E)))
    rw [g3]
    refine va_zast hx hb hK hP hD hS a 3 g2 (ab_ty_at E (e := 3) (by omega)) (ab_ix_in (ab_g2 hg).1) hd (fun H1 locs1 h1 h2 h3 => ?_)
    rw [ab_b1_eq (ab_g2 hg).2] at h1 h2
    have hset := ab_wd_set E g1 (ab_arr_sI E (by omega)).symm (fun b s hb _ => ab_cell_sI E hb) (u := u) (u' := sI u a (nc i0) x0)
    exact kk H1 locs1 ⟨by rw [← hset]; exact h1, by rw [← hset]; exact h2, h3, hW⟩ hst.tl.tl.tl
  · rename_i x0 i0 n0 a r
    cases h
    obtain ⟨g1, g2, g3⟩ := ab_row (E := E) (u := u) (e' := 1) (n := n0) (a := a) hs hst.tl.tl.hd (by omega)
    show W p l e R s m args below meth c H locs cells slots Q (F0 m pc ls (.long x0 :: .int i0 :: .ref (ab_re E (kA 1 n0) a) :: st'.map (ab_vm E)))
    rw [g3]
    refine va_last hx hb hK hP hD hS a 1 g2 (ab_ty_at E (e := 1) (by omega)) (ab_ix_in (ab_g1 hg)) hd (fun H1 locs1 h1 h2 h3 => ?_)
    have hset := ab_wd_set E g1 (ab_arr_sJ E).symm (fun b s hb _ => ab_cell_sJ E hb) (u := u) (u' := sJ u a (nc i0) x0)
    exact kk H1 locs1 ⟨by rw [← hset]; exact h1, by rw [← hset]; exact h2, h3, hW⟩ hst.tl.tl.tl
  · cases h
end ABT
