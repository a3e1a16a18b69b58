/-! putfield, getstatic, arrays -/
theorem ab_sh8 {sy b : Nat} (hs : sy < 2) (h : (ab_sh sy)[b]? = some (kO 8)) : sy = 0 ∧ b = 0 := (ab_lay (k := 0) hs h).2.1 rfl
theorem ab_w23 : (List.range 15).all (fun o => (ab_lks o).all (fun p => p.2.1 != 4 || decide (p.2.2.1 < 23))) = true := by decide +kernel
theorem ab_w23' {own k : Nat} (h : own < 15) (hq : (ab_lk own k).1 = 4) : (ab_lk own k).2.1 < 23 := by
  cases hl : (ab_lks own).lookup k with
  | none => rw [show (ab_lk own k).1 = 99 from by unfold ab_lk; rw [hl]; rfl] at hq; omega
  | some q =>
    have e : ab_lk own k = q := by unfold ab_lk; rw [hl]; rfl
    have h1 := List.all_eq_true.mp (List.all_eq_true.mp ab_w23 own (List.mem_range.mpr h)) (k, q) (ab_look hl)
    rw [e] at hq ⊢
    simpa [hq] using h1
section ABS
variable {p : Program} {l : Launch} {e : Env} {R : Room} {s : State} {m : MethodId} {args : Array Value} {below : List Frame} {meth : Method} {c : Code} {H : Heap} {locs : List Loc} {cells slots : Nat} {Q : State → Prop} {E : ab_E} {sy own : Nat} {b : ByteArray} {A : Nat → Prop} {u : ab_S} {pc : Nat} {ls : Array Slot} {rest : List Value}
/-- a store into a field of the pool, once its new cell is known -/
theorem ab_putraw {k ci kf a : Nat} {u' : ab_S} {v : Value} {ty : FieldType} (F : ab_F p s m args c E sy own b A) (X : ab_X E sy A s u H locs) (hd : decode b pc = .ok (.putfield k, 3))
    (hq : (ab_lk own k).1 ≤ 1) (e1 : ci = (ab_lk own k).2.1) (e2 : kf = (ab_lk own k).2.2.1) (h6 : (ab_sh sy)[a]? = some (kO ci)) (hty : ab_tt ci kf = ty) (hfin : (ab_TT ci kf).2.2.2 = false) (hn : narrow ty v = v) (hfit : fits ty v = true)
    (hcell : ab_cell E u' a (kO ci) = .inr (ci, ((List.range (ab_fs ci).length).map fun j => ab_fv E u a (ab_fk ci j) j).set kf v)) (hoth : ∀ b s, b ≠ a → (ab_sh sy)[b]? = some s → ab_cell E u' b s = ab_cell E u b s) (hW' : ab_WT sy u')
    (kk : ∀ (H1 : Heap) (locs1 : List Loc), ab_X E sy A s u' H1 locs1 → W p l e R s m args below meth c H1 locs1 cells slots Q (F0 m (pc + 3) ls rest)) : W p l e R s m args below meth c H locs cells slots Q (F0 m pc ls (v :: .ref (ab_ro E a) :: rest)) := by
  obtain ⟨hx, hb, hown, hts, hNW, hK, hSF, ho, hs⟩ := F
  obtain ⟨hP, hD, hS, hW⟩ := X
  obtain ⟨w1, w2, h3⟩ := ab_lk_ok (k := k) ho (by omega)
  obtain ⟨h4, h5⟩ := h3 hq
  rw [← e1] at h4 h5
  rw [← e2] at h5
  have h9 := ab_kd h4 h5
  unfold ab_kdB at h9
  simp only [Bool.and_eq_true, decide_eq_true_eq] at h9
  have hown1 := h9.1
  have hset := ab_wd_set E h6 hcell.symm hoth
  unfold ab_lkw at w1 w2
  have hkk : ∀ (H1 : Heap) (locs1 : List Loc), va_P (E.1, E.2.1) vwCl ((ab_wd E sy u).set a (ab_ro E a, .inr (ci, ((List.range (ab_fs ci).length).map fun j => ab_fv E u a (ab_fk ci j) j).set kf v))) H1 → va_D A ((ab_wd E sy u).set a (ab_ro E a, .inr (ci, ((List.range (ab_fs ci).length).map fun j => ab_fv E u a (ab_fk ci j) j).set kf v))) → va_S A s.heap H1 locs1 → W p l e R s m args below meth c H1 locs1 cells slots Q (F0 m (pc + 3) ls rest) := by
    intro H1 locs1 g1 g2 g3
    rw [hset] at g1 g2
    exact kk H1 locs1 ⟨g1, g2, g3, hW'⟩
  rcases (show (ab_lk own k).1 = 0 ∨ (ab_lk own k).1 = 1 by omega) with h0 | h0
  · rw [h0] at w1 w2
    simp only [ab_isNest] at w2
    rw [← e1, ← e2] at w1 w2
    have w3 : _ ∈ ab_W0 := List.mem_filter.mpr ⟨w1, by rcases w2 with w2 | w2 | w2 <;> first | exact w2 | cases w2⟩
    exact va_put hx hb (T := ab_TT ci) (ref := ab_cn ci) hts (ab_ww h4) (ab_tt ci) (ab_ty_ok h4) (ab_nm_ok h4) hown hK hP hD hS a (ab_wd_at E h6) (ab_vw h4) kf h5 (hts _ w3) (fun x hx => by rw [hown1] at hx; exact hx) hfin (by rw [ab_ty_ok h4 kf h5, hty]) hn hfit (by simpa using h5) hd hkk
  · rw [h0] at w1
    rw [← e1, ← e2] at w1
    have w3 := va_Nw.use (A := args) rfl (hNW _ w1 rfl)
    exact va_putN hx hb (T := ab_TT ci) (ref := ab_cn ci) hts (ab_ww h4) (ab_tt ci) (ab_ty_ok h4) (ab_nm_ok h4) hown hK hP hD hS a (ab_wd_at E h6) (ab_vw h4) kf h5 w3 (fun x hx => by rw [hown1] at hx; exact hx) hfin (by rw [ab_ty_ok h4 kf h5, hty]) hn hfit (by simpa using h5) hd hkk
theorem ab_put_ok {t : ab_T} {a k : Nat} {v : ab_V} {u' : ab_S} {g : List Bool} (F : ab_F p s m args c E sy own b A) (X : ab_X E sy A s u H locs) (hia : ab_ia sy t a) (hv : ab_ok sy v) (hd : decode b pc = .ok (.putfield k, 3)) (h : ab_pf (ab_lk own k) t a v u = some (g, u')) (hg : g.all id = true)
    (kk : ∀ (H1 : Heap) (locs1 : List Loc), ab_X E sy A s u' H1 locs1 → W p l e R s m args below meth c H1 locs1 cells slots Q (F0 m (pc + 3) ls rest)) : W p l e R s m args below meth c H locs cells slots Q (F0 m pc ls (ab_vm E v :: .ref (ab_re E t a) :: rest)) := by
  have F2 := F
  have X2 := X
  obtain ⟨hx, hb, hown, hts, hNW, hK, hSF, ho, hs⟩ := F
  obtain ⟨hP, hD, hS, hW⟩ := X
  cases t with
  | inr z => cases h
  | inl ci =>
    unfold ab_pf at h
    dsimp only at h
    cases hc : (Nat.beq ci (ab_lk own k).2.1 && Nat.ble (ab_lk own k).1 1) with
    | false => rw [hc] at h; cases h
    | true =>
      rw [hc] at h
      dsimp only [cond] at h
      rw [Bool.and_eq_true] at hc
      have e1 := Nat.eq_of_beq_eq_true hc.1
      have hq := Nat.le_of_ble_eq_true hc.2
      obtain ⟨-, -, h3⟩ := ab_lk_ok (k := k) ho (by omega)
      obtain ⟨h4, h5⟩ := h3 hq
      rw [← e1] at h4 h5
      have h6 : (ab_sh sy)[a]? = some (kO ci) := by
        simp only [ab_ia] at hia
        rwa [if_pos (by omega)] at hia
      have h9 := ab_kd h4 h5
      unfold ab_kdB at h9
      rw [ab_re_ro E hs h6]
      generalize hkf : (ab_lk own k).2.2.1 = kf at h h5 h9
      split at h
      · rename_i ec
        cases h
        rw [ec] at h9
        simp only [Bool.and_eq_true, decide_eq_true_eq, Bool.not_eq_true'] at h9
        exact ab_putraw F2 X2 hd hq e1 hkf.symm h6 h9.2.1 h9.2.2 rfl rfl (ab_obj_sI E (Or.inl ec)) (fun b s hb _ => ab_cell_sI E hb) hW kk
      · rename_i x ec
        cases h
        rw [ec] at h9
        simp only [Bool.and_eq_true, decide_eq_true_eq, Bool.not_eq_true'] at h9
        have hx1 : ab_b1 x = true := by simpa using hg
        have hx2 : x = 0 ∨ x = 1 := by simpa [ab_b1] using hx1
        exact ab_putraw F2 X2 hd hq e1 hkf.symm h6 h9.2.1 h9.2.2 (by rcases hx2 with rfl | rfl <;> rfl) (by rcases hx2 with rfl | rfl <;> rfl) (ab_obj_sI E (Or.inr ec)) (fun b s hb _ => ab_cell_sI E hb) hW kk
      · rename_i ec
        cases h
        rw [ec] at h9
        simp only [Bool.and_eq_true, decide_eq_true_eq, Bool.not_eq_true'] at h9
        exact ab_putraw F2 X2 hd hq e1 hkf.symm h6 h9.2.1 h9.2.2 rfl rfl (ab_obj_sJ E ec) (fun b s hb _ => ab_cell_sJ E hb) hW kk
      · rename_i d b2 ec
        rw [ec] at h9
        simp only [Bool.and_eq_true, decide_eq_true_eq, Bool.not_eq_true'] at h9
        obtain ⟨-, ⟨⟨⟨⟨⟨⟨ht, hf⟩, h8⟩, hk1⟩, hk5⟩, hj⟩, htag⟩⟩ := h9
        cases hcc : (Nat.beq ci 8 && Nat.beq d (if kf < 3 then 2 else 7)) with
        | false => rw [hcc] at h; cases h
        | true =>
          rw [hcc] at h
          cases h
          rw [Bool.and_eq_true] at hcc
          have hdd := Nat.eq_of_beq_eq_true hcc.2
          subst h8
          obtain ⟨hs0, ha0⟩ := ab_sh8 hs h6
          subst hs0
          subst ha0
          have hd20 : d < 20 := by rw [hdd]; split <;> omega
          have hb2 : (ab_sh 0)[b2]? = some (kO d) := by
            simp only [ab_ok, ab_ia] at hv
            rwa [if_pos hd20] at hv
          have hvm : ab_vm E (.inr (.inr (.inl d, b2))) = .ref (ab_ro E b2) := congrArg Value.ref (ab_re_ro E hs hb2)
          rw [hvm]
          refine ab_putraw F2 X2 hd hq e1 hkf.symm h6 ht hf rfl rfl (ab_obj_sM E ⟨hk1, hk5⟩) (fun b s hb hsh => ab_cell_sM E (fun q => ?_)) ?_ kk
          · rw [q] at hsh
            exact hb (ab_sh8 hs hsh).2
          · intro j hj4 _
            show ab_sh0[if j = kf - 1 then b2 else u.2.2 j]? = _
            by_cases ej : j = kf - 1
            · rw [if_pos ej]
              rw [show (if j < 2 then kO 2 else kO 7) = kO d by
                rw [hdd]
                by_cases q : kf < 3
                · rw [if_pos q, if_pos (by omega)]
                · rw [if_neg q, if_neg (by omega)]]
              exact hb2
            · rw [if_neg ej]
              exact hW j hj4 rfl
      · cases h
theorem ab_gst_ok {k : Nat} {v : ab_V} (F : ab_F p s m args c E sy own b A) (X : ab_X E sy A s u H locs) (hd : decode b pc = .ok (.getstatic k, 3)) (h : ab_gs (ab_lk own k) = some v) :
    ab_ok sy v ∧ (W p l e R s m args below meth c H locs cells slots Q (F0 m (pc + 3) ls (ab_vm E v :: rest)) → W p l e R s m args below meth c H locs cells slots Q (F0 m pc ls rest)) := by
  obtain ⟨hx, hb, hown, hts, hNW, hK, hSF, ho, hs⟩ := F
  obtain ⟨hP, hD, hS, hW⟩ := X
  obtain ⟨f1, f2, f3, f4, f5, f6⟩ := hSF
  unfold ab_gs at h
  split at h
  · rename_i hq
    cases h
    obtain ⟨w1, w2, -⟩ := ab_lk_ok (k := k) ho (by omega)
    unfold ab_lkw at w1 w2
    rw [hq] at w1 w2
    simp only [ab_isNest] at w2
    have w3 : _ ∈ ab_W0 := List.mem_filter.mpr ⟨w1, by rcases w2 with w2 | w2 | w2 <;> first | exact w2 | cases w2⟩
    have hi := ab_w23' ho hq
    exact ⟨hi, fun kk => va_gets hx hb (f1 _ hi).1 hS hown (hts _ w3) (fun x hx => hx) hd kk⟩
  · rename_i hq
    cases h
    obtain ⟨w1, w2, -⟩ := ab_lk_ok (k := k) ho (by omega)
    unfold ab_lkw at w1 w2
    rw [hq] at w1 w2
    simp only [ab_isNest] at w2
    have w3 : _ ∈ ab_W0 := List.mem_filter.mpr ⟨w1, by rcases w2 with w2 | w2 | w2 <;> first | exact w2 | cases w2⟩
    exact ⟨⟨by omega, by omega, rfl⟩, fun kk => va_gets hx hb f2 hS hown (hts _ w3) (fun x hx => hx) hd kk⟩
  · rename_i hq
    cases h
    obtain ⟨w1, w2, -⟩ := ab_lk_ok (k := k) ho (by omega)
    unfold ab_lkw at w1
    rw [hq] at w1
    have w3 := va_Nw.use (A := args) rfl (hNW _ w1 rfl)
    exact ⟨⟨by omega, by omega, rfl⟩, fun kk => va_getsN hx hb f2 hS hown w3 (fun x hx => hx) hd kk⟩
  · rename_i hq
    cases h
    obtain ⟨w1, w2, -⟩ := ab_lk_ok (k := k) ho (by omega)
    unfold ab_lkw at w1 w2
    rw [hq] at w1 w2
    simp only [ab_isNest] at w2
    have w3 : _ ∈ ab_W0 := List.mem_filter.mpr ⟨w1, by rcases w2 with w2 | w2 | w2 <;> first | exact w2 | cases w2⟩
    exact ⟨trivial, fun kk => va_gets hx hb f6 hS hown (hts _ w3) (fun x hx => hx) hd kk⟩
  · cases h
/-- a row of the pool at its place -/
theorem ab_row {a e' n : Nat} (hs : sy < 2) (hia : ab_ia sy (kA e' n) a) (he : e' < 6) : (ab_sh sy)[a]? = some (kA e' n) ∧ (ab_wd E sy u)[a]? = some (ab_ro E a, ab_cell E u a (kA e' n)) ∧ ab_re E (kA e' n) a = ab_ro E a := by
  have h6 : (ab_sh sy)[a]? = some (kA e' n) := by
    simp only [ab_ia] at hia
    rwa [if_pos he] at hia
  exact ⟨h6, ab_wd_at E h6, ab_re_ro E hs h6⟩
end ABS
