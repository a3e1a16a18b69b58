/-! the constructor of SoulRaffleModel (wip/gen/ctor9.py) -/
def E9 (E : ab_E) (a N0 : Nat) : ab_E := (E.1, (E.2.1, (E.2.2.1, ((fun p => match p with
  | 0 => a
  | q + 1 => N0 + q), E.2.2.2.2))))
def XX9 (E : ab_E) (a N0 : Nat) (U : State) : Prop := ab_SF (E9 E a N0) (nw_A a N0) U U.heap
def wdf9 : Nat → (Nat → Int64)
  | 0 => fun _ => 0
  | k + 1 => vp_updL (wdf9 k) (Int32.toNatClampNeg (Int32.ofNat k)) (match k with
    | 0 => 1119812451
    | 1 => 6395136
    | 2 => 375665
    | 3 => 43890888
    | 4 => 561
    | 5 => 22961072
    | 6 => 969441
    | 7 => 316998
    | 8 => 45076385548
    | 9 => 3540
    | 10 => 993947
    | 11 => 4672922
    | 12 => 30596128
    | 13 => 30919646
    | 14 => 665530
    | 15 => 660603
    | 16 => 19741
    | 17 => 1891
    | 18 => 573
    | 19 => 30910767
    | 20 => 671333
    | 21 => 620569
    | 22 => 1078055329
    | _ => 0)
theorem wdf9_at : ∀ k, k < 23 → wdf9 23 k = lN (wdL.getD k 0) := by decide +kernel
def s9_1 (E : ab_E) (N0 : Nat) : va_W := [(N0, .inl (ab_cA E 0, (1000, .inl (fun _ => 0))))]
def s9_2 (E : ab_E) (N0 : Nat) : va_W := s9_1 E N0 ++ [(N0 + 1, .inl (ab_cA E 0, (1002, .inl (fun _ => 0))))]
def s9_3 (E : ab_E) (N0 : Nat) : va_W := s9_2 E N0 ++ [(N0 + 2, .inl (ab_cA E 0, (1002, .inl (fun _ => 0))))]
def s9_4 (E : ab_E) (N0 : Nat) : va_W := s9_3 E N0 ++ [(N0 + 3, .inl (ab_cA E 1, (1002, .inr (.inl (fun _ => 0)))))]
def s9_5 (E : ab_E) (N0 : Nat) : va_W := s9_4 E N0 ++ [(N0 + 4, .inl (ab_cA E 1, (23, .inr (.inl (wdf9 23)))))]
def s9_6 (E : ab_E) (N0 : Nat) : va_W := s9_5 E N0 ++ [(N0 + 5, .inl (ab_cA E 0, (180, .inl (fun _ => 0))))]
def s9_7 (E : ab_E) (N0 : Nat) : va_W := s9_6 E N0 ++ [(N0 + 6, .inl (ab_cA E 0, (2200, .inl (fun _ => 0))))]
def s9_8 (E : ab_E) (N0 : Nat) : va_W := s9_7 E N0 ++ [(N0 + 7, .inl (ab_cA E 0, (2200, .inl (fun _ => 0))))]
def s9_9 (E : ab_E) (N0 : Nat) : va_W := s9_8 E N0 ++ [(N0 + 8, .inl (ab_cA E 1, (14, .inr (.inl (fun _ => 0)))))]
def s9_10 (E : ab_E) (N0 : Nat) : va_W := s9_9 E N0 ++ [(N0 + 9, .inl (ab_cA E 1, (14, .inr (.inl (fun _ => 0)))))]
def s9_11 (E : ab_E) (N0 : Nat) : va_W := s9_10 E N0 ++ [(N0 + 10, .inl (ab_cA E 0, (14, .inl (fun _ => 0))))]
def s9_12 (E : ab_E) (N0 : Nat) : va_W := s9_11 E N0 ++ [(N0 + 11, .inl (ab_cA E 0, (14, .inl (fun _ => 0))))]
def s9_13 (E : ab_E) (N0 : Nat) : va_W := s9_12 E N0 ++ [(N0 + 12, .inl (ab_cA E 0, (250, .inl (fun _ => 0))))]
def s9_14 (E : ab_E) (N0 : Nat) : va_W := s9_13 E N0 ++ [(N0 + 13, .inl (ab_cA E 0, (4, .inl (fun _ => 0))))]
def s9_15 (E : ab_E) (N0 : Nat) : va_W := s9_14 E N0 ++ [(N0 + 14, .inl (ab_cA E 0, (1100, .inl (fun _ => 0))))]
def s9_16 (E : ab_E) (N0 : Nat) : va_W := s9_15 E N0 ++ [(N0 + 15, .inl (ab_cA E 0, (1081, .inl (fun _ => 0))))]
def s9_17 (E : ab_E) (N0 : Nat) : va_W := s9_16 E N0 ++ [(N0 + 16, .inl (ab_cA E 3, (4, .inl (fun _ => 0))))]
def s9_18 (E : ab_E) (N0 : Nat) : va_W := s9_17 E N0 ++ [(N0 + 17, .inl (ab_cA E 0, (6, .inl (fun _ => 0))))]
def s9_19 (E : ab_E) (N0 : Nat) : va_W := s9_18 E N0 ++ [(N0 + 18, .inl (ab_cA E 0, (6, .inl (fun _ => 0))))]
def s9_20 (E : ab_E) (N0 : Nat) : va_W := s9_19 E N0 ++ [(N0 + 19, .inl (ab_cA E 0, (6, .inl (fun _ => 0))))]
def s9_21 (E : ab_E) (N0 : Nat) : va_W := s9_20 E N0 ++ [(N0 + 20, .inl (ab_cA E 0, (6, .inl (fun _ => 0))))]
def s9_22 (E : ab_E) (N0 : Nat) : va_W := s9_21 E N0 ++ [(N0 + 21, .inl (ab_cA E 0, (6, .inl (fun _ => 0))))]
def v9L : Nat → (Nat → Int64)
  | 5 => wdf9 23
  | _ => fun _ => 0
def v9 : ab_S := (fun _ _ => 0, v9L, fun _ => 0)
theorem cons2 {α : Type} {x y : α} {xs ys : List α} (h : x = y) (t : xs = ys) : x :: xs = y :: ys := by rw [h, t]
theorem map23 {α : Type} (f : Nat → α) : (List.range 23).map f = [f 0, f 1, f 2, f 3, f 4, f 5, f 6, f 7, f 8, f 9, f 10, f 11, f 12, f 13, f 14, f 15, f 16, f 17, f 18, f 19, f 20, f 21, f 22] := rfl
theorem map33 {α : Type} (f : Nat → α) : (List.range 33).map f = [f 0, f 1, f 2, f 3, f 4, f 5, f 6, f 7, f 8, f 9, f 10, f 11, f 12, f 13, f 14, f 15, f 16, f 17, f 18, f 19, f 20, f 21, f 22, f 23, f 24, f 25, f 26, f 27, f 28, f 29, f 30, f 31, f 32] := rfl
theorem o9_eq (E : ab_E) (a N0 : Nat) : (.inr (9, [.int 0, .ref (N0), .int 0, .int 0, .ref (N0 + 1), .ref (N0 + 2), .ref (N0 + 3), .int 0, .int 0, .ref (N0 + 4), .ref (N0 + 5), .ref (N0 + 6), .ref (N0 + 7), .int 0, .ref (N0 + 8), .ref (N0 + 9), .ref (N0 + 10), .ref (N0 + 11), .int 0, .int 0, .int 0, .ref (N0 + 12), .ref (N0 + 13), .ref (N0 + 14), .ref (N0 + 15), .int 0, .ref (N0 + 16), .ref (N0 + 17), .ref (N0 + 18), .ref (N0 + 19), .ref (N0 + 20), .ref (N0 + 21), .int 0]) : va_E) = ab_cell (E9 E a N0) v9 0 (kO 9) := by
  show _ = (.inr (9, (List.range 33).map fun k => ab_fv (E9 E a N0) v9 0 (ab_fk 9 k) k) : va_E)
  rw [map33]
  refine congrArg (fun z => (.inr (9, z) : va_E)) ?_
  exact cons2 rfl (cons2 rfl (cons2 rfl (cons2 rfl (cons2 rfl (cons2 rfl (cons2 rfl (cons2 rfl (cons2 rfl (cons2 rfl (cons2 rfl (cons2 rfl (cons2 rfl (cons2 rfl (cons2 rfl (cons2 rfl (cons2 rfl (cons2 rfl (cons2 rfl (cons2 rfl (cons2 rfl (cons2 rfl (cons2 rfl (cons2 rfl (cons2 rfl (cons2 rfl (cons2 rfl (cons2 rfl (cons2 rfl (cons2 rfl (cons2 rfl (cons2 rfl (cons2 rfl (rfl)))))))))))))))))))))))))))))))))
theorem w9_eq (E : ab_E) (a N0 : Nat) : (a, (.inr (9, [.int 0, .ref (N0), .int 0, .int 0, .ref (N0 + 1), .ref (N0 + 2), .ref (N0 + 3), .int 0, .int 0, .ref (N0 + 4), .ref (N0 + 5), .ref (N0 + 6), .ref (N0 + 7), .int 0, .ref (N0 + 8), .ref (N0 + 9), .ref (N0 + 10), .ref (N0 + 11), .int 0, .int 0, .int 0, .ref (N0 + 12), .ref (N0 + 13), .ref (N0 + 14), .ref (N0 + 15), .int 0, .ref (N0 + 16), .ref (N0 + 17), .ref (N0 + 18), .ref (N0 + 19), .ref (N0 + 20), .ref (N0 + 21), .int 0]) : va_E)) :: s9_22 E N0 = ab_wd (E9 E a N0) 1 v9 := by
  unfold ab_wd
  rw [show (ab_sh 1).length = 23 from rfl, map23]
  unfold s9_22 s9_21 s9_20 s9_19 s9_18 s9_17 s9_16 s9_15 s9_14 s9_13 s9_12 s9_11 s9_10 s9_9 s9_8 s9_7 s9_6 s9_5 s9_4 s9_3 s9_2 s9_1
  simp only [List.append_assoc, List.cons_append, List.nil_append]
  exact cons2 (congrArg (fun z => (a, z)) (o9_eq E a N0)) (cons2 rfl (cons2 rfl (cons2 rfl (cons2 rfl (cons2 rfl (cons2 rfl (cons2 rfl (cons2 rfl (cons2 rfl (cons2 rfl (cons2 rfl (cons2 rfl (cons2 rfl (cons2 rfl (cons2 rfl (cons2 rfl (cons2 rfl (cons2 rfl (cons2 rfl (cons2 rfl (cons2 rfl (cons2 rfl (rfl)))))))))))))))))))))))
theorem e9_re (E : ab_E) (a N0 : Nat) : ab_re (E9 E a N0) (kO 9) 0 = a := rfl
theorem e9_A {E : ab_E} {a N0 q : Nat} (h : ab_A (E9 E a N0) 1 q) : nw_A a N0 q := by
  obtain ⟨p, hp, rfl⟩ := h
  cases p with
  | zero => exact Or.inl rfl
  | succ p => exact Or.inr (Nat.le_add_right _ _)
/-- a method of the pool, called on the new object -/
theorem mg_pool {E : ab_E} {a N0 : Nat} {b b' : ByteArray} {R : Room} {nL nL' d' k kF mF pc pc2 slots : Nat} {L : List (Nat × Value)} {WF : va_W} {y : MethodName} {bs : List ab_V} {v v' : ab_S} {r0 : Option (Unit × ab_S)} {st0 : List Value} (hM0 : ab_C 1 y b' nL' none d' (vR (kO 9) 0 :: bs) v wV r0) (hr0 : r0 = some ((), v')) (hnum : bs.all ab_num = true) (hI : ab_mI y b' nL' none bs.length) (hV : ab_mV y) (hci : ab_cn 9 = y.cls) (hlp : ab_lp 9 k y) (hd : decode b pc = .ok (.invokevirtual k, 3)) (hst0 : st0 = (bs.map (ab_vm E)).reverse ++ [.ref a]) (hR : d' + 1 ≤ R.frames ∧ 8 + (nL' + 11) + 64 * d' ≤ R.locals ∧ 22 ≤ R.cells ∧ slots ≤ R.slots) (hp : pc + 3 = pc2)
    (kk : mg_G (XX9 E a N0) 9 b R nL E a N0 (N0 + 22) kF mF WF pc2 L [] (ab_wd (E9 E a N0) 1 v') (N0 + 22) 22 slots) : mg_G (XX9 E a N0) 9 b R nL E a N0 (N0 + 22) kF mF WF pc L st0 (ab_wd (E9 E a N0) 1 v) (N0 + 22) 22 slots := by
  intro p l e s m args below meth c H locs ls hfl F hml X hl
  subst hp
  subst hst0
  obtain ⟨hex, hb, hown, hts, hNW, hK, hsz, hnm, hret, hlk⟩ := id F
  obtain ⟨hP, hD, hS, hn⟩ := X
  have h6 : (ab_sh 1)[0]? = some (kO 9) := rfl
  have hoka : ab_oks 1 (vR (kO 9) 0 :: bs) := fun v hv => by
    rcases List.mem_cons.mp hv with h | h
    · rw [h]; exact ab_ia_of (by decide) h6
    · have h1 := List.all_eq_true.mp hnum v h
      rcases v with x | x | x
      · trivial
      · trivial
      · cases h1
  have hM2 := hM0 () v' hr0 hoka l (E9 E a N0) hfl.1
  have hrec : ∃ cellB : Cell, H[a]? = some cellB ∧ cellB.vm.isStatics = false ∧ s.vm.findClass y.cls = some cellB.cls := by
    rw [← hci]
    exact va_recv hK hP (ab_vw (by decide)) (ab_wd_at (E9 E a N0) h6)
  have hkeep : ∀ q : Nat, q < s.heap.size → ¬ nw_A a N0 q → H[q]? = s.heap[q]? := hS.2.1
  have hpre : ∀ U : State, U.heap = H → s.WarmedH U.vm → va_Pc ((vR (kO 9) 0 :: bs).map (ab_vm (E9 E a N0))) (ab_B (E9 E a N0) 1 v) (Value.ref a :: bs.map (ab_vm E)).toArray U := by
    intro U hU hW
    refine ⟨?_, va_K.moved hW.alike hK, by rw [hU]; exact hP, ab_D_self hD, by rw [hU]; exact ab_SF.moved hW ((ab_SF.kept hfl.2 hkeep).narrow (fun q h => e9_A h)), ab_NW.moved hW hNW, fun j hj h => by cases h⟩
    rw [ab_num_map E (E9 E a N0) bs hnum]
    rfl
  have hpv : PreV s H y.cls a (va_Pc ((vR (kO 9) 0 :: bs).map (ab_vm (E9 E a N0))) (ab_B (E9 E a N0) 1 v)) (bs.map (ab_vm E)) := ⟨ab_B_blind (E9 E a N0) 1 v _, hrec, hpre⟩
  have hfix : CallFix p m c b nL s args ab_W0 (ab_cn 9) := ⟨hex, hb, hml, hown, hts⟩
  have hmon : 2 * (F0 m pc ls ((bs.map (ab_vm E)).reverse ++ [.ref a])).monitorRoom + (([] : List Value).map fun v => v.category).sum ≤ 8 := lv_room (by simp)
  have hCB : CallB R s args (ab_cn 9) k y b' nL' none (Cond.code y b' nL' none :: ab_W0) (ab_rm d') 0 0 bs.length := by
    obtain ⟨h1, h2, h3, h4, h5⟩ := hI
    refine ⟨rfl, rfl, hR.1, hR.2.1, ab_ws hts h1, List.mem_cons_self, hts _ h1, hts _ h2, h3, fun sig h => ?_, hts _ hlp⟩
    rw [h] at h4
    exact (Option.some.inj h4).symm
  have hrun : va_Run p l e R s m args below meth c H locs 22 slots 0 0 (F0 m pc ls ((bs.map (ab_vm E)).reverse ++ [.ref a])) [] (ab_Q (E9 E a N0) 1 wV () v' (Value.ref a :: bs.map (ab_vm E)).toArray) (ab_A (E9 E a N0) 1) :=
    va_runV hfix hM2 ⟨hCB, hts _ hV.1, hts _ hV.2⟩ hpv rfl (by simp) hl.1 rfl hmon hd ⟨hR.2.2.1, hR.2.2.2⟩
  intro T hT Y
  obtain ⟨v1, st₀, t, T', Lc, h0, Y', hLc, e1, e2, ⟨hv, hP', hW', hz, hk⟩, stp⟩ := hrun T hT Y
  cases hv
  rw [h0] at hz hk
  have hup : T'.heap.size ≤ N0 + 22 := by
    have := Y'.heapSize
    rw [hsz] at this
    exact this
  have hX1 : nw_W E (nw_A a N0) s.heap (ab_wd (E9 E a N0) 1 v') (N0 + 22) T'.heap (locs ++ Lc) := by
    refine ⟨by rw [e1]; exact hP', ab_D_eq hD, ⟨Nat.le_trans hS.1 (by rw [e1]; exact hz), fun q h1 h2 => ?_, fun q hq => ?_⟩, ?_⟩
    · rw [e1, hk q (Nat.lt_of_lt_of_le h1 hS.1) (fun h => h2 (e9_A h))]
      exact hS.2.1 q h1 h2
    · rcases List.mem_append.mp hq with h | h
      · exact hS.2.2 q h
      · exact e9_A (hLc q h)
    · have : N0 + 22 ≤ T'.heap.size := by rw [e1, ← hn]; exact hz
      omega
  obtain ⟨t2, b1, b2⟩ := kk p l e s m args below meth c T'.heap (locs ++ Lc) ls hfl F hml hX1 hl T' rfl Y'
  exact ⟨t2, stp t2 b1, b2⟩
theorem nf9 : ∀ j, j < (ab_fs 9).length → defaultValue (ab_tt 9 j) = vp_V ([.int 0, .null, .int 0, .int 0, .null, .null, .null, .int 0, .int 0, .null, .null, .null, .null, .int 0, .null, .null, .null, .null, .int 0, .int 0, .int 0, .null, .null, .null, .null, .int 0, .null, .null, .null, .null, .null, .null, .int 0] : List Value) j := fun j hj => match j, hj with
  | 0, _ => rfl
  | 1, _ => rfl
  | 2, _ => rfl
  | 3, _ => rfl
  | 4, _ => rfl
  | 5, _ => rfl
  | 6, _ => rfl
  | 7, _ => rfl
  | 8, _ => rfl
  | 9, _ => rfl
  | 10, _ => rfl
  | 11, _ => rfl
  | 12, _ => rfl
  | 13, _ => rfl
  | 14, _ => rfl
  | 15, _ => rfl
  | 16, _ => rfl
  | 17, _ => rfl
  | 18, _ => rfl
  | 19, _ => rfl
  | 20, _ => rfl
  | 21, _ => rfl
  | 22, _ => rfl
  | 23, _ => rfl
  | 24, _ => rfl
  | 25, _ => rfl
  | 26, _ => rfl
  | 27, _ => rfl
  | 28, _ => rfl
  | 29, _ => rfl
  | 30, _ => rfl
  | 31, _ => rfl
  | 32, _ => rfl
  | n + 33, h => absurd h (by show ¬ (n + 33 < 33); omega)
theorem nC9 {v1 v2 : ab_S} (h1 : fX10_standsAsAlways 0 v9 = some ((), v1)) (h2 : fX10_begins v1 = some ((), v2)) : mg_C XX9 yX10_init cX10_init 1 { frames := 12, cells := 22, slots := 11134, locals := 1600 } 9 [.int 0, .null, .int 0, .int 0, .null, .null, .null, .int 0, .int 0, .null, .null, .null, .null, .int 0, .null, .null, .null, .null, .int 0, .int 0, .int 0, .null, .null, .null, .null, .int 0, .null, .null, .null, .null, .null, .null, .int 0] 22 (fun E a N0 => ab_wd (E9 E a N0) 1 v2) := by
  refine mg_entry (own := 9) (by decide +kernel) rfl rfl (by decide) (fun E a N0 hlt => ?_)
  refine mg_al0 (pc2 := 1) (x := a) (by decide +kernel) rfl 0 rfl ?_
  refine mg_obj (idx := 18) (pc2 := 4) (by decide +kernel) ⟨by decide +kernel, by decide +kernel, by decide +kernel⟩ ⟨by decide, by decide⟩ rfl ?_
  refine mg_al0 (pc2 := 5) (x := a) (by decide +kernel) rfl 0 rfl ?_
  refine mg_si (w := 1000) (x := 1000) (pc2 := 8) (by decide +kernel) (by decide +kernel) rfl ?_
  refine mg_arr (N' := 1000) (a0 := (1000, .inl (fun _ => 0))) (pc2 := 10) (by decide +kernel) 0 (by decide) rfl (by decide +kernel) (nz0 1000) (by decide +kernel) (by decide +kernel) (Nat.le_of_ble_eq_true rfl) ⟨Nat.le_of_ble_eq_true rfl, Nat.le_of_ble_eq_true rfl⟩ rfl ?_
  refine mg_put (idx := 14) (pc2 := 13) (by decide +kernel) (by decide) 0 rfl 1 (by decide) (by decide +kernel) rfl rfl rfl rfl (by show 1 < 33; decide) rfl ?_
  refine mg_eq (ws' := (a, .inr (9, [.int 0, .ref (N0), .int 0, .int 0, .null, .null, .null, .int 0, .int 0, .null, .null, .null, .null, .int 0, .null, .null, .null, .null, .int 0, .int 0, .int 0, .null, .null, .null, .null, .int 0, .null, .null, .null, .null, .null, .null, .int 0])) :: s9_1 E N0) (n' := N0 + 1) (cells' := 1) (slots' := 1000) gx_put rfl rfl rfl ?_
  refine mg_al0 (pc2 := 14) (x := a) (by decide +kernel) rfl 0 rfl ?_
  refine mg_si (w := 1002) (x := 1002) (pc2 := 17) (by decide +kernel) (by decide +kernel) rfl ?_
  refine mg_arr (N' := 1002) (a0 := (1002, .inl (fun _ => 0))) (pc2 := 19) (by decide +kernel) 0 (by decide) rfl (by decide +kernel) (nz0 1002) (by decide +kernel) (by decide +kernel) (Nat.le_of_ble_eq_true rfl) ⟨Nat.le_of_ble_eq_true rfl, Nat.le_of_ble_eq_true rfl⟩ rfl ?_
  refine mg_put (idx := 24) (pc2 := 22) (by decide +kernel) (by decide) 0 rfl 4 (by decide) (by decide +kernel) rfl rfl rfl rfl (by show 4 < 33; decide) rfl ?_
  refine mg_eq (ws' := (a, .inr (9, [.int 0, .ref (N0), .int 0, .int 0, .ref (N0 + 1), .null, .null, .int 0, .int 0, .null, .null, .null, .null, .int 0, .null, .null, .null, .null, .int 0, .int 0, .int 0, .null, .null, .null, .null, .int 0, .null, .null, .null, .null, .null, .null, .int 0])) :: s9_2 E N0) (n' := N0 + 2) (cells' := 2) (slots' := 2002) gx_put rfl rfl rfl ?_
  refine mg_al0 (pc2 := 23) (x := a) (by decide +kernel) rfl 0 rfl ?_
  refine mg_si (w := 1002) (x := 1002) (pc2 := 26) (by decide +kernel) (by decide +kernel) rfl ?_
  refine mg_arr (N' := 1002) (a0 := (1002, .inl (fun _ => 0))) (pc2 := 28) (by decide +kernel) 0 (by decide) rfl (by decide +kernel) (nz0 1002) (by decide +kernel) (by decide +kernel) (Nat.le_of_ble_eq_true rfl) ⟨Nat.le_of_ble_eq_true rfl, Nat.le_of_ble_eq_true rfl⟩ rfl ?_
  refine mg_put (idx := 27) (pc2 := 31) (by decide +kernel) (by decide) 0 rfl 5 (by decide) (by decide +kernel) rfl rfl rfl rfl (by show 5 < 33; decide) rfl ?_
  refine mg_eq (ws' := (a, .inr (9, [.int 0, .ref (N0), .int 0, .int 0, .ref (N0 + 1), .ref (N0 + 2), .null, .int 0, .int 0, .null, .null, .null, .null, .int 0, .null, .null, .null, .null, .int 0, .int 0, .int 0, .null, .null, .null, .null, .int 0, .null, .null, .null, .null, .null, .null, .int 0])) :: s9_3 E N0) (n' := N0 + 3) (cells' := 3) (slots' := 3004) gx_put rfl rfl rfl ?_
  refine mg_al0 (pc2 := 32) (x := a) (by decide +kernel) rfl 0 rfl ?_
  refine mg_si (w := 1002) (x := 1002) (pc2 := 35) (by decide +kernel) (by decide +kernel) rfl ?_
  refine mg_arr (N' := 1002) (a0 := (1002, .inr (.inl (fun _ => 0)))) (pc2 := 37) (by decide +kernel) 1 (by decide) rfl (by decide +kernel) (nz1 1002) (by decide +kernel) (by decide +kernel) (Nat.le_of_ble_eq_true rfl) ⟨Nat.le_of_ble_eq_true rfl, Nat.le_of_ble_eq_true rfl⟩ rfl ?_
  refine mg_put (idx := 30) (pc2 := 40) (by decide +kernel) (by decide) 0 rfl 6 (by decide) (by decide +kernel) rfl rfl rfl rfl (by show 6 < 33; decide) rfl ?_
  refine mg_eq (ws' := (a, .inr (9, [.int 0, .ref (N0), .int 0, .int 0, .ref (N0 + 1), .ref (N0 + 2), .ref (N0 + 3), .int 0, .int 0, .null, .null, .null, .null, .int 0, .null, .null, .null, .null, .int 0, .int 0, .int 0, .null, .null, .null, .null, .int 0, .null, .null, .null, .null, .null, .null, .int 0])) :: s9_4 E N0) (n' := N0 + 4) (cells' := 4) (slots' := 4006) gx_put rfl rfl rfl ?_
  refine mg_al0 (pc2 := 41) (x := a) (by decide +kernel) rfl 0 rfl ?_
  refine mg_bi (w := 23) (x := 23) (pc2 := 43) (by decide +kernel) (by decide +kernel) rfl ?_
  refine mg_arr (N' := 23) (a0 := (23, .inr (.inl (fun _ => 0)))) (pc2 := 45) (by decide +kernel) 1 (by decide) rfl (by decide +kernel) (nz1 23) (by decide +kernel) (by decide +kernel) (Nat.le_of_ble_eq_true rfl) ⟨Nat.le_of_ble_eq_true rfl, Nat.le_of_ble_eq_true rfl⟩ rfl ?_
  refine mg_eq (ws' := (a, .inr (9, [.int 0, .ref (N0), .int 0, .int 0, .ref (N0 + 1), .ref (N0 + 2), .ref (N0 + 3), .int 0, .int 0, .null, .null, .null, .null, .int 0, .null, .null, .null, .null, .int 0, .int 0, .int 0, .null, .null, .null, .null, .int 0, .null, .null, .null, .null, .null, .null, .int 0])) :: (s9_4 E N0 ++ [(N0 + 4, .inl (ab_cA E 1, (23, .inr (.inl (wdf9 0)))))])) (n' := N0 + 5) (cells' := 5) (slots' := 4029) rfl rfl rfl rfl ?_
  refine mg_dup (pc2 := 46) (by decide +kernel) rfl rfl ?_
  refine mg_ic (v := 0) (x := 0) (pc2 := 47) (by decide +kernel) (by decide +kernel) rfl ?_
  refine mg_ldc2 (idx := 34) (v := 1119812451) (pc2 := 50) (by decide +kernel) rfl (by decide +kernel) ?_
  refine mg_last (f := wdf9 0) (pc2 := 51) (by decide +kernel) rfl 5 rfl (show vp_in (nI 0) 23 from vp_in_nI (by decide) (by decide)) ?_
  refine mg_eq (ws' := (a, .inr (9, [.int 0, .ref (N0), .int 0, .int 0, .ref (N0 + 1), .ref (N0 + 2), .ref (N0 + 3), .int 0, .int 0, .null, .null, .null, .null, .int 0, .null, .null, .null, .null, .int 0, .int 0, .int 0, .null, .null, .null, .null, .int 0, .null, .null, .null, .null, .null, .null, .int 0])) :: (s9_4 E N0 ++ [(N0 + 4, .inl (ab_cA E 1, (23, .inr (.inl (wdf9 1)))))])) (n' := N0 + 5) (cells' := 5) (slots' := 4029) rfl rfl rfl rfl ?_
  refine mg_dup (pc2 := 52) (by decide +kernel) rfl rfl ?_
  refine mg_ic (v := 1) (x := 1) (pc2 := 53) (by decide +kernel) (by decide +kernel) rfl ?_
  refine mg_ldc2 (idx := 36) (v := 6395136) (pc2 := 56) (by decide +kernel) rfl (by decide +kernel) ?_
  refine mg_last (f := wdf9 1) (pc2 := 57) (by decide +kernel) rfl 5 rfl (show vp_in (nI 1) 23 from vp_in_nI (by decide) (by decide)) ?_
  refine mg_eq (ws' := (a, .inr (9, [.int 0, .ref (N0), .int 0, .int 0, .ref (N0 + 1), .ref (N0 + 2), .ref (N0 + 3), .int 0, .int 0, .null, .null, .null, .null, .int 0, .null, .null, .null, .null, .int 0, .int 0, .int 0, .null, .null, .null, .null, .int 0, .null, .null, .null, .null, .null, .null, .int 0])) :: (s9_4 E N0 ++ [(N0 + 4, .inl (ab_cA E 1, (23, .inr (.inl (wdf9 2)))))])) (n' := N0 + 5) (cells' := 5) (slots' := 4029) rfl rfl rfl rfl ?_
  refine mg_dup (pc2 := 58) (by decide +kernel) rfl rfl ?_
  refine mg_ic (v := 2) (x := 2) (pc2 := 59) (by decide +kernel) (by decide +kernel) rfl ?_
  refine mg_ldc2 (idx := 38) (v := 375665) (pc2 := 62) (by decide +kernel) rfl (by decide +kernel) ?_
  refine mg_last (f := wdf9 2) (pc2 := 63) (by decide +kernel) rfl 5 rfl (show vp_in (nI 2) 23 from vp_in_nI (by decide) (by decide)) ?_
  refine mg_eq (ws' := (a, .inr (9, [.int 0, .ref (N0), .int 0, .int 0, .ref (N0 + 1), .ref (N0 + 2), .ref (N0 + 3), .int 0, .int 0, .null, .null, .null, .null, .int 0, .null, .null, .null, .null, .int 0, .int 0, .int 0, .null, .null, .null, .null, .int 0, .null, .null, .null, .null, .null, .null, .int 0])) :: (s9_4 E N0 ++ [(N0 + 4, .inl (ab_cA E 1, (23, .inr (.inl (wdf9 3)))))])) (n' := N0 + 5) (cells' := 5) (slots' := 4029) rfl rfl rfl rfl ?_
  refine mg_dup (pc2 := 64) (by decide +kernel) rfl rfl ?_
  refine mg_ic (v := 3) (x := 3) (pc2 := 65) (by decide +kernel) (by decide +kernel) rfl ?_
  refine mg_ldc2 (idx := 40) (v := 43890888) (pc2 := 68) (by decide +kernel) rfl (by decide +kernel) ?_
  refine mg_last (f := wdf9 3) (pc2 := 69) (by decide +kernel) rfl 5 rfl (show vp_in (nI 3) 23 from vp_in_nI (by decide) (by decide)) ?_
  refine mg_eq (ws' := (a, .inr (9, [.int 0, .ref (N0), .int 0, .int 0, .ref (N0 + 1), .ref (N0 + 2), .ref (N0 + 3), .int 0, .int 0, .null, .null, .null, .null, .int 0, .null, .null, .null, .null, .int 0, .int 0, .int 0, .null, .null, .null, .null, .int 0, .null, .null, .null, .null, .null, .null, .int 0])) :: (s9_4 E N0 ++ [(N0 + 4, .inl (ab_cA E 1, (23, .inr (.inl (wdf9 4)))))])) (n' := N0 + 5) (cells' := 5) (slots' := 4029) rfl rfl rfl rfl ?_
  refine mg_dup (pc2 := 70) (by decide +kernel) rfl rfl ?_
  refine mg_ic (v := 4) (x := 4) (pc2 := 71) (by decide +kernel) (by decide +kernel) rfl ?_
  refine mg_ldc2 (idx := 42) (v := 561) (pc2 := 74) (by decide +kernel) rfl (by decide +kernel) ?_
  refine mg_last (f := wdf9 4) (pc2 := 75) (by decide +kernel) rfl 5 rfl (show vp_in (nI 4) 23 from vp_in_nI (by decide) (by decide)) ?_
  refine mg_eq (ws' := (a, .inr (9, [.int 0, .ref (N0), .int 0, .int 0, .ref (N0 + 1), .ref (N0 + 2), .ref (N0 + 3), .int 0, .int 0, .null, .null, .null, .null, .int 0, .null, .null, .null, .null, .int 0, .int 0, .int 0, .null, .null, .null, .null, .int 0, .null, .null, .null, .null, .null, .null, .int 0])) :: (s9_4 E N0 ++ [(N0 + 4, .inl (ab_cA E 1, (23, .inr (.inl (wdf9 5)))))])) (n' := N0 + 5) (cells' := 5) (slots' := 4029) rfl rfl rfl rfl ?_
  refine mg_dup (pc2 := 76) (by decide +kernel) rfl rfl ?_
  refine mg_ic (v := 5) (x := 5) (pc2 := 77) (by decide +kernel) (by decide +kernel) rfl ?_
  refine mg_ldc2 (idx := 44) (v := 22961072) (pc2 := 80) (by decide +kernel) rfl (by decide +kernel) ?_
  refine mg_last (f := wdf9 5) (pc2 := 81) (by decide +kernel) rfl 5 rfl (show vp_in (nI 5) 23 from vp_in_nI (by decide) (by decide)) ?_
  refine mg_eq (ws' := (a, .inr (9, [.int 0, .ref (N0), .int 0, .int 0, .ref (N0 + 1), .ref (N0 + 2), .ref (N0 + 3), .int 0, .int 0, .null, .null, .null, .null, .int 0, .null, .null, .null, .null, .int 0, .int 0, .int 0, .null, .null, .null, .null, .int 0, .null, .null, .null, .null, .null, .null, .int 0])) :: (s9_4 E N0 ++ [(N0 + 4, .inl (ab_cA E 1, (23, .inr (.inl (wdf9 6)))))])) (n' := N0 + 5) (cells' := 5) (slots' := 4029) rfl rfl rfl rfl ?_
  refine mg_dup (pc2 := 82) (by decide +kernel) rfl rfl ?_
  refine mg_bi (w := 6) (x := 6) (pc2 := 84) (by decide +kernel) (by decide +kernel) rfl ?_
  refine mg_ldc2 (idx := 46) (v := 969441) (pc2 := 87) (by decide +kernel) rfl (by decide +kernel) ?_
  refine mg_last (f := wdf9 6) (pc2 := 88) (by decide +kernel) rfl 5 rfl (show vp_in (nI 6) 23 from vp_in_nI (by decide) (by decide)) ?_
  refine mg_eq (ws' := (a, .inr (9, [.int 0, .ref (N0), .int 0, .int 0, .ref (N0 + 1), .ref (N0 + 2), .ref (N0 + 3), .int 0, .int 0, .null, .null, .null, .null, .int 0, .null, .null, .null, .null, .int 0, .int 0, .int 0, .null, .null, .null, .null, .int 0, .null, .null, .null, .null, .null, .null, .int 0])) :: (s9_4 E N0 ++ [(N0 + 4, .inl (ab_cA E 1, (23, .inr (.inl (wdf9 7)))))])) (n' := N0 + 5) (cells' := 5) (slots' := 4029) rfl rfl rfl rfl ?_
  refine mg_dup (pc2 := 89) (by decide +kernel) rfl rfl ?_
  refine mg_bi (w := 7) (x := 7) (pc2 := 91) (by decide +kernel) (by decide +kernel) rfl ?_
  refine mg_ldc2 (idx := 48) (v := 316998) (pc2 := 94) (by decide +kernel) rfl (by decide +kernel) ?_
  refine mg_last (f := wdf9 7) (pc2 := 95) (by decide +kernel) rfl 5 rfl (show vp_in (nI 7) 23 from vp_in_nI (by decide) (by decide)) ?_
  refine mg_eq (ws' := (a, .inr (9, [.int 0, .ref (N0), .int 0, .int 0, .ref (N0 + 1), .ref (N0 + 2), .ref (N0 + 3), .int 0, .int 0, .null, .null, .null, .null, .int 0, .null, .null, .null, .null, .int 0, .int 0, .int 0, .null, .null, .null, .null, .int 0, .null, .null, .null, .null, .null, .null, .int 0])) :: (s9_4 E N0 ++ [(N0 + 4, .inl (ab_cA E 1, (23, .inr (.inl (wdf9 8)))))])) (n' := N0 + 5) (cells' := 5) (slots' := 4029) rfl rfl rfl rfl ?_
  refine mg_dup (pc2 := 96) (by decide +kernel) rfl rfl ?_
  refine mg_bi (w := 8) (x := 8) (pc2 := 98) (by decide +kernel) (by decide +kernel) rfl ?_
  refine mg_ldc2 (idx := 50) (v := 45076385548) (pc2 := 101) (by decide +kernel) rfl (by decide +kernel) ?_
  refine mg_last (f := wdf9 8) (pc2 := 102) (by decide +kernel) rfl 5 rfl (show vp_in (nI 8) 23 from vp_in_nI (by decide) (by decide)) ?_
  refine mg_eq (ws' := (a, .inr (9, [.int 0, .ref (N0), .int 0, .int 0, .ref (N0 + 1), .ref (N0 + 2), .ref (N0 + 3), .int 0, .int 0, .null, .null, .null, .null, .int 0, .null, .null, .null, .null, .int 0, .int 0, .int 0, .null, .null, .null, .null, .int 0, .null, .null, .null, .null, .null, .null, .int 0])) :: (s9_4 E N0 ++ [(N0 + 4, .inl (ab_cA E 1, (23, .inr (.inl (wdf9 9)))))])) (n' := N0 + 5) (cells' := 5) (slots' := 4029) rfl rfl rfl rfl ?_
  refine mg_dup (pc2 := 103) (by decide +kernel) rfl rfl ?_
  refine mg_bi (w := 9) (x := 9) (pc2 := 105) (by decide +kernel) (by decide +kernel) rfl ?_
  refine mg_ldc2 (idx := 52) (v := 3540) (pc2 := 108) (by decide +kernel) rfl (by decide +kernel) ?_
  refine mg_last (f := wdf9 9) (pc2 := 109) (by decide +kernel) rfl 5 rfl (show vp_in (nI 9) 23 from vp_in_nI (by decide) (by decide)) ?_
  refine mg_eq (ws' := (a, .inr (9, [.int 0, .ref (N0), .int 0, .int 0, .ref (N0 + 1), .ref (N0 + 2), .ref (N0 + 3), .int 0, .int 0, .null, .null, .null, .null, .int 0, .null, .null, .null, .null, .int 0, .int 0, .int 0, .null, .null, .null, .null, .int 0, .null, .null, .null, .null, .null, .null, .int 0])) :: (s9_4 E N0 ++ [(N0 + 4, .inl (ab_cA E 1, (23, .inr (.inl (wdf9 10)))))])) (n' := N0 + 5) (cells' := 5) (slots' := 4029) rfl rfl rfl rfl ?_
  refine mg_dup (pc2 := 110) (by decide +kernel) rfl rfl ?_
  refine mg_bi (w := 10) (x := 10) (pc2 := 112) (by decide +kernel) (by decide +kernel) rfl ?_
  refine mg_ldc2 (idx := 54) (v := 993947) (pc2 := 115) (by decide +kernel) rfl (by decide +kernel) ?_
  refine mg_last (f := wdf9 10) (pc2 := 116) (by decide +kernel) rfl 5 rfl (show vp_in (nI 10) 23 from vp_in_nI (by decide) (by decide)) ?_
  refine mg_eq (ws' := (a, .inr (9, [.int 0, .ref (N0), .int 0, .int 0, .ref (N0 + 1), .ref (N0 + 2), .ref (N0 + 3), .int 0, .int 0, .null, .null, .null, .null, .int 0, .null, .null, .null, .null, .int 0, .int 0, .int 0, .null, .null, .null, .null, .int 0, .null, .null, .null, .null, .null, .null, .int 0])) :: (s9_4 E N0 ++ [(N0 + 4, .inl (ab_cA E 1, (23, .inr (.inl (wdf9 11)))))])) (n' := N0 + 5) (cells' := 5) (slots' := 4029) rfl rfl rfl rfl ?_
  refine mg_dup (pc2 := 117) (by decide +kernel) rfl rfl ?_
  refine mg_bi (w := 11) (x := 11) (pc2 := 119) (by decide +kernel) (by decide +kernel) rfl ?_
  refine mg_ldc2 (idx := 56) (v := 4672922) (pc2 := 122) (by decide +kernel) rfl (by decide +kernel) ?_
  refine mg_last (f := wdf9 11) (pc2 := 123) (by decide +kernel) rfl 5 rfl (show vp_in (nI 11) 23 from vp_in_nI (by decide) (by decide)) ?_
  refine mg_eq (ws' := (a, .inr (9, [.int 0, .ref (N0), .int 0, .int 0, .ref (N0 + 1), .ref (N0 + 2), .ref (N0 + 3), .int 0, .int 0, .null, .null, .null, .null, .int 0, .null, .null, .null, .null, .int 0, .int 0, .int 0, .null, .null, .null, .null, .int 0, .null, .null, .null, .null, .null, .null, .int 0])) :: (s9_4 E N0 ++ [(N0 + 4, .inl (ab_cA E 1, (23, .inr (.inl (wdf9 12)))))])) (n' := N0 + 5) (cells' := 5) (slots' := 4029) rfl rfl rfl rfl ?_
  refine mg_dup (pc2 := 124) (by decide +kernel) rfl rfl ?_
  refine mg_bi (w := 12) (x := 12) (pc2 := 126) (by decide +kernel) (by decide +kernel) rfl ?_
  refine mg_ldc2 (idx := 58) (v := 30596128) (pc2 := 129) (by decide +kernel) rfl (by decide +kernel) ?_
  refine mg_last (f := wdf9 12) (pc2 := 130) (by decide +kernel) rfl 5 rfl (show vp_in (nI 12) 23 from vp_in_nI (by decide) (by decide)) ?_
  refine mg_eq (ws' := (a, .inr (9, [.int 0, .ref (N0), .int 0, .int 0, .ref (N0 + 1), .ref (N0 + 2), .ref (N0 + 3), .int 0, .int 0, .null, .null, .null, .null, .int 0, .null, .null, .null, .null, .int 0, .int 0, .int 0, .null, .null, .null, .null, .int 0, .null, .null, .null, .null, .null, .null, .int 0])) :: (s9_4 E N0 ++ [(N0 + 4, .inl (ab_cA E 1, (23, .inr (.inl (wdf9 13)))))])) (n' := N0 + 5) (cells' := 5) (slots' := 4029) rfl rfl rfl rfl ?_
  refine mg_dup (pc2 := 131) (by decide +kernel) rfl rfl ?_
  refine mg_bi (w := 13) (x := 13) (pc2 := 133) (by decide +kernel) (by decide +kernel) rfl ?_
  refine mg_ldc2 (idx := 60) (v := 30919646) (pc2 := 136) (by decide +kernel) rfl (by decide +kernel) ?_
  refine mg_last (f := wdf9 13) (pc2 := 137) (by decide +kernel) rfl 5 rfl (show vp_in (nI 13) 23 from vp_in_nI (by decide) (by decide)) ?_
  refine mg_eq (ws' := (a, .inr (9, [.int 0, .ref (N0), .int 0, .int 0, .ref (N0 + 1), .ref (N0 + 2), .ref (N0 + 3), .int 0, .int 0, .null, .null, .null, .null, .int 0, .null, .null, .null, .null, .int 0, .int 0, .int 0, .null, .null, .null, .null, .int 0, .null, .null, .null, .null, .null, .null, .int 0])) :: (s9_4 E N0 ++ [(N0 + 4, .inl (ab_cA E 1, (23, .inr (.inl (wdf9 14)))))])) (n' := N0 + 5) (cells' := 5) (slots' := 4029) rfl rfl rfl rfl ?_
  refine mg_dup (pc2 := 138) (by decide +kernel) rfl rfl ?_
  refine mg_bi (w := 14) (x := 14) (pc2 := 140) (by decide +kernel) (by decide +kernel) rfl ?_
  refine mg_ldc2 (idx := 62) (v := 665530) (pc2 := 143) (by decide +kernel) rfl (by decide +kernel) ?_
  refine mg_last (f := wdf9 14) (pc2 := 144) (by decide +kernel) rfl 5 rfl (show vp_in (nI 14) 23 from vp_in_nI (by decide) (by decide)) ?_
  refine mg_eq (ws' := (a, .inr (9, [.int 0, .ref (N0), .int 0, .int 0, .ref (N0 + 1), .ref (N0 + 2), .ref (N0 + 3), .int 0, .int 0, .null, .null, .null, .null, .int 0, .null, .null, .null, .null, .int 0, .int 0, .int 0, .null, .null, .null, .null, .int 0, .null, .null, .null, .null, .null, .null, .int 0])) :: (s9_4 E N0 ++ [(N0 + 4, .inl (ab_cA E 1, (23, .inr (.inl (wdf9 15)))))])) (n' := N0 + 5) (cells' := 5) (slots' := 4029) rfl rfl rfl rfl ?_
  refine mg_dup (pc2 := 145) (by decide +kernel) rfl rfl ?_
  refine mg_bi (w := 15) (x := 15) (pc2 := 147) (by decide +kernel) (by decide +kernel) rfl ?_
  refine mg_ldc2 (idx := 64) (v := 660603) (pc2 := 150) (by decide +kernel) rfl (by decide +kernel) ?_
  refine mg_last (f := wdf9 15) (pc2 := 151) (by decide +kernel) rfl 5 rfl (show vp_in (nI 15) 23 from vp_in_nI (by decide) (by decide)) ?_
  refine mg_eq (ws' := (a, .inr (9, [.int 0, .ref (N0), .int 0, .int 0, .ref (N0 + 1), .ref (N0 + 2), .ref (N0 + 3), .int 0, .int 0, .null, .null, .null, .null, .int 0, .null, .null, .null, .null, .int 0, .int 0, .int 0, .null, .null, .null, .null, .int 0, .null, .null, .null, .null, .null, .null, .int 0])) :: (s9_4 E N0 ++ [(N0 + 4, .inl (ab_cA E 1, (23, .inr (.inl (wdf9 16)))))])) (n' := N0 + 5) (cells' := 5) (slots' := 4029) rfl rfl rfl rfl ?_
  refine mg_dup (pc2 := 152) (by decide +kernel) rfl rfl ?_
  refine mg_bi (w := 16) (x := 16) (pc2 := 154) (by decide +kernel) (by decide +kernel) rfl ?_
  refine mg_ldc2 (idx := 66) (v := 19741) (pc2 := 157) (by decide +kernel) rfl (by decide +kernel) ?_
  refine mg_last (f := wdf9 16) (pc2 := 158) (by decide +kernel) rfl 5 rfl (show vp_in (nI 16) 23 from vp_in_nI (by decide) (by decide)) ?_
  refine mg_eq (ws' := (a, .inr (9, [.int 0, .ref (N0), .int 0, .int 0, .ref (N0 + 1), .ref (N0 + 2), .ref (N0 + 3), .int 0, .int 0, .null, .null, .null, .null, .int 0, .null, .null, .null, .null, .int 0, .int 0, .int 0, .null, .null, .null, .null, .int 0, .null, .null, .null, .null, .null, .null, .int 0])) :: (s9_4 E N0 ++ [(N0 + 4, .inl (ab_cA E 1, (23, .inr (.inl (wdf9 17)))))])) (n' := N0 + 5) (cells' := 5) (slots' := 4029) rfl rfl rfl rfl ?_
  refine mg_dup (pc2 := 159) (by decide +kernel) rfl rfl ?_
  refine mg_bi (w := 17) (x := 17) (pc2 := 161) (by decide +kernel) (by decide +kernel) rfl ?_
  refine mg_ldc2 (idx := 68) (v := 1891) (pc2 := 164) (by decide +kernel) rfl (by decide +kernel) ?_
  refine mg_last (f := wdf9 17) (pc2 := 165) (by decide +kernel) rfl 5 rfl (show vp_in (nI 17) 23 from vp_in_nI (by decide) (by decide)) ?_
  refine mg_eq (ws' := (a, .inr (9, [.int 0, .ref (N0), .int 0, .int 0, .ref (N0 + 1), .ref (N0 + 2), .ref (N0 + 3), .int 0, .int 0, .null, .null, .null, .null, .int 0, .null, .null, .null, .null, .int 0, .int 0, .int 0, .null, .null, .null, .null, .int 0, .null, .null, .null, .null, .null, .null, .int 0])) :: (s9_4 E N0 ++ [(N0 + 4, .inl (ab_cA E 1, (23, .inr (.inl (wdf9 18)))))])) (n' := N0 + 5) (cells' := 5) (slots' := 4029) rfl rfl rfl rfl ?_
  refine mg_dup (pc2 := 166) (by decide +kernel) rfl rfl ?_
  refine mg_bi (w := 18) (x := 18) (pc2 := 168) (by decide +kernel) (by decide +kernel) rfl ?_
  refine mg_ldc2 (idx := 70) (v := 573) (pc2 := 171) (by decide +kernel) rfl (by decide +kernel) ?_
  refine mg_last (f := wdf9 18) (pc2 := 172) (by decide +kernel) rfl 5 rfl (show vp_in (nI 18) 23 from vp_in_nI (by decide) (by decide)) ?_
  refine mg_eq (ws' := (a, .inr (9, [.int 0, .ref (N0), .int 0, .int 0, .ref (N0 + 1), .ref (N0 + 2), .ref (N0 + 3), .int 0, .int 0, .null, .null, .null, .null, .int 0, .null, .null, .null, .null, .int 0, .int 0, .int 0, .null, .null, .null, .null, .int 0, .null, .null, .null, .null, .null, .null, .int 0])) :: (s9_4 E N0 ++ [(N0 + 4, .inl (ab_cA E 1, (23, .inr (.inl (wdf9 19)))))])) (n' := N0 + 5) (cells' := 5) (slots' := 4029) rfl rfl rfl rfl ?_
  refine mg_dup (pc2 := 173) (by decide +kernel) rfl rfl ?_
  refine mg_bi (w := 19) (x := 19) (pc2 := 175) (by decide +kernel) (by decide +kernel) rfl ?_
  refine mg_ldc2 (idx := 72) (v := 30910767) (pc2 := 178) (by decide +kernel) rfl (by decide +kernel) ?_
  refine mg_last (f := wdf9 19) (pc2 := 179) (by decide +kernel) rfl 5 rfl (show vp_in (nI 19) 23 from vp_in_nI (by decide) (by decide)) ?_
  refine mg_eq (ws' := (a, .inr (9, [.int 0, .ref (N0), .int 0, .int 0, .ref (N0 + 1), .ref (N0 + 2), .ref (N0 + 3), .int 0, .int 0, .null, .null, .null, .null, .int 0, .null, .null, .null, .null, .int 0, .int 0, .int 0, .null, .null, .null, .null, .int 0, .null, .null, .null, .null, .null, .null, .int 0])) :: (s9_4 E N0 ++ [(N0 + 4, .inl (ab_cA E 1, (23, .inr (.inl (wdf9 20)))))])) (n' := N0 + 5) (cells' := 5) (slots' := 4029) rfl rfl rfl rfl ?_
  refine mg_dup (pc2 := 180) (by decide +kernel) rfl rfl ?_
  refine mg_bi (w := 20) (x := 20) (pc2 := 182) (by decide +kernel) (by decide +kernel) rfl ?_
  refine mg_ldc2 (idx := 74) (v := 671333) (pc2 := 185) (by decide +kernel) rfl (by decide +kernel) ?_
  refine mg_last (f := wdf9 20) (pc2 := 186) (by decide +kernel) rfl 5 rfl (show vp_in (nI 20) 23 from vp_in_nI (by decide) (by decide)) ?_
  refine mg_eq (ws' := (a, .inr (9, [.int 0, .ref (N0), .int 0, .int 0, .ref (N0 + 1), .ref (N0 + 2), .ref (N0 + 3), .int 0, .int 0, .null, .null, .null, .null, .int 0, .null, .null, .null, .null, .int 0, .int 0, .int 0, .null, .null, .null, .null, .int 0, .null, .null, .null, .null, .null, .null, .int 0])) :: (s9_4 E N0 ++ [(N0 + 4, .inl (ab_cA E 1, (23, .inr (.inl (wdf9 21)))))])) (n' := N0 + 5) (cells' := 5) (slots' := 4029) rfl rfl rfl rfl ?_
  refine mg_dup (pc2 := 187) (by decide +kernel) rfl rfl ?_
  refine mg_bi (w := 21) (x := 21) (pc2 := 189) (by decide +kernel) (by decide +kernel) rfl ?_
  refine mg_ldc2 (idx := 76) (v := 620569) (pc2 := 192) (by decide +kernel) rfl (by decide +kernel) ?_
  refine mg_last (f := wdf9 21) (pc2 := 193) (by decide +kernel) rfl 5 rfl (show vp_in (nI 21) 23 from vp_in_nI (by decide) (by decide)) ?_
  refine mg_eq (ws' := (a, .inr (9, [.int 0, .ref (N0), .int 0, .int 0, .ref (N0 + 1), .ref (N0 + 2), .ref (N0 + 3), .int 0, .int 0, .null, .null, .null, .null, .int 0, .null, .null, .null, .null, .int 0, .int 0, .int 0, .null, .null, .null, .null, .int 0, .null, .null, .null, .null, .null, .null, .int 0])) :: (s9_4 E N0 ++ [(N0 + 4, .inl (ab_cA E 1, (23, .inr (.inl (wdf9 22)))))])) (n' := N0 + 5) (cells' := 5) (slots' := 4029) rfl rfl rfl rfl ?_
  refine mg_dup (pc2 := 194) (by decide +kernel) rfl rfl ?_
  refine mg_bi (w := 22) (x := 22) (pc2 := 196) (by decide +kernel) (by decide +kernel) rfl ?_
  refine mg_ldc2 (idx := 78) (v := 1078055329) (pc2 := 199) (by decide +kernel) rfl (by decide +kernel) ?_
  refine mg_last (f := wdf9 22) (pc2 := 200) (by decide +kernel) rfl 5 rfl (show vp_in (nI 22) 23 from vp_in_nI (by decide) (by decide)) ?_
  refine mg_eq (ws' := (a, .inr (9, [.int 0, .ref (N0), .int 0, .int 0, .ref (N0 + 1), .ref (N0 + 2), .ref (N0 + 3), .int 0, .int 0, .null, .null, .null, .null, .int 0, .null, .null, .null, .null, .int 0, .int 0, .int 0, .null, .null, .null, .null, .int 0, .null, .null, .null, .null, .null, .null, .int 0])) :: (s9_4 E N0 ++ [(N0 + 4, .inl (ab_cA E 1, (23, .inr (.inl (wdf9 23)))))])) (n' := N0 + 5) (cells' := 5) (slots' := 4029) rfl rfl rfl rfl ?_
  refine mg_put (idx := 80) (pc2 := 203) (by decide +kernel) (by decide) 0 rfl 9 (by decide) (by decide +kernel) rfl rfl rfl rfl (by show 9 < 33; decide) rfl ?_
  refine mg_eq (ws' := (a, .inr (9, [.int 0, .ref (N0), .int 0, .int 0, .ref (N0 + 1), .ref (N0 + 2), .ref (N0 + 3), .int 0, .int 0, .ref (N0 + 4), .null, .null, .null, .int 0, .null, .null, .null, .null, .int 0, .int 0, .int 0, .null, .null, .null, .null, .int 0, .null, .null, .null, .null, .null, .null, .int 0])) :: s9_5 E N0) (n' := N0 + 5) (cells' := 5) (slots' := 4029) gx_put rfl rfl rfl ?_
  refine mg_al0 (pc2 := 204) (x := a) (by decide +kernel) rfl 0 rfl ?_
  refine mg_si (w := 180) (x := 180) (pc2 := 207) (by decide +kernel) (by decide +kernel) rfl ?_
  refine mg_arr (N' := 180) (a0 := (180, .inl (fun _ => 0))) (pc2 := 209) (by decide +kernel) 0 (by decide) rfl (by decide +kernel) (nz0 180) (by decide +kernel) (by decide +kernel) (Nat.le_of_ble_eq_true rfl) ⟨Nat.le_of_ble_eq_true rfl, Nat.le_of_ble_eq_true rfl⟩ rfl ?_
  refine mg_put (idx := 83) (pc2 := 212) (by decide +kernel) (by decide) 0 rfl 10 (by decide) (by decide +kernel) rfl rfl rfl rfl (by show 10 < 33; decide) rfl ?_
  refine mg_eq (ws' := (a, .inr (9, [.int 0, .ref (N0), .int 0, .int 0, .ref (N0 + 1), .ref (N0 + 2), .ref (N0 + 3), .int 0, .int 0, .ref (N0 + 4), .ref (N0 + 5), .null, .null, .int 0, .null, .null, .null, .null, .int 0, .int 0, .int 0, .null, .null, .null, .null, .int 0, .null, .null, .null, .null, .null, .null, .int 0])) :: s9_6 E N0) (n' := N0 + 6) (cells' := 6) (slots' := 4209) gx_put rfl rfl rfl ?_
  refine mg_al0 (pc2 := 213) (x := a) (by decide +kernel) rfl 0 rfl ?_
  refine mg_si (w := 2200) (x := 2200) (pc2 := 216) (by decide +kernel) (by decide +kernel) rfl ?_
  refine mg_arr (N' := 2200) (a0 := (2200, .inl (fun _ => 0))) (pc2 := 218) (by decide +kernel) 0 (by decide) rfl (by decide +kernel) (nz0 2200) (by decide +kernel) (by decide +kernel) (Nat.le_of_ble_eq_true rfl) ⟨Nat.le_of_ble_eq_true rfl, Nat.le_of_ble_eq_true rfl⟩ rfl ?_
  refine mg_put (idx := 86) (pc2 := 221) (by decide +kernel) (by decide) 0 rfl 11 (by decide) (by decide +kernel) rfl rfl rfl rfl (by show 11 < 33; decide) rfl ?_
  refine mg_eq (ws' := (a, .inr (9, [.int 0, .ref (N0), .int 0, .int 0, .ref (N0 + 1), .ref (N0 + 2), .ref (N0 + 3), .int 0, .int 0, .ref (N0 + 4), .ref (N0 + 5), .ref (N0 + 6), .null, .int 0, .null, .null, .null, .null, .int 0, .int 0, .int 0, .null, .null, .null, .null, .int 0, .null, .null, .null, .null, .null, .null, .int 0])) :: s9_7 E N0) (n' := N0 + 7) (cells' := 7) (slots' := 6409) gx_put rfl rfl rfl ?_
  refine mg_al0 (pc2 := 222) (x := a) (by decide +kernel) rfl 0 rfl ?_
  refine mg_si (w := 2200) (x := 2200) (pc2 := 225) (by decide +kernel) (by decide +kernel) rfl ?_
  refine mg_arr (N' := 2200) (a0 := (2200, .inl (fun _ => 0))) (pc2 := 227) (by decide +kernel) 0 (by decide) rfl (by decide +kernel) (nz0 2200) (by decide +kernel) (by decide +kernel) (Nat.le_of_ble_eq_true rfl) ⟨Nat.le_of_ble_eq_true rfl, Nat.le_of_ble_eq_true rfl⟩ rfl ?_
  refine mg_put (idx := 89) (pc2 := 230) (by decide +kernel) (by decide) 0 rfl 12 (by decide) (by decide +kernel) rfl rfl rfl rfl (by show 12 < 33; decide) rfl ?_
  refine mg_eq (ws' := (a, .inr (9, [.int 0, .ref (N0), .int 0, .int 0, .ref (N0 + 1), .ref (N0 + 2), .ref (N0 + 3), .int 0, .int 0, .ref (N0 + 4), .ref (N0 + 5), .ref (N0 + 6), .ref (N0 + 7), .int 0, .null, .null, .null, .null, .int 0, .int 0, .int 0, .null, .null, .null, .null, .int 0, .null, .null, .null, .null, .null, .null, .int 0])) :: s9_8 E N0) (n' := N0 + 8) (cells' := 8) (slots' := 8609) gx_put rfl rfl rfl ?_
  refine mg_al0 (pc2 := 231) (x := a) (by decide +kernel) rfl 0 rfl ?_
  refine mg_bi (w := 14) (x := 14) (pc2 := 233) (by decide +kernel) (by decide +kernel) rfl ?_
  refine mg_arr (N' := 14) (a0 := (14, .inr (.inl (fun _ => 0)))) (pc2 := 235) (by decide +kernel) 1 (by decide) rfl (by decide +kernel) (nz1 14) (by decide +kernel) (by decide +kernel) (Nat.le_of_ble_eq_true rfl) ⟨Nat.le_of_ble_eq_true rfl, Nat.le_of_ble_eq_true rfl⟩ rfl ?_
  refine mg_put (idx := 92) (pc2 := 238) (by decide +kernel) (by decide) 0 rfl 14 (by decide) (by decide +kernel) rfl rfl rfl rfl (by show 14 < 33; decide) rfl ?_
  refine mg_eq (ws' := (a, .inr (9, [.int 0, .ref (N0), .int 0, .int 0, .ref (N0 + 1), .ref (N0 + 2), .ref (N0 + 3), .int 0, .int 0, .ref (N0 + 4), .ref (N0 + 5), .ref (N0 + 6), .ref (N0 + 7), .int 0, .ref (N0 + 8), .null, .null, .null, .int 0, .int 0, .int 0, .null, .null, .null, .null, .int 0, .null, .null, .null, .null, .null, .null, .int 0])) :: s9_9 E N0) (n' := N0 + 9) (cells' := 9) (slots' := 8623) gx_put rfl rfl rfl ?_
  refine mg_al0 (pc2 := 239) (x := a) (by decide +kernel) rfl 0 rfl ?_
  refine mg_bi (w := 14) (x := 14) (pc2 := 241) (by decide +kernel) (by decide +kernel) rfl ?_
  refine mg_arr (N' := 14) (a0 := (14, .inr (.inl (fun _ => 0)))) (pc2 := 243) (by decide +kernel) 1 (by decide) rfl (by decide +kernel) (nz1 14) (by decide +kernel) (by decide +kernel) (Nat.le_of_ble_eq_true rfl) ⟨Nat.le_of_ble_eq_true rfl, Nat.le_of_ble_eq_true rfl⟩ rfl ?_
  refine mg_put (idx := 95) (pc2 := 246) (by decide +kernel) (by decide) 0 rfl 15 (by decide) (by decide +kernel) rfl rfl rfl rfl (by show 15 < 33; decide) rfl ?_
  refine mg_eq (ws' := (a, .inr (9, [.int 0, .ref (N0), .int 0, .int 0, .ref (N0 + 1), .ref (N0 + 2), .ref (N0 + 3), .int 0, .int 0, .ref (N0 + 4), .ref (N0 + 5), .ref (N0 + 6), .ref (N0 + 7), .int 0, .ref (N0 + 8), .ref (N0 + 9), .null, .null, .int 0, .int 0, .int 0, .null, .null, .null, .null, .int 0, .null, .null, .null, .null, .null, .null, .int 0])) :: s9_10 E N0) (n' := N0 + 10) (cells' := 10) (slots' := 8637) gx_put rfl rfl rfl ?_
  refine mg_al0 (pc2 := 247) (x := a) (by decide +kernel) rfl 0 rfl ?_
  refine mg_bi (w := 14) (x := 14) (pc2 := 249) (by decide +kernel) (by decide +kernel) rfl ?_
  refine mg_arr (N' := 14) (a0 := (14, .inl (fun _ => 0))) (pc2 := 251) (by decide +kernel) 0 (by decide) rfl (by decide +kernel) (nz0 14) (by decide +kernel) (by decide +kernel) (Nat.le_of_ble_eq_true rfl) ⟨Nat.le_of_ble_eq_true rfl, Nat.le_of_ble_eq_true rfl⟩ rfl ?_
  refine mg_put (idx := 98) (pc2 := 254) (by decide +kernel) (by decide) 0 rfl 16 (by decide) (by decide +kernel) rfl rfl rfl rfl (by show 16 < 33; decide) rfl ?_
  refine mg_eq (ws' := (a, .inr (9, [.int 0, .ref (N0), .int 0, .int 0, .ref (N0 + 1), .ref (N0 + 2), .ref (N0 + 3), .int 0, .int 0, .ref (N0 + 4), .ref (N0 + 5), .ref (N0 + 6), .ref (N0 + 7), .int 0, .ref (N0 + 8), .ref (N0 + 9), .ref (N0 + 10), .null, .int 0, .int 0, .int 0, .null, .null, .null, .null, .int 0, .null, .null, .null, .null, .null, .null, .int 0])) :: s9_11 E N0) (n' := N0 + 11) (cells' := 11) (slots' := 8651) gx_put rfl rfl rfl ?_
  refine mg_al0 (pc2 := 255) (x := a) (by decide +kernel) rfl 0 rfl ?_
  refine mg_bi (w := 14) (x := 14) (pc2 := 257) (by decide +kernel) (by decide +kernel) rfl ?_
  refine mg_arr (N' := 14) (a0 := (14, .inl (fun _ => 0))) (pc2 := 259) (by decide +kernel) 0 (by decide) rfl (by decide +kernel) (nz0 14) (by decide +kernel) (by decide +kernel) (Nat.le_of_ble_eq_true rfl) ⟨Nat.le_of_ble_eq_true rfl, Nat.le_of_ble_eq_true rfl⟩ rfl ?_
  refine mg_put (idx := 101) (pc2 := 262) (by decide +kernel) (by decide) 0 rfl 17 (by decide) (by decide +kernel) rfl rfl rfl rfl (by show 17 < 33; decide) rfl ?_
  refine mg_eq (ws' := (a, .inr (9, [.int 0, .ref (N0), .int 0, .int 0, .ref (N0 + 1), .ref (N0 + 2), .ref (N0 + 3), .int 0, .int 0, .ref (N0 + 4), .ref (N0 + 5), .ref (N0 + 6), .ref (N0 + 7), .int 0, .ref (N0 + 8), .ref (N0 + 9), .ref (N0 + 10), .ref (N0 + 11), .int 0, .int 0, .int 0, .null, .null, .null, .null, .int 0, .null, .null, .null, .null, .null, .null, .int 0])) :: s9_12 E N0) (n' := N0 + 12) (cells' := 12) (slots' := 8665) gx_put rfl rfl rfl ?_
  refine mg_al0 (pc2 := 263) (x := a) (by decide +kernel) rfl 0 rfl ?_
  refine mg_si (w := 250) (x := 250) (pc2 := 266) (by decide +kernel) (by decide +kernel) rfl ?_
  refine mg_arr (N' := 250) (a0 := (250, .inl (fun _ => 0))) (pc2 := 268) (by decide +kernel) 0 (by decide) rfl (by decide +kernel) (nz0 250) (by decide +kernel) (by decide +kernel) (Nat.le_of_ble_eq_true rfl) ⟨Nat.le_of_ble_eq_true rfl, Nat.le_of_ble_eq_true rfl⟩ rfl ?_
  refine mg_put (idx := 104) (pc2 := 271) (by decide +kernel) (by decide) 0 rfl 21 (by decide) (by decide +kernel) rfl rfl rfl rfl (by show 21 < 33; decide) rfl ?_
  refine mg_eq (ws' := (a, .inr (9, [.int 0, .ref (N0), .int 0, .int 0, .ref (N0 + 1), .ref (N0 + 2), .ref (N0 + 3), .int 0, .int 0, .ref (N0 + 4), .ref (N0 + 5), .ref (N0 + 6), .ref (N0 + 7), .int 0, .ref (N0 + 8), .ref (N0 + 9), .ref (N0 + 10), .ref (N0 + 11), .int 0, .int 0, .int 0, .ref (N0 + 12), .null, .null, .null, .int 0, .null, .null, .null, .null, .null, .null, .int 0])) :: s9_13 E N0) (n' := N0 + 13) (cells' := 13) (slots' := 8915) gx_put rfl rfl rfl ?_
  refine mg_al0 (pc2 := 272) (x := a) (by decide +kernel) rfl 0 rfl ?_
  refine mg_ic (v := 4) (x := 4) (pc2 := 273) (by decide +kernel) (by decide +kernel) rfl ?_
  refine mg_arr (N' := 4) (a0 := (4, .inl (fun _ => 0))) (pc2 := 275) (by decide +kernel) 0 (by decide) rfl (by decide +kernel) (nz0 4) (by decide +kernel) (by decide +kernel) (Nat.le_of_ble_eq_true rfl) ⟨Nat.le_of_ble_eq_true rfl, Nat.le_of_ble_eq_true rfl⟩ rfl ?_
  refine mg_put (idx := 107) (pc2 := 278) (by decide +kernel) (by decide) 0 rfl 22 (by decide) (by decide +kernel) rfl rfl rfl rfl (by show 22 < 33; decide) rfl ?_
  refine mg_eq (ws' := (a, .inr (9, [.int 0, .ref (N0), .int 0, .int 0, .ref (N0 + 1), .ref (N0 + 2), .ref (N0 + 3), .int 0, .int 0, .ref (N0 + 4), .ref (N0 + 5), .ref (N0 + 6), .ref (N0 + 7), .int 0, .ref (N0 + 8), .ref (N0 + 9), .ref (N0 + 10), .ref (N0 + 11), .int 0, .int 0, .int 0, .ref (N0 + 12), .ref (N0 + 13), .null, .null, .int 0, .null, .null, .null, .null, .null, .null, .int 0])) :: s9_14 E N0) (n' := N0 + 14) (cells' := 14) (slots' := 8919) gx_put rfl rfl rfl ?_
  refine mg_al0 (pc2 := 279) (x := a) (by decide +kernel) rfl 0 rfl ?_
  refine mg_si (w := 1100) (x := 1100) (pc2 := 282) (by decide +kernel) (by decide +kernel) rfl ?_
  refine mg_arr (N' := 1100) (a0 := (1100, .inl (fun _ => 0))) (pc2 := 284) (by decide +kernel) 0 (by decide) rfl (by decide +kernel) (nz0 1100) (by decide +kernel) (by decide +kernel) (Nat.le_of_ble_eq_true rfl) ⟨Nat.le_of_ble_eq_true rfl, Nat.le_of_ble_eq_true rfl⟩ rfl ?_
  refine mg_put (idx := 110) (pc2 := 287) (by decide +kernel) (by decide) 0 rfl 23 (by decide) (by decide +kernel) rfl rfl rfl rfl (by show 23 < 33; decide) rfl ?_
  refine mg_eq (ws' := (a, .inr (9, [.int 0, .ref (N0), .int 0, .int 0, .ref (N0 + 1), .ref (N0 + 2), .ref (N0 + 3), .int 0, .int 0, .ref (N0 + 4), .ref (N0 + 5), .ref (N0 + 6), .ref (N0 + 7), .int 0, .ref (N0 + 8), .ref (N0 + 9), .ref (N0 + 10), .ref (N0 + 11), .int 0, .int 0, .int 0, .ref (N0 + 12), .ref (N0 + 13), .ref (N0 + 14), .null, .int 0, .null, .null, .null, .null, .null, .null, .int 0])) :: s9_15 E N0) (n' := N0 + 15) (cells' := 15) (slots' := 10019) gx_put rfl rfl rfl ?_
  refine mg_al0 (pc2 := 288) (x := a) (by decide +kernel) rfl 0 rfl ?_
  refine mg_si (w := 1081) (x := 1081) (pc2 := 291) (by decide +kernel) (by decide +kernel) rfl ?_
  refine mg_arr (N' := 1081) (a0 := (1081, .inl (fun _ => 0))) (pc2 := 293) (by decide +kernel) 0 (by decide) rfl (by decide +kernel) (nz0 1081) (by decide +kernel) (by decide +kernel) (Nat.le_of_ble_eq_true rfl) ⟨Nat.le_of_ble_eq_true rfl, Nat.le_of_ble_eq_true rfl⟩ rfl ?_
  refine mg_put (idx := 113) (pc2 := 296) (by decide +kernel) (by decide) 0 rfl 24 (by decide) (by decide +kernel) rfl rfl rfl rfl (by show 24 < 33; decide) rfl ?_
  refine mg_eq (ws' := (a, .inr (9, [.int 0, .ref (N0), .int 0, .int 0, .ref (N0 + 1), .ref (N0 + 2), .ref (N0 + 3), .int 0, .int 0, .ref (N0 + 4), .ref (N0 + 5), .ref (N0 + 6), .ref (N0 + 7), .int 0, .ref (N0 + 8), .ref (N0 + 9), .ref (N0 + 10), .ref (N0 + 11), .int 0, .int 0, .int 0, .ref (N0 + 12), .ref (N0 + 13), .ref (N0 + 14), .ref (N0 + 15), .int 0, .null, .null, .null, .null, .null, .null, .int 0])) :: s9_16 E N0) (n' := N0 + 16) (cells' := 16) (slots' := 11100) gx_put rfl rfl rfl ?_
  refine mg_al0 (pc2 := 297) (x := a) (by decide +kernel) rfl 0 rfl ?_
  refine mg_ic (v := 4) (x := 4) (pc2 := 298) (by decide +kernel) (by decide +kernel) rfl ?_
  refine mg_arr (N' := 4) (a0 := (4, .inl (fun _ => 0))) (pc2 := 300) (by decide +kernel) 3 (by decide) rfl (by decide +kernel) (nz3 4) (by decide +kernel) (by decide +kernel) (Nat.le_of_ble_eq_true rfl) ⟨Nat.le_of_ble_eq_true rfl, Nat.le_of_ble_eq_true rfl⟩ rfl ?_
  refine mg_put (idx := 116) (pc2 := 303) (by decide +kernel) (by decide) 0 rfl 26 (by decide) (by decide +kernel) rfl rfl rfl rfl (by show 26 < 33; decide) rfl ?_
  refine mg_eq (ws' := (a, .inr (9, [.int 0, .ref (N0), .int 0, .int 0, .ref (N0 + 1), .ref (N0 + 2), .ref (N0 + 3), .int 0, .int 0, .ref (N0 + 4), .ref (N0 + 5), .ref (N0 + 6), .ref (N0 + 7), .int 0, .ref (N0 + 8), .ref (N0 + 9), .ref (N0 + 10), .ref (N0 + 11), .int 0, .int 0, .int 0, .ref (N0 + 12), .ref (N0 + 13), .ref (N0 + 14), .ref (N0 + 15), .int 0, .ref (N0 + 16), .null, .null, .null, .null, .null, .int 0])) :: s9_17 E N0) (n' := N0 + 17) (cells' := 17) (slots' := 11104) gx_put rfl rfl rfl ?_
  refine mg_al0 (pc2 := 304) (x := a) (by decide +kernel) rfl 0 rfl ?_
  refine mg_bi (w := 6) (x := 6) (pc2 := 306) (by decide +kernel) (by decide +kernel) rfl ?_
  refine mg_arr (N' := 6) (a0 := (6, .inl (fun _ => 0))) (pc2 := 308) (by decide +kernel) 0 (by decide) rfl (by decide +kernel) (nz0 6) (by decide +kernel) (by decide +kernel) (Nat.le_of_ble_eq_true rfl) ⟨Nat.le_of_ble_eq_true rfl, Nat.le_of_ble_eq_true rfl⟩ rfl ?_
  refine mg_put (idx := 120) (pc2 := 311) (by decide +kernel) (by decide) 0 rfl 27 (by decide) (by decide +kernel) rfl rfl rfl rfl (by show 27 < 33; decide) rfl ?_
  refine mg_eq (ws' := (a, .inr (9, [.int 0, .ref (N0), .int 0, .int 0, .ref (N0 + 1), .ref (N0 + 2), .ref (N0 + 3), .int 0, .int 0, .ref (N0 + 4), .ref (N0 + 5), .ref (N0 + 6), .ref (N0 + 7), .int 0, .ref (N0 + 8), .ref (N0 + 9), .ref (N0 + 10), .ref (N0 + 11), .int 0, .int 0, .int 0, .ref (N0 + 12), .ref (N0 + 13), .ref (N0 + 14), .ref (N0 + 15), .int 0, .ref (N0 + 16), .ref (N0 + 17), .null, .null, .null, .null, .int 0])) :: s9_18 E N0) (n' := N0 + 18) (cells' := 18) (slots' := 11110) gx_put rfl rfl rfl ?_
  refine mg_al0 (pc2 := 312) (x := a) (by decide +kernel) rfl 0 rfl ?_
  refine mg_bi (w := 6) (x := 6) (pc2 := 314) (by decide +kernel) (by decide +kernel) rfl ?_
  refine mg_arr (N' := 6) (a0 := (6, .inl (fun _ => 0))) (pc2 := 316) (by decide +kernel) 0 (by decide) rfl (by decide +kernel) (nz0 6) (by decide +kernel) (by decide +kernel) (Nat.le_of_ble_eq_true rfl) ⟨Nat.le_of_ble_eq_true rfl, Nat.le_of_ble_eq_true rfl⟩ rfl ?_
  refine mg_put (idx := 123) (pc2 := 319) (by decide +kernel) (by decide) 0 rfl 28 (by decide) (by decide +kernel) rfl rfl rfl rfl (by show 28 < 33; decide) rfl ?_
  refine mg_eq (ws' := (a, .inr (9, [.int 0, .ref (N0), .int 0, .int 0, .ref (N0 + 1), .ref (N0 + 2), .ref (N0 + 3), .int 0, .int 0, .ref (N0 + 4), .ref (N0 + 5), .ref (N0 + 6), .ref (N0 + 7), .int 0, .ref (N0 + 8), .ref (N0 + 9), .ref (N0 + 10), .ref (N0 + 11), .int 0, .int 0, .int 0, .ref (N0 + 12), .ref (N0 + 13), .ref (N0 + 14), .ref (N0 + 15), .int 0, .ref (N0 + 16), .ref (N0 + 17), .ref (N0 + 18), .null, .null, .null, .int 0])) :: s9_19 E N0) (n' := N0 + 19) (cells' := 19) (slots' := 11116) gx_put rfl rfl rfl ?_
  refine mg_al0 (pc2 := 320) (x := a) (by decide +kernel) rfl 0 rfl ?_
  refine mg_bi (w := 6) (x := 6) (pc2 := 322) (by decide +kernel) (by decide +kernel) rfl ?_
  refine mg_arr (N' := 6) (a0 := (6, .inl (fun _ => 0))) (pc2 := 324) (by decide +kernel) 0 (by decide) rfl (by decide +kernel) (nz0 6) (by decide +kernel) (by decide +kernel) (Nat.le_of_ble_eq_true rfl) ⟨Nat.le_of_ble_eq_true rfl, Nat.le_of_ble_eq_true rfl⟩ rfl ?_
  refine mg_put (idx := 126) (pc2 := 327) (by decide +kernel) (by decide) 0 rfl 29 (by decide) (by decide +kernel) rfl rfl rfl rfl (by show 29 < 33; decide) rfl ?_
  refine mg_eq (ws' := (a, .inr (9, [.int 0, .ref (N0), .int 0, .int 0, .ref (N0 + 1), .ref (N0 + 2), .ref (N0 + 3), .int 0, .int 0, .ref (N0 + 4), .ref (N0 + 5), .ref (N0 + 6), .ref (N0 + 7), .int 0, .ref (N0 + 8), .ref (N0 + 9), .ref (N0 + 10), .ref (N0 + 11), .int 0, .int 0, .int 0, .ref (N0 + 12), .ref (N0 + 13), .ref (N0 + 14), .ref (N0 + 15), .int 0, .ref (N0 + 16), .ref (N0 + 17), .ref (N0 + 18), .ref (N0 + 19), .null, .null, .int 0])) :: s9_20 E N0) (n' := N0 + 20) (cells' := 20) (slots' := 11122) gx_put rfl rfl rfl ?_
  refine mg_al0 (pc2 := 328) (x := a) (by decide +kernel) rfl 0 rfl ?_
  refine mg_bi (w := 6) (x := 6) (pc2 := 330) (by decide +kernel) (by decide +kernel) rfl ?_
  refine mg_arr (N' := 6) (a0 := (6, .inl (fun _ => 0))) (pc2 := 332) (by decide +kernel) 0 (by decide) rfl (by decide +kernel) (nz0 6) (by decide +kernel) (by decide +kernel) (Nat.le_of_ble_eq_true rfl) ⟨Nat.le_of_ble_eq_true rfl, Nat.le_of_ble_eq_true rfl⟩ rfl ?_
  refine mg_put (idx := 129) (pc2 := 335) (by decide +kernel) (by decide) 0 rfl 30 (by decide) (by decide +kernel) rfl rfl rfl rfl (by show 30 < 33; decide) rfl ?_
  refine mg_eq (ws' := (a, .inr (9, [.int 0, .ref (N0), .int 0, .int 0, .ref (N0 + 1), .ref (N0 + 2), .ref (N0 + 3), .int 0, .int 0, .ref (N0 + 4), .ref (N0 + 5), .ref (N0 + 6), .ref (N0 + 7), .int 0, .ref (N0 + 8), .ref (N0 + 9), .ref (N0 + 10), .ref (N0 + 11), .int 0, .int 0, .int 0, .ref (N0 + 12), .ref (N0 + 13), .ref (N0 + 14), .ref (N0 + 15), .int 0, .ref (N0 + 16), .ref (N0 + 17), .ref (N0 + 18), .ref (N0 + 19), .ref (N0 + 20), .null, .int 0])) :: s9_21 E N0) (n' := N0 + 21) (cells' := 21) (slots' := 11128) gx_put rfl rfl rfl ?_
  refine mg_al0 (pc2 := 336) (x := a) (by decide +kernel) rfl 0 rfl ?_
  refine mg_bi (w := 6) (x := 6) (pc2 := 338) (by decide +kernel) (by decide +kernel) rfl ?_
  refine mg_arr (N' := 6) (a0 := (6, .inl (fun _ => 0))) (pc2 := 340) (by decide +kernel) 0 (by decide) rfl (by decide +kernel) (nz0 6) (by decide +kernel) (by decide +kernel) (Nat.le_of_ble_eq_true rfl) ⟨Nat.le_of_ble_eq_true rfl, Nat.le_of_ble_eq_true rfl⟩ rfl ?_
  refine mg_put (idx := 132) (pc2 := 343) (by decide +kernel) (by decide) 0 rfl 31 (by decide) (by decide +kernel) rfl rfl rfl rfl (by show 31 < 33; decide) rfl ?_
  refine mg_eq (ws' := (a, .inr (9, [.int 0, .ref (N0), .int 0, .int 0, .ref (N0 + 1), .ref (N0 + 2), .ref (N0 + 3), .int 0, .int 0, .ref (N0 + 4), .ref (N0 + 5), .ref (N0 + 6), .ref (N0 + 7), .int 0, .ref (N0 + 8), .ref (N0 + 9), .ref (N0 + 10), .ref (N0 + 11), .int 0, .int 0, .int 0, .ref (N0 + 12), .ref (N0 + 13), .ref (N0 + 14), .ref (N0 + 15), .int 0, .ref (N0 + 16), .ref (N0 + 17), .ref (N0 + 18), .ref (N0 + 19), .ref (N0 + 20), .ref (N0 + 21), .int 0])) :: s9_22 E N0) (n' := N0 + 22) (cells' := 22) (slots' := 11134) gx_put rfl rfl rfl ?_
  refine mg_eq (ws' := ab_wd (E9 E a N0) 1 v9) (n' := N0 + 22) (cells' := 22) (slots' := 11134) (w9_eq E a N0) rfl rfl rfl ?_
  refine mg_al0 (pc2 := 344) (x := a) (by decide +kernel) rfl 0 rfl ?_
  refine mg_ic (v := 0) (x := 0) (pc2 := 345) (by decide +kernel) (by decide +kernel) rfl ?_
  refine mg_pool (k := 135) (pc2 := 348) (bs := [vI 0]) (CX10_standsAsAlways 0 v9) h1 rfl miX10_standsAsAlways mvX10_standsAsAlways rfl (ab_inT 1457 (by decide +kernel) (by decide +kernel)) (by decide +kernel) rfl ⟨by decide, by decide, Nat.le_refl _, Nat.le_refl _⟩ rfl ?_
  refine mg_al0 (pc2 := 349) (x := a) (by decide +kernel) rfl 0 rfl ?_
  refine mg_pool (k := 139) (pc2 := 352) (bs := []) (CX10_begins v1) h2 rfl miX10_begins mvX10_begins rfl (ab_inT 1461 (by decide +kernel) (by decide +kernel)) (by decide +kernel) rfl ⟨by decide, by decide, Nat.le_refl _, Nat.le_refl _⟩ rfl ?_
  exact mg_vret (st := []) (by decide +kernel) rfl rfl rfl rfl
