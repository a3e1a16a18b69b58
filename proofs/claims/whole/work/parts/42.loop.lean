/-! the law's loop -/
def lw_S44 (Inv : ab_S → ab_S → Prop) (rsC : Int32 → Int32 → Int32 → Int32 → Option Int32) : Prop := ∀ (u v : ab_S) (a0 a1 a2 a3 : Int32), Inv u v → ∃ (rb th : Int32) (v1 v2 : ab_S), fX10_rests a0 a1 a2 a3 v = some (rb, v1) ∧ fX10_thrown v1 = some (th, v2) ∧ Inv u v2 ∧ ((∃ r, rsC a0 a1 a2 a3 = some r ∧ th = 0 ∧ rb = r) ∨ (rsC a0 a1 a2 a3 = none ∧ th = 1))
def lw_Ss (Inv : ab_S → ab_S → Prop) (rsC : Int32 → Int32 → Int32 → Int32 → Option Int32) : Prop := lw_S44 Inv rsC ∧ lw_S0 Inv ∧ lw_S1 Inv ∧ lw_S2 Inv ∧ lw_S3 Inv ∧ lw_S4 Inv ∧ lw_S5 Inv ∧ lw_S6 Inv ∧ lw_S7 Inv ∧ lw_S8 Inv ∧ lw_S9 Inv ∧ lw_S10 Inv ∧ lw_S11 Inv ∧ lw_S12 Inv ∧ lw_S13 Inv ∧ lw_S14 Inv ∧ lw_S15 Inv ∧ lw_S16 Inv ∧ lw_S17 Inv ∧ lw_S18 Inv ∧ lw_S19 Inv ∧ lw_S20 Inv ∧ lw_S21 Inv ∧ lw_S22 Inv ∧ lw_S23 Inv ∧ lw_S24 Inv ∧ lw_S25 Inv ∧ lw_S26 Inv ∧ lw_S27 Inv ∧ lw_S28 Inv ∧ lw_S29 Inv ∧ lw_S30 Inv ∧ lw_S31 Inv ∧ lw_S32 Inv ∧ lw_S33 Inv ∧ lw_S34 Inv ∧ lw_S35 Inv ∧ lw_S36 Inv ∧ lw_S37 Inv ∧ lw_S38 Inv ∧ lw_S39 Inv ∧ lw_S40 Inv ∧ lw_S41 Inv ∧ lw_S42 Inv ∧ lw_S43 Inv ∧ lw_S45 Inv ∧ lw_S46 Inv ∧ lw_S47 Inv
def lw_offs : Array Int := #[208, 355, 368, 381, 418, 455, 492, 517, 554, 579, 592, 605, 630, 655, 692, 729, 742, 755, 792, 829, 854, 867, 880, 905, 930, 955, 980, 1005, 1018, 1043, 1056, 1081, 1106, 1119, 1156, 1193, 1218, 1283, 1296, 1309, 1322, 1335, 1360, 1373, 1386, 1478, 1527, 1580]
theorem lw_dsw : decode code 40 = .ok (.tableswitch 1605 0 47 lw_offs, 208) := by decide +kernel
theorem lw_weak {p : Program} {l : Launch} {e : Env} {s : State} {m : MethodId} {below : List Frame} {meth : Method} {c : Code} {b : Nat} {E : ab_E} {rm : Nat → Nat} {kc ks pc : Nat} {L L' : List (Option ab_V)} {st : List ab_V} {u v : ab_S} {ov : Int64} (mk : List Bool) (hm : ab_mk mk L = L') (hn : mk.length = L.length) (k : LG p l e s m below meth c b E rm kc ks pc L' st u v ov) : LG p l e s m below meth c b E rm kc ks pc L st u v ov := by
  intro H locs ls X hM hO hl hL hst hn7
  have hw : ∀ (i : Nat) (w : ab_V), L'[i]? = some (some w) → L[i]? = some (some w) := fun i w h => ab_mk_ok mk L i w (by rw [hm]; exact h)
  have hlen : L'.length = L.length := by rw [← hm]; exact ab_mk_len mk L hn
  exact k H locs ls X hM hO (hl.weak hlen hw) (fun j w h => hL j w (hw j w h)) hst (by rw [hlen]; exact hn7)
theorem lw_k44 {p : Program} {l : Launch} {e : Env} {s : State} {m : MethodId} {below : List Frame} {meth : Method} {c : Code} {b Lx : Nat} {xs : Nat → Int32} {E : ab_E} {rm : Nat → Nat} {kc ks : Nat} {u v : ab_S} {ov : Int64} (C : lw_cx p l s m meth c b Lx xs E rm) {Inv : ab_S → ab_S → Prop} {rsC : Int32 → Int32 → Int32 → Int32 → Option Int32} (hR : lw_R p l e s m below meth c b E rm rsC) (hs : lw_S44 Inv rsC) {n : Nat} {i : Int32} (hi : i = nI n) (hn : n + 7 ≤ Lx) (hI : Inv u v) (hcap1 : kc + 1 ≤ 601024) (hcap2 : ks + 6 ≤ 7293034) (kk : ∀ (u1 v1 : ab_S) (ov1 : Int64), Inv u1 v1 → LG p l e s m below meth c b E rm (kc + 1) (ks + 6) 1645 (lw_L i) [] u1 v1 ov1) : LG p l e s m below meth c b E rm kc ks 1426 (lw_L i) [] u v ov := by
  refine lw_seg C (pc' := 1427) (L' := lw_L i) (st' := [vR (kO 8) 0]) [(oL 2 1, 1)] (by decide +kernel) rfl rfl ?_
  refine lw_seg C (pc' := 1432) (L' := lw_L i) (st' := [vI (i + 1), vR (kO 23) 0, vR (kO 8) 0]) [(oL 2 0, 1), (oL 0 4, 2), (oC 1, 1), (oP .iadd, 1)] (by decide +kernel) rfl rfl ?_
  refine lw_rd C (by decide +kernel) rfl (lw_ixa (j := 1) hi rfl (by omega) C.2.2.2.2.2.2) ?_
  refine lw_seg C (pc' := 1438) (L' := lw_L i) (st' := [vI (i + 2), vR (kO 23) 0, vI (xs (nc (i + 1))), vR (kO 8) 0]) [(oL 2 0, 1), (oL 0 4, 2), (oC 2, 1), (oP .iadd, 1)] (by decide +kernel) rfl rfl ?_
  refine lw_rd C (by decide +kernel) rfl (lw_ixa (j := 2) hi rfl (by omega) C.2.2.2.2.2.2) ?_
  refine lw_seg C (pc' := 1444) (L' := lw_L i) (st' := [vI (i + 3), vR (kO 23) 0, vI (xs (nc (i + 2))), vI (xs (nc (i + 1))), vR (kO 8) 0]) [(oL 2 0, 1), (oL 0 4, 2), (oC 3, 1), (oP .iadd, 1)] (by decide +kernel) rfl rfl ?_
  refine lw_rd C (by decide +kernel) rfl (lw_ixa (j := 3) hi rfl (by omega) C.2.2.2.2.2.2) ?_
  refine lw_seg C (pc' := 1450) (L' := lw_L i) (st' := [vI (i + 4), vR (kO 23) 0, vI (xs (nc (i + 3))), vI (xs (nc (i + 2))), vI (xs (nc (i + 1))), vR (kO 8) 0]) [(oL 2 0, 1), (oL 0 4, 2), (oC 4, 1), (oP .iadd, 1)] (by decide +kernel) rfl rfl ?_
  refine lw_rd C (by decide +kernel) rfl (lw_ixa (j := 4) hi rfl (by omega) C.2.2.2.2.2.2) ?_
  refine lw_seg C (pc' := 1452) (L' := lw_L i) (st' := [vR (kO 24) 0, vI (xs (nc (i + 4))), vI (xs (nc (i + 3))), vI (xs (nc (i + 2))), vI (xs (nc (i + 1))), vR (kO 8) 0]) [(oL 2 3, 1)] (by decide +kernel) rfl rfl ?_
  obtain ⟨rb, th, v1, v2, e1, e2, hI1, hr⟩ := hs u v (xs (nc (i + 1))) (xs (nc (i + 2))) (xs (nc (i + 3))) (xs (nc (i + 4))) hI
  refine hR kc ks _ _ _ _ i u v ov hcap1 hcap2 (fun r hr1 => ?_) (fun hr1 => ?_)
  · obtain ⟨r', h1, h2, h3⟩ : ∃ r', rsC (xs (nc (i + 1))) (xs (nc (i + 2))) (xs (nc (i + 3))) (xs (nc (i + 4))) = some r' ∧ th = 0 ∧ rb = r' := by
        rcases hr with h | h
        · exact h
        · rw [h.1] at hr1; cases hr1
    cases h1.symm.trans hr1
    refine lw_seg C (pc' := 1458) (L' := [some (vR (kO 23) 0), some (vR (kO 8) 0), some (vR (kO 22) 0), some (vR (kO 24) 0), some (vI i), some (vI 0), none]) (st' := [vR (kO 22) 0]) [(oL 3 5, 2), (oL 2 2, 1)] (by decide +kernel) rfl rfl ?_
    refine lw_seg C (pc' := 1463) (L' := [some (vR (kO 23) 0), some (vR (kO 8) 0), some (vR (kO 22) 0), some (vR (kO 24) 0), some (vI i), some (vI 0), none]) (st' := [vI (i + 1), vR (kO 23) 0, vR (kO 22) 0]) [(oL 2 0, 1), (oL 0 4, 2), (oC 1, 1), (oP .iadd, 1)] (by decide +kernel) rfl rfl ?_
    refine lw_rd C (by decide +kernel) rfl (lw_ixa (j := 1) hi rfl (by omega) C.2.2.2.2.2.2) ?_
    refine lw_seg C (pc' := 1469) (L' := [some (vR (kO 23) 0), some (vR (kO 8) 0), some (vR (kO 22) 0), some (vR (kO 24) 0), some (vI i), some (vI 0), none]) (st' := [vI (i + 2), vR (kO 23) 0, vI (xs (nc (i + 1))), vR (kO 22) 0]) [(oL 2 0, 1), (oL 0 4, 2), (oC 2, 1), (oP .iadd, 1)] (by decide +kernel) rfl rfl ?_
    refine lw_rd C (by decide +kernel) rfl (lw_ixa (j := 2) hi rfl (by omega) C.2.2.2.2.2.2) ?_
    refine lw_seg C (pc' := 1475) (L' := [some (vR (kO 23) 0), some (vR (kO 8) 0), some (vR (kO 22) 0), some (vR (kO 24) 0), some (vI i), some (vI 0), none]) (st' := [vI (i + 3), vR (kO 23) 0, vI (xs (nc (i + 2))), vI (xs (nc (i + 1))), vR (kO 22) 0]) [(oL 2 0, 1), (oL 0 4, 2), (oC 3, 1), (oP .iadd, 1)] (by decide +kernel) rfl rfl ?_
    refine lw_rd C (by decide +kernel) rfl (lw_ixa (j := 3) hi rfl (by omega) C.2.2.2.2.2.2) ?_
    refine lw_seg C (pc' := 1481) (L' := [some (vR (kO 23) 0), some (vR (kO 8) 0), some (vR (kO 22) 0), some (vR (kO 24) 0), some (vI i), some (vI 0), none]) (st' := [vI (i + 4), vR (kO 23) 0, vI (xs (nc (i + 3))), vI (xs (nc (i + 2))), vI (xs (nc (i + 1))), vR (kO 22) 0]) [(oL 2 0, 1), (oL 0 4, 2), (oC 4, 1), (oP .iadd, 1)] (by decide +kernel) rfl rfl ?_
    refine lw_rd C (by decide +kernel) rfl (lw_ixa (j := 4) hi rfl (by omega) C.2.2.2.2.2.2) ?_
    refine lw_callM C (k := 209) (pc2 := 1485) (st := []) (CX10_rests (xs (nc (i + 1))) (xs (nc (i + 2))) (xs (nc (i + 3))) (xs (nc (i + 4))) v) e1 rfl (fun _ _ => rfl) miX10_rests mvX10_rests rfl lp10_209 wI_ok (by decide +kernel) rfl (Nat.le_of_ble_eq_true rfl) (by decide) rfl ?_ ⟨by omega, by omega⟩
    refine lw_seg C (pc' := 1488) (L' := [some (vR (kO 23) 0), some (vR (kO 8) 0), some (vR (kO 22) 0), some (vR (kO 24) 0), some (vI i), some (vI 0), some (vI rb)]) (st' := [vR (kO 22) 0]) [(oL 3 6, 2), (oL 2 2, 1)] (by decide +kernel) rfl rfl ?_
    refine lw_callM C (k := 210) (pc2 := 1491) (st := []) (CX10_thrown v1) e2 rfl (fun _ _ => rfl) miX10_thrown mvX10_thrown rfl lp10_210 wI_ok (by decide +kernel) rfl (Nat.le_of_ble_eq_true rfl) (by decide) rfl ?_ ⟨by omega, by omega⟩
    subst h2
    refine lw_seg C (pc' := 1493) (L' := [some (vR (kO 23) 0), some (vR (kO 8) 0), some (vR (kO 22) 0), some (vR (kO 24) 0), some (vI i), some (vI 0), some (vI rb)]) (st' := [vI 0, vI 0]) [(oL 0 5, 2)] (by decide +kernel) rfl rfl ?_
    refine lw_eq C (off := 5) (tgt := 1498) (by decide +kernel) (by decide) ?_
    refine lw_seg C (pc' := 1500) (L' := [some (vR (kO 23) 0), some (vR (kO 8) 0), some (vR (kO 22) 0), some (vR (kO 24) 0), some (vI i), some (vI 0), some (vI rb)]) (st' := [vI 0]) [(oL 0 5, 2)] (by decide +kernel) rfl rfl ?_
    refine lw_zne C (off := 15) (tgt := 1515) (pc2 := 1503) (by decide +kernel) (by decide) rfl (fun h => absurd rfl h) (fun _ => ?_)
    subst h3
    refine lw_seg C (pc' := 1505) (L' := [some (vR (kO 23) 0), some (vR (kO 8) 0), some (vR (kO 22) 0), some (vR (kO 24) 0), some (vI i), some (vI 0), some (vI rb)]) (st' := [vI 0, vR (kO 24) 0]) [(oL 2 3, 1), (oC 0, 1)] (by decide +kernel) rfl rfl ?_
    refine lw_out C (by decide +kernel) (pc2 := 1506) rfl ?_
    refine lw_seg C (pc' := 1510) (L' := [some (vR (kO 23) 0), some (vR (kO 8) 0), some (vR (kO 22) 0), some (vR (kO 24) 0), some (vI i), some (vI 0), some (vI rb)]) (st' := [vI (lg_cmp rb.toInt64 rb.toInt64)]) [(oL 0 6, 2), (oP .i2l, 1), (oP .lcmp, 1)] (by decide +kernel) rfl rfl ?_
    refine lw_zeq C (off := 5) (tgt := 1515) (pc2 := 1513) (by decide +kernel) (by decide) rfl (fun _ => ?_) (fun h => absurd ((lg_cmp_eq _ _).mpr rfl) h)
    refine lw_goto C (off := 130) (tgt := 1645) (by decide +kernel) (by decide) ?_
    exact lw_weak [true, true, true, true, true, false, false] rfl rfl (kk u v2 _ hI1)
  · have h2 : th = 1 := by
        rcases hr with ⟨r, h, -⟩ | h
        · rw [h] at hr1; cases hr1
        · exact h.2
    refine lw_seg C (pc' := 1458) (L' := [some (vR (kO 23) 0), some (vR (kO 8) 0), some (vR (kO 22) 0), some (vR (kO 24) 0), some (vI i), some (vI 1), none]) (st' := [vR (kO 22) 0]) [(oL 3 5, 2), (oL 2 2, 1)] (by decide +kernel) rfl rfl ?_
    refine lw_seg C (pc' := 1463) (L' := [some (vR (kO 23) 0), some (vR (kO 8) 0), some (vR (kO 22) 0), some (vR (kO 24) 0), some (vI i), some (vI 1), none]) (st' := [vI (i + 1), vR (kO 23) 0, vR (kO 22) 0]) [(oL 2 0, 1), (oL 0 4, 2), (oC 1, 1), (oP .iadd, 1)] (by decide +kernel) rfl rfl ?_
    refine lw_rd C (by decide +kernel) rfl (lw_ixa (j := 1) hi rfl (by omega) C.2.2.2.2.2.2) ?_
    refine lw_seg C (pc' := 1469) (L' := [some (vR (kO 23) 0), some (vR (kO 8) 0), some (vR (kO 22) 0), some (vR (kO 24) 0), some (vI i), some (vI 1), none]) (st' := [vI (i + 2), vR (kO 23) 0, vI (xs (nc (i + 1))), vR (kO 22) 0]) [(oL 2 0, 1), (oL 0 4, 2), (oC 2, 1), (oP .iadd, 1)] (by decide +kernel) rfl rfl ?_
    refine lw_rd C (by decide +kernel) rfl (lw_ixa (j := 2) hi rfl (by omega) C.2.2.2.2.2.2) ?_
    refine lw_seg C (pc' := 1475) (L' := [some (vR (kO 23) 0), some (vR (kO 8) 0), some (vR (kO 22) 0), some (vR (kO 24) 0), some (vI i), some (vI 1), none]) (st' := [vI (i + 3), vR (kO 23) 0, vI (xs (nc (i + 2))), vI (xs (nc (i + 1))), vR (kO 22) 0]) [(oL 2 0, 1), (oL 0 4, 2), (oC 3, 1), (oP .iadd, 1)] (by decide +kernel) rfl rfl ?_
    refine lw_rd C (by decide +kernel) rfl (lw_ixa (j := 3) hi rfl (by omega) C.2.2.2.2.2.2) ?_
    refine lw_seg C (pc' := 1481) (L' := [some (vR (kO 23) 0), some (vR (kO 8) 0), some (vR (kO 22) 0), some (vR (kO 24) 0), some (vI i), some (vI 1), none]) (st' := [vI (i + 4), vR (kO 23) 0, vI (xs (nc (i + 3))), vI (xs (nc (i + 2))), vI (xs (nc (i + 1))), vR (kO 22) 0]) [(oL 2 0, 1), (oL 0 4, 2), (oC 4, 1), (oP .iadd, 1)] (by decide +kernel) rfl rfl ?_
    refine lw_rd C (by decide +kernel) rfl (lw_ixa (j := 4) hi rfl (by omega) C.2.2.2.2.2.2) ?_
    refine lw_callM C (k := 209) (pc2 := 1485) (st := []) (CX10_rests (xs (nc (i + 1))) (xs (nc (i + 2))) (xs (nc (i + 3))) (xs (nc (i + 4))) v) e1 rfl (fun _ _ => rfl) miX10_rests mvX10_rests rfl lp10_209 wI_ok (by decide +kernel) rfl (Nat.le_of_ble_eq_true rfl) (by decide) rfl ?_ ⟨by omega, by omega⟩
    refine lw_seg C (pc' := 1488) (L' := [some (vR (kO 23) 0), some (vR (kO 8) 0), some (vR (kO 22) 0), some (vR (kO 24) 0), some (vI i), some (vI 1), some (vI rb)]) (st' := [vR (kO 22) 0]) [(oL 3 6, 2), (oL 2 2, 1)] (by decide +kernel) rfl rfl ?_
    refine lw_callM C (k := 210) (pc2 := 1491) (st := []) (CX10_thrown v1) e2 rfl (fun _ _ => rfl) miX10_thrown mvX10_thrown rfl lp10_210 wI_ok (by decide +kernel) rfl (Nat.le_of_ble_eq_true rfl) (by decide) rfl ?_ ⟨by omega, by omega⟩
    subst h2
    refine lw_seg C (pc' := 1493) (L' := [some (vR (kO 23) 0), some (vR (kO 8) 0), some (vR (kO 22) 0), some (vR (kO 24) 0), some (vI i), some (vI 1), some (vI rb)]) (st' := [vI 1, vI 1]) [(oL 0 5, 2)] (by decide +kernel) rfl rfl ?_
    refine lw_eq C (off := 5) (tgt := 1498) (by decide +kernel) (by decide) ?_
    refine lw_seg C (pc' := 1500) (L' := [some (vR (kO 23) 0), some (vR (kO 8) 0), some (vR (kO 22) 0), some (vR (kO 24) 0), some (vI i), some (vI 1), some (vI rb)]) (st' := [vI 1]) [(oL 0 5, 2)] (by decide +kernel) rfl rfl ?_
    refine lw_zne C (off := 15) (tgt := 1515) (pc2 := 1503) (by decide +kernel) (by decide) rfl (fun _ => ?_) (fun h => absurd h (by decide))
    refine lw_goto C (off := 130) (tgt := 1645) (by decide +kernel) (by decide) ?_
    exact lw_weak [true, true, true, true, true, false, false] rfl rfl (kk u v2 _ hI1)
theorem lw_tin {p : Program} {l : Launch} {e : Env} {s : State} {m : MethodId} {below : List Frame} {meth : Method} {c : Code} {b Lx : Nat} {xs : Nat → Int32} {E : ab_E} {rm : Nat → Nat} {kc ks : Nat} {u v : ab_S} {ov : Int64} {L : List (Option ab_V)} (C : lw_cx p l s m meth c b Lx xs E rm) (j : Nat) {off : Int} {tgt : Nat} {x : Int32} (hx : x = nI j) (hj : j < 48) (ho : lw_offs[j]? = some off) (ht : (40 : Int) + off = (tgt : Int)) (k : LG p l e s m below meth c b E rm kc ks tgt L [] u v ov) : LG p l e s m below meth c b E rm kc ks 40 L [vI x] u v ov := by
  intro H locs ls X hM hO hl hL hst hn
  subst hx
  have hi : (nI j).toInt = j := nI_toInt (by omega)
  exact lv_tableIn C.1.1 C.1.2.1 lw_dsw (by rw [hi]; omega) (by rw [hi]; omega) (by rw [hi]; simpa using ho) ht (k H locs ls X hM hO hl hL hst.tl hn)
theorem lw_tout {p : Program} {l : Launch} {e : Env} {s : State} {m : MethodId} {below : List Frame} {meth : Method} {c : Code} {b Lx : Nat} {xs : Nat → Int32} {E : ab_E} {rm : Nat → Nat} {kc ks : Nat} {u v : ab_S} {ov : Int64} {L : List (Option ab_V)} (C : lw_cx p l s m meth c b Lx xs E rm) (j : Nat) {x : Int32} (hx : x = nI j) (hj : 48 ≤ j) (hj2 : j < 64) (k : LG p l e s m below meth c b E rm kc ks 1645 L [] u v ov) : LG p l e s m below meth c b E rm kc ks 40 L [vI x] u v ov := by
  intro H locs ls X hM hO hl hL hst hn
  subst hx
  have hi : (nI j).toInt = j := nI_toInt (by omega)
  exact lv_tableOut C.1.1 C.1.2.1 lw_dsw (Or.inr (by rw [hi]; omega)) (by decide) (k H locs ls X hM hO hl hL hst.tl hn)
theorem lw_top {p : Program} {l : Launch} {e : Env} {s : State} {m : MethodId} {below : List Frame} {meth : Method} {c : Code} {b Lx : Nat} {xs : Nat → Int32} {E : ab_E} {rm : Nat → Nat} {kc ks : Nat} {u v : ab_S} {ov : Int64} {n : Nat} (C : lw_cx p l s m meth c b Lx xs E rm) (hn2 : n ≤ Lx + 7) (k1 : Lx < n + 7 → LG p l e s m below meth c b E rm kc ks 1651 (lw_L (nI n)) [] u v ov) (k2 : n + 7 ≤ Lx → LG p l e s m below meth c b E rm kc ks 33 (lw_L (nI n)) [] u v ov) : LG p l e s m below meth c b E rm kc ks 23 (lw_L (nI n)) [] u v ov := by
  have hLx := C.2.2.2.2.2.2
  refine lw_seg C (pc' := 26) (L' := lw_L (nI n)) (st' := [vR (kO 23) 0, vI (nI n)]) [(oL 0 4, 2), (oL 2 0, 1)] (by decide +kernel) rfl rfl ?_
  refine lw_len C (by decide +kernel) (pc2 := 27) rfl ?_
  refine lw_seg C (pc' := 30) (L' := lw_L (nI n)) (st' := [vI (Int32.ofNat Lx - 7), vI (nI n)]) [(oC 7, 2), (oP .isub, 1)] (by decide +kernel) rfl rfl ?_
  have e1 : (Int32.ofNat Lx - 7).toInt = (Lx : Int) - 7 := pk_sub_toInt (a := Lx) (b := 7) (by omega) (by omega)
  have e2 : (nI n).toInt = n := nI_toInt (by omega)
  refine lw_igt C (off := 1621) (tgt := 1651) (pc2 := 33) (by decide +kernel) (by decide) rfl (fun h => k1 ?_) (fun h => k2 ?_)
  · rw [Int32.lt_iff_toInt_lt, e1, e2] at h; omega
  · rw [Int32.lt_iff_toInt_lt, e1, e2] at h; omega
theorem lw_exit {p : Program} {l : Launch} {e : Env} {s : State} {m : MethodId} {below : List Frame} {meth : Method} {c : Code} {b Lx : Nat} {xs : Nat → Int32} {E : ab_E} {rm : Nat → Nat} {kc ks : Nat} {u v : ab_S} {ov : Int64} {n : Nat} (C : lw_cx p l s m meth c b Lx xs E rm) (hn : Lx < n + 7) (hn2 : n ≤ Lx + 7) (hcap : kc ≤ 601024 ∧ ks ≤ 7293034) : LG p l e s m below meth c b E rm kc ks 23 (lw_L (nI n)) [] u v ov := by
  refine lw_top C hn2 (fun _ => ?_) (fun h => absurd h (by omega))
  refine lw_seg C (pc' := 1652) (L' := lw_L (nI n)) (st' := [vI 1]) [(oC 1, 1)] (by decide +kernel) rfl rfl ?_
  exact lw_true C (by decide +kernel) hcap.1 hcap.2
theorem lw_head {p : Program} {l : Launch} {e : Env} {s : State} {m : MethodId} {below : List Frame} {meth : Method} {c : Code} {b Lx : Nat} {xs : Nat → Int32} {E : ab_E} {rm : Nat → Nat} {kc ks : Nat} {u v : ab_S} {ov : Int64} {n : Nat} (C : lw_cx p l s m meth c b Lx xs E rm) (hn : n + 7 ≤ Lx) (k : ∀ x : Int32, (∃ j, j < 64 ∧ x = nI j) → LG p l e s m below meth c b E rm kc ks 40 (lw_L (nI n)) [vI x] u v ov) : LG p l e s m below meth c b E rm kc ks 23 (lw_L (nI n)) [] u v ov := by
  have hLx := C.2.2.2.2.2.2
  refine lw_top C (by omega) (fun h => absurd h (by omega)) (fun _ => ?_)
  refine lw_seg C (pc' := 36) (L' := lw_L (nI n)) (st' := [vI (nI n), vR (kO 23) 0]) [(oL 2 0, 1), (oL 0 4, 2)] (by decide +kernel) rfl rfl ?_
  refine lw_rd C (by decide +kernel) (pc2 := 37) rfl (lw_ix0 rfl (by omega) hLx) ?_
  refine lw_seg C (pc' := 40) (L' := lw_L (nI n)) (st' := [vI (xs (nc (nI n)) &&& 63)]) [(oC 63, 2), (oP .iand, 1)] (by decide +kernel) rfl rfl ?_
  exact k _ (pk_andE (xs (nc (nI n))) 6 (by decide))
theorem lw_loop {p : Program} {l : Launch} {e : Env} {s : State} {m : MethodId} {below : List Frame} {meth : Method} {c : Code} {b Lx : Nat} {xs : Nat → Int32} {E : ab_E} {rm : Nat → Nat} (C : lw_cx p l s m meth c b Lx xs E rm) {Inv : ab_S → ab_S → Prop} {rsC : Int32 → Int32 → Int32 → Int32 → Option Int32} (hR : lw_R p l e s m below meth c b E rm rsC) (hS : lw_Ss Inv rsC) : ∀ (q n kc ks : Nat) (u v : ab_S) (ov : Int64), Inv u v → Lx < n + 7 * q → n ≤ Lx + 7 → kc + q ≤ 601024 → ks + 6 * q ≤ 7293034 → LG p l e s m below meth c b E rm kc ks 23 (lw_L (nI n)) [] u v ov := by
  have hLx := C.2.2.2.2.2.2
  obtain ⟨hs44, hs0, hs1, hs2, hs3, hs4, hs5, hs6, hs7, hs8, hs9, hs10, hs11, hs12, hs13, hs14, hs15, hs16, hs17, hs18, hs19, hs20, hs21, hs22, hs23, hs24, hs25, hs26, hs27, hs28, hs29, hs30, hs31, hs32, hs33, hs34, hs35, hs36, hs37, hs38, hs39, hs40, hs41, hs42, hs43, hs45, hs46, hs47⟩ := hS
  intro q
  induction q with
  | zero =>
    intro n kc ks u v ov hI h1 h2 h3 h4
    exact lw_exit C (n := n) (by omega) (by omega) ⟨by omega, by omega⟩
  | succ q ih =>
    intro n kc ks u v ov hI h1 h2 h3 h4
    by_cases hn : n + 7 ≤ Lx
    · have hcap : kc ≤ 601024 ∧ ks ≤ 7293034 := ⟨by omega, by omega⟩
      have kk : ∀ (u1 v1 : ab_S) (ov1 : Int64), Inv u1 v1 → LG p l e s m below meth c b E rm (kc + 1) (ks + 6) 1645 (lw_L (nI n)) [] u1 v1 ov1 := by
        intro u1 v1 ov1 hI1
        refine lw_seg C (pc' := 1648) (L' := lw_L (nI n + 7)) (st' := []) [(oN 4 7, 3)] (by decide +kernel) rfl rfl ?_
        refine lw_goto C (off := (-1625)) (tgt := 23) (by decide +kernel) (by decide) ?_
        have e7 : nI n + 7 = nI (n + 7) := nI_add n 7
        rw [e7]
        exact ih (n + 7) (kc + 1) (ks + 6) u1 v1 ov1 hI1 (by omega) (by omega) (by omega) (by omega)
      refine lw_head C hn (fun x hx => ?_)
      obtain ⟨j, hj, e1⟩ := hx
      by_cases h48 : j < 48
      · match j, h48 with
        | 0, _ => exact lw_tin C 0 e1 (by decide) (off := 208) (tgt := 248) rfl (by decide) (lw_k0 C hs0 rfl hn hI hcap kk)
        | 1, _ => exact lw_tin C 1 e1 (by decide) (off := 355) (tgt := 395) rfl (by decide) (lw_k1 C hs1 rfl hn hI hcap kk)
        | 2, _ => exact lw_tin C 2 e1 (by decide) (off := 368) (tgt := 408) rfl (by decide) (lw_k2 C hs2 rfl hn hI hcap kk)
        | 3, _ => exact lw_tin C 3 e1 (by decide) (off := 381) (tgt := 421) rfl (by decide) (lw_k3 C hs3 rfl hn hI hcap kk)
        | 4, _ => exact lw_tin C 4 e1 (by decide) (off := 418) (tgt := 458) rfl (by decide) (lw_k4 C hs4 rfl hn hI hcap kk)
        | 5, _ => exact lw_tin C 5 e1 (by decide) (off := 455) (tgt := 495) rfl (by decide) (lw_k5 C hs5 rfl hn hI hcap kk)
        | 6, _ => exact lw_tin C 6 e1 (by decide) (off := 492) (tgt := 532) rfl (by decide) (lw_k6 C hs6 rfl hn hI hcap kk)
        | 7, _ => exact lw_tin C 7 e1 (by decide) (off := 517) (tgt := 557) rfl (by decide) (lw_k7 C hs7 rfl hn hI hcap kk)
        | 8, _ => exact lw_tin C 8 e1 (by decide) (off := 554) (tgt := 594) rfl (by decide) (lw_k8 C hs8 rfl hn hI hcap kk)
        | 9, _ => exact lw_tin C 9 e1 (by decide) (off := 579) (tgt := 619) rfl (by decide) (lw_k9 C hs9 rfl hn hI hcap kk)
        | 10, _ => exact lw_tin C 10 e1 (by decide) (off := 592) (tgt := 632) rfl (by decide) (lw_k10 C hs10 rfl hn hI hcap kk)
        | 11, _ => exact lw_tin C 11 e1 (by decide) (off := 605) (tgt := 645) rfl (by decide) (lw_k11 C hs11 rfl hn hI hcap kk)
        | 12, _ => exact lw_tin C 12 e1 (by decide) (off := 630) (tgt := 670) rfl (by decide) (lw_k12 C hs12 rfl hn hI hcap kk)
        | 13, _ => exact lw_tin C 13 e1 (by decide) (off := 655) (tgt := 695) rfl (by decide) (lw_k13 C hs13 rfl hn hI hcap kk)
        | 14, _ => exact lw_tin C 14 e1 (by decide) (off := 692) (tgt := 732) rfl (by decide) (lw_k14 C hs14 rfl hn hI hcap kk)
        | 15, _ => exact lw_tin C 15 e1 (by decide) (off := 729) (tgt := 769) rfl (by decide) (lw_k15 C hs15 rfl hn hI hcap kk)
        | 16, _ => exact lw_tin C 16 e1 (by decide) (off := 742) (tgt := 782) rfl (by decide) (lw_k16 C hs16 rfl hn hI hcap kk)
        | 17, _ => exact lw_tin C 17 e1 (by decide) (off := 755) (tgt := 795) rfl (by decide) (lw_k17 C hs17 rfl hn hI hcap kk)
        | 18, _ => exact lw_tin C 18 e1 (by decide) (off := 792) (tgt := 832) rfl (by decide) (lw_k18 C hs18 rfl hn hI hcap kk)
        | 19, _ => exact lw_tin C 19 e1 (by decide) (off := 829) (tgt := 869) rfl (by decide) (lw_k19 C hs19 rfl hn hI hcap kk)
        | 20, _ => exact lw_tin C 20 e1 (by decide) (off := 854) (tgt := 894) rfl (by decide) (lw_k20 C hs20 rfl hn hI hcap kk)
        | 21, _ => exact lw_tin C 21 e1 (by decide) (off := 867) (tgt := 907) rfl (by decide) (lw_k21 C hs21 rfl hn hI hcap kk)
        | 22, _ => exact lw_tin C 22 e1 (by decide) (off := 880) (tgt := 920) rfl (by decide) (lw_k22 C hs22 rfl hn hI hcap kk)
        | 23, _ => exact lw_tin C 23 e1 (by decide) (off := 905) (tgt := 945) rfl (by decide) (lw_k23 C hs23 rfl hn hI hcap kk)
        | 24, _ => exact lw_tin C 24 e1 (by decide) (off := 930) (tgt := 970) rfl (by decide) (lw_k24 C hs24 rfl hn hI hcap kk)
        | 25, _ => exact lw_tin C 25 e1 (by decide) (off := 955) (tgt := 995) rfl (by decide) (lw_k25 C hs25 rfl hn hI hcap kk)
        | 26, _ => exact lw_tin C 26 e1 (by decide) (off := 980) (tgt := 1020) rfl (by decide) (lw_k26 C hs26 rfl hn hI hcap kk)
        | 27, _ => exact lw_tin C 27 e1 (by decide) (off := 1005) (tgt := 1045) rfl (by decide) (lw_k27 C hs27 rfl hn hI hcap kk)
        | 28, _ => exact lw_tin C 28 e1 (by decide) (off := 1018) (tgt := 1058) rfl (by decide) (lw_k28 C hs28 rfl hn hI hcap kk)
        | 29, _ => exact lw_tin C 29 e1 (by decide) (off := 1043) (tgt := 1083) rfl (by decide) (lw_k29 C hs29 rfl hn hI hcap kk)
        | 30, _ => exact lw_tin C 30 e1 (by decide) (off := 1056) (tgt := 1096) rfl (by decide) (lw_k30 C hs30 rfl hn hI hcap kk)
        | 31, _ => exact lw_tin C 31 e1 (by decide) (off := 1081) (tgt := 1121) rfl (by decide) (lw_k31 C hs31 rfl hn hI hcap kk)
        | 32, _ => exact lw_tin C 32 e1 (by decide) (off := 1106) (tgt := 1146) rfl (by decide) (lw_k32 C hs32 rfl hn hI hcap kk)
        | 33, _ => exact lw_tin C 33 e1 (by decide) (off := 1119) (tgt := 1159) rfl (by decide) (lw_k33 C hs33 rfl hn hI hcap kk)
        | 34, _ => exact lw_tin C 34 e1 (by decide) (off := 1156) (tgt := 1196) rfl (by decide) (lw_k34 C hs34 rfl hn hI hcap kk)
        | 35, _ => exact lw_tin C 35 e1 (by decide) (off := 1193) (tgt := 1233) rfl (by decide) (lw_k35 C hs35 rfl hn hI hcap kk)
        | 36, _ => exact lw_tin C 36 e1 (by decide) (off := 1218) (tgt := 1258) rfl (by decide) (lw_k36 C hs36 rfl hn hI hcap kk)
        | 37, _ => exact lw_tin C 37 e1 (by decide) (off := 1283) (tgt := 1323) rfl (by decide) (lw_k37 C hs37 rfl hn hI hcap kk)
        | 38, _ => exact lw_tin C 38 e1 (by decide) (off := 1296) (tgt := 1336) rfl (by decide) (lw_k38 C hs38 rfl hn hI hcap kk)
        | 39, _ => exact lw_tin C 39 e1 (by decide) (off := 1309) (tgt := 1349) rfl (by decide) (lw_k39 C hs39 rfl hn hI hcap kk)
        | 40, _ => exact lw_tin C 40 e1 (by decide) (off := 1322) (tgt := 1362) rfl (by decide) (lw_k40 C hs40 rfl hn hI hcap kk)
        | 41, _ => exact lw_tin C 41 e1 (by decide) (off := 1335) (tgt := 1375) rfl (by decide) (lw_k41 C hs41 rfl hn hI hcap kk)
        | 42, _ => exact lw_tin C 42 e1 (by decide) (off := 1360) (tgt := 1400) rfl (by decide) (lw_k42 C hs42 rfl hn hI hcap kk)
        | 43, _ => exact lw_tin C 43 e1 (by decide) (off := 1373) (tgt := 1413) rfl (by decide) (lw_k43 C hs43 rfl hn hI hcap kk)
        | 44, _ => exact lw_tin C 44 e1 (by decide) (off := 1386) (tgt := 1426) rfl (by decide) (lw_k44 C hR hs44 rfl hn hI (by omega) (by omega) kk)
        | 45, _ => exact lw_tin C 45 e1 (by decide) (off := 1478) (tgt := 1518) rfl (by decide) (lw_k45 C hs45 rfl hn hI hcap kk)
        | 46, _ => exact lw_tin C 46 e1 (by decide) (off := 1527) (tgt := 1567) rfl (by decide) (lw_k46 C hs46 rfl hn hI hcap kk)
        | 47, _ => exact lw_tin C 47 e1 (by decide) (off := 1580) (tgt := 1620) rfl (by decide) (lw_k47 C hs47 rfl hn hI hcap kk)
        | z + 48, h => exact absurd h (by omega)
      · exact lw_tout C j e1 (by omega) hj (lw_widen (Nat.le_succ _) (Nat.le_add_right _ 6) (kk u v ov hI))
    · exact lw_exit C (n := n) (by omega) (by omega) ⟨by omega, by omega⟩
