/-! the law's cases -/
abbrev lw_L (i : Int32) : List (Option ab_V) := [some (vR (kO 23) 0), some (vR (kO 8) 0), some (vR (kO 22) 0), some (vR (kO 24) 0), some (vI i), none, none]
theorem lw_ixa {n j Lx : Nat} {x y : Int32} (hx : x = nI n) (hy : y = nI j) (hn : n + j < Lx) (hL : Lx ≤ 3584) : ab_ix (x + y) Lx = true := by
  rw [hx, hy, nI_add]
  have h := vp_in_iff.mp (vp_in_nI hn (by omega))
  simp only [ab_ix, Bool.and_eq_true, decide_eq_true_eq]
  exact h
theorem lw_ix0 {n Lx : Nat} {x : Int32} (hx : x = nI n) (hn : n < Lx) (hL : Lx ≤ 3584) : ab_ix x Lx = true := by
  rw [hx]
  have h := vp_in_iff.mp (vp_in_nI hn (by omega))
  simp only [ab_ix, Bool.and_eq_true, decide_eq_true_eq]
  exact h
def lw_R (p : Program) (l : Launch) (e : Env) (s : State) (m : MethodId) (below : List Frame) (meth : Method) (c : Code) (b : Nat) (E : ab_E) (rm : Nat → Nat) (rsC : Int32 → Int32 → Int32 → Int32 → Option Int32) : Prop :=
  ∀ (kc ks : Nat) (a1 a2 a3 a4 i : Int32) (u v : ab_S) (ov : Int64), kc + 1 ≤ 601024 → ks + 6 ≤ 7293034 → (∀ r, rsC a1 a2 a3 a4 = some r → LG p l e s m below meth c b E rm (kc + 1) (ks + 6) 1455 (lw_L i) [vI 0] u v r.toInt64) → (rsC a1 a2 a3 a4 = none → LG p l e s m below meth c b E rm (kc + 1) (ks + 6) 1455 (lw_L i) [vI 1] u v ov) →
    LG p l e s m below meth c b E rm kc ks 1452 (lw_L i) [vR (kO 24) 0, vI a4, vI a3, vI a2, vI a1, vR (kO 8) 0] u v ov
theorem lw_out {p : Program} {l : Launch} {e : Env} {s : State} {m : MethodId} {below : List Frame} {meth : Method} {c : Code} {b Lx : Nat} {xs : Nat → Int32} {E : ab_E} {rm : Nat → Nat} {kc ks pc pc2 : Nat} {u v : ab_S} {ov : Int64} {L : List (Option ab_V)} {st : List ab_V} (C : lw_cx p l s m meth c b Lx xs E rm) (hd : decode code pc = .ok (.laload, 1)) (hp : pc + 1 = pc2) (k : LG p l e s m below meth c b E rm kc ks pc2 L (vL ov :: st) u v ov) : LG p l e s m below meth c b E rm kc ks pc L (vI 0 :: vR (kO 24) 0 :: st) u v ov := by
  intro H locs ls X hM hO hl hL hst hn
  subst hp
  obtain ⟨C0, hfl, F, -⟩ := C
  obtain ⟨hex, hb, hown, hts, hNW, hK, -⟩ := F
  have hP : va_P (E.1, E.2.1) vwCl [(ab_sa E 24 0, .inl (ab_cA E 1, (1, .inr (.inl (fun _ => ov)))))] H := by
    intro k q hk
    match k, hk with
    | 0, hk => cases hk; exact hO
    | k + 1, hk => simp at hk
  exact va_lald hex hb hK hP 0 1 rfl (ab_ty_at E (e := 1) (by decide)) (i := 0) (vp_in_iff.mpr (by decide)) hd (k H locs ls X hM hO hl hL (hst.tl.tl.cons trivial) hn)
theorem lp10_21 : ab_lp 10 21 yX9_feed := ab_inT 489 (by decide +kernel) (by decide +kernel)
theorem lp10_26 : ab_lp 10 26 yX9_office := ab_inT 498 (by decide +kernel) (by decide +kernel)
theorem lp10_31 : ab_lp 10 31 yX9_year := ab_inT 848 (by decide +kernel) (by decide +kernel)
theorem lp10_35 : ab_lp 10 35 yX9_person := ab_inT 883 (by decide +kernel) (by decide +kernel)
theorem lp10_40 : ab_lp 10 40 yX9_good := ab_inT 907 (by decide +kernel) (by decide +kernel)
theorem lp10_44 : ab_lp 10 44 yX9_fit := ab_inT 921 (by decide +kernel) (by decide +kernel)
theorem lp10_48 : ab_lp 10 48 yX9_buy := ab_inT 940 (by decide +kernel) (by decide +kernel)
theorem lp10_53 : ab_lp 10 53 yX9_swap := ab_inT 966 (by decide +kernel) (by decide +kernel)
theorem lp10_58 : ab_lp 10 58 yX9_bring := ab_inT 987 (by decide +kernel) (by decide +kernel)
theorem lp10_62 : ab_lp 10 62 yX9_quarter := ab_inT 992 (by decide +kernel) (by decide +kernel)
theorem lp10_66 : ab_lp 10 66 yX9_undo := ab_inT 1039 (by decide +kernel) (by decide +kernel)
theorem lp10_71 : ab_lp 10 71 yX9_judged := ab_inT 1043 (by decide +kernel) (by decide +kernel)
theorem lp10_75 : ab_lp 10 75 yX9_winner := ab_inT 1064 (by decide +kernel) (by decide +kernel)
theorem lp10_79 : ab_lp 10 79 yX9_where := ab_inT 1068 (by decide +kernel) (by decide +kernel)
theorem lp10_83 : ab_lp 10 83 yX9_has := ab_inT 1072 (by decide +kernel) (by decide +kernel)
theorem lp10_87 : ab_lp 10 87 yX9_home := ab_inT 1076 (by decide +kernel) (by decide +kernel)
theorem lp10_91 : ab_lp 10 91 yX9_empty := ab_inT 1081 (by decide +kernel) (by decide +kernel)
theorem lp10_95 : ab_lp 10 95 yX9_won := ab_inT 1086 (by decide +kernel) (by decide +kernel)
theorem lp10_99 : ab_lp 10 99 yX9_streak := ab_inT 1090 (by decide +kernel) (by decide +kernel)
theorem lp10_103 : ab_lp 10 103 yX9_moves := ab_inT 1095 (by decide +kernel) (by decide +kernel)
theorem lp10_107 : ab_lp 10 107 yX9_least := ab_inT 1099 (by decide +kernel) (by decide +kernel)
theorem lp10_111 : ab_lp 10 111 yX9_rights := ab_inT 1103 (by decide +kernel) (by decide +kernel)
theorem lp10_115 : ab_lp 10 115 yX9_joy := ab_inT 1107 (by decide +kernel) (by decide +kernel)
theorem lp10_119 : ab_lp 10 119 yX9_envy := ab_inT 1119 (by decide +kernel) (by decide +kernel)
theorem lp10_123 : ab_lp 10 123 yX9_offers := ab_inT 1124 (by decide +kernel) (by decide +kernel)
theorem lp10_127 : ab_lp 10 127 yX9_want := ab_inT 1128 (by decide +kernel) (by decide +kernel)
theorem lp10_131 : ab_lp 10 131 yX9_fans := ab_inT 1132 (by decide +kernel) (by decide +kernel)
theorem lp10_135 : ab_lp 10 135 yX9_dull := ab_inT 1144 (by decide +kernel) (by decide +kernel)
theorem lp10_139 : ab_lp 10 139 yX9_gets := ab_inT 1148 (by decide +kernel) (by decide +kernel)
theorem lp10_143 : ab_lp 10 143 yX9_rounds := ab_inT 1185 (by decide +kernel) (by decide +kernel)
theorem lp10_147 : ab_lp 10 147 yX9_best := ab_inT 1189 (by decide +kernel) (by decide +kernel)
theorem lp10_151 : ab_lp 10 151 yX9_owes := ab_inT 1223 (by decide +kernel) (by decide +kernel)
theorem lp10_155 : ab_lp 10 155 yX9_spare := ab_inT 1229 (by decide +kernel) (by decide +kernel)
theorem lp10_159 : ab_lp 10 159 yX9_odds := ab_inT 1233 (by decide +kernel) (by decide +kernel)
theorem lp10_163 : ab_lp 10 163 yX9_enough := ab_inT 1239 (by decide +kernel) (by decide +kernel)
theorem lp10_167 : ab_lp 10 167 yX9_run := ab_inT 1243 (by decide +kernel) (by decide +kernel)
theorem lp10_171 : ab_lp 10 171 yX9_see := ab_inT 1248 (by decide +kernel) (by decide +kernel)
theorem lp10_176 : ab_lp 10 176 yX9_who := ab_inT 1257 (by decide +kernel) (by decide +kernel)
theorem lp10_180 : ab_lp 10 180 yX9_ask := ab_inT 1271 (by decide +kernel) (by decide +kernel)
theorem lp10_184 : ab_lp 10 184 yX9_rich := ab_inT 1279 (by decide +kernel) (by decide +kernel)
theorem lp10_188 : ab_lp 10 188 yX9_sad := ab_inT 1283 (by decide +kernel) (by decide +kernel)
theorem lp10_192 : ab_lp 10 192 yX9_lack := ab_inT 1287 (by decide +kernel) (by decide +kernel)
theorem lp10_196 : ab_lp 10 196 yX9_debt := ab_inT 1291 (by decide +kernel) (by decide +kernel)
theorem lp10_200 : ab_lp 10 200 yX9_poor := ab_inT 1295 (by decide +kernel) (by decide +kernel)
theorem lp10_213 : ab_lp 10 213 yX9_luck := ab_inT 1299 (by decide +kernel) (by decide +kernel)
theorem lp10_218 : ab_lp 10 218 yX9_mark := ab_inT 1316 (by decide +kernel) (by decide +kernel)
theorem lp10_223 : ab_lp 10 223 yX9_count := ab_inT 1325 (by decide +kernel) (by decide +kernel)
theorem lp10_204 : ab_lp 10 204 yL_rests := ab_inT 1333 (by decide +kernel) (by decide +kernel)
theorem lp10_7 : ab_lp 10 7 yX9_rests := ab_inT 1337 (by decide +kernel) (by decide +kernel)
theorem lp10_210 : ab_lp 10 210 yX10_thrown := ab_inT 1416 (by decide +kernel) (by decide +kernel)
theorem lp10_25 : ab_lp 10 25 yX10_feed := ab_inT 1420 (by decide +kernel) (by decide +kernel)
theorem lp10_30 : ab_lp 10 30 yX10_office := ab_inT 1577 (by decide +kernel) (by decide +kernel)
theorem lp10_34 : ab_lp 10 34 yX10_year := ab_inT 1699 (by decide +kernel) (by decide +kernel)
theorem lp10_39 : ab_lp 10 39 yX10_person := ab_inT 1707 (by decide +kernel) (by decide +kernel)
theorem lp10_43 : ab_lp 10 43 yX10_good := ab_inT 1723 (by decide +kernel) (by decide +kernel)
theorem lp10_47 : ab_lp 10 47 yX10_fit := ab_inT 1735 (by decide +kernel) (by decide +kernel)
theorem lp10_52 : ab_lp 10 52 yX10_buy := ab_inT 1757 (by decide +kernel) (by decide +kernel)
theorem lp10_57 : ab_lp 10 57 yX10_swap := ab_inT 1777 (by decide +kernel) (by decide +kernel)
theorem lp10_61 : ab_lp 10 61 yX10_bring := ab_inT 1793 (by decide +kernel) (by decide +kernel)
theorem lp10_65 : ab_lp 10 65 yX10_quarter := ab_inT 1797 (by decide +kernel) (by decide +kernel)
theorem lp10_70 : ab_lp 10 70 yX10_undo := ab_inT 1825 (by decide +kernel) (by decide +kernel)
theorem lp10_74 : ab_lp 10 74 yX10_judged := ab_inT 1829 (by decide +kernel) (by decide +kernel)
theorem lp10_78 : ab_lp 10 78 yX10_winner := ab_inT 1837 (by decide +kernel) (by decide +kernel)
theorem lp10_82 : ab_lp 10 82 yX10_where := ab_inT 1845 (by decide +kernel) (by decide +kernel)
theorem lp10_86 : ab_lp 10 86 yX10_has := ab_inT 1849 (by decide +kernel) (by decide +kernel)
theorem lp10_90 : ab_lp 10 90 yX10_home := ab_inT 1853 (by decide +kernel) (by decide +kernel)
theorem lp10_94 : ab_lp 10 94 yX10_empty := ab_inT 1857 (by decide +kernel) (by decide +kernel)
theorem lp10_98 : ab_lp 10 98 yX10_won := ab_inT 1861 (by decide +kernel) (by decide +kernel)
theorem lp10_102 : ab_lp 10 102 yX10_streak := ab_inT 1865 (by decide +kernel) (by decide +kernel)
theorem lp10_106 : ab_lp 10 106 yX10_moves := ab_inT 1869 (by decide +kernel) (by decide +kernel)
theorem lp10_114 : ab_lp 10 114 yX10_rights := ab_inT 1873 (by decide +kernel) (by decide +kernel)
theorem lp10_118 : ab_lp 10 118 yX10_joy := ab_inT 1877 (by decide +kernel) (by decide +kernel)
theorem lp10_122 : ab_lp 10 122 yX10_envy := ab_inT 1889 (by decide +kernel) (by decide +kernel)
theorem lp10_126 : ab_lp 10 126 yX10_offers := ab_inT 1893 (by decide +kernel) (by decide +kernel)
theorem lp10_130 : ab_lp 10 130 yX10_want := ab_inT 1897 (by decide +kernel) (by decide +kernel)
theorem lp10_134 : ab_lp 10 134 yX10_fans := ab_inT 1909 (by decide +kernel) (by decide +kernel)
theorem lp10_138 : ab_lp 10 138 yX10_dull := ab_inT 1917 (by decide +kernel) (by decide +kernel)
theorem lp10_110 : ab_lp 10 110 yX10_least := ab_inT 1921 (by decide +kernel) (by decide +kernel)
theorem lp10_142 : ab_lp 10 142 yX10_gets := ab_inT 1925 (by decide +kernel) (by decide +kernel)
theorem lp10_146 : ab_lp 10 146 yX10_rounds := ab_inT 1937 (by decide +kernel) (by decide +kernel)
theorem lp10_150 : ab_lp 10 150 yX10_best := ab_inT 1941 (by decide +kernel) (by decide +kernel)
theorem lp10_154 : ab_lp 10 154 yX10_owes := ab_inT 1953 (by decide +kernel) (by decide +kernel)
theorem lp10_158 : ab_lp 10 158 yX10_spare := ab_inT 1957 (by decide +kernel) (by decide +kernel)
theorem lp10_162 : ab_lp 10 162 yX10_odds := ab_inT 1961 (by decide +kernel) (by decide +kernel)
theorem lp10_166 : ab_lp 10 166 yX10_enough := ab_inT 1966 (by decide +kernel) (by decide +kernel)
theorem lp10_170 : ab_lp 10 170 yX10_run := ab_inT 1970 (by decide +kernel) (by decide +kernel)
theorem lp10_175 : ab_lp 10 175 yX10_see := ab_inT 1975 (by decide +kernel) (by decide +kernel)
theorem lp10_179 : ab_lp 10 179 yX10_who := ab_inT 1979 (by decide +kernel) (by decide +kernel)
theorem lp10_183 : ab_lp 10 183 yX10_ask := ab_inT 1987 (by decide +kernel) (by decide +kernel)
theorem lp10_187 : ab_lp 10 187 yX10_rich := ab_inT 1991 (by decide +kernel) (by decide +kernel)
theorem lp10_191 : ab_lp 10 191 yX10_sad := ab_inT 1995 (by decide +kernel) (by decide +kernel)
theorem lp10_195 : ab_lp 10 195 yX10_lack := ab_inT 1999 (by decide +kernel) (by decide +kernel)
theorem lp10_199 : ab_lp 10 199 yX10_debt := ab_inT 2003 (by decide +kernel) (by decide +kernel)
theorem lp10_203 : ab_lp 10 203 yX10_poor := ab_inT 2007 (by decide +kernel) (by decide +kernel)
theorem lp10_209 : ab_lp 10 209 yX10_rests := ab_inT 2011 (by decide +kernel) (by decide +kernel)
theorem lp10_217 : ab_lp 10 217 yX10_luck := ab_inT 2018 (by decide +kernel) (by decide +kernel)
theorem lp10_222 : ab_lp 10 222 yX10_mark := ab_inT 2030 (by decide +kernel) (by decide +kernel)
theorem lp10_226 : ab_lp 10 226 yX10_count := ab_inT 2034 (by decide +kernel) (by decide +kernel)
def lw_S0 (Inv : ab_S → ab_S → Prop) : Prop := ∀ (u v : ab_S) (a0 : Int64) (a1 : Int64) (a2 : Int64), Inv u v → ∃ (r : Int32) (u1 v1 : ab_S), fX9_feed a0 a1 a2 u = some (r, u1) ∧ fX10_feed a0 a1 a2 v = some (r, v1) ∧ Inv u1 v1
theorem lw_k0 {p : Program} {l : Launch} {e : Env} {s : State} {m : MethodId} {below : List Frame} {meth : Method} {c : Code} {b Lx : Nat} {xs : Nat → Int32} {E : ab_E} {rm : Nat → Nat} {kc ks : Nat} {u v : ab_S} {ov : Int64} (C : lw_cx p l s m meth c b Lx xs E rm) {Inv : ab_S → ab_S → Prop} (hs : lw_S0 Inv) {n : Nat} {i : Int32} (hi : i = nI n) (hn : n + 7 ≤ Lx) (hI : Inv u v) (hcap : kc ≤ 601024 ∧ ks ≤ 7293034) (kk : ∀ (u1 v1 : ab_S) (ov1 : Int64), Inv u1 v1 → LG p l e s m below meth c b E rm (kc + 1) (ks + 6) 1645 (lw_L i) [] u1 v1 ov1) : LG p l e s m below meth c b E rm kc ks 248 (lw_L i) [] u v ov := by
  refine lw_seg C (pc' := 254) (L' := [some (vR (kO 23) 0), some (vR (kO 8) 0), some (vR (kO 22) 0), some (vR (kO 24) 0), some (vI i), none, none]) (st' := [vI (i + 1), vR (kO 23) 0, vR (kO 8) 0]) [(oL 2 1, 1), (oL 2 0, 1), (oL 0 4, 2), (oC 1, 1), (oP .iadd, 1)] (by decide +kernel) rfl rfl ?_
  refine lw_rd C (by decide +kernel) rfl (lw_ixa (j := 1) hi rfl (by omega) C.2.2.2.2.2.2) ?_
  refine lw_seg C (pc' := 264) (L' := [some (vR (kO 23) 0), some (vR (kO 8) 0), some (vR (kO 22) 0), some (vR (kO 24) 0), some (vI i), none, none]) (st' := [vI (i + 2), vR (kO 23) 0, vL ((Int32.toInt64 (xs (nc (i + 1)))) <<< (Int32.toInt64 32 &&& 63)), vR (kO 8) 0]) [(oP .i2l, 1), (oC 32, 2), (oP .lshl, 1), (oL 2 0, 1), (oL 0 4, 2), (oC 2, 1), (oP .iadd, 1)] (by decide +kernel) rfl rfl ?_
  refine lw_rd C (by decide +kernel) rfl (lw_ixa (j := 2) hi rfl (by omega) C.2.2.2.2.2.2) ?_
  refine lw_seg C (pc' := 276) (L' := [some (vR (kO 23) 0), some (vR (kO 8) 0), some (vR (kO 22) 0), some (vR (kO 24) 0), some (vI i), none, none]) (st' := [vI (i + 3), vR (kO 23) 0, vL (((Int32.toInt64 (xs (nc (i + 1)))) <<< (Int32.toInt64 32 &&& 63)) ||| ((Int32.toInt64 (xs (nc (i + 2)))) &&& 4294967295)), vR (kO 8) 0]) [(oP .i2l, 1), (oD 4294967295, 3), (oP .land, 1), (oP .lor, 1), (oL 2 0, 1), (oL 0 4, 2), (oC 3, 1), (oP .iadd, 1)] (by decide +kernel) rfl rfl ?_
  refine lw_rd C (by decide +kernel) rfl (lw_ixa (j := 3) hi rfl (by omega) C.2.2.2.2.2.2) ?_
  refine lw_seg C (pc' := 286) (L' := [some (vR (kO 23) 0), some (vR (kO 8) 0), some (vR (kO 22) 0), some (vR (kO 24) 0), some (vI i), none, none]) (st' := [vI (i + 4), vR (kO 23) 0, vL ((Int32.toInt64 (xs (nc (i + 3)))) <<< (Int32.toInt64 32 &&& 63)), vL (((Int32.toInt64 (xs (nc (i + 1)))) <<< (Int32.toInt64 32 &&& 63)) ||| ((Int32.toInt64 (xs (nc (i + 2)))) &&& 4294967295)), vR (kO 8) 0]) [(oP .i2l, 1), (oC 32, 2), (oP .lshl, 1), (oL 2 0, 1), (oL 0 4, 2), (oC 4, 1), (oP .iadd, 1)] (by decide +kernel) rfl rfl ?_
  refine lw_rd C (by decide +kernel) rfl (lw_ixa (j := 4) hi rfl (by omega) C.2.2.2.2.2.2) ?_
  refine lw_seg C (pc' := 298) (L' := [some (vR (kO 23) 0), some (vR (kO 8) 0), some (vR (kO 22) 0), some (vR (kO 24) 0), some (vI i), none, none]) (st' := [vI (i + 5), vR (kO 23) 0, vL (((Int32.toInt64 (xs (nc (i + 3)))) <<< (Int32.toInt64 32 &&& 63)) ||| ((Int32.toInt64 (xs (nc (i + 4)))) &&& 4294967295)), vL (((Int32.toInt64 (xs (nc (i + 1)))) <<< (Int32.toInt64 32 &&& 63)) ||| ((Int32.toInt64 (xs (nc (i + 2)))) &&& 4294967295)), vR (kO 8) 0]) [(oP .i2l, 1), (oD 4294967295, 3), (oP .land, 1), (oP .lor, 1), (oL 2 0, 1), (oL 0 4, 2), (oC 5, 1), (oP .iadd, 1)] (by decide +kernel) rfl rfl ?_
  refine lw_rd C (by decide +kernel) rfl (lw_ixa (j := 5) hi rfl (by omega) C.2.2.2.2.2.2) ?_
  refine lw_seg C (pc' := 309) (L' := [some (vR (kO 23) 0), some (vR (kO 8) 0), some (vR (kO 22) 0), some (vR (kO 24) 0), some (vI i), none, none]) (st' := [vI (i + 6), vR (kO 23) 0, vL ((Int32.toInt64 (xs (nc (i + 5)))) <<< (Int32.toInt64 32 &&& 63)), vL (((Int32.toInt64 (xs (nc (i + 3)))) <<< (Int32.toInt64 32 &&& 63)) ||| ((Int32.toInt64 (xs (nc (i + 4)))) &&& 4294967295)), vL (((Int32.toInt64 (xs (nc (i + 1)))) <<< (Int32.toInt64 32 &&& 63)) ||| ((Int32.toInt64 (xs (nc (i + 2)))) &&& 4294967295)), vR (kO 8) 0]) [(oP .i2l, 1), (oC 32, 2), (oP .lshl, 1), (oL 2 0, 1), (oL 0 4, 2), (oC 6, 2), (oP .iadd, 1)] (by decide +kernel) rfl rfl ?_
  refine lw_rd C (by decide +kernel) rfl (lw_ixa (j := 6) hi rfl (by omega) C.2.2.2.2.2.2) ?_
  refine lw_seg C (pc' := 316) (L' := [some (vR (kO 23) 0), some (vR (kO 8) 0), some (vR (kO 22) 0), some (vR (kO 24) 0), some (vI i), none, none]) (st' := [vL (((Int32.toInt64 (xs (nc (i + 5)))) <<< (Int32.toInt64 32 &&& 63)) ||| ((Int32.toInt64 (xs (nc (i + 6)))) &&& 4294967295)), vL (((Int32.toInt64 (xs (nc (i + 3)))) <<< (Int32.toInt64 32 &&& 63)) ||| ((Int32.toInt64 (xs (nc (i + 4)))) &&& 4294967295)), vL (((Int32.toInt64 (xs (nc (i + 1)))) <<< (Int32.toInt64 32 &&& 63)) ||| ((Int32.toInt64 (xs (nc (i + 2)))) &&& 4294967295)), vR (kO 8) 0]) [(oP .i2l, 1), (oD 4294967295, 3), (oP .land, 1), (oP .lor, 1)] (by decide +kernel) rfl rfl ?_
  obtain ⟨r, u1, v1, e1, e2, hI1⟩ := hs u v (((Int32.toInt64 (xs (nc (i + 1)))) <<< (Int32.toInt64 32 &&& 63)) ||| ((Int32.toInt64 (xs (nc (i + 2)))) &&& 4294967295)) (((Int32.toInt64 (xs (nc (i + 3)))) <<< (Int32.toInt64 32 &&& 63)) ||| ((Int32.toInt64 (xs (nc (i + 4)))) &&& 4294967295)) (((Int32.toInt64 (xs (nc (i + 5)))) <<< (Int32.toInt64 32 &&& 63)) ||| ((Int32.toInt64 (xs (nc (i + 6)))) &&& 4294967295)) hI
  refine lw_callC C (k := 21) (pc2 := 319) (st := []) (CX9_feed (((Int32.toInt64 (xs (nc (i + 1)))) <<< (Int32.toInt64 32 &&& 63)) ||| ((Int32.toInt64 (xs (nc (i + 2)))) &&& 4294967295)) (((Int32.toInt64 (xs (nc (i + 3)))) <<< (Int32.toInt64 32 &&& 63)) ||| ((Int32.toInt64 (xs (nc (i + 4)))) &&& 4294967295)) (((Int32.toInt64 (xs (nc (i + 5)))) <<< (Int32.toInt64 32 &&& 63)) ||| ((Int32.toInt64 (xs (nc (i + 6)))) &&& 4294967295)) u) e1 miX9_feed mvX9_feed rfl lp10_21 wI_ok (by decide +kernel) rfl (Nat.le_of_ble_eq_true rfl) (by decide) rfl ?_ hcap
  refine lw_seg C (pc' := 325) (L' := [some (vR (kO 23) 0), some (vR (kO 8) 0), some (vR (kO 22) 0), some (vR (kO 24) 0), some (vI i), none, none]) (st' := [vI (i + 1), vR (kO 23) 0, vR (kO 22) 0, vI r]) [(oL 2 2, 1), (oL 2 0, 1), (oL 0 4, 2), (oC 1, 1), (oP .iadd, 1)] (by decide +kernel) rfl rfl ?_
  refine lw_rd C (by decide +kernel) rfl (lw_ixa (j := 1) hi rfl (by omega) C.2.2.2.2.2.2) ?_
  refine lw_seg C (pc' := 335) (L' := [some (vR (kO 23) 0), some (vR (kO 8) 0), some (vR (kO 22) 0), some (vR (kO 24) 0), some (vI i), none, none]) (st' := [vI (i + 2), vR (kO 23) 0, vL ((Int32.toInt64 (xs (nc (i + 1)))) <<< (Int32.toInt64 32 &&& 63)), vR (kO 22) 0, vI r]) [(oP .i2l, 1), (oC 32, 2), (oP .lshl, 1), (oL 2 0, 1), (oL 0 4, 2), (oC 2, 1), (oP .iadd, 1)] (by decide +kernel) rfl rfl ?_
  refine lw_rd C (by decide +kernel) rfl (lw_ixa (j := 2) hi rfl (by omega) C.2.2.2.2.2.2) ?_
  refine lw_seg C (pc' := 347) (L' := [some (vR (kO 23) 0), some (vR (kO 8) 0), some (vR (kO 22) 0), some (vR (kO 24) 0), some (vI i), none, none]) (st' := [vI (i + 3), vR (kO 23) 0, vL (((Int32.toInt64 (xs (nc (i + 1)))) <<< (Int32.toInt64 32 &&& 63)) ||| ((Int32.toInt64 (xs (nc (i + 2)))) &&& 4294967295)), vR (kO 22) 0, vI r]) [(oP .i2l, 1), (oD 4294967295, 3), (oP .land, 1), (oP .lor, 1), (oL 2 0, 1), (oL 0 4, 2), (oC 3, 1), (oP .iadd, 1)] (by decide +kernel) rfl rfl ?_
  refine lw_rd C (by decide +kernel) rfl (lw_ixa (j := 3) hi rfl (by omega) C.2.2.2.2.2.2) ?_
  refine lw_seg C (pc' := 357) (L' := [some (vR (kO 23) 0), some (vR (kO 8) 0), some (vR (kO 22) 0), some (vR (kO 24) 0), some (vI i), none, none]) (st' := [vI (i + 4), vR (kO 23) 0, vL ((Int32.toInt64 (xs (nc (i + 3)))) <<< (Int32.toInt64 32 &&& 63)), vL (((Int32.toInt64 (xs (nc (i + 1)))) <<< (Int32.toInt64 32 &&& 63)) ||| ((Int32.toInt64 (xs (nc (i + 2)))) &&& 4294967295)), vR (kO 22) 0, vI r]) [(oP .i2l, 1), (oC 32, 2), (oP .lshl, 1), (oL 2 0, 1), (oL 0 4, 2), (oC 4, 1), (oP .iadd, 1)] (by decide +kernel) rfl rfl ?_
  refine lw_rd C (by decide +kernel) rfl (lw_ixa (j := 4) hi rfl (by omega) C.2.2.2.2.2.2) ?_
  refine lw_seg C (pc' := 369) (L' := [some (vR (kO 23) 0), some (vR (kO 8) 0), some (vR (kO 22) 0), some (vR (kO 24) 0), some (vI i), none, none]) (st' := [vI (i + 5), vR (kO 23) 0, vL (((Int32.toInt64 (xs (nc (i + 3)))) <<< (Int32.toInt64 32 &&& 63)) ||| ((Int32.toInt64 (xs (nc (i + 4)))) &&& 4294967295)), vL (((Int32.toInt64 (xs (nc (i + 1)))) <<< (Int32.toInt64 32 &&& 63)) ||| ((Int32.toInt64 (xs (nc (i + 2)))) &&& 4294967295)), vR (kO 22) 0, vI r]) [(oP .i2l, 1), (oD 4294967295, 3), (oP .land, 1), (oP .lor, 1), (oL 2 0, 1), (oL 0 4, 2), (oC 5, 1), (oP .iadd, 1)] (by decide +kernel) rfl rfl ?_
  refine lw_rd C (by decide +kernel) rfl (lw_ixa (j := 5) hi rfl (by omega) C.2.2.2.2.2.2) ?_
  refine lw_seg C (pc' := 380) (L' := [some (vR (kO 23) 0), some (vR (kO 8) 0), some (vR (kO 22) 0), some (vR (kO 24) 0), some (vI i), none, none]) (st' := [vI (i + 6), vR (kO 23) 0, vL ((Int32.toInt64 (xs (nc (i + 5)))) <<< (Int32.toInt64 32 &&& 63)), vL (((Int32.toInt64 (xs (nc (i + 3)))) <<< (Int32.toInt64 32 &&& 63)) ||| ((Int32.toInt64 (xs (nc (i + 4)))) &&& 4294967295)), vL (((Int32.toInt64 (xs (nc (i + 1)))) <<< (Int32.toInt64 32 &&& 63)) ||| ((Int32.toInt64 (xs (nc (i + 2)))) &&& 4294967295)), vR (kO 22) 0, vI r]) [(oP .i2l, 1), (oC 32, 2), (oP .lshl, 1), (oL 2 0, 1), (oL 0 4, 2), (oC 6, 2), (oP .iadd, 1)] (by decide +kernel) rfl rfl ?_
  refine lw_rd C (by decide +kernel) rfl (lw_ixa (j := 6) hi rfl (by omega) C.2.2.2.2.2.2) ?_
  refine lw_seg C (pc' := 387) (L' := [some (vR (kO 23) 0), some (vR (kO 8) 0), some (vR (kO 22) 0), some (vR (kO 24) 0), some (vI i), none, none]) (st' := [vL (((Int32.toInt64 (xs (nc (i + 5)))) <<< (Int32.toInt64 32 &&& 63)) ||| ((Int32.toInt64 (xs (nc (i + 6)))) &&& 4294967295)), vL (((Int32.toInt64 (xs (nc (i + 3)))) <<< (Int32.toInt64 32 &&& 63)) ||| ((Int32.toInt64 (xs (nc (i + 4)))) &&& 4294967295)), vL (((Int32.toInt64 (xs (nc (i + 1)))) <<< (Int32.toInt64 32 &&& 63)) ||| ((Int32.toInt64 (xs (nc (i + 2)))) &&& 4294967295)), vR (kO 22) 0, vI r]) [(oP .i2l, 1), (oD 4294967295, 3), (oP .land, 1), (oP .lor, 1)] (by decide +kernel) rfl rfl ?_
  refine lw_callM C (k := 25) (pc2 := 390) (st := [vI r]) (CX10_feed (((Int32.toInt64 (xs (nc (i + 1)))) <<< (Int32.toInt64 32 &&& 63)) ||| ((Int32.toInt64 (xs (nc (i + 2)))) &&& 4294967295)) (((Int32.toInt64 (xs (nc (i + 3)))) <<< (Int32.toInt64 32 &&& 63)) ||| ((Int32.toInt64 (xs (nc (i + 4)))) &&& 4294967295)) (((Int32.toInt64 (xs (nc (i + 5)))) <<< (Int32.toInt64 32 &&& 63)) ||| ((Int32.toInt64 (xs (nc (i + 6)))) &&& 4294967295)) v) e2 rfl (fun _ _ => rfl) miX10_feed mvX10_feed rfl lp10_25 wI_ok (by decide +kernel) rfl (Nat.le_of_ble_eq_true rfl) (by decide) rfl ?_ hcap
  refine lw_eq C (off := 1255) (tgt := 1645) (by decide +kernel) (by decide) ?_
  exact lw_widen (Nat.le_succ _) (Nat.le_add_right _ 6) (kk _ _ ov hI1)
def lw_S1 (Inv : ab_S → ab_S → Prop) : Prop := ∀ (u v : ab_S), Inv u v → ∃ (r : Int32) (u1 v1 : ab_S), fX9_office u = some (r, u1) ∧ fX10_office v = some (r, v1) ∧ Inv u1 v1
theorem lw_k1 {p : Program} {l : Launch} {e : Env} {s : State} {m : MethodId} {below : List Frame} {meth : Method} {c : Code} {b Lx : Nat} {xs : Nat → Int32} {E : ab_E} {rm : Nat → Nat} {kc ks : Nat} {u v : ab_S} {ov : Int64} (C : lw_cx p l s m meth c b Lx xs E rm) {Inv : ab_S → ab_S → Prop} (hs : lw_S1 Inv) {n : Nat} {i : Int32} (hi : i = nI n) (hn : n + 7 ≤ Lx) (hI : Inv u v) (hcap : kc ≤ 601024 ∧ ks ≤ 7293034) (kk : ∀ (u1 v1 : ab_S) (ov1 : Int64), Inv u1 v1 → LG p l e s m below meth c b E rm (kc + 1) (ks + 6) 1645 (lw_L i) [] u1 v1 ov1) : LG p l e s m below meth c b E rm kc ks 395 (lw_L i) [] u v ov := by
  refine lw_seg C (pc' := 396) (L' := [some (vR (kO 23) 0), some (vR (kO 8) 0), some (vR (kO 22) 0), some (vR (kO 24) 0), some (vI i), none, none]) (st' := [vR (kO 8) 0]) [(oL 2 1, 1)] (by decide +kernel) rfl rfl ?_
  obtain ⟨r, u1, v1, e1, e2, hI1⟩ := hs u v  hI
  refine lw_callC C (k := 26) (pc2 := 399) (st := []) (CX9_office  u) e1 miX9_office mvX9_office rfl lp10_26 wI_ok (by decide +kernel) rfl (Nat.le_of_ble_eq_true rfl) (by decide) rfl ?_ hcap
  refine lw_seg C (pc' := 400) (L' := [some (vR (kO 23) 0), some (vR (kO 8) 0), some (vR (kO 22) 0), some (vR (kO 24) 0), some (vI i), none, none]) (st' := [vR (kO 22) 0, vI r]) [(oL 2 2, 1)] (by decide +kernel) rfl rfl ?_
  refine lw_callM C (k := 30) (pc2 := 403) (st := [vI r]) (CX10_office  v) e2 rfl (fun _ _ => rfl) miX10_office mvX10_office rfl lp10_30 wI_ok (by decide +kernel) rfl (Nat.le_of_ble_eq_true rfl) (by decide) rfl ?_ hcap
  refine lw_eq C (off := 1242) (tgt := 1645) (by decide +kernel) (by decide) ?_
  exact lw_widen (Nat.le_succ _) (Nat.le_add_right _ 6) (kk _ _ ov hI1)
def lw_S2 (Inv : ab_S → ab_S → Prop) : Prop := ∀ (u v : ab_S), Inv u v → ∃ (r : Int32) (u1 v1 : ab_S), fX9_year u = some (r, u1) ∧ fX10_year v = some (r, v1) ∧ Inv u1 v1
theorem lw_k2 {p : Program} {l : Launch} {e : Env} {s : State} {m : MethodId} {below : List Frame} {meth : Method} {c : Code} {b Lx : Nat} {xs : Nat → Int32} {E : ab_E} {rm : Nat → Nat} {kc ks : Nat} {u v : ab_S} {ov : Int64} (C : lw_cx p l s m meth c b Lx xs E rm) {Inv : ab_S → ab_S → Prop} (hs : lw_S2 Inv) {n : Nat} {i : Int32} (hi : i = nI n) (hn : n + 7 ≤ Lx) (hI : Inv u v) (hcap : kc ≤ 601024 ∧ ks ≤ 7293034) (kk : ∀ (u1 v1 : ab_S) (ov1 : Int64), Inv u1 v1 → LG p l e s m below meth c b E rm (kc + 1) (ks + 6) 1645 (lw_L i) [] u1 v1 ov1) : LG p l e s m below meth c b E rm kc ks 408 (lw_L i) [] u v ov := by
  refine lw_seg C (pc' := 409) (L' := [some (vR (kO 23) 0), some (vR (kO 8) 0), some (vR (kO 22) 0), some (vR (kO 24) 0), some (vI i), none, none]) (st' := [vR (kO 8) 0]) [(oL 2 1, 1)] (by decide +kernel) rfl rfl ?_
  obtain ⟨r, u1, v1, e1, e2, hI1⟩ := hs u v  hI
  refine lw_callC C (k := 31) (pc2 := 412) (st := []) (CX9_year  u) e1 miX9_year mvX9_year rfl lp10_31 wI_ok (by decide +kernel) rfl (Nat.le_of_ble_eq_true rfl) (by decide) rfl ?_ hcap
  refine lw_seg C (pc' := 413) (L' := [some (vR (kO 23) 0), some (vR (kO 8) 0), some (vR (kO 22) 0), some (vR (kO 24) 0), some (vI i), none, none]) (st' := [vR (kO 22) 0, vI r]) [(oL 2 2, 1)] (by decide +kernel) rfl rfl ?_
  refine lw_callM C (k := 34) (pc2 := 416) (st := [vI r]) (CX10_year  v) e2 rfl (fun _ _ => rfl) miX10_year mvX10_year rfl lp10_34 wI_ok (by decide +kernel) rfl (Nat.le_of_ble_eq_true rfl) (by decide) rfl ?_ hcap
  refine lw_eq C (off := 1229) (tgt := 1645) (by decide +kernel) (by decide) ?_
  exact lw_widen (Nat.le_succ _) (Nat.le_add_right _ 6) (kk _ _ ov hI1)
def lw_S3 (Inv : ab_S → ab_S → Prop) : Prop := ∀ (u v : ab_S) (a0 : Int32) (a1 : Int32), Inv u v → ∃ (r : Int32) (u1 v1 : ab_S), fX9_person a0 a1 u = some (r, u1) ∧ fX10_person a0 a1 v = some (r, v1) ∧ Inv u1 v1
theorem lw_k3 {p : Program} {l : Launch} {e : Env} {s : State} {m : MethodId} {below : List Frame} {meth : Method} {c : Code} {b Lx : Nat} {xs : Nat → Int32} {E : ab_E} {rm : Nat → Nat} {kc ks : Nat} {u v : ab_S} {ov : Int64} (C : lw_cx p l s m meth c b Lx xs E rm) {Inv : ab_S → ab_S → Prop} (hs : lw_S3 Inv) {n : Nat} {i : Int32} (hi : i = nI n) (hn : n + 7 ≤ Lx) (hI : Inv u v) (hcap : kc ≤ 601024 ∧ ks ≤ 7293034) (kk : ∀ (u1 v1 : ab_S) (ov1 : Int64), Inv u1 v1 → LG p l e s m below meth c b E rm (kc + 1) (ks + 6) 1645 (lw_L i) [] u1 v1 ov1) : LG p l e s m below meth c b E rm kc ks 421 (lw_L i) [] u v ov := by
  refine lw_seg C (pc' := 427) (L' := [some (vR (kO 23) 0), some (vR (kO 8) 0), some (vR (kO 22) 0), some (vR (kO 24) 0), some (vI i), none, none]) (st' := [vI (i + 1), vR (kO 23) 0, vR (kO 8) 0]) [(oL 2 1, 1), (oL 2 0, 1), (oL 0 4, 2), (oC 1, 1), (oP .iadd, 1)] (by decide +kernel) rfl rfl ?_
  refine lw_rd C (by decide +kernel) rfl (lw_ixa (j := 1) hi rfl (by omega) C.2.2.2.2.2.2) ?_
  refine lw_seg C (pc' := 433) (L' := [some (vR (kO 23) 0), some (vR (kO 8) 0), some (vR (kO 22) 0), some (vR (kO 24) 0), some (vI i), none, none]) (st' := [vI (i + 2), vR (kO 23) 0, vI (xs (nc (i + 1))), vR (kO 8) 0]) [(oL 2 0, 1), (oL 0 4, 2), (oC 2, 1), (oP .iadd, 1)] (by decide +kernel) rfl rfl ?_
  refine lw_rd C (by decide +kernel) rfl (lw_ixa (j := 2) hi rfl (by omega) C.2.2.2.2.2.2) ?_
  obtain ⟨r, u1, v1, e1, e2, hI1⟩ := hs u v (xs (nc (i + 1))) (xs (nc (i + 2))) hI
  refine lw_callC C (k := 35) (pc2 := 437) (st := []) (CX9_person (xs (nc (i + 1))) (xs (nc (i + 2))) u) e1 miX9_person mvX9_person rfl lp10_35 wI_ok (by decide +kernel) rfl (Nat.le_of_ble_eq_true rfl) (by decide) rfl ?_ hcap
  refine lw_seg C (pc' := 443) (L' := [some (vR (kO 23) 0), some (vR (kO 8) 0), some (vR (kO 22) 0), some (vR (kO 24) 0), some (vI i), none, none]) (st' := [vI (i + 1), vR (kO 23) 0, vR (kO 22) 0, vI r]) [(oL 2 2, 1), (oL 2 0, 1), (oL 0 4, 2), (oC 1, 1), (oP .iadd, 1)] (by decide +kernel) rfl rfl ?_
  refine lw_rd C (by decide +kernel) rfl (lw_ixa (j := 1) hi rfl (by omega) C.2.2.2.2.2.2) ?_
  refine lw_seg C (pc' := 449) (L' := [some (vR (kO 23) 0), some (vR (kO 8) 0), some (vR (kO 22) 0), some (vR (kO 24) 0), some (vI i), none, none]) (st' := [vI (i + 2), vR (kO 23) 0, vI (xs (nc (i + 1))), vR (kO 22) 0, vI r]) [(oL 2 0, 1), (oL 0 4, 2), (oC 2, 1), (oP .iadd, 1)] (by decide +kernel) rfl rfl ?_
  refine lw_rd C (by decide +kernel) rfl (lw_ixa (j := 2) hi rfl (by omega) C.2.2.2.2.2.2) ?_
  refine lw_callM C (k := 39) (pc2 := 453) (st := [vI r]) (CX10_person (xs (nc (i + 1))) (xs (nc (i + 2))) v) e2 rfl (fun _ _ => rfl) miX10_person mvX10_person rfl lp10_39 wI_ok (by decide +kernel) rfl (Nat.le_of_ble_eq_true rfl) (by decide) rfl ?_ hcap
  refine lw_eq C (off := 1192) (tgt := 1645) (by decide +kernel) (by decide) ?_
  exact lw_widen (Nat.le_succ _) (Nat.le_add_right _ 6) (kk _ _ ov hI1)
def lw_S4 (Inv : ab_S → ab_S → Prop) : Prop := ∀ (u v : ab_S) (a0 : Int32) (a1 : Int32), Inv u v → ∃ (r : Int32) (u1 v1 : ab_S), fX9_good a0 a1 u = some (r, u1) ∧ fX10_good a0 a1 v = some (r, v1) ∧ Inv u1 v1
theorem lw_k4 {p : Program} {l : Launch} {e : Env} {s : State} {m : MethodId} {below : List Frame} {meth : Method} {c : Code} {b Lx : Nat} {xs : Nat → Int32} {E : ab_E} {rm : Nat → Nat} {kc ks : Nat} {u v : ab_S} {ov : Int64} (C : lw_cx p l s m meth c b Lx xs E rm) {Inv : ab_S → ab_S → Prop} (hs : lw_S4 Inv) {n : Nat} {i : Int32} (hi : i = nI n) (hn : n + 7 ≤ Lx) (hI : Inv u v) (hcap : kc ≤ 601024 ∧ ks ≤ 7293034) (kk : ∀ (u1 v1 : ab_S) (ov1 : Int64), Inv u1 v1 → LG p l e s m below meth c b E rm (kc + 1) (ks + 6) 1645 (lw_L i) [] u1 v1 ov1) : LG p l e s m below meth c b E rm kc ks 458 (lw_L i) [] u v ov := by
  refine lw_seg C (pc' := 464) (L' := [some (vR (kO 23) 0), some (vR (kO 8) 0), some (vR (kO 22) 0), some (vR (kO 24) 0), some (vI i), none, none]) (st' := [vI (i + 1), vR (kO 23) 0, vR (kO 8) 0]) [(oL 2 1, 1), (oL 2 0, 1), (oL 0 4, 2), (oC 1, 1), (oP .iadd, 1)] (by decide +kernel) rfl rfl ?_
  refine lw_rd C (by decide +kernel) rfl (lw_ixa (j := 1) hi rfl (by omega) C.2.2.2.2.2.2) ?_
  refine lw_seg C (pc' := 470) (L' := [some (vR (kO 23) 0), some (vR (kO 8) 0), some (vR (kO 22) 0), some (vR (kO 24) 0), some (vI i), none, none]) (st' := [vI (i + 2), vR (kO 23) 0, vI (xs (nc (i + 1))), vR (kO 8) 0]) [(oL 2 0, 1), (oL 0 4, 2), (oC 2, 1), (oP .iadd, 1)] (by decide +kernel) rfl rfl ?_
  refine lw_rd C (by decide +kernel) rfl (lw_ixa (j := 2) hi rfl (by omega) C.2.2.2.2.2.2) ?_
  obtain ⟨r, u1, v1, e1, e2, hI1⟩ := hs u v (xs (nc (i + 1))) (xs (nc (i + 2))) hI
  refine lw_callC C (k := 40) (pc2 := 474) (st := []) (CX9_good (xs (nc (i + 1))) (xs (nc (i + 2))) u) e1 miX9_good mvX9_good rfl lp10_40 wI_ok (by decide +kernel) rfl (Nat.le_of_ble_eq_true rfl) (by decide) rfl ?_ hcap
  refine lw_seg C (pc' := 480) (L' := [some (vR (kO 23) 0), some (vR (kO 8) 0), some (vR (kO 22) 0), some (vR (kO 24) 0), some (vI i), none, none]) (st' := [vI (i + 1), vR (kO 23) 0, vR (kO 22) 0, vI r]) [(oL 2 2, 1), (oL 2 0, 1), (oL 0 4, 2), (oC 1, 1), (oP .iadd, 1)] (by decide +kernel) rfl rfl ?_
  refine lw_rd C (by decide +kernel) rfl (lw_ixa (j := 1) hi rfl (by omega) C.2.2.2.2.2.2) ?_
  refine lw_seg C (pc' := 486) (L' := [some (vR (kO 23) 0), some (vR (kO 8) 0), some (vR (kO 22) 0), some (vR (kO 24) 0), some (vI i), none, none]) (st' := [vI (i + 2), vR (kO 23) 0, vI (xs (nc (i + 1))), vR (kO 22) 0, vI r]) [(oL 2 0, 1), (oL 0 4, 2), (oC 2, 1), (oP .iadd, 1)] (by decide +kernel) rfl rfl ?_
  refine lw_rd C (by decide +kernel) rfl (lw_ixa (j := 2) hi rfl (by omega) C.2.2.2.2.2.2) ?_
  refine lw_callM C (k := 43) (pc2 := 490) (st := [vI r]) (CX10_good (xs (nc (i + 1))) (xs (nc (i + 2))) v) e2 rfl (fun _ _ => rfl) miX10_good mvX10_good rfl lp10_43 wI_ok (by decide +kernel) rfl (Nat.le_of_ble_eq_true rfl) (by decide) rfl ?_ hcap
  refine lw_eq C (off := 1155) (tgt := 1645) (by decide +kernel) (by decide) ?_
  exact lw_widen (Nat.le_succ _) (Nat.le_add_right _ 6) (kk _ _ ov hI1)
def lw_S5 (Inv : ab_S → ab_S → Prop) : Prop := ∀ (u v : ab_S) (a0 : Int32) (a1 : Int32), Inv u v → ∃ (r : Int32) (u1 v1 : ab_S), fX9_fit a0 a1 u = some (r, u1) ∧ fX10_fit a0 a1 v = some (r, v1) ∧ Inv u1 v1
theorem lw_k5 {p : Program} {l : Launch} {e : Env} {s : State} {m : MethodId} {below : List Frame} {meth : Method} {c : Code} {b Lx : Nat} {xs : Nat → Int32} {E : ab_E} {rm : Nat → Nat} {kc ks : Nat} {u v : ab_S} {ov : Int64} (C : lw_cx p l s m meth c b Lx xs E rm) {Inv : ab_S → ab_S → Prop} (hs : lw_S5 Inv) {n : Nat} {i : Int32} (hi : i = nI n) (hn : n + 7 ≤ Lx) (hI : Inv u v) (hcap : kc ≤ 601024 ∧ ks ≤ 7293034) (kk : ∀ (u1 v1 : ab_S) (ov1 : Int64), Inv u1 v1 → LG p l e s m below meth c b E rm (kc + 1) (ks + 6) 1645 (lw_L i) [] u1 v1 ov1) : LG p l e s m below meth c b E rm kc ks 495 (lw_L i) [] u v ov := by
  refine lw_seg C (pc' := 501) (L' := [some (vR (kO 23) 0), some (vR (kO 8) 0), some (vR (kO 22) 0), some (vR (kO 24) 0), some (vI i), none, none]) (st' := [vI (i + 1), vR (kO 23) 0, vR (kO 8) 0]) [(oL 2 1, 1), (oL 2 0, 1), (oL 0 4, 2), (oC 1, 1), (oP .iadd, 1)] (by decide +kernel) rfl rfl ?_
  refine lw_rd C (by decide +kernel) rfl (lw_ixa (j := 1) hi rfl (by omega) C.2.2.2.2.2.2) ?_
  refine lw_seg C (pc' := 507) (L' := [some (vR (kO 23) 0), some (vR (kO 8) 0), some (vR (kO 22) 0), some (vR (kO 24) 0), some (vI i), none, none]) (st' := [vI (i + 2), vR (kO 23) 0, vI (xs (nc (i + 1))), vR (kO 8) 0]) [(oL 2 0, 1), (oL 0 4, 2), (oC 2, 1), (oP .iadd, 1)] (by decide +kernel) rfl rfl ?_
  refine lw_rd C (by decide +kernel) rfl (lw_ixa (j := 2) hi rfl (by omega) C.2.2.2.2.2.2) ?_
  obtain ⟨r, u1, v1, e1, e2, hI1⟩ := hs u v (xs (nc (i + 1))) (xs (nc (i + 2))) hI
  refine lw_callC C (k := 44) (pc2 := 511) (st := []) (CX9_fit (xs (nc (i + 1))) (xs (nc (i + 2))) u) e1 miX9_fit mvX9_fit rfl lp10_44 wI_ok (by decide +kernel) rfl (Nat.le_of_ble_eq_true rfl) (by decide) rfl ?_ hcap
  refine lw_seg C (pc' := 517) (L' := [some (vR (kO 23) 0), some (vR (kO 8) 0), some (vR (kO 22) 0), some (vR (kO 24) 0), some (vI i), none, none]) (st' := [vI (i + 1), vR (kO 23) 0, vR (kO 22) 0, vI r]) [(oL 2 2, 1), (oL 2 0, 1), (oL 0 4, 2), (oC 1, 1), (oP .iadd, 1)] (by decide +kernel) rfl rfl ?_
  refine lw_rd C (by decide +kernel) rfl (lw_ixa (j := 1) hi rfl (by omega) C.2.2.2.2.2.2) ?_
  refine lw_seg C (pc' := 523) (L' := [some (vR (kO 23) 0), some (vR (kO 8) 0), some (vR (kO 22) 0), some (vR (kO 24) 0), some (vI i), none, none]) (st' := [vI (i + 2), vR (kO 23) 0, vI (xs (nc (i + 1))), vR (kO 22) 0, vI r]) [(oL 2 0, 1), (oL 0 4, 2), (oC 2, 1), (oP .iadd, 1)] (by decide +kernel) rfl rfl ?_
  refine lw_rd C (by decide +kernel) rfl (lw_ixa (j := 2) hi rfl (by omega) C.2.2.2.2.2.2) ?_
  refine lw_callM C (k := 47) (pc2 := 527) (st := [vI r]) (CX10_fit (xs (nc (i + 1))) (xs (nc (i + 2))) v) e2 rfl (fun _ _ => rfl) miX10_fit mvX10_fit rfl lp10_47 wI_ok (by decide +kernel) rfl (Nat.le_of_ble_eq_true rfl) (by decide) rfl ?_ hcap
  refine lw_eq C (off := 1118) (tgt := 1645) (by decide +kernel) (by decide) ?_
  exact lw_widen (Nat.le_succ _) (Nat.le_add_right _ 6) (kk _ _ ov hI1)
def lw_S6 (Inv : ab_S → ab_S → Prop) : Prop := ∀ (u v : ab_S) (a0 : Int32), Inv u v → ∃ (r : Int32) (u1 v1 : ab_S), fX9_buy a0 u = some (r, u1) ∧ fX10_buy a0 v = some (r, v1) ∧ Inv u1 v1
theorem lw_k6 {p : Program} {l : Launch} {e : Env} {s : State} {m : MethodId} {below : List Frame} {meth : Method} {c : Code} {b Lx : Nat} {xs : Nat → Int32} {E : ab_E} {rm : Nat → Nat} {kc ks : Nat} {u v : ab_S} {ov : Int64} (C : lw_cx p l s m meth c b Lx xs E rm) {Inv : ab_S → ab_S → Prop} (hs : lw_S6 Inv) {n : Nat} {i : Int32} (hi : i = nI n) (hn : n + 7 ≤ Lx) (hI : Inv u v) (hcap : kc ≤ 601024 ∧ ks ≤ 7293034) (kk : ∀ (u1 v1 : ab_S) (ov1 : Int64), Inv u1 v1 → LG p l e s m below meth c b E rm (kc + 1) (ks + 6) 1645 (lw_L i) [] u1 v1 ov1) : LG p l e s m below meth c b E rm kc ks 532 (lw_L i) [] u v ov := by
  refine lw_seg C (pc' := 538) (L' := [some (vR (kO 23) 0), some (vR (kO 8) 0), some (vR (kO 22) 0), some (vR (kO 24) 0), some (vI i), none, none]) (st' := [vI (i + 1), vR (kO 23) 0, vR (kO 8) 0]) [(oL 2 1, 1), (oL 2 0, 1), (oL 0 4, 2), (oC 1, 1), (oP .iadd, 1)] (by decide +kernel) rfl rfl ?_
  refine lw_rd C (by decide +kernel) rfl (lw_ixa (j := 1) hi rfl (by omega) C.2.2.2.2.2.2) ?_
  obtain ⟨r, u1, v1, e1, e2, hI1⟩ := hs u v (xs (nc (i + 1))) hI
  refine lw_callC C (k := 48) (pc2 := 542) (st := []) (CX9_buy (xs (nc (i + 1))) u) e1 miX9_buy mvX9_buy rfl lp10_48 wI_ok (by decide +kernel) rfl (Nat.le_of_ble_eq_true rfl) (by decide) rfl ?_ hcap
  refine lw_seg C (pc' := 548) (L' := [some (vR (kO 23) 0), some (vR (kO 8) 0), some (vR (kO 22) 0), some (vR (kO 24) 0), some (vI i), none, none]) (st' := [vI (i + 1), vR (kO 23) 0, vR (kO 22) 0, vI r]) [(oL 2 2, 1), (oL 2 0, 1), (oL 0 4, 2), (oC 1, 1), (oP .iadd, 1)] (by decide +kernel) rfl rfl ?_
  refine lw_rd C (by decide +kernel) rfl (lw_ixa (j := 1) hi rfl (by omega) C.2.2.2.2.2.2) ?_
  refine lw_callM C (k := 52) (pc2 := 552) (st := [vI r]) (CX10_buy (xs (nc (i + 1))) v) e2 rfl (fun _ _ => rfl) miX10_buy mvX10_buy rfl lp10_52 wI_ok (by decide +kernel) rfl (Nat.le_of_ble_eq_true rfl) (by decide) rfl ?_ hcap
  refine lw_eq C (off := 1093) (tgt := 1645) (by decide +kernel) (by decide) ?_
  exact lw_widen (Nat.le_succ _) (Nat.le_add_right _ 6) (kk _ _ ov hI1)
def lw_S7 (Inv : ab_S → ab_S → Prop) : Prop := ∀ (u v : ab_S) (a0 : Int32) (a1 : Int32), Inv u v → ∃ (r : Int32) (u1 v1 : ab_S), fX9_swap a0 a1 u = some (r, u1) ∧ fX10_swap a0 a1 v = some (r, v1) ∧ Inv u1 v1
theorem lw_k7 {p : Program} {l : Launch} {e : Env} {s : State} {m : MethodId} {below : List Frame} {meth : Method} {c : Code} {b Lx : Nat} {xs : Nat → Int32} {E : ab_E} {rm : Nat → Nat} {kc ks : Nat} {u v : ab_S} {ov : Int64} (C : lw_cx p l s m meth c b Lx xs E rm) {Inv : ab_S → ab_S → Prop} (hs : lw_S7 Inv) {n : Nat} {i : Int32} (hi : i = nI n) (hn : n + 7 ≤ Lx) (hI : Inv u v) (hcap : kc ≤ 601024 ∧ ks ≤ 7293034) (kk : ∀ (u1 v1 : ab_S) (ov1 : Int64), Inv u1 v1 → LG p l e s m below meth c b E rm (kc + 1) (ks + 6) 1645 (lw_L i) [] u1 v1 ov1) : LG p l e s m below meth c b E rm kc ks 557 (lw_L i) [] u v ov := by
  refine lw_seg C (pc' := 563) (L' := [some (vR (kO 23) 0), some (vR (kO 8) 0), some (vR (kO 22) 0), some (vR (kO 24) 0), some (vI i), none, none]) (st' := [vI (i + 1), vR (kO 23) 0, vR (kO 8) 0]) [(oL 2 1, 1), (oL 2 0, 1), (oL 0 4, 2), (oC 1, 1), (oP .iadd, 1)] (by decide +kernel) rfl rfl ?_
  refine lw_rd C (by decide +kernel) rfl (lw_ixa (j := 1) hi rfl (by omega) C.2.2.2.2.2.2) ?_
  refine lw_seg C (pc' := 569) (L' := [some (vR (kO 23) 0), some (vR (kO 8) 0), some (vR (kO 22) 0), some (vR (kO 24) 0), some (vI i), none, none]) (st' := [vI (i + 2), vR (kO 23) 0, vI (xs (nc (i + 1))), vR (kO 8) 0]) [(oL 2 0, 1), (oL 0 4, 2), (oC 2, 1), (oP .iadd, 1)] (by decide +kernel) rfl rfl ?_
  refine lw_rd C (by decide +kernel) rfl (lw_ixa (j := 2) hi rfl (by omega) C.2.2.2.2.2.2) ?_
  obtain ⟨r, u1, v1, e1, e2, hI1⟩ := hs u v (xs (nc (i + 1))) (xs (nc (i + 2))) hI
  refine lw_callC C (k := 53) (pc2 := 573) (st := []) (CX9_swap (xs (nc (i + 1))) (xs (nc (i + 2))) u) e1 miX9_swap mvX9_swap rfl lp10_53 wI_ok (by decide +kernel) rfl (Nat.le_of_ble_eq_true rfl) (by decide) rfl ?_ hcap
  refine lw_seg C (pc' := 579) (L' := [some (vR (kO 23) 0), some (vR (kO 8) 0), some (vR (kO 22) 0), some (vR (kO 24) 0), some (vI i), none, none]) (st' := [vI (i + 1), vR (kO 23) 0, vR (kO 22) 0, vI r]) [(oL 2 2, 1), (oL 2 0, 1), (oL 0 4, 2), (oC 1, 1), (oP .iadd, 1)] (by decide +kernel) rfl rfl ?_
  refine lw_rd C (by decide +kernel) rfl (lw_ixa (j := 1) hi rfl (by omega) C.2.2.2.2.2.2) ?_
  refine lw_seg C (pc' := 585) (L' := [some (vR (kO 23) 0), some (vR (kO 8) 0), some (vR (kO 22) 0), some (vR (kO 24) 0), some (vI i), none, none]) (st' := [vI (i + 2), vR (kO 23) 0, vI (xs (nc (i + 1))), vR (kO 22) 0, vI r]) [(oL 2 0, 1), (oL 0 4, 2), (oC 2, 1), (oP .iadd, 1)] (by decide +kernel) rfl rfl ?_
  refine lw_rd C (by decide +kernel) rfl (lw_ixa (j := 2) hi rfl (by omega) C.2.2.2.2.2.2) ?_
  refine lw_callM C (k := 57) (pc2 := 589) (st := [vI r]) (CX10_swap (xs (nc (i + 1))) (xs (nc (i + 2))) v) e2 rfl (fun _ _ => rfl) miX10_swap mvX10_swap rfl lp10_57 wI_ok (by decide +kernel) rfl (Nat.le_of_ble_eq_true rfl) (by decide) rfl ?_ hcap
  refine lw_eq C (off := 1056) (tgt := 1645) (by decide +kernel) (by decide) ?_
  exact lw_widen (Nat.le_succ _) (Nat.le_add_right _ 6) (kk _ _ ov hI1)
def lw_S8 (Inv : ab_S → ab_S → Prop) : Prop := ∀ (u v : ab_S) (a0 : Int32), Inv u v → ∃ (r : Int32) (u1 v1 : ab_S), fX9_bring a0 u = some (r, u1) ∧ fX10_bring a0 v = some (r, v1) ∧ Inv u1 v1
theorem lw_k8 {p : Program} {l : Launch} {e : Env} {s : State} {m : MethodId} {below : List Frame} {meth : Method} {c : Code} {b Lx : Nat} {xs : Nat → Int32} {E : ab_E} {rm : Nat → Nat} {kc ks : Nat} {u v : ab_S} {ov : Int64} (C : lw_cx p l s m meth c b Lx xs E rm) {Inv : ab_S → ab_S → Prop} (hs : lw_S8 Inv) {n : Nat} {i : Int32} (hi : i = nI n) (hn : n + 7 ≤ Lx) (hI : Inv u v) (hcap : kc ≤ 601024 ∧ ks ≤ 7293034) (kk : ∀ (u1 v1 : ab_S) (ov1 : Int64), Inv u1 v1 → LG p l e s m below meth c b E rm (kc + 1) (ks + 6) 1645 (lw_L i) [] u1 v1 ov1) : LG p l e s m below meth c b E rm kc ks 594 (lw_L i) [] u v ov := by
  refine lw_seg C (pc' := 600) (L' := [some (vR (kO 23) 0), some (vR (kO 8) 0), some (vR (kO 22) 0), some (vR (kO 24) 0), some (vI i), none, none]) (st' := [vI (i + 1), vR (kO 23) 0, vR (kO 8) 0]) [(oL 2 1, 1), (oL 2 0, 1), (oL 0 4, 2), (oC 1, 1), (oP .iadd, 1)] (by decide +kernel) rfl rfl ?_
  refine lw_rd C (by decide +kernel) rfl (lw_ixa (j := 1) hi rfl (by omega) C.2.2.2.2.2.2) ?_
  obtain ⟨r, u1, v1, e1, e2, hI1⟩ := hs u v (xs (nc (i + 1))) hI
  refine lw_callC C (k := 58) (pc2 := 604) (st := []) (CX9_bring (xs (nc (i + 1))) u) e1 miX9_bring mvX9_bring rfl lp10_58 wI_ok (by decide +kernel) rfl (Nat.le_of_ble_eq_true rfl) (by decide) rfl ?_ hcap
  refine lw_seg C (pc' := 610) (L' := [some (vR (kO 23) 0), some (vR (kO 8) 0), some (vR (kO 22) 0), some (vR (kO 24) 0), some (vI i), none, none]) (st' := [vI (i + 1), vR (kO 23) 0, vR (kO 22) 0, vI r]) [(oL 2 2, 1), (oL 2 0, 1), (oL 0 4, 2), (oC 1, 1), (oP .iadd, 1)] (by decide +kernel) rfl rfl ?_
  refine lw_rd C (by decide +kernel) rfl (lw_ixa (j := 1) hi rfl (by omega) C.2.2.2.2.2.2) ?_
  refine lw_callM C (k := 61) (pc2 := 614) (st := [vI r]) (CX10_bring (xs (nc (i + 1))) v) e2 rfl (fun _ _ => rfl) miX10_bring mvX10_bring rfl lp10_61 wI_ok (by decide +kernel) rfl (Nat.le_of_ble_eq_true rfl) (by decide) rfl ?_ hcap
  refine lw_eq C (off := 1031) (tgt := 1645) (by decide +kernel) (by decide) ?_
  exact lw_widen (Nat.le_succ _) (Nat.le_add_right _ 6) (kk _ _ ov hI1)
def lw_S9 (Inv : ab_S → ab_S → Prop) : Prop := ∀ (u v : ab_S), Inv u v → ∃ (r : Int32) (u1 v1 : ab_S), fX9_quarter u = some (r, u1) ∧ fX10_quarter v = some (r, v1) ∧ Inv u1 v1
theorem lw_k9 {p : Program} {l : Launch} {e : Env} {s : State} {m : MethodId} {below : List Frame} {meth : Method} {c : Code} {b Lx : Nat} {xs : Nat → Int32} {E : ab_E} {rm : Nat → Nat} {kc ks : Nat} {u v : ab_S} {ov : Int64} (C : lw_cx p l s m meth c b Lx xs E rm) {Inv : ab_S → ab_S → Prop} (hs : lw_S9 Inv) {n : Nat} {i : Int32} (hi : i = nI n) (hn : n + 7 ≤ Lx) (hI : Inv u v) (hcap : kc ≤ 601024 ∧ ks ≤ 7293034) (kk : ∀ (u1 v1 : ab_S) (ov1 : Int64), Inv u1 v1 → LG p l e s m below meth c b E rm (kc + 1) (ks + 6) 1645 (lw_L i) [] u1 v1 ov1) : LG p l e s m below meth c b E rm kc ks 619 (lw_L i) [] u v ov := by
  refine lw_seg C (pc' := 620) (L' := [some (vR (kO 23) 0), some (vR (kO 8) 0), some (vR (kO 22) 0), some (vR (kO 24) 0), some (vI i), none, none]) (st' := [vR (kO 8) 0]) [(oL 2 1, 1)] (by decide +kernel) rfl rfl ?_
  obtain ⟨r, u1, v1, e1, e2, hI1⟩ := hs u v  hI
  refine lw_callC C (k := 62) (pc2 := 623) (st := []) (CX9_quarter  u) e1 miX9_quarter mvX9_quarter rfl lp10_62 wI_ok (by decide +kernel) rfl (Nat.le_of_ble_eq_true rfl) (by decide) rfl ?_ hcap
  refine lw_seg C (pc' := 624) (L' := [some (vR (kO 23) 0), some (vR (kO 8) 0), some (vR (kO 22) 0), some (vR (kO 24) 0), some (vI i), none, none]) (st' := [vR (kO 22) 0, vI r]) [(oL 2 2, 1)] (by decide +kernel) rfl rfl ?_
  refine lw_callM C (k := 65) (pc2 := 627) (st := [vI r]) (CX10_quarter  v) e2 rfl (fun _ _ => rfl) miX10_quarter mvX10_quarter rfl lp10_65 wI_ok (by decide +kernel) rfl (Nat.le_of_ble_eq_true rfl) (by decide) rfl ?_ hcap
  refine lw_eq C (off := 1018) (tgt := 1645) (by decide +kernel) (by decide) ?_
  exact lw_widen (Nat.le_succ _) (Nat.le_add_right _ 6) (kk _ _ ov hI1)
def lw_S10 (Inv : ab_S → ab_S → Prop) : Prop := ∀ (u v : ab_S), Inv u v → ∃ (r : Int32) (u1 v1 : ab_S), fX9_undo u = some (r, u1) ∧ fX10_undo v = some (r, v1) ∧ Inv u1 v1
theorem lw_k10 {p : Program} {l : Launch} {e : Env} {s : State} {m : MethodId} {below : List Frame} {meth : Method} {c : Code} {b Lx : Nat} {xs : Nat → Int32} {E : ab_E} {rm : Nat → Nat} {kc ks : Nat} {u v : ab_S} {ov : Int64} (C : lw_cx p l s m meth c b Lx xs E rm) {Inv : ab_S → ab_S → Prop} (hs : lw_S10 Inv) {n : Nat} {i : Int32} (hi : i = nI n) (hn : n + 7 ≤ Lx) (hI : Inv u v) (hcap : kc ≤ 601024 ∧ ks ≤ 7293034) (kk : ∀ (u1 v1 : ab_S) (ov1 : Int64), Inv u1 v1 → LG p l e s m below meth c b E rm (kc + 1) (ks + 6) 1645 (lw_L i) [] u1 v1 ov1) : LG p l e s m below meth c b E rm kc ks 632 (lw_L i) [] u v ov := by
  refine lw_seg C (pc' := 633) (L' := [some (vR (kO 23) 0), some (vR (kO 8) 0), some (vR (kO 22) 0), some (vR (kO 24) 0), some (vI i), none, none]) (st' := [vR (kO 8) 0]) [(oL 2 1, 1)] (by decide +kernel) rfl rfl ?_
  obtain ⟨r, u1, v1, e1, e2, hI1⟩ := hs u v  hI
  refine lw_callC C (k := 66) (pc2 := 636) (st := []) (CX9_undo  u) e1 miX9_undo mvX9_undo rfl lp10_66 wI_ok (by decide +kernel) rfl (Nat.le_of_ble_eq_true rfl) (by decide) rfl ?_ hcap
  refine lw_seg C (pc' := 637) (L' := [some (vR (kO 23) 0), some (vR (kO 8) 0), some (vR (kO 22) 0), some (vR (kO 24) 0), some (vI i), none, none]) (st' := [vR (kO 22) 0, vI r]) [(oL 2 2, 1)] (by decide +kernel) rfl rfl ?_
  refine lw_callM C (k := 70) (pc2 := 640) (st := [vI r]) (CX10_undo  v) e2 rfl (fun _ _ => rfl) miX10_undo mvX10_undo rfl lp10_70 wI_ok (by decide +kernel) rfl (Nat.le_of_ble_eq_true rfl) (by decide) rfl ?_ hcap
  refine lw_eq C (off := 1005) (tgt := 1645) (by decide +kernel) (by decide) ?_
  exact lw_widen (Nat.le_succ _) (Nat.le_add_right _ 6) (kk _ _ ov hI1)
def lw_S11 (Inv : ab_S → ab_S → Prop) : Prop := ∀ (u v : ab_S) (a0 : Int32), Inv u v → ∃ (r : Int32) (u1 v1 : ab_S), fX9_judged a0 u = some (r, u1) ∧ fX10_judged a0 v = some (r, v1) ∧ Inv u1 v1
theorem lw_k11 {p : Program} {l : Launch} {e : Env} {s : State} {m : MethodId} {below : List Frame} {meth : Method} {c : Code} {b Lx : Nat} {xs : Nat → Int32} {E : ab_E} {rm : Nat → Nat} {kc ks : Nat} {u v : ab_S} {ov : Int64} (C : lw_cx p l s m meth c b Lx xs E rm) {Inv : ab_S → ab_S → Prop} (hs : lw_S11 Inv) {n : Nat} {i : Int32} (hi : i = nI n) (hn : n + 7 ≤ Lx) (hI : Inv u v) (hcap : kc ≤ 601024 ∧ ks ≤ 7293034) (kk : ∀ (u1 v1 : ab_S) (ov1 : Int64), Inv u1 v1 → LG p l e s m below meth c b E rm (kc + 1) (ks + 6) 1645 (lw_L i) [] u1 v1 ov1) : LG p l e s m below meth c b E rm kc ks 645 (lw_L i) [] u v ov := by
  refine lw_seg C (pc' := 651) (L' := [some (vR (kO 23) 0), some (vR (kO 8) 0), some (vR (kO 22) 0), some (vR (kO 24) 0), some (vI i), none, none]) (st' := [vI (i + 1), vR (kO 23) 0, vR (kO 8) 0]) [(oL 2 1, 1), (oL 2 0, 1), (oL 0 4, 2), (oC 1, 1), (oP .iadd, 1)] (by decide +kernel) rfl rfl ?_
  refine lw_rd C (by decide +kernel) rfl (lw_ixa (j := 1) hi rfl (by omega) C.2.2.2.2.2.2) ?_
  obtain ⟨r, u1, v1, e1, e2, hI1⟩ := hs u v (xs (nc (i + 1))) hI
  refine lw_callC C (k := 71) (pc2 := 655) (st := []) (CX9_judged (xs (nc (i + 1))) u) e1 miX9_judged mvX9_judged rfl lp10_71 wI_ok (by decide +kernel) rfl (Nat.le_of_ble_eq_true rfl) (by decide) rfl ?_ hcap
  refine lw_seg C (pc' := 661) (L' := [some (vR (kO 23) 0), some (vR (kO 8) 0), some (vR (kO 22) 0), some (vR (kO 24) 0), some (vI i), none, none]) (st' := [vI (i + 1), vR (kO 23) 0, vR (kO 22) 0, vI r]) [(oL 2 2, 1), (oL 2 0, 1), (oL 0 4, 2), (oC 1, 1), (oP .iadd, 1)] (by decide +kernel) rfl rfl ?_
  refine lw_rd C (by decide +kernel) rfl (lw_ixa (j := 1) hi rfl (by omega) C.2.2.2.2.2.2) ?_
  refine lw_callM C (k := 74) (pc2 := 665) (st := [vI r]) (CX10_judged (xs (nc (i + 1))) v) e2 rfl (fun _ _ => rfl) miX10_judged mvX10_judged rfl lp10_74 wI_ok (by decide +kernel) rfl (Nat.le_of_ble_eq_true rfl) (by decide) rfl ?_ hcap
  refine lw_eq C (off := 980) (tgt := 1645) (by decide +kernel) (by decide) ?_
  exact lw_widen (Nat.le_succ _) (Nat.le_add_right _ 6) (kk _ _ ov hI1)
def lw_S12 (Inv : ab_S → ab_S → Prop) : Prop := ∀ (u v : ab_S) (a0 : Int32), Inv u v → ∃ (r : Int32) (u1 v1 : ab_S), fX9_winner a0 u = some (r, u1) ∧ fX10_winner a0 v = some (r, v1) ∧ Inv u1 v1
theorem lw_k12 {p : Program} {l : Launch} {e : Env} {s : State} {m : MethodId} {below : List Frame} {meth : Method} {c : Code} {b Lx : Nat} {xs : Nat → Int32} {E : ab_E} {rm : Nat → Nat} {kc ks : Nat} {u v : ab_S} {ov : Int64} (C : lw_cx p l s m meth c b Lx xs E rm) {Inv : ab_S → ab_S → Prop} (hs : lw_S12 Inv) {n : Nat} {i : Int32} (hi : i = nI n) (hn : n + 7 ≤ Lx) (hI : Inv u v) (hcap : kc ≤ 601024 ∧ ks ≤ 7293034) (kk : ∀ (u1 v1 : ab_S) (ov1 : Int64), Inv u1 v1 → LG p l e s m below meth c b E rm (kc + 1) (ks + 6) 1645 (lw_L i) [] u1 v1 ov1) : LG p l e s m below meth c b E rm kc ks 670 (lw_L i) [] u v ov := by
  refine lw_seg C (pc' := 676) (L' := [some (vR (kO 23) 0), some (vR (kO 8) 0), some (vR (kO 22) 0), some (vR (kO 24) 0), some (vI i), none, none]) (st' := [vI (i + 1), vR (kO 23) 0, vR (kO 8) 0]) [(oL 2 1, 1), (oL 2 0, 1), (oL 0 4, 2), (oC 1, 1), (oP .iadd, 1)] (by decide +kernel) rfl rfl ?_
  refine lw_rd C (by decide +kernel) rfl (lw_ixa (j := 1) hi rfl (by omega) C.2.2.2.2.2.2) ?_
  obtain ⟨r, u1, v1, e1, e2, hI1⟩ := hs u v (xs (nc (i + 1))) hI
  refine lw_callC C (k := 75) (pc2 := 680) (st := []) (CX9_winner (xs (nc (i + 1))) u) e1 miX9_winner mvX9_winner rfl lp10_75 wI_ok (by decide +kernel) rfl (Nat.le_of_ble_eq_true rfl) (by decide) rfl ?_ hcap
  refine lw_seg C (pc' := 686) (L' := [some (vR (kO 23) 0), some (vR (kO 8) 0), some (vR (kO 22) 0), some (vR (kO 24) 0), some (vI i), none, none]) (st' := [vI (i + 1), vR (kO 23) 0, vR (kO 22) 0, vI r]) [(oL 2 2, 1), (oL 2 0, 1), (oL 0 4, 2), (oC 1, 1), (oP .iadd, 1)] (by decide +kernel) rfl rfl ?_
  refine lw_rd C (by decide +kernel) rfl (lw_ixa (j := 1) hi rfl (by omega) C.2.2.2.2.2.2) ?_
  refine lw_callM C (k := 78) (pc2 := 690) (st := [vI r]) (CX10_winner (xs (nc (i + 1))) v) e2 rfl (fun _ _ => rfl) miX10_winner mvX10_winner rfl lp10_78 wI_ok (by decide +kernel) rfl (Nat.le_of_ble_eq_true rfl) (by decide) rfl ?_ hcap
  refine lw_eq C (off := 955) (tgt := 1645) (by decide +kernel) (by decide) ?_
  exact lw_widen (Nat.le_succ _) (Nat.le_add_right _ 6) (kk _ _ ov hI1)
def lw_S13 (Inv : ab_S → ab_S → Prop) : Prop := ∀ (u v : ab_S) (a0 : Int32) (a1 : Int32), Inv u v → ∃ (r : Int32) (u1 v1 : ab_S), fX9_where a0 a1 u = some (r, u1) ∧ fX10_where a0 a1 v = some (r, v1) ∧ Inv u1 v1
theorem lw_k13 {p : Program} {l : Launch} {e : Env} {s : State} {m : MethodId} {below : List Frame} {meth : Method} {c : Code} {b Lx : Nat} {xs : Nat → Int32} {E : ab_E} {rm : Nat → Nat} {kc ks : Nat} {u v : ab_S} {ov : Int64} (C : lw_cx p l s m meth c b Lx xs E rm) {Inv : ab_S → ab_S → Prop} (hs : lw_S13 Inv) {n : Nat} {i : Int32} (hi : i = nI n) (hn : n + 7 ≤ Lx) (hI : Inv u v) (hcap : kc ≤ 601024 ∧ ks ≤ 7293034) (kk : ∀ (u1 v1 : ab_S) (ov1 : Int64), Inv u1 v1 → LG p l e s m below meth c b E rm (kc + 1) (ks + 6) 1645 (lw_L i) [] u1 v1 ov1) : LG p l e s m below meth c b E rm kc ks 695 (lw_L i) [] u v ov := by
  refine lw_seg C (pc' := 701) (L' := [some (vR (kO 23) 0), some (vR (kO 8) 0), some (vR (kO 22) 0), some (vR (kO 24) 0), some (vI i), none, none]) (st' := [vI (i + 1), vR (kO 23) 0, vR (kO 8) 0]) [(oL 2 1, 1), (oL 2 0, 1), (oL 0 4, 2), (oC 1, 1), (oP .iadd, 1)] (by decide +kernel) rfl rfl ?_
  refine lw_rd C (by decide +kernel) rfl (lw_ixa (j := 1) hi rfl (by omega) C.2.2.2.2.2.2) ?_
  refine lw_seg C (pc' := 707) (L' := [some (vR (kO 23) 0), some (vR (kO 8) 0), some (vR (kO 22) 0), some (vR (kO 24) 0), some (vI i), none, none]) (st' := [vI (i + 2), vR (kO 23) 0, vI (xs (nc (i + 1))), vR (kO 8) 0]) [(oL 2 0, 1), (oL 0 4, 2), (oC 2, 1), (oP .iadd, 1)] (by decide +kernel) rfl rfl ?_
  refine lw_rd C (by decide +kernel) rfl (lw_ixa (j := 2) hi rfl (by omega) C.2.2.2.2.2.2) ?_
  obtain ⟨r, u1, v1, e1, e2, hI1⟩ := hs u v (xs (nc (i + 1))) (xs (nc (i + 2))) hI
  refine lw_callC C (k := 79) (pc2 := 711) (st := []) (CX9_where (xs (nc (i + 1))) (xs (nc (i + 2))) u) e1 miX9_where mvX9_where rfl lp10_79 wI_ok (by decide +kernel) rfl (Nat.le_of_ble_eq_true rfl) (by decide) rfl ?_ hcap
  refine lw_seg C (pc' := 717) (L' := [some (vR (kO 23) 0), some (vR (kO 8) 0), some (vR (kO 22) 0), some (vR (kO 24) 0), some (vI i), none, none]) (st' := [vI (i + 1), vR (kO 23) 0, vR (kO 22) 0, vI r]) [(oL 2 2, 1), (oL 2 0, 1), (oL 0 4, 2), (oC 1, 1), (oP .iadd, 1)] (by decide +kernel) rfl rfl ?_
  refine lw_rd C (by decide +kernel) rfl (lw_ixa (j := 1) hi rfl (by omega) C.2.2.2.2.2.2) ?_
  refine lw_seg C (pc' := 723) (L' := [some (vR (kO 23) 0), some (vR (kO 8) 0), some (vR (kO 22) 0), some (vR (kO 24) 0), some (vI i), none, none]) (st' := [vI (i + 2), vR (kO 23) 0, vI (xs (nc (i + 1))), vR (kO 22) 0, vI r]) [(oL 2 0, 1), (oL 0 4, 2), (oC 2, 1), (oP .iadd, 1)] (by decide +kernel) rfl rfl ?_
  refine lw_rd C (by decide +kernel) rfl (lw_ixa (j := 2) hi rfl (by omega) C.2.2.2.2.2.2) ?_
  refine lw_callM C (k := 82) (pc2 := 727) (st := [vI r]) (CX10_where (xs (nc (i + 1))) (xs (nc (i + 2))) v) e2 rfl (fun _ _ => rfl) miX10_where mvX10_where rfl lp10_82 wI_ok (by decide +kernel) rfl (Nat.le_of_ble_eq_true rfl) (by decide) rfl ?_ hcap
  refine lw_eq C (off := 918) (tgt := 1645) (by decide +kernel) (by decide) ?_
  exact lw_widen (Nat.le_succ _) (Nat.le_add_right _ 6) (kk _ _ ov hI1)
def lw_S14 (Inv : ab_S → ab_S → Prop) : Prop := ∀ (u v : ab_S) (a0 : Int32) (a1 : Int32), Inv u v → ∃ (r : Int32) (u1 v1 : ab_S), fX9_has a0 a1 u = some (r, u1) ∧ fX10_has a0 a1 v = some (r, v1) ∧ Inv u1 v1
theorem lw_k14 {p : Program} {l : Launch} {e : Env} {s : State} {m : MethodId} {below : List Frame} {meth : Method} {c : Code} {b Lx : Nat} {xs : Nat → Int32} {E : ab_E} {rm : Nat → Nat} {kc ks : Nat} {u v : ab_S} {ov : Int64} (C : lw_cx p l s m meth c b Lx xs E rm) {Inv : ab_S → ab_S → Prop} (hs : lw_S14 Inv) {n : Nat} {i : Int32} (hi : i = nI n) (hn : n + 7 ≤ Lx) (hI : Inv u v) (hcap : kc ≤ 601024 ∧ ks ≤ 7293034) (kk : ∀ (u1 v1 : ab_S) (ov1 : Int64), Inv u1 v1 → LG p l e s m below meth c b E rm (kc + 1) (ks + 6) 1645 (lw_L i) [] u1 v1 ov1) : LG p l e s m below meth c b E rm kc ks 732 (lw_L i) [] u v ov := by
  refine lw_seg C (pc' := 738) (L' := [some (vR (kO 23) 0), some (vR (kO 8) 0), some (vR (kO 22) 0), some (vR (kO 24) 0), some (vI i), none, none]) (st' := [vI (i + 1), vR (kO 23) 0, vR (kO 8) 0]) [(oL 2 1, 1), (oL 2 0, 1), (oL 0 4, 2), (oC 1, 1), (oP .iadd, 1)] (by decide +kernel) rfl rfl ?_
  refine lw_rd C (by decide +kernel) rfl (lw_ixa (j := 1) hi rfl (by omega) C.2.2.2.2.2.2) ?_
  refine lw_seg C (pc' := 744) (L' := [some (vR (kO 23) 0), some (vR (kO 8) 0), some (vR (kO 22) 0), some (vR (kO 24) 0), some (vI i), none, none]) (st' := [vI (i + 2), vR (kO 23) 0, vI (xs (nc (i + 1))), vR (kO 8) 0]) [(oL 2 0, 1), (oL 0 4, 2), (oC 2, 1), (oP .iadd, 1)] (by decide +kernel) rfl rfl ?_
  refine lw_rd C (by decide +kernel) rfl (lw_ixa (j := 2) hi rfl (by omega) C.2.2.2.2.2.2) ?_
  obtain ⟨r, u1, v1, e1, e2, hI1⟩ := hs u v (xs (nc (i + 1))) (xs (nc (i + 2))) hI
  refine lw_callC C (k := 83) (pc2 := 748) (st := []) (CX9_has (xs (nc (i + 1))) (xs (nc (i + 2))) u) e1 miX9_has mvX9_has rfl lp10_83 wI_ok (by decide +kernel) rfl (Nat.le_of_ble_eq_true rfl) (by decide) rfl ?_ hcap
  refine lw_seg C (pc' := 754) (L' := [some (vR (kO 23) 0), some (vR (kO 8) 0), some (vR (kO 22) 0), some (vR (kO 24) 0), some (vI i), none, none]) (st' := [vI (i + 1), vR (kO 23) 0, vR (kO 22) 0, vI r]) [(oL 2 2, 1), (oL 2 0, 1), (oL 0 4, 2), (oC 1, 1), (oP .iadd, 1)] (by decide +kernel) rfl rfl ?_
  refine lw_rd C (by decide +kernel) rfl (lw_ixa (j := 1) hi rfl (by omega) C.2.2.2.2.2.2) ?_
  refine lw_seg C (pc' := 760) (L' := [some (vR (kO 23) 0), some (vR (kO 8) 0), some (vR (kO 22) 0), some (vR (kO 24) 0), some (vI i), none, none]) (st' := [vI (i + 2), vR (kO 23) 0, vI (xs (nc (i + 1))), vR (kO 22) 0, vI r]) [(oL 2 0, 1), (oL 0 4, 2), (oC 2, 1), (oP .iadd, 1)] (by decide +kernel) rfl rfl ?_
  refine lw_rd C (by decide +kernel) rfl (lw_ixa (j := 2) hi rfl (by omega) C.2.2.2.2.2.2) ?_
  refine lw_callM C (k := 86) (pc2 := 764) (st := [vI r]) (CX10_has (xs (nc (i + 1))) (xs (nc (i + 2))) v) e2 rfl (fun _ _ => rfl) miX10_has mvX10_has rfl lp10_86 wI_ok (by decide +kernel) rfl (Nat.le_of_ble_eq_true rfl) (by decide) rfl ?_ hcap
  refine lw_eq C (off := 881) (tgt := 1645) (by decide +kernel) (by decide) ?_
  exact lw_widen (Nat.le_succ _) (Nat.le_add_right _ 6) (kk _ _ ov hI1)
def lw_S15 (Inv : ab_S → ab_S → Prop) : Prop := ∀ (u v : ab_S), Inv u v → ∃ (r : Int32) (u1 v1 : ab_S), fX9_home u = some (r, u1) ∧ fX10_home v = some (r, v1) ∧ Inv u1 v1
theorem lw_k15 {p : Program} {l : Launch} {e : Env} {s : State} {m : MethodId} {below : List Frame} {meth : Method} {c : Code} {b Lx : Nat} {xs : Nat → Int32} {E : ab_E} {rm : Nat → Nat} {kc ks : Nat} {u v : ab_S} {ov : Int64} (C : lw_cx p l s m meth c b Lx xs E rm) {Inv : ab_S → ab_S → Prop} (hs : lw_S15 Inv) {n : Nat} {i : Int32} (hi : i = nI n) (hn : n + 7 ≤ Lx) (hI : Inv u v) (hcap : kc ≤ 601024 ∧ ks ≤ 7293034) (kk : ∀ (u1 v1 : ab_S) (ov1 : Int64), Inv u1 v1 → LG p l e s m below meth c b E rm (kc + 1) (ks + 6) 1645 (lw_L i) [] u1 v1 ov1) : LG p l e s m below meth c b E rm kc ks 769 (lw_L i) [] u v ov := by
  refine lw_seg C (pc' := 770) (L' := [some (vR (kO 23) 0), some (vR (kO 8) 0), some (vR (kO 22) 0), some (vR (kO 24) 0), some (vI i), none, none]) (st' := [vR (kO 8) 0]) [(oL 2 1, 1)] (by decide +kernel) rfl rfl ?_
  obtain ⟨r, u1, v1, e1, e2, hI1⟩ := hs u v  hI
  refine lw_callC C (k := 87) (pc2 := 773) (st := []) (CX9_home  u) e1 miX9_home mvX9_home rfl lp10_87 wI_ok (by decide +kernel) rfl (Nat.le_of_ble_eq_true rfl) (by decide) rfl ?_ hcap
  refine lw_seg C (pc' := 774) (L' := [some (vR (kO 23) 0), some (vR (kO 8) 0), some (vR (kO 22) 0), some (vR (kO 24) 0), some (vI i), none, none]) (st' := [vR (kO 22) 0, vI r]) [(oL 2 2, 1)] (by decide +kernel) rfl rfl ?_
  refine lw_callM C (k := 90) (pc2 := 777) (st := [vI r]) (CX10_home  v) e2 rfl (fun _ _ => rfl) miX10_home mvX10_home rfl lp10_90 wI_ok (by decide +kernel) rfl (Nat.le_of_ble_eq_true rfl) (by decide) rfl ?_ hcap
  refine lw_eq C (off := 868) (tgt := 1645) (by decide +kernel) (by decide) ?_
  exact lw_widen (Nat.le_succ _) (Nat.le_add_right _ 6) (kk _ _ ov hI1)
def lw_S16 (Inv : ab_S → ab_S → Prop) : Prop := ∀ (u v : ab_S), Inv u v → ∃ (r : Int32) (u1 v1 : ab_S), fX9_empty u = some (r, u1) ∧ fX10_empty v = some (r, v1) ∧ Inv u1 v1
theorem lw_k16 {p : Program} {l : Launch} {e : Env} {s : State} {m : MethodId} {below : List Frame} {meth : Method} {c : Code} {b Lx : Nat} {xs : Nat → Int32} {E : ab_E} {rm : Nat → Nat} {kc ks : Nat} {u v : ab_S} {ov : Int64} (C : lw_cx p l s m meth c b Lx xs E rm) {Inv : ab_S → ab_S → Prop} (hs : lw_S16 Inv) {n : Nat} {i : Int32} (hi : i = nI n) (hn : n + 7 ≤ Lx) (hI : Inv u v) (hcap : kc ≤ 601024 ∧ ks ≤ 7293034) (kk : ∀ (u1 v1 : ab_S) (ov1 : Int64), Inv u1 v1 → LG p l e s m below meth c b E rm (kc + 1) (ks + 6) 1645 (lw_L i) [] u1 v1 ov1) : LG p l e s m below meth c b E rm kc ks 782 (lw_L i) [] u v ov := by
  refine lw_seg C (pc' := 783) (L' := [some (vR (kO 23) 0), some (vR (kO 8) 0), some (vR (kO 22) 0), some (vR (kO 24) 0), some (vI i), none, none]) (st' := [vR (kO 8) 0]) [(oL 2 1, 1)] (by decide +kernel) rfl rfl ?_
  obtain ⟨r, u1, v1, e1, e2, hI1⟩ := hs u v  hI
  refine lw_callC C (k := 91) (pc2 := 786) (st := []) (CX9_empty  u) e1 miX9_empty mvX9_empty rfl lp10_91 wI_ok (by decide +kernel) rfl (Nat.le_of_ble_eq_true rfl) (by decide) rfl ?_ hcap
  refine lw_seg C (pc' := 787) (L' := [some (vR (kO 23) 0), some (vR (kO 8) 0), some (vR (kO 22) 0), some (vR (kO 24) 0), some (vI i), none, none]) (st' := [vR (kO 22) 0, vI r]) [(oL 2 2, 1)] (by decide +kernel) rfl rfl ?_
  refine lw_callM C (k := 94) (pc2 := 790) (st := [vI r]) (CX10_empty  v) e2 rfl (fun _ _ => rfl) miX10_empty mvX10_empty rfl lp10_94 wI_ok (by decide +kernel) rfl (Nat.le_of_ble_eq_true rfl) (by decide) rfl ?_ hcap
  refine lw_eq C (off := 855) (tgt := 1645) (by decide +kernel) (by decide) ?_
  exact lw_widen (Nat.le_succ _) (Nat.le_add_right _ 6) (kk _ _ ov hI1)
def lw_S17 (Inv : ab_S → ab_S → Prop) : Prop := ∀ (u v : ab_S) (a0 : Int32) (a1 : Int32), Inv u v → ∃ (r : Int32) (u1 v1 : ab_S), fX9_won a0 a1 u = some (r, u1) ∧ fX10_won a0 a1 v = some (r, v1) ∧ Inv u1 v1
theorem lw_k17 {p : Program} {l : Launch} {e : Env} {s : State} {m : MethodId} {below : List Frame} {meth : Method} {c : Code} {b Lx : Nat} {xs : Nat → Int32} {E : ab_E} {rm : Nat → Nat} {kc ks : Nat} {u v : ab_S} {ov : Int64} (C : lw_cx p l s m meth c b Lx xs E rm) {Inv : ab_S → ab_S → Prop} (hs : lw_S17 Inv) {n : Nat} {i : Int32} (hi : i = nI n) (hn : n + 7 ≤ Lx) (hI : Inv u v) (hcap : kc ≤ 601024 ∧ ks ≤ 7293034) (kk : ∀ (u1 v1 : ab_S) (ov1 : Int64), Inv u1 v1 → LG p l e s m below meth c b E rm (kc + 1) (ks + 6) 1645 (lw_L i) [] u1 v1 ov1) : LG p l e s m below meth c b E rm kc ks 795 (lw_L i) [] u v ov := by
  refine lw_seg C (pc' := 801) (L' := [some (vR (kO 23) 0), some (vR (kO 8) 0), some (vR (kO 22) 0), some (vR (kO 24) 0), some (vI i), none, none]) (st' := [vI (i + 1), vR (kO 23) 0, vR (kO 8) 0]) [(oL 2 1, 1), (oL 2 0, 1), (oL 0 4, 2), (oC 1, 1), (oP .iadd, 1)] (by decide +kernel) rfl rfl ?_
  refine lw_rd C (by decide +kernel) rfl (lw_ixa (j := 1) hi rfl (by omega) C.2.2.2.2.2.2) ?_
  refine lw_seg C (pc' := 807) (L' := [some (vR (kO 23) 0), some (vR (kO 8) 0), some (vR (kO 22) 0), some (vR (kO 24) 0), some (vI i), none, none]) (st' := [vI (i + 2), vR (kO 23) 0, vI (xs (nc (i + 1))), vR (kO 8) 0]) [(oL 2 0, 1), (oL 0 4, 2), (oC 2, 1), (oP .iadd, 1)] (by decide +kernel) rfl rfl ?_
  refine lw_rd C (by decide +kernel) rfl (lw_ixa (j := 2) hi rfl (by omega) C.2.2.2.2.2.2) ?_
  obtain ⟨r, u1, v1, e1, e2, hI1⟩ := hs u v (xs (nc (i + 1))) (xs (nc (i + 2))) hI
  refine lw_callC C (k := 95) (pc2 := 811) (st := []) (CX9_won (xs (nc (i + 1))) (xs (nc (i + 2))) u) e1 miX9_won mvX9_won rfl lp10_95 wI_ok (by decide +kernel) rfl (Nat.le_of_ble_eq_true rfl) (by decide) rfl ?_ hcap
  refine lw_seg C (pc' := 817) (L' := [some (vR (kO 23) 0), some (vR (kO 8) 0), some (vR (kO 22) 0), some (vR (kO 24) 0), some (vI i), none, none]) (st' := [vI (i + 1), vR (kO 23) 0, vR (kO 22) 0, vI r]) [(oL 2 2, 1), (oL 2 0, 1), (oL 0 4, 2), (oC 1, 1), (oP .iadd, 1)] (by decide +kernel) rfl rfl ?_
  refine lw_rd C (by decide +kernel) rfl (lw_ixa (j := 1) hi rfl (by omega) C.2.2.2.2.2.2) ?_
  refine lw_seg C (pc' := 823) (L' := [some (vR (kO 23) 0), some (vR (kO 8) 0), some (vR (kO 22) 0), some (vR (kO 24) 0), some (vI i), none, none]) (st' := [vI (i + 2), vR (kO 23) 0, vI (xs (nc (i + 1))), vR (kO 22) 0, vI r]) [(oL 2 0, 1), (oL 0 4, 2), (oC 2, 1), (oP .iadd, 1)] (by decide +kernel) rfl rfl ?_
  refine lw_rd C (by decide +kernel) rfl (lw_ixa (j := 2) hi rfl (by omega) C.2.2.2.2.2.2) ?_
  refine lw_callM C (k := 98) (pc2 := 827) (st := [vI r]) (CX10_won (xs (nc (i + 1))) (xs (nc (i + 2))) v) e2 rfl (fun _ _ => rfl) miX10_won mvX10_won rfl lp10_98 wI_ok (by decide +kernel) rfl (Nat.le_of_ble_eq_true rfl) (by decide) rfl ?_ hcap
  refine lw_eq C (off := 818) (tgt := 1645) (by decide +kernel) (by decide) ?_
  exact lw_widen (Nat.le_succ _) (Nat.le_add_right _ 6) (kk _ _ ov hI1)
def lw_S18 (Inv : ab_S → ab_S → Prop) : Prop := ∀ (u v : ab_S) (a0 : Int32) (a1 : Int32), Inv u v → ∃ (r : Int32) (u1 v1 : ab_S), fX9_streak a0 a1 u = some (r, u1) ∧ fX10_streak a0 a1 v = some (r, v1) ∧ Inv u1 v1
theorem lw_k18 {p : Program} {l : Launch} {e : Env} {s : State} {m : MethodId} {below : List Frame} {meth : Method} {c : Code} {b Lx : Nat} {xs : Nat → Int32} {E : ab_E} {rm : Nat → Nat} {kc ks : Nat} {u v : ab_S} {ov : Int64} (C : lw_cx p l s m meth c b Lx xs E rm) {Inv : ab_S → ab_S → Prop} (hs : lw_S18 Inv) {n : Nat} {i : Int32} (hi : i = nI n) (hn : n + 7 ≤ Lx) (hI : Inv u v) (hcap : kc ≤ 601024 ∧ ks ≤ 7293034) (kk : ∀ (u1 v1 : ab_S) (ov1 : Int64), Inv u1 v1 → LG p l e s m below meth c b E rm (kc + 1) (ks + 6) 1645 (lw_L i) [] u1 v1 ov1) : LG p l e s m below meth c b E rm kc ks 832 (lw_L i) [] u v ov := by
  refine lw_seg C (pc' := 838) (L' := [some (vR (kO 23) 0), some (vR (kO 8) 0), some (vR (kO 22) 0), some (vR (kO 24) 0), some (vI i), none, none]) (st' := [vI (i + 1), vR (kO 23) 0, vR (kO 8) 0]) [(oL 2 1, 1), (oL 2 0, 1), (oL 0 4, 2), (oC 1, 1), (oP .iadd, 1)] (by decide +kernel) rfl rfl ?_
  refine lw_rd C (by decide +kernel) rfl (lw_ixa (j := 1) hi rfl (by omega) C.2.2.2.2.2.2) ?_
  refine lw_seg C (pc' := 844) (L' := [some (vR (kO 23) 0), some (vR (kO 8) 0), some (vR (kO 22) 0), some (vR (kO 24) 0), some (vI i), none, none]) (st' := [vI (i + 2), vR (kO 23) 0, vI (xs (nc (i + 1))), vR (kO 8) 0]) [(oL 2 0, 1), (oL 0 4, 2), (oC 2, 1), (oP .iadd, 1)] (by decide +kernel) rfl rfl ?_
  refine lw_rd C (by decide +kernel) rfl (lw_ixa (j := 2) hi rfl (by omega) C.2.2.2.2.2.2) ?_
  obtain ⟨r, u1, v1, e1, e2, hI1⟩ := hs u v (xs (nc (i + 1))) (xs (nc (i + 2))) hI
  refine lw_callC C (k := 99) (pc2 := 848) (st := []) (CX9_streak (xs (nc (i + 1))) (xs (nc (i + 2))) u) e1 miX9_streak mvX9_streak rfl lp10_99 wI_ok (by decide +kernel) rfl (Nat.le_of_ble_eq_true rfl) (by decide) rfl ?_ hcap
  refine lw_seg C (pc' := 854) (L' := [some (vR (kO 23) 0), some (vR (kO 8) 0), some (vR (kO 22) 0), some (vR (kO 24) 0), some (vI i), none, none]) (st' := [vI (i + 1), vR (kO 23) 0, vR (kO 22) 0, vI r]) [(oL 2 2, 1), (oL 2 0, 1), (oL 0 4, 2), (oC 1, 1), (oP .iadd, 1)] (by decide +kernel) rfl rfl ?_
  refine lw_rd C (by decide +kernel) rfl (lw_ixa (j := 1) hi rfl (by omega) C.2.2.2.2.2.2) ?_
  refine lw_seg C (pc' := 860) (L' := [some (vR (kO 23) 0), some (vR (kO 8) 0), some (vR (kO 22) 0), some (vR (kO 24) 0), some (vI i), none, none]) (st' := [vI (i + 2), vR (kO 23) 0, vI (xs (nc (i + 1))), vR (kO 22) 0, vI r]) [(oL 2 0, 1), (oL 0 4, 2), (oC 2, 1), (oP .iadd, 1)] (by decide +kernel) rfl rfl ?_
  refine lw_rd C (by decide +kernel) rfl (lw_ixa (j := 2) hi rfl (by omega) C.2.2.2.2.2.2) ?_
  refine lw_callM C (k := 102) (pc2 := 864) (st := [vI r]) (CX10_streak (xs (nc (i + 1))) (xs (nc (i + 2))) v) e2 rfl (fun _ _ => rfl) miX10_streak mvX10_streak rfl lp10_102 wI_ok (by decide +kernel) rfl (Nat.le_of_ble_eq_true rfl) (by decide) rfl ?_ hcap
  refine lw_eq C (off := 781) (tgt := 1645) (by decide +kernel) (by decide) ?_
  exact lw_widen (Nat.le_succ _) (Nat.le_add_right _ 6) (kk _ _ ov hI1)
def lw_S19 (Inv : ab_S → ab_S → Prop) : Prop := ∀ (u v : ab_S) (a0 : Int32), Inv u v → ∃ (r : Int32) (u1 v1 : ab_S), fX9_moves a0 u = some (r, u1) ∧ fX10_moves a0 v = some (r, v1) ∧ Inv u1 v1
theorem lw_k19 {p : Program} {l : Launch} {e : Env} {s : State} {m : MethodId} {below : List Frame} {meth : Method} {c : Code} {b Lx : Nat} {xs : Nat → Int32} {E : ab_E} {rm : Nat → Nat} {kc ks : Nat} {u v : ab_S} {ov : Int64} (C : lw_cx p l s m meth c b Lx xs E rm) {Inv : ab_S → ab_S → Prop} (hs : lw_S19 Inv) {n : Nat} {i : Int32} (hi : i = nI n) (hn : n + 7 ≤ Lx) (hI : Inv u v) (hcap : kc ≤ 601024 ∧ ks ≤ 7293034) (kk : ∀ (u1 v1 : ab_S) (ov1 : Int64), Inv u1 v1 → LG p l e s m below meth c b E rm (kc + 1) (ks + 6) 1645 (lw_L i) [] u1 v1 ov1) : LG p l e s m below meth c b E rm kc ks 869 (lw_L i) [] u v ov := by
  refine lw_seg C (pc' := 875) (L' := [some (vR (kO 23) 0), some (vR (kO 8) 0), some (vR (kO 22) 0), some (vR (kO 24) 0), some (vI i), none, none]) (st' := [vI (i + 1), vR (kO 23) 0, vR (kO 8) 0]) [(oL 2 1, 1), (oL 2 0, 1), (oL 0 4, 2), (oC 1, 1), (oP .iadd, 1)] (by decide +kernel) rfl rfl ?_
  refine lw_rd C (by decide +kernel) rfl (lw_ixa (j := 1) hi rfl (by omega) C.2.2.2.2.2.2) ?_
  obtain ⟨r, u1, v1, e1, e2, hI1⟩ := hs u v (xs (nc (i + 1))) hI
  refine lw_callC C (k := 103) (pc2 := 879) (st := []) (CX9_moves (xs (nc (i + 1))) u) e1 miX9_moves mvX9_moves rfl lp10_103 wI_ok (by decide +kernel) rfl (Nat.le_of_ble_eq_true rfl) (by decide) rfl ?_ hcap
  refine lw_seg C (pc' := 885) (L' := [some (vR (kO 23) 0), some (vR (kO 8) 0), some (vR (kO 22) 0), some (vR (kO 24) 0), some (vI i), none, none]) (st' := [vI (i + 1), vR (kO 23) 0, vR (kO 22) 0, vI r]) [(oL 2 2, 1), (oL 2 0, 1), (oL 0 4, 2), (oC 1, 1), (oP .iadd, 1)] (by decide +kernel) rfl rfl ?_
  refine lw_rd C (by decide +kernel) rfl (lw_ixa (j := 1) hi rfl (by omega) C.2.2.2.2.2.2) ?_
  refine lw_callM C (k := 106) (pc2 := 889) (st := [vI r]) (CX10_moves (xs (nc (i + 1))) v) e2 rfl (fun _ _ => rfl) miX10_moves mvX10_moves rfl lp10_106 wI_ok (by decide +kernel) rfl (Nat.le_of_ble_eq_true rfl) (by decide) rfl ?_ hcap
  refine lw_eq C (off := 756) (tgt := 1645) (by decide +kernel) (by decide) ?_
  exact lw_widen (Nat.le_succ _) (Nat.le_add_right _ 6) (kk _ _ ov hI1)
def lw_S20 (Inv : ab_S → ab_S → Prop) : Prop := ∀ (u v : ab_S), Inv u v → ∃ (r : Int32) (u1 v1 : ab_S), fX9_least u = some (r, u1) ∧ fX10_least v = some (r, v1) ∧ Inv u1 v1
theorem lw_k20 {p : Program} {l : Launch} {e : Env} {s : State} {m : MethodId} {below : List Frame} {meth : Method} {c : Code} {b Lx : Nat} {xs : Nat → Int32} {E : ab_E} {rm : Nat → Nat} {kc ks : Nat} {u v : ab_S} {ov : Int64} (C : lw_cx p l s m meth c b Lx xs E rm) {Inv : ab_S → ab_S → Prop} (hs : lw_S20 Inv) {n : Nat} {i : Int32} (hi : i = nI n) (hn : n + 7 ≤ Lx) (hI : Inv u v) (hcap : kc ≤ 601024 ∧ ks ≤ 7293034) (kk : ∀ (u1 v1 : ab_S) (ov1 : Int64), Inv u1 v1 → LG p l e s m below meth c b E rm (kc + 1) (ks + 6) 1645 (lw_L i) [] u1 v1 ov1) : LG p l e s m below meth c b E rm kc ks 894 (lw_L i) [] u v ov := by
  refine lw_seg C (pc' := 895) (L' := [some (vR (kO 23) 0), some (vR (kO 8) 0), some (vR (kO 22) 0), some (vR (kO 24) 0), some (vI i), none, none]) (st' := [vR (kO 8) 0]) [(oL 2 1, 1)] (by decide +kernel) rfl rfl ?_
  obtain ⟨r, u1, v1, e1, e2, hI1⟩ := hs u v  hI
  refine lw_callC C (k := 107) (pc2 := 898) (st := []) (CX9_least  u) e1 miX9_least mvX9_least rfl lp10_107 wI_ok (by decide +kernel) rfl (Nat.le_of_ble_eq_true rfl) (by decide) rfl ?_ hcap
  refine lw_seg C (pc' := 899) (L' := [some (vR (kO 23) 0), some (vR (kO 8) 0), some (vR (kO 22) 0), some (vR (kO 24) 0), some (vI i), none, none]) (st' := [vR (kO 22) 0, vI r]) [(oL 2 2, 1)] (by decide +kernel) rfl rfl ?_
  refine lw_callM C (k := 110) (pc2 := 902) (st := [vI r]) (CX10_least  v) e2 rfl (fun _ _ => rfl) miX10_least mvX10_least rfl lp10_110 wI_ok (by decide +kernel) rfl (Nat.le_of_ble_eq_true rfl) (by decide) rfl ?_ hcap
  refine lw_eq C (off := 743) (tgt := 1645) (by decide +kernel) (by decide) ?_
  exact lw_widen (Nat.le_succ _) (Nat.le_add_right _ 6) (kk _ _ ov hI1)
def lw_S21 (Inv : ab_S → ab_S → Prop) : Prop := ∀ (u v : ab_S), Inv u v → ∃ (r : Int32) (u1 v1 : ab_S), fX9_rights u = some (r, u1) ∧ fX10_rights v = some (r, v1) ∧ Inv u1 v1
theorem lw_k21 {p : Program} {l : Launch} {e : Env} {s : State} {m : MethodId} {below : List Frame} {meth : Method} {c : Code} {b Lx : Nat} {xs : Nat → Int32} {E : ab_E} {rm : Nat → Nat} {kc ks : Nat} {u v : ab_S} {ov : Int64} (C : lw_cx p l s m meth c b Lx xs E rm) {Inv : ab_S → ab_S → Prop} (hs : lw_S21 Inv) {n : Nat} {i : Int32} (hi : i = nI n) (hn : n + 7 ≤ Lx) (hI : Inv u v) (hcap : kc ≤ 601024 ∧ ks ≤ 7293034) (kk : ∀ (u1 v1 : ab_S) (ov1 : Int64), Inv u1 v1 → LG p l e s m below meth c b E rm (kc + 1) (ks + 6) 1645 (lw_L i) [] u1 v1 ov1) : LG p l e s m below meth c b E rm kc ks 907 (lw_L i) [] u v ov := by
  refine lw_seg C (pc' := 908) (L' := [some (vR (kO 23) 0), some (vR (kO 8) 0), some (vR (kO 22) 0), some (vR (kO 24) 0), some (vI i), none, none]) (st' := [vR (kO 8) 0]) [(oL 2 1, 1)] (by decide +kernel) rfl rfl ?_
  obtain ⟨r, u1, v1, e1, e2, hI1⟩ := hs u v  hI
  refine lw_callC C (k := 111) (pc2 := 911) (st := []) (CX9_rights  u) e1 miX9_rights mvX9_rights rfl lp10_111 wI_ok (by decide +kernel) rfl (Nat.le_of_ble_eq_true rfl) (by decide) rfl ?_ hcap
  refine lw_seg C (pc' := 912) (L' := [some (vR (kO 23) 0), some (vR (kO 8) 0), some (vR (kO 22) 0), some (vR (kO 24) 0), some (vI i), none, none]) (st' := [vR (kO 22) 0, vI r]) [(oL 2 2, 1)] (by decide +kernel) rfl rfl ?_
  refine lw_callM C (k := 114) (pc2 := 915) (st := [vI r]) (CX10_rights  v) e2 rfl (fun _ _ => rfl) miX10_rights mvX10_rights rfl lp10_114 wI_ok (by decide +kernel) rfl (Nat.le_of_ble_eq_true rfl) (by decide) rfl ?_ hcap
  refine lw_eq C (off := 730) (tgt := 1645) (by decide +kernel) (by decide) ?_
  exact lw_widen (Nat.le_succ _) (Nat.le_add_right _ 6) (kk _ _ ov hI1)
def lw_S22 (Inv : ab_S → ab_S → Prop) : Prop := ∀ (u v : ab_S) (a0 : Int32), Inv u v → ∃ (r : Int32) (u1 v1 : ab_S), fX9_joy a0 u = some (r, u1) ∧ fX10_joy a0 v = some (r, v1) ∧ Inv u1 v1
theorem lw_k22 {p : Program} {l : Launch} {e : Env} {s : State} {m : MethodId} {below : List Frame} {meth : Method} {c : Code} {b Lx : Nat} {xs : Nat → Int32} {E : ab_E} {rm : Nat → Nat} {kc ks : Nat} {u v : ab_S} {ov : Int64} (C : lw_cx p l s m meth c b Lx xs E rm) {Inv : ab_S → ab_S → Prop} (hs : lw_S22 Inv) {n : Nat} {i : Int32} (hi : i = nI n) (hn : n + 7 ≤ Lx) (hI : Inv u v) (hcap : kc ≤ 601024 ∧ ks ≤ 7293034) (kk : ∀ (u1 v1 : ab_S) (ov1 : Int64), Inv u1 v1 → LG p l e s m below meth c b E rm (kc + 1) (ks + 6) 1645 (lw_L i) [] u1 v1 ov1) : LG p l e s m below meth c b E rm kc ks 920 (lw_L i) [] u v ov := by
  refine lw_seg C (pc' := 926) (L' := [some (vR (kO 23) 0), some (vR (kO 8) 0), some (vR (kO 22) 0), some (vR (kO 24) 0), some (vI i), none, none]) (st' := [vI (i + 1), vR (kO 23) 0, vR (kO 8) 0]) [(oL 2 1, 1), (oL 2 0, 1), (oL 0 4, 2), (oC 1, 1), (oP .iadd, 1)] (by decide +kernel) rfl rfl ?_
  refine lw_rd C (by decide +kernel) rfl (lw_ixa (j := 1) hi rfl (by omega) C.2.2.2.2.2.2) ?_
  obtain ⟨r, u1, v1, e1, e2, hI1⟩ := hs u v (xs (nc (i + 1))) hI
  refine lw_callC C (k := 115) (pc2 := 930) (st := []) (CX9_joy (xs (nc (i + 1))) u) e1 miX9_joy mvX9_joy rfl lp10_115 wI_ok (by decide +kernel) rfl (Nat.le_of_ble_eq_true rfl) (by decide) rfl ?_ hcap
  refine lw_seg C (pc' := 936) (L' := [some (vR (kO 23) 0), some (vR (kO 8) 0), some (vR (kO 22) 0), some (vR (kO 24) 0), some (vI i), none, none]) (st' := [vI (i + 1), vR (kO 23) 0, vR (kO 22) 0, vI r]) [(oL 2 2, 1), (oL 2 0, 1), (oL 0 4, 2), (oC 1, 1), (oP .iadd, 1)] (by decide +kernel) rfl rfl ?_
  refine lw_rd C (by decide +kernel) rfl (lw_ixa (j := 1) hi rfl (by omega) C.2.2.2.2.2.2) ?_
  refine lw_callM C (k := 118) (pc2 := 940) (st := [vI r]) (CX10_joy (xs (nc (i + 1))) v) e2 rfl (fun _ _ => rfl) miX10_joy mvX10_joy rfl lp10_118 wI_ok (by decide +kernel) rfl (Nat.le_of_ble_eq_true rfl) (by decide) rfl ?_ hcap
  refine lw_eq C (off := 705) (tgt := 1645) (by decide +kernel) (by decide) ?_
  exact lw_widen (Nat.le_succ _) (Nat.le_add_right _ 6) (kk _ _ ov hI1)
def lw_S23 (Inv : ab_S → ab_S → Prop) : Prop := ∀ (u v : ab_S) (a0 : Int32), Inv u v → ∃ (r : Int32) (u1 v1 : ab_S), fX9_envy a0 u = some (r, u1) ∧ fX10_envy a0 v = some (r, v1) ∧ Inv u1 v1
theorem lw_k23 {p : Program} {l : Launch} {e : Env} {s : State} {m : MethodId} {below : List Frame} {meth : Method} {c : Code} {b Lx : Nat} {xs : Nat → Int32} {E : ab_E} {rm : Nat → Nat} {kc ks : Nat} {u v : ab_S} {ov : Int64} (C : lw_cx p l s m meth c b Lx xs E rm) {Inv : ab_S → ab_S → Prop} (hs : lw_S23 Inv) {n : Nat} {i : Int32} (hi : i = nI n) (hn : n + 7 ≤ Lx) (hI : Inv u v) (hcap : kc ≤ 601024 ∧ ks ≤ 7293034) (kk : ∀ (u1 v1 : ab_S) (ov1 : Int64), Inv u1 v1 → LG p l e s m below meth c b E rm (kc + 1) (ks + 6) 1645 (lw_L i) [] u1 v1 ov1) : LG p l e s m below meth c b E rm kc ks 945 (lw_L i) [] u v ov := by
  refine lw_seg C (pc' := 951) (L' := [some (vR (kO 23) 0), some (vR (kO 8) 0), some (vR (kO 22) 0), some (vR (kO 24) 0), some (vI i), none, none]) (st' := [vI (i + 1), vR (kO 23) 0, vR (kO 8) 0]) [(oL 2 1, 1), (oL 2 0, 1), (oL 0 4, 2), (oC 1, 1), (oP .iadd, 1)] (by decide +kernel) rfl rfl ?_
  refine lw_rd C (by decide +kernel) rfl (lw_ixa (j := 1) hi rfl (by omega) C.2.2.2.2.2.2) ?_
  obtain ⟨r, u1, v1, e1, e2, hI1⟩ := hs u v (xs (nc (i + 1))) hI
  refine lw_callC C (k := 119) (pc2 := 955) (st := []) (CX9_envy (xs (nc (i + 1))) u) e1 miX9_envy mvX9_envy rfl lp10_119 wI_ok (by decide +kernel) rfl (Nat.le_of_ble_eq_true rfl) (by decide) rfl ?_ hcap
  refine lw_seg C (pc' := 961) (L' := [some (vR (kO 23) 0), some (vR (kO 8) 0), some (vR (kO 22) 0), some (vR (kO 24) 0), some (vI i), none, none]) (st' := [vI (i + 1), vR (kO 23) 0, vR (kO 22) 0, vI r]) [(oL 2 2, 1), (oL 2 0, 1), (oL 0 4, 2), (oC 1, 1), (oP .iadd, 1)] (by decide +kernel) rfl rfl ?_
  refine lw_rd C (by decide +kernel) rfl (lw_ixa (j := 1) hi rfl (by omega) C.2.2.2.2.2.2) ?_
  refine lw_callM C (k := 122) (pc2 := 965) (st := [vI r]) (CX10_envy (xs (nc (i + 1))) v) e2 rfl (fun _ _ => rfl) miX10_envy mvX10_envy rfl lp10_122 wI_ok (by decide +kernel) rfl (Nat.le_of_ble_eq_true rfl) (by decide) rfl ?_ hcap
  refine lw_eq C (off := 680) (tgt := 1645) (by decide +kernel) (by decide) ?_
  exact lw_widen (Nat.le_succ _) (Nat.le_add_right _ 6) (kk _ _ ov hI1)
def lw_S24 (Inv : ab_S → ab_S → Prop) : Prop := ∀ (u v : ab_S) (a0 : Int32), Inv u v → ∃ (r : Int32) (u1 v1 : ab_S), fX9_offers a0 u = some (r, u1) ∧ fX10_offers a0 v = some (r, v1) ∧ Inv u1 v1
theorem lw_k24 {p : Program} {l : Launch} {e : Env} {s : State} {m : MethodId} {below : List Frame} {meth : Method} {c : Code} {b Lx : Nat} {xs : Nat → Int32} {E : ab_E} {rm : Nat → Nat} {kc ks : Nat} {u v : ab_S} {ov : Int64} (C : lw_cx p l s m meth c b Lx xs E rm) {Inv : ab_S → ab_S → Prop} (hs : lw_S24 Inv) {n : Nat} {i : Int32} (hi : i = nI n) (hn : n + 7 ≤ Lx) (hI : Inv u v) (hcap : kc ≤ 601024 ∧ ks ≤ 7293034) (kk : ∀ (u1 v1 : ab_S) (ov1 : Int64), Inv u1 v1 → LG p l e s m below meth c b E rm (kc + 1) (ks + 6) 1645 (lw_L i) [] u1 v1 ov1) : LG p l e s m below meth c b E rm kc ks 970 (lw_L i) [] u v ov := by
  refine lw_seg C (pc' := 976) (L' := [some (vR (kO 23) 0), some (vR (kO 8) 0), some (vR (kO 22) 0), some (vR (kO 24) 0), some (vI i), none, none]) (st' := [vI (i + 1), vR (kO 23) 0, vR (kO 8) 0]) [(oL 2 1, 1), (oL 2 0, 1), (oL 0 4, 2), (oC 1, 1), (oP .iadd, 1)] (by decide +kernel) rfl rfl ?_
  refine lw_rd C (by decide +kernel) rfl (lw_ixa (j := 1) hi rfl (by omega) C.2.2.2.2.2.2) ?_
  obtain ⟨r, u1, v1, e1, e2, hI1⟩ := hs u v (xs (nc (i + 1))) hI
  refine lw_callC C (k := 123) (pc2 := 980) (st := []) (CX9_offers (xs (nc (i + 1))) u) e1 miX9_offers mvX9_offers rfl lp10_123 wI_ok (by decide +kernel) rfl (Nat.le_of_ble_eq_true rfl) (by decide) rfl ?_ hcap
  refine lw_seg C (pc' := 986) (L' := [some (vR (kO 23) 0), some (vR (kO 8) 0), some (vR (kO 22) 0), some (vR (kO 24) 0), some (vI i), none, none]) (st' := [vI (i + 1), vR (kO 23) 0, vR (kO 22) 0, vI r]) [(oL 2 2, 1), (oL 2 0, 1), (oL 0 4, 2), (oC 1, 1), (oP .iadd, 1)] (by decide +kernel) rfl rfl ?_
  refine lw_rd C (by decide +kernel) rfl (lw_ixa (j := 1) hi rfl (by omega) C.2.2.2.2.2.2) ?_
  refine lw_callM C (k := 126) (pc2 := 990) (st := [vI r]) (CX10_offers (xs (nc (i + 1))) v) e2 rfl (fun _ _ => rfl) miX10_offers mvX10_offers rfl lp10_126 wI_ok (by decide +kernel) rfl (Nat.le_of_ble_eq_true rfl) (by decide) rfl ?_ hcap
  refine lw_eq C (off := 655) (tgt := 1645) (by decide +kernel) (by decide) ?_
  exact lw_widen (Nat.le_succ _) (Nat.le_add_right _ 6) (kk _ _ ov hI1)
def lw_S25 (Inv : ab_S → ab_S → Prop) : Prop := ∀ (u v : ab_S) (a0 : Int32), Inv u v → ∃ (r : Int32) (u1 v1 : ab_S), fX9_want a0 u = some (r, u1) ∧ fX10_want a0 v = some (r, v1) ∧ Inv u1 v1
theorem lw_k25 {p : Program} {l : Launch} {e : Env} {s : State} {m : MethodId} {below : List Frame} {meth : Method} {c : Code} {b Lx : Nat} {xs : Nat → Int32} {E : ab_E} {rm : Nat → Nat} {kc ks : Nat} {u v : ab_S} {ov : Int64} (C : lw_cx p l s m meth c b Lx xs E rm) {Inv : ab_S → ab_S → Prop} (hs : lw_S25 Inv) {n : Nat} {i : Int32} (hi : i = nI n) (hn : n + 7 ≤ Lx) (hI : Inv u v) (hcap : kc ≤ 601024 ∧ ks ≤ 7293034) (kk : ∀ (u1 v1 : ab_S) (ov1 : Int64), Inv u1 v1 → LG p l e s m below meth c b E rm (kc + 1) (ks + 6) 1645 (lw_L i) [] u1 v1 ov1) : LG p l e s m below meth c b E rm kc ks 995 (lw_L i) [] u v ov := by
  refine lw_seg C (pc' := 1001) (L' := [some (vR (kO 23) 0), some (vR (kO 8) 0), some (vR (kO 22) 0), some (vR (kO 24) 0), some (vI i), none, none]) (st' := [vI (i + 1), vR (kO 23) 0, vR (kO 8) 0]) [(oL 2 1, 1), (oL 2 0, 1), (oL 0 4, 2), (oC 1, 1), (oP .iadd, 1)] (by decide +kernel) rfl rfl ?_
  refine lw_rd C (by decide +kernel) rfl (lw_ixa (j := 1) hi rfl (by omega) C.2.2.2.2.2.2) ?_
  obtain ⟨r, u1, v1, e1, e2, hI1⟩ := hs u v (xs (nc (i + 1))) hI
  refine lw_callC C (k := 127) (pc2 := 1005) (st := []) (CX9_want (xs (nc (i + 1))) u) e1 miX9_want mvX9_want rfl lp10_127 wI_ok (by decide +kernel) rfl (Nat.le_of_ble_eq_true rfl) (by decide) rfl ?_ hcap
  refine lw_seg C (pc' := 1011) (L' := [some (vR (kO 23) 0), some (vR (kO 8) 0), some (vR (kO 22) 0), some (vR (kO 24) 0), some (vI i), none, none]) (st' := [vI (i + 1), vR (kO 23) 0, vR (kO 22) 0, vI r]) [(oL 2 2, 1), (oL 2 0, 1), (oL 0 4, 2), (oC 1, 1), (oP .iadd, 1)] (by decide +kernel) rfl rfl ?_
  refine lw_rd C (by decide +kernel) rfl (lw_ixa (j := 1) hi rfl (by omega) C.2.2.2.2.2.2) ?_
  refine lw_callM C (k := 130) (pc2 := 1015) (st := [vI r]) (CX10_want (xs (nc (i + 1))) v) e2 rfl (fun _ _ => rfl) miX10_want mvX10_want rfl lp10_130 wI_ok (by decide +kernel) rfl (Nat.le_of_ble_eq_true rfl) (by decide) rfl ?_ hcap
  refine lw_eq C (off := 630) (tgt := 1645) (by decide +kernel) (by decide) ?_
  exact lw_widen (Nat.le_succ _) (Nat.le_add_right _ 6) (kk _ _ ov hI1)
def lw_S26 (Inv : ab_S → ab_S → Prop) : Prop := ∀ (u v : ab_S) (a0 : Int32), Inv u v → ∃ (r : Int32) (u1 v1 : ab_S), fX9_fans a0 u = some (r, u1) ∧ fX10_fans a0 v = some (r, v1) ∧ Inv u1 v1
theorem lw_k26 {p : Program} {l : Launch} {e : Env} {s : State} {m : MethodId} {below : List Frame} {meth : Method} {c : Code} {b Lx : Nat} {xs : Nat → Int32} {E : ab_E} {rm : Nat → Nat} {kc ks : Nat} {u v : ab_S} {ov : Int64} (C : lw_cx p l s m meth c b Lx xs E rm) {Inv : ab_S → ab_S → Prop} (hs : lw_S26 Inv) {n : Nat} {i : Int32} (hi : i = nI n) (hn : n + 7 ≤ Lx) (hI : Inv u v) (hcap : kc ≤ 601024 ∧ ks ≤ 7293034) (kk : ∀ (u1 v1 : ab_S) (ov1 : Int64), Inv u1 v1 → LG p l e s m below meth c b E rm (kc + 1) (ks + 6) 1645 (lw_L i) [] u1 v1 ov1) : LG p l e s m below meth c b E rm kc ks 1020 (lw_L i) [] u v ov := by
  refine lw_seg C (pc' := 1026) (L' := [some (vR (kO 23) 0), some (vR (kO 8) 0), some (vR (kO 22) 0), some (vR (kO 24) 0), some (vI i), none, none]) (st' := [vI (i + 1), vR (kO 23) 0, vR (kO 8) 0]) [(oL 2 1, 1), (oL 2 0, 1), (oL 0 4, 2), (oC 1, 1), (oP .iadd, 1)] (by decide +kernel) rfl rfl ?_
  refine lw_rd C (by decide +kernel) rfl (lw_ixa (j := 1) hi rfl (by omega) C.2.2.2.2.2.2) ?_
  obtain ⟨r, u1, v1, e1, e2, hI1⟩ := hs u v (xs (nc (i + 1))) hI
  refine lw_callC C (k := 131) (pc2 := 1030) (st := []) (CX9_fans (xs (nc (i + 1))) u) e1 miX9_fans mvX9_fans rfl lp10_131 wI_ok (by decide +kernel) rfl (Nat.le_of_ble_eq_true rfl) (by decide) rfl ?_ hcap
  refine lw_seg C (pc' := 1036) (L' := [some (vR (kO 23) 0), some (vR (kO 8) 0), some (vR (kO 22) 0), some (vR (kO 24) 0), some (vI i), none, none]) (st' := [vI (i + 1), vR (kO 23) 0, vR (kO 22) 0, vI r]) [(oL 2 2, 1), (oL 2 0, 1), (oL 0 4, 2), (oC 1, 1), (oP .iadd, 1)] (by decide +kernel) rfl rfl ?_
  refine lw_rd C (by decide +kernel) rfl (lw_ixa (j := 1) hi rfl (by omega) C.2.2.2.2.2.2) ?_
  refine lw_callM C (k := 134) (pc2 := 1040) (st := [vI r]) (CX10_fans (xs (nc (i + 1))) v) e2 rfl (fun _ _ => rfl) miX10_fans mvX10_fans rfl lp10_134 wI_ok (by decide +kernel) rfl (Nat.le_of_ble_eq_true rfl) (by decide) rfl ?_ hcap
  refine lw_eq C (off := 605) (tgt := 1645) (by decide +kernel) (by decide) ?_
  exact lw_widen (Nat.le_succ _) (Nat.le_add_right _ 6) (kk _ _ ov hI1)
def lw_S27 (Inv : ab_S → ab_S → Prop) : Prop := ∀ (u v : ab_S), Inv u v → ∃ (r : Int32) (u1 v1 : ab_S), fX9_dull u = some (r, u1) ∧ fX10_dull v = some (r, v1) ∧ Inv u1 v1
theorem lw_k27 {p : Program} {l : Launch} {e : Env} {s : State} {m : MethodId} {below : List Frame} {meth : Method} {c : Code} {b Lx : Nat} {xs : Nat → Int32} {E : ab_E} {rm : Nat → Nat} {kc ks : Nat} {u v : ab_S} {ov : Int64} (C : lw_cx p l s m meth c b Lx xs E rm) {Inv : ab_S → ab_S → Prop} (hs : lw_S27 Inv) {n : Nat} {i : Int32} (hi : i = nI n) (hn : n + 7 ≤ Lx) (hI : Inv u v) (hcap : kc ≤ 601024 ∧ ks ≤ 7293034) (kk : ∀ (u1 v1 : ab_S) (ov1 : Int64), Inv u1 v1 → LG p l e s m below meth c b E rm (kc + 1) (ks + 6) 1645 (lw_L i) [] u1 v1 ov1) : LG p l e s m below meth c b E rm kc ks 1045 (lw_L i) [] u v ov := by
  refine lw_seg C (pc' := 1046) (L' := [some (vR (kO 23) 0), some (vR (kO 8) 0), some (vR (kO 22) 0), some (vR (kO 24) 0), some (vI i), none, none]) (st' := [vR (kO 8) 0]) [(oL 2 1, 1)] (by decide +kernel) rfl rfl ?_
  obtain ⟨r, u1, v1, e1, e2, hI1⟩ := hs u v  hI
  refine lw_callC C (k := 135) (pc2 := 1049) (st := []) (CX9_dull  u) e1 miX9_dull mvX9_dull rfl lp10_135 wI_ok (by decide +kernel) rfl (Nat.le_of_ble_eq_true rfl) (by decide) rfl ?_ hcap
  refine lw_seg C (pc' := 1050) (L' := [some (vR (kO 23) 0), some (vR (kO 8) 0), some (vR (kO 22) 0), some (vR (kO 24) 0), some (vI i), none, none]) (st' := [vR (kO 22) 0, vI r]) [(oL 2 2, 1)] (by decide +kernel) rfl rfl ?_
  refine lw_callM C (k := 138) (pc2 := 1053) (st := [vI r]) (CX10_dull  v) e2 rfl (fun _ _ => rfl) miX10_dull mvX10_dull rfl lp10_138 wI_ok (by decide +kernel) rfl (Nat.le_of_ble_eq_true rfl) (by decide) rfl ?_ hcap
  refine lw_eq C (off := 592) (tgt := 1645) (by decide +kernel) (by decide) ?_
  exact lw_widen (Nat.le_succ _) (Nat.le_add_right _ 6) (kk _ _ ov hI1)
def lw_S28 (Inv : ab_S → ab_S → Prop) : Prop := ∀ (u v : ab_S) (a0 : Int32), Inv u v → ∃ (r : Int32) (u1 v1 : ab_S), fX9_gets a0 u = some (r, u1) ∧ fX10_gets a0 v = some (r, v1) ∧ Inv u1 v1
theorem lw_k28 {p : Program} {l : Launch} {e : Env} {s : State} {m : MethodId} {below : List Frame} {meth : Method} {c : Code} {b Lx : Nat} {xs : Nat → Int32} {E : ab_E} {rm : Nat → Nat} {kc ks : Nat} {u v : ab_S} {ov : Int64} (C : lw_cx p l s m meth c b Lx xs E rm) {Inv : ab_S → ab_S → Prop} (hs : lw_S28 Inv) {n : Nat} {i : Int32} (hi : i = nI n) (hn : n + 7 ≤ Lx) (hI : Inv u v) (hcap : kc ≤ 601024 ∧ ks ≤ 7293034) (kk : ∀ (u1 v1 : ab_S) (ov1 : Int64), Inv u1 v1 → LG p l e s m below meth c b E rm (kc + 1) (ks + 6) 1645 (lw_L i) [] u1 v1 ov1) : LG p l e s m below meth c b E rm kc ks 1058 (lw_L i) [] u v ov := by
  refine lw_seg C (pc' := 1064) (L' := [some (vR (kO 23) 0), some (vR (kO 8) 0), some (vR (kO 22) 0), some (vR (kO 24) 0), some (vI i), none, none]) (st' := [vI (i + 1), vR (kO 23) 0, vR (kO 8) 0]) [(oL 2 1, 1), (oL 2 0, 1), (oL 0 4, 2), (oC 1, 1), (oP .iadd, 1)] (by decide +kernel) rfl rfl ?_
  refine lw_rd C (by decide +kernel) rfl (lw_ixa (j := 1) hi rfl (by omega) C.2.2.2.2.2.2) ?_
  obtain ⟨r, u1, v1, e1, e2, hI1⟩ := hs u v (xs (nc (i + 1))) hI
  refine lw_callC C (k := 139) (pc2 := 1068) (st := []) (CX9_gets (xs (nc (i + 1))) u) e1 miX9_gets mvX9_gets rfl lp10_139 wI_ok (by decide +kernel) rfl (Nat.le_of_ble_eq_true rfl) (by decide) rfl ?_ hcap
  refine lw_seg C (pc' := 1074) (L' := [some (vR (kO 23) 0), some (vR (kO 8) 0), some (vR (kO 22) 0), some (vR (kO 24) 0), some (vI i), none, none]) (st' := [vI (i + 1), vR (kO 23) 0, vR (kO 22) 0, vI r]) [(oL 2 2, 1), (oL 2 0, 1), (oL 0 4, 2), (oC 1, 1), (oP .iadd, 1)] (by decide +kernel) rfl rfl ?_
  refine lw_rd C (by decide +kernel) rfl (lw_ixa (j := 1) hi rfl (by omega) C.2.2.2.2.2.2) ?_
  refine lw_callM C (k := 142) (pc2 := 1078) (st := [vI r]) (CX10_gets (xs (nc (i + 1))) v) e2 rfl (fun _ _ => rfl) miX10_gets mvX10_gets rfl lp10_142 wI_ok (by decide +kernel) rfl (Nat.le_of_ble_eq_true rfl) (by decide) rfl ?_ hcap
  refine lw_eq C (off := 567) (tgt := 1645) (by decide +kernel) (by decide) ?_
  exact lw_widen (Nat.le_succ _) (Nat.le_add_right _ 6) (kk _ _ ov hI1)
def lw_S29 (Inv : ab_S → ab_S → Prop) : Prop := ∀ (u v : ab_S), Inv u v → ∃ (r : Int32) (u1 v1 : ab_S), fX9_rounds u = some (r, u1) ∧ fX10_rounds v = some (r, v1) ∧ Inv u1 v1
theorem lw_k29 {p : Program} {l : Launch} {e : Env} {s : State} {m : MethodId} {below : List Frame} {meth : Method} {c : Code} {b Lx : Nat} {xs : Nat → Int32} {E : ab_E} {rm : Nat → Nat} {kc ks : Nat} {u v : ab_S} {ov : Int64} (C : lw_cx p l s m meth c b Lx xs E rm) {Inv : ab_S → ab_S → Prop} (hs : lw_S29 Inv) {n : Nat} {i : Int32} (hi : i = nI n) (hn : n + 7 ≤ Lx) (hI : Inv u v) (hcap : kc ≤ 601024 ∧ ks ≤ 7293034) (kk : ∀ (u1 v1 : ab_S) (ov1 : Int64), Inv u1 v1 → LG p l e s m below meth c b E rm (kc + 1) (ks + 6) 1645 (lw_L i) [] u1 v1 ov1) : LG p l e s m below meth c b E rm kc ks 1083 (lw_L i) [] u v ov := by
  refine lw_seg C (pc' := 1084) (L' := [some (vR (kO 23) 0), some (vR (kO 8) 0), some (vR (kO 22) 0), some (vR (kO 24) 0), some (vI i), none, none]) (st' := [vR (kO 8) 0]) [(oL 2 1, 1)] (by decide +kernel) rfl rfl ?_
  obtain ⟨r, u1, v1, e1, e2, hI1⟩ := hs u v  hI
  refine lw_callC C (k := 143) (pc2 := 1087) (st := []) (CX9_rounds  u) e1 miX9_rounds mvX9_rounds rfl lp10_143 wI_ok (by decide +kernel) rfl (Nat.le_of_ble_eq_true rfl) (by decide) rfl ?_ hcap
  refine lw_seg C (pc' := 1088) (L' := [some (vR (kO 23) 0), some (vR (kO 8) 0), some (vR (kO 22) 0), some (vR (kO 24) 0), some (vI i), none, none]) (st' := [vR (kO 22) 0, vI r]) [(oL 2 2, 1)] (by decide +kernel) rfl rfl ?_
  refine lw_callM C (k := 146) (pc2 := 1091) (st := [vI r]) (CX10_rounds  v) e2 rfl (fun _ _ => rfl) miX10_rounds mvX10_rounds rfl lp10_146 wI_ok (by decide +kernel) rfl (Nat.le_of_ble_eq_true rfl) (by decide) rfl ?_ hcap
  refine lw_eq C (off := 554) (tgt := 1645) (by decide +kernel) (by decide) ?_
  exact lw_widen (Nat.le_succ _) (Nat.le_add_right _ 6) (kk _ _ ov hI1)
def lw_S30 (Inv : ab_S → ab_S → Prop) : Prop := ∀ (u v : ab_S) (a0 : Int32), Inv u v → ∃ (r : Int32) (u1 v1 : ab_S), fX9_best a0 u = some (r, u1) ∧ fX10_best a0 v = some (r, v1) ∧ Inv u1 v1
theorem lw_k30 {p : Program} {l : Launch} {e : Env} {s : State} {m : MethodId} {below : List Frame} {meth : Method} {c : Code} {b Lx : Nat} {xs : Nat → Int32} {E : ab_E} {rm : Nat → Nat} {kc ks : Nat} {u v : ab_S} {ov : Int64} (C : lw_cx p l s m meth c b Lx xs E rm) {Inv : ab_S → ab_S → Prop} (hs : lw_S30 Inv) {n : Nat} {i : Int32} (hi : i = nI n) (hn : n + 7 ≤ Lx) (hI : Inv u v) (hcap : kc ≤ 601024 ∧ ks ≤ 7293034) (kk : ∀ (u1 v1 : ab_S) (ov1 : Int64), Inv u1 v1 → LG p l e s m below meth c b E rm (kc + 1) (ks + 6) 1645 (lw_L i) [] u1 v1 ov1) : LG p l e s m below meth c b E rm kc ks 1096 (lw_L i) [] u v ov := by
  refine lw_seg C (pc' := 1102) (L' := [some (vR (kO 23) 0), some (vR (kO 8) 0), some (vR (kO 22) 0), some (vR (kO 24) 0), some (vI i), none, none]) (st' := [vI (i + 1), vR (kO 23) 0, vR (kO 8) 0]) [(oL 2 1, 1), (oL 2 0, 1), (oL 0 4, 2), (oC 1, 1), (oP .iadd, 1)] (by decide +kernel) rfl rfl ?_
  refine lw_rd C (by decide +kernel) rfl (lw_ixa (j := 1) hi rfl (by omega) C.2.2.2.2.2.2) ?_
  obtain ⟨r, u1, v1, e1, e2, hI1⟩ := hs u v (xs (nc (i + 1))) hI
  refine lw_callC C (k := 147) (pc2 := 1106) (st := []) (CX9_best (xs (nc (i + 1))) u) e1 miX9_best mvX9_best rfl lp10_147 wI_ok (by decide +kernel) rfl (Nat.le_of_ble_eq_true rfl) (by decide) rfl ?_ hcap
  refine lw_seg C (pc' := 1112) (L' := [some (vR (kO 23) 0), some (vR (kO 8) 0), some (vR (kO 22) 0), some (vR (kO 24) 0), some (vI i), none, none]) (st' := [vI (i + 1), vR (kO 23) 0, vR (kO 22) 0, vI r]) [(oL 2 2, 1), (oL 2 0, 1), (oL 0 4, 2), (oC 1, 1), (oP .iadd, 1)] (by decide +kernel) rfl rfl ?_
  refine lw_rd C (by decide +kernel) rfl (lw_ixa (j := 1) hi rfl (by omega) C.2.2.2.2.2.2) ?_
  refine lw_callM C (k := 150) (pc2 := 1116) (st := [vI r]) (CX10_best (xs (nc (i + 1))) v) e2 rfl (fun _ _ => rfl) miX10_best mvX10_best rfl lp10_150 wI_ok (by decide +kernel) rfl (Nat.le_of_ble_eq_true rfl) (by decide) rfl ?_ hcap
  refine lw_eq C (off := 529) (tgt := 1645) (by decide +kernel) (by decide) ?_
  exact lw_widen (Nat.le_succ _) (Nat.le_add_right _ 6) (kk _ _ ov hI1)
def lw_S31 (Inv : ab_S → ab_S → Prop) : Prop := ∀ (u v : ab_S) (a0 : Int32), Inv u v → ∃ (r : Int32) (u1 v1 : ab_S), fX9_owes a0 u = some (r, u1) ∧ fX10_owes a0 v = some (r, v1) ∧ Inv u1 v1
theorem lw_k31 {p : Program} {l : Launch} {e : Env} {s : State} {m : MethodId} {below : List Frame} {meth : Method} {c : Code} {b Lx : Nat} {xs : Nat → Int32} {E : ab_E} {rm : Nat → Nat} {kc ks : Nat} {u v : ab_S} {ov : Int64} (C : lw_cx p l s m meth c b Lx xs E rm) {Inv : ab_S → ab_S → Prop} (hs : lw_S31 Inv) {n : Nat} {i : Int32} (hi : i = nI n) (hn : n + 7 ≤ Lx) (hI : Inv u v) (hcap : kc ≤ 601024 ∧ ks ≤ 7293034) (kk : ∀ (u1 v1 : ab_S) (ov1 : Int64), Inv u1 v1 → LG p l e s m below meth c b E rm (kc + 1) (ks + 6) 1645 (lw_L i) [] u1 v1 ov1) : LG p l e s m below meth c b E rm kc ks 1121 (lw_L i) [] u v ov := by
  refine lw_seg C (pc' := 1127) (L' := [some (vR (kO 23) 0), some (vR (kO 8) 0), some (vR (kO 22) 0), some (vR (kO 24) 0), some (vI i), none, none]) (st' := [vI (i + 1), vR (kO 23) 0, vR (kO 8) 0]) [(oL 2 1, 1), (oL 2 0, 1), (oL 0 4, 2), (oC 1, 1), (oP .iadd, 1)] (by decide +kernel) rfl rfl ?_
  refine lw_rd C (by decide +kernel) rfl (lw_ixa (j := 1) hi rfl (by omega) C.2.2.2.2.2.2) ?_
  obtain ⟨r, u1, v1, e1, e2, hI1⟩ := hs u v (xs (nc (i + 1))) hI
  refine lw_callC C (k := 151) (pc2 := 1131) (st := []) (CX9_owes (xs (nc (i + 1))) u) e1 miX9_owes mvX9_owes rfl lp10_151 wI_ok (by decide +kernel) rfl (Nat.le_of_ble_eq_true rfl) (by decide) rfl ?_ hcap
  refine lw_seg C (pc' := 1137) (L' := [some (vR (kO 23) 0), some (vR (kO 8) 0), some (vR (kO 22) 0), some (vR (kO 24) 0), some (vI i), none, none]) (st' := [vI (i + 1), vR (kO 23) 0, vR (kO 22) 0, vI r]) [(oL 2 2, 1), (oL 2 0, 1), (oL 0 4, 2), (oC 1, 1), (oP .iadd, 1)] (by decide +kernel) rfl rfl ?_
  refine lw_rd C (by decide +kernel) rfl (lw_ixa (j := 1) hi rfl (by omega) C.2.2.2.2.2.2) ?_
  refine lw_callM C (k := 154) (pc2 := 1141) (st := [vI r]) (CX10_owes (xs (nc (i + 1))) v) e2 rfl (fun _ _ => rfl) miX10_owes mvX10_owes rfl lp10_154 wI_ok (by decide +kernel) rfl (Nat.le_of_ble_eq_true rfl) (by decide) rfl ?_ hcap
  refine lw_eq C (off := 504) (tgt := 1645) (by decide +kernel) (by decide) ?_
  exact lw_widen (Nat.le_succ _) (Nat.le_add_right _ 6) (kk _ _ ov hI1)
def lw_S32 (Inv : ab_S → ab_S → Prop) : Prop := ∀ (u v : ab_S), Inv u v → ∃ (r : Int32) (u1 v1 : ab_S), fX9_spare u = some (r, u1) ∧ fX10_spare v = some (r, v1) ∧ Inv u1 v1
theorem lw_k32 {p : Program} {l : Launch} {e : Env} {s : State} {m : MethodId} {below : List Frame} {meth : Method} {c : Code} {b Lx : Nat} {xs : Nat → Int32} {E : ab_E} {rm : Nat → Nat} {kc ks : Nat} {u v : ab_S} {ov : Int64} (C : lw_cx p l s m meth c b Lx xs E rm) {Inv : ab_S → ab_S → Prop} (hs : lw_S32 Inv) {n : Nat} {i : Int32} (hi : i = nI n) (hn : n + 7 ≤ Lx) (hI : Inv u v) (hcap : kc ≤ 601024 ∧ ks ≤ 7293034) (kk : ∀ (u1 v1 : ab_S) (ov1 : Int64), Inv u1 v1 → LG p l e s m below meth c b E rm (kc + 1) (ks + 6) 1645 (lw_L i) [] u1 v1 ov1) : LG p l e s m below meth c b E rm kc ks 1146 (lw_L i) [] u v ov := by
  refine lw_seg C (pc' := 1147) (L' := [some (vR (kO 23) 0), some (vR (kO 8) 0), some (vR (kO 22) 0), some (vR (kO 24) 0), some (vI i), none, none]) (st' := [vR (kO 8) 0]) [(oL 2 1, 1)] (by decide +kernel) rfl rfl ?_
  obtain ⟨r, u1, v1, e1, e2, hI1⟩ := hs u v  hI
  refine lw_callC C (k := 155) (pc2 := 1150) (st := []) (CX9_spare  u) e1 miX9_spare mvX9_spare rfl lp10_155 wI_ok (by decide +kernel) rfl (Nat.le_of_ble_eq_true rfl) (by decide) rfl ?_ hcap
  refine lw_seg C (pc' := 1151) (L' := [some (vR (kO 23) 0), some (vR (kO 8) 0), some (vR (kO 22) 0), some (vR (kO 24) 0), some (vI i), none, none]) (st' := [vR (kO 22) 0, vI r]) [(oL 2 2, 1)] (by decide +kernel) rfl rfl ?_
  refine lw_callM C (k := 158) (pc2 := 1154) (st := [vI r]) (CX10_spare  v) e2 rfl (fun _ _ => rfl) miX10_spare mvX10_spare rfl lp10_158 wI_ok (by decide +kernel) rfl (Nat.le_of_ble_eq_true rfl) (by decide) rfl ?_ hcap
  refine lw_eq C (off := 491) (tgt := 1645) (by decide +kernel) (by decide) ?_
  exact lw_widen (Nat.le_succ _) (Nat.le_add_right _ 6) (kk _ _ ov hI1)
def lw_S33 (Inv : ab_S → ab_S → Prop) : Prop := ∀ (u v : ab_S) (a0 : Int32) (a1 : Int32), Inv u v → ∃ (r : Int32) (u1 v1 : ab_S), fX9_odds a0 a1 u = some (r, u1) ∧ fX10_odds a0 a1 v = some (r, v1) ∧ Inv u1 v1
theorem lw_k33 {p : Program} {l : Launch} {e : Env} {s : State} {m : MethodId} {below : List Frame} {meth : Method} {c : Code} {b Lx : Nat} {xs : Nat → Int32} {E : ab_E} {rm : Nat → Nat} {kc ks : Nat} {u v : ab_S} {ov : Int64} (C : lw_cx p l s m meth c b Lx xs E rm) {Inv : ab_S → ab_S → Prop} (hs : lw_S33 Inv) {n : Nat} {i : Int32} (hi : i = nI n) (hn : n + 7 ≤ Lx) (hI : Inv u v) (hcap : kc ≤ 601024 ∧ ks ≤ 7293034) (kk : ∀ (u1 v1 : ab_S) (ov1 : Int64), Inv u1 v1 → LG p l e s m below meth c b E rm (kc + 1) (ks + 6) 1645 (lw_L i) [] u1 v1 ov1) : LG p l e s m below meth c b E rm kc ks 1159 (lw_L i) [] u v ov := by
  refine lw_seg C (pc' := 1165) (L' := [some (vR (kO 23) 0), some (vR (kO 8) 0), some (vR (kO 22) 0), some (vR (kO 24) 0), some (vI i), none, none]) (st' := [vI (i + 1), vR (kO 23) 0, vR (kO 8) 0]) [(oL 2 1, 1), (oL 2 0, 1), (oL 0 4, 2), (oC 1, 1), (oP .iadd, 1)] (by decide +kernel) rfl rfl ?_
  refine lw_rd C (by decide +kernel) rfl (lw_ixa (j := 1) hi rfl (by omega) C.2.2.2.2.2.2) ?_
  refine lw_seg C (pc' := 1171) (L' := [some (vR (kO 23) 0), some (vR (kO 8) 0), some (vR (kO 22) 0), some (vR (kO 24) 0), some (vI i), none, none]) (st' := [vI (i + 2), vR (kO 23) 0, vI (xs (nc (i + 1))), vR (kO 8) 0]) [(oL 2 0, 1), (oL 0 4, 2), (oC 2, 1), (oP .iadd, 1)] (by decide +kernel) rfl rfl ?_
  refine lw_rd C (by decide +kernel) rfl (lw_ixa (j := 2) hi rfl (by omega) C.2.2.2.2.2.2) ?_
  obtain ⟨r, u1, v1, e1, e2, hI1⟩ := hs u v (xs (nc (i + 1))) (xs (nc (i + 2))) hI
  refine lw_callC C (k := 159) (pc2 := 1175) (st := []) (CX9_odds (xs (nc (i + 1))) (xs (nc (i + 2))) u) e1 miX9_odds mvX9_odds rfl lp10_159 wI_ok (by decide +kernel) rfl (Nat.le_of_ble_eq_true rfl) (by decide) rfl ?_ hcap
  refine lw_seg C (pc' := 1181) (L' := [some (vR (kO 23) 0), some (vR (kO 8) 0), some (vR (kO 22) 0), some (vR (kO 24) 0), some (vI i), none, none]) (st' := [vI (i + 1), vR (kO 23) 0, vR (kO 22) 0, vI r]) [(oL 2 2, 1), (oL 2 0, 1), (oL 0 4, 2), (oC 1, 1), (oP .iadd, 1)] (by decide +kernel) rfl rfl ?_
  refine lw_rd C (by decide +kernel) rfl (lw_ixa (j := 1) hi rfl (by omega) C.2.2.2.2.2.2) ?_
  refine lw_seg C (pc' := 1187) (L' := [some (vR (kO 23) 0), some (vR (kO 8) 0), some (vR (kO 22) 0), some (vR (kO 24) 0), some (vI i), none, none]) (st' := [vI (i + 2), vR (kO 23) 0, vI (xs (nc (i + 1))), vR (kO 22) 0, vI r]) [(oL 2 0, 1), (oL 0 4, 2), (oC 2, 1), (oP .iadd, 1)] (by decide +kernel) rfl rfl ?_
  refine lw_rd C (by decide +kernel) rfl (lw_ixa (j := 2) hi rfl (by omega) C.2.2.2.2.2.2) ?_
  refine lw_callM C (k := 162) (pc2 := 1191) (st := [vI r]) (CX10_odds (xs (nc (i + 1))) (xs (nc (i + 2))) v) e2 rfl (fun _ _ => rfl) miX10_odds mvX10_odds rfl lp10_162 wI_ok (by decide +kernel) rfl (Nat.le_of_ble_eq_true rfl) (by decide) rfl ?_ hcap
  refine lw_eq C (off := 454) (tgt := 1645) (by decide +kernel) (by decide) ?_
  exact lw_widen (Nat.le_succ _) (Nat.le_add_right _ 6) (kk _ _ ov hI1)
def lw_S34 (Inv : ab_S → ab_S → Prop) : Prop := ∀ (u v : ab_S) (a0 : Int32) (a1 : Int32), Inv u v → ∃ (r : Int32) (u1 v1 : ab_S), fX9_enough a0 a1 u = some (r, u1) ∧ fX10_enough a0 a1 v = some (r, v1) ∧ Inv u1 v1
theorem lw_k34 {p : Program} {l : Launch} {e : Env} {s : State} {m : MethodId} {below : List Frame} {meth : Method} {c : Code} {b Lx : Nat} {xs : Nat → Int32} {E : ab_E} {rm : Nat → Nat} {kc ks : Nat} {u v : ab_S} {ov : Int64} (C : lw_cx p l s m meth c b Lx xs E rm) {Inv : ab_S → ab_S → Prop} (hs : lw_S34 Inv) {n : Nat} {i : Int32} (hi : i = nI n) (hn : n + 7 ≤ Lx) (hI : Inv u v) (hcap : kc ≤ 601024 ∧ ks ≤ 7293034) (kk : ∀ (u1 v1 : ab_S) (ov1 : Int64), Inv u1 v1 → LG p l e s m below meth c b E rm (kc + 1) (ks + 6) 1645 (lw_L i) [] u1 v1 ov1) : LG p l e s m below meth c b E rm kc ks 1196 (lw_L i) [] u v ov := by
  refine lw_seg C (pc' := 1202) (L' := [some (vR (kO 23) 0), some (vR (kO 8) 0), some (vR (kO 22) 0), some (vR (kO 24) 0), some (vI i), none, none]) (st' := [vI (i + 1), vR (kO 23) 0, vR (kO 8) 0]) [(oL 2 1, 1), (oL 2 0, 1), (oL 0 4, 2), (oC 1, 1), (oP .iadd, 1)] (by decide +kernel) rfl rfl ?_
  refine lw_rd C (by decide +kernel) rfl (lw_ixa (j := 1) hi rfl (by omega) C.2.2.2.2.2.2) ?_
  refine lw_seg C (pc' := 1208) (L' := [some (vR (kO 23) 0), some (vR (kO 8) 0), some (vR (kO 22) 0), some (vR (kO 24) 0), some (vI i), none, none]) (st' := [vI (i + 2), vR (kO 23) 0, vI (xs (nc (i + 1))), vR (kO 8) 0]) [(oL 2 0, 1), (oL 0 4, 2), (oC 2, 1), (oP .iadd, 1)] (by decide +kernel) rfl rfl ?_
  refine lw_rd C (by decide +kernel) rfl (lw_ixa (j := 2) hi rfl (by omega) C.2.2.2.2.2.2) ?_
  obtain ⟨r, u1, v1, e1, e2, hI1⟩ := hs u v (xs (nc (i + 1))) (xs (nc (i + 2))) hI
  refine lw_callC C (k := 163) (pc2 := 1212) (st := []) (CX9_enough (xs (nc (i + 1))) (xs (nc (i + 2))) u) e1 miX9_enough mvX9_enough rfl lp10_163 wI_ok (by decide +kernel) rfl (Nat.le_of_ble_eq_true rfl) (by decide) rfl ?_ hcap
  refine lw_seg C (pc' := 1218) (L' := [some (vR (kO 23) 0), some (vR (kO 8) 0), some (vR (kO 22) 0), some (vR (kO 24) 0), some (vI i), none, none]) (st' := [vI (i + 1), vR (kO 23) 0, vR (kO 22) 0, vI r]) [(oL 2 2, 1), (oL 2 0, 1), (oL 0 4, 2), (oC 1, 1), (oP .iadd, 1)] (by decide +kernel) rfl rfl ?_
  refine lw_rd C (by decide +kernel) rfl (lw_ixa (j := 1) hi rfl (by omega) C.2.2.2.2.2.2) ?_
  refine lw_seg C (pc' := 1224) (L' := [some (vR (kO 23) 0), some (vR (kO 8) 0), some (vR (kO 22) 0), some (vR (kO 24) 0), some (vI i), none, none]) (st' := [vI (i + 2), vR (kO 23) 0, vI (xs (nc (i + 1))), vR (kO 22) 0, vI r]) [(oL 2 0, 1), (oL 0 4, 2), (oC 2, 1), (oP .iadd, 1)] (by decide +kernel) rfl rfl ?_
  refine lw_rd C (by decide +kernel) rfl (lw_ixa (j := 2) hi rfl (by omega) C.2.2.2.2.2.2) ?_
  refine lw_callM C (k := 166) (pc2 := 1228) (st := [vI r]) (CX10_enough (xs (nc (i + 1))) (xs (nc (i + 2))) v) e2 rfl (fun _ _ => rfl) miX10_enough mvX10_enough rfl lp10_166 wI_ok (by decide +kernel) rfl (Nat.le_of_ble_eq_true rfl) (by decide) rfl ?_ hcap
  refine lw_eq C (off := 417) (tgt := 1645) (by decide +kernel) (by decide) ?_
  exact lw_widen (Nat.le_succ _) (Nat.le_add_right _ 6) (kk _ _ ov hI1)
def lw_S35 (Inv : ab_S → ab_S → Prop) : Prop := ∀ (u v : ab_S) (a0 : Int32), Inv u v → ∃ (r : Int32) (u1 v1 : ab_S), fX9_run a0 u = some (r, u1) ∧ fX10_run a0 v = some (r, v1) ∧ Inv u1 v1
theorem lw_k35 {p : Program} {l : Launch} {e : Env} {s : State} {m : MethodId} {below : List Frame} {meth : Method} {c : Code} {b Lx : Nat} {xs : Nat → Int32} {E : ab_E} {rm : Nat → Nat} {kc ks : Nat} {u v : ab_S} {ov : Int64} (C : lw_cx p l s m meth c b Lx xs E rm) {Inv : ab_S → ab_S → Prop} (hs : lw_S35 Inv) {n : Nat} {i : Int32} (hi : i = nI n) (hn : n + 7 ≤ Lx) (hI : Inv u v) (hcap : kc ≤ 601024 ∧ ks ≤ 7293034) (kk : ∀ (u1 v1 : ab_S) (ov1 : Int64), Inv u1 v1 → LG p l e s m below meth c b E rm (kc + 1) (ks + 6) 1645 (lw_L i) [] u1 v1 ov1) : LG p l e s m below meth c b E rm kc ks 1233 (lw_L i) [] u v ov := by
  refine lw_seg C (pc' := 1239) (L' := [some (vR (kO 23) 0), some (vR (kO 8) 0), some (vR (kO 22) 0), some (vR (kO 24) 0), some (vI i), none, none]) (st' := [vI (i + 1), vR (kO 23) 0, vR (kO 8) 0]) [(oL 2 1, 1), (oL 2 0, 1), (oL 0 4, 2), (oC 1, 1), (oP .iadd, 1)] (by decide +kernel) rfl rfl ?_
  refine lw_rd C (by decide +kernel) rfl (lw_ixa (j := 1) hi rfl (by omega) C.2.2.2.2.2.2) ?_
  obtain ⟨r, u1, v1, e1, e2, hI1⟩ := hs u v (xs (nc (i + 1))) hI
  refine lw_callC C (k := 167) (pc2 := 1243) (st := []) (CX9_run (xs (nc (i + 1))) u) e1 miX9_run mvX9_run rfl lp10_167 wI_ok (by decide +kernel) rfl (Nat.le_of_ble_eq_true rfl) (by decide) rfl ?_ hcap
  refine lw_seg C (pc' := 1249) (L' := [some (vR (kO 23) 0), some (vR (kO 8) 0), some (vR (kO 22) 0), some (vR (kO 24) 0), some (vI i), none, none]) (st' := [vI (i + 1), vR (kO 23) 0, vR (kO 22) 0, vI r]) [(oL 2 2, 1), (oL 2 0, 1), (oL 0 4, 2), (oC 1, 1), (oP .iadd, 1)] (by decide +kernel) rfl rfl ?_
  refine lw_rd C (by decide +kernel) rfl (lw_ixa (j := 1) hi rfl (by omega) C.2.2.2.2.2.2) ?_
  refine lw_callM C (k := 170) (pc2 := 1253) (st := [vI r]) (CX10_run (xs (nc (i + 1))) v) e2 rfl (fun _ _ => rfl) miX10_run mvX10_run rfl lp10_170 wI_ok (by decide +kernel) rfl (Nat.le_of_ble_eq_true rfl) (by decide) rfl ?_ hcap
  refine lw_eq C (off := 392) (tgt := 1645) (by decide +kernel) (by decide) ?_
  exact lw_widen (Nat.le_succ _) (Nat.le_add_right _ 6) (kk _ _ ov hI1)
def lw_S36 (Inv : ab_S → ab_S → Prop) : Prop := ∀ (u v : ab_S) (a0 : Int32) (a1 : Int32) (a2 : Int32), (a2 = 0 ∨ a2 = 1) → Inv u v → ∃ (r : Int32) (u1 v1 : ab_S), fX9_see a0 a1 a2 u = some (r, u1) ∧ fX10_see a0 a1 a2 v = some (r, v1) ∧ Inv u1 v1
theorem lw_k36 {p : Program} {l : Launch} {e : Env} {s : State} {m : MethodId} {below : List Frame} {meth : Method} {c : Code} {b Lx : Nat} {xs : Nat → Int32} {E : ab_E} {rm : Nat → Nat} {kc ks : Nat} {u v : ab_S} {ov : Int64} (C : lw_cx p l s m meth c b Lx xs E rm) {Inv : ab_S → ab_S → Prop} (hs : lw_S36 Inv) {n : Nat} {i : Int32} (hi : i = nI n) (hn : n + 7 ≤ Lx) (hI : Inv u v) (hcap : kc ≤ 601024 ∧ ks ≤ 7293034) (kk : ∀ (u1 v1 : ab_S) (ov1 : Int64), Inv u1 v1 → LG p l e s m below meth c b E rm (kc + 1) (ks + 6) 1645 (lw_L i) [] u1 v1 ov1) : LG p l e s m below meth c b E rm kc ks 1258 (lw_L i) [] u v ov := by
  refine lw_seg C (pc' := 1264) (L' := [some (vR (kO 23) 0), some (vR (kO 8) 0), some (vR (kO 22) 0), some (vR (kO 24) 0), some (vI i), none, none]) (st' := [vI (i + 1), vR (kO 23) 0, vR (kO 8) 0]) [(oL 2 1, 1), (oL 2 0, 1), (oL 0 4, 2), (oC 1, 1), (oP .iadd, 1)] (by decide +kernel) rfl rfl ?_
  refine lw_rd C (by decide +kernel) rfl (lw_ixa (j := 1) hi rfl (by omega) C.2.2.2.2.2.2) ?_
  refine lw_seg C (pc' := 1270) (L' := [some (vR (kO 23) 0), some (vR (kO 8) 0), some (vR (kO 22) 0), some (vR (kO 24) 0), some (vI i), none, none]) (st' := [vI (i + 2), vR (kO 23) 0, vI (xs (nc (i + 1))), vR (kO 8) 0]) [(oL 2 0, 1), (oL 0 4, 2), (oC 2, 1), (oP .iadd, 1)] (by decide +kernel) rfl rfl ?_
  refine lw_rd C (by decide +kernel) rfl (lw_ixa (j := 2) hi rfl (by omega) C.2.2.2.2.2.2) ?_
  refine lw_seg C (pc' := 1276) (L' := [some (vR (kO 23) 0), some (vR (kO 8) 0), some (vR (kO 22) 0), some (vR (kO 24) 0), some (vI i), none, none]) (st' := [vI (i + 3), vR (kO 23) 0, vI (xs (nc (i + 2))), vI (xs (nc (i + 1))), vR (kO 8) 0]) [(oL 2 0, 1), (oL 0 4, 2), (oC 3, 1), (oP .iadd, 1)] (by decide +kernel) rfl rfl ?_
  refine lw_rd C (by decide +kernel) rfl (lw_ixa (j := 3) hi rfl (by omega) C.2.2.2.2.2.2) ?_
  refine lw_zeq C (off := 7) (tgt := 1284) (pc2 := 1280) (by decide +kernel) (by decide) rfl (fun hz => ?_) (fun hz => ?_)
  · have h0 := hz
    refine lw_seg C (pc' := 1285) (L' := [some (vR (kO 23) 0), some (vR (kO 8) 0), some (vR (kO 22) 0), some (vR (kO 24) 0), some (vI i), none, none]) (st' := [vI 0, vI (xs (nc (i + 2))), vI (xs (nc (i + 1))), vR (kO 8) 0]) [(oC 0, 1)] (by decide +kernel) rfl rfl ?_
    obtain ⟨r, u1, v1, e1, e2, hI1⟩ := hs u v (xs (nc (i + 1))) (xs (nc (i + 2))) 0 (Or.inl rfl) hI
    refine lw_callC C (k := 171) (pc2 := 1288) (st := []) (CX9_see (xs (nc (i + 1))) (xs (nc (i + 2))) 0 u) e1 miX9_see mvX9_see rfl lp10_171 wI_ok (by decide +kernel) rfl (Nat.le_of_ble_eq_true rfl) (by decide) rfl ?_ hcap
    refine lw_seg C (pc' := 1294) (L' := [some (vR (kO 23) 0), some (vR (kO 8) 0), some (vR (kO 22) 0), some (vR (kO 24) 0), some (vI i), none, none]) (st' := [vI (i + 1), vR (kO 23) 0, vR (kO 22) 0, vI r]) [(oL 2 2, 1), (oL 2 0, 1), (oL 0 4, 2), (oC 1, 1), (oP .iadd, 1)] (by decide +kernel) rfl rfl ?_
    refine lw_rd C (by decide +kernel) rfl (lw_ixa (j := 1) hi rfl (by omega) C.2.2.2.2.2.2) ?_
    refine lw_seg C (pc' := 1300) (L' := [some (vR (kO 23) 0), some (vR (kO 8) 0), some (vR (kO 22) 0), some (vR (kO 24) 0), some (vI i), none, none]) (st' := [vI (i + 2), vR (kO 23) 0, vI (xs (nc (i + 1))), vR (kO 22) 0, vI r]) [(oL 2 0, 1), (oL 0 4, 2), (oC 2, 1), (oP .iadd, 1)] (by decide +kernel) rfl rfl ?_
    refine lw_rd C (by decide +kernel) rfl (lw_ixa (j := 2) hi rfl (by omega) C.2.2.2.2.2.2) ?_
    refine lw_seg C (pc' := 1306) (L' := [some (vR (kO 23) 0), some (vR (kO 8) 0), some (vR (kO 22) 0), some (vR (kO 24) 0), some (vI i), none, none]) (st' := [vI (i + 3), vR (kO 23) 0, vI (xs (nc (i + 2))), vI (xs (nc (i + 1))), vR (kO 22) 0, vI r]) [(oL 2 0, 1), (oL 0 4, 2), (oC 3, 1), (oP .iadd, 1)] (by decide +kernel) rfl rfl ?_
    refine lw_rd C (by decide +kernel) rfl (lw_ixa (j := 3) hi rfl (by omega) C.2.2.2.2.2.2) ?_
    refine lw_zeq C (off := 7) (tgt := 1314) (pc2 := 1310) (by decide +kernel) (by decide) rfl (fun _ => ?_) (fun hz => absurd h0 hz)
    refine lw_seg C (pc' := 1315) (L' := [some (vR (kO 23) 0), some (vR (kO 8) 0), some (vR (kO 22) 0), some (vR (kO 24) 0), some (vI i), none, none]) (st' := [vI 0, vI (xs (nc (i + 2))), vI (xs (nc (i + 1))), vR (kO 22) 0, vI r]) [(oC 0, 1)] (by decide +kernel) rfl rfl ?_
    refine lw_callM C (k := 175) (pc2 := 1318) (st := [vI r]) (CX10_see (xs (nc (i + 1))) (xs (nc (i + 2))) 0 v) e2 rfl (fun _ _ => rfl) miX10_see mvX10_see rfl lp10_175 wI_ok (by decide +kernel) rfl (Nat.le_of_ble_eq_true rfl) (by decide) rfl ?_ hcap
    refine lw_eq C (off := 327) (tgt := 1645) (by decide +kernel) (by decide) ?_
    exact lw_widen (Nat.le_succ _) (Nat.le_add_right _ 6) (kk _ _ ov hI1)
  · have h0 := hz
    refine lw_seg C (pc' := 1281) (L' := [some (vR (kO 23) 0), some (vR (kO 8) 0), some (vR (kO 22) 0), some (vR (kO 24) 0), some (vI i), none, none]) (st' := [vI 1, vI (xs (nc (i + 2))), vI (xs (nc (i + 1))), vR (kO 8) 0]) [(oC 1, 1)] (by decide +kernel) rfl rfl ?_
    refine lw_goto C (off := 4) (tgt := 1285) (by decide +kernel) (by decide) ?_
    obtain ⟨r, u1, v1, e1, e2, hI1⟩ := hs u v (xs (nc (i + 1))) (xs (nc (i + 2))) 1 (Or.inr rfl) hI
    refine lw_callC C (k := 171) (pc2 := 1288) (st := []) (CX9_see (xs (nc (i + 1))) (xs (nc (i + 2))) 1 u) e1 miX9_see mvX9_see rfl lp10_171 wI_ok (by decide +kernel) rfl (Nat.le_of_ble_eq_true rfl) (by decide) rfl ?_ hcap
    refine lw_seg C (pc' := 1294) (L' := [some (vR (kO 23) 0), some (vR (kO 8) 0), some (vR (kO 22) 0), some (vR (kO 24) 0), some (vI i), none, none]) (st' := [vI (i + 1), vR (kO 23) 0, vR (kO 22) 0, vI r]) [(oL 2 2, 1), (oL 2 0, 1), (oL 0 4, 2), (oC 1, 1), (oP .iadd, 1)] (by decide +kernel) rfl rfl ?_
    refine lw_rd C (by decide +kernel) rfl (lw_ixa (j := 1) hi rfl (by omega) C.2.2.2.2.2.2) ?_
    refine lw_seg C (pc' := 1300) (L' := [some (vR (kO 23) 0), some (vR (kO 8) 0), some (vR (kO 22) 0), some (vR (kO 24) 0), some (vI i), none, none]) (st' := [vI (i + 2), vR (kO 23) 0, vI (xs (nc (i + 1))), vR (kO 22) 0, vI r]) [(oL 2 0, 1), (oL 0 4, 2), (oC 2, 1), (oP .iadd, 1)] (by decide +kernel) rfl rfl ?_
    refine lw_rd C (by decide +kernel) rfl (lw_ixa (j := 2) hi rfl (by omega) C.2.2.2.2.2.2) ?_
    refine lw_seg C (pc' := 1306) (L' := [some (vR (kO 23) 0), some (vR (kO 8) 0), some (vR (kO 22) 0), some (vR (kO 24) 0), some (vI i), none, none]) (st' := [vI (i + 3), vR (kO 23) 0, vI (xs (nc (i + 2))), vI (xs (nc (i + 1))), vR (kO 22) 0, vI r]) [(oL 2 0, 1), (oL 0 4, 2), (oC 3, 1), (oP .iadd, 1)] (by decide +kernel) rfl rfl ?_
    refine lw_rd C (by decide +kernel) rfl (lw_ixa (j := 3) hi rfl (by omega) C.2.2.2.2.2.2) ?_
    refine lw_zeq C (off := 7) (tgt := 1314) (pc2 := 1310) (by decide +kernel) (by decide) rfl (fun hz => absurd hz h0) (fun _ => ?_)
    refine lw_seg C (pc' := 1311) (L' := [some (vR (kO 23) 0), some (vR (kO 8) 0), some (vR (kO 22) 0), some (vR (kO 24) 0), some (vI i), none, none]) (st' := [vI 1, vI (xs (nc (i + 2))), vI (xs (nc (i + 1))), vR (kO 22) 0, vI r]) [(oC 1, 1)] (by decide +kernel) rfl rfl ?_
    refine lw_goto C (off := 4) (tgt := 1315) (by decide +kernel) (by decide) ?_
    refine lw_callM C (k := 175) (pc2 := 1318) (st := [vI r]) (CX10_see (xs (nc (i + 1))) (xs (nc (i + 2))) 1 v) e2 rfl (fun _ _ => rfl) miX10_see mvX10_see rfl lp10_175 wI_ok (by decide +kernel) rfl (Nat.le_of_ble_eq_true rfl) (by decide) rfl ?_ hcap
    refine lw_eq C (off := 327) (tgt := 1645) (by decide +kernel) (by decide) ?_
    exact lw_widen (Nat.le_succ _) (Nat.le_add_right _ 6) (kk _ _ ov hI1)
def lw_S37 (Inv : ab_S → ab_S → Prop) : Prop := ∀ (u v : ab_S), Inv u v → ∃ (r : Int32) (u1 v1 : ab_S), fX9_who u = some (r, u1) ∧ fX10_who v = some (r, v1) ∧ Inv u1 v1
theorem lw_k37 {p : Program} {l : Launch} {e : Env} {s : State} {m : MethodId} {below : List Frame} {meth : Method} {c : Code} {b Lx : Nat} {xs : Nat → Int32} {E : ab_E} {rm : Nat → Nat} {kc ks : Nat} {u v : ab_S} {ov : Int64} (C : lw_cx p l s m meth c b Lx xs E rm) {Inv : ab_S → ab_S → Prop} (hs : lw_S37 Inv) {n : Nat} {i : Int32} (hi : i = nI n) (hn : n + 7 ≤ Lx) (hI : Inv u v) (hcap : kc ≤ 601024 ∧ ks ≤ 7293034) (kk : ∀ (u1 v1 : ab_S) (ov1 : Int64), Inv u1 v1 → LG p l e s m below meth c b E rm (kc + 1) (ks + 6) 1645 (lw_L i) [] u1 v1 ov1) : LG p l e s m below meth c b E rm kc ks 1323 (lw_L i) [] u v ov := by
  refine lw_seg C (pc' := 1324) (L' := [some (vR (kO 23) 0), some (vR (kO 8) 0), some (vR (kO 22) 0), some (vR (kO 24) 0), some (vI i), none, none]) (st' := [vR (kO 8) 0]) [(oL 2 1, 1)] (by decide +kernel) rfl rfl ?_
  obtain ⟨r, u1, v1, e1, e2, hI1⟩ := hs u v  hI
  refine lw_callC C (k := 176) (pc2 := 1327) (st := []) (CX9_who  u) e1 miX9_who mvX9_who rfl lp10_176 wI_ok (by decide +kernel) rfl (Nat.le_of_ble_eq_true rfl) (by decide) rfl ?_ hcap
  refine lw_seg C (pc' := 1328) (L' := [some (vR (kO 23) 0), some (vR (kO 8) 0), some (vR (kO 22) 0), some (vR (kO 24) 0), some (vI i), none, none]) (st' := [vR (kO 22) 0, vI r]) [(oL 2 2, 1)] (by decide +kernel) rfl rfl ?_
  refine lw_callM C (k := 179) (pc2 := 1331) (st := [vI r]) (CX10_who  v) e2 rfl (fun _ _ => rfl) miX10_who mvX10_who rfl lp10_179 wI_ok (by decide +kernel) rfl (Nat.le_of_ble_eq_true rfl) (by decide) rfl ?_ hcap
  refine lw_eq C (off := 314) (tgt := 1645) (by decide +kernel) (by decide) ?_
  exact lw_widen (Nat.le_succ _) (Nat.le_add_right _ 6) (kk _ _ ov hI1)
def lw_S38 (Inv : ab_S → ab_S → Prop) : Prop := ∀ (u v : ab_S), Inv u v → ∃ (r : Int32) (u1 v1 : ab_S), fX9_ask u = some (r, u1) ∧ fX10_ask v = some (r, v1) ∧ Inv u1 v1
theorem lw_k38 {p : Program} {l : Launch} {e : Env} {s : State} {m : MethodId} {below : List Frame} {meth : Method} {c : Code} {b Lx : Nat} {xs : Nat → Int32} {E : ab_E} {rm : Nat → Nat} {kc ks : Nat} {u v : ab_S} {ov : Int64} (C : lw_cx p l s m meth c b Lx xs E rm) {Inv : ab_S → ab_S → Prop} (hs : lw_S38 Inv) {n : Nat} {i : Int32} (hi : i = nI n) (hn : n + 7 ≤ Lx) (hI : Inv u v) (hcap : kc ≤ 601024 ∧ ks ≤ 7293034) (kk : ∀ (u1 v1 : ab_S) (ov1 : Int64), Inv u1 v1 → LG p l e s m below meth c b E rm (kc + 1) (ks + 6) 1645 (lw_L i) [] u1 v1 ov1) : LG p l e s m below meth c b E rm kc ks 1336 (lw_L i) [] u v ov := by
  refine lw_seg C (pc' := 1337) (L' := [some (vR (kO 23) 0), some (vR (kO 8) 0), some (vR (kO 22) 0), some (vR (kO 24) 0), some (vI i), none, none]) (st' := [vR (kO 8) 0]) [(oL 2 1, 1)] (by decide +kernel) rfl rfl ?_
  obtain ⟨r, u1, v1, e1, e2, hI1⟩ := hs u v  hI
  refine lw_callC C (k := 180) (pc2 := 1340) (st := []) (CX9_ask  u) e1 miX9_ask mvX9_ask rfl lp10_180 wI_ok (by decide +kernel) rfl (Nat.le_of_ble_eq_true rfl) (by decide) rfl ?_ hcap
  refine lw_seg C (pc' := 1341) (L' := [some (vR (kO 23) 0), some (vR (kO 8) 0), some (vR (kO 22) 0), some (vR (kO 24) 0), some (vI i), none, none]) (st' := [vR (kO 22) 0, vI r]) [(oL 2 2, 1)] (by decide +kernel) rfl rfl ?_
  refine lw_callM C (k := 183) (pc2 := 1344) (st := [vI r]) (CX10_ask  v) e2 rfl (fun _ _ => rfl) miX10_ask mvX10_ask rfl lp10_183 wI_ok (by decide +kernel) rfl (Nat.le_of_ble_eq_true rfl) (by decide) rfl ?_ hcap
  refine lw_eq C (off := 301) (tgt := 1645) (by decide +kernel) (by decide) ?_
  exact lw_widen (Nat.le_succ _) (Nat.le_add_right _ 6) (kk _ _ ov hI1)
def lw_S39 (Inv : ab_S → ab_S → Prop) : Prop := ∀ (u v : ab_S), Inv u v → ∃ (r : Int32) (u1 v1 : ab_S), fX9_rich u = some (r, u1) ∧ fX10_rich v = some (r, v1) ∧ Inv u1 v1
theorem lw_k39 {p : Program} {l : Launch} {e : Env} {s : State} {m : MethodId} {below : List Frame} {meth : Method} {c : Code} {b Lx : Nat} {xs : Nat → Int32} {E : ab_E} {rm : Nat → Nat} {kc ks : Nat} {u v : ab_S} {ov : Int64} (C : lw_cx p l s m meth c b Lx xs E rm) {Inv : ab_S → ab_S → Prop} (hs : lw_S39 Inv) {n : Nat} {i : Int32} (hi : i = nI n) (hn : n + 7 ≤ Lx) (hI : Inv u v) (hcap : kc ≤ 601024 ∧ ks ≤ 7293034) (kk : ∀ (u1 v1 : ab_S) (ov1 : Int64), Inv u1 v1 → LG p l e s m below meth c b E rm (kc + 1) (ks + 6) 1645 (lw_L i) [] u1 v1 ov1) : LG p l e s m below meth c b E rm kc ks 1349 (lw_L i) [] u v ov := by
  refine lw_seg C (pc' := 1350) (L' := [some (vR (kO 23) 0), some (vR (kO 8) 0), some (vR (kO 22) 0), some (vR (kO 24) 0), some (vI i), none, none]) (st' := [vR (kO 8) 0]) [(oL 2 1, 1)] (by decide +kernel) rfl rfl ?_
  obtain ⟨r, u1, v1, e1, e2, hI1⟩ := hs u v  hI
  refine lw_callC C (k := 184) (pc2 := 1353) (st := []) (CX9_rich  u) e1 miX9_rich mvX9_rich rfl lp10_184 wI_ok (by decide +kernel) rfl (Nat.le_of_ble_eq_true rfl) (by decide) rfl ?_ hcap
  refine lw_seg C (pc' := 1354) (L' := [some (vR (kO 23) 0), some (vR (kO 8) 0), some (vR (kO 22) 0), some (vR (kO 24) 0), some (vI i), none, none]) (st' := [vR (kO 22) 0, vI r]) [(oL 2 2, 1)] (by decide +kernel) rfl rfl ?_
  refine lw_callM C (k := 187) (pc2 := 1357) (st := [vI r]) (CX10_rich  v) e2 rfl (fun _ _ => rfl) miX10_rich mvX10_rich rfl lp10_187 wI_ok (by decide +kernel) rfl (Nat.le_of_ble_eq_true rfl) (by decide) rfl ?_ hcap
  refine lw_eq C (off := 288) (tgt := 1645) (by decide +kernel) (by decide) ?_
  exact lw_widen (Nat.le_succ _) (Nat.le_add_right _ 6) (kk _ _ ov hI1)
def lw_S40 (Inv : ab_S → ab_S → Prop) : Prop := ∀ (u v : ab_S), Inv u v → ∃ (r : Int32) (u1 v1 : ab_S), fX9_sad u = some (r, u1) ∧ fX10_sad v = some (r, v1) ∧ Inv u1 v1
theorem lw_k40 {p : Program} {l : Launch} {e : Env} {s : State} {m : MethodId} {below : List Frame} {meth : Method} {c : Code} {b Lx : Nat} {xs : Nat → Int32} {E : ab_E} {rm : Nat → Nat} {kc ks : Nat} {u v : ab_S} {ov : Int64} (C : lw_cx p l s m meth c b Lx xs E rm) {Inv : ab_S → ab_S → Prop} (hs : lw_S40 Inv) {n : Nat} {i : Int32} (hi : i = nI n) (hn : n + 7 ≤ Lx) (hI : Inv u v) (hcap : kc ≤ 601024 ∧ ks ≤ 7293034) (kk : ∀ (u1 v1 : ab_S) (ov1 : Int64), Inv u1 v1 → LG p l e s m below meth c b E rm (kc + 1) (ks + 6) 1645 (lw_L i) [] u1 v1 ov1) : LG p l e s m below meth c b E rm kc ks 1362 (lw_L i) [] u v ov := by
  refine lw_seg C (pc' := 1363) (L' := [some (vR (kO 23) 0), some (vR (kO 8) 0), some (vR (kO 22) 0), some (vR (kO 24) 0), some (vI i), none, none]) (st' := [vR (kO 8) 0]) [(oL 2 1, 1)] (by decide +kernel) rfl rfl ?_
  obtain ⟨r, u1, v1, e1, e2, hI1⟩ := hs u v  hI
  refine lw_callC C (k := 188) (pc2 := 1366) (st := []) (CX9_sad  u) e1 miX9_sad mvX9_sad rfl lp10_188 wI_ok (by decide +kernel) rfl (Nat.le_of_ble_eq_true rfl) (by decide) rfl ?_ hcap
  refine lw_seg C (pc' := 1367) (L' := [some (vR (kO 23) 0), some (vR (kO 8) 0), some (vR (kO 22) 0), some (vR (kO 24) 0), some (vI i), none, none]) (st' := [vR (kO 22) 0, vI r]) [(oL 2 2, 1)] (by decide +kernel) rfl rfl ?_
  refine lw_callM C (k := 191) (pc2 := 1370) (st := [vI r]) (CX10_sad  v) e2 rfl (fun _ _ => rfl) miX10_sad mvX10_sad rfl lp10_191 wI_ok (by decide +kernel) rfl (Nat.le_of_ble_eq_true rfl) (by decide) rfl ?_ hcap
  refine lw_eq C (off := 275) (tgt := 1645) (by decide +kernel) (by decide) ?_
  exact lw_widen (Nat.le_succ _) (Nat.le_add_right _ 6) (kk _ _ ov hI1)
def lw_S41 (Inv : ab_S → ab_S → Prop) : Prop := ∀ (u v : ab_S) (a0 : Int32), Inv u v → ∃ (r : Int32) (u1 v1 : ab_S), fX9_lack a0 u = some (r, u1) ∧ fX10_lack a0 v = some (r, v1) ∧ Inv u1 v1
theorem lw_k41 {p : Program} {l : Launch} {e : Env} {s : State} {m : MethodId} {below : List Frame} {meth : Method} {c : Code} {b Lx : Nat} {xs : Nat → Int32} {E : ab_E} {rm : Nat → Nat} {kc ks : Nat} {u v : ab_S} {ov : Int64} (C : lw_cx p l s m meth c b Lx xs E rm) {Inv : ab_S → ab_S → Prop} (hs : lw_S41 Inv) {n : Nat} {i : Int32} (hi : i = nI n) (hn : n + 7 ≤ Lx) (hI : Inv u v) (hcap : kc ≤ 601024 ∧ ks ≤ 7293034) (kk : ∀ (u1 v1 : ab_S) (ov1 : Int64), Inv u1 v1 → LG p l e s m below meth c b E rm (kc + 1) (ks + 6) 1645 (lw_L i) [] u1 v1 ov1) : LG p l e s m below meth c b E rm kc ks 1375 (lw_L i) [] u v ov := by
  refine lw_seg C (pc' := 1381) (L' := [some (vR (kO 23) 0), some (vR (kO 8) 0), some (vR (kO 22) 0), some (vR (kO 24) 0), some (vI i), none, none]) (st' := [vI (i + 1), vR (kO 23) 0, vR (kO 8) 0]) [(oL 2 1, 1), (oL 2 0, 1), (oL 0 4, 2), (oC 1, 1), (oP .iadd, 1)] (by decide +kernel) rfl rfl ?_
  refine lw_rd C (by decide +kernel) rfl (lw_ixa (j := 1) hi rfl (by omega) C.2.2.2.2.2.2) ?_
  obtain ⟨r, u1, v1, e1, e2, hI1⟩ := hs u v (xs (nc (i + 1))) hI
  refine lw_callC C (k := 192) (pc2 := 1385) (st := []) (CX9_lack (xs (nc (i + 1))) u) e1 miX9_lack mvX9_lack rfl lp10_192 wI_ok (by decide +kernel) rfl (Nat.le_of_ble_eq_true rfl) (by decide) rfl ?_ hcap
  refine lw_seg C (pc' := 1391) (L' := [some (vR (kO 23) 0), some (vR (kO 8) 0), some (vR (kO 22) 0), some (vR (kO 24) 0), some (vI i), none, none]) (st' := [vI (i + 1), vR (kO 23) 0, vR (kO 22) 0, vI r]) [(oL 2 2, 1), (oL 2 0, 1), (oL 0 4, 2), (oC 1, 1), (oP .iadd, 1)] (by decide +kernel) rfl rfl ?_
  refine lw_rd C (by decide +kernel) rfl (lw_ixa (j := 1) hi rfl (by omega) C.2.2.2.2.2.2) ?_
  refine lw_callM C (k := 195) (pc2 := 1395) (st := [vI r]) (CX10_lack (xs (nc (i + 1))) v) e2 rfl (fun _ _ => rfl) miX10_lack mvX10_lack rfl lp10_195 wI_ok (by decide +kernel) rfl (Nat.le_of_ble_eq_true rfl) (by decide) rfl ?_ hcap
  refine lw_eq C (off := 250) (tgt := 1645) (by decide +kernel) (by decide) ?_
  exact lw_widen (Nat.le_succ _) (Nat.le_add_right _ 6) (kk _ _ ov hI1)
def lw_S42 (Inv : ab_S → ab_S → Prop) : Prop := ∀ (u v : ab_S), Inv u v → ∃ (r : Int32) (u1 v1 : ab_S), fX9_debt u = some (r, u1) ∧ fX10_debt v = some (r, v1) ∧ Inv u1 v1
theorem lw_k42 {p : Program} {l : Launch} {e : Env} {s : State} {m : MethodId} {below : List Frame} {meth : Method} {c : Code} {b Lx : Nat} {xs : Nat → Int32} {E : ab_E} {rm : Nat → Nat} {kc ks : Nat} {u v : ab_S} {ov : Int64} (C : lw_cx p l s m meth c b Lx xs E rm) {Inv : ab_S → ab_S → Prop} (hs : lw_S42 Inv) {n : Nat} {i : Int32} (hi : i = nI n) (hn : n + 7 ≤ Lx) (hI : Inv u v) (hcap : kc ≤ 601024 ∧ ks ≤ 7293034) (kk : ∀ (u1 v1 : ab_S) (ov1 : Int64), Inv u1 v1 → LG p l e s m below meth c b E rm (kc + 1) (ks + 6) 1645 (lw_L i) [] u1 v1 ov1) : LG p l e s m below meth c b E rm kc ks 1400 (lw_L i) [] u v ov := by
  refine lw_seg C (pc' := 1401) (L' := [some (vR (kO 23) 0), some (vR (kO 8) 0), some (vR (kO 22) 0), some (vR (kO 24) 0), some (vI i), none, none]) (st' := [vR (kO 8) 0]) [(oL 2 1, 1)] (by decide +kernel) rfl rfl ?_
  obtain ⟨r, u1, v1, e1, e2, hI1⟩ := hs u v  hI
  refine lw_callC C (k := 196) (pc2 := 1404) (st := []) (CX9_debt  u) e1 miX9_debt mvX9_debt rfl lp10_196 wI_ok (by decide +kernel) rfl (Nat.le_of_ble_eq_true rfl) (by decide) rfl ?_ hcap
  refine lw_seg C (pc' := 1405) (L' := [some (vR (kO 23) 0), some (vR (kO 8) 0), some (vR (kO 22) 0), some (vR (kO 24) 0), some (vI i), none, none]) (st' := [vR (kO 22) 0, vI r]) [(oL 2 2, 1)] (by decide +kernel) rfl rfl ?_
  refine lw_callM C (k := 199) (pc2 := 1408) (st := [vI r]) (CX10_debt  v) e2 rfl (fun _ _ => rfl) miX10_debt mvX10_debt rfl lp10_199 wI_ok (by decide +kernel) rfl (Nat.le_of_ble_eq_true rfl) (by decide) rfl ?_ hcap
  refine lw_eq C (off := 237) (tgt := 1645) (by decide +kernel) (by decide) ?_
  exact lw_widen (Nat.le_succ _) (Nat.le_add_right _ 6) (kk _ _ ov hI1)
def lw_S43 (Inv : ab_S → ab_S → Prop) : Prop := ∀ (u v : ab_S), Inv u v → ∃ (r : Int32) (u1 v1 : ab_S), fX9_poor u = some (r, u1) ∧ fX10_poor v = some (r, v1) ∧ Inv u1 v1
theorem lw_k43 {p : Program} {l : Launch} {e : Env} {s : State} {m : MethodId} {below : List Frame} {meth : Method} {c : Code} {b Lx : Nat} {xs : Nat → Int32} {E : ab_E} {rm : Nat → Nat} {kc ks : Nat} {u v : ab_S} {ov : Int64} (C : lw_cx p l s m meth c b Lx xs E rm) {Inv : ab_S → ab_S → Prop} (hs : lw_S43 Inv) {n : Nat} {i : Int32} (hi : i = nI n) (hn : n + 7 ≤ Lx) (hI : Inv u v) (hcap : kc ≤ 601024 ∧ ks ≤ 7293034) (kk : ∀ (u1 v1 : ab_S) (ov1 : Int64), Inv u1 v1 → LG p l e s m below meth c b E rm (kc + 1) (ks + 6) 1645 (lw_L i) [] u1 v1 ov1) : LG p l e s m below meth c b E rm kc ks 1413 (lw_L i) [] u v ov := by
  refine lw_seg C (pc' := 1414) (L' := [some (vR (kO 23) 0), some (vR (kO 8) 0), some (vR (kO 22) 0), some (vR (kO 24) 0), some (vI i), none, none]) (st' := [vR (kO 8) 0]) [(oL 2 1, 1)] (by decide +kernel) rfl rfl ?_
  obtain ⟨r, u1, v1, e1, e2, hI1⟩ := hs u v  hI
  refine lw_callC C (k := 200) (pc2 := 1417) (st := []) (CX9_poor  u) e1 miX9_poor mvX9_poor rfl lp10_200 wI_ok (by decide +kernel) rfl (Nat.le_of_ble_eq_true rfl) (by decide) rfl ?_ hcap
  refine lw_seg C (pc' := 1418) (L' := [some (vR (kO 23) 0), some (vR (kO 8) 0), some (vR (kO 22) 0), some (vR (kO 24) 0), some (vI i), none, none]) (st' := [vR (kO 22) 0, vI r]) [(oL 2 2, 1)] (by decide +kernel) rfl rfl ?_
  refine lw_callM C (k := 203) (pc2 := 1421) (st := [vI r]) (CX10_poor  v) e2 rfl (fun _ _ => rfl) miX10_poor mvX10_poor rfl lp10_203 wI_ok (by decide +kernel) rfl (Nat.le_of_ble_eq_true rfl) (by decide) rfl ?_ hcap
  refine lw_eq C (off := 224) (tgt := 1645) (by decide +kernel) (by decide) ?_
  exact lw_widen (Nat.le_succ _) (Nat.le_add_right _ 6) (kk _ _ ov hI1)
def lw_S45 (Inv : ab_S → ab_S → Prop) : Prop := ∀ (u v : ab_S) (a0 : Int32) (a1 : Int32) (a2 : Int32), Inv u v → ∃ (r : Int32) (u1 v1 : ab_S), fX9_luck a0 a1 a2 u = some (r, u1) ∧ fX10_luck a0 a1 a2 v = some (r, v1) ∧ Inv u1 v1
theorem lw_k45 {p : Program} {l : Launch} {e : Env} {s : State} {m : MethodId} {below : List Frame} {meth : Method} {c : Code} {b Lx : Nat} {xs : Nat → Int32} {E : ab_E} {rm : Nat → Nat} {kc ks : Nat} {u v : ab_S} {ov : Int64} (C : lw_cx p l s m meth c b Lx xs E rm) {Inv : ab_S → ab_S → Prop} (hs : lw_S45 Inv) {n : Nat} {i : Int32} (hi : i = nI n) (hn : n + 7 ≤ Lx) (hI : Inv u v) (hcap : kc ≤ 601024 ∧ ks ≤ 7293034) (kk : ∀ (u1 v1 : ab_S) (ov1 : Int64), Inv u1 v1 → LG p l e s m below meth c b E rm (kc + 1) (ks + 6) 1645 (lw_L i) [] u1 v1 ov1) : LG p l e s m below meth c b E rm kc ks 1518 (lw_L i) [] u v ov := by
  refine lw_seg C (pc' := 1524) (L' := [some (vR (kO 23) 0), some (vR (kO 8) 0), some (vR (kO 22) 0), some (vR (kO 24) 0), some (vI i), none, none]) (st' := [vI (i + 1), vR (kO 23) 0, vR (kO 8) 0]) [(oL 2 1, 1), (oL 2 0, 1), (oL 0 4, 2), (oC 1, 1), (oP .iadd, 1)] (by decide +kernel) rfl rfl ?_
  refine lw_rd C (by decide +kernel) rfl (lw_ixa (j := 1) hi rfl (by omega) C.2.2.2.2.2.2) ?_
  refine lw_seg C (pc' := 1530) (L' := [some (vR (kO 23) 0), some (vR (kO 8) 0), some (vR (kO 22) 0), some (vR (kO 24) 0), some (vI i), none, none]) (st' := [vI (i + 2), vR (kO 23) 0, vI (xs (nc (i + 1))), vR (kO 8) 0]) [(oL 2 0, 1), (oL 0 4, 2), (oC 2, 1), (oP .iadd, 1)] (by decide +kernel) rfl rfl ?_
  refine lw_rd C (by decide +kernel) rfl (lw_ixa (j := 2) hi rfl (by omega) C.2.2.2.2.2.2) ?_
  refine lw_seg C (pc' := 1536) (L' := [some (vR (kO 23) 0), some (vR (kO 8) 0), some (vR (kO 22) 0), some (vR (kO 24) 0), some (vI i), none, none]) (st' := [vI (i + 3), vR (kO 23) 0, vI (xs (nc (i + 2))), vI (xs (nc (i + 1))), vR (kO 8) 0]) [(oL 2 0, 1), (oL 0 4, 2), (oC 3, 1), (oP .iadd, 1)] (by decide +kernel) rfl rfl ?_
  refine lw_rd C (by decide +kernel) rfl (lw_ixa (j := 3) hi rfl (by omega) C.2.2.2.2.2.2) ?_
  obtain ⟨r, u1, v1, e1, e2, hI1⟩ := hs u v (xs (nc (i + 1))) (xs (nc (i + 2))) (xs (nc (i + 3))) hI
  refine lw_callC C (k := 213) (pc2 := 1540) (st := []) (CX9_luck (xs (nc (i + 1))) (xs (nc (i + 2))) (xs (nc (i + 3))) u) e1 miX9_luck mvX9_luck rfl lp10_213 wI_ok (by decide +kernel) rfl (Nat.le_of_ble_eq_true rfl) (by decide) rfl ?_ hcap
  refine lw_seg C (pc' := 1546) (L' := [some (vR (kO 23) 0), some (vR (kO 8) 0), some (vR (kO 22) 0), some (vR (kO 24) 0), some (vI i), none, none]) (st' := [vI (i + 1), vR (kO 23) 0, vR (kO 22) 0, vI r]) [(oL 2 2, 1), (oL 2 0, 1), (oL 0 4, 2), (oC 1, 1), (oP .iadd, 1)] (by decide +kernel) rfl rfl ?_
  refine lw_rd C (by decide +kernel) rfl (lw_ixa (j := 1) hi rfl (by omega) C.2.2.2.2.2.2) ?_
  refine lw_seg C (pc' := 1552) (L' := [some (vR (kO 23) 0), some (vR (kO 8) 0), some (vR (kO 22) 0), some (vR (kO 24) 0), some (vI i), none, none]) (st' := [vI (i + 2), vR (kO 23) 0, vI (xs (nc (i + 1))), vR (kO 22) 0, vI r]) [(oL 2 0, 1), (oL 0 4, 2), (oC 2, 1), (oP .iadd, 1)] (by decide +kernel) rfl rfl ?_
  refine lw_rd C (by decide +kernel) rfl (lw_ixa (j := 2) hi rfl (by omega) C.2.2.2.2.2.2) ?_
  refine lw_seg C (pc' := 1558) (L' := [some (vR (kO 23) 0), some (vR (kO 8) 0), some (vR (kO 22) 0), some (vR (kO 24) 0), some (vI i), none, none]) (st' := [vI (i + 3), vR (kO 23) 0, vI (xs (nc (i + 2))), vI (xs (nc (i + 1))), vR (kO 22) 0, vI r]) [(oL 2 0, 1), (oL 0 4, 2), (oC 3, 1), (oP .iadd, 1)] (by decide +kernel) rfl rfl ?_
  refine lw_rd C (by decide +kernel) rfl (lw_ixa (j := 3) hi rfl (by omega) C.2.2.2.2.2.2) ?_
  refine lw_callM C (k := 217) (pc2 := 1562) (st := [vI r]) (CX10_luck (xs (nc (i + 1))) (xs (nc (i + 2))) (xs (nc (i + 3))) v) e2 rfl (fun _ _ => rfl) miX10_luck mvX10_luck rfl lp10_217 wI_ok (by decide +kernel) rfl (Nat.le_of_ble_eq_true rfl) (by decide) rfl ?_ hcap
  refine lw_eq C (off := 83) (tgt := 1645) (by decide +kernel) (by decide) ?_
  exact lw_widen (Nat.le_succ _) (Nat.le_add_right _ 6) (kk _ _ ov hI1)
def lw_S46 (Inv : ab_S → ab_S → Prop) : Prop := ∀ (u v : ab_S) (a0 : Int32) (a1 : Int32), Inv u v → ∃ (r : Int32) (u1 v1 : ab_S), fX9_mark a0 a1 u = some (r, u1) ∧ fX10_mark a0 a1 v = some (r, v1) ∧ Inv u1 v1
theorem lw_k46 {p : Program} {l : Launch} {e : Env} {s : State} {m : MethodId} {below : List Frame} {meth : Method} {c : Code} {b Lx : Nat} {xs : Nat → Int32} {E : ab_E} {rm : Nat → Nat} {kc ks : Nat} {u v : ab_S} {ov : Int64} (C : lw_cx p l s m meth c b Lx xs E rm) {Inv : ab_S → ab_S → Prop} (hs : lw_S46 Inv) {n : Nat} {i : Int32} (hi : i = nI n) (hn : n + 7 ≤ Lx) (hI : Inv u v) (hcap : kc ≤ 601024 ∧ ks ≤ 7293034) (kk : ∀ (u1 v1 : ab_S) (ov1 : Int64), Inv u1 v1 → LG p l e s m below meth c b E rm (kc + 1) (ks + 6) 1645 (lw_L i) [] u1 v1 ov1) : LG p l e s m below meth c b E rm kc ks 1567 (lw_L i) [] u v ov := by
  refine lw_seg C (pc' := 1573) (L' := [some (vR (kO 23) 0), some (vR (kO 8) 0), some (vR (kO 22) 0), some (vR (kO 24) 0), some (vI i), none, none]) (st' := [vI (i + 1), vR (kO 23) 0, vR (kO 8) 0]) [(oL 2 1, 1), (oL 2 0, 1), (oL 0 4, 2), (oC 1, 1), (oP .iadd, 1)] (by decide +kernel) rfl rfl ?_
  refine lw_rd C (by decide +kernel) rfl (lw_ixa (j := 1) hi rfl (by omega) C.2.2.2.2.2.2) ?_
  refine lw_seg C (pc' := 1579) (L' := [some (vR (kO 23) 0), some (vR (kO 8) 0), some (vR (kO 22) 0), some (vR (kO 24) 0), some (vI i), none, none]) (st' := [vI (i + 2), vR (kO 23) 0, vI (xs (nc (i + 1))), vR (kO 8) 0]) [(oL 2 0, 1), (oL 0 4, 2), (oC 2, 1), (oP .iadd, 1)] (by decide +kernel) rfl rfl ?_
  refine lw_rd C (by decide +kernel) rfl (lw_ixa (j := 2) hi rfl (by omega) C.2.2.2.2.2.2) ?_
  refine lw_zeq C (off := 7) (tgt := 1587) (pc2 := 1583) (by decide +kernel) (by decide) rfl (fun hz => ?_) (fun hz => ?_)
  · have h0 := hz
    refine lw_seg C (pc' := 1588) (L' := [some (vR (kO 23) 0), some (vR (kO 8) 0), some (vR (kO 22) 0), some (vR (kO 24) 0), some (vI i), none, none]) (st' := [vI 0, vI (xs (nc (i + 1))), vR (kO 8) 0]) [(oC 0, 1)] (by decide +kernel) rfl rfl ?_
    obtain ⟨r, u1, v1, e1, e2, hI1⟩ := hs u v (xs (nc (i + 1))) 0 hI
    refine lw_callC C (k := 218) (pc2 := 1591) (st := []) (CX9_mark (xs (nc (i + 1))) 0 u) e1 miX9_mark mvX9_mark rfl lp10_218 wI_ok (by decide +kernel) rfl (Nat.le_of_ble_eq_true rfl) (by decide) rfl ?_ hcap
    refine lw_seg C (pc' := 1597) (L' := [some (vR (kO 23) 0), some (vR (kO 8) 0), some (vR (kO 22) 0), some (vR (kO 24) 0), some (vI i), none, none]) (st' := [vI (i + 1), vR (kO 23) 0, vR (kO 22) 0, vI r]) [(oL 2 2, 1), (oL 2 0, 1), (oL 0 4, 2), (oC 1, 1), (oP .iadd, 1)] (by decide +kernel) rfl rfl ?_
    refine lw_rd C (by decide +kernel) rfl (lw_ixa (j := 1) hi rfl (by omega) C.2.2.2.2.2.2) ?_
    refine lw_seg C (pc' := 1603) (L' := [some (vR (kO 23) 0), some (vR (kO 8) 0), some (vR (kO 22) 0), some (vR (kO 24) 0), some (vI i), none, none]) (st' := [vI (i + 2), vR (kO 23) 0, vI (xs (nc (i + 1))), vR (kO 22) 0, vI r]) [(oL 2 0, 1), (oL 0 4, 2), (oC 2, 1), (oP .iadd, 1)] (by decide +kernel) rfl rfl ?_
    refine lw_rd C (by decide +kernel) rfl (lw_ixa (j := 2) hi rfl (by omega) C.2.2.2.2.2.2) ?_
    refine lw_zeq C (off := 7) (tgt := 1611) (pc2 := 1607) (by decide +kernel) (by decide) rfl (fun _ => ?_) (fun hz => absurd h0 hz)
    refine lw_seg C (pc' := 1612) (L' := [some (vR (kO 23) 0), some (vR (kO 8) 0), some (vR (kO 22) 0), some (vR (kO 24) 0), some (vI i), none, none]) (st' := [vI 0, vI (xs (nc (i + 1))), vR (kO 22) 0, vI r]) [(oC 0, 1)] (by decide +kernel) rfl rfl ?_
    refine lw_callM C (k := 222) (pc2 := 1615) (st := [vI r]) (CX10_mark (xs (nc (i + 1))) 0 v) e2 rfl (fun _ _ => rfl) miX10_mark mvX10_mark rfl lp10_222 wI_ok (by decide +kernel) rfl (Nat.le_of_ble_eq_true rfl) (by decide) rfl ?_ hcap
    refine lw_eq C (off := 30) (tgt := 1645) (by decide +kernel) (by decide) ?_
    exact lw_widen (Nat.le_succ _) (Nat.le_add_right _ 6) (kk _ _ ov hI1)
  · have h0 := hz
    refine lw_seg C (pc' := 1584) (L' := [some (vR (kO 23) 0), some (vR (kO 8) 0), some (vR (kO 22) 0), some (vR (kO 24) 0), some (vI i), none, none]) (st' := [vI 1, vI (xs (nc (i + 1))), vR (kO 8) 0]) [(oC 1, 1)] (by decide +kernel) rfl rfl ?_
    refine lw_goto C (off := 4) (tgt := 1588) (by decide +kernel) (by decide) ?_
    obtain ⟨r, u1, v1, e1, e2, hI1⟩ := hs u v (xs (nc (i + 1))) 1 hI
    refine lw_callC C (k := 218) (pc2 := 1591) (st := []) (CX9_mark (xs (nc (i + 1))) 1 u) e1 miX9_mark mvX9_mark rfl lp10_218 wI_ok (by decide +kernel) rfl (Nat.le_of_ble_eq_true rfl) (by decide) rfl ?_ hcap
    refine lw_seg C (pc' := 1597) (L' := [some (vR (kO 23) 0), some (vR (kO 8) 0), some (vR (kO 22) 0), some (vR (kO 24) 0), some (vI i), none, none]) (st' := [vI (i + 1), vR (kO 23) 0, vR (kO 22) 0, vI r]) [(oL 2 2, 1), (oL 2 0, 1), (oL 0 4, 2), (oC 1, 1), (oP .iadd, 1)] (by decide +kernel) rfl rfl ?_
    refine lw_rd C (by decide +kernel) rfl (lw_ixa (j := 1) hi rfl (by omega) C.2.2.2.2.2.2) ?_
    refine lw_seg C (pc' := 1603) (L' := [some (vR (kO 23) 0), some (vR (kO 8) 0), some (vR (kO 22) 0), some (vR (kO 24) 0), some (vI i), none, none]) (st' := [vI (i + 2), vR (kO 23) 0, vI (xs (nc (i + 1))), vR (kO 22) 0, vI r]) [(oL 2 0, 1), (oL 0 4, 2), (oC 2, 1), (oP .iadd, 1)] (by decide +kernel) rfl rfl ?_
    refine lw_rd C (by decide +kernel) rfl (lw_ixa (j := 2) hi rfl (by omega) C.2.2.2.2.2.2) ?_
    refine lw_zeq C (off := 7) (tgt := 1611) (pc2 := 1607) (by decide +kernel) (by decide) rfl (fun hz => absurd hz h0) (fun _ => ?_)
    refine lw_seg C (pc' := 1608) (L' := [some (vR (kO 23) 0), some (vR (kO 8) 0), some (vR (kO 22) 0), some (vR (kO 24) 0), some (vI i), none, none]) (st' := [vI 1, vI (xs (nc (i + 1))), vR (kO 22) 0, vI r]) [(oC 1, 1)] (by decide +kernel) rfl rfl ?_
    refine lw_goto C (off := 4) (tgt := 1612) (by decide +kernel) (by decide) ?_
    refine lw_callM C (k := 222) (pc2 := 1615) (st := [vI r]) (CX10_mark (xs (nc (i + 1))) 1 v) e2 rfl (fun _ _ => rfl) miX10_mark mvX10_mark rfl lp10_222 wI_ok (by decide +kernel) rfl (Nat.le_of_ble_eq_true rfl) (by decide) rfl ?_ hcap
    refine lw_eq C (off := 30) (tgt := 1645) (by decide +kernel) (by decide) ?_
    exact lw_widen (Nat.le_succ _) (Nat.le_add_right _ 6) (kk _ _ ov hI1)
def lw_S47 (Inv : ab_S → ab_S → Prop) : Prop := ∀ (u v : ab_S) (a0 : Int32), Inv u v → ∃ (r : Int32) (u1 v1 : ab_S), fX9_count a0 u = some (r, u1) ∧ fX10_count a0 v = some (r, v1) ∧ Inv u1 v1
theorem lw_k47 {p : Program} {l : Launch} {e : Env} {s : State} {m : MethodId} {below : List Frame} {meth : Method} {c : Code} {b Lx : Nat} {xs : Nat → Int32} {E : ab_E} {rm : Nat → Nat} {kc ks : Nat} {u v : ab_S} {ov : Int64} (C : lw_cx p l s m meth c b Lx xs E rm) {Inv : ab_S → ab_S → Prop} (hs : lw_S47 Inv) {n : Nat} {i : Int32} (hi : i = nI n) (hn : n + 7 ≤ Lx) (hI : Inv u v) (hcap : kc ≤ 601024 ∧ ks ≤ 7293034) (kk : ∀ (u1 v1 : ab_S) (ov1 : Int64), Inv u1 v1 → LG p l e s m below meth c b E rm (kc + 1) (ks + 6) 1645 (lw_L i) [] u1 v1 ov1) : LG p l e s m below meth c b E rm kc ks 1620 (lw_L i) [] u v ov := by
  refine lw_seg C (pc' := 1626) (L' := [some (vR (kO 23) 0), some (vR (kO 8) 0), some (vR (kO 22) 0), some (vR (kO 24) 0), some (vI i), none, none]) (st' := [vI (i + 1), vR (kO 23) 0, vR (kO 8) 0]) [(oL 2 1, 1), (oL 2 0, 1), (oL 0 4, 2), (oC 1, 1), (oP .iadd, 1)] (by decide +kernel) rfl rfl ?_
  refine lw_rd C (by decide +kernel) rfl (lw_ixa (j := 1) hi rfl (by omega) C.2.2.2.2.2.2) ?_
  obtain ⟨r, u1, v1, e1, e2, hI1⟩ := hs u v (xs (nc (i + 1))) hI
  refine lw_callC C (k := 223) (pc2 := 1630) (st := []) (CX9_count (xs (nc (i + 1))) u) e1 miX9_count mvX9_count rfl lp10_223 wI_ok (by decide +kernel) rfl (Nat.le_of_ble_eq_true rfl) (by decide) rfl ?_ hcap
  refine lw_seg C (pc' := 1636) (L' := [some (vR (kO 23) 0), some (vR (kO 8) 0), some (vR (kO 22) 0), some (vR (kO 24) 0), some (vI i), none, none]) (st' := [vI (i + 1), vR (kO 23) 0, vR (kO 22) 0, vI r]) [(oL 2 2, 1), (oL 2 0, 1), (oL 0 4, 2), (oC 1, 1), (oP .iadd, 1)] (by decide +kernel) rfl rfl ?_
  refine lw_rd C (by decide +kernel) rfl (lw_ixa (j := 1) hi rfl (by omega) C.2.2.2.2.2.2) ?_
  refine lw_callM C (k := 226) (pc2 := 1640) (st := [vI r]) (CX10_count (xs (nc (i + 1))) v) e2 rfl (fun _ _ => rfl) miX10_count mvX10_count rfl lp10_226 wI_ok (by decide +kernel) rfl (Nat.le_of_ble_eq_true rfl) (by decide) rfl ?_ hcap
  refine lw_eq C (off := 5) (tgt := 1645) (by decide +kernel) (by decide) ?_
  exact lw_widen (Nat.le_succ _) (Nat.le_add_right _ 6) (kk _ _ ov hI1)
