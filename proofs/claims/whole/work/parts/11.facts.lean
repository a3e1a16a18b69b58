/-! what the tables say of the methods and of the call sites -/
def fu : Nat := 5000
def ab_mk : List Bool → List (Option ab_V) → List (Option ab_V)
  | b :: m, o :: r => (bif b then o else none) :: ab_mk m r
  | _, _ => []
theorem ab_mk_ok : ∀ (m : List Bool) (L : List (Option ab_V)) (i : Nat) (v : ab_V), (ab_mk m L)[i]? = some (some v) → L[i]? = some (some v)
  | [], L, i, v, h => by simp [ab_mk] at h
  | b :: m, [], i, v, h => by simp [ab_mk] at h
  | b :: m, o :: r, 0, v, h => by
    cases b with
    | false => simp [ab_mk] at h
    | true => simpa [ab_mk] using h
  | b :: m, o :: r, i + 1, v, h => by
    simp only [ab_mk, List.getElem?_cons_succ] at h ⊢
    exact ab_mk_ok m r i v h
theorem ab_mk_len : ∀ (m : List Bool) (L : List (Option ab_V)), m.length = L.length → (ab_mk m L).length = L.length
  | [], [], h => rfl
  | b :: m, o :: r, h => by simp only [ab_mk, List.length_cons]; rw [ab_mk_len m r (by simpa using h)]
  | [], o :: r, h => by simp at h
  | b :: m, [], h => by simp at h
theorem g_jump {τ : Type} {sy own : Nat} {b : ByteArray} {rt : Option FieldType} {d pc : Nat} {L L' : List (Option ab_V)} {st : List ab_V} {u : ab_S} {w : τ → Option ab_V} {r : Option (τ × ab_S)} (m : List Bool) (hm : ab_mk m L = L') (k : ab_G sy own b rt d pc L' st u w r) (hn : m.length = L.length := by rfl) : ab_G sy own b rt d pc L st u w r :=
  g_weak (L' := L') (by rw [← hm]; exact ab_mk_len m L hn) (fun i v h => ab_mk_ok m L i v (by rw [hm]; exact h)) k
theorem miX9_feed : ab_mI yX9_feed cX9_feed 7 (some .int) 3 := ⟨(ab_inT 492 (by decide +kernel) (by decide +kernel)), (ab_inT 166 (by decide +kernel) (by decide +kernel)), ⟨by decide +kernel, by decide +kernel⟩, by decide +kernel, by decide⟩
theorem mvX9_feed : ab_mV yX9_feed := ⟨(ab_inT 490 (by decide +kernel) (by decide +kernel)), (ab_inT 491 (by decide +kernel) (by decide +kernel))⟩
theorem miX9_office : ab_mI yX9_office cX9_office 3 (some .int) 0 := ⟨(ab_inT 501 (by decide +kernel) (by decide +kernel)), (ab_inT 166 (by decide +kernel) (by decide +kernel)), ⟨by decide +kernel, by decide +kernel⟩, by decide +kernel, by decide⟩
theorem mvX9_office : ab_mV yX9_office := ⟨(ab_inT 499 (by decide +kernel) (by decide +kernel)), (ab_inT 500 (by decide +kernel) (by decide +kernel))⟩
theorem miX9_openOffice : ab_mI yX9_openOffice cX9_openOffice 2 none 0 := ⟨(ab_inT 840 (by decide +kernel) (by decide +kernel)), (ab_inT 166 (by decide +kernel) (by decide +kernel)), ⟨by decide +kernel, by decide +kernel⟩, by decide +kernel, by decide⟩
theorem mvX9_openOffice : ab_mV yX9_openOffice := ⟨(ab_inT 839 (by decide +kernel) (by decide +kernel)), (ab_inT 41 (by decide +kernel) (by decide +kernel))⟩
theorem miX9_year : ab_mI yX9_year cX9_year 3 (some .int) 0 := ⟨(ab_inT 851 (by decide +kernel) (by decide +kernel)), (ab_inT 166 (by decide +kernel) (by decide +kernel)), ⟨by decide +kernel, by decide +kernel⟩, by decide +kernel, by decide⟩
theorem mvX9_year : ab_mV yX9_year := ⟨(ab_inT 849 (by decide +kernel) (by decide +kernel)), (ab_inT 850 (by decide +kernel) (by decide +kernel))⟩
theorem miX9_person : ab_mI yX9_person cX9_person 3 (some .int) 2 := ⟨(ab_inT 886 (by decide +kernel) (by decide +kernel)), (ab_inT 166 (by decide +kernel) (by decide +kernel)), ⟨by decide +kernel, by decide +kernel⟩, by decide +kernel, by decide⟩
theorem mvX9_person : ab_mV yX9_person := ⟨(ab_inT 884 (by decide +kernel) (by decide +kernel)), (ab_inT 885 (by decide +kernel) (by decide +kernel))⟩
theorem miX9_good : ab_mI yX9_good cX9_good 3 (some .int) 2 := ⟨(ab_inT 910 (by decide +kernel) (by decide +kernel)), (ab_inT 166 (by decide +kernel) (by decide +kernel)), ⟨by decide +kernel, by decide +kernel⟩, by decide +kernel, by decide⟩
theorem mvX9_good : ab_mV yX9_good := ⟨(ab_inT 908 (by decide +kernel) (by decide +kernel)), (ab_inT 909 (by decide +kernel) (by decide +kernel))⟩
theorem miX9_fit : ab_mI yX9_fit cX9_fit 3 (some .int) 2 := ⟨(ab_inT 924 (by decide +kernel) (by decide +kernel)), (ab_inT 166 (by decide +kernel) (by decide +kernel)), ⟨by decide +kernel, by decide +kernel⟩, by decide +kernel, by decide⟩
theorem mvX9_fit : ab_mV yX9_fit := ⟨(ab_inT 922 (by decide +kernel) (by decide +kernel)), (ab_inT 923 (by decide +kernel) (by decide +kernel))⟩
theorem miX9_buy : ab_mI yX9_buy cX9_buy 2 (some .int) 1 := ⟨(ab_inT 943 (by decide +kernel) (by decide +kernel)), (ab_inT 166 (by decide +kernel) (by decide +kernel)), ⟨by decide +kernel, by decide +kernel⟩, by decide +kernel, by decide⟩
theorem mvX9_buy : ab_mV yX9_buy := ⟨(ab_inT 941 (by decide +kernel) (by decide +kernel)), (ab_inT 942 (by decide +kernel) (by decide +kernel))⟩
theorem miX9_swap : ab_mI yX9_swap cX9_swap 3 (some .boolean) 2 := ⟨(ab_inT 969 (by decide +kernel) (by decide +kernel)), (ab_inT 166 (by decide +kernel) (by decide +kernel)), ⟨by decide +kernel, by decide +kernel⟩, by decide +kernel, by decide⟩
theorem mvX9_swap : ab_mV yX9_swap := ⟨(ab_inT 967 (by decide +kernel) (by decide +kernel)), (ab_inT 968 (by decide +kernel) (by decide +kernel))⟩
theorem miX9_bring : ab_mI yX9_bring cX9_bring 3 (some .int) 1 := ⟨(ab_inT 990 (by decide +kernel) (by decide +kernel)), (ab_inT 166 (by decide +kernel) (by decide +kernel)), ⟨by decide +kernel, by decide +kernel⟩, by decide +kernel, by decide⟩
theorem mvX9_bring : ab_mV yX9_bring := ⟨(ab_inT 988 (by decide +kernel) (by decide +kernel)), (ab_inT 989 (by decide +kernel) (by decide +kernel))⟩
theorem miX9_quarter : ab_mI yX9_quarter cX9_quarter 1 (some .int) 0 := ⟨(ab_inT 995 (by decide +kernel) (by decide +kernel)), (ab_inT 166 (by decide +kernel) (by decide +kernel)), ⟨by decide +kernel, by decide +kernel⟩, by decide +kernel, by decide⟩
theorem mvX9_quarter : ab_mV yX9_quarter := ⟨(ab_inT 993 (by decide +kernel) (by decide +kernel)), (ab_inT 994 (by decide +kernel) (by decide +kernel))⟩
theorem miX9_remember : ab_mI yX9_remember cX9_remember 3 none 0 := ⟨(ab_inT 953 (by decide +kernel) (by decide +kernel)), (ab_inT 166 (by decide +kernel) (by decide +kernel)), ⟨by decide +kernel, by decide +kernel⟩, by decide +kernel, by decide⟩
theorem mvX9_remember : ab_mV yX9_remember := ⟨(ab_inT 952 (by decide +kernel) (by decide +kernel)), (ab_inT 56 (by decide +kernel) (by decide +kernel))⟩
theorem miX9_undo : ab_mI yX9_undo cX9_undo 2 (some .boolean) 0 := ⟨(ab_inT 1042 (by decide +kernel) (by decide +kernel)), (ab_inT 166 (by decide +kernel) (by decide +kernel)), ⟨by decide +kernel, by decide +kernel⟩, by decide +kernel, by decide⟩
theorem mvX9_undo : ab_mV yX9_undo := ⟨(ab_inT 1040 (by decide +kernel) (by decide +kernel)), (ab_inT 1041 (by decide +kernel) (by decide +kernel))⟩
theorem miX9_judged : ab_mI yX9_judged cX9_judged 5 (some .int) 1 := ⟨(ab_inT 1046 (by decide +kernel) (by decide +kernel)), (ab_inT 166 (by decide +kernel) (by decide +kernel)), ⟨by decide +kernel, by decide +kernel⟩, by decide +kernel, by decide⟩
theorem mvX9_judged : ab_mV yX9_judged := ⟨(ab_inT 1044 (by decide +kernel) (by decide +kernel)), (ab_inT 1045 (by decide +kernel) (by decide +kernel))⟩
theorem miX9_winner : ab_mI yX9_winner cX9_winner 4 (some .int) 1 := ⟨(ab_inT 1067 (by decide +kernel) (by decide +kernel)), (ab_inT 166 (by decide +kernel) (by decide +kernel)), ⟨by decide +kernel, by decide +kernel⟩, by decide +kernel, by decide⟩
theorem mvX9_winner : ab_mV yX9_winner := ⟨(ab_inT 1065 (by decide +kernel) (by decide +kernel)), (ab_inT 1066 (by decide +kernel) (by decide +kernel))⟩
theorem miX9_where : ab_mI yX9_where cX9_where 4 (some .int) 2 := ⟨(ab_inT 1071 (by decide +kernel) (by decide +kernel)), (ab_inT 166 (by decide +kernel) (by decide +kernel)), ⟨by decide +kernel, by decide +kernel⟩, by decide +kernel, by decide⟩
theorem mvX9_where : ab_mV yX9_where := ⟨(ab_inT 1069 (by decide +kernel) (by decide +kernel)), (ab_inT 1070 (by decide +kernel) (by decide +kernel))⟩
theorem miX9_has : ab_mI yX9_has cX9_has 4 (some .int) 2 := ⟨(ab_inT 1075 (by decide +kernel) (by decide +kernel)), (ab_inT 166 (by decide +kernel) (by decide +kernel)), ⟨by decide +kernel, by decide +kernel⟩, by decide +kernel, by decide⟩
theorem mvX9_has : ab_mV yX9_has := ⟨(ab_inT 1073 (by decide +kernel) (by decide +kernel)), (ab_inT 1074 (by decide +kernel) (by decide +kernel))⟩
theorem miX9_home : ab_mI yX9_home cX9_home 2 (some .int) 0 := ⟨(ab_inT 1079 (by decide +kernel) (by decide +kernel)), (ab_inT 166 (by decide +kernel) (by decide +kernel)), ⟨by decide +kernel, by decide +kernel⟩, by decide +kernel, by decide⟩
theorem mvX9_home : ab_mV yX9_home := ⟨(ab_inT 1077 (by decide +kernel) (by decide +kernel)), (ab_inT 1078 (by decide +kernel) (by decide +kernel))⟩
theorem miX9_empty : ab_mI yX9_empty cX9_empty 2 (some .int) 0 := ⟨(ab_inT 1084 (by decide +kernel) (by decide +kernel)), (ab_inT 166 (by decide +kernel) (by decide +kernel)), ⟨by decide +kernel, by decide +kernel⟩, by decide +kernel, by decide⟩
theorem mvX9_empty : ab_mV yX9_empty := ⟨(ab_inT 1082 (by decide +kernel) (by decide +kernel)), (ab_inT 1083 (by decide +kernel) (by decide +kernel))⟩
theorem miX9_won : ab_mI yX9_won cX9_won 5 (some .int) 2 := ⟨(ab_inT 1089 (by decide +kernel) (by decide +kernel)), (ab_inT 166 (by decide +kernel) (by decide +kernel)), ⟨by decide +kernel, by decide +kernel⟩, by decide +kernel, by decide⟩
theorem mvX9_won : ab_mV yX9_won := ⟨(ab_inT 1087 (by decide +kernel) (by decide +kernel)), (ab_inT 1088 (by decide +kernel) (by decide +kernel))⟩
theorem miX9_streak : ab_mI yX9_streak cX9_streak 7 (some .int) 2 := ⟨(ab_inT 1093 (by decide +kernel) (by decide +kernel)), (ab_inT 166 (by decide +kernel) (by decide +kernel)), ⟨by decide +kernel, by decide +kernel⟩, by decide +kernel, by decide⟩
theorem mvX9_streak : ab_mV yX9_streak := ⟨(ab_inT 1091 (by decide +kernel) (by decide +kernel)), (ab_inT 1092 (by decide +kernel) (by decide +kernel))⟩
theorem miX9_moves : ab_mI yX9_moves cX9_moves 3 (some .int) 1 := ⟨(ab_inT 1098 (by decide +kernel) (by decide +kernel)), (ab_inT 166 (by decide +kernel) (by decide +kernel)), ⟨by decide +kernel, by decide +kernel⟩, by decide +kernel, by decide⟩
theorem mvX9_moves : ab_mV yX9_moves := ⟨(ab_inT 1096 (by decide +kernel) (by decide +kernel)), (ab_inT 1097 (by decide +kernel) (by decide +kernel))⟩
theorem miX9_least : ab_mI yX9_least cX9_least 6 (some .int) 0 := ⟨(ab_inT 1102 (by decide +kernel) (by decide +kernel)), (ab_inT 166 (by decide +kernel) (by decide +kernel)), ⟨by decide +kernel, by decide +kernel⟩, by decide +kernel, by decide⟩
theorem mvX9_least : ab_mV yX9_least := ⟨(ab_inT 1100 (by decide +kernel) (by decide +kernel)), (ab_inT 1101 (by decide +kernel) (by decide +kernel))⟩
theorem miX9_rights : ab_mI yX9_rights cX9_rights 1 (some .int) 0 := ⟨(ab_inT 1106 (by decide +kernel) (by decide +kernel)), (ab_inT 166 (by decide +kernel) (by decide +kernel)), ⟨by decide +kernel, by decide +kernel⟩, by decide +kernel, by decide⟩
theorem mvX9_rights : ab_mV yX9_rights := ⟨(ab_inT 1104 (by decide +kernel) (by decide +kernel)), (ab_inT 1105 (by decide +kernel) (by decide +kernel))⟩
theorem miX9_joy : ab_mI yX9_joy cX9_joy 2 (some .int) 1 := ⟨(ab_inT 1110 (by decide +kernel) (by decide +kernel)), (ab_inT 166 (by decide +kernel) (by decide +kernel)), ⟨by decide +kernel, by decide +kernel⟩, by decide +kernel, by decide⟩
theorem mvX9_joy : ab_mV yX9_joy := ⟨(ab_inT 1108 (by decide +kernel) (by decide +kernel)), (ab_inT 1109 (by decide +kernel) (by decide +kernel))⟩
theorem miX9_envy : ab_mI yX9_envy cX9_envy 5 (some .int) 1 := ⟨(ab_inT 1122 (by decide +kernel) (by decide +kernel)), (ab_inT 166 (by decide +kernel) (by decide +kernel)), ⟨by decide +kernel, by decide +kernel⟩, by decide +kernel, by decide⟩
theorem mvX9_envy : ab_mV yX9_envy := ⟨(ab_inT 1120 (by decide +kernel) (by decide +kernel)), (ab_inT 1121 (by decide +kernel) (by decide +kernel))⟩
theorem miX9_offers : ab_mI yX9_offers cX9_offers 6 (some .int) 1 := ⟨(ab_inT 1127 (by decide +kernel) (by decide +kernel)), (ab_inT 166 (by decide +kernel) (by decide +kernel)), ⟨by decide +kernel, by decide +kernel⟩, by decide +kernel, by decide⟩
theorem mvX9_offers : ab_mV yX9_offers := ⟨(ab_inT 1125 (by decide +kernel) (by decide +kernel)), (ab_inT 1126 (by decide +kernel) (by decide +kernel))⟩
theorem miX9_want : ab_mI yX9_want cX9_want 6 (some .int) 1 := ⟨(ab_inT 1131 (by decide +kernel) (by decide +kernel)), (ab_inT 166 (by decide +kernel) (by decide +kernel)), ⟨by decide +kernel, by decide +kernel⟩, by decide +kernel, by decide⟩
theorem mvX9_want : ab_mV yX9_want := ⟨(ab_inT 1129 (by decide +kernel) (by decide +kernel)), (ab_inT 1130 (by decide +kernel) (by decide +kernel))⟩
theorem miX9_fans : ab_mI yX9_fans cX9_fans 2 (some .int) 1 := ⟨(ab_inT 1135 (by decide +kernel) (by decide +kernel)), (ab_inT 166 (by decide +kernel) (by decide +kernel)), ⟨by decide +kernel, by decide +kernel⟩, by decide +kernel, by decide⟩
theorem mvX9_fans : ab_mV yX9_fans := ⟨(ab_inT 1133 (by decide +kernel) (by decide +kernel)), (ab_inT 1134 (by decide +kernel) (by decide +kernel))⟩
theorem miX9_dull : ab_mI yX9_dull cX9_dull 3 (some .int) 0 := ⟨(ab_inT 1147 (by decide +kernel) (by decide +kernel)), (ab_inT 166 (by decide +kernel) (by decide +kernel)), ⟨by decide +kernel, by decide +kernel⟩, by decide +kernel, by decide⟩
theorem mvX9_dull : ab_mV yX9_dull := ⟨(ab_inT 1145 (by decide +kernel) (by decide +kernel)), (ab_inT 1146 (by decide +kernel) (by decide +kernel))⟩
theorem miX9_fanBits : ab_mI yX9_fanBits cX9_fanBits 4 (some .int) 1 := ⟨(ab_inT 1139 (by decide +kernel) (by decide +kernel)), (ab_inT 166 (by decide +kernel) (by decide +kernel)), ⟨by decide +kernel, by decide +kernel⟩, by decide +kernel, by decide⟩
theorem mvX9_fanBits : ab_mV yX9_fanBits := ⟨(ab_inT 1138 (by decide +kernel) (by decide +kernel)), (ab_inT 75 (by decide +kernel) (by decide +kernel))⟩
theorem miX9_isFan : ab_mI yX9_isFan cX9_isFan 5 (some .boolean) 2 := ⟨(ab_inT 1143 (by decide +kernel) (by decide +kernel)), (ab_inT 166 (by decide +kernel) (by decide +kernel)), ⟨by decide +kernel, by decide +kernel⟩, by decide +kernel, by decide⟩
theorem mvX9_isFan : ab_mV yX9_isFan := ⟨(ab_inT 1142 (by decide +kernel) (by decide +kernel)), (ab_inT 76 (by decide +kernel) (by decide +kernel))⟩
theorem miX9_gets : ab_mI yX9_gets cX9_gets 2 (some .int) 1 := ⟨(ab_inT 1151 (by decide +kernel) (by decide +kernel)), (ab_inT 166 (by decide +kernel) (by decide +kernel)), ⟨by decide +kernel, by decide +kernel⟩, by decide +kernel, by decide⟩
theorem mvX9_gets : ab_mV yX9_gets := ⟨(ab_inT 1149 (by decide +kernel) (by decide +kernel)), (ab_inT 1150 (by decide +kernel) (by decide +kernel))⟩
theorem miX9_rounds : ab_mI yX9_rounds cX9_rounds 1 (some .int) 0 := ⟨(ab_inT 1188 (by decide +kernel) (by decide +kernel)), (ab_inT 166 (by decide +kernel) (by decide +kernel)), ⟨by decide +kernel, by decide +kernel⟩, by decide +kernel, by decide⟩
theorem mvX9_rounds : ab_mV yX9_rounds := ⟨(ab_inT 1186 (by decide +kernel) (by decide +kernel)), (ab_inT 1187 (by decide +kernel) (by decide +kernel))⟩
theorem miX9_best : ab_mI yX9_best cX9_best 2 (some .int) 1 := ⟨(ab_inT 1192 (by decide +kernel) (by decide +kernel)), (ab_inT 166 (by decide +kernel) (by decide +kernel)), ⟨by decide +kernel, by decide +kernel⟩, by decide +kernel, by decide⟩
theorem mvX9_best : ab_mV yX9_best := ⟨(ab_inT 1190 (by decide +kernel) (by decide +kernel)), (ab_inT 1191 (by decide +kernel) (by decide +kernel))⟩
theorem miX9_owes : ab_mI yX9_owes cX9_owes 4 (some .int) 1 := ⟨(ab_inT 1226 (by decide +kernel) (by decide +kernel)), (ab_inT 166 (by decide +kernel) (by decide +kernel)), ⟨by decide +kernel, by decide +kernel⟩, by decide +kernel, by decide⟩
theorem mvX9_owes : ab_mV yX9_owes := ⟨(ab_inT 1224 (by decide +kernel) (by decide +kernel)), (ab_inT 1225 (by decide +kernel) (by decide +kernel))⟩
theorem miX9_spare : ab_mI yX9_spare cX9_spare 4 (some .int) 0 := ⟨(ab_inT 1232 (by decide +kernel) (by decide +kernel)), (ab_inT 166 (by decide +kernel) (by decide +kernel)), ⟨by decide +kernel, by decide +kernel⟩, by decide +kernel, by decide⟩
theorem mvX9_spare : ab_mV yX9_spare := ⟨(ab_inT 1230 (by decide +kernel) (by decide +kernel)), (ab_inT 1231 (by decide +kernel) (by decide +kernel))⟩
theorem miX9_odds : ab_mI yX9_odds cX9_odds 12 (some .int) 2 := ⟨(ab_inT 1236 (by decide +kernel) (by decide +kernel)), (ab_inT 166 (by decide +kernel) (by decide +kernel)), ⟨by decide +kernel, by decide +kernel⟩, by decide +kernel, by decide⟩
theorem mvX9_odds : ab_mV yX9_odds := ⟨(ab_inT 1234 (by decide +kernel) (by decide +kernel)), (ab_inT 1235 (by decide +kernel) (by decide +kernel))⟩
theorem miX9_enough : ab_mI yX9_enough cX9_enough 5 (some .int) 2 := ⟨(ab_inT 1242 (by decide +kernel) (by decide +kernel)), (ab_inT 166 (by decide +kernel) (by decide +kernel)), ⟨by decide +kernel, by decide +kernel⟩, by decide +kernel, by decide⟩
theorem mvX9_enough : ab_mV yX9_enough := ⟨(ab_inT 1240 (by decide +kernel) (by decide +kernel)), (ab_inT 1241 (by decide +kernel) (by decide +kernel))⟩
theorem miX9_run : ab_mI yX9_run cX9_run 9 (some .int) 1 := ⟨(ab_inT 1246 (by decide +kernel) (by decide +kernel)), (ab_inT 166 (by decide +kernel) (by decide +kernel)), ⟨by decide +kernel, by decide +kernel⟩, by decide +kernel, by decide⟩
theorem mvX9_run : ab_mV yX9_run := ⟨(ab_inT 1244 (by decide +kernel) (by decide +kernel)), (ab_inT 1245 (by decide +kernel) (by decide +kernel))⟩
theorem miX9_see : ab_mI yX9_see cX9_see 4 (some .boolean) 3 := ⟨(ab_inT 1251 (by decide +kernel) (by decide +kernel)), (ab_inT 166 (by decide +kernel) (by decide +kernel)), ⟨by decide +kernel, by decide +kernel⟩, by decide +kernel, by decide⟩
theorem mvX9_see : ab_mV yX9_see := ⟨(ab_inT 1249 (by decide +kernel) (by decide +kernel)), (ab_inT 1250 (by decide +kernel) (by decide +kernel))⟩
theorem miX9_who : ab_mI yX9_who cX9_who 1 (some .int) 0 := ⟨(ab_inT 1260 (by decide +kernel) (by decide +kernel)), (ab_inT 166 (by decide +kernel) (by decide +kernel)), ⟨by decide +kernel, by decide +kernel⟩, by decide +kernel, by decide⟩
theorem mvX9_who : ab_mV yX9_who := ⟨(ab_inT 1258 (by decide +kernel) (by decide +kernel)), (ab_inT 1259 (by decide +kernel) (by decide +kernel))⟩
theorem miX9_ask : ab_mI yX9_ask cX9_ask 7 (some .int) 0 := ⟨(ab_inT 1274 (by decide +kernel) (by decide +kernel)), (ab_inT 166 (by decide +kernel) (by decide +kernel)), ⟨by decide +kernel, by decide +kernel⟩, by decide +kernel, by decide⟩
theorem mvX9_ask : ab_mV yX9_ask := ⟨(ab_inT 1272 (by decide +kernel) (by decide +kernel)), (ab_inT 1273 (by decide +kernel) (by decide +kernel))⟩
theorem miX9_leftByAsking : ab_mI yX9_leftByAsking cX9_leftByAsking 6 (some .int) 3 := ⟨(ab_inT 1278 (by decide +kernel) (by decide +kernel)), (ab_inT 166 (by decide +kernel) (by decide +kernel)), ⟨by decide +kernel, by decide +kernel⟩, by decide +kernel, by decide⟩
theorem mvX9_leftByAsking : ab_mV yX9_leftByAsking := ⟨(ab_inT 1277 (by decide +kernel) (by decide +kernel)), (ab_inT 93 (by decide +kernel) (by decide +kernel))⟩
theorem miX9_rich : ab_mI yX9_rich cX9_rich 4 (some .int) 0 := ⟨(ab_inT 1282 (by decide +kernel) (by decide +kernel)), (ab_inT 166 (by decide +kernel) (by decide +kernel)), ⟨by decide +kernel, by decide +kernel⟩, by decide +kernel, by decide⟩
theorem mvX9_rich : ab_mV yX9_rich := ⟨(ab_inT 1280 (by decide +kernel) (by decide +kernel)), (ab_inT 1281 (by decide +kernel) (by decide +kernel))⟩
theorem miX9_sad : ab_mI yX9_sad cX9_sad 5 (some .int) 0 := ⟨(ab_inT 1286 (by decide +kernel) (by decide +kernel)), (ab_inT 166 (by decide +kernel) (by decide +kernel)), ⟨by decide +kernel, by decide +kernel⟩, by decide +kernel, by decide⟩
theorem mvX9_sad : ab_mV yX9_sad := ⟨(ab_inT 1284 (by decide +kernel) (by decide +kernel)), (ab_inT 1285 (by decide +kernel) (by decide +kernel))⟩
theorem miX9_lack : ab_mI yX9_lack cX9_lack 4 (some .int) 1 := ⟨(ab_inT 1290 (by decide +kernel) (by decide +kernel)), (ab_inT 166 (by decide +kernel) (by decide +kernel)), ⟨by decide +kernel, by decide +kernel⟩, by decide +kernel, by decide⟩
theorem mvX9_lack : ab_mV yX9_lack := ⟨(ab_inT 1288 (by decide +kernel) (by decide +kernel)), (ab_inT 1289 (by decide +kernel) (by decide +kernel))⟩
theorem miX9_debt : ab_mI yX9_debt cX9_debt 1 (some .int) 0 := ⟨(ab_inT 1294 (by decide +kernel) (by decide +kernel)), (ab_inT 166 (by decide +kernel) (by decide +kernel)), ⟨by decide +kernel, by decide +kernel⟩, by decide +kernel, by decide⟩
theorem mvX9_debt : ab_mV yX9_debt := ⟨(ab_inT 1292 (by decide +kernel) (by decide +kernel)), (ab_inT 1293 (by decide +kernel) (by decide +kernel))⟩
theorem miX9_poor : ab_mI yX9_poor cX9_poor 3 (some .int) 0 := ⟨(ab_inT 1298 (by decide +kernel) (by decide +kernel)), (ab_inT 166 (by decide +kernel) (by decide +kernel)), ⟨by decide +kernel, by decide +kernel⟩, by decide +kernel, by decide⟩
theorem mvX9_poor : ab_mV yX9_poor := ⟨(ab_inT 1296 (by decide +kernel) (by decide +kernel)), (ab_inT 1297 (by decide +kernel) (by decide +kernel))⟩
theorem miX9_rests : ab_mI yX9_rests cX9_rests 7 (some .int) 4 := ⟨(ab_inT 1340 (by decide +kernel) (by decide +kernel)), (ab_inT 166 (by decide +kernel) (by decide +kernel)), ⟨by decide +kernel, by decide +kernel⟩, by decide +kernel, by decide⟩
theorem mvX9_rests : ab_mV yX9_rests := ⟨(ab_inT 1338 (by decide +kernel) (by decide +kernel)), (ab_inT 1339 (by decide +kernel) (by decide +kernel))⟩
theorem miX9_isBargain : ab_mI yX9_isBargain cX9_isBargain 1 (some .boolean) 1 := ⟨(ab_inT 1343 (by decide +kernel) (by decide +kernel)), (ab_inT 166 (by decide +kernel) (by decide +kernel)), ⟨by decide +kernel, by decide +kernel⟩, by decide +kernel, by decide⟩
theorem msX9_isBargain : ab_mS yX9_isBargain := (ab_inT 1342 (by decide +kernel) (by decide +kernel))
theorem miX9_isRest : ab_mI yX9_isRest cX9_isRest 6 (some .boolean) 4 := ⟨(ab_inT 1411 (by decide +kernel) (by decide +kernel)), (ab_inT 166 (by decide +kernel) (by decide +kernel)), ⟨by decide +kernel, by decide +kernel⟩, by decide +kernel, by decide⟩
theorem msX9_isRest : ab_mS yX9_isRest := (ab_inT 1410 (by decide +kernel) (by decide +kernel))
theorem miX9_bargained : ab_mI yX9_bargained cX9_bargained 5 (some .int) 5 := ⟨(ab_inT 1414 (by decide +kernel) (by decide +kernel)), (ab_inT 166 (by decide +kernel) (by decide +kernel)), ⟨by decide +kernel, by decide +kernel⟩, by decide +kernel, by decide⟩
theorem msX9_bargained : ab_mS yX9_bargained := (ab_inT 1413 (by decide +kernel) (by decide +kernel))
theorem miX9_luck : ab_mI yX9_luck cX9_luck 6 (some .int) 3 := ⟨(ab_inT 1302 (by decide +kernel) (by decide +kernel)), (ab_inT 166 (by decide +kernel) (by decide +kernel)), ⟨by decide +kernel, by decide +kernel⟩, by decide +kernel, by decide⟩
theorem mvX9_luck : ab_mV yX9_luck := ⟨(ab_inT 1300 (by decide +kernel) (by decide +kernel)), (ab_inT 1301 (by decide +kernel) (by decide +kernel))⟩
theorem miX9_mark : ab_mI yX9_mark cX9_mark 5 (some .boolean) 2 := ⟨(ab_inT 1319 (by decide +kernel) (by decide +kernel)), (ab_inT 166 (by decide +kernel) (by decide +kernel)), ⟨by decide +kernel, by decide +kernel⟩, by decide +kernel, by decide⟩
theorem mvX9_mark : ab_mV yX9_mark := ⟨(ab_inT 1317 (by decide +kernel) (by decide +kernel)), (ab_inT 1318 (by decide +kernel) (by decide +kernel))⟩
theorem miX9_count : ab_mI yX9_count cX9_count 2 (some .int) 1 := ⟨(ab_inT 1328 (by decide +kernel) (by decide +kernel)), (ab_inT 166 (by decide +kernel) (by decide +kernel)), ⟨by decide +kernel, by decide +kernel⟩, by decide +kernel, by decide⟩
theorem mvX9_count : ab_mV yX9_count := ⟨(ab_inT 1326 (by decide +kernel) (by decide +kernel)), (ab_inT 1327 (by decide +kernel) (by decide +kernel))⟩
theorem miX9_at : ab_mI yX9_at cX9_at 2 (some .int) 2 := ⟨(ab_inT 747 (by decide +kernel) (by decide +kernel)), (ab_inT 166 (by decide +kernel) (by decide +kernel)), ⟨by decide +kernel, by decide +kernel⟩, by decide +kernel, by decide⟩
theorem msX9_at : ab_mS yX9_at := (ab_inT 746 (by decide +kernel) (by decide +kernel))
theorem miX9_put : ab_mI yX9_put cX9_put 3 none 3 := ⟨(ab_inT 714 (by decide +kernel) (by decide +kernel)), (ab_inT 166 (by decide +kernel) (by decide +kernel)), ⟨by decide +kernel, by decide +kernel⟩, by decide +kernel, by decide⟩
theorem msX9_put : ab_mS yX9_put := (ab_inT 713 (by decide +kernel) (by decide +kernel))
theorem miX9_copy : ab_mI yX9_copy cX9_copy 3 none 2 := ⟨(ab_inT 960 (by decide +kernel) (by decide +kernel)), (ab_inT 166 (by decide +kernel) (by decide +kernel)), ⟨by decide +kernel, by decide +kernel⟩, by decide +kernel, by decide⟩
theorem msX9_copy : ab_mS yX9_copy := (ab_inT 959 (by decide +kernel) (by decide +kernel))
theorem miX9_sum : ab_mI yX9_sum cX9_sum 6 (some .int) 1 := ⟨(ab_inT 1018 (by decide +kernel) (by decide +kernel)), (ab_inT 166 (by decide +kernel) (by decide +kernel)), ⟨by decide +kernel, by decide +kernel⟩, by decide +kernel, by decide⟩
theorem msX9_sum : ab_mS yX9_sum := (ab_inT 1017 (by decide +kernel) (by decide +kernel))
theorem miX9_indexOf : ab_mI yX9_indexOf cX9_indexOf 5 (some .int) 3 := ⟨(ab_inT 676 (by decide +kernel) (by decide +kernel)), (ab_inT 166 (by decide +kernel) (by decide +kernel)), ⟨by decide +kernel, by decide +kernel⟩, by decide +kernel, by decide⟩
theorem msX9_indexOf : ab_mS yX9_indexOf := (ab_inT 675 (by decide +kernel) (by decide +kernel))
theorem miX9_spell : ab_mI yX9_spell cX9_spell 3 (some .long) 2 := ⟨(ab_inT 523 (by decide +kernel) (by decide +kernel)), (ab_inT 166 (by decide +kernel) (by decide +kernel)), ⟨by decide +kernel, by decide +kernel⟩, by decide +kernel, by decide⟩
theorem msX9_spell : ab_mS yX9_spell := (ab_inT 522 (by decide +kernel) (by decide +kernel))
theorem miX10_thrown : ab_mI yX10_thrown cX10_thrown 1 (some .int) 0 := ⟨(ab_inT 1419 (by decide +kernel) (by decide +kernel)), (ab_inT 175 (by decide +kernel) (by decide +kernel)), ⟨by decide +kernel, by decide +kernel⟩, by decide +kernel, by decide⟩
theorem mvX10_thrown : ab_mV yX10_thrown := ⟨(ab_inT 1417 (by decide +kernel) (by decide +kernel)), (ab_inT 1418 (by decide +kernel) (by decide +kernel))⟩
theorem miX10_feed : ab_mI yX10_feed cX10_feed 7 (some .int) 3 := ⟨(ab_inT 1423 (by decide +kernel) (by decide +kernel)), (ab_inT 175 (by decide +kernel) (by decide +kernel)), ⟨by decide +kernel, by decide +kernel⟩, by decide +kernel, by decide⟩
theorem mvX10_feed : ab_mV yX10_feed := ⟨(ab_inT 1421 (by decide +kernel) (by decide +kernel)), (ab_inT 1422 (by decide +kernel) (by decide +kernel))⟩
theorem miX10_lay : ab_mI yX10_lay cX10_lay 5 none 1 := ⟨(ab_inT 1428 (by decide +kernel) (by decide +kernel)), (ab_inT 175 (by decide +kernel) (by decide +kernel)), ⟨by decide +kernel, by decide +kernel⟩, by decide +kernel, by decide⟩
theorem mvX10_lay : ab_mV yX10_lay := ⟨(ab_inT 1426 (by decide +kernel) (by decide +kernel)), (ab_inT 99 (by decide +kernel) (by decide +kernel))⟩
theorem miX10_isLetter : ab_mI yX10_isLetter cX10_isLetter 1 (some .boolean) 1 := ⟨(ab_inT 1587 (by decide +kernel) (by decide +kernel)), (ab_inT 175 (by decide +kernel) (by decide +kernel)), ⟨by decide +kernel, by decide +kernel⟩, by decide +kernel, by decide⟩
theorem msX10_isLetter : ab_mS yX10_isLetter := (ab_inT 1586 (by decide +kernel) (by decide +kernel))
theorem miX10_isDigit : ab_mI yX10_isDigit cX10_isDigit 1 (some .boolean) 1 := ⟨(ab_inT 1594 (by decide +kernel) (by decide +kernel)), (ab_inT 175 (by decide +kernel) (by decide +kernel)), ⟨by decide +kernel, by decide +kernel⟩, by decide +kernel, by decide⟩
theorem msX10_isDigit : ab_mS yX10_isDigit := (ab_inT 1593 (by decide +kernel) (by decide +kernel))
theorem miX10_rank : ab_mI yX10_rank cX10_rank 1 (some .int) 1 := ⟨(ab_inT 1591 (by decide +kernel) (by decide +kernel)), (ab_inT 175 (by decide +kernel) (by decide +kernel)), ⟨by decide +kernel, by decide +kernel⟩, by decide +kernel, by decide⟩
theorem msX10_rank : ab_mS yX10_rank := (ab_inT 1590 (by decide +kernel) (by decide +kernel))
theorem miX10_isSignOf : ab_mI yX10_isSignOf cX10_isSignOf 1 (some .boolean) 1 := ⟨(ab_inT 1599 (by decide +kernel) (by decide +kernel)), (ab_inT 175 (by decide +kernel) (by decide +kernel)), ⟨by decide +kernel, by decide +kernel⟩, by decide +kernel, by decide⟩
theorem msX10_isSignOf : ab_mS yX10_isSignOf := (ab_inT 1598 (by decide +kernel) (by decide +kernel))
theorem miX10_cutAll : ab_mI yX10_cutAll cX10_cutAll 7 none 0 := ⟨(ab_inT 1584 (by decide +kernel) (by decide +kernel)), (ab_inT 175 (by decide +kernel) (by decide +kernel)), ⟨by decide +kernel, by decide +kernel⟩, by decide +kernel, by decide⟩
theorem mvX10_cutAll : ab_mV yX10_cutAll := ⟨(ab_inT 1583 (by decide +kernel) (by decide +kernel)), (ab_inT 105 (by decide +kernel) (by decide +kernel))⟩
theorem miX10_wrong : ab_mI yX10_wrong cX10_wrong 2 none 1 := ⟨(ab_inT 1615 (by decide +kernel) (by decide +kernel)), (ab_inT 175 (by decide +kernel) (by decide +kernel)), ⟨by decide +kernel, by decide +kernel⟩, by decide +kernel, by decide⟩
theorem mvX10_wrong : ab_mV yX10_wrong := ⟨(ab_inT 1614 (by decide +kernel) (by decide +kernel)), (ab_inT 109 (by decide +kernel) (by decide +kernel))⟩
theorem miX10_isSign : ab_mI yX10_isSign cX10_isSign 2 (some .boolean) 1 := ⟨(ab_inT 1686 (by decide +kernel) (by decide +kernel)), (ab_inT 175 (by decide +kernel) (by decide +kernel)), ⟨by decide +kernel, by decide +kernel⟩, by decide +kernel, by decide⟩
theorem mvX10_isSign : ab_mV yX10_isSign := ⟨(ab_inT 1685 (by decide +kernel) (by decide +kernel)), (ab_inT 126 (by decide +kernel) (by decide +kernel))⟩
theorem miX10_isWord : ab_mI yX10_isWord cX10_isWord 2 (some .boolean) 1 := ⟨(ab_inT 1607 (by decide +kernel) (by decide +kernel)), (ab_inT 175 (by decide +kernel) (by decide +kernel)), ⟨by decide +kernel, by decide +kernel⟩, by decide +kernel, by decide⟩
theorem mvX10_isWord : ab_mV yX10_isWord := ⟨(ab_inT 1606 (by decide +kernel) (by decide +kernel)), (ab_inT 107 (by decide +kernel) (by decide +kernel))⟩
theorem miX10_takeSign : ab_mI yX10_takeSign cX10_takeSign 2 none 1 := ⟨(ab_inT 1698 (by decide +kernel) (by decide +kernel)), (ab_inT 175 (by decide +kernel) (by decide +kernel)), ⟨by decide +kernel, by decide +kernel⟩, by decide +kernel, by decide⟩
theorem mvX10_takeSign : ab_mV yX10_takeSign := ⟨(ab_inT 1697 (by decide +kernel) (by decide +kernel)), (ab_inT 129 (by decide +kernel) (by decide +kernel))⟩
theorem miX10_hasSign : ab_mI yX10_hasSign cX10_hasSign 3 (some .boolean) 1 := ⟨(ab_inT 1694 (by decide +kernel) (by decide +kernel)), (ab_inT 175 (by decide +kernel) (by decide +kernel)), ⟨by decide +kernel, by decide +kernel⟩, by decide +kernel, by decide⟩
theorem mvX10_hasSign : ab_mV yX10_hasSign := ⟨(ab_inT 1693 (by decide +kernel) (by decide +kernel)), (ab_inT 128 (by decide +kernel) (by decide +kernel))⟩
theorem miX10_hasWord : ab_mI yX10_hasWord cX10_hasWord 3 (some .boolean) 1 := ⟨(ab_inT 1643 (by decide +kernel) (by decide +kernel)), (ab_inT 175 (by decide +kernel) (by decide +kernel)), ⟨by decide +kernel, by decide +kernel⟩, by decide +kernel, by decide⟩
theorem mvX10_hasWord : ab_mV yX10_hasWord := ⟨(ab_inT 1642 (by decide +kernel) (by decide +kernel)), (ab_inT 116 (by decide +kernel) (by decide +kernel))⟩
theorem miX10_takeWord : ab_mI yX10_takeWord cX10_takeWord 2 none 1 := ⟨(ab_inT 1639 (by decide +kernel) (by decide +kernel)), (ab_inT 175 (by decide +kernel) (by decide +kernel)), ⟨by decide +kernel, by decide +kernel⟩, by decide +kernel, by decide⟩
theorem mvX10_takeWord : ab_mV yX10_takeWord := ⟨(ab_inT 1638 (by decide +kernel) (by decide +kernel)), (ab_inT 115 (by decide +kernel) (by decide +kernel))⟩
theorem miX10_within : ab_mI yX10_within cX10_within 3 (some .boolean) 3 := ⟨(ab_inT 1654 (by decide +kernel) (by decide +kernel)), (ab_inT 175 (by decide +kernel) (by decide +kernel)), ⟨by decide +kernel, by decide +kernel⟩, by decide +kernel, by decide⟩
theorem msX10_within : ab_mS yX10_within := (ab_inT 1653 (by decide +kernel) (by decide +kernel))
theorem miX10_standsAsAlways : ab_mI yX10_standsAsAlways cX10_standsAsAlways 3 none 1 := ⟨(ab_inT 1460 (by decide +kernel) (by decide +kernel)), (ab_inT 175 (by decide +kernel) (by decide +kernel)), ⟨by decide +kernel, by decide +kernel⟩, by decide +kernel, by decide⟩
theorem mvX10_standsAsAlways : ab_mV yX10_standsAsAlways := ⟨(ab_inT 1459 (by decide +kernel) (by decide +kernel)), (ab_inT 100 (by decide +kernel) (by decide +kernel))⟩
theorem miX10_takeNumber : ab_mI yX10_takeNumber cX10_takeNumber 3 (some .int) 2 := ⟨(ab_inT 1647 (by decide +kernel) (by decide +kernel)), (ab_inT 175 (by decide +kernel) (by decide +kernel)), ⟨by decide +kernel, by decide +kernel⟩, by decide +kernel, by decide⟩
theorem mvX10_takeNumber : ab_mV yX10_takeNumber := ⟨(ab_inT 1646 (by decide +kernel) (by decide +kernel)), (ab_inT 117 (by decide +kernel) (by decide +kernel))⟩
theorem miX10_takeAfter : ab_mI yX10_takeAfter cX10_takeAfter 4 (some .int) 3 := ⟨(ab_inT 1635 (by decide +kernel) (by decide +kernel)), (ab_inT 175 (by decide +kernel) (by decide +kernel)), ⟨by decide +kernel, by decide +kernel⟩, by decide +kernel, by decide⟩
theorem mvX10_takeAfter : ab_mV yX10_takeAfter := ⟨(ab_inT 1634 (by decide +kernel) (by decide +kernel)), (ab_inT 114 (by decide +kernel) (by decide +kernel))⟩
theorem miX10_wordHere : ab_mI yX10_wordHere cX10_wordHere 5 (some .int) 2 := ⟨(ab_inT 1623 (by decide +kernel) (by decide +kernel)), (ab_inT 175 (by decide +kernel) (by decide +kernel)), ⟨by decide +kernel, by decide +kernel⟩, by decide +kernel, by decide⟩
theorem mvX10_wordHere : ab_mV yX10_wordHere := ⟨(ab_inT 1622 (by decide +kernel) (by decide +kernel)), (ab_inT 111 (by decide +kernel) (by decide +kernel))⟩
theorem miX10_takeOne : ab_mI yX10_takeOne cX10_takeOne 4 (some .int) 2 := ⟨(ab_inT 1631 (by decide +kernel) (by decide +kernel)), (ab_inT 175 (by decide +kernel) (by decide +kernel)), ⟨by decide +kernel, by decide +kernel⟩, by decide +kernel, by decide⟩
theorem mvX10_takeOne : ab_mV yX10_takeOne := ⟨(ab_inT 1630 (by decide +kernel) (by decide +kernel)), (ab_inT 113 (by decide +kernel) (by decide +kernel))⟩
theorem miX10_isName : ab_mI yX10_isName cX10_isName 1 (some .boolean) 0 := ⟨(ab_inT 1619 (by decide +kernel) (by decide +kernel)), (ab_inT 175 (by decide +kernel) (by decide +kernel)), ⟨by decide +kernel, by decide +kernel⟩, by decide +kernel, by decide⟩
theorem mvX10_isName : ab_mV yX10_isName := ⟨(ab_inT 1618 (by decide +kernel) (by decide +kernel)), (ab_inT 110 (by decide +kernel) (by decide +kernel))⟩
theorem miX10_nameAt : ab_mI yX10_nameAt cX10_nameAt 3 (some .int) 1 := ⟨(ab_inT 1627 (by decide +kernel) (by decide +kernel)), (ab_inT 175 (by decide +kernel) (by decide +kernel)), ⟨by decide +kernel, by decide +kernel⟩, by decide +kernel, by decide⟩
theorem mvX10_nameAt : ab_mV yX10_nameAt := ⟨(ab_inT 1626 (by decide +kernel) (by decide +kernel)), (ab_inT 112 (by decide +kernel) (by decide +kernel))⟩
theorem miX10_takeTold : ab_mI yX10_takeTold cX10_takeTold 5 (some .int) 3 := ⟨(ab_inT 1651 (by decide +kernel) (by decide +kernel)), (ab_inT 175 (by decide +kernel) (by decide +kernel)), ⟨by decide +kernel, by decide +kernel⟩, by decide +kernel, by decide⟩
theorem mvX10_takeTold : ab_mV yX10_takeTold := ⟨(ab_inT 1650 (by decide +kernel) (by decide +kernel)), (ab_inT 118 (by decide +kernel) (by decide +kernel))⟩
theorem miX10_office : ab_mI yX10_office cX10_office 2 (some .int) 0 := ⟨(ab_inT 1580 (by decide +kernel) (by decide +kernel)), (ab_inT 175 (by decide +kernel) (by decide +kernel)), ⟨by decide +kernel, by decide +kernel⟩, by decide +kernel, by decide⟩
theorem mvX10_office : ab_mV yX10_office := ⟨(ab_inT 1578 (by decide +kernel) (by decide +kernel)), (ab_inT 1579 (by decide +kernel) (by decide +kernel))⟩
theorem miX10_readLine : ab_mI yX10_readLine cX10_readLine 4 none 0 := ⟨(ab_inT 1603 (by decide +kernel) (by decide +kernel)), (ab_inT 175 (by decide +kernel) (by decide +kernel)), ⟨by decide +kernel, by decide +kernel⟩, by decide +kernel, by decide⟩
theorem mvX10_readLine : ab_mV yX10_readLine := ⟨(ab_inT 1602 (by decide +kernel) (by decide +kernel)), (ab_inT 106 (by decide +kernel) (by decide +kernel))⟩
theorem miX10_readName : ab_mI yX10_readName cX10_readName 5 none 3 := ⟨(ab_inT 1611 (by decide +kernel) (by decide +kernel)), (ab_inT 175 (by decide +kernel) (by decide +kernel)), ⟨by decide +kernel, by decide +kernel⟩, by decide +kernel, by decide⟩
theorem mvX10_readName : ab_mV yX10_readName := ⟨(ab_inT 1610 (by decide +kernel) (by decide +kernel)), (ab_inT 108 (by decide +kernel) (by decide +kernel))⟩
theorem miX10_readLike : ab_mI yX10_readLike cX10_readLike 4 none 0 := ⟨(ab_inT 1658 (by decide +kernel) (by decide +kernel)), (ab_inT 175 (by decide +kernel) (by decide +kernel)), ⟨by decide +kernel, by decide +kernel⟩, by decide +kernel, by decide⟩
theorem mvX10_readLike : ab_mV yX10_readLike := ⟨(ab_inT 1657 (by decide +kernel) (by decide +kernel)), (ab_inT 119 (by decide +kernel) (by decide +kernel))⟩
theorem miX10_readOnce : ab_mI yX10_readOnce cX10_readOnce 2 none 0 := ⟨(ab_inT 1662 (by decide +kernel) (by decide +kernel)), (ab_inT 175 (by decide +kernel) (by decide +kernel)), ⟨by decide +kernel, by decide +kernel⟩, by decide +kernel, by decide⟩
theorem mvX10_readOnce : ab_mV yX10_readOnce := ⟨(ab_inT 1661 (by decide +kernel) (by decide +kernel)), (ab_inT 120 (by decide +kernel) (by decide +kernel))⟩
theorem miX10_year : ab_mI yX10_year cX10_year 3 (some .int) 0 := ⟨(ab_inT 1702 (by decide +kernel) (by decide +kernel)), (ab_inT 175 (by decide +kernel) (by decide +kernel)), ⟨by decide +kernel, by decide +kernel⟩, by decide +kernel, by decide⟩
theorem mvX10_year : ab_mV yX10_year := ⟨(ab_inT 1700 (by decide +kernel) (by decide +kernel)), (ab_inT 1701 (by decide +kernel) (by decide +kernel))⟩
theorem miX10_readYear : ab_mI yX10_readYear cX10_readYear 3 none 2 := ⟨(ab_inT 1706 (by decide +kernel) (by decide +kernel)), (ab_inT 175 (by decide +kernel) (by decide +kernel)), ⟨by decide +kernel, by decide +kernel⟩, by decide +kernel, by decide⟩
theorem mvX10_readYear : ab_mV yX10_readYear := ⟨(ab_inT 1705 (by decide +kernel) (by decide +kernel)), (ab_inT 130 (by decide +kernel) (by decide +kernel))⟩
theorem miX10_emit : ab_mI yX10_emit cX10_emit 3 none 2 := ⟨(ab_inT 1690 (by decide +kernel) (by decide +kernel)), (ab_inT 175 (by decide +kernel) (by decide +kernel)), ⟨by decide +kernel, by decide +kernel⟩, by decide +kernel, by decide⟩
theorem mvX10_emit : ab_mV yX10_emit := ⟨(ab_inT 1689 (by decide +kernel) (by decide +kernel)), (ab_inT 127 (by decide +kernel) (by decide +kernel))⟩
theorem miX10_whole : ab_mI yX10_whole cX10_whole 3 none 1 := ⟨(ab_inT 1666 (by decide +kernel) (by decide +kernel)), (ab_inT 175 (by decide +kernel) (by decide +kernel)), ⟨by decide +kernel, by decide +kernel⟩, by decide +kernel, by decide⟩
theorem mvX10_whole : ab_mV yX10_whole := ⟨(ab_inT 1665 (by decide +kernel) (by decide +kernel)), (ab_inT 121 (by decide +kernel) (by decide +kernel))⟩
theorem miX10_test : ab_mI yX10_test cX10_test 3 none 1 := ⟨(ab_inT 1670 (by decide +kernel) (by decide +kernel)), (ab_inT 175 (by decide +kernel) (by decide +kernel)), ⟨by decide +kernel, by decide +kernel⟩, by decide +kernel, by decide⟩
theorem mvX10_test : ab_mV yX10_test := ⟨(ab_inT 1669 (by decide +kernel) (by decide +kernel)), (ab_inT 122 (by decide +kernel) (by decide +kernel))⟩
theorem miX10_sums : ab_mI yX10_sums cX10_sums 3 none 1 := ⟨(ab_inT 1674 (by decide +kernel) (by decide +kernel)), (ab_inT 175 (by decide +kernel) (by decide +kernel)), ⟨by decide +kernel, by decide +kernel⟩, by decide +kernel, by decide⟩
theorem mvX10_sums : ab_mV yX10_sums := ⟨(ab_inT 1673 (by decide +kernel) (by decide +kernel)), (ab_inT 123 (by decide +kernel) (by decide +kernel))⟩
theorem miX10_products : ab_mI yX10_products cX10_products 2 none 1 := ⟨(ab_inT 1678 (by decide +kernel) (by decide +kernel)), (ab_inT 175 (by decide +kernel) (by decide +kernel)), ⟨by decide +kernel, by decide +kernel⟩, by decide +kernel, by decide⟩
theorem mvX10_products : ab_mV yX10_products := ⟨(ab_inT 1677 (by decide +kernel) (by decide +kernel)), (ab_inT 124 (by decide +kernel) (by decide +kernel))⟩
theorem miX10_takePart : ab_mI yX10_takePart cX10_takePart 4 none 1 := ⟨(ab_inT 1682 (by decide +kernel) (by decide +kernel)), (ab_inT 175 (by decide +kernel) (by decide +kernel)), ⟨by decide +kernel, by decide +kernel⟩, by decide +kernel, by decide⟩
theorem mvX10_takePart : ab_mV yX10_takePart := ⟨(ab_inT 1681 (by decide +kernel) (by decide +kernel)), (ab_inT 125 (by decide +kernel) (by decide +kernel))⟩
theorem miX10_worthAt : ab_mI yX10_worthAt cX10_worthAt 5 (some .int) 1 := ⟨(ab_inT 1753 (by decide +kernel) (by decide +kernel)), (ab_inT 175 (by decide +kernel) (by decide +kernel)), ⟨by decide +kernel, by decide +kernel⟩, by decide +kernel, by decide⟩
theorem mvX10_worthAt : ab_mV yX10_worthAt := ⟨(ab_inT 1752 (by decide +kernel) (by decide +kernel)), (ab_inT 138 (by decide +kernel) (by decide +kernel))⟩
theorem miX10_both : ab_mI yX10_both cX10_both 3 (some .int) 3 := ⟨(ab_inT 1756 (by decide +kernel) (by decide +kernel)), (ab_inT 175 (by decide +kernel) (by decide +kernel)), ⟨by decide +kernel, by decide +kernel⟩, by decide +kernel, by decide⟩
theorem msX10_both : ab_mS yX10_both := (ab_inT 1755 (by decide +kernel) (by decide +kernel))
theorem miX10_copies : ab_mI yX10_copies cX10_copies 5 none 3 := ⟨(ab_inT 1772 (by decide +kernel) (by decide +kernel)), (ab_inT 175 (by decide +kernel) (by decide +kernel)), ⟨by decide +kernel, by decide +kernel⟩, by decide +kernel, by decide⟩
theorem mvX10_copies : ab_mV yX10_copies := ⟨(ab_inT 1771 (by decide +kernel) (by decide +kernel)), (ab_inT 141 (by decide +kernel) (by decide +kernel))⟩
theorem miX10_starts : ab_mI yX10_starts cX10_starts 3 none 1 := ⟨(ab_inT 1468 (by decide +kernel) (by decide +kernel)), (ab_inT 175 (by decide +kernel) (by decide +kernel)), ⟨by decide +kernel, by decide +kernel⟩, by decide +kernel, by decide⟩
theorem mvX10_starts : ab_mV yX10_starts := ⟨(ab_inT 1467 (by decide +kernel) (by decide +kernel)), (ab_inT 102 (by decide +kernel) (by decide +kernel))⟩
theorem miX10_begins : ab_mI yX10_begins cX10_begins 2 none 0 := ⟨(ab_inT 1464 (by decide +kernel) (by decide +kernel)), (ab_inT 175 (by decide +kernel) (by decide +kernel)), ⟨by decide +kernel, by decide +kernel⟩, by decide +kernel, by decide⟩
theorem mvX10_begins : ab_mV yX10_begins := ⟨(ab_inT 1463 (by decide +kernel) (by decide +kernel)), (ab_inT 101 (by decide +kernel) (by decide +kernel))⟩
theorem miX10_keeps : ab_mI yX10_keeps cX10_keeps 2 none 0 := ⟨(ab_inT 1768 (by decide +kernel) (by decide +kernel)), (ab_inT 175 (by decide +kernel) (by decide +kernel)), ⟨by decide +kernel, by decide +kernel⟩, by decide +kernel, by decide⟩
theorem mvX10_keeps : ab_mV yX10_keeps := ⟨(ab_inT 1767 (by decide +kernel) (by decide +kernel)), (ab_inT 140 (by decide +kernel) (by decide +kernel))⟩
theorem miX10_persons : ab_mI yX10_persons cX10_persons 1 (some .int) 0 := ⟨(ab_inT 1472 (by decide +kernel) (by decide +kernel)), (ab_inT 175 (by decide +kernel) (by decide +kernel)), ⟨by decide +kernel, by decide +kernel⟩, by decide +kernel, by decide⟩
theorem mvX10_persons : ab_mV yX10_persons := ⟨(ab_inT 1471 (by decide +kernel) (by decide +kernel)), (ab_inT 103 (by decide +kernel) (by decide +kernel))⟩
theorem miX10_goods : ab_mI yX10_goods cX10_goods 1 (some .int) 0 := ⟨(ab_inT 1722 (by decide +kernel) (by decide +kernel)), (ab_inT 175 (by decide +kernel) (by decide +kernel)), ⟨by decide +kernel, by decide +kernel⟩, by decide +kernel, by decide⟩
theorem mvX10_goods : ab_mV yX10_goods := ⟨(ab_inT 1721 (by decide +kernel) (by decide +kernel)), (ab_inT 133 (by decide +kernel) (by decide +kernel))⟩
theorem miX10_personOf : ab_mI yX10_personOf cX10_personOf 3 (some .int) 2 := ⟨(ab_inT 1476 (by decide +kernel) (by decide +kernel)), (ab_inT 175 (by decide +kernel) (by decide +kernel)), ⟨by decide +kernel, by decide +kernel⟩, by decide +kernel, by decide⟩
theorem mvX10_personOf : ab_mV yX10_personOf := ⟨(ab_inT 1475 (by decide +kernel) (by decide +kernel)), (ab_inT 104 (by decide +kernel) (by decide +kernel))⟩
theorem miX10_goodOf : ab_mI yX10_goodOf cX10_goodOf 3 (some .int) 2 := ⟨(ab_inT 1734 (by decide +kernel) (by decide +kernel)), (ab_inT 175 (by decide +kernel) (by decide +kernel)), ⟨by decide +kernel, by decide +kernel⟩, by decide +kernel, by decide⟩
theorem mvX10_goodOf : ab_mV yX10_goodOf := ⟨(ab_inT 1733 (by decide +kernel) (by decide +kernel)), (ab_inT 135 (by decide +kernel) (by decide +kernel))⟩
theorem miX10_isPerson : ab_mI yX10_isPerson cX10_isPerson 2 (some .boolean) 1 := ⟨(ab_inT 1714 (by decide +kernel) (by decide +kernel)), (ab_inT 175 (by decide +kernel) (by decide +kernel)), ⟨by decide +kernel, by decide +kernel⟩, by decide +kernel, by decide⟩
theorem mvX10_isPerson : ab_mV yX10_isPerson := ⟨(ab_inT 1713 (by decide +kernel) (by decide +kernel)), (ab_inT 131 (by decide +kernel) (by decide +kernel))⟩
theorem miX10_isGood : ab_mI yX10_isGood cX10_isGood 2 (some .boolean) 1 := ⟨(ab_inT 1730 (by decide +kernel) (by decide +kernel)), (ab_inT 175 (by decide +kernel) (by decide +kernel)), ⟨by decide +kernel, by decide +kernel⟩, by decide +kernel, by decide⟩
theorem mvX10_isGood : ab_mV yX10_isGood := ⟨(ab_inT 1729 (by decide +kernel) (by decide +kernel)), (ab_inT 134 (by decide +kernel) (by decide +kernel))⟩
theorem miX10_bits : ab_mI yX10_bits cX10_bits 3 (some .int) 1 := ⟨(ab_inT 1745 (by decide +kernel) (by decide +kernel)), (ab_inT 175 (by decide +kernel) (by decide +kernel)), ⟨by decide +kernel, by decide +kernel⟩, by decide +kernel, by decide⟩
theorem msX10_bits : ab_mS yX10_bits := (ab_inT 1744 (by decide +kernel) (by decide +kernel))
theorem miX10_heldBy : ab_mI yX10_heldBy cX10_heldBy 5 (some .int) 2 := ⟨(ab_inT 1718 (by decide +kernel) (by decide +kernel)), (ab_inT 175 (by decide +kernel) (by decide +kernel)), ⟨by decide +kernel, by decide +kernel⟩, by decide +kernel, by decide⟩
theorem mvX10_heldBy : ab_mV yX10_heldBy := ⟨(ab_inT 1717 (by decide +kernel) (by decide +kernel)), (ab_inT 132 (by decide +kernel) (by decide +kernel))⟩
theorem miX10_fitBy : ab_mI yX10_fitBy cX10_fitBy 5 (some .int) 3 := ⟨(ab_inT 1749 (by decide +kernel) (by decide +kernel)), (ab_inT 175 (by decide +kernel) (by decide +kernel)), ⟨by decide +kernel, by decide +kernel⟩, by decide +kernel, by decide⟩
theorem mvX10_fitBy : ab_mV yX10_fitBy := ⟨(ab_inT 1748 (by decide +kernel) (by decide +kernel)), (ab_inT 137 (by decide +kernel) (by decide +kernel))⟩
theorem miX10_fitOf : ab_mI yX10_fitOf cX10_fitOf 4 (some .int) 3 := ⟨(ab_inT 1742 (by decide +kernel) (by decide +kernel)), (ab_inT 175 (by decide +kernel) (by decide +kernel)), ⟨by decide +kernel, by decide +kernel⟩, by decide +kernel, by decide⟩
theorem mvX10_fitOf : ab_mV yX10_fitOf := ⟨(ab_inT 1741 (by decide +kernel) (by decide +kernel)), (ab_inT 136 (by decide +kernel) (by decide +kernel))⟩
theorem miX10_fitOfAll : ab_mI yX10_fitOfAll cX10_fitOfAll 6 (some .int) 3 := ⟨(ab_inT 1888 (by decide +kernel) (by decide +kernel)), (ab_inT 175 (by decide +kernel) (by decide +kernel)), ⟨by decide +kernel, by decide +kernel⟩, by decide +kernel, by decide⟩
theorem mvX10_fitOfAll : ab_mV yX10_fitOfAll := ⟨(ab_inT 1887 (by decide +kernel) (by decide +kernel)), (ab_inT 154 (by decide +kernel) (by decide +kernel))⟩
theorem miX10_joyOf : ab_mI yX10_joyOf cX10_joyOf 4 (some .int) 2 := ⟨(ab_inT 1884 (by decide +kernel) (by decide +kernel)), (ab_inT 175 (by decide +kernel) (by decide +kernel)), ⟨by decide +kernel, by decide +kernel⟩, by decide +kernel, by decide⟩
theorem mvX10_joyOf : ab_mV yX10_joyOf := ⟨(ab_inT 1883 (by decide +kernel) (by decide +kernel)), (ab_inT 153 (by decide +kernel) (by decide +kernel))⟩
theorem miX10_joyOfAll : ab_mI yX10_joyOfAll cX10_joyOfAll 4 (some .int) 1 := ⟨(ab_inT 2029 (by decide +kernel) (by decide +kernel)), (ab_inT 175 (by decide +kernel) (by decide +kernel)), ⟨by decide +kernel, by decide +kernel⟩, by decide +kernel, by decide⟩
theorem mvX10_joyOfAll : ab_mV yX10_joyOfAll := ⟨(ab_inT 2028 (by decide +kernel) (by decide +kernel)), (ab_inT 164 (by decide +kernel) (by decide +kernel))⟩
theorem miX10_rightsOf : ab_mI yX10_rightsOf cX10_rightsOf 4 (some .int) 1 := ⟨(ab_inT 1836 (by decide +kernel) (by decide +kernel)), (ab_inT 175 (by decide +kernel) (by decide +kernel)), ⟨by decide +kernel, by decide +kernel⟩, by decide +kernel, by decide⟩
theorem mvX10_rightsOf : ab_mV yX10_rightsOf := ⟨(ab_inT 1835 (by decide +kernel) (by decide +kernel)), (ab_inT 151 (by decide +kernel) (by decide +kernel))⟩
theorem miX10_sumOf : ab_mI yX10_sumOf cX10_sumOf 4 (some .int) 1 := ⟨(ab_inT 1808 (by decide +kernel) (by decide +kernel)), (ab_inT 175 (by decide +kernel) (by decide +kernel)), ⟨by decide +kernel, by decide +kernel⟩, by decide +kernel, by decide⟩
theorem mvX10_sumOf : ab_mV yX10_sumOf := ⟨(ab_inT 1807 (by decide +kernel) (by decide +kernel)), (ab_inT 147 (by decide +kernel) (by decide +kernel))⟩
theorem miX10_mayBuy : ab_mI yX10_mayBuy cX10_mayBuy 3 (some .boolean) 2 := ⟨(ab_inT 1764 (by decide +kernel) (by decide +kernel)), (ab_inT 175 (by decide +kernel) (by decide +kernel)), ⟨by decide +kernel, by decide +kernel⟩, by decide +kernel, by decide⟩
theorem mvX10_mayBuy : ab_mV yX10_mayBuy := ⟨(ab_inT 1763 (by decide +kernel) (by decide +kernel)), (ab_inT 139 (by decide +kernel) (by decide +kernel))⟩
theorem miX10_buys : ab_mI yX10_buys cX10_buys 3 none 2 := ⟨(ab_inT 1776 (by decide +kernel) (by decide +kernel)), (ab_inT 175 (by decide +kernel) (by decide +kernel)), ⟨by decide +kernel, by decide +kernel⟩, by decide +kernel, by decide⟩
theorem mvX10_buys : ab_mV yX10_buys := ⟨(ab_inT 1775 (by decide +kernel) (by decide +kernel)), (ab_inT 142 (by decide +kernel) (by decide +kernel))⟩
theorem miX10_doesLike : ab_mI yX10_doesLike cX10_doesLike 6 (some .boolean) 4 := ⟨(ab_inT 1788 (by decide +kernel) (by decide +kernel)), (ab_inT 175 (by decide +kernel) (by decide +kernel)), ⟨by decide +kernel, by decide +kernel⟩, by decide +kernel, by decide⟩
theorem mvX10_doesLike : ab_mV yX10_doesLike := ⟨(ab_inT 1787 (by decide +kernel) (by decide +kernel)), (ab_inT 144 (by decide +kernel) (by decide +kernel))⟩
theorem miX10_maySwap : ab_mI yX10_maySwap cX10_maySwap 6 (some .boolean) 3 := ⟨(ab_inT 1784 (by decide +kernel) (by decide +kernel)), (ab_inT 175 (by decide +kernel) (by decide +kernel)), ⟨by decide +kernel, by decide +kernel⟩, by decide +kernel, by decide⟩
theorem mvX10_maySwap : ab_mV yX10_maySwap := ⟨(ab_inT 1783 (by decide +kernel) (by decide +kernel)), (ab_inT 143 (by decide +kernel) (by decide +kernel))⟩
theorem miX10_swaps : ab_mI yX10_swaps cX10_swaps 5 none 3 := ⟨(ab_inT 1792 (by decide +kernel) (by decide +kernel)), (ab_inT 175 (by decide +kernel) (by decide +kernel)), ⟨by decide +kernel, by decide +kernel⟩, by decide +kernel, by decide⟩
theorem mvX10_swaps : ab_mV yX10_swaps := ⟨(ab_inT 1791 (by decide +kernel) (by decide +kernel)), (ab_inT 145 (by decide +kernel) (by decide +kernel))⟩
theorem miX10_draw : ab_mI yX10_draw cX10_draw 5 (some .int) 2 := ⟨(ab_inT 1812 (by decide +kernel) (by decide +kernel)), (ab_inT 175 (by decide +kernel) (by decide +kernel)), ⟨by decide +kernel, by decide +kernel⟩, by decide +kernel, by decide⟩
theorem mvX10_draw : ab_mV yX10_draw := ⟨(ab_inT 1811 (by decide +kernel) (by decide +kernel)), (ab_inT 148 (by decide +kernel) (by decide +kernel))⟩
theorem miX10_ownerOf : ab_mI yX10_ownerOf cX10_ownerOf 5 (some .int) 2 := ⟨(ab_inT 1820 (by decide +kernel) (by decide +kernel)), (ab_inT 175 (by decide +kernel) (by decide +kernel)), ⟨by decide +kernel, by decide +kernel⟩, by decide +kernel, by decide⟩
theorem mvX10_ownerOf : ab_mV yX10_ownerOf := ⟨(ab_inT 1819 (by decide +kernel) (by decide +kernel)), (ab_inT 149 (by decide +kernel) (by decide +kernel))⟩
theorem miX10_settles : ab_mI yX10_settles cX10_settles 6 none 2 := ⟨(ab_inT 1824 (by decide +kernel) (by decide +kernel)), (ab_inT 175 (by decide +kernel) (by decide +kernel)), ⟨by decide +kernel, by decide +kernel⟩, by decide +kernel, by decide⟩
theorem mvX10_settles : ab_mV yX10_settles := ⟨(ab_inT 1823 (by decide +kernel) (by decide +kernel)), (ab_inT 150 (by decide +kernel) (by decide +kernel))⟩
theorem miX10_passes : ab_mI yX10_passes cX10_passes 8 (some .int) 1 := ⟨(ab_inT 1804 (by decide +kernel) (by decide +kernel)), (ab_inT 175 (by decide +kernel) (by decide +kernel)), ⟨by decide +kernel, by decide +kernel⟩, by decide +kernel, by decide⟩
theorem mvX10_passes : ab_mV yX10_passes := ⟨(ab_inT 1803 (by decide +kernel) (by decide +kernel)), (ab_inT 146 (by decide +kernel) (by decide +kernel))⟩
theorem miX10_person : ab_mI yX10_person cX10_person 3 (some .int) 2 := ⟨(ab_inT 1710 (by decide +kernel) (by decide +kernel)), (ab_inT 175 (by decide +kernel) (by decide +kernel)), ⟨by decide +kernel, by decide +kernel⟩, by decide +kernel, by decide⟩
theorem mvX10_person : ab_mV yX10_person := ⟨(ab_inT 1708 (by decide +kernel) (by decide +kernel)), (ab_inT 1709 (by decide +kernel) (by decide +kernel))⟩
theorem miX10_good : ab_mI yX10_good cX10_good 3 (some .int) 2 := ⟨(ab_inT 1726 (by decide +kernel) (by decide +kernel)), (ab_inT 175 (by decide +kernel) (by decide +kernel)), ⟨by decide +kernel, by decide +kernel⟩, by decide +kernel, by decide⟩
theorem mvX10_good : ab_mV yX10_good := ⟨(ab_inT 1724 (by decide +kernel) (by decide +kernel)), (ab_inT 1725 (by decide +kernel) (by decide +kernel))⟩
theorem miX10_fit : ab_mI yX10_fit cX10_fit 3 (some .int) 2 := ⟨(ab_inT 1738 (by decide +kernel) (by decide +kernel)), (ab_inT 175 (by decide +kernel) (by decide +kernel)), ⟨by decide +kernel, by decide +kernel⟩, by decide +kernel, by decide⟩
theorem mvX10_fit : ab_mV yX10_fit := ⟨(ab_inT 1736 (by decide +kernel) (by decide +kernel)), (ab_inT 1737 (by decide +kernel) (by decide +kernel))⟩
theorem miX10_buy : ab_mI yX10_buy cX10_buy 2 (some .int) 1 := ⟨(ab_inT 1760 (by decide +kernel) (by decide +kernel)), (ab_inT 175 (by decide +kernel) (by decide +kernel)), ⟨by decide +kernel, by decide +kernel⟩, by decide +kernel, by decide⟩
theorem mvX10_buy : ab_mV yX10_buy := ⟨(ab_inT 1758 (by decide +kernel) (by decide +kernel)), (ab_inT 1759 (by decide +kernel) (by decide +kernel))⟩
theorem miX10_swap : ab_mI yX10_swap cX10_swap 3 (some .boolean) 2 := ⟨(ab_inT 1780 (by decide +kernel) (by decide +kernel)), (ab_inT 175 (by decide +kernel) (by decide +kernel)), ⟨by decide +kernel, by decide +kernel⟩, by decide +kernel, by decide⟩
theorem mvX10_swap : ab_mV yX10_swap := ⟨(ab_inT 1778 (by decide +kernel) (by decide +kernel)), (ab_inT 1779 (by decide +kernel) (by decide +kernel))⟩
theorem miX10_bring : ab_mI yX10_bring cX10_bring 3 (some .int) 1 := ⟨(ab_inT 1796 (by decide +kernel) (by decide +kernel)), (ab_inT 175 (by decide +kernel) (by decide +kernel)), ⟨by decide +kernel, by decide +kernel⟩, by decide +kernel, by decide⟩
theorem mvX10_bring : ab_mV yX10_bring := ⟨(ab_inT 1794 (by decide +kernel) (by decide +kernel)), (ab_inT 1795 (by decide +kernel) (by decide +kernel))⟩
theorem miX10_quarter : ab_mI yX10_quarter cX10_quarter 1 (some .int) 0 := ⟨(ab_inT 1800 (by decide +kernel) (by decide +kernel)), (ab_inT 175 (by decide +kernel) (by decide +kernel)), ⟨by decide +kernel, by decide +kernel⟩, by decide +kernel, by decide⟩
theorem mvX10_quarter : ab_mV yX10_quarter := ⟨(ab_inT 1798 (by decide +kernel) (by decide +kernel)), (ab_inT 1799 (by decide +kernel) (by decide +kernel))⟩
theorem miX10_undo : ab_mI yX10_undo cX10_undo 1 (some .boolean) 0 := ⟨(ab_inT 1828 (by decide +kernel) (by decide +kernel)), (ab_inT 175 (by decide +kernel) (by decide +kernel)), ⟨by decide +kernel, by decide +kernel⟩, by decide +kernel, by decide⟩
theorem mvX10_undo : ab_mV yX10_undo := ⟨(ab_inT 1826 (by decide +kernel) (by decide +kernel)), (ab_inT 1827 (by decide +kernel) (by decide +kernel))⟩
theorem miX10_judged : ab_mI yX10_judged cX10_judged 9 (some .int) 1 := ⟨(ab_inT 1832 (by decide +kernel) (by decide +kernel)), (ab_inT 175 (by decide +kernel) (by decide +kernel)), ⟨by decide +kernel, by decide +kernel⟩, by decide +kernel, by decide⟩
theorem mvX10_judged : ab_mV yX10_judged := ⟨(ab_inT 1830 (by decide +kernel) (by decide +kernel)), (ab_inT 1831 (by decide +kernel) (by decide +kernel))⟩
theorem miX10_triesNow : ab_mI yX10_triesNow cX10_triesNow 1 none 0 := ⟨(ab_inT 1844 (by decide +kernel) (by decide +kernel)), (ab_inT 175 (by decide +kernel) (by decide +kernel)), ⟨by decide +kernel, by decide +kernel⟩, by decide +kernel, by decide⟩
theorem mvX10_triesNow : ab_mV yX10_triesNow := ⟨(ab_inT 1843 (by decide +kernel) (by decide +kernel)), (ab_inT 152 (by decide +kernel) (by decide +kernel))⟩
theorem miX10_winner : ab_mI yX10_winner cX10_winner 4 (some .int) 1 := ⟨(ab_inT 1840 (by decide +kernel) (by decide +kernel)), (ab_inT 175 (by decide +kernel) (by decide +kernel)), ⟨by decide +kernel, by decide +kernel⟩, by decide +kernel, by decide⟩
theorem mvX10_winner : ab_mV yX10_winner := ⟨(ab_inT 1838 (by decide +kernel) (by decide +kernel)), (ab_inT 1839 (by decide +kernel) (by decide +kernel))⟩
theorem miX10_where : ab_mI yX10_where cX10_where 4 (some .int) 2 := ⟨(ab_inT 1848 (by decide +kernel) (by decide +kernel)), (ab_inT 175 (by decide +kernel) (by decide +kernel)), ⟨by decide +kernel, by decide +kernel⟩, by decide +kernel, by decide⟩
theorem mvX10_where : ab_mV yX10_where := ⟨(ab_inT 1846 (by decide +kernel) (by decide +kernel)), (ab_inT 1847 (by decide +kernel) (by decide +kernel))⟩
theorem miX10_has : ab_mI yX10_has cX10_has 4 (some .int) 2 := ⟨(ab_inT 1852 (by decide +kernel) (by decide +kernel)), (ab_inT 175 (by decide +kernel) (by decide +kernel)), ⟨by decide +kernel, by decide +kernel⟩, by decide +kernel, by decide⟩
theorem mvX10_has : ab_mV yX10_has := ⟨(ab_inT 1850 (by decide +kernel) (by decide +kernel)), (ab_inT 1851 (by decide +kernel) (by decide +kernel))⟩
theorem miX10_home : ab_mI yX10_home cX10_home 2 (some .int) 0 := ⟨(ab_inT 1856 (by decide +kernel) (by decide +kernel)), (ab_inT 175 (by decide +kernel) (by decide +kernel)), ⟨by decide +kernel, by decide +kernel⟩, by decide +kernel, by decide⟩
theorem mvX10_home : ab_mV yX10_home := ⟨(ab_inT 1854 (by decide +kernel) (by decide +kernel)), (ab_inT 1855 (by decide +kernel) (by decide +kernel))⟩
theorem miX10_empty : ab_mI yX10_empty cX10_empty 2 (some .int) 0 := ⟨(ab_inT 1860 (by decide +kernel) (by decide +kernel)), (ab_inT 175 (by decide +kernel) (by decide +kernel)), ⟨by decide +kernel, by decide +kernel⟩, by decide +kernel, by decide⟩
theorem mvX10_empty : ab_mV yX10_empty := ⟨(ab_inT 1858 (by decide +kernel) (by decide +kernel)), (ab_inT 1859 (by decide +kernel) (by decide +kernel))⟩
theorem miX10_won : ab_mI yX10_won cX10_won 5 (some .int) 2 := ⟨(ab_inT 1864 (by decide +kernel) (by decide +kernel)), (ab_inT 175 (by decide +kernel) (by decide +kernel)), ⟨by decide +kernel, by decide +kernel⟩, by decide +kernel, by decide⟩
theorem mvX10_won : ab_mV yX10_won := ⟨(ab_inT 1862 (by decide +kernel) (by decide +kernel)), (ab_inT 1863 (by decide +kernel) (by decide +kernel))⟩
theorem miX10_streak : ab_mI yX10_streak cX10_streak 7 (some .int) 2 := ⟨(ab_inT 1868 (by decide +kernel) (by decide +kernel)), (ab_inT 175 (by decide +kernel) (by decide +kernel)), ⟨by decide +kernel, by decide +kernel⟩, by decide +kernel, by decide⟩
theorem mvX10_streak : ab_mV yX10_streak := ⟨(ab_inT 1866 (by decide +kernel) (by decide +kernel)), (ab_inT 1867 (by decide +kernel) (by decide +kernel))⟩
theorem miX10_moves : ab_mI yX10_moves cX10_moves 3 (some .int) 1 := ⟨(ab_inT 1872 (by decide +kernel) (by decide +kernel)), (ab_inT 175 (by decide +kernel) (by decide +kernel)), ⟨by decide +kernel, by decide +kernel⟩, by decide +kernel, by decide⟩
theorem mvX10_moves : ab_mV yX10_moves := ⟨(ab_inT 1870 (by decide +kernel) (by decide +kernel)), (ab_inT 1871 (by decide +kernel) (by decide +kernel))⟩
theorem miX10_rights : ab_mI yX10_rights cX10_rights 1 (some .int) 0 := ⟨(ab_inT 1876 (by decide +kernel) (by decide +kernel)), (ab_inT 175 (by decide +kernel) (by decide +kernel)), ⟨by decide +kernel, by decide +kernel⟩, by decide +kernel, by decide⟩
theorem mvX10_rights : ab_mV yX10_rights := ⟨(ab_inT 1874 (by decide +kernel) (by decide +kernel)), (ab_inT 1875 (by decide +kernel) (by decide +kernel))⟩
theorem miX10_joy : ab_mI yX10_joy cX10_joy 2 (some .int) 1 := ⟨(ab_inT 1880 (by decide +kernel) (by decide +kernel)), (ab_inT 175 (by decide +kernel) (by decide +kernel)), ⟨by decide +kernel, by decide +kernel⟩, by decide +kernel, by decide⟩
theorem mvX10_joy : ab_mV yX10_joy := ⟨(ab_inT 1878 (by decide +kernel) (by decide +kernel)), (ab_inT 1879 (by decide +kernel) (by decide +kernel))⟩
theorem miX10_envy : ab_mI yX10_envy cX10_envy 5 (some .int) 1 := ⟨(ab_inT 1892 (by decide +kernel) (by decide +kernel)), (ab_inT 175 (by decide +kernel) (by decide +kernel)), ⟨by decide +kernel, by decide +kernel⟩, by decide +kernel, by decide⟩
theorem mvX10_envy : ab_mV yX10_envy := ⟨(ab_inT 1890 (by decide +kernel) (by decide +kernel)), (ab_inT 1891 (by decide +kernel) (by decide +kernel))⟩
theorem miX10_offers : ab_mI yX10_offers cX10_offers 7 (some .int) 1 := ⟨(ab_inT 1896 (by decide +kernel) (by decide +kernel)), (ab_inT 175 (by decide +kernel) (by decide +kernel)), ⟨by decide +kernel, by decide +kernel⟩, by decide +kernel, by decide⟩
theorem mvX10_offers : ab_mV yX10_offers := ⟨(ab_inT 1894 (by decide +kernel) (by decide +kernel)), (ab_inT 1895 (by decide +kernel) (by decide +kernel))⟩
theorem miX10_wantOf : ab_mI yX10_wantOf cX10_wantOf 8 (some .int) 3 := ⟨(ab_inT 1908 (by decide +kernel) (by decide +kernel)), (ab_inT 175 (by decide +kernel) (by decide +kernel)), ⟨by decide +kernel, by decide +kernel⟩, by decide +kernel, by decide⟩
theorem mvX10_wantOf : ab_mV yX10_wantOf := ⟨(ab_inT 1907 (by decide +kernel) (by decide +kernel)), (ab_inT 156 (by decide +kernel) (by decide +kernel))⟩
theorem miX10_allGoods : ab_mI yX10_allGoods cX10_allGoods 1 (some .int) 0 := ⟨(ab_inT 1904 (by decide +kernel) (by decide +kernel)), (ab_inT 175 (by decide +kernel) (by decide +kernel)), ⟨by decide +kernel, by decide +kernel⟩, by decide +kernel, by decide⟩
theorem mvX10_allGoods : ab_mV yX10_allGoods := ⟨(ab_inT 1903 (by decide +kernel) (by decide +kernel)), (ab_inT 155 (by decide +kernel) (by decide +kernel))⟩
theorem miX10_want : ab_mI yX10_want cX10_want 2 (some .int) 1 := ⟨(ab_inT 1900 (by decide +kernel) (by decide +kernel)), (ab_inT 175 (by decide +kernel) (by decide +kernel)), ⟨by decide +kernel, by decide +kernel⟩, by decide +kernel, by decide⟩
theorem mvX10_want : ab_mV yX10_want := ⟨(ab_inT 1898 (by decide +kernel) (by decide +kernel)), (ab_inT 1899 (by decide +kernel) (by decide +kernel))⟩
theorem miX10_fansOf : ab_mI yX10_fansOf cX10_fansOf 4 (some .int) 1 := ⟨(ab_inT 1916 (by decide +kernel) (by decide +kernel)), (ab_inT 175 (by decide +kernel) (by decide +kernel)), ⟨by decide +kernel, by decide +kernel⟩, by decide +kernel, by decide⟩
theorem mvX10_fansOf : ab_mV yX10_fansOf := ⟨(ab_inT 1915 (by decide +kernel) (by decide +kernel)), (ab_inT 157 (by decide +kernel) (by decide +kernel))⟩
theorem miX10_fans : ab_mI yX10_fans cX10_fans 2 (some .int) 1 := ⟨(ab_inT 1912 (by decide +kernel) (by decide +kernel)), (ab_inT 175 (by decide +kernel) (by decide +kernel)), ⟨by decide +kernel, by decide +kernel⟩, by decide +kernel, by decide⟩
theorem mvX10_fans : ab_mV yX10_fans := ⟨(ab_inT 1910 (by decide +kernel) (by decide +kernel)), (ab_inT 1911 (by decide +kernel) (by decide +kernel))⟩
theorem miX10_dull : ab_mI yX10_dull cX10_dull 3 (some .int) 0 := ⟨(ab_inT 1920 (by decide +kernel) (by decide +kernel)), (ab_inT 175 (by decide +kernel) (by decide +kernel)), ⟨by decide +kernel, by decide +kernel⟩, by decide +kernel, by decide⟩
theorem mvX10_dull : ab_mV yX10_dull := ⟨(ab_inT 1918 (by decide +kernel) (by decide +kernel)), (ab_inT 1919 (by decide +kernel) (by decide +kernel))⟩
theorem miX10_least : ab_mI yX10_least cX10_least 6 (some .int) 0 := ⟨(ab_inT 1924 (by decide +kernel) (by decide +kernel)), (ab_inT 175 (by decide +kernel) (by decide +kernel)), ⟨by decide +kernel, by decide +kernel⟩, by decide +kernel, by decide⟩
theorem mvX10_least : ab_mV yX10_least := ⟨(ab_inT 1922 (by decide +kernel) (by decide +kernel)), (ab_inT 1923 (by decide +kernel) (by decide +kernel))⟩
theorem miX10_ownerIn : ab_mI yX10_ownerIn cX10_ownerIn 3 (some .int) 1 := ⟨(ab_inT 1936 (by decide +kernel) (by decide +kernel)), (ab_inT 175 (by decide +kernel) (by decide +kernel)), ⟨by decide +kernel, by decide +kernel⟩, by decide +kernel, by decide⟩
theorem mvX10_ownerIn : ab_mV yX10_ownerIn := ⟨(ab_inT 1935 (by decide +kernel) (by decide +kernel)), (ab_inT 159 (by decide +kernel) (by decide +kernel))⟩
theorem miX10_ringsNow : ab_mI yX10_ringsNow cX10_ringsNow 9 (some .int) 0 := ⟨(ab_inT 1932 (by decide +kernel) (by decide +kernel)), (ab_inT 175 (by decide +kernel) (by decide +kernel)), ⟨by decide +kernel, by decide +kernel⟩, by decide +kernel, by decide⟩
theorem mvX10_ringsNow : ab_mV yX10_ringsNow := ⟨(ab_inT 1931 (by decide +kernel) (by decide +kernel)), (ab_inT 158 (by decide +kernel) (by decide +kernel))⟩
theorem miX10_gets : ab_mI yX10_gets cX10_gets 2 (some .int) 1 := ⟨(ab_inT 1928 (by decide +kernel) (by decide +kernel)), (ab_inT 175 (by decide +kernel) (by decide +kernel)), ⟨by decide +kernel, by decide +kernel⟩, by decide +kernel, by decide⟩
theorem mvX10_gets : ab_mV yX10_gets := ⟨(ab_inT 1926 (by decide +kernel) (by decide +kernel)), (ab_inT 1927 (by decide +kernel) (by decide +kernel))⟩
theorem miX10_rounds : ab_mI yX10_rounds cX10_rounds 1 (some .int) 0 := ⟨(ab_inT 1940 (by decide +kernel) (by decide +kernel)), (ab_inT 175 (by decide +kernel) (by decide +kernel)), ⟨by decide +kernel, by decide +kernel⟩, by decide +kernel, by decide⟩
theorem mvX10_rounds : ab_mV yX10_rounds := ⟨(ab_inT 1938 (by decide +kernel) (by decide +kernel)), (ab_inT 1939 (by decide +kernel) (by decide +kernel))⟩
theorem miX10_givesFrom : ab_mI yX10_givesFrom cX10_givesFrom 6 none 4 := ⟨(ab_inT 1952 (by decide +kernel) (by decide +kernel)), (ab_inT 175 (by decide +kernel) (by decide +kernel)), ⟨by decide +kernel, by decide +kernel⟩, by decide +kernel, by decide⟩
theorem mvX10_givesFrom : ab_mV yX10_givesFrom := ⟨(ab_inT 1951 (by decide +kernel) (by decide +kernel)), (ab_inT 161 (by decide +kernel) (by decide +kernel))⟩
theorem miX10_givesOut : ab_mI yX10_givesOut cX10_givesOut 2 none 1 := ⟨(ab_inT 1948 (by decide +kernel) (by decide +kernel)), (ab_inT 175 (by decide +kernel) (by decide +kernel)), ⟨by decide +kernel, by decide +kernel⟩, by decide +kernel, by decide⟩
theorem mvX10_givesOut : ab_mV yX10_givesOut := ⟨(ab_inT 1947 (by decide +kernel) (by decide +kernel)), (ab_inT 160 (by decide +kernel) (by decide +kernel))⟩
theorem miX10_best : ab_mI yX10_best cX10_best 2 (some .int) 1 := ⟨(ab_inT 1944 (by decide +kernel) (by decide +kernel)), (ab_inT 175 (by decide +kernel) (by decide +kernel)), ⟨by decide +kernel, by decide +kernel⟩, by decide +kernel, by decide⟩
theorem mvX10_best : ab_mV yX10_best := ⟨(ab_inT 1942 (by decide +kernel) (by decide +kernel)), (ab_inT 1943 (by decide +kernel) (by decide +kernel))⟩
theorem miX10_owes : ab_mI yX10_owes cX10_owes 3 (some .int) 1 := ⟨(ab_inT 1956 (by decide +kernel) (by decide +kernel)), (ab_inT 175 (by decide +kernel) (by decide +kernel)), ⟨by decide +kernel, by decide +kernel⟩, by decide +kernel, by decide⟩
theorem mvX10_owes : ab_mV yX10_owes := ⟨(ab_inT 1954 (by decide +kernel) (by decide +kernel)), (ab_inT 1955 (by decide +kernel) (by decide +kernel))⟩
theorem miX10_spare : ab_mI yX10_spare cX10_spare 3 (some .int) 0 := ⟨(ab_inT 1960 (by decide +kernel) (by decide +kernel)), (ab_inT 175 (by decide +kernel) (by decide +kernel)), ⟨by decide +kernel, by decide +kernel⟩, by decide +kernel, by decide⟩
theorem mvX10_spare : ab_mV yX10_spare := ⟨(ab_inT 1958 (by decide +kernel) (by decide +kernel)), (ab_inT 1959 (by decide +kernel) (by decide +kernel))⟩
theorem miX10_odds : ab_mI yX10_odds cX10_odds 9 (some .int) 2 := ⟨(ab_inT 1964 (by decide +kernel) (by decide +kernel)), (ab_inT 175 (by decide +kernel) (by decide +kernel)), ⟨by decide +kernel, by decide +kernel⟩, by decide +kernel, by decide⟩
theorem mvX10_odds : ab_mV yX10_odds := ⟨(ab_inT 1962 (by decide +kernel) (by decide +kernel)), (ab_inT 1963 (by decide +kernel) (by decide +kernel))⟩
theorem miX10_enough : ab_mI yX10_enough cX10_enough 5 (some .int) 2 := ⟨(ab_inT 1969 (by decide +kernel) (by decide +kernel)), (ab_inT 175 (by decide +kernel) (by decide +kernel)), ⟨by decide +kernel, by decide +kernel⟩, by decide +kernel, by decide⟩
theorem mvX10_enough : ab_mV yX10_enough := ⟨(ab_inT 1967 (by decide +kernel) (by decide +kernel)), (ab_inT 1968 (by decide +kernel) (by decide +kernel))⟩
theorem miX10_run : ab_mI yX10_run cX10_run 6 (some .int) 1 := ⟨(ab_inT 1973 (by decide +kernel) (by decide +kernel)), (ab_inT 175 (by decide +kernel) (by decide +kernel)), ⟨by decide +kernel, by decide +kernel⟩, by decide +kernel, by decide⟩
theorem mvX10_run : ab_mV yX10_run := ⟨(ab_inT 1971 (by decide +kernel) (by decide +kernel)), (ab_inT 1972 (by decide +kernel) (by decide +kernel))⟩
theorem miX10_see : ab_mI yX10_see cX10_see 5 (some .boolean) 3 := ⟨(ab_inT 1978 (by decide +kernel) (by decide +kernel)), (ab_inT 175 (by decide +kernel) (by decide +kernel)), ⟨by decide +kernel, by decide +kernel⟩, by decide +kernel, by decide⟩
theorem mvX10_see : ab_mV yX10_see := ⟨(ab_inT 1976 (by decide +kernel) (by decide +kernel)), (ab_inT 1977 (by decide +kernel) (by decide +kernel))⟩
theorem miX10_whoNow : ab_mI yX10_whoNow cX10_whoNow 6 (some .int) 0 := ⟨(ab_inT 1986 (by decide +kernel) (by decide +kernel)), (ab_inT 175 (by decide +kernel) (by decide +kernel)), ⟨by decide +kernel, by decide +kernel⟩, by decide +kernel, by decide⟩
theorem mvX10_whoNow : ab_mV yX10_whoNow := ⟨(ab_inT 1985 (by decide +kernel) (by decide +kernel)), (ab_inT 162 (by decide +kernel) (by decide +kernel))⟩
theorem miX10_who : ab_mI yX10_who cX10_who 1 (some .int) 0 := ⟨(ab_inT 1982 (by decide +kernel) (by decide +kernel)), (ab_inT 175 (by decide +kernel) (by decide +kernel)), ⟨by decide +kernel, by decide +kernel⟩, by decide +kernel, by decide⟩
theorem mvX10_who : ab_mV yX10_who := ⟨(ab_inT 1980 (by decide +kernel) (by decide +kernel)), (ab_inT 1981 (by decide +kernel) (by decide +kernel))⟩
theorem miX10_ask : ab_mI yX10_ask cX10_ask 9 (some .int) 0 := ⟨(ab_inT 1990 (by decide +kernel) (by decide +kernel)), (ab_inT 175 (by decide +kernel) (by decide +kernel)), ⟨by decide +kernel, by decide +kernel⟩, by decide +kernel, by decide⟩
theorem mvX10_ask : ab_mV yX10_ask := ⟨(ab_inT 1988 (by decide +kernel) (by decide +kernel)), (ab_inT 1989 (by decide +kernel) (by decide +kernel))⟩
theorem miX10_rich : ab_mI yX10_rich cX10_rich 3 (some .int) 0 := ⟨(ab_inT 1994 (by decide +kernel) (by decide +kernel)), (ab_inT 175 (by decide +kernel) (by decide +kernel)), ⟨by decide +kernel, by decide +kernel⟩, by decide +kernel, by decide⟩
theorem mvX10_rich : ab_mV yX10_rich := ⟨(ab_inT 1992 (by decide +kernel) (by decide +kernel)), (ab_inT 1993 (by decide +kernel) (by decide +kernel))⟩
theorem miX10_sad : ab_mI yX10_sad cX10_sad 3 (some .int) 0 := ⟨(ab_inT 1998 (by decide +kernel) (by decide +kernel)), (ab_inT 175 (by decide +kernel) (by decide +kernel)), ⟨by decide +kernel, by decide +kernel⟩, by decide +kernel, by decide⟩
theorem mvX10_sad : ab_mV yX10_sad := ⟨(ab_inT 1996 (by decide +kernel) (by decide +kernel)), (ab_inT 1997 (by decide +kernel) (by decide +kernel))⟩
theorem miX10_lack : ab_mI yX10_lack cX10_lack 4 (some .int) 1 := ⟨(ab_inT 2002 (by decide +kernel) (by decide +kernel)), (ab_inT 175 (by decide +kernel) (by decide +kernel)), ⟨by decide +kernel, by decide +kernel⟩, by decide +kernel, by decide⟩
theorem mvX10_lack : ab_mV yX10_lack := ⟨(ab_inT 2000 (by decide +kernel) (by decide +kernel)), (ab_inT 2001 (by decide +kernel) (by decide +kernel))⟩
theorem miX10_debt : ab_mI yX10_debt cX10_debt 1 (some .int) 0 := ⟨(ab_inT 2006 (by decide +kernel) (by decide +kernel)), (ab_inT 175 (by decide +kernel) (by decide +kernel)), ⟨by decide +kernel, by decide +kernel⟩, by decide +kernel, by decide⟩
theorem mvX10_debt : ab_mV yX10_debt := ⟨(ab_inT 2004 (by decide +kernel) (by decide +kernel)), (ab_inT 2005 (by decide +kernel) (by decide +kernel))⟩
theorem miX10_poor : ab_mI yX10_poor cX10_poor 3 (some .int) 0 := ⟨(ab_inT 2010 (by decide +kernel) (by decide +kernel)), (ab_inT 175 (by decide +kernel) (by decide +kernel)), ⟨by decide +kernel, by decide +kernel⟩, by decide +kernel, by decide⟩
theorem mvX10_poor : ab_mV yX10_poor := ⟨(ab_inT 2008 (by decide +kernel) (by decide +kernel)), (ab_inT 2009 (by decide +kernel) (by decide +kernel))⟩
theorem miX10_getsBy : ab_mI yX10_getsBy cX10_getsBy 5 (some .int) 5 := ⟨(ab_inT 2017 (by decide +kernel) (by decide +kernel)), (ab_inT 175 (by decide +kernel) (by decide +kernel)), ⟨by decide +kernel, by decide +kernel⟩, by decide +kernel, by decide⟩
theorem msX10_getsBy : ab_mS yX10_getsBy := (ab_inT 2016 (by decide +kernel) (by decide +kernel))
theorem miX10_rests : ab_mI yX10_rests cX10_rests 12 (some .int) 4 := ⟨(ab_inT 2014 (by decide +kernel) (by decide +kernel)), (ab_inT 175 (by decide +kernel) (by decide +kernel)), ⟨by decide +kernel, by decide +kernel⟩, by decide +kernel, by decide⟩
theorem mvX10_rests : ab_mV yX10_rests := ⟨(ab_inT 2012 (by decide +kernel) (by decide +kernel)), (ab_inT 2013 (by decide +kernel) (by decide +kernel))⟩
theorem miX10_drawsDeed : ab_mI yX10_drawsDeed cX10_drawsDeed 4 none 0 := ⟨(ab_inT 2025 (by decide +kernel) (by decide +kernel)), (ab_inT 175 (by decide +kernel) (by decide +kernel)), ⟨by decide +kernel, by decide +kernel⟩, by decide +kernel, by decide⟩
theorem mvX10_drawsDeed : ab_mV yX10_drawsDeed := ⟨(ab_inT 2024 (by decide +kernel) (by decide +kernel)), (ab_inT 163 (by decide +kernel) (by decide +kernel))⟩
theorem miX10_luck : ab_mI yX10_luck cX10_luck 6 (some .int) 3 := ⟨(ab_inT 2021 (by decide +kernel) (by decide +kernel)), (ab_inT 175 (by decide +kernel) (by decide +kernel)), ⟨by decide +kernel, by decide +kernel⟩, by decide +kernel, by decide⟩
theorem mvX10_luck : ab_mV yX10_luck := ⟨(ab_inT 2019 (by decide +kernel) (by decide +kernel)), (ab_inT 2020 (by decide +kernel) (by decide +kernel))⟩
theorem miX10_mark : ab_mI yX10_mark cX10_mark 3 (some .boolean) 2 := ⟨(ab_inT 2033 (by decide +kernel) (by decide +kernel)), (ab_inT 175 (by decide +kernel) (by decide +kernel)), ⟨by decide +kernel, by decide +kernel⟩, by decide +kernel, by decide⟩
theorem mvX10_mark : ab_mV yX10_mark := ⟨(ab_inT 2031 (by decide +kernel) (by decide +kernel)), (ab_inT 2032 (by decide +kernel) (by decide +kernel))⟩
theorem miX10_count : ab_mI yX10_count cX10_count 2 (some .int) 1 := ⟨(ab_inT 2037 (by decide +kernel) (by decide +kernel)), (ab_inT 175 (by decide +kernel) (by decide +kernel)), ⟨by decide +kernel, by decide +kernel⟩, by decide +kernel, by decide⟩
theorem mvX10_count : ab_mV yX10_count := ⟨(ab_inT 2035 (by decide +kernel) (by decide +kernel)), (ab_inT 2036 (by decide +kernel) (by decide +kernel))⟩
theorem miX0_giveOut : ab_mI yX0_giveOut cX0_giveOut 5 none 1 := ⟨(ab_inT 1196 (by decide +kernel) (by decide +kernel)), (ab_inT 174 (by decide +kernel) (by decide +kernel)), ⟨by decide +kernel, by decide +kernel⟩, by decide +kernel, by decide⟩
theorem mvX0_giveOut : ab_mV yX0_giveOut := ⟨(ab_inT 1195 (by decide +kernel) (by decide +kernel)), (ab_inT 84 (by decide +kernel) (by decide +kernel))⟩
theorem miX0_firstBest : ab_mI yX0_firstBest cX0_firstBest 6 (some .int) 3 := ⟨(ab_inT 1218 (by decide +kernel) (by decide +kernel)), (ab_inT 174 (by decide +kernel) (by decide +kernel)), ⟨by decide +kernel, by decide +kernel⟩, by decide +kernel, by decide⟩
theorem mvX0_firstBest : ab_mV yX0_firstBest := ⟨(ab_inT 1217 (by decide +kernel) (by decide +kernel)), (ab_inT 88 (by decide +kernel) (by decide +kernel))⟩
theorem miX0_mostBy : ab_mI yX0_mostBy cX0_mostBy 5 (some .int) 4 := ⟨(ab_inT 1212 (by decide +kernel) (by decide +kernel)), (ab_inT 174 (by decide +kernel) (by decide +kernel)), ⟨by decide +kernel, by decide +kernel⟩, by decide +kernel, by decide⟩
theorem mvX0_mostBy : ab_mV yX0_mostBy := ⟨(ab_inT 1211 (by decide +kernel) (by decide +kernel)), (ab_inT 87 (by decide +kernel) (by decide +kernel))⟩
theorem miX0_mostWithout : ab_mI yX0_mostWithout cX0_mostWithout 5 (some .int) 2 := ⟨(ab_inT 1200 (by decide +kernel) (by decide +kernel)), (ab_inT 174 (by decide +kernel) (by decide +kernel)), ⟨by decide +kernel, by decide +kernel⟩, by decide +kernel, by decide⟩
theorem mvX0_mostWithout : ab_mV yX0_mostWithout := ⟨(ab_inT 1199 (by decide +kernel) (by decide +kernel)), (ab_inT 85 (by decide +kernel) (by decide +kernel))⟩
theorem miX0_mostFrom : ab_mI yX0_mostFrom cX0_mostFrom 7 (some .int) 4 := ⟨(ab_inT 1207 (by decide +kernel) (by decide +kernel)), (ab_inT 174 (by decide +kernel) (by decide +kernel)), ⟨by decide +kernel, by decide +kernel⟩, by decide +kernel, by decide⟩
theorem mvX0_mostFrom : ab_mV yX0_mostFrom := ⟨(ab_inT 1206 (by decide +kernel) (by decide +kernel)), (ab_inT 86 (by decide +kernel) (by decide +kernel))⟩
theorem miX0_givenTo : ab_mI yX0_givenTo cX0_givenTo 2 (some .int) 1 := ⟨(ab_inT 1222 (by decide +kernel) (by decide +kernel)), (ab_inT 174 (by decide +kernel) (by decide +kernel)), ⟨by decide +kernel, by decide +kernel⟩, by decide +kernel, by decide⟩
theorem mvX0_givenTo : ab_mV yX0_givenTo := ⟨(ab_inT 1221 (by decide +kernel) (by decide +kernel)), (ab_inT 89 (by decide +kernel) (by decide +kernel))⟩
theorem miX1_setUsual : ab_mI yX1_setUsual cX1_setUsual 1 none 0 := ⟨(ab_inT 640 (by decide +kernel) (by decide +kernel)), (ab_inT 169 (by decide +kernel) (by decide +kernel)), ⟨by decide +kernel, by decide +kernel⟩, by decide +kernel, by decide⟩
theorem mvX1_setUsual : ab_mV yX1_setUsual := ⟨(ab_inT 639 (by decide +kernel) (by decide +kernel)), (ab_inT 10 (by decide +kernel) (by decide +kernel))⟩
theorem miX1_add : ab_mI yX1_add cX1_add 2 none 1 := ⟨(ab_inT 644 (by decide +kernel) (by decide +kernel)), (ab_inT 169 (by decide +kernel) (by decide +kernel)), ⟨by decide +kernel, by decide +kernel⟩, by decide +kernel, by decide⟩
theorem mvX1_add : ab_mV yX1_add := ⟨(ab_inT 643 (by decide +kernel) (by decide +kernel)), (ab_inT 11 (by decide +kernel) (by decide +kernel))⟩
theorem miX1_readLevel : ab_mI yX1_readLevel cX1_readLevel 6 (some .boolean) 3 := ⟨(ab_inT 763 (by decide +kernel) (by decide +kernel)), (ab_inT 169 (by decide +kernel) (by decide +kernel)), ⟨by decide +kernel, by decide +kernel⟩, by decide +kernel, by decide⟩
theorem mvX1_readLevel : ab_mV yX1_readLevel := ⟨(ab_inT 762 (by decide +kernel) (by decide +kernel)), (ab_inT 30 (by decide +kernel) (by decide +kernel))⟩
theorem miX1_operatorAt : ab_mI yX1_operatorAt cX1_operatorAt 2 (some .int) 2 := ⟨(ab_inT 796 (by decide +kernel) (by decide +kernel)), (ab_inT 169 (by decide +kernel) (by decide +kernel)), ⟨by decide +kernel, by decide +kernel⟩, by decide +kernel, by decide⟩
theorem msX1_operatorAt : ab_mS yX1_operatorAt := (ab_inT 795 (by decide +kernel) (by decide +kernel))
theorem miX1_readPart : ab_mI yX1_readPart cX1_readPart 7 (some .boolean) 2 := ⟨(ab_inT 767 (by decide +kernel) (by decide +kernel)), (ab_inT 169 (by decide +kernel) (by decide +kernel)), ⟨by decide +kernel, by decide +kernel⟩, by decide +kernel, by decide⟩
theorem mvX1_readPart : ab_mV yX1_readPart := ⟨(ab_inT 766 (by decide +kernel) (by decide +kernel)), (ab_inT 31 (by decide +kernel) (by decide +kernel))⟩
theorem miX1_readNot : ab_mI yX1_readNot cX1_readNot 3 (some .boolean) 2 := ⟨(ab_inT 788 (by decide +kernel) (by decide +kernel)), (ab_inT 169 (by decide +kernel) (by decide +kernel)), ⟨by decide +kernel, by decide +kernel⟩, by decide +kernel, by decide⟩
theorem mvX1_readNot : ab_mV yX1_readNot := ⟨(ab_inT 787 (by decide +kernel) (by decide +kernel)), (ab_inT 32 (by decide +kernel) (by decide +kernel))⟩
theorem miX1_readBrackets : ab_mI yX1_readBrackets cX1_readBrackets 3 (some .boolean) 2 := ⟨(ab_inT 792 (by decide +kernel) (by decide +kernel)), (ab_inT 169 (by decide +kernel) (by decide +kernel)), ⟨by decide +kernel, by decide +kernel⟩, by decide +kernel, by decide⟩
theorem mvX1_readBrackets : ab_mV yX1_readBrackets := ⟨(ab_inT 791 (by decide +kernel) (by decide +kernel)), (ab_inT 33 (by decide +kernel) (by decide +kernel))⟩
theorem miX1_factAt : ab_mI yX1_factAt cX1_factAt 1 (some .int) 1 := ⟨(ab_inT 774 (by decide +kernel) (by decide +kernel)), (ab_inT 169 (by decide +kernel) (by decide +kernel)), ⟨by decide +kernel, by decide +kernel⟩, by decide +kernel, by decide⟩
theorem msX1_factAt : ab_mS yX1_factAt := (ab_inT 773 (by decide +kernel) (by decide +kernel))
theorem miX1_work : ab_mI yX1_work cX1_work 7 (some .int) 4 := ⟨(ab_inT 816 (by decide +kernel) (by decide +kernel)), (ab_inT 169 (by decide +kernel) (by decide +kernel)), ⟨by decide +kernel, by decide +kernel⟩, by decide +kernel, by decide⟩
theorem mvX1_work : ab_mV yX1_work := ⟨(ab_inT 815 (by decide +kernel) (by decide +kernel)), (ab_inT 37 (by decide +kernel) (by decide +kernel))⟩
theorem miX1_pushOrJoin : ab_mI yX1_pushOrJoin cX1_pushOrJoin 4 none 1 := ⟨(ab_inT 828 (by decide +kernel) (by decide +kernel)), (ab_inT 169 (by decide +kernel) (by decide +kernel)), ⟨by decide +kernel, by decide +kernel⟩, by decide +kernel, by decide⟩
theorem mvX1_pushOrJoin : ab_mV yX1_pushOrJoin := ⟨(ab_inT 827 (by decide +kernel) (by decide +kernel)), (ab_inT 40 (by decide +kernel) (by decide +kernel))⟩
theorem miX1_join : ab_mI yX1_join cX1_join 3 (some .int) 3 := ⟨(ab_inT 831 (by decide +kernel) (by decide +kernel)), (ab_inT 169 (by decide +kernel) (by decide +kernel)), ⟨by decide +kernel, by decide +kernel⟩, by decide +kernel, by decide⟩
theorem msX1_join : ab_mS yX1_join := (ab_inT 830 (by decide +kernel) (by decide +kernel))
theorem miX1_push : ab_mI yX1_push cX1_push 2 none 1 := ⟨(ab_inT 820 (by decide +kernel) (by decide +kernel)), (ab_inT 169 (by decide +kernel) (by decide +kernel)), ⟨by decide +kernel, by decide +kernel⟩, by decide +kernel, by decide⟩
theorem mvX1_push : ab_mV yX1_push := ⟨(ab_inT 819 (by decide +kernel) (by decide +kernel)), (ab_inT 38 (by decide +kernel) (by decide +kernel))⟩
theorem miX1_pop : ab_mI yX1_pop cX1_pop 1 (some .int) 0 := ⟨(ab_inT 824 (by decide +kernel) (by decide +kernel)), (ab_inT 169 (by decide +kernel) (by decide +kernel)), ⟨by decide +kernel, by decide +kernel⟩, by decide +kernel, by decide⟩
theorem mvX1_pop : ab_mV yX1_pop := ⟨(ab_inT 823 (by decide +kernel) (by decide +kernel)), (ab_inT 39 (by decide +kernel) (by decide +kernel))⟩
theorem miX2_readLines : ab_mI yX2_readLines cX2_readLines 3 (some .int) 1 := ⟨(ab_inT 632 (by decide +kernel) (by decide +kernel)), (ab_inT 168 (by decide +kernel) (by decide +kernel)), ⟨by decide +kernel, by decide +kernel⟩, by decide +kernel, by decide⟩
theorem mvX2_readLines : ab_mV yX2_readLines := ⟨(ab_inT 631 (by decide +kernel) (by decide +kernel)), (ab_inT 8 (by decide +kernel) (by decide +kernel))⟩
theorem miX2_clear : ab_mI yX2_clear cX2_clear 2 none 0 := ⟨(ab_inT 636 (by decide +kernel) (by decide +kernel)), (ab_inT 168 (by decide +kernel) (by decide +kernel)), ⟨by decide +kernel, by decide +kernel⟩, by decide +kernel, by decide⟩
theorem mvX2_clear : ab_mV yX2_clear := ⟨(ab_inT 635 (by decide +kernel) (by decide +kernel)), (ab_inT 9 (by decide +kernel) (by decide +kernel))⟩
theorem miX2_readLine : ab_mI yX2_readLine cX2_readLine 2 (some .boolean) 1 := ⟨(ab_inT 648 (by decide +kernel) (by decide +kernel)), (ab_inT 168 (by decide +kernel) (by decide +kernel)), ⟨by decide +kernel, by decide +kernel⟩, by decide +kernel, by decide⟩
theorem mvX2_readLine : ab_mV yX2_readLine := ⟨(ab_inT 647 (by decide +kernel) (by decide +kernel)), (ab_inT 12 (by decide +kernel) (by decide +kernel))⟩
theorem miX2_readPerson : ab_mI yX2_readPerson cX2_readPerson 6 (some .boolean) 1 := ⟨(ab_inT 658 (by decide +kernel) (by decide +kernel)), (ab_inT 168 (by decide +kernel) (by decide +kernel)), ⟨by decide +kernel, by decide +kernel⟩, by decide +kernel, by decide⟩
theorem mvX2_readPerson : ab_mV yX2_readPerson := ⟨(ab_inT 657 (by decide +kernel) (by decide +kernel)), (ab_inT 14 (by decide +kernel) (by decide +kernel))⟩
theorem miX2_addPerson : ab_mI yX2_addPerson cX2_addPerson 5 none 3 := ⟨(ab_inT 711 (by decide +kernel) (by decide +kernel)), (ab_inT 168 (by decide +kernel) (by decide +kernel)), ⟨by decide +kernel, by decide +kernel⟩, by decide +kernel, by decide⟩
theorem mvX2_addPerson : ab_mV yX2_addPerson := ⟨(ab_inT 710 (by decide +kernel) (by decide +kernel)), (ab_inT 22 (by decide +kernel) (by decide +kernel))⟩
theorem miX2_readGood : ab_mI yX2_readGood cX2_readGood 6 (some .boolean) 1 := ⟨(ab_inT 720 (by decide +kernel) (by decide +kernel)), (ab_inT 168 (by decide +kernel) (by decide +kernel)), ⟨by decide +kernel, by decide +kernel⟩, by decide +kernel, by decide⟩
theorem mvX2_readGood : ab_mV yX2_readGood := ⟨(ab_inT 719 (by decide +kernel) (by decide +kernel)), (ab_inT 23 (by decide +kernel) (by decide +kernel))⟩
theorem miX2_addGood : ab_mI yX2_addGood cX2_addGood 5 none 3 := ⟨(ab_inT 734 (by decide +kernel) (by decide +kernel)), (ab_inT 168 (by decide +kernel) (by decide +kernel)), ⟨by decide +kernel, by decide +kernel⟩, by decide +kernel, by decide⟩
theorem mvX2_addGood : ab_mV yX2_addGood := ⟨(ab_inT 733 (by decide +kernel) (by decide +kernel)), (ab_inT 25 (by decide +kernel) (by decide +kernel))⟩
theorem miX2_isNewName : ab_mI yX2_isNewName cX2_isNewName 4 (some .boolean) 1 := ⟨(ab_inT 667 (by decide +kernel) (by decide +kernel)), (ab_inT 168 (by decide +kernel) (by decide +kernel)), ⟨by decide +kernel, by decide +kernel⟩, by decide +kernel, by decide⟩
theorem mvX2_isNewName : ab_mV yX2_isNewName := ⟨(ab_inT 666 (by decide +kernel) (by decide +kernel)), (ab_inT 16 (by decide +kernel) (by decide +kernel))⟩
theorem miX2_kindAt : ab_mI yX2_kindAt cX2_kindAt 1 (some .int) 1 := ⟨(ab_inT 679 (by decide +kernel) (by decide +kernel)), (ab_inT 168 (by decide +kernel) (by decide +kernel)), ⟨by decide +kernel, by decide +kernel⟩, by decide +kernel, by decide⟩
theorem msX2_kindAt : ab_mS yX2_kindAt := (ab_inT 678 (by decide +kernel) (by decide +kernel))
theorem miX2_readLikes : ab_mI yX2_readLikes cX2_readLikes 6 (some .boolean) 1 := ⟨(ab_inT 740 (by decide +kernel) (by decide +kernel)), (ab_inT 168 (by decide +kernel) (by decide +kernel)), ⟨by decide +kernel, by decide +kernel⟩, by decide +kernel, by decide⟩
theorem mvX2_readLikes : ab_mV yX2_readLikes := ⟨(ab_inT 739 (by decide +kernel) (by decide +kernel)), (ab_inT 26 (by decide +kernel) (by decide +kernel))⟩
theorem miX2_readSeed : ab_mI yX2_readSeed cX2_readSeed 3 (some .boolean) 1 := ⟨(ab_inT 753 (by decide +kernel) (by decide +kernel)), (ab_inT 168 (by decide +kernel) (by decide +kernel)), ⟨by decide +kernel, by decide +kernel⟩, by decide +kernel, by decide⟩
theorem mvX2_readSeed : ab_mV yX2_readSeed := ⟨(ab_inT 752 (by decide +kernel) (by decide +kernel)), (ab_inT 28 (by decide +kernel) (by decide +kernel))⟩
theorem miX2_readFits : ab_mI yX2_readFits cX2_readFits 2 (some .boolean) 1 := ⟨(ab_inT 759 (by decide +kernel) (by decide +kernel)), (ab_inT 168 (by decide +kernel) (by decide +kernel)), ⟨by decide +kernel, by decide +kernel⟩, by decide +kernel, by decide⟩
theorem mvX2_readFits : ab_mV yX2_readFits := ⟨(ab_inT 758 (by decide +kernel) (by decide +kernel)), (ab_inT 29 (by decide +kernel) (by decide +kernel))⟩
theorem miX2_workOutFits : ab_mI yX2_workOutFits cX2_workOutFits 6 none 0 := ⟨(ab_inT 804 (by decide +kernel) (by decide +kernel)), (ab_inT 168 (by decide +kernel) (by decide +kernel)), ⟨by decide +kernel, by decide +kernel⟩, by decide +kernel, by decide⟩
theorem mvX2_workOutFits : ab_mV yX2_workOutFits := ⟨(ab_inT 803 (by decide +kernel) (by decide +kernel)), (ab_inT 34 (by decide +kernel) (by decide +kernel))⟩
theorem miX2_fitIndex : ab_mI yX2_fitIndex cX2_fitIndex 3 (some .int) 3 := ⟨(ab_inT 834 (by decide +kernel) (by decide +kernel)), (ab_inT 168 (by decide +kernel) (by decide +kernel)), ⟨by decide +kernel, by decide +kernel⟩, by decide +kernel, by decide⟩
theorem msX2_fitIndex : ab_mS yX2_fitIndex := (ab_inT 833 (by decide +kernel) (by decide +kernel))
theorem miX2_fitBy : ab_mI yX2_fitBy cX2_fitBy 4 (some .int) 3 := ⟨(ab_inT 939 (by decide +kernel) (by decide +kernel)), (ab_inT 168 (by decide +kernel) (by decide +kernel)), ⟨by decide +kernel, by decide +kernel⟩, by decide +kernel, by decide⟩
theorem mvX2_fitBy : ab_mV yX2_fitBy := ⟨(ab_inT 938 (by decide +kernel) (by decide +kernel)), (ab_inT 54 (by decide +kernel) (by decide +kernel))⟩
theorem miX2_likeOf : ab_mI yX2_likeOf cX2_likeOf 3 (some .int) 2 := ⟨(ab_inT 744 (by decide +kernel) (by decide +kernel)), (ab_inT 168 (by decide +kernel) (by decide +kernel)), ⟨by decide +kernel, by decide +kernel⟩, by decide +kernel, by decide⟩
theorem mvX2_likeOf : ab_mV yX2_likeOf := ⟨(ab_inT 743 (by decide +kernel) (by decide +kernel)), (ab_inT 27 (by decide +kernel) (by decide +kernel))⟩
theorem miX2_hasPerson : ab_mI yX2_hasPerson cX2_hasPerson 2 (some .boolean) 1 := ⟨(ab_inT 890 (by decide +kernel) (by decide +kernel)), (ab_inT 168 (by decide +kernel) (by decide +kernel)), ⟨by decide +kernel, by decide +kernel⟩, by decide +kernel, by decide⟩
theorem mvX2_hasPerson : ab_mV yX2_hasPerson := ⟨(ab_inT 889 (by decide +kernel) (by decide +kernel)), (ab_inT 46 (by decide +kernel) (by decide +kernel))⟩
theorem miX2_hasGood : ab_mI yX2_hasGood cX2_hasGood 2 (some .boolean) 1 := ⟨(ab_inT 914 (by decide +kernel) (by decide +kernel)), (ab_inT 168 (by decide +kernel) (by decide +kernel)), ⟨by decide +kernel, by decide +kernel⟩, by decide +kernel, by decide⟩
theorem mvX2_hasGood : ab_mV yX2_hasGood := ⟨(ab_inT 913 (by decide +kernel) (by decide +kernel)), (ab_inT 51 (by decide +kernel) (by decide +kernel))⟩
theorem miX2_kindOf : ab_mI yX2_kindOf cX2_kindOf 2 (some .int) 1 := ⟨(ab_inT 894 (by decide +kernel) (by decide +kernel)), (ab_inT 168 (by decide +kernel) (by decide +kernel)), ⟨by decide +kernel, by decide +kernel⟩, by decide +kernel, by decide⟩
theorem mvX2_kindOf : ab_mV yX2_kindOf := ⟨(ab_inT 893 (by decide +kernel) (by decide +kernel)), (ab_inT 47 (by decide +kernel) (by decide +kernel))⟩
theorem miX2_worthOf : ab_mI yX2_worthOf cX2_worthOf 2 (some .int) 1 := ⟨(ab_inT 812 (by decide +kernel) (by decide +kernel)), (ab_inT 168 (by decide +kernel) (by decide +kernel)), ⟨by decide +kernel, by decide +kernel⟩, by decide +kernel, by decide⟩
theorem mvX2_worthOf : ab_mV yX2_worthOf := ⟨(ab_inT 811 (by decide +kernel) (by decide +kernel)), (ab_inT 36 (by decide +kernel) (by decide +kernel))⟩
theorem miX2_ownerOf : ab_mI yX2_ownerOf cX2_ownerOf 2 (some .int) 1 := ⟨(ab_inT 808 (by decide +kernel) (by decide +kernel)), (ab_inT 168 (by decide +kernel) (by decide +kernel)), ⟨by decide +kernel, by decide +kernel⟩, by decide +kernel, by decide⟩
theorem mvX2_ownerOf : ab_mV yX2_ownerOf := ⟨(ab_inT 807 (by decide +kernel) (by decide +kernel)), (ab_inT 35 (by decide +kernel) (by decide +kernel))⟩
theorem miX2_allGoods : ab_mI yX2_allGoods cX2_allGoods 1 (some .int) 0 := ⟨(ab_inT 1007 (by decide +kernel) (by decide +kernel)), (ab_inT 168 (by decide +kernel) (by decide +kernel)), ⟨by decide +kernel, by decide +kernel⟩, by decide +kernel, by decide⟩
theorem mvX2_allGoods : ab_mV yX2_allGoods := ⟨(ab_inT 1006 (by decide +kernel) (by decide +kernel)), (ab_inT 65 (by decide +kernel) (by decide +kernel))⟩
theorem miX3_trade : ab_mI yX3_trade cX3_trade 6 none 2 := ⟨(ab_inT 1155 (by decide +kernel) (by decide +kernel)), (ab_inT 173 (by decide +kernel) (by decide +kernel)), ⟨by decide +kernel, by decide +kernel⟩, by decide +kernel, by decide⟩
theorem mvX3_trade : ab_mV yX3_trade := ⟨(ab_inT 1154 (by decide +kernel) (by decide +kernel)), (ab_inT 77 (by decide +kernel) (by decide +kernel))⟩
theorem miX3_putIn : ab_mI yX3_putIn cX3_putIn 6 (some .int) 2 := ⟨(ab_inT 1159 (by decide +kernel) (by decide +kernel)), (ab_inT 173 (by decide +kernel) (by decide +kernel)), ⟨by decide +kernel, by decide +kernel⟩, by decide +kernel, by decide⟩
theorem mvX3_putIn : ab_mV yX3_putIn := ⟨(ab_inT 1158 (by decide +kernel) (by decide +kernel)), (ab_inT 78 (by decide +kernel) (by decide +kernel))⟩
theorem miX3_pointsTo : ab_mI yX3_pointsTo cX3_pointsTo 11 (some .int) 4 := ⟨(ab_inT 1168 (by decide +kernel) (by decide +kernel)), (ab_inT 173 (by decide +kernel) (by decide +kernel)), ⟨by decide +kernel, by decide +kernel⟩, by decide +kernel, by decide⟩
theorem mvX3_pointsTo : ab_mV yX3_pointsTo := ⟨(ab_inT 1167 (by decide +kernel) (by decide +kernel)), (ab_inT 80 (by decide +kernel) (by decide +kernel))⟩
theorem miX3_handOut : ab_mI yX3_handOut cX3_handOut 5 (some .int) 2 := ⟨(ab_inT 1176 (by decide +kernel) (by decide +kernel)), (ab_inT 173 (by decide +kernel) (by decide +kernel)), ⟨by decide +kernel, by decide +kernel⟩, by decide +kernel, by decide⟩
theorem mvX3_handOut : ab_mV yX3_handOut := ⟨(ab_inT 1175 (by decide +kernel) (by decide +kernel)), (ab_inT 81 (by decide +kernel) (by decide +kernel))⟩
theorem miX3_comesRound : ab_mI yX3_comesRound cX3_comesRound 4 (some .boolean) 1 := ⟨(ab_inT 1180 (by decide +kernel) (by decide +kernel)), (ab_inT 173 (by decide +kernel) (by decide +kernel)), ⟨by decide +kernel, by decide +kernel⟩, by decide +kernel, by decide⟩
theorem mvX3_comesRound : ab_mV yX3_comesRound := ⟨(ab_inT 1179 (by decide +kernel) (by decide +kernel)), (ab_inT 82 (by decide +kernel) (by decide +kernel))⟩
theorem miX3_gotBy : ab_mI yX3_gotBy cX3_gotBy 2 (some .int) 1 := ⟨(ab_inT 1184 (by decide +kernel) (by decide +kernel)), (ab_inT 173 (by decide +kernel) (by decide +kernel)), ⟨by decide +kernel, by decide +kernel⟩, by decide +kernel, by decide⟩
theorem mvX3_gotBy : ab_mV yX3_gotBy := ⟨(ab_inT 1183 (by decide +kernel) (by decide +kernel)), (ab_inT 83 (by decide +kernel) (by decide +kernel))⟩
theorem miX4_add : ab_mI yX4_add cX4_add 4 (some .boolean) 3 := ⟨(ab_inT 1255 (by decide +kernel) (by decide +kernel)), (ab_inT 172 (by decide +kernel) (by decide +kernel)), ⟨by decide +kernel, by decide +kernel⟩, by decide +kernel, by decide⟩
theorem mvX4_add : ab_mV yX4_add := ⟨(ab_inT 1254 (by decide +kernel) (by decide +kernel)), (ab_inT 90 (by decide +kernel) (by decide +kernel))⟩
theorem miX4_copyOf : ab_mI yX4_copyOf cX4_copyOf 3 none 1 := ⟨(ab_inT 1323 (by decide +kernel) (by decide +kernel)), (ab_inT 172 (by decide +kernel) (by decide +kernel)), ⟨by decide +kernel, by decide +kernel⟩, by decide +kernel, by decide⟩
theorem mvX4_copyOf : ab_mV yX4_copyOf := ⟨(ab_inT 1322 (by decide +kernel) (by decide +kernel)), (ab_inT 96 (by decide +kernel) (by decide +kernel))⟩
theorem miX4_whoBits : ab_mI yX4_whoBits cX4_whoBits 4 (some .int) 1 := ⟨(ab_inT 1264 (by decide +kernel) (by decide +kernel)), (ab_inT 172 (by decide +kernel) (by decide +kernel)), ⟨by decide +kernel, by decide +kernel⟩, by decide +kernel, by decide⟩
theorem mvX4_whoBits : ab_mV yX4_whoBits := ⟨(ab_inT 1263 (by decide +kernel) (by decide +kernel)), (ab_inT 91 (by decide +kernel) (by decide +kernel))⟩
theorem miX4_allIsSo : ab_mI yX4_allIsSo cX4_allIsSo 5 (some .boolean) 2 := ⟨(ab_inT 1268 (by decide +kernel) (by decide +kernel)), (ab_inT 172 (by decide +kernel) (by decide +kernel)), ⟨by decide +kernel, by decide +kernel⟩, by decide +kernel, by decide⟩
theorem mvX4_allIsSo : ab_mV yX4_allIsSo := ⟨(ab_inT 1267 (by decide +kernel) (by decide +kernel)), (ab_inT 92 (by decide +kernel) (by decide +kernel))⟩
theorem miX5_startOf : ab_mI yX5_startOf cX5_startOf 3 none 1 := ⟨(ab_inT 844 (by decide +kernel) (by decide +kernel)), (ab_inT 171 (by decide +kernel) (by decide +kernel)), ⟨by decide +kernel, by decide +kernel⟩, by decide +kernel, by decide⟩
theorem mvX5_startOf : ab_mV yX5_startOf := ⟨(ab_inT 843 (by decide +kernel) (by decide +kernel)), (ab_inT 42 (by decide +kernel) (by decide +kernel))⟩
theorem miX5_copyOf : ab_mI yX5_copyOf cX5_copyOf 2 none 1 := ⟨(ab_inT 957 (by decide +kernel) (by decide +kernel)), (ab_inT 171 (by decide +kernel) (by decide +kernel)), ⟨by decide +kernel, by decide +kernel⟩, by decide +kernel, by decide⟩
theorem mvX5_copyOf : ab_mV yX5_copyOf := ⟨(ab_inT 956 (by decide +kernel) (by decide +kernel)), (ab_inT 57 (by decide +kernel) (by decide +kernel))⟩
theorem miX5_holderOf : ab_mI yX5_holderOf cX5_holderOf 2 (some .int) 1 := ⟨(ab_inT 920 (by decide +kernel) (by decide +kernel)), (ab_inT 171 (by decide +kernel) (by decide +kernel)), ⟨by decide +kernel, by decide +kernel⟩, by decide +kernel, by decide⟩
theorem mvX5_holderOf : ab_mV yX5_holderOf := ⟨(ab_inT 919 (by decide +kernel) (by decide +kernel)), (ab_inT 52 (by decide +kernel) (by decide +kernel))⟩
theorem miX5_place : ab_mI yX5_place cX5_place 3 none 2 := ⟨(ab_inT 986 (by decide +kernel) (by decide +kernel)), (ab_inT 171 (by decide +kernel) (by decide +kernel)), ⟨by decide +kernel, by decide +kernel⟩, by decide +kernel, by decide⟩
theorem mvX5_place : ab_mV yX5_place := ⟨(ab_inT 985 (by decide +kernel) (by decide +kernel)), (ab_inT 62 (by decide +kernel) (by decide +kernel))⟩
theorem miX5_shillingsOf : ab_mI yX5_shillingsOf cX5_shillingsOf 2 (some .int) 1 := ⟨(ab_inT 898 (by decide +kernel) (by decide +kernel)), (ab_inT 171 (by decide +kernel) (by decide +kernel)), ⟨by decide +kernel, by decide +kernel⟩, by decide +kernel, by decide⟩
theorem mvX5_shillingsOf : ab_mV yX5_shillingsOf := ⟨(ab_inT 897 (by decide +kernel) (by decide +kernel)), (ab_inT 48 (by decide +kernel) (by decide +kernel))⟩
theorem miX5_ticketsOf : ab_mI yX5_ticketsOf cX5_ticketsOf 2 (some .int) 1 := ⟨(ab_inT 902 (by decide +kernel) (by decide +kernel)), (ab_inT 171 (by decide +kernel) (by decide +kernel)), ⟨by decide +kernel, by decide +kernel⟩, by decide +kernel, by decide⟩
theorem mvX5_ticketsOf : ab_mV yX5_ticketsOf := ⟨(ab_inT 901 (by decide +kernel) (by decide +kernel)), (ab_inT 49 (by decide +kernel) (by decide +kernel))⟩
theorem miX5_allTickets : ab_mI yX5_allTickets cX5_allTickets 1 (some .int) 0 := ⟨(ab_inT 1015 (by decide +kernel) (by decide +kernel)), (ab_inT 171 (by decide +kernel) (by decide +kernel)), ⟨by decide +kernel, by decide +kernel⟩, by decide +kernel, by decide⟩
theorem mvX5_allTickets : ab_mV yX5_allTickets := ⟨(ab_inT 1014 (by decide +kernel) (by decide +kernel)), (ab_inT 67 (by decide +kernel) (by decide +kernel))⟩
theorem miX5_allShillings : ab_mI yX5_allShillings cX5_allShillings 1 (some .int) 0 := ⟨(ab_inT 1332 (by decide +kernel) (by decide +kernel)), (ab_inT 171 (by decide +kernel) (by decide +kernel)), ⟨by decide +kernel, by decide +kernel⟩, by decide +kernel, by decide⟩
theorem mvX5_allShillings : ab_mV yX5_allShillings := ⟨(ab_inT 1331 (by decide +kernel) (by decide +kernel)), (ab_inT 97 (by decide +kernel) (by decide +kernel))⟩
theorem miX5_bitsOf : ab_mI yX5_bitsOf cX5_bitsOf 4 (some .int) 1 := ⟨(ab_inT 906 (by decide +kernel) (by decide +kernel)), (ab_inT 171 (by decide +kernel) (by decide +kernel)), ⟨by decide +kernel, by decide +kernel⟩, by decide +kernel, by decide⟩
theorem mvX5_bitsOf : ab_mV yX5_bitsOf := ⟨(ab_inT 905 (by decide +kernel) (by decide +kernel)), (ab_inT 50 (by decide +kernel) (by decide +kernel))⟩
theorem miX5_firstOf : ab_mI yX5_firstOf cX5_firstOf 3 (some .int) 1 := ⟨(ab_inT 1163 (by decide +kernel) (by decide +kernel)), (ab_inT 171 (by decide +kernel) (by decide +kernel)), ⟨by decide +kernel, by decide +kernel⟩, by decide +kernel, by decide⟩
theorem mvX5_firstOf : ab_mV yX5_firstOf := ⟨(ab_inT 1162 (by decide +kernel) (by decide +kernel)), (ab_inT 79 (by decide +kernel) (by decide +kernel))⟩
theorem miX5_heldBits : ab_mI yX5_heldBits cX5_heldBits 2 (some .int) 1 := ⟨(ab_inT 1003 (by decide +kernel) (by decide +kernel)), (ab_inT 171 (by decide +kernel) (by decide +kernel)), ⟨by decide +kernel, by decide +kernel⟩, by decide +kernel, by decide⟩
theorem mvX5_heldBits : ab_mV yX5_heldBits := ⟨(ab_inT 1002 (by decide +kernel) (by decide +kernel)), (ab_inT 64 (by decide +kernel) (by decide +kernel))⟩
theorem miX5_rightBits : ab_mI yX5_rightBits cX5_rightBits 4 (some .int) 1 := ⟨(ab_inT 1062 (by decide +kernel) (by decide +kernel)), (ab_inT 171 (by decide +kernel) (by decide +kernel)), ⟨by decide +kernel, by decide +kernel⟩, by decide +kernel, by decide⟩
theorem mvX5_rightBits : ab_mV yX5_rightBits := ⟨(ab_inT 1061 (by decide +kernel) (by decide +kernel)), (ab_inT 72 (by decide +kernel) (by decide +kernel))⟩
theorem miX5_fitOf : ab_mI yX5_fitOf cX5_fitOf 5 (some .int) 3 := ⟨(ab_inT 928 (by decide +kernel) (by decide +kernel)), (ab_inT 171 (by decide +kernel) (by decide +kernel)), ⟨by decide +kernel, by decide +kernel⟩, by decide +kernel, by decide⟩
theorem mvX5_fitOf : ab_mV yX5_fitOf := ⟨(ab_inT 927 (by decide +kernel) (by decide +kernel)), (ab_inT 53 (by decide +kernel) (by decide +kernel))⟩
theorem miX5_joyOf : ab_mI yX5_joyOf cX5_joyOf 3 (some .int) 2 := ⟨(ab_inT 1114 (by decide +kernel) (by decide +kernel)), (ab_inT 171 (by decide +kernel) (by decide +kernel)), ⟨by decide +kernel, by decide +kernel⟩, by decide +kernel, by decide⟩
theorem mvX5_joyOf : ab_mV yX5_joyOf := ⟨(ab_inT 1113 (by decide +kernel) (by decide +kernel)), (ab_inT 73 (by decide +kernel) (by decide +kernel))⟩
theorem miX5_fitOfAll : ab_mI yX5_fitOfAll cX5_fitOfAll 8 (some .int) 3 := ⟨(ab_inT 1118 (by decide +kernel) (by decide +kernel)), (ab_inT 171 (by decide +kernel) (by decide +kernel)), ⟨by decide +kernel, by decide +kernel⟩, by decide +kernel, by decide⟩
theorem mvX5_fitOfAll : ab_mV yX5_fitOfAll := ⟨(ab_inT 1117 (by decide +kernel) (by decide +kernel)), (ab_inT 74 (by decide +kernel) (by decide +kernel))⟩
theorem miX5_joyOfAll : ab_mI yX5_joyOfAll cX5_joyOfAll 4 (some .int) 1 := ⟨(ab_inT 1314 (by decide +kernel) (by decide +kernel)), (ab_inT 171 (by decide +kernel) (by decide +kernel)), ⟨by decide +kernel, by decide +kernel⟩, by decide +kernel, by decide⟩
theorem mvX5_joyOfAll : ab_mV yX5_joyOfAll := ⟨(ab_inT 1313 (by decide +kernel) (by decide +kernel)), (ab_inT 95 (by decide +kernel) (by decide +kernel))⟩
theorem miX5_canBuy : ab_mI yX5_canBuy cX5_canBuy 2 (some .boolean) 1 := ⟨(ab_inT 947 (by decide +kernel) (by decide +kernel)), (ab_inT 171 (by decide +kernel) (by decide +kernel)), ⟨by decide +kernel, by decide +kernel⟩, by decide +kernel, by decide⟩
theorem mvX5_canBuy : ab_mV yX5_canBuy := ⟨(ab_inT 946 (by decide +kernel) (by decide +kernel)), (ab_inT 55 (by decide +kernel) (by decide +kernel))⟩
theorem miX5_takeTicket : ab_mI yX5_takeTicket cX5_takeTicket 2 none 1 := ⟨(ab_inT 965 (by decide +kernel) (by decide +kernel)), (ab_inT 171 (by decide +kernel) (by decide +kernel)), ⟨by decide +kernel, by decide +kernel⟩, by decide +kernel, by decide⟩
theorem mvX5_takeTicket : ab_mV yX5_takeTicket := ⟨(ab_inT 964 (by decide +kernel) (by decide +kernel)), (ab_inT 58 (by decide +kernel) (by decide +kernel))⟩
theorem miX5_canTrade : ab_mI yX5_canTrade cX5_canTrade 6 (some .boolean) 3 := ⟨(ab_inT 973 (by decide +kernel) (by decide +kernel)), (ab_inT 171 (by decide +kernel) (by decide +kernel)), ⟨by decide +kernel, by decide +kernel⟩, by decide +kernel, by decide⟩
theorem mvX5_canTrade : ab_mV yX5_canTrade := ⟨(ab_inT 972 (by decide +kernel) (by decide +kernel)), (ab_inT 59 (by decide +kernel) (by decide +kernel))⟩
theorem miX5_gainsBy : ab_mI yX5_gainsBy cX5_gainsBy 6 (some .boolean) 4 := ⟨(ab_inT 978 (by decide +kernel) (by decide +kernel)), (ab_inT 171 (by decide +kernel) (by decide +kernel)), ⟨by decide +kernel, by decide +kernel⟩, by decide +kernel, by decide⟩
theorem mvX5_gainsBy : ab_mV yX5_gainsBy := ⟨(ab_inT 977 (by decide +kernel) (by decide +kernel)), (ab_inT 60 (by decide +kernel) (by decide +kernel))⟩
theorem miX5_trade : ab_mI yX5_trade cX5_trade 4 none 2 := ⟨(ab_inT 982 (by decide +kernel) (by decide +kernel)), (ab_inT 171 (by decide +kernel) (by decide +kernel)), ⟨by decide +kernel, by decide +kernel⟩, by decide +kernel, by decide⟩
theorem mvX5_trade : ab_mV yX5_trade := ⟨(ab_inT 981 (by decide +kernel) (by decide +kernel)), (ab_inT 61 (by decide +kernel) (by decide +kernel))⟩
theorem miX5_draw : ab_mI yX5_draw cX5_draw 2 (some .int) 1 := ⟨(ab_inT 1022 (by decide +kernel) (by decide +kernel)), (ab_inT 171 (by decide +kernel) (by decide +kernel)), ⟨by decide +kernel, by decide +kernel⟩, by decide +kernel, by decide⟩
theorem mvX5_draw : ab_mV yX5_draw := ⟨(ab_inT 1021 (by decide +kernel) (by decide +kernel)), (ab_inT 68 (by decide +kernel) (by decide +kernel))⟩
theorem miX5_passQuarter : ab_mI yX5_passQuarter cX5_passQuarter 5 (some .int) 1 := ⟨(ab_inT 999 (by decide +kernel) (by decide +kernel)), (ab_inT 171 (by decide +kernel) (by decide +kernel)), ⟨by decide +kernel, by decide +kernel⟩, by decide +kernel, by decide⟩
theorem mvX5_passQuarter : ab_mV yX5_passQuarter := ⟨(ab_inT 998 (by decide +kernel) (by decide +kernel)), (ab_inT 63 (by decide +kernel) (by decide +kernel))⟩
theorem miX5_raffle : ab_mI yX5_raffle cX5_raffle 5 (some .int) 1 := ⟨(ab_inT 1011 (by decide +kernel) (by decide +kernel)), (ab_inT 171 (by decide +kernel) (by decide +kernel)), ⟨by decide +kernel, by decide +kernel⟩, by decide +kernel, by decide⟩
theorem mvX5_raffle : ab_mV yX5_raffle := ⟨(ab_inT 1010 (by decide +kernel) (by decide +kernel)), (ab_inT 66 (by decide +kernel) (by decide +kernel))⟩
theorem miX5_holderOfTicket : ab_mI yX5_holderOfTicket cX5_holderOfTicket 4 (some .int) 1 := ⟨(ab_inT 1030 (by decide +kernel) (by decide +kernel)), (ab_inT 171 (by decide +kernel) (by decide +kernel)), ⟨by decide +kernel, by decide +kernel⟩, by decide +kernel, by decide⟩
theorem mvX5_holderOfTicket : ab_mV yX5_holderOfTicket := ⟨(ab_inT 1029 (by decide +kernel) (by decide +kernel)), (ab_inT 69 (by decide +kernel) (by decide +kernel))⟩
theorem miX5_settle : ab_mI yX5_settle cX5_settle 5 none 2 := ⟨(ab_inT 1034 (by decide +kernel) (by decide +kernel)), (ab_inT 171 (by decide +kernel) (by decide +kernel)), ⟨by decide +kernel, by decide +kernel⟩, by decide +kernel, by decide⟩
theorem mvX5_settle : ab_mV yX5_settle := ⟨(ab_inT 1033 (by decide +kernel) (by decide +kernel)), (ab_inT 70 (by decide +kernel) (by decide +kernel))⟩
theorem miX5_tryLuck : ab_mI yX5_tryLuck cX5_tryLuck 4 none 1 := ⟨(ab_inT 1306 (by decide +kernel) (by decide +kernel)), (ab_inT 171 (by decide +kernel) (by decide +kernel)), ⟨by decide +kernel, by decide +kernel⟩, by decide +kernel, by decide⟩
theorem mvX5_tryLuck : ab_mV yX5_tryLuck := ⟨(ab_inT 1305 (by decide +kernel) (by decide +kernel)), (ab_inT 94 (by decide +kernel) (by decide +kernel))⟩
theorem miX6_takeBytes : ab_mI yX6_takeBytes cX6_takeBytes 6 none 1 := ⟨(ab_inT 496 (by decide +kernel) (by decide +kernel)), (ab_inT 167 (by decide +kernel) (by decide +kernel)), ⟨by decide +kernel, by decide +kernel⟩, by decide +kernel, by decide⟩
theorem mvX6_takeBytes : ab_mV yX6_takeBytes := ⟨(ab_inT 495 (by decide +kernel) (by decide +kernel)), (ab_inT 0 (by decide +kernel) (by decide +kernel))⟩
theorem miX6_split : ab_mI yX6_split cX6_split 4 none 0 := ⟨(ab_inT 505 (by decide +kernel) (by decide +kernel)), (ab_inT 167 (by decide +kernel) (by decide +kernel)), ⟨by decide +kernel, by decide +kernel⟩, by decide +kernel, by decide⟩
theorem mvX6_split : ab_mV yX6_split := ⟨(ab_inT 504 (by decide +kernel) (by decide +kernel)), (ab_inT 1 (by decide +kernel) (by decide +kernel))⟩
theorem miX6_scan : ab_mI yX6_scan cX6_scan 3 (some .int) 1 := ⟨(ab_inT 513 (by decide +kernel) (by decide +kernel)), (ab_inT 167 (by decide +kernel) (by decide +kernel)), ⟨by decide +kernel, by decide +kernel⟩, by decide +kernel, by decide⟩
theorem mvX6_scan : ab_mV yX6_scan := ⟨(ab_inT 512 (by decide +kernel) (by decide +kernel)), (ab_inT 3 (by decide +kernel) (by decide +kernel))⟩
theorem miX6_scanWord : ab_mI yX6_scanWord cX6_scanWord 5 (some .int) 1 := ⟨(ab_inT 520 (by decide +kernel) (by decide +kernel)), (ab_inT 167 (by decide +kernel) (by decide +kernel)), ⟨by decide +kernel, by decide +kernel⟩, by decide +kernel, by decide⟩
theorem mvX6_scanWord : ab_mV yX6_scanWord := ⟨(ab_inT 519 (by decide +kernel) (by decide +kernel)), (ab_inT 4 (by decide +kernel) (by decide +kernel))⟩
theorem miX6_scanNumber : ab_mI yX6_scanNumber cX6_scanNumber 5 (some .int) 1 := ⟨(ab_inT 535 (by decide +kernel) (by decide +kernel)), (ab_inT 167 (by decide +kernel) (by decide +kernel)), ⟨by decide +kernel, by decide +kernel⟩, by decide +kernel, by decide⟩
theorem mvX6_scanNumber : ab_mV yX6_scanNumber := ⟨(ab_inT 534 (by decide +kernel) (by decide +kernel)), (ab_inT 6 (by decide +kernel) (by decide +kernel))⟩
theorem miX6_add : ab_mI yX6_add cX6_add 5 none 3 := ⟨(ab_inT 528 (by decide +kernel) (by decide +kernel)), (ab_inT 167 (by decide +kernel) (by decide +kernel)), ⟨by decide +kernel, by decide +kernel⟩, by decide +kernel, by decide⟩
theorem mvX6_add : ab_mV yX6_add := ⟨(ab_inT 527 (by decide +kernel) (by decide +kernel)), (ab_inT 5 (by decide +kernel) (by decide +kernel))⟩
theorem miX6_signAt : ab_mI yX6_signAt cX6_signAt 2 (some .char) 1 := ⟨(ab_inT 509 (by decide +kernel) (by decide +kernel)), (ab_inT 167 (by decide +kernel) (by decide +kernel)), ⟨by decide +kernel, by decide +kernel⟩, by decide +kernel, by decide⟩
theorem mvX6_signAt : ab_mV yX6_signAt := ⟨(ab_inT 508 (by decide +kernel) (by decide +kernel)), (ab_inT 2 (by decide +kernel) (by decide +kernel))⟩
theorem miX6_isLetter : ab_mI yX6_isLetter cX6_isLetter 1 (some .boolean) 1 := ⟨(ab_inT 516 (by decide +kernel) (by decide +kernel)), (ab_inT 167 (by decide +kernel) (by decide +kernel)), ⟨by decide +kernel, by decide +kernel⟩, by decide +kernel, by decide⟩
theorem msX6_isLetter : ab_mS yX6_isLetter := (ab_inT 515 (by decide +kernel) (by decide +kernel))
theorem miX6_isDigit : ab_mI yX6_isDigit cX6_isDigit 1 (some .boolean) 1 := ⟨(ab_inT 531 (by decide +kernel) (by decide +kernel)), (ab_inT 167 (by decide +kernel) (by decide +kernel)), ⟨by decide +kernel, by decide +kernel⟩, by decide +kernel, by decide⟩
theorem msX6_isDigit : ab_mS yX6_isDigit := (ab_inT 530 (by decide +kernel) (by decide +kernel))
theorem miX6_step : ab_mI yX6_step cX6_step 2 none 0 := ⟨(ab_inT 628 (by decide +kernel) (by decide +kernel)), (ab_inT 167 (by decide +kernel) (by decide +kernel)), ⟨by decide +kernel, by decide +kernel⟩, by decide +kernel, by decide⟩
theorem mvX6_step : ab_mV yX6_step := ⟨(ab_inT 627 (by decide +kernel) (by decide +kernel)), (ab_inT 7 (by decide +kernel) (by decide +kernel))⟩
theorem miX6_isWord : ab_mI yX6_isWord cX6_isWord 2 (some .boolean) 1 := ⟨(ab_inT 654 (by decide +kernel) (by decide +kernel)), (ab_inT 167 (by decide +kernel) (by decide +kernel)), ⟨by decide +kernel, by decide +kernel⟩, by decide +kernel, by decide⟩
theorem mvX6_isWord : ab_mV yX6_isWord := ⟨(ab_inT 653 (by decide +kernel) (by decide +kernel)), (ab_inT 13 (by decide +kernel) (by decide +kernel))⟩
theorem miX6_isSign : ab_mI yX6_isSign cX6_isSign 2 (some .boolean) 1 := ⟨(ab_inT 707 (by decide +kernel) (by decide +kernel)), (ab_inT 167 (by decide +kernel) (by decide +kernel)), ⟨by decide +kernel, by decide +kernel⟩, by decide +kernel, by decide⟩
theorem mvX6_isSign : ab_mV yX6_isSign := ⟨(ab_inT 706 (by decide +kernel) (by decide +kernel)), (ab_inT 21 (by decide +kernel) (by decide +kernel))⟩
theorem miX6_isName : ab_mI yX6_isName cX6_isName 5 (some .boolean) 0 := ⟨(ab_inT 671 (by decide +kernel) (by decide +kernel)), (ab_inT 167 (by decide +kernel) (by decide +kernel)), ⟨by decide +kernel, by decide +kernel⟩, by decide +kernel, by decide⟩
theorem mvX6_isName : ab_mV yX6_isName := ⟨(ab_inT 670 (by decide +kernel) (by decide +kernel)), (ab_inT 17 (by decide +kernel) (by decide +kernel))⟩
theorem miX6_fail : ab_mI yX6_fail cX6_fail 2 (some .boolean) 1 := ⟨(ab_inT 662 (by decide +kernel) (by decide +kernel)), (ab_inT 167 (by decide +kernel) (by decide +kernel)), ⟨by decide +kernel, by decide +kernel⟩, by decide +kernel, by decide⟩
theorem mvX6_fail : ab_mV yX6_fail := ⟨(ab_inT 661 (by decide +kernel) (by decide +kernel)), (ab_inT 15 (by decide +kernel) (by decide +kernel))⟩
theorem miX6_takeWord : ab_mI yX6_takeWord cX6_takeWord 2 (some .boolean) 1 := ⟨(ab_inT 693 (by decide +kernel) (by decide +kernel)), (ab_inT 167 (by decide +kernel) (by decide +kernel)), ⟨by decide +kernel, by decide +kernel⟩, by decide +kernel, by decide⟩
theorem mvX6_takeWord : ab_mV yX6_takeWord := ⟨(ab_inT 692 (by decide +kernel) (by decide +kernel)), (ab_inT 18 (by decide +kernel) (by decide +kernel))⟩
theorem miX6_takeEnd : ab_mI yX6_takeEnd cX6_takeEnd 1 (some .boolean) 0 := ⟨(ab_inT 703 (by decide +kernel) (by decide +kernel)), (ab_inT 167 (by decide +kernel) (by decide +kernel)), ⟨by decide +kernel, by decide +kernel⟩, by decide +kernel, by decide⟩
theorem mvX6_takeEnd : ab_mV yX6_takeEnd := ⟨(ab_inT 702 (by decide +kernel) (by decide +kernel)), (ab_inT 20 (by decide +kernel) (by decide +kernel))⟩
theorem miX6_takeNumber : ab_mI yX6_takeNumber cX6_takeNumber 4 (some .int) 2 := ⟨(ab_inT 699 (by decide +kernel) (by decide +kernel)), (ab_inT 167 (by decide +kernel) (by decide +kernel)), ⟨by decide +kernel, by decide +kernel⟩, by decide +kernel, by decide⟩
theorem mvX6_takeNumber : ab_mV yX6_takeNumber := ⟨(ab_inT 698 (by decide +kernel) (by decide +kernel)), (ab_inT 19 (by decide +kernel) (by decide +kernel))⟩
theorem miX6_takeToldName : ab_mI yX6_takeToldName cX6_takeToldName 4 (some .int) 2 := ⟨(ab_inT 728 (by decide +kernel) (by decide +kernel)), (ab_inT 167 (by decide +kernel) (by decide +kernel)), ⟨by decide +kernel, by decide +kernel⟩, by decide +kernel, by decide⟩
theorem mvX6_takeToldName : ab_mV yX6_takeToldName := ⟨(ab_inT 727 (by decide +kernel) (by decide +kernel)), (ab_inT 24 (by decide +kernel) (by decide +kernel))⟩
theorem miX8_readLines : ab_mI yX8_readLines cX8_readLines 4 (some .int) 2 := ⟨(ab_inT 855 (by decide +kernel) (by decide +kernel)), (ab_inT 170 (by decide +kernel) (by decide +kernel)), ⟨by decide +kernel, by decide +kernel⟩, by decide +kernel, by decide⟩
theorem mvX8_readLines : ab_mV yX8_readLines := ⟨(ab_inT 854 (by decide +kernel) (by decide +kernel)), (ab_inT 43 (by decide +kernel) (by decide +kernel))⟩
theorem miX8_readLine : ab_mI yX8_readLine cX8_readLine 4 (some .boolean) 2 := ⟨(ab_inT 859 (by decide +kernel) (by decide +kernel)), (ab_inT 170 (by decide +kernel) (by decide +kernel)), ⟨by decide +kernel, by decide +kernel⟩, by decide +kernel, by decide⟩
theorem mvX8_readLine : ab_mV yX8_readLine := ⟨(ab_inT 858 (by decide +kernel) (by decide +kernel)), (ab_inT 44 (by decide +kernel) (by decide +kernel))⟩
theorem miX8_deedAt : ab_mI yX8_deedAt cX8_deedAt 1 (some .int) 1 := ⟨(ab_inT 862 (by decide +kernel) (by decide +kernel)), (ab_inT 170 (by decide +kernel) (by decide +kernel)), ⟨by decide +kernel, by decide +kernel⟩, by decide +kernel, by decide⟩
theorem msX8_deedAt : ab_mS yX8_deedAt := (ab_inT 861 (by decide +kernel) (by decide +kernel))
theorem miX8_readNames : ab_mI yX8_readNames cX8_readNames 7 (some .boolean) 3 := ⟨(ab_inT 878 (by decide +kernel) (by decide +kernel)), (ab_inT 170 (by decide +kernel) (by decide +kernel)), ⟨by decide +kernel, by decide +kernel⟩, by decide +kernel, by decide⟩
theorem mvX8_readNames : ab_mV yX8_readNames := ⟨(ab_inT 877 (by decide +kernel) (by decide +kernel)), (ab_inT 45 (by decide +kernel) (by decide +kernel))⟩
theorem miX8_doLine : ab_mI yX8_doLine cX8_doLine 7 (some .boolean) 3 := ⟨(ab_inT 1050 (by decide +kernel) (by decide +kernel)), (ab_inT 170 (by decide +kernel) (by decide +kernel)), ⟨by decide +kernel, by decide +kernel⟩, by decide +kernel, by decide⟩
theorem mvX8_doLine : ab_mV yX8_doLine := ⟨(ab_inT 1049 (by decide +kernel) (by decide +kernel)), (ab_inT 71 (by decide +kernel) (by decide +kernel))⟩
theorem miJ6_bitCount_0f7a4 : ab_mI yJ6_bitCount_0f7a4 cJ6_bitCount_0f7a4 1 (some .int) 1 := ⟨(ab_inT 932 (by decide +kernel) (by decide +kernel)), (ab_inT 184 (by decide +kernel) (by decide +kernel)), ⟨by decide +kernel, by decide +kernel⟩, by decide +kernel, by decide⟩
theorem msJ6_bitCount_0f7a4 : ab_mS yJ6_bitCount_0f7a4 := (ab_inT 931 (by decide +kernel) (by decide +kernel))
theorem miJ9_max_7cf53 : ab_mI yJ9_max_7cf53 cJ9_max_7cf53 2 (some .int) 2 := ⟨(ab_inT 568 (by decide +kernel) (by decide +kernel)), (ab_inT 178 (by decide +kernel) (by decide +kernel)), ⟨by decide +kernel, by decide +kernel⟩, by decide +kernel, by decide⟩
theorem msJ9_max_7cf53 : ab_mS yJ9_max_7cf53 := (ab_inT 567 (by decide +kernel) (by decide +kernel))
theorem miJ9_min_7cf53 : ab_mI yJ9_min_7cf53 cJ9_min_7cf53 2 (some .int) 2 := ⟨(ab_inT 571 (by decide +kernel) (by decide +kernel)), (ab_inT 178 (by decide +kernel) (by decide +kernel)), ⟨by decide +kernel, by decide +kernel⟩, by decide +kernel, by decide⟩
theorem msJ9_min_7cf53 : ab_mS yJ9_min_7cf53 := (ab_inT 570 (by decide +kernel) (by decide +kernel))
theorem miJ0_checkBoundsBeginEnd_23922 : ab_mI yJ0_checkBoundsBeginEnd_23922 cJ0_checkBoundsBeginEnd_23922 3 none 3 := ⟨(ab_inT 592 (by decide +kernel) (by decide +kernel)), (ab_inT 176 (by decide +kernel) (by decide +kernel)), ⟨by decide +kernel, by decide +kernel⟩, by decide +kernel, by decide⟩
theorem msJ0_checkBoundsBeginEnd_23922 : ab_mS yJ0_checkBoundsBeginEnd_23922 := (ab_inT 591 (by decide +kernel) (by decide +kernel))
theorem miJ0_coder_7d493 : ab_mI yJ0_coder_7d493 cJ0_coder_7d493 1 (some .byte) 0 := ⟨(ab_inT 559 (by decide +kernel) (by decide +kernel)), (ab_inT 176 (by decide +kernel) (by decide +kernel)), ⟨by decide +kernel, by decide +kernel⟩, by decide +kernel, by decide⟩
theorem mvJ0_coder_7d493 : ab_mV yJ0_coder_7d493 := ⟨(ab_inT 557 (by decide +kernel) (by decide +kernel)), (ab_inT 558 (by decide +kernel) (by decide +kernel))⟩
theorem miJ0_indexOf_0f7a4 : ab_mI yJ0_indexOf_0f7a4 cJ0_indexOf_0f7a4 2 (some .int) 1 := ⟨(ab_inT 541 (by decide +kernel) (by decide +kernel)), (ab_inT 176 (by decide +kernel) (by decide +kernel)), ⟨by decide +kernel, by decide +kernel⟩, by decide +kernel, by decide⟩
theorem mvJ0_indexOf_0f7a4 : ab_mV yJ0_indexOf_0f7a4 := ⟨(ab_inT 539 (by decide +kernel) (by decide +kernel)), (ab_inT 540 (by decide +kernel) (by decide +kernel))⟩
theorem miJ0_indexOf_7cf53 : ab_mI yJ0_indexOf_7cf53 cJ0_indexOf_7cf53 3 (some .int) 2 := ⟨(ab_inT 545 (by decide +kernel) (by decide +kernel)), (ab_inT 176 (by decide +kernel) (by decide +kernel)), ⟨by decide +kernel, by decide +kernel⟩, by decide +kernel, by decide⟩
theorem mvJ0_indexOf_7cf53 : ab_mV yJ0_indexOf_7cf53 := ⟨(ab_inT 543 (by decide +kernel) (by decide +kernel)), (ab_inT 544 (by decide +kernel) (by decide +kernel))⟩
theorem miJ0_isLatin1_aae02 : ab_mI yJ0_isLatin1_aae02 cJ0_isLatin1_aae02 1 (some .boolean) 0 := ⟨(ab_inT 549 (by decide +kernel) (by decide +kernel)), (ab_inT 176 (by decide +kernel) (by decide +kernel)), ⟨by decide +kernel, by decide +kernel⟩, by decide +kernel, by decide⟩
theorem mvJ0_isLatin1_aae02 : ab_mV yJ0_isLatin1_aae02 := ⟨(ab_inT 547 (by decide +kernel) (by decide +kernel)), (ab_inT 548 (by decide +kernel) (by decide +kernel))⟩
theorem miJ0_length_8abf5 : ab_mI yJ0_length_8abf5 cJ0_length_8abf5 1 (some .int) 0 := ⟨(ab_inT 555 (by decide +kernel) (by decide +kernel)), (ab_inT 176 (by decide +kernel) (by decide +kernel)), ⟨by decide +kernel, by decide +kernel⟩, by decide +kernel, by decide⟩
theorem mvJ0_length_8abf5 : ab_mV yJ0_length_8abf5 := ⟨(ab_inT 553 (by decide +kernel) (by decide +kernel)), (ab_inT 554 (by decide +kernel) (by decide +kernel))⟩
theorem miJ1_canEncode_9a6ad : ab_mI yJ1_canEncode_9a6ad cJ1_canEncode_9a6ad 1 (some .boolean) 1 := ⟨(ab_inT 565 (by decide +kernel) (by decide +kernel)), (ab_inT 177 (by decide +kernel) (by decide +kernel)), ⟨by decide +kernel, by decide +kernel⟩, by decide +kernel, by decide⟩
theorem msJ1_canEncode_9a6ad : ab_mS yJ1_canEncode_9a6ad := (ab_inT 564 (by decide +kernel) (by decide +kernel))
theorem miJ1_indexOf_4cfef : ab_mI yJ1_indexOf_4cfef cJ1_indexOf_4cfef 4 (some .int) 4 := ⟨(ab_inT 562 (by decide +kernel) (by decide +kernel)), (ab_inT 177 (by decide +kernel) (by decide +kernel)), ⟨by decide +kernel, by decide +kernel⟩, by decide +kernel, by decide⟩
theorem msJ1_indexOf_4cfef : ab_mS yJ1_indexOf_4cfef := (ab_inT 561 (by decide +kernel) (by decide +kernel))
theorem miJ1_indexOfChar_4cfef : ab_mI yJ1_indexOfChar_4cfef cJ1_indexOfChar_4cfef 6 (some .int) 4 := ⟨(ab_inT 574 (by decide +kernel) (by decide +kernel)), (ab_inT 177 (by decide +kernel) (by decide +kernel)), ⟨by decide +kernel, by decide +kernel⟩, by decide +kernel, by decide⟩
theorem msJ1_indexOfChar_4cfef : ab_mS yJ1_indexOfChar_4cfef := (ab_inT 573 (by decide +kernel) (by decide +kernel))
theorem lk10_21 : ab_lp 10 21 yX9_feed ∨ ab_ln' 10 21 yX9_feed := Or.inl (ab_inT 489 (by decide +kernel) (by decide +kernel))
theorem lk8_82 : ab_lp 8 82 yX6_takeBytes ∨ ab_ln' 8 82 yX6_takeBytes := Or.inr (List.mem_of_getElem? (i := 493) (by decide +kernel))
theorem lk10_26 : ab_lp 10 26 yX9_office ∨ ab_ln' 10 26 yX9_office := Or.inl (ab_inT 498 (by decide +kernel) (by decide +kernel))
theorem lk8_90 : ab_lp 8 90 yX6_split ∨ ab_ln' 8 90 yX6_split := Or.inr (List.mem_of_getElem? (i := 502) (by decide +kernel))
theorem lk6_38 : ab_lp 6 38 yX6_signAt ∨ ab_ln' 6 38 yX6_signAt := Or.inl (ab_inT 506 (by decide +kernel) (by decide +kernel))
theorem lk6_42 : ab_lp 6 42 yX6_scan ∨ ab_ln' 6 42 yX6_scan := Or.inl (ab_inT 510 (by decide +kernel) (by decide +kernel))
theorem lk6_62 : ab_lp 6 62 yX6_isLetter ∨ ab_ln' 6 62 yX6_isLetter := Or.inl (ab_inT 514 (by decide +kernel) (by decide +kernel))
theorem lk6_66 : ab_lp 6 66 yX6_scanWord ∨ ab_ln' 6 66 yX6_scanWord := Or.inl (ab_inT 517 (by decide +kernel) (by decide +kernel))
theorem lk6_82 : ab_lp 6 82 yX9_spell ∨ ab_ln' 6 82 yX9_spell := Or.inr (List.mem_of_getElem? (i := 521) (by decide +kernel))
theorem lk6_52 : ab_lp 6 52 yX6_add ∨ ab_ln' 6 52 yX6_add := Or.inl (ab_inT 525 (by decide +kernel) (by decide +kernel))
theorem lk6_69 : ab_lp 6 69 yX6_isDigit ∨ ab_ln' 6 69 yX6_isDigit := Or.inl (ab_inT 529 (by decide +kernel) (by decide +kernel))
theorem lk6_72 : ab_lp 6 72 yX6_scanNumber ∨ ab_ln' 6 72 yX6_scanNumber := Or.inl (ab_inT 532 (by decide +kernel) (by decide +kernel))
theorem lk6_77 : ab_lp 6 77 yJ0_indexOf_0f7a4 ∨ ab_ln' 6 77 yJ0_indexOf_0f7a4 := Or.inl (ab_inT 538 (by decide +kernel) (by decide +kernel))
theorem lk13_633 : ab_lp 13 633 yJ0_indexOf_7cf53 ∨ ab_ln' 13 633 yJ0_indexOf_7cf53 := Or.inl (ab_inT 542 (by decide +kernel) (by decide +kernel))
theorem lk13_492 : ab_lp 13 492 yJ0_isLatin1_aae02 ∨ ab_ln' 13 492 yJ0_isLatin1_aae02 := Or.inl (ab_inT 546 (by decide +kernel) (by decide +kernel))
theorem lk13_505 : ab_lp 13 505 yJ0_length_8abf5 ∨ ab_ln' 13 505 yJ0_length_8abf5 := Or.inl (ab_inT 552 (by decide +kernel) (by decide +kernel))
theorem lk13_335 : ab_lp 13 335 yJ0_coder_7d493 ∨ ab_ln' 13 335 yJ0_coder_7d493 := Or.inl (ab_inT 556 (by decide +kernel) (by decide +kernel))
theorem lk13_637 : ab_lp 13 637 yJ1_indexOf_4cfef ∨ ab_ln' 13 637 yJ1_indexOf_4cfef := Or.inl (ab_inT 560 (by decide +kernel) (by decide +kernel))
theorem lk14_88 : ab_lp 14 88 yJ1_canEncode_9a6ad ∨ ab_ln' 14 88 yJ1_canEncode_9a6ad := Or.inl (ab_inT 563 (by decide +kernel) (by decide +kernel))
theorem lk14_92 : ab_lp 14 92 yJ9_max_7cf53 ∨ ab_ln' 14 92 yJ9_max_7cf53 := Or.inl (ab_inT 566 (by decide +kernel) (by decide +kernel))
theorem lk14_38 : ab_lp 14 38 yJ9_min_7cf53 ∨ ab_ln' 14 38 yJ9_min_7cf53 := Or.inl (ab_inT 569 (by decide +kernel) (by decide +kernel))
theorem lk14_95 : ab_lp 14 95 yJ1_indexOfChar_4cfef ∨ ab_ln' 14 95 yJ1_indexOfChar_4cfef := Or.inl (ab_inT 572 (by decide +kernel) (by decide +kernel))
theorem lk13_640 : ab_lp 13 640 yJ2_indexOf_4cfef ∨ ab_ln' 13 640 yJ2_indexOf_4cfef := Or.inl (ab_inT 575 (by decide +kernel) (by decide +kernel))
theorem lk13_1062 : ab_lp 13 1062 yJ3_checkFromToIndex_8c36e ∨ ab_ln' 13 1062 yJ3_checkFromToIndex_8c36e := Or.inl (ab_inT 595 (by decide +kernel) (by decide +kernel))
theorem lk6_46 : ab_lp 6 46 yJ9_max_7cf53 ∨ ab_ln' 6 46 yJ9_max_7cf53 := Or.inl (ab_inT 624 (by decide +kernel) (by decide +kernel))
theorem lk6_59 : ab_lp 6 59 yX6_step ∨ ab_ln' 6 59 yX6_step := Or.inl (ab_inT 625 (by decide +kernel) (by decide +kernel))
theorem lk8_93 : ab_lp 8 93 yX2_readLines ∨ ab_ln' 8 93 yX2_readLines := Or.inr (List.mem_of_getElem? (i := 629) (by decide +kernel))
theorem lk2_44 : ab_lp 2 44 yX2_clear ∨ ab_ln' 2 44 yX2_clear := Or.inl (ab_inT 633 (by decide +kernel) (by decide +kernel))
theorem lk2_79 : ab_lp 2 79 yX1_setUsual ∨ ab_ln' 2 79 yX1_setUsual := Or.inr (List.mem_of_getElem? (i := 637) (by decide +kernel))
theorem lk1_22 : ab_lp 1 22 yX1_add ∨ ab_ln' 1 22 yX1_add := Or.inl (ab_inT 641 (by decide +kernel) (by decide +kernel))
theorem lk2_53 : ab_lp 2 53 yX2_readLine ∨ ab_ln' 2 53 yX2_readLine := Or.inl (ab_inT 645 (by decide +kernel) (by decide +kernel))
theorem lk2_88 : ab_lp 2 88 yX6_isWord ∨ ab_ln' 2 88 yX6_isWord := Or.inr (List.mem_of_getElem? (i := 651) (by decide +kernel))
theorem lk2_92 : ab_lp 2 92 yX2_readPerson ∨ ab_ln' 2 92 yX2_readPerson := Or.inl (ab_inT 655 (by decide +kernel) (by decide +kernel))
theorem lk2_119 : ab_lp 2 119 yX6_fail ∨ ab_ln' 2 119 yX6_fail := Or.inr (List.mem_of_getElem? (i := 659) (by decide +kernel))
theorem lk2_123 : ab_lp 2 123 yX6_step ∨ ab_ln' 2 123 yX6_step := Or.inr (List.mem_of_getElem? (i := 663) (by decide +kernel))
theorem lk2_126 : ab_lp 2 126 yX2_isNewName ∨ ab_ln' 2 126 yX2_isNewName := Or.inl (ab_inT 664 (by decide +kernel) (by decide +kernel))
theorem lk2_172 : ab_lp 2 172 yX6_isName ∨ ab_ln' 2 172 yX6_isName := Or.inr (List.mem_of_getElem? (i := 668) (by decide +kernel))
theorem lk2_175 : ab_lp 2 175 yX9_indexOf ∨ ab_ln' 2 175 yX9_indexOf := Or.inr (List.mem_of_getElem? (i := 674) (by decide +kernel))
theorem lk2_133 : ab_lp 2 133 yX2_kindAt ∨ ab_ln' 2 133 yX2_kindAt := Or.inl (ab_inT 677 (by decide +kernel) (by decide +kernel))
theorem lk2_140 : ab_lp 2 140 yX6_takeWord ∨ ab_ln' 2 140 yX6_takeWord := Or.inr (List.mem_of_getElem? (i := 690) (by decide +kernel))
theorem lk6_111 : ab_lp 6 111 yX6_isWord ∨ ab_ln' 6 111 yX6_isWord := Or.inl (ab_inT 694 (by decide +kernel) (by decide +kernel))
theorem lk6_115 : ab_lp 6 115 yX6_fail ∨ ab_ln' 6 115 yX6_fail := Or.inl (ab_inT 695 (by decide +kernel) (by decide +kernel))
theorem lk2_143 : ab_lp 2 143 yX6_takeNumber ∨ ab_ln' 2 143 yX6_takeNumber := Or.inr (List.mem_of_getElem? (i := 696) (by decide +kernel))
theorem lk2_147 : ab_lp 2 147 yX6_takeEnd ∨ ab_ln' 2 147 yX6_takeEnd := Or.inr (List.mem_of_getElem? (i := 700) (by decide +kernel))
theorem lk6_119 : ab_lp 6 119 yX6_isSign ∨ ab_ln' 6 119 yX6_isSign := Or.inl (ab_inT 704 (by decide +kernel) (by decide +kernel))
theorem lk2_151 : ab_lp 2 151 yX2_addPerson ∨ ab_ln' 2 151 yX2_addPerson := Or.inl (ab_inT 708 (by decide +kernel) (by decide +kernel))
theorem lk2_155 : ab_lp 2 155 yX9_put ∨ ab_ln' 2 155 yX9_put := Or.inr (List.mem_of_getElem? (i := 712) (by decide +kernel))
theorem lk2_98 : ab_lp 2 98 yX2_readGood ∨ ab_ln' 2 98 yX2_readGood := Or.inl (ab_inT 717 (by decide +kernel) (by decide +kernel))
theorem lk2_165 : ab_lp 2 165 yX6_takeToldName ∨ ab_ln' 2 165 yX6_takeToldName := Or.inr (List.mem_of_getElem? (i := 725) (by decide +kernel))
theorem lk6_122 : ab_lp 6 122 yX6_isName ∨ ab_ln' 6 122 yX6_isName := Or.inl (ab_inT 729 (by decide +kernel) (by decide +kernel))
theorem lk6_126 : ab_lp 6 126 yX9_indexOf ∨ ab_ln' 6 126 yX9_indexOf := Or.inr (List.mem_of_getElem? (i := 730) (by decide +kernel))
theorem lk2_169 : ab_lp 2 169 yX2_addGood ∨ ab_ln' 2 169 yX2_addGood := Or.inl (ab_inT 731 (by decide +kernel) (by decide +kernel))
theorem lk2_104 : ab_lp 2 104 yX2_readLikes ∨ ab_ln' 2 104 yX2_readLikes := Or.inl (ab_inT 737 (by decide +kernel) (by decide +kernel))
theorem lk2_191 : ab_lp 2 191 yX2_likeOf ∨ ab_ln' 2 191 yX2_likeOf := Or.inl (ab_inT 741 (by decide +kernel) (by decide +kernel))
theorem lk2_224 : ab_lp 2 224 yX9_at ∨ ab_ln' 2 224 yX9_at := Or.inr (List.mem_of_getElem? (i := 745) (by decide +kernel))
theorem lk2_110 : ab_lp 2 110 yX2_readSeed ∨ ab_ln' 2 110 yX2_readSeed := Or.inl (ab_inT 750 (by decide +kernel) (by decide +kernel))
theorem lk2_116 : ab_lp 2 116 yX2_readFits ∨ ab_ln' 2 116 yX2_readFits := Or.inl (ab_inT 756 (by decide +kernel) (by decide +kernel))
theorem lk2_197 : ab_lp 2 197 yX1_readLevel ∨ ab_ln' 2 197 yX1_readLevel := Or.inr (List.mem_of_getElem? (i := 760) (by decide +kernel))
theorem lk1_26 : ab_lp 1 26 yX1_readPart ∨ ab_ln' 1 26 yX1_readPart := Or.inl (ab_inT 764 (by decide +kernel) (by decide +kernel))
theorem lk1_49 : ab_lp 1 49 yX6_isWord ∨ ab_ln' 1 49 yX6_isWord := Or.inr (List.mem_of_getElem? (i := 770) (by decide +kernel))
theorem lk1_56 : ab_lp 1 56 yX6_isSign ∨ ab_ln' 1 56 yX6_isSign := Or.inr (List.mem_of_getElem? (i := 771) (by decide +kernel))
theorem lk1_66 : ab_lp 1 66 yX1_factAt ∨ ab_ln' 1 66 yX1_factAt := Or.inl (ab_inT 772 (by decide +kernel) (by decide +kernel))
theorem lk1_70 : ab_lp 1 70 yX6_fail ∨ ab_ln' 1 70 yX6_fail := Or.inr (List.mem_of_getElem? (i := 783) (by decide +kernel))
theorem lk1_38 : ab_lp 1 38 yX6_step ∨ ab_ln' 1 38 yX6_step := Or.inr (List.mem_of_getElem? (i := 784) (by decide +kernel))
theorem lk1_78 : ab_lp 1 78 yX1_readNot ∨ ab_ln' 1 78 yX1_readNot := Or.inl (ab_inT 785 (by decide +kernel) (by decide +kernel))
theorem lk1_81 : ab_lp 1 81 yX1_readBrackets ∨ ab_ln' 1 81 yX1_readBrackets := Or.inl (ab_inT 789 (by decide +kernel) (by decide +kernel))
theorem lk1_30 : ab_lp 1 30 yX1_readLevel ∨ ab_ln' 1 30 yX1_readLevel := Or.inl (ab_inT 793 (by decide +kernel) (by decide +kernel))
theorem lk1_34 : ab_lp 1 34 yX1_operatorAt ∨ ab_ln' 1 34 yX1_operatorAt := Or.inl (ab_inT 794 (by decide +kernel) (by decide +kernel))
theorem lk2_60 : ab_lp 2 60 yX2_workOutFits ∨ ab_ln' 2 60 yX2_workOutFits := Or.inl (ab_inT 801 (by decide +kernel) (by decide +kernel))
theorem lk2_201 : ab_lp 2 201 yX2_ownerOf ∨ ab_ln' 2 201 yX2_ownerOf := Or.inl (ab_inT 805 (by decide +kernel) (by decide +kernel))
theorem lk2_205 : ab_lp 2 205 yX2_worthOf ∨ ab_ln' 2 205 yX2_worthOf := Or.inl (ab_inT 809 (by decide +kernel) (by decide +kernel))
theorem lk2_208 : ab_lp 2 208 yX1_work ∨ ab_ln' 2 208 yX1_work := Or.inr (List.mem_of_getElem? (i := 813) (by decide +kernel))
theorem lk1_99 : ab_lp 1 99 yX1_push ∨ ab_ln' 1 99 yX1_push := Or.inl (ab_inT 817 (by decide +kernel) (by decide +kernel))
theorem lk1_102 : ab_lp 1 102 yX1_pop ∨ ab_ln' 1 102 yX1_pop := Or.inl (ab_inT 821 (by decide +kernel) (by decide +kernel))
theorem lk1_106 : ab_lp 1 106 yX1_pushOrJoin ∨ ab_ln' 1 106 yX1_pushOrJoin := Or.inl (ab_inT 825 (by decide +kernel) (by decide +kernel))
theorem lk1_109 : ab_lp 1 109 yX1_join ∨ ab_ln' 1 109 yX1_join := Or.inl (ab_inT 829 (by decide +kernel) (by decide +kernel))
theorem lk2_212 : ab_lp 2 212 yX2_fitIndex ∨ ab_ln' 2 212 yX2_fitIndex := Or.inl (ab_inT 832 (by decide +kernel) (by decide +kernel))
theorem lk2_216 : ab_lp 2 216 yJ9_min_7cf53 ∨ ab_ln' 2 216 yJ9_min_7cf53 := Or.inl (ab_inT 835 (by decide +kernel) (by decide +kernel))
theorem lk2_221 : ab_lp 2 221 yJ9_max_7cf53 ∨ ab_ln' 2 221 yJ9_max_7cf53 := Or.inl (ab_inT 836 (by decide +kernel) (by decide +kernel))
theorem lk8_97 : ab_lp 8 97 yX9_openOffice ∨ ab_ln' 8 97 yX9_openOffice := Or.inl (ab_inT 837 (by decide +kernel) (by decide +kernel))
theorem lk8_100 : ab_lp 8 100 yX5_startOf ∨ ab_ln' 8 100 yX5_startOf := Or.inr (List.mem_of_getElem? (i := 841) (by decide +kernel))
theorem lk5_21 : ab_lp 5 21 yX9_put ∨ ab_ln' 5 21 yX9_put := Or.inr (List.mem_of_getElem? (i := 845) (by decide +kernel))
theorem lk5_34 : ab_lp 5 34 yX9_at ∨ ab_ln' 5 34 yX9_at := Or.inr (List.mem_of_getElem? (i := 846) (by decide +kernel))
theorem lk10_31 : ab_lp 10 31 yX9_year ∨ ab_ln' 10 31 yX9_year := Or.inl (ab_inT 848 (by decide +kernel) (by decide +kernel))
theorem lk8_117 : ab_lp 8 117 yX8_readLines ∨ ab_ln' 8 117 yX8_readLines := Or.inr (List.mem_of_getElem? (i := 852) (by decide +kernel))
theorem lk7_30 : ab_lp 7 30 yX8_readLine ∨ ab_ln' 7 30 yX8_readLine := Or.inl (ab_inT 856 (by decide +kernel) (by decide +kernel))
theorem lk7_37 : ab_lp 7 37 yX8_deedAt ∨ ab_ln' 7 37 yX8_deedAt := Or.inl (ab_inT 860 (by decide +kernel) (by decide +kernel))
theorem lk7_66 : ab_lp 7 66 yX6_isWord ∨ ab_ln' 7 66 yX6_isWord := Or.inr (List.mem_of_getElem? (i := 865) (by decide +kernel))
theorem lk7_41 : ab_lp 7 41 yX6_fail ∨ ab_ln' 7 41 yX6_fail := Or.inr (List.mem_of_getElem? (i := 872) (by decide +kernel))
theorem lk7_45 : ab_lp 7 45 yX6_step ∨ ab_ln' 7 45 yX6_step := Or.inr (List.mem_of_getElem? (i := 873) (by decide +kernel))
theorem lk7_48 : ab_lp 7 48 yX9_put ∨ ab_ln' 7 48 yX9_put := Or.inr (List.mem_of_getElem? (i := 874) (by decide +kernel))
theorem lk7_52 : ab_lp 7 52 yX8_readNames ∨ ab_ln' 7 52 yX8_readNames := Or.inl (ab_inT 875 (by decide +kernel) (by decide +kernel))
theorem lk7_88 : ab_lp 7 88 yX6_takeToldName ∨ ab_ln' 7 88 yX6_takeToldName := Or.inr (List.mem_of_getElem? (i := 879) (by decide +kernel))
theorem lk7_98 : ab_lp 7 98 yX6_isName ∨ ab_ln' 7 98 yX6_isName := Or.inr (List.mem_of_getElem? (i := 880) (by decide +kernel))
theorem lk7_105 : ab_lp 7 105 yX9_indexOf ∨ ab_ln' 7 105 yX9_indexOf := Or.inr (List.mem_of_getElem? (i := 881) (by decide +kernel))
theorem lk7_56 : ab_lp 7 56 yX6_takeEnd ∨ ab_ln' 7 56 yX6_takeEnd := Or.inr (List.mem_of_getElem? (i := 882) (by decide +kernel))
theorem lk10_35 : ab_lp 10 35 yX9_person ∨ ab_ln' 10 35 yX9_person := Or.inl (ab_inT 883 (by decide +kernel) (by decide +kernel))
theorem lk8_120 : ab_lp 8 120 yX2_hasPerson ∨ ab_ln' 8 120 yX2_hasPerson := Or.inr (List.mem_of_getElem? (i := 887) (by decide +kernel))
theorem lk8_124 : ab_lp 8 124 yX2_kindOf ∨ ab_ln' 8 124 yX2_kindOf := Or.inr (List.mem_of_getElem? (i := 891) (by decide +kernel))
theorem lk8_128 : ab_lp 8 128 yX5_shillingsOf ∨ ab_ln' 8 128 yX5_shillingsOf := Or.inr (List.mem_of_getElem? (i := 895) (by decide +kernel))
theorem lk8_131 : ab_lp 8 131 yX5_ticketsOf ∨ ab_ln' 8 131 yX5_ticketsOf := Or.inr (List.mem_of_getElem? (i := 899) (by decide +kernel))
theorem lk8_134 : ab_lp 8 134 yX5_bitsOf ∨ ab_ln' 8 134 yX5_bitsOf := Or.inr (List.mem_of_getElem? (i := 903) (by decide +kernel))
theorem lk10_40 : ab_lp 10 40 yX9_good ∨ ab_ln' 10 40 yX9_good := Or.inl (ab_inT 907 (by decide +kernel) (by decide +kernel))
theorem lk8_137 : ab_lp 8 137 yX2_hasGood ∨ ab_ln' 8 137 yX2_hasGood := Or.inr (List.mem_of_getElem? (i := 911) (by decide +kernel))
theorem lk8_140 : ab_lp 8 140 yX2_worthOf ∨ ab_ln' 8 140 yX2_worthOf := Or.inr (List.mem_of_getElem? (i := 915) (by decide +kernel))
theorem lk8_143 : ab_lp 8 143 yX2_ownerOf ∨ ab_ln' 8 143 yX2_ownerOf := Or.inr (List.mem_of_getElem? (i := 916) (by decide +kernel))
theorem lk8_146 : ab_lp 8 146 yX5_holderOf ∨ ab_ln' 8 146 yX5_holderOf := Or.inr (List.mem_of_getElem? (i := 917) (by decide +kernel))
theorem lk10_44 : ab_lp 10 44 yX9_fit ∨ ab_ln' 10 44 yX9_fit := Or.inl (ab_inT 921 (by decide +kernel) (by decide +kernel))
theorem lk8_149 : ab_lp 8 149 yX5_fitOf ∨ ab_ln' 8 149 yX5_fitOf := Or.inr (List.mem_of_getElem? (i := 925) (by decide +kernel))
theorem lk5_60 : ab_lp 5 60 yX5_bitsOf ∨ ab_ln' 5 60 yX5_bitsOf := Or.inl (ab_inT 929 (by decide +kernel) (by decide +kernel))
theorem lk5_73 : ab_lp 5 73 yJ6_bitCount_0f7a4 ∨ ab_ln' 5 73 yJ6_bitCount_0f7a4 := Or.inl (ab_inT 930 (by decide +kernel) (by decide +kernel))
theorem lk5_78 : ab_lp 5 78 yX2_fitBy ∨ ab_ln' 5 78 yX2_fitBy := Or.inr (List.mem_of_getElem? (i := 936) (by decide +kernel))
theorem lk10_48 : ab_lp 10 48 yX9_buy ∨ ab_ln' 10 48 yX9_buy := Or.inl (ab_inT 940 (by decide +kernel) (by decide +kernel))
theorem lk8_153 : ab_lp 8 153 yX5_canBuy ∨ ab_ln' 8 153 yX5_canBuy := Or.inr (List.mem_of_getElem? (i := 944) (by decide +kernel))
theorem lk5_90 : ab_lp 5 90 yX5_shillingsOf ∨ ab_ln' 5 90 yX5_shillingsOf := Or.inl (ab_inT 948 (by decide +kernel) (by decide +kernel))
theorem lk5_93 : ab_lp 5 93 yX5_ticketsOf ∨ ab_ln' 5 93 yX5_ticketsOf := Or.inl (ab_inT 949 (by decide +kernel) (by decide +kernel))
theorem lk8_156 : ab_lp 8 156 yX9_remember ∨ ab_ln' 8 156 yX9_remember := Or.inl (ab_inT 950 (by decide +kernel) (by decide +kernel))
theorem lk8_181 : ab_lp 8 181 yX5_copyOf ∨ ab_ln' 8 181 yX5_copyOf := Or.inr (List.mem_of_getElem? (i := 954) (by decide +kernel))
theorem lk5_48 : ab_lp 5 48 yX9_copy ∨ ab_ln' 5 48 yX9_copy := Or.inr (List.mem_of_getElem? (i := 958) (by decide +kernel))
theorem lk8_185 : ab_lp 8 185 yJ9_min_7cf53 ∨ ab_ln' 8 185 yJ9_min_7cf53 := Or.inl (ab_inT 961 (by decide +kernel) (by decide +kernel))
theorem lk8_159 : ab_lp 8 159 yX5_takeTicket ∨ ab_ln' 8 159 yX5_takeTicket := Or.inr (List.mem_of_getElem? (i := 962) (by decide +kernel))
theorem lk10_53 : ab_lp 10 53 yX9_swap ∨ ab_ln' 10 53 yX9_swap := Or.inl (ab_inT 966 (by decide +kernel) (by decide +kernel))
theorem lk8_163 : ab_lp 8 163 yX5_canTrade ∨ ab_ln' 8 163 yX5_canTrade := Or.inr (List.mem_of_getElem? (i := 970) (by decide +kernel))
theorem lk5_67 : ab_lp 5 67 yX5_holderOf ∨ ab_ln' 5 67 yX5_holderOf := Or.inl (ab_inT 974 (by decide +kernel) (by decide +kernel))
theorem lk5_96 : ab_lp 5 96 yX5_gainsBy ∨ ab_ln' 5 96 yX5_gainsBy := Or.inl (ab_inT 975 (by decide +kernel) (by decide +kernel))
theorem lk8_167 : ab_lp 8 167 yX5_trade ∨ ab_ln' 8 167 yX5_trade := Or.inr (List.mem_of_getElem? (i := 979) (by decide +kernel))
theorem lk5_100 : ab_lp 5 100 yX5_place ∨ ab_ln' 5 100 yX5_place := Or.inl (ab_inT 983 (by decide +kernel) (by decide +kernel))
theorem lk10_58 : ab_lp 10 58 yX9_bring ∨ ab_ln' 10 58 yX9_bring := Or.inl (ab_inT 987 (by decide +kernel) (by decide +kernel))
theorem lk8_171 : ab_lp 8 171 yX5_place ∨ ab_ln' 8 171 yX5_place := Or.inr (List.mem_of_getElem? (i := 991) (by decide +kernel))
theorem lk10_62 : ab_lp 10 62 yX9_quarter ∨ ab_ln' 10 62 yX9_quarter := Or.inl (ab_inT 992 (by decide +kernel) (by decide +kernel))
theorem lk8_174 : ab_lp 8 174 yX5_passQuarter ∨ ab_ln' 8 174 yX5_passQuarter := Or.inr (List.mem_of_getElem? (i := 996) (by decide +kernel))
theorem lk5_112 : ab_lp 5 112 yX5_heldBits ∨ ab_ln' 5 112 yX5_heldBits := Or.inl (ab_inT 1000 (by decide +kernel) (by decide +kernel))
theorem lk5_56 : ab_lp 5 56 yX2_allGoods ∨ ab_ln' 5 56 yX2_allGoods := Or.inr (List.mem_of_getElem? (i := 1004) (by decide +kernel))
theorem lk5_116 : ab_lp 5 116 yX5_raffle ∨ ab_ln' 5 116 yX5_raffle := Or.inl (ab_inT 1008 (by decide +kernel) (by decide +kernel))
theorem lk5_129 : ab_lp 5 129 yX5_allTickets ∨ ab_ln' 5 129 yX5_allTickets := Or.inl (ab_inT 1012 (by decide +kernel) (by decide +kernel))
theorem lk5_52 : ab_lp 5 52 yX9_sum ∨ ab_ln' 5 52 yX9_sum := Or.inr (List.mem_of_getElem? (i := 1016) (by decide +kernel))
theorem lk5_132 : ab_lp 5 132 yX5_draw ∨ ab_ln' 5 132 yX5_draw := Or.inl (ab_inT 1019 (by decide +kernel) (by decide +kernel))
theorem lk5_135 : ab_lp 5 135 yX5_holderOfTicket ∨ ab_ln' 5 135 yX5_holderOfTicket := Or.inl (ab_inT 1027 (by decide +kernel) (by decide +kernel))
theorem lk5_119 : ab_lp 5 119 yX5_settle ∨ ab_ln' 5 119 yX5_settle := Or.inl (ab_inT 1031 (by decide +kernel) (by decide +kernel))
theorem lk5_70 : ab_lp 5 70 yX2_ownerOf ∨ ab_ln' 5 70 yX2_ownerOf := Or.inr (List.mem_of_getElem? (i := 1035) (by decide +kernel))
theorem lk5_138 : ab_lp 5 138 yX2_kindOf ∨ ab_ln' 5 138 yX2_kindOf := Or.inr (List.mem_of_getElem? (i := 1036) (by decide +kernel))
theorem lk5_141 : ab_lp 5 141 yX5_fitOf ∨ ab_ln' 5 141 yX5_fitOf := Or.inl (ab_inT 1037 (by decide +kernel) (by decide +kernel))
theorem lk5_123 : ab_lp 5 123 yJ9_min_7cf53 ∨ ab_ln' 5 123 yJ9_min_7cf53 := Or.inl (ab_inT 1038 (by decide +kernel) (by decide +kernel))
theorem lk10_66 : ab_lp 10 66 yX9_undo ∨ ab_ln' 10 66 yX9_undo := Or.inl (ab_inT 1039 (by decide +kernel) (by decide +kernel))
theorem lk10_71 : ab_lp 10 71 yX9_judged ∨ ab_ln' 10 71 yX9_judged := Or.inl (ab_inT 1043 (by decide +kernel) (by decide +kernel))
theorem lk8_191 : ab_lp 8 191 yX8_doLine ∨ ab_ln' 8 191 yX8_doLine := Or.inr (List.mem_of_getElem? (i := 1047) (by decide +kernel))
theorem lk7_109 : ab_lp 7 109 yX9_at ∨ ab_ln' 7 109 yX9_at := Or.inr (List.mem_of_getElem? (i := 1051) (by decide +kernel))
theorem lk7_113 : ab_lp 7 113 yX5_canBuy ∨ ab_ln' 7 113 yX5_canBuy := Or.inr (List.mem_of_getElem? (i := 1052) (by decide +kernel))
theorem lk7_118 : ab_lp 7 118 yX5_takeTicket ∨ ab_ln' 7 118 yX5_takeTicket := Or.inr (List.mem_of_getElem? (i := 1053) (by decide +kernel))
theorem lk7_122 : ab_lp 7 122 yX5_canTrade ∨ ab_ln' 7 122 yX5_canTrade := Or.inr (List.mem_of_getElem? (i := 1054) (by decide +kernel))
theorem lk7_126 : ab_lp 7 126 yX5_trade ∨ ab_ln' 7 126 yX5_trade := Or.inr (List.mem_of_getElem? (i := 1055) (by decide +kernel))
theorem lk7_130 : ab_lp 7 130 yX5_holderOf ∨ ab_ln' 7 130 yX5_holderOf := Or.inr (List.mem_of_getElem? (i := 1056) (by decide +kernel))
theorem lk7_134 : ab_lp 7 134 yX5_place ∨ ab_ln' 7 134 yX5_place := Or.inr (List.mem_of_getElem? (i := 1057) (by decide +kernel))
theorem lk7_137 : ab_lp 7 137 yX5_passQuarter ∨ ab_ln' 7 137 yX5_passQuarter := Or.inr (List.mem_of_getElem? (i := 1058) (by decide +kernel))
theorem lk8_195 : ab_lp 8 195 yX5_rightBits ∨ ab_ln' 8 195 yX5_rightBits := Or.inr (List.mem_of_getElem? (i := 1059) (by decide +kernel))
theorem lk8_198 : ab_lp 8 198 yJ6_bitCount_0f7a4 ∨ ab_ln' 8 198 yJ6_bitCount_0f7a4 := Or.inl (ab_inT 1063 (by decide +kernel) (by decide +kernel))
theorem lk10_75 : ab_lp 10 75 yX9_winner ∨ ab_ln' 10 75 yX9_winner := Or.inl (ab_inT 1064 (by decide +kernel) (by decide +kernel))
theorem lk10_79 : ab_lp 10 79 yX9_where ∨ ab_ln' 10 79 yX9_where := Or.inl (ab_inT 1068 (by decide +kernel) (by decide +kernel))
theorem lk10_83 : ab_lp 10 83 yX9_has ∨ ab_ln' 10 83 yX9_has := Or.inl (ab_inT 1072 (by decide +kernel) (by decide +kernel))
theorem lk10_87 : ab_lp 10 87 yX9_home ∨ ab_ln' 10 87 yX9_home := Or.inl (ab_inT 1076 (by decide +kernel) (by decide +kernel))
theorem lk8_203 : ab_lp 8 203 yX2_allGoods ∨ ab_ln' 8 203 yX2_allGoods := Or.inr (List.mem_of_getElem? (i := 1080) (by decide +kernel))
theorem lk10_91 : ab_lp 10 91 yX9_empty ∨ ab_ln' 10 91 yX9_empty := Or.inl (ab_inT 1081 (by decide +kernel) (by decide +kernel))
theorem lk8_207 : ab_lp 8 207 yX5_heldBits ∨ ab_ln' 8 207 yX5_heldBits := Or.inr (List.mem_of_getElem? (i := 1085) (by decide +kernel))
theorem lk10_95 : ab_lp 10 95 yX9_won ∨ ab_ln' 10 95 yX9_won := Or.inl (ab_inT 1086 (by decide +kernel) (by decide +kernel))
theorem lk10_99 : ab_lp 10 99 yX9_streak ∨ ab_ln' 10 99 yX9_streak := Or.inl (ab_inT 1090 (by decide +kernel) (by decide +kernel))
theorem lk8_210 : ab_lp 8 210 yJ9_max_7cf53 ∨ ab_ln' 8 210 yJ9_max_7cf53 := Or.inl (ab_inT 1094 (by decide +kernel) (by decide +kernel))
theorem lk10_103 : ab_lp 10 103 yX9_moves ∨ ab_ln' 10 103 yX9_moves := Or.inl (ab_inT 1095 (by decide +kernel) (by decide +kernel))
theorem lk10_107 : ab_lp 10 107 yX9_least ∨ ab_ln' 10 107 yX9_least := Or.inl (ab_inT 1099 (by decide +kernel) (by decide +kernel))
theorem lk10_111 : ab_lp 10 111 yX9_rights ∨ ab_ln' 10 111 yX9_rights := Or.inl (ab_inT 1103 (by decide +kernel) (by decide +kernel))
theorem lk10_115 : ab_lp 10 115 yX9_joy ∨ ab_ln' 10 115 yX9_joy := Or.inl (ab_inT 1107 (by decide +kernel) (by decide +kernel))
theorem lk8_219 : ab_lp 8 219 yX5_joyOf ∨ ab_ln' 8 219 yX5_joyOf := Or.inr (List.mem_of_getElem? (i := 1111) (by decide +kernel))
theorem lk5_82 : ab_lp 5 82 yX5_fitOfAll ∨ ab_ln' 5 82 yX5_fitOfAll := Or.inl (ab_inT 1115 (by decide +kernel) (by decide +kernel))
theorem lk10_119 : ab_lp 10 119 yX9_envy ∨ ab_ln' 10 119 yX9_envy := Or.inl (ab_inT 1119 (by decide +kernel) (by decide +kernel))
theorem lk8_223 : ab_lp 8 223 yX5_fitOfAll ∨ ab_ln' 8 223 yX5_fitOfAll := Or.inr (List.mem_of_getElem? (i := 1123) (by decide +kernel))
theorem lk10_123 : ab_lp 10 123 yX9_offers ∨ ab_ln' 10 123 yX9_offers := Or.inl (ab_inT 1124 (by decide +kernel) (by decide +kernel))
theorem lk10_127 : ab_lp 10 127 yX9_want ∨ ab_ln' 10 127 yX9_want := Or.inl (ab_inT 1128 (by decide +kernel) (by decide +kernel))
theorem lk10_131 : ab_lp 10 131 yX9_fans ∨ ab_ln' 10 131 yX9_fans := Or.inl (ab_inT 1132 (by decide +kernel) (by decide +kernel))
theorem lk8_226 : ab_lp 8 226 yX9_fanBits ∨ ab_ln' 8 226 yX9_fanBits := Or.inl (ab_inT 1136 (by decide +kernel) (by decide +kernel))
theorem lk8_229 : ab_lp 8 229 yX9_isFan ∨ ab_ln' 8 229 yX9_isFan := Or.inl (ab_inT 1140 (by decide +kernel) (by decide +kernel))
theorem lk10_135 : ab_lp 10 135 yX9_dull ∨ ab_ln' 10 135 yX9_dull := Or.inl (ab_inT 1144 (by decide +kernel) (by decide +kernel))
theorem lk10_139 : ab_lp 10 139 yX9_gets ∨ ab_ln' 10 139 yX9_gets := Or.inl (ab_inT 1148 (by decide +kernel) (by decide +kernel))
theorem lk8_233 : ab_lp 8 233 yX3_trade ∨ ab_ln' 8 233 yX3_trade := Or.inr (List.mem_of_getElem? (i := 1152) (by decide +kernel))
theorem lk3_25 : ab_lp 3 25 yX3_putIn ∨ ab_ln' 3 25 yX3_putIn := Or.inl (ab_inT 1156 (by decide +kernel) (by decide +kernel))
theorem lk3_46 : ab_lp 3 46 yX5_firstOf ∨ ab_ln' 3 46 yX5_firstOf := Or.inr (List.mem_of_getElem? (i := 1160) (by decide +kernel))
theorem lk3_38 : ab_lp 3 38 yX9_put ∨ ab_ln' 3 38 yX9_put := Or.inr (List.mem_of_getElem? (i := 1164) (by decide +kernel))
theorem lk3_34 : ab_lp 3 34 yX3_pointsTo ∨ ab_ln' 3 34 yX3_pointsTo := Or.inl (ab_inT 1165 (by decide +kernel) (by decide +kernel))
theorem lk3_52 : ab_lp 3 52 yX5_bitsOf ∨ ab_ln' 3 52 yX5_bitsOf := Or.inr (List.mem_of_getElem? (i := 1169) (by decide +kernel))
theorem lk3_55 : ab_lp 3 55 yJ6_bitCount_0f7a4 ∨ ab_ln' 3 55 yJ6_bitCount_0f7a4 := Or.inl (ab_inT 1170 (by decide +kernel) (by decide +kernel))
theorem lk3_60 : ab_lp 3 60 yX9_at ∨ ab_ln' 3 60 yX9_at := Or.inr (List.mem_of_getElem? (i := 1171) (by decide +kernel))
theorem lk3_64 : ab_lp 3 64 yX2_fitBy ∨ ab_ln' 3 64 yX2_fitBy := Or.inr (List.mem_of_getElem? (i := 1172) (by decide +kernel))
theorem lk3_42 : ab_lp 3 42 yX3_handOut ∨ ab_ln' 3 42 yX3_handOut := Or.inl (ab_inT 1173 (by decide +kernel) (by decide +kernel))
theorem lk3_68 : ab_lp 3 68 yX3_comesRound ∨ ab_ln' 3 68 yX3_comesRound := Or.inl (ab_inT 1177 (by decide +kernel) (by decide +kernel))
theorem lk8_236 : ab_lp 8 236 yX3_gotBy ∨ ab_ln' 8 236 yX3_gotBy := Or.inr (List.mem_of_getElem? (i := 1181) (by decide +kernel))
theorem lk10_143 : ab_lp 10 143 yX9_rounds ∨ ab_ln' 10 143 yX9_rounds := Or.inl (ab_inT 1185 (by decide +kernel) (by decide +kernel))
theorem lk10_147 : ab_lp 10 147 yX9_best ∨ ab_ln' 10 147 yX9_best := Or.inl (ab_inT 1189 (by decide +kernel) (by decide +kernel))
theorem lk8_242 : ab_lp 8 242 yX0_giveOut ∨ ab_ln' 8 242 yX0_giveOut := Or.inr (List.mem_of_getElem? (i := 1193) (by decide +kernel))
theorem lk0_22 : ab_lp 0 22 yX0_mostWithout ∨ ab_ln' 0 22 yX0_mostWithout := Or.inl (ab_inT 1197 (by decide +kernel) (by decide +kernel))
theorem lk0_39 : ab_lp 0 39 yX9_put ∨ ab_ln' 0 39 yX9_put := Or.inr (List.mem_of_getElem? (i := 1201) (by decide +kernel))
theorem lk0_58 : ab_lp 0 58 yX2_allGoods ∨ ab_ln' 0 58 yX2_allGoods := Or.inr (List.mem_of_getElem? (i := 1202) (by decide +kernel))
theorem lk0_62 : ab_lp 0 62 yJ6_bitCount_0f7a4 ∨ ab_ln' 0 62 yJ6_bitCount_0f7a4 := Or.inl (ab_inT 1203 (by decide +kernel) (by decide +kernel))
theorem lk0_68 : ab_lp 0 68 yX0_mostFrom ∨ ab_ln' 0 68 yX0_mostFrom := Or.inl (ab_inT 1204 (by decide +kernel) (by decide +kernel))
theorem lk0_43 : ab_lp 0 43 yX9_at ∨ ab_ln' 0 43 yX9_at := Or.inr (List.mem_of_getElem? (i := 1208) (by decide +kernel))
theorem lk0_50 : ab_lp 0 50 yX0_mostBy ∨ ab_ln' 0 50 yX0_mostBy := Or.inl (ab_inT 1209 (by decide +kernel) (by decide +kernel))
theorem lk0_54 : ab_lp 0 54 yX2_fitBy ∨ ab_ln' 0 54 yX2_fitBy := Or.inr (List.mem_of_getElem? (i := 1213) (by decide +kernel))
theorem lk0_72 : ab_lp 0 72 yJ9_max_7cf53 ∨ ab_ln' 0 72 yJ9_max_7cf53 := Or.inl (ab_inT 1214 (by decide +kernel) (by decide +kernel))
theorem lk0_35 : ab_lp 0 35 yX0_firstBest ∨ ab_ln' 0 35 yX0_firstBest := Or.inl (ab_inT 1215 (by decide +kernel) (by decide +kernel))
theorem lk8_248 : ab_lp 8 248 yX0_givenTo ∨ ab_ln' 8 248 yX0_givenTo := Or.inr (List.mem_of_getElem? (i := 1219) (by decide +kernel))
theorem lk10_151 : ab_lp 10 151 yX9_owes ∨ ab_ln' 10 151 yX9_owes := Or.inl (ab_inT 1223 (by decide +kernel) (by decide +kernel))
theorem lk8_251 : ab_lp 8 251 yX2_fitBy ∨ ab_ln' 8 251 yX2_fitBy := Or.inr (List.mem_of_getElem? (i := 1227) (by decide +kernel))
theorem lk8_255 : ab_lp 8 255 yX0_mostWithout ∨ ab_ln' 8 255 yX0_mostWithout := Or.inr (List.mem_of_getElem? (i := 1228) (by decide +kernel))
theorem lk10_155 : ab_lp 10 155 yX9_spare ∨ ab_ln' 10 155 yX9_spare := Or.inl (ab_inT 1229 (by decide +kernel) (by decide +kernel))
theorem lk10_159 : ab_lp 10 159 yX9_odds ∨ ab_ln' 10 159 yX9_odds := Or.inl (ab_inT 1233 (by decide +kernel) (by decide +kernel))
theorem lk8_258 : ab_lp 8 258 yX5_allTickets ∨ ab_ln' 8 258 yX5_allTickets := Or.inr (List.mem_of_getElem? (i := 1237) (by decide +kernel))
theorem lk10_163 : ab_lp 10 163 yX9_enough ∨ ab_ln' 10 163 yX9_enough := Or.inl (ab_inT 1239 (by decide +kernel) (by decide +kernel))
theorem lk10_167 : ab_lp 10 167 yX9_run ∨ ab_ln' 10 167 yX9_run := Or.inl (ab_inT 1243 (by decide +kernel) (by decide +kernel))
theorem lk10_171 : ab_lp 10 171 yX9_see ∨ ab_ln' 10 171 yX9_see := Or.inl (ab_inT 1248 (by decide +kernel) (by decide +kernel))
theorem lk8_265 : ab_lp 8 265 yX4_add ∨ ab_ln' 8 265 yX4_add := Or.inr (List.mem_of_getElem? (i := 1252) (by decide +kernel))
theorem lk4_26 : ab_lp 4 26 yX9_put ∨ ab_ln' 4 26 yX9_put := Or.inr (List.mem_of_getElem? (i := 1256) (by decide +kernel))
theorem lk10_176 : ab_lp 10 176 yX9_who ∨ ab_ln' 10 176 yX9_who := Or.inl (ab_inT 1257 (by decide +kernel) (by decide +kernel))
theorem lk8_269 : ab_lp 8 269 yX4_whoBits ∨ ab_ln' 8 269 yX4_whoBits := Or.inr (List.mem_of_getElem? (i := 1261) (by decide +kernel))
theorem lk4_39 : ab_lp 4 39 yX4_allIsSo ∨ ab_ln' 4 39 yX4_allIsSo := Or.inl (ab_inT 1265 (by decide +kernel) (by decide +kernel))
theorem lk4_43 : ab_lp 4 43 yX9_at ∨ ab_ln' 4 43 yX9_at := Or.inr (List.mem_of_getElem? (i := 1269) (by decide +kernel))
theorem lk4_47 : ab_lp 4 47 yX2_fitBy ∨ ab_ln' 4 47 yX2_fitBy := Or.inr (List.mem_of_getElem? (i := 1270) (by decide +kernel))
theorem lk10_180 : ab_lp 10 180 yX9_ask ∨ ab_ln' 10 180 yX9_ask := Or.inl (ab_inT 1271 (by decide +kernel) (by decide +kernel))
theorem lk8_272 : ab_lp 8 272 yX9_leftByAsking ∨ ab_ln' 8 272 yX9_leftByAsking := Or.inl (ab_inT 1275 (by decide +kernel) (by decide +kernel))
theorem lk10_184 : ab_lp 10 184 yX9_rich ∨ ab_ln' 10 184 yX9_rich := Or.inl (ab_inT 1279 (by decide +kernel) (by decide +kernel))
theorem lk10_188 : ab_lp 10 188 yX9_sad ∨ ab_ln' 10 188 yX9_sad := Or.inl (ab_inT 1283 (by decide +kernel) (by decide +kernel))
theorem lk10_192 : ab_lp 10 192 yX9_lack ∨ ab_ln' 10 192 yX9_lack := Or.inl (ab_inT 1287 (by decide +kernel) (by decide +kernel))
theorem lk10_196 : ab_lp 10 196 yX9_debt ∨ ab_ln' 10 196 yX9_debt := Or.inl (ab_inT 1291 (by decide +kernel) (by decide +kernel))
theorem lk10_200 : ab_lp 10 200 yX9_poor ∨ ab_ln' 10 200 yX9_poor := Or.inl (ab_inT 1295 (by decide +kernel) (by decide +kernel))
theorem lk10_213 : ab_lp 10 213 yX9_luck ∨ ab_ln' 10 213 yX9_luck := Or.inl (ab_inT 1299 (by decide +kernel) (by decide +kernel))
theorem lk8_299 : ab_lp 8 299 yX5_tryLuck ∨ ab_ln' 8 299 yX5_tryLuck := Or.inr (List.mem_of_getElem? (i := 1303) (by decide +kernel))
theorem lk5_144 : ab_lp 5 144 yX5_canBuy ∨ ab_ln' 5 144 yX5_canBuy := Or.inl (ab_inT 1307 (by decide +kernel) (by decide +kernel))
theorem lk5_148 : ab_lp 5 148 yX5_takeTicket ∨ ab_ln' 5 148 yX5_takeTicket := Or.inl (ab_inT 1308 (by decide +kernel) (by decide +kernel))
theorem lk5_152 : ab_lp 5 152 yX5_canTrade ∨ ab_ln' 5 152 yX5_canTrade := Or.inl (ab_inT 1309 (by decide +kernel) (by decide +kernel))
theorem lk5_156 : ab_lp 5 156 yX5_trade ∨ ab_ln' 5 156 yX5_trade := Or.inl (ab_inT 1310 (by decide +kernel) (by decide +kernel))
theorem lk8_302 : ab_lp 8 302 yX5_joyOfAll ∨ ab_ln' 8 302 yX5_joyOfAll := Or.inr (List.mem_of_getElem? (i := 1311) (by decide +kernel))
theorem lk5_86 : ab_lp 5 86 yX5_joyOf ∨ ab_ln' 5 86 yX5_joyOf := Or.inl (ab_inT 1315 (by decide +kernel) (by decide +kernel))
theorem lk10_218 : ab_lp 10 218 yX9_mark ∨ ab_ln' 10 218 yX9_mark := Or.inl (ab_inT 1316 (by decide +kernel) (by decide +kernel))
theorem lk8_305 : ab_lp 8 305 yX4_copyOf ∨ ab_ln' 8 305 yX4_copyOf := Or.inr (List.mem_of_getElem? (i := 1320) (by decide +kernel))
theorem lk4_30 : ab_lp 4 30 yX9_copy ∨ ab_ln' 4 30 yX9_copy := Or.inr (List.mem_of_getElem? (i := 1324) (by decide +kernel))
theorem lk10_223 : ab_lp 10 223 yX9_count ∨ ab_ln' 10 223 yX9_count := Or.inl (ab_inT 1325 (by decide +kernel) (by decide +kernel))
theorem lk8_311 : ab_lp 8 311 yX5_allShillings ∨ ab_ln' 8 311 yX5_allShillings := Or.inr (List.mem_of_getElem? (i := 1329) (by decide +kernel))
theorem lk10_204 : ab_lp 10 204 yL_rests ∨ ab_ln' 10 204 yL_rests := Or.inl (ab_inT 1333 (by decide +kernel) (by decide +kernel))
theorem lk10_7 : ab_lp 10 7 yX9_rests ∨ ab_ln' 10 7 yX9_rests := Or.inl (ab_inT 1337 (by decide +kernel) (by decide +kernel))
theorem lk8_275 : ab_lp 8 275 yX9_isBargain ∨ ab_ln' 8 275 yX9_isBargain := Or.inl (ab_inT 1341 (by decide +kernel) (by decide +kernel))
theorem lk8_285 : ab_lp 8 285 yX9_isRest ∨ ab_ln' 8 285 yX9_isRest := Or.inl (ab_inT 1409 (by decide +kernel) (by decide +kernel))
theorem lk8_291 : ab_lp 8 291 yX9_bargained ∨ ab_ln' 8 291 yX9_bargained := Or.inl (ab_inT 1412 (by decide +kernel) (by decide +kernel))
theorem lk10_210 : ab_lp 10 210 yX10_thrown ∨ ab_ln' 10 210 yX10_thrown := Or.inl (ab_inT 1416 (by decide +kernel) (by decide +kernel))
theorem lk10_25 : ab_lp 10 25 yX10_feed ∨ ab_ln' 10 25 yX10_feed := Or.inl (ab_inT 1420 (by decide +kernel) (by decide +kernel))
theorem lk9_7 : ab_lp 9 7 yX10_lay ∨ ab_ln' 9 7 yX10_lay := Or.inl (ab_inT 1424 (by decide +kernel) (by decide +kernel))
theorem lk9_135 : ab_lp 9 135 yX10_standsAsAlways ∨ ab_ln' 9 135 yX10_standsAsAlways := Or.inl (ab_inT 1457 (by decide +kernel) (by decide +kernel))
theorem lk9_139 : ab_lp 9 139 yX10_begins ∨ ab_ln' 9 139 yX10_begins := Or.inl (ab_inT 1461 (by decide +kernel) (by decide +kernel))
theorem lk9_282 : ab_lp 9 282 yX10_starts ∨ ab_ln' 9 282 yX10_starts := Or.inl (ab_inT 1465 (by decide +kernel) (by decide +kernel))
theorem lk9_275 : ab_lp 9 275 yX10_persons ∨ ab_ln' 9 275 yX10_persons := Or.inl (ab_inT 1469 (by decide +kernel) (by decide +kernel))
theorem lk9_279 : ab_lp 9 279 yX10_personOf ∨ ab_ln' 9 279 yX10_personOf := Or.inl (ab_inT 1473 (by decide +kernel) (by decide +kernel))
theorem lk10_30 : ab_lp 10 30 yX10_office ∨ ab_ln' 10 30 yX10_office := Or.inl (ab_inT 1577 (by decide +kernel) (by decide +kernel))
theorem lk9_211 : ab_lp 9 211 yX10_cutAll ∨ ab_ln' 9 211 yX10_cutAll := Or.inl (ab_inT 1581 (by decide +kernel) (by decide +kernel))
theorem lk9_142 : ab_lp 9 142 yX10_isLetter ∨ ab_ln' 9 142 yX10_isLetter := Or.inl (ab_inT 1585 (by decide +kernel) (by decide +kernel))
theorem lk9_151 : ab_lp 9 151 yX10_rank ∨ ab_ln' 9 151 yX10_rank := Or.inl (ab_inT 1589 (by decide +kernel) (by decide +kernel))
theorem lk9_155 : ab_lp 9 155 yX10_isDigit ∨ ab_ln' 9 155 yX10_isDigit := Or.inl (ab_inT 1592 (by decide +kernel) (by decide +kernel))
theorem lk9_162 : ab_lp 9 162 yX10_isSignOf ∨ ab_ln' 9 162 yX10_isSignOf := Or.inl (ab_inT 1597 (by decide +kernel) (by decide +kernel))
theorem lk9_220 : ab_lp 9 220 yX10_readLine ∨ ab_ln' 9 220 yX10_readLine := Or.inl (ab_inT 1600 (by decide +kernel) (by decide +kernel))
theorem lk9_177 : ab_lp 9 177 yX10_isWord ∨ ab_ln' 9 177 yX10_isWord := Or.inl (ab_inT 1604 (by decide +kernel) (by decide +kernel))
theorem lk9_226 : ab_lp 9 226 yX10_readName ∨ ab_ln' 9 226 yX10_readName := Or.inl (ab_inT 1608 (by decide +kernel) (by decide +kernel))
theorem lk9_174 : ab_lp 9 174 yX10_wrong ∨ ab_ln' 9 174 yX10_wrong := Or.inl (ab_inT 1612 (by decide +kernel) (by decide +kernel))
theorem lk9_199 : ab_lp 9 199 yX10_isName ∨ ab_ln' 9 199 yX10_isName := Or.inl (ab_inT 1616 (by decide +kernel) (by decide +kernel))
theorem lk9_190 : ab_lp 9 190 yX10_wordHere ∨ ab_ln' 9 190 yX10_wordHere := Or.inl (ab_inT 1620 (by decide +kernel) (by decide +kernel))
theorem lk9_203 : ab_lp 9 203 yX10_nameAt ∨ ab_ln' 9 203 yX10_nameAt := Or.inl (ab_inT 1624 (by decide +kernel) (by decide +kernel))
theorem lk9_230 : ab_lp 9 230 yX10_takeOne ∨ ab_ln' 9 230 yX10_takeOne := Or.inl (ab_inT 1628 (by decide +kernel) (by decide +kernel))
theorem lk9_233 : ab_lp 9 233 yX10_takeAfter ∨ ab_ln' 9 233 yX10_takeAfter := Or.inl (ab_inT 1632 (by decide +kernel) (by decide +kernel))
theorem lk9_183 : ab_lp 9 183 yX10_takeWord ∨ ab_ln' 9 183 yX10_takeWord := Or.inl (ab_inT 1636 (by decide +kernel) (by decide +kernel))
theorem lk9_180 : ab_lp 9 180 yX10_hasWord ∨ ab_ln' 9 180 yX10_hasWord := Or.inl (ab_inT 1640 (by decide +kernel) (by decide +kernel))
theorem lk9_186 : ab_lp 9 186 yX10_takeNumber ∨ ab_ln' 9 186 yX10_takeNumber := Or.inl (ab_inT 1644 (by decide +kernel) (by decide +kernel))
theorem lk9_237 : ab_lp 9 237 yX10_takeTold ∨ ab_ln' 9 237 yX10_takeTold := Or.inl (ab_inT 1648 (by decide +kernel) (by decide +kernel))
theorem lk9_207 : ab_lp 9 207 yX10_within ∨ ab_ln' 9 207 yX10_within := Or.inl (ab_inT 1652 (by decide +kernel) (by decide +kernel))
theorem lk9_241 : ab_lp 9 241 yX10_readLike ∨ ab_ln' 9 241 yX10_readLike := Or.inl (ab_inT 1655 (by decide +kernel) (by decide +kernel))
theorem lk9_244 : ab_lp 9 244 yX10_readOnce ∨ ab_ln' 9 244 yX10_readOnce := Or.inl (ab_inT 1659 (by decide +kernel) (by decide +kernel))
theorem lk9_247 : ab_lp 9 247 yX10_whole ∨ ab_ln' 9 247 yX10_whole := Or.inl (ab_inT 1663 (by decide +kernel) (by decide +kernel))
theorem lk9_257 : ab_lp 9 257 yX10_test ∨ ab_ln' 9 257 yX10_test := Or.inl (ab_inT 1667 (by decide +kernel) (by decide +kernel))
theorem lk9_260 : ab_lp 9 260 yX10_sums ∨ ab_ln' 9 260 yX10_sums := Or.inl (ab_inT 1671 (by decide +kernel) (by decide +kernel))
theorem lk9_266 : ab_lp 9 266 yX10_products ∨ ab_ln' 9 266 yX10_products := Or.inl (ab_inT 1675 (by decide +kernel) (by decide +kernel))
theorem lk9_269 : ab_lp 9 269 yX10_takePart ∨ ab_ln' 9 269 yX10_takePart := Or.inl (ab_inT 1679 (by decide +kernel) (by decide +kernel))
theorem lk9_171 : ab_lp 9 171 yX10_isSign ∨ ab_ln' 9 171 yX10_isSign := Or.inl (ab_inT 1683 (by decide +kernel) (by decide +kernel))
theorem lk9_250 : ab_lp 9 250 yX10_emit ∨ ab_ln' 9 250 yX10_emit := Or.inl (ab_inT 1687 (by decide +kernel) (by decide +kernel))
theorem lk9_263 : ab_lp 9 263 yX10_hasSign ∨ ab_ln' 9 263 yX10_hasSign := Or.inl (ab_inT 1691 (by decide +kernel) (by decide +kernel))
theorem lk9_223 : ab_lp 9 223 yX10_takeSign ∨ ab_ln' 9 223 yX10_takeSign := Or.inl (ab_inT 1695 (by decide +kernel) (by decide +kernel))
theorem lk10_34 : ab_lp 10 34 yX10_year ∨ ab_ln' 10 34 yX10_year := Or.inl (ab_inT 1699 (by decide +kernel) (by decide +kernel))
theorem lk9_254 : ab_lp 9 254 yX10_readYear ∨ ab_ln' 9 254 yX10_readYear := Or.inl (ab_inT 1703 (by decide +kernel) (by decide +kernel))
theorem lk10_39 : ab_lp 10 39 yX10_person ∨ ab_ln' 10 39 yX10_person := Or.inl (ab_inT 1707 (by decide +kernel) (by decide +kernel))
theorem lk9_342 : ab_lp 9 342 yX10_isPerson ∨ ab_ln' 9 342 yX10_isPerson := Or.inl (ab_inT 1711 (by decide +kernel) (by decide +kernel))
theorem lk9_300 : ab_lp 9 300 yX10_heldBy ∨ ab_ln' 9 300 yX10_heldBy := Or.inl (ab_inT 1715 (by decide +kernel) (by decide +kernel))
theorem lk9_291 : ab_lp 9 291 yX10_goods ∨ ab_ln' 9 291 yX10_goods := Or.inl (ab_inT 1719 (by decide +kernel) (by decide +kernel))
theorem lk10_43 : ab_lp 10 43 yX10_good ∨ ab_ln' 10 43 yX10_good := Or.inl (ab_inT 1723 (by decide +kernel) (by decide +kernel))
theorem lk9_345 : ab_lp 9 345 yX10_isGood ∨ ab_ln' 9 345 yX10_isGood := Or.inl (ab_inT 1727 (by decide +kernel) (by decide +kernel))
theorem lk9_294 : ab_lp 9 294 yX10_goodOf ∨ ab_ln' 9 294 yX10_goodOf := Or.inl (ab_inT 1731 (by decide +kernel) (by decide +kernel))
theorem lk10_47 : ab_lp 10 47 yX10_fit ∨ ab_ln' 10 47 yX10_fit := Or.inl (ab_inT 1735 (by decide +kernel) (by decide +kernel))
theorem lk9_327 : ab_lp 9 327 yX10_fitOf ∨ ab_ln' 9 327 yX10_fitOf := Or.inl (ab_inT 1739 (by decide +kernel) (by decide +kernel))
theorem lk9_303 : ab_lp 9 303 yX10_bits ∨ ab_ln' 9 303 yX10_bits := Or.inl (ab_inT 1743 (by decide +kernel) (by decide +kernel))
theorem lk9_306 : ab_lp 9 306 yX10_fitBy ∨ ab_ln' 9 306 yX10_fitBy := Or.inl (ab_inT 1746 (by decide +kernel) (by decide +kernel))
theorem lk9_297 : ab_lp 9 297 yX10_worthAt ∨ ab_ln' 9 297 yX10_worthAt := Or.inl (ab_inT 1750 (by decide +kernel) (by decide +kernel))
theorem lk9_272 : ab_lp 9 272 yX10_both ∨ ab_ln' 9 272 yX10_both := Or.inl (ab_inT 1754 (by decide +kernel) (by decide +kernel))
theorem lk10_52 : ab_lp 10 52 yX10_buy ∨ ab_ln' 10 52 yX10_buy := Or.inl (ab_inT 1757 (by decide +kernel) (by decide +kernel))
theorem lk9_348 : ab_lp 9 348 yX10_mayBuy ∨ ab_ln' 9 348 yX10_mayBuy := Or.inl (ab_inT 1761 (by decide +kernel) (by decide +kernel))
theorem lk9_352 : ab_lp 9 352 yX10_keeps ∨ ab_ln' 9 352 yX10_keeps := Or.inl (ab_inT 1765 (by decide +kernel) (by decide +kernel))
theorem lk9_288 : ab_lp 9 288 yX10_copies ∨ ab_ln' 9 288 yX10_copies := Or.inl (ab_inT 1769 (by decide +kernel) (by decide +kernel))
theorem lk9_355 : ab_lp 9 355 yX10_buys ∨ ab_ln' 9 355 yX10_buys := Or.inl (ab_inT 1773 (by decide +kernel) (by decide +kernel))
theorem lk10_57 : ab_lp 10 57 yX10_swap ∨ ab_ln' 10 57 yX10_swap := Or.inl (ab_inT 1777 (by decide +kernel) (by decide +kernel))
theorem lk9_358 : ab_lp 9 358 yX10_maySwap ∨ ab_ln' 9 358 yX10_maySwap := Or.inl (ab_inT 1781 (by decide +kernel) (by decide +kernel))
theorem lk9_315 : ab_lp 9 315 yX10_doesLike ∨ ab_ln' 9 315 yX10_doesLike := Or.inl (ab_inT 1785 (by decide +kernel) (by decide +kernel))
theorem lk9_361 : ab_lp 9 361 yX10_swaps ∨ ab_ln' 9 361 yX10_swaps := Or.inl (ab_inT 1789 (by decide +kernel) (by decide +kernel))
theorem lk10_61 : ab_lp 10 61 yX10_bring ∨ ab_ln' 10 61 yX10_bring := Or.inl (ab_inT 1793 (by decide +kernel) (by decide +kernel))
theorem lk10_65 : ab_lp 10 65 yX10_quarter ∨ ab_ln' 10 65 yX10_quarter := Or.inl (ab_inT 1797 (by decide +kernel) (by decide +kernel))
theorem lk9_364 : ab_lp 9 364 yX10_passes ∨ ab_ln' 9 364 yX10_passes := Or.inl (ab_inT 1801 (by decide +kernel) (by decide +kernel))
theorem lk9_330 : ab_lp 9 330 yX10_sumOf ∨ ab_ln' 9 330 yX10_sumOf := Or.inl (ab_inT 1805 (by decide +kernel) (by decide +kernel))
theorem lk9_333 : ab_lp 9 333 yX10_draw ∨ ab_ln' 9 333 yX10_draw := Or.inl (ab_inT 1809 (by decide +kernel) (by decide +kernel))
theorem lk9_336 : ab_lp 9 336 yX10_ownerOf ∨ ab_ln' 9 336 yX10_ownerOf := Or.inl (ab_inT 1817 (by decide +kernel) (by decide +kernel))
theorem lk9_339 : ab_lp 9 339 yX10_settles ∨ ab_ln' 9 339 yX10_settles := Or.inl (ab_inT 1821 (by decide +kernel) (by decide +kernel))
theorem lk10_70 : ab_lp 10 70 yX10_undo ∨ ab_ln' 10 70 yX10_undo := Or.inl (ab_inT 1825 (by decide +kernel) (by decide +kernel))
theorem lk10_74 : ab_lp 10 74 yX10_judged ∨ ab_ln' 10 74 yX10_judged := Or.inl (ab_inT 1829 (by decide +kernel) (by decide +kernel))
theorem lk9_367 : ab_lp 9 367 yX10_rightsOf ∨ ab_ln' 9 367 yX10_rightsOf := Or.inl (ab_inT 1833 (by decide +kernel) (by decide +kernel))
theorem lk10_78 : ab_lp 10 78 yX10_winner ∨ ab_ln' 10 78 yX10_winner := Or.inl (ab_inT 1837 (by decide +kernel) (by decide +kernel))
theorem lk9_370 : ab_lp 9 370 yX10_triesNow ∨ ab_ln' 9 370 yX10_triesNow := Or.inl (ab_inT 1841 (by decide +kernel) (by decide +kernel))
theorem lk10_82 : ab_lp 10 82 yX10_where ∨ ab_ln' 10 82 yX10_where := Or.inl (ab_inT 1845 (by decide +kernel) (by decide +kernel))
theorem lk10_86 : ab_lp 10 86 yX10_has ∨ ab_ln' 10 86 yX10_has := Or.inl (ab_inT 1849 (by decide +kernel) (by decide +kernel))
theorem lk10_90 : ab_lp 10 90 yX10_home ∨ ab_ln' 10 90 yX10_home := Or.inl (ab_inT 1853 (by decide +kernel) (by decide +kernel))
theorem lk10_94 : ab_lp 10 94 yX10_empty ∨ ab_ln' 10 94 yX10_empty := Or.inl (ab_inT 1857 (by decide +kernel) (by decide +kernel))
theorem lk10_98 : ab_lp 10 98 yX10_won ∨ ab_ln' 10 98 yX10_won := Or.inl (ab_inT 1861 (by decide +kernel) (by decide +kernel))
theorem lk10_102 : ab_lp 10 102 yX10_streak ∨ ab_ln' 10 102 yX10_streak := Or.inl (ab_inT 1865 (by decide +kernel) (by decide +kernel))
theorem lk10_106 : ab_lp 10 106 yX10_moves ∨ ab_ln' 10 106 yX10_moves := Or.inl (ab_inT 1869 (by decide +kernel) (by decide +kernel))
theorem lk10_114 : ab_lp 10 114 yX10_rights ∨ ab_ln' 10 114 yX10_rights := Or.inl (ab_inT 1873 (by decide +kernel) (by decide +kernel))
theorem lk10_118 : ab_lp 10 118 yX10_joy ∨ ab_ln' 10 118 yX10_joy := Or.inl (ab_inT 1877 (by decide +kernel) (by decide +kernel))
theorem lk9_312 : ab_lp 9 312 yX10_joyOf ∨ ab_ln' 9 312 yX10_joyOf := Or.inl (ab_inT 1881 (by decide +kernel) (by decide +kernel))
theorem lk9_309 : ab_lp 9 309 yX10_fitOfAll ∨ ab_ln' 9 309 yX10_fitOfAll := Or.inl (ab_inT 1885 (by decide +kernel) (by decide +kernel))
theorem lk10_122 : ab_lp 10 122 yX10_envy ∨ ab_ln' 10 122 yX10_envy := Or.inl (ab_inT 1889 (by decide +kernel) (by decide +kernel))
theorem lk10_126 : ab_lp 10 126 yX10_offers ∨ ab_ln' 10 126 yX10_offers := Or.inl (ab_inT 1893 (by decide +kernel) (by decide +kernel))
theorem lk10_130 : ab_lp 10 130 yX10_want ∨ ab_ln' 10 130 yX10_want := Or.inl (ab_inT 1897 (by decide +kernel) (by decide +kernel))
theorem lk9_373 : ab_lp 9 373 yX10_allGoods ∨ ab_ln' 9 373 yX10_allGoods := Or.inl (ab_inT 1901 (by decide +kernel) (by decide +kernel))
theorem lk9_376 : ab_lp 9 376 yX10_wantOf ∨ ab_ln' 9 376 yX10_wantOf := Or.inl (ab_inT 1905 (by decide +kernel) (by decide +kernel))
theorem lk10_134 : ab_lp 10 134 yX10_fans ∨ ab_ln' 10 134 yX10_fans := Or.inl (ab_inT 1909 (by decide +kernel) (by decide +kernel))
theorem lk9_379 : ab_lp 9 379 yX10_fansOf ∨ ab_ln' 9 379 yX10_fansOf := Or.inl (ab_inT 1913 (by decide +kernel) (by decide +kernel))
theorem lk10_138 : ab_lp 10 138 yX10_dull ∨ ab_ln' 10 138 yX10_dull := Or.inl (ab_inT 1917 (by decide +kernel) (by decide +kernel))
theorem lk10_110 : ab_lp 10 110 yX10_least ∨ ab_ln' 10 110 yX10_least := Or.inl (ab_inT 1921 (by decide +kernel) (by decide +kernel))
theorem lk10_142 : ab_lp 10 142 yX10_gets ∨ ab_ln' 10 142 yX10_gets := Or.inl (ab_inT 1925 (by decide +kernel) (by decide +kernel))
theorem lk9_385 : ab_lp 9 385 yX10_ringsNow ∨ ab_ln' 9 385 yX10_ringsNow := Or.inl (ab_inT 1929 (by decide +kernel) (by decide +kernel))
theorem lk9_382 : ab_lp 9 382 yX10_ownerIn ∨ ab_ln' 9 382 yX10_ownerIn := Or.inl (ab_inT 1933 (by decide +kernel) (by decide +kernel))
theorem lk10_146 : ab_lp 10 146 yX10_rounds ∨ ab_ln' 10 146 yX10_rounds := Or.inl (ab_inT 1937 (by decide +kernel) (by decide +kernel))
theorem lk10_150 : ab_lp 10 150 yX10_best ∨ ab_ln' 10 150 yX10_best := Or.inl (ab_inT 1941 (by decide +kernel) (by decide +kernel))
theorem lk9_395 : ab_lp 9 395 yX10_givesOut ∨ ab_ln' 9 395 yX10_givesOut := Or.inl (ab_inT 1945 (by decide +kernel) (by decide +kernel))
theorem lk9_391 : ab_lp 9 391 yX10_givesFrom ∨ ab_ln' 9 391 yX10_givesFrom := Or.inl (ab_inT 1949 (by decide +kernel) (by decide +kernel))
theorem lk10_154 : ab_lp 10 154 yX10_owes ∨ ab_ln' 10 154 yX10_owes := Or.inl (ab_inT 1953 (by decide +kernel) (by decide +kernel))
theorem lk10_158 : ab_lp 10 158 yX10_spare ∨ ab_ln' 10 158 yX10_spare := Or.inl (ab_inT 1957 (by decide +kernel) (by decide +kernel))
theorem lk10_162 : ab_lp 10 162 yX10_odds ∨ ab_ln' 10 162 yX10_odds := Or.inl (ab_inT 1961 (by decide +kernel) (by decide +kernel))
theorem lk10_166 : ab_lp 10 166 yX10_enough ∨ ab_ln' 10 166 yX10_enough := Or.inl (ab_inT 1966 (by decide +kernel) (by decide +kernel))
theorem lk10_170 : ab_lp 10 170 yX10_run ∨ ab_ln' 10 170 yX10_run := Or.inl (ab_inT 1970 (by decide +kernel) (by decide +kernel))
theorem lk10_175 : ab_lp 10 175 yX10_see ∨ ab_ln' 10 175 yX10_see := Or.inl (ab_inT 1975 (by decide +kernel) (by decide +kernel))
theorem lk10_179 : ab_lp 10 179 yX10_who ∨ ab_ln' 10 179 yX10_who := Or.inl (ab_inT 1979 (by decide +kernel) (by decide +kernel))
theorem lk9_402 : ab_lp 9 402 yX10_whoNow ∨ ab_ln' 9 402 yX10_whoNow := Or.inl (ab_inT 1983 (by decide +kernel) (by decide +kernel))
theorem lk10_183 : ab_lp 10 183 yX10_ask ∨ ab_ln' 10 183 yX10_ask := Or.inl (ab_inT 1987 (by decide +kernel) (by decide +kernel))
theorem lk10_187 : ab_lp 10 187 yX10_rich ∨ ab_ln' 10 187 yX10_rich := Or.inl (ab_inT 1991 (by decide +kernel) (by decide +kernel))
theorem lk10_191 : ab_lp 10 191 yX10_sad ∨ ab_ln' 10 191 yX10_sad := Or.inl (ab_inT 1995 (by decide +kernel) (by decide +kernel))
theorem lk10_195 : ab_lp 10 195 yX10_lack ∨ ab_ln' 10 195 yX10_lack := Or.inl (ab_inT 1999 (by decide +kernel) (by decide +kernel))
theorem lk10_199 : ab_lp 10 199 yX10_debt ∨ ab_ln' 10 199 yX10_debt := Or.inl (ab_inT 2003 (by decide +kernel) (by decide +kernel))
theorem lk10_203 : ab_lp 10 203 yX10_poor ∨ ab_ln' 10 203 yX10_poor := Or.inl (ab_inT 2007 (by decide +kernel) (by decide +kernel))
theorem lk10_209 : ab_lp 10 209 yX10_rests ∨ ab_ln' 10 209 yX10_rests := Or.inl (ab_inT 2011 (by decide +kernel) (by decide +kernel))
theorem lk9_405 : ab_lp 9 405 yX10_getsBy ∨ ab_ln' 9 405 yX10_getsBy := Or.inl (ab_inT 2015 (by decide +kernel) (by decide +kernel))
theorem lk10_217 : ab_lp 10 217 yX10_luck ∨ ab_ln' 10 217 yX10_luck := Or.inl (ab_inT 2018 (by decide +kernel) (by decide +kernel))
theorem lk9_409 : ab_lp 9 409 yX10_drawsDeed ∨ ab_ln' 9 409 yX10_drawsDeed := Or.inl (ab_inT 2022 (by decide +kernel) (by decide +kernel))
theorem lk9_412 : ab_lp 9 412 yX10_joyOfAll ∨ ab_ln' 9 412 yX10_joyOfAll := Or.inl (ab_inT 2026 (by decide +kernel) (by decide +kernel))
theorem lk10_222 : ab_lp 10 222 yX10_mark ∨ ab_ln' 10 222 yX10_mark := Or.inl (ab_inT 2030 (by decide +kernel) (by decide +kernel))
theorem lk10_226 : ab_lp 10 226 yX10_count ∨ ab_ln' 10 226 yX10_count := Or.inl (ab_inT 2034 (by decide +kernel) (by decide +kernel))
