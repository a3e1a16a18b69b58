/-! what the entries of the constant pools mean, by the owner and the entry -/
def ab_cn : Nat → String
  | 0 => "SoulRaffle$Gifts"
  | 1 => "SoulRaffle$Law"
  | 2 => "SoulRaffle$Office"
  | 3 => "SoulRaffle$Rings"
  | 4 => "SoulRaffle$Seen"
  | 5 => "SoulRaffle$Standing"
  | 6 => "SoulRaffle$Tokens"
  | 7 => "SoulRaffle$Year"
  | 8 => "SoulRaffle"
  | 9 => "SoulRaffleModel"
  | 10 => "SoulRaffleLaw"
  | 11 => "java/lang/Integer"
  | 12 => "java/lang/Math"
  | 13 => "java/lang/String"
  | 14 => "java/lang/StringLatin1"
  | _ => ""
def ab_TT : Nat → u_T
  | 0 => TX0
  | 1 => TX1
  | 2 => TX2
  | 3 => TX3
  | 4 => TX4
  | 5 => TX5
  | 6 => TX6
  | 7 => TX8
  | 8 => TX9
  | 9 => TX10
  | _ => fun _ => ("", "", "", false)
def ab_tt : Nat → Nat → FieldType
  | 0 => tyX0
  | 1 => tyX1
  | 2 => tyX2
  | 3 => tyX3
  | 4 => tyX4
  | 5 => tyX5
  | 6 => tyX6
  | 7 => tyX8
  | 8 => tyX9
  | 9 => tyX10
  | _ => fun _ => .int
def ab_wn : List String := ["PERSON", "COINS", "GOOD", "WORTH", "OF", "LIKES", "SEED", "FITS", "QUARTER", "BUY", "SWAP", "BRING", "PLAIN", "PROUD", "MEEK", "MATE", "NOT", "AND", "OR", "PRICE", "MINE", "LIKE", "OTHERS"]
def ab_wl : List Int64 := [232608281, 1896526, 149125, 12532058, 411, 6562612, 377761, 125218, 6888375828, 2050, 390787, 1424122, 8740238, 8868856, 259670, 257153, 10631, 1111, 423, 8863997, 262823, 243059, 226024039]
def ab_wr : List Int32 := [1, 1, 1, 1, 1, 1, 1, 1, 1, 1, 1, 1, 1, 1, 1, 1, 1, 1, 1, 0, 0, 0, 0]
abbrev ab_K : Type := Nat × (Nat × (Nat × Int))
def ab_lk0 : List (Nat × ab_K) := [(9, (0, 0, 2, 0)), (15, (0, 0, 3, 0)), (18, (0, 0, 0, 0)), (26, (0, 0, 1, 0)), (30, (1, 2, 0, 0)), (47, (1, 2, 1, 0))]
def ab_lk1 : List (Nat × ab_K) := [(9, (0, 1, 0, 0)), (15, (0, 1, 2, 0)), (18, (0, 1, 1, 0)), (43, (4, 17, 0, 0)), (53, (4, 18, 0, 0)), (60, (1, 6, 7, 0)), (63, (4, 16, 0, 0)), (74, (1, 6, 9, 0)), (84, (4, 19, 0, 0)), (87, (4, 20, 0, 0)), (90, (4, 21, 0, 0)), (93, (4, 22, 0, 0)), (96, (0, 1, 3, 0))]
def ab_lk2 : List (Nat × ab_K) := [(9, (0, 2, 2, 0)), (15, (0, 2, 3, 0)), (18, (0, 2, 4, 0)), (22, (0, 2, 5, 0)), (25, (0, 2, 6, 0)), (28, (0, 2, 7, 0)), (31, (0, 2, 8, 0)), (37, (0, 2, 12, 0)), (41, (0, 2, 13, 0)), (47, (1, 6, 7, 0)), (57, (1, 6, 10, 0)), (63, (0, 2, 0, 0)), (66, (0, 2, 1, 0)), (69, (0, 2, 9, 0)), (72, (0, 2, 10, 0)), (76, (0, 2, 11, 0)), (82, (4, 0, 0, 0)), (95, (4, 2, 0, 0)), (101, (4, 5, 0, 0)), (107, (4, 6, 0, 0)), (113, (4, 7, 0, 0)), (129, (1, 6, 9, 0)), (137, (4, 1, 0, 0)), (159, (4, 3, 0, 0)), (162, (4, 4, 0, 0)), (179, (4, 12, 0, 0)), (182, (4, 13, 0, 0)), (185, (4, 14, 0, 0)), (188, (4, 15, 0, 0)), (194, (1, 1, 1, 0))]
def ab_lk3 : List (Nat × ab_K) := [(9, (0, 3, 0, 0)), (15, (0, 3, 1, 0)), (18, (0, 3, 2, 0)), (21, (0, 3, 3, 0)), (29, (1, 2, 0, 0))]
def ab_lk4 : List (Nat × ab_K) := [(9, (0, 4, 0, 0)), (15, (0, 4, 1, 0)), (18, (0, 4, 2, 0)), (22, (0, 4, 3, 0)), (34, (1, 2, 0, 0))]
def ab_lk5 : List (Nat × ab_K) := [(9, (0, 5, 0, 0)), (15, (0, 5, 1, 0)), (18, (0, 5, 2, 0)), (25, (1, 2, 0, 0)), (31, (1, 2, 5, 0)), (38, (1, 2, 9, 0)), (41, (0, 5, 3, 0)), (45, (0, 5, 4, 0)), (64, (1, 2, 1, 0)), (104, (3, 0, 0, 1103515245)), (106, (3, 0, 0, 12345)), (108, (3, 0, 0, 2147483648)), (110, (3, 0, 0, 65536))]
def ab_lk6 : List (Nat × ab_K) := [(9, (0, 6, 0, 0)), (15, (0, 6, 2, 0)), (19, (0, 6, 3, 0)), (22, (0, 6, 4, 0)), (26, (3, 0, 0, 255)), (28, (0, 6, 1, 0)), (32, (0, 6, 5, 0)), (35, (0, 6, 10, 0)), (56, (0, 6, 6, 0)), (75, (7, 0, 0, 0)), (86, (3, 0, 0, 10)), (88, (0, 6, 7, 0)), (91, (0, 6, 8, 0)), (94, (0, 6, 9, 0)), (98, (6, 0, 0, 0)), (103, (11, 0, 0, 0)), (107, (6, 1, 0, 0))]
def ab_lk7 : List (Nat × ab_K) := [(9, (0, 7, 1, 0)), (15, (0, 7, 2, 0)), (18, (0, 7, 3, 0)), (21, (0, 7, 0, 0)), (25, (1, 6, 7, 0)), (34, (1, 6, 10, 0)), (60, (4, 8, 0, 0)), (70, (4, 9, 0, 0)), (73, (4, 10, 0, 0)), (76, (4, 11, 0, 0)), (79, (1, 2, 2, 0)), (85, (1, 2, 0, 0)), (92, (1, 2, 3, 0)), (95, (1, 2, 1, 0)), (101, (1, 6, 9, 0))]
def ab_lk8 : List (Nat × ab_K) := [(10, (0, 8, 0, 0)), (19, (0, 8, 1, 0)), (23, (0, 8, 2, 0)), (29, (0, 8, 3, 0)), (33, (0, 8, 4, 0)), (39, (0, 8, 5, 0)), (43, (0, 8, 6, 0)), (49, (0, 8, 7, 0)), (53, (0, 8, 8, 0)), (57, (0, 8, 11, 0)), (60, (0, 8, 12, 0)), (64, (0, 8, 13, 0)), (71, (0, 8, 14, 0)), (78, (0, 8, 15, 0)), (86, (1, 6, 1, 0)), (104, (1, 7, 0, 0)), (107, (1, 4, 3, 0)), (110, (0, 8, 10, 0)), (113, (1, 0, 0, 0)), (178, (0, 8, 9, 0)), (213, (1, 2, 1, 0)), (216, (1, 2, 0, 0)), (239, (1, 3, 3, 0)), (245, (1, 0, 1, 0)), (261, (3, 0, 0, 1000000)), (263, (3, 0, 0, 500000)), (295, (1, 5, 3, 0)), (308, (1, 5, 4, 0)), (314, (3, 0, 0, 27))]
def ab_lk9 : List (Nat × ab_K) := [(1, (0, 9, 0, 0)), (11, (0, 9, 2, 0)), (14, (0, 9, 1, 0)), (24, (0, 9, 4, 0)), (27, (0, 9, 5, 0)), (30, (0, 9, 6, 0)), (34, (3, 0, 0, 1119812451)), (36, (3, 0, 0, 6395136)), (38, (3, 0, 0, 375665)), (40, (3, 0, 0, 43890888)), (42, (3, 0, 0, 561)), (44, (3, 0, 0, 22961072)), (46, (3, 0, 0, 969441)), (48, (3, 0, 0, 316998)), (50, (3, 0, 0, 45076385548)), (52, (3, 0, 0, 3540)), (54, (3, 0, 0, 993947)), (56, (3, 0, 0, 4672922)), (58, (3, 0, 0, 30596128)), (60, (3, 0, 0, 30919646)), (62, (3, 0, 0, 665530)), (64, (3, 0, 0, 660603)), (66, (3, 0, 0, 19741)), (68, (3, 0, 0, 1891)), (70, (3, 0, 0, 573)), (72, (3, 0, 0, 30910767)), (74, (3, 0, 0, 671333)), (76, (3, 0, 0, 620569)), (78, (3, 0, 0, 1078055329)), (80, (0, 9, 9, 0)), (83, (0, 9, 10, 0)), (86, (0, 9, 11, 0)), (89, (0, 9, 12, 0)), (92, (0, 9, 14, 0)), (95, (0, 9, 15, 0)), (98, (0, 9, 16, 0)), (101, (0, 9, 17, 0)), (104, (0, 9, 21, 0)), (107, (0, 9, 22, 0)), (110, (0, 9, 23, 0)), (113, (0, 9, 24, 0)), (116, (0, 9, 26, 0)), (120, (0, 9, 27, 0)), (123, (0, 9, 28, 0)), (126, (0, 9, 29, 0)), (129, (0, 9, 30, 0)), (132, (0, 9, 31, 0)), (146, (0, 9, 3, 0)), (149, (3, 0, 0, 37)), (158, (3, 0, 0, 10)), (160, (3, 0, 0, 48)), (165, (0, 9, 7, 0)), (168, (0, 9, 8, 0)), (193, (0, 9, 19, 0)), (196, (0, 9, 18, 0)), (214, (0, 9, 13, 0)), (217, (0, 9, 20, 0)), (285, (0, 9, 25, 0)), (319, (3, 0, 0, 1103515245)), (321, (3, 0, 0, 12345)), (323, (3, 0, 0, 2147483648)), (325, (3, 0, 0, 65536)), (388, (0, 9, 32, 0)), (398, (3, 0, 0, 1000000)), (400, (3, 0, 0, 500000))]
def ab_lk10 : List (Nat × ab_K) := [(19, (3, 0, 0, 4294967295))]
def ab_lk11 : List (Nat × ab_K) := [(265, (2, 0, 0, 1431655765)), (266, (2, 0, 0, 858993459)), (267, (2, 0, 0, 252645135))]
def ab_lk12 : List (Nat × ab_K) := []
def ab_lk13 : List (Nat × ab_K) := [(9, (8, 0, 0, 0)), (15, (9, 0, 0, 0)), (38, (10, 0, 0, 0))]
def ab_lk14 : List (Nat × ab_K) := []
def ab_lks : Nat → List (Nat × ab_K)
  | 0 => ab_lk0
  | 1 => ab_lk1
  | 2 => ab_lk2
  | 3 => ab_lk3
  | 4 => ab_lk4
  | 5 => ab_lk5
  | 6 => ab_lk6
  | 7 => ab_lk7
  | 8 => ab_lk8
  | 9 => ab_lk9
  | 10 => ab_lk10
  | 11 => ab_lk11
  | 12 => ab_lk12
  | 13 => ab_lk13
  | 14 => ab_lk14
  | _ => []
def ab_lk (own idx : Nat) : ab_K := ((ab_lks own).lookup idx).getD (99, 0, 0, 0)
def ab_lkw (own idx : Nat) (q : ab_K) : Cond := match q.1 with
  | 0 => .fieldLink (ab_cn own) idx (ab_cn q.2.1) (ab_TT q.2.1 q.2.2.1).2.1 (ab_TT q.2.1 q.2.2.1).2.2.1
  | 1 => .fieldLinkNest (ab_cn own) idx (ab_cn q.2.1) (ab_TT q.2.1 q.2.2.1).2.1 (ab_TT q.2.1 q.2.2.1).2.2.1 "SoulRaffle"
  | 2 => .constant (ab_cn own) idx (Int32.ofInt q.2.2.2)
  | 3 => .constantLong (ab_cn own) idx (Int64.ofInt q.2.2.2)
  | 4 => .fieldLink (ab_cn own) idx "SoulRaffle$Word" (ab_wn.getD q.2.1 "") "LSoulRaffle$Word;"
  | 5 => .fieldLink (ab_cn own) idx "SoulRaffle" "WORDS" "[LSoulRaffle$Word;"
  | 11 => .fieldLinkNest (ab_cn own) idx "SoulRaffle" "WORDS" "[LSoulRaffle$Word;" "SoulRaffle"
  | 6 => .fieldLink (ab_cn own) idx "SoulRaffle$Word" (if q.2.1 = 0 then "letters" else "reserved") (if q.2.1 = 0 then "J" else "Z")
  | 7 => .stringRef (ab_cn own) idx "()<=+-*;"
  | 8 => .fieldLink (ab_cn own) idx "java/lang/String" "value" "[B"
  | 9 => .fieldLink (ab_cn own) idx "java/lang/String" "coder" "B"
  | _ => .fieldLink (ab_cn own) idx "java/lang/String" "COMPACT_STRINGS" "Z"
def ab_lkB (own : Nat) : Bool := (ab_lks own).all fun p => decide (ab_lkw own p.1 p.2 ∈ lw_tbl) && (goodWord (ab_lkw own p.1 p.2) || ab_isNest (ab_lkw own p.1 p.2) || p.2.1 == 7) && decide (p.2.1 < 12) && (decide (1 < p.2.1) || (decide (p.2.2.1 < 10) && decide (p.2.2.2.1 < (ab_fs p.2.2.1).length)))
theorem ab_lkB0 : ab_lkB 0 = true := by decide +kernel
theorem ab_lkB1 : ab_lkB 1 = true := by decide +kernel
theorem ab_lkB2 : ab_lkB 2 = true := by decide +kernel
theorem ab_lkB3 : ab_lkB 3 = true := by decide +kernel
theorem ab_lkB4 : ab_lkB 4 = true := by decide +kernel
theorem ab_lkB5 : ab_lkB 5 = true := by decide +kernel
theorem ab_lkB6 : ab_lkB 6 = true := by decide +kernel
theorem ab_lkB7 : ab_lkB 7 = true := by decide +kernel
theorem ab_lkB8 : ab_lkB 8 = true := by decide +kernel
theorem ab_lkB9 : ab_lkB 9 = true := by decide +kernel
theorem ab_lkB10 : ab_lkB 10 = true := by decide +kernel
theorem ab_lkB11 : ab_lkB 11 = true := by decide +kernel
theorem ab_lkB12 : ab_lkB 12 = true := by decide +kernel
theorem ab_lkB13 : ab_lkB 13 = true := by decide +kernel
theorem ab_lkB14 : ab_lkB 14 = true := by decide +kernel
