section
-- ===== PART A: goes FIRST, ahead of the names: the tables' words, and 'selects' of the private methods out of them =====
/-- a private method of a class that the tables say can be made, by its rows of tables_1 -/
def lw_okq (q : MethodName × Nat) : Prop := (q.1.cls ≠ "java/lang/invoke/MethodHandle" ∧ q.1.cls ≠ "java/lang/invoke/VarHandle") ∧ Cond.instantiable q.1.cls q.2 ∈ tables_1 ∧ Cond.privateMethod q.1 ∈ tables_1 ∧ Cond.instanceMethod q.1 ∈ tables_1
theorem lw_p0 : lw_okq (⟨"SoulRaffle$Tokens", "takeBytes", "(J)V"⟩, 11) := ⟨⟨by decide +kernel, by decide +kernel⟩, List.mem_of_getElem? (i := 33) (by decide +kernel), List.mem_of_getElem? (i := 329) (by decide +kernel), List.mem_of_getElem? (i := 330) (by decide +kernel)⟩
theorem lw_p1 : lw_okq (⟨"SoulRaffle$Tokens", "split", "()V"⟩, 11) := ⟨⟨by decide +kernel, by decide +kernel⟩, List.mem_of_getElem? (i := 33) (by decide +kernel), List.mem_of_getElem? (i := 338) (by decide +kernel), List.mem_of_getElem? (i := 339) (by decide +kernel)⟩
theorem lw_p2 : lw_okq (⟨"SoulRaffle$Tokens", "signAt", "(I)C"⟩, 11) := ⟨⟨by decide +kernel, by decide +kernel⟩, List.mem_of_getElem? (i := 33) (by decide +kernel), List.mem_of_getElem? (i := 342) (by decide +kernel), List.mem_of_getElem? (i := 343) (by decide +kernel)⟩
theorem lw_p3 : lw_okq (⟨"SoulRaffle$Tokens", "scan", "(I)I"⟩, 11) := ⟨⟨by decide +kernel, by decide +kernel⟩, List.mem_of_getElem? (i := 33) (by decide +kernel), List.mem_of_getElem? (i := 346) (by decide +kernel), List.mem_of_getElem? (i := 347) (by decide +kernel)⟩
theorem lw_p4 : lw_okq (⟨"SoulRaffle$Tokens", "scanWord", "(I)I"⟩, 11) := ⟨⟨by decide +kernel, by decide +kernel⟩, List.mem_of_getElem? (i := 33) (by decide +kernel), List.mem_of_getElem? (i := 353) (by decide +kernel), List.mem_of_getElem? (i := 354) (by decide +kernel)⟩
theorem lw_p5 : lw_okq (⟨"SoulRaffle$Tokens", "add", "(IIJ)V"⟩, 11) := ⟨⟨by decide +kernel, by decide +kernel⟩, List.mem_of_getElem? (i := 33) (by decide +kernel), List.mem_of_getElem? (i := 361) (by decide +kernel), List.mem_of_getElem? (i := 362) (by decide +kernel)⟩
theorem lw_p6 : lw_okq (⟨"SoulRaffle$Tokens", "scanNumber", "(I)I"⟩, 11) := ⟨⟨by decide +kernel, by decide +kernel⟩, List.mem_of_getElem? (i := 33) (by decide +kernel), List.mem_of_getElem? (i := 368) (by decide +kernel), List.mem_of_getElem? (i := 369) (by decide +kernel)⟩
theorem lw_p7 : lw_okq (⟨"SoulRaffle$Tokens", "step", "()V"⟩, 11) := ⟨⟨by decide +kernel, by decide +kernel⟩, List.mem_of_getElem? (i := 33) (by decide +kernel), List.mem_of_getElem? (i := 461) (by decide +kernel), List.mem_of_getElem? (i := 462) (by decide +kernel)⟩
theorem lw_p8 : lw_okq (⟨"SoulRaffle$Office", "readLines", "(LSoulRaffle$Tokens;)I"⟩, 14) := ⟨⟨by decide +kernel, by decide +kernel⟩, List.mem_of_getElem? (i := 85) (by decide +kernel), List.mem_of_getElem? (i := 465) (by decide +kernel), List.mem_of_getElem? (i := 466) (by decide +kernel)⟩
theorem lw_p9 : lw_okq (⟨"SoulRaffle$Office", "clear", "()V"⟩, 14) := ⟨⟨by decide +kernel, by decide +kernel⟩, List.mem_of_getElem? (i := 85) (by decide +kernel), List.mem_of_getElem? (i := 469) (by decide +kernel), List.mem_of_getElem? (i := 470) (by decide +kernel)⟩
theorem lw_p10 : lw_okq (⟨"SoulRaffle$Law", "setUsual", "()V"⟩, 4) := ⟨⟨by decide +kernel, by decide +kernel⟩, List.mem_of_getElem? (i := 91) (by decide +kernel), List.mem_of_getElem? (i := 473) (by decide +kernel), List.mem_of_getElem? (i := 474) (by decide +kernel)⟩
theorem lw_p11 : lw_okq (⟨"SoulRaffle$Law", "add", "(I)V"⟩, 4) := ⟨⟨by decide +kernel, by decide +kernel⟩, List.mem_of_getElem? (i := 91) (by decide +kernel), List.mem_of_getElem? (i := 477) (by decide +kernel), List.mem_of_getElem? (i := 478) (by decide +kernel)⟩
theorem lw_p12 : lw_okq (⟨"SoulRaffle$Office", "readLine", "(LSoulRaffle$Tokens;)Z"⟩, 14) := ⟨⟨by decide +kernel, by decide +kernel⟩, List.mem_of_getElem? (i := 85) (by decide +kernel), List.mem_of_getElem? (i := 481) (by decide +kernel), List.mem_of_getElem? (i := 482) (by decide +kernel)⟩
theorem lw_p13 : lw_okq (⟨"SoulRaffle$Tokens", "isWord", "(LSoulRaffle$Word;)Z"⟩, 11) := ⟨⟨by decide +kernel, by decide +kernel⟩, List.mem_of_getElem? (i := 33) (by decide +kernel), List.mem_of_getElem? (i := 487) (by decide +kernel), List.mem_of_getElem? (i := 488) (by decide +kernel)⟩
theorem lw_p14 : lw_okq (⟨"SoulRaffle$Office", "readPerson", "(LSoulRaffle$Tokens;)Z"⟩, 14) := ⟨⟨by decide +kernel, by decide +kernel⟩, List.mem_of_getElem? (i := 85) (by decide +kernel), List.mem_of_getElem? (i := 491) (by decide +kernel), List.mem_of_getElem? (i := 492) (by decide +kernel)⟩
theorem lw_p15 : lw_okq (⟨"SoulRaffle$Tokens", "fail", "(I)Z"⟩, 11) := ⟨⟨by decide +kernel, by decide +kernel⟩, List.mem_of_getElem? (i := 33) (by decide +kernel), List.mem_of_getElem? (i := 495) (by decide +kernel), List.mem_of_getElem? (i := 496) (by decide +kernel)⟩
def lw_privs_1 : List (MethodName × Nat) := [(⟨"SoulRaffle$Tokens", "takeBytes", "(J)V"⟩, 11), (⟨"SoulRaffle$Tokens", "split", "()V"⟩, 11), (⟨"SoulRaffle$Tokens", "signAt", "(I)C"⟩, 11), (⟨"SoulRaffle$Tokens", "scan", "(I)I"⟩, 11), (⟨"SoulRaffle$Tokens", "scanWord", "(I)I"⟩, 11), (⟨"SoulRaffle$Tokens", "add", "(IIJ)V"⟩, 11), (⟨"SoulRaffle$Tokens", "scanNumber", "(I)I"⟩, 11), (⟨"SoulRaffle$Tokens", "step", "()V"⟩, 11), (⟨"SoulRaffle$Office", "readLines", "(LSoulRaffle$Tokens;)I"⟩, 14), (⟨"SoulRaffle$Office", "clear", "()V"⟩, 14), (⟨"SoulRaffle$Law", "setUsual", "()V"⟩, 4), (⟨"SoulRaffle$Law", "add", "(I)V"⟩, 4), (⟨"SoulRaffle$Office", "readLine", "(LSoulRaffle$Tokens;)Z"⟩, 14), (⟨"SoulRaffle$Tokens", "isWord", "(LSoulRaffle$Word;)Z"⟩, 11), (⟨"SoulRaffle$Office", "readPerson", "(LSoulRaffle$Tokens;)Z"⟩, 14), (⟨"SoulRaffle$Tokens", "fail", "(I)Z"⟩, 11)]
theorem lw_r1 : ∀ q ∈ lw_privs_1, lw_okq q := List.forall_mem_cons.mpr ⟨lw_p0, List.forall_mem_cons.mpr ⟨lw_p1, List.forall_mem_cons.mpr ⟨lw_p2, List.forall_mem_cons.mpr ⟨lw_p3, List.forall_mem_cons.mpr ⟨lw_p4, List.forall_mem_cons.mpr ⟨lw_p5, List.forall_mem_cons.mpr ⟨lw_p6, List.forall_mem_cons.mpr ⟨lw_p7, List.forall_mem_cons.mpr ⟨lw_p8, List.forall_mem_cons.mpr ⟨lw_p9, List.forall_mem_cons.mpr ⟨lw_p10, List.forall_mem_cons.mpr ⟨lw_p11, List.forall_mem_cons.mpr ⟨lw_p12, List.forall_mem_cons.mpr ⟨lw_p13, List.forall_mem_cons.mpr ⟨lw_p14, List.forall_mem_cons.mpr ⟨lw_p15, fun _ h => absurd h List.not_mem_nil⟩⟩⟩⟩⟩⟩⟩⟩⟩⟩⟩⟩⟩⟩⟩⟩
theorem lw_p16 : lw_okq (⟨"SoulRaffle$Office", "isNewName", "(LSoulRaffle$Tokens;)Z"⟩, 14) := ⟨⟨by decide +kernel, by decide +kernel⟩, List.mem_of_getElem? (i := 85) (by decide +kernel), List.mem_of_getElem? (i := 500) (by decide +kernel), List.mem_of_getElem? (i := 501) (by decide +kernel)⟩
theorem lw_p17 : lw_okq (⟨"SoulRaffle$Tokens", "isName", "()Z"⟩, 11) := ⟨⟨by decide +kernel, by decide +kernel⟩, List.mem_of_getElem? (i := 33) (by decide +kernel), List.mem_of_getElem? (i := 504) (by decide +kernel), List.mem_of_getElem? (i := 505) (by decide +kernel)⟩
theorem lw_p18 : lw_okq (⟨"SoulRaffle$Tokens", "takeWord", "(LSoulRaffle$Word;)Z"⟩, 11) := ⟨⟨by decide +kernel, by decide +kernel⟩, List.mem_of_getElem? (i := 33) (by decide +kernel), List.mem_of_getElem? (i := 526) (by decide +kernel), List.mem_of_getElem? (i := 527) (by decide +kernel)⟩
theorem lw_p19 : lw_okq (⟨"SoulRaffle$Tokens", "takeNumber", "(II)I"⟩, 11) := ⟨⟨by decide +kernel, by decide +kernel⟩, List.mem_of_getElem? (i := 33) (by decide +kernel), List.mem_of_getElem? (i := 532) (by decide +kernel), List.mem_of_getElem? (i := 533) (by decide +kernel)⟩
theorem lw_p20 : lw_okq (⟨"SoulRaffle$Tokens", "takeEnd", "()Z"⟩, 11) := ⟨⟨by decide +kernel, by decide +kernel⟩, List.mem_of_getElem? (i := 33) (by decide +kernel), List.mem_of_getElem? (i := 536) (by decide +kernel), List.mem_of_getElem? (i := 537) (by decide +kernel)⟩
theorem lw_p21 : lw_okq (⟨"SoulRaffle$Tokens", "isSign", "(C)Z"⟩, 11) := ⟨⟨by decide +kernel, by decide +kernel⟩, List.mem_of_getElem? (i := 33) (by decide +kernel), List.mem_of_getElem? (i := 540) (by decide +kernel), List.mem_of_getElem? (i := 541) (by decide +kernel)⟩
theorem lw_p22 : lw_okq (⟨"SoulRaffle$Office", "addPerson", "(JII)V"⟩, 14) := ⟨⟨by decide +kernel, by decide +kernel⟩, List.mem_of_getElem? (i := 85) (by decide +kernel), List.mem_of_getElem? (i := 544) (by decide +kernel), List.mem_of_getElem? (i := 545) (by decide +kernel)⟩
theorem lw_p23 : lw_okq (⟨"SoulRaffle$Office", "readGood", "(LSoulRaffle$Tokens;)Z"⟩, 14) := ⟨⟨by decide +kernel, by decide +kernel⟩, List.mem_of_getElem? (i := 85) (by decide +kernel), List.mem_of_getElem? (i := 553) (by decide +kernel), List.mem_of_getElem? (i := 554) (by decide +kernel)⟩
theorem lw_p24 : lw_okq (⟨"SoulRaffle$Tokens", "takeToldName", "([JI)I"⟩, 11) := ⟨⟨by decide +kernel, by decide +kernel⟩, List.mem_of_getElem? (i := 33) (by decide +kernel), List.mem_of_getElem? (i := 561) (by decide +kernel), List.mem_of_getElem? (i := 562) (by decide +kernel)⟩
theorem lw_p25 : lw_okq (⟨"SoulRaffle$Office", "addGood", "(JII)V"⟩, 14) := ⟨⟨by decide +kernel, by decide +kernel⟩, List.mem_of_getElem? (i := 85) (by decide +kernel), List.mem_of_getElem? (i := 567) (by decide +kernel), List.mem_of_getElem? (i := 568) (by decide +kernel)⟩
theorem lw_p26 : lw_okq (⟨"SoulRaffle$Office", "readLikes", "(LSoulRaffle$Tokens;)Z"⟩, 14) := ⟨⟨by decide +kernel, by decide +kernel⟩, List.mem_of_getElem? (i := 85) (by decide +kernel), List.mem_of_getElem? (i := 573) (by decide +kernel), List.mem_of_getElem? (i := 574) (by decide +kernel)⟩
theorem lw_p27 : lw_okq (⟨"SoulRaffle$Office", "likeOf", "(II)I"⟩, 14) := ⟨⟨by decide +kernel, by decide +kernel⟩, List.mem_of_getElem? (i := 85) (by decide +kernel), List.mem_of_getElem? (i := 577) (by decide +kernel), List.mem_of_getElem? (i := 578) (by decide +kernel)⟩
theorem lw_p28 : lw_okq (⟨"SoulRaffle$Office", "readSeed", "(LSoulRaffle$Tokens;)Z"⟩, 14) := ⟨⟨by decide +kernel, by decide +kernel⟩, List.mem_of_getElem? (i := 85) (by decide +kernel), List.mem_of_getElem? (i := 586) (by decide +kernel), List.mem_of_getElem? (i := 587) (by decide +kernel)⟩
theorem lw_p29 : lw_okq (⟨"SoulRaffle$Office", "readFits", "(LSoulRaffle$Tokens;)Z"⟩, 14) := ⟨⟨by decide +kernel, by decide +kernel⟩, List.mem_of_getElem? (i := 85) (by decide +kernel), List.mem_of_getElem? (i := 592) (by decide +kernel), List.mem_of_getElem? (i := 593) (by decide +kernel)⟩
theorem lw_p30 : lw_okq (⟨"SoulRaffle$Law", "readLevel", "(LSoulRaffle$Tokens;II)Z"⟩, 4) := ⟨⟨by decide +kernel, by decide +kernel⟩, List.mem_of_getElem? (i := 91) (by decide +kernel), List.mem_of_getElem? (i := 596) (by decide +kernel), List.mem_of_getElem? (i := 597) (by decide +kernel)⟩
theorem lw_p31 : lw_okq (⟨"SoulRaffle$Law", "readPart", "(LSoulRaffle$Tokens;I)Z"⟩, 4) := ⟨⟨by decide +kernel, by decide +kernel⟩, List.mem_of_getElem? (i := 91) (by decide +kernel), List.mem_of_getElem? (i := 600) (by decide +kernel), List.mem_of_getElem? (i := 601) (by decide +kernel)⟩
def lw_privs_2 : List (MethodName × Nat) := [(⟨"SoulRaffle$Office", "isNewName", "(LSoulRaffle$Tokens;)Z"⟩, 14), (⟨"SoulRaffle$Tokens", "isName", "()Z"⟩, 11), (⟨"SoulRaffle$Tokens", "takeWord", "(LSoulRaffle$Word;)Z"⟩, 11), (⟨"SoulRaffle$Tokens", "takeNumber", "(II)I"⟩, 11), (⟨"SoulRaffle$Tokens", "takeEnd", "()Z"⟩, 11), (⟨"SoulRaffle$Tokens", "isSign", "(C)Z"⟩, 11), (⟨"SoulRaffle$Office", "addPerson", "(JII)V"⟩, 14), (⟨"SoulRaffle$Office", "readGood", "(LSoulRaffle$Tokens;)Z"⟩, 14), (⟨"SoulRaffle$Tokens", "takeToldName", "([JI)I"⟩, 11), (⟨"SoulRaffle$Office", "addGood", "(JII)V"⟩, 14), (⟨"SoulRaffle$Office", "readLikes", "(LSoulRaffle$Tokens;)Z"⟩, 14), (⟨"SoulRaffle$Office", "likeOf", "(II)I"⟩, 14), (⟨"SoulRaffle$Office", "readSeed", "(LSoulRaffle$Tokens;)Z"⟩, 14), (⟨"SoulRaffle$Office", "readFits", "(LSoulRaffle$Tokens;)Z"⟩, 14), (⟨"SoulRaffle$Law", "readLevel", "(LSoulRaffle$Tokens;II)Z"⟩, 4), (⟨"SoulRaffle$Law", "readPart", "(LSoulRaffle$Tokens;I)Z"⟩, 4)]
theorem lw_r2 : ∀ q ∈ lw_privs_2, lw_okq q := List.forall_mem_cons.mpr ⟨lw_p16, List.forall_mem_cons.mpr ⟨lw_p17, List.forall_mem_cons.mpr ⟨lw_p18, List.forall_mem_cons.mpr ⟨lw_p19, List.forall_mem_cons.mpr ⟨lw_p20, List.forall_mem_cons.mpr ⟨lw_p21, List.forall_mem_cons.mpr ⟨lw_p22, List.forall_mem_cons.mpr ⟨lw_p23, List.forall_mem_cons.mpr ⟨lw_p24, List.forall_mem_cons.mpr ⟨lw_p25, List.forall_mem_cons.mpr ⟨lw_p26, List.forall_mem_cons.mpr ⟨lw_p27, List.forall_mem_cons.mpr ⟨lw_p28, List.forall_mem_cons.mpr ⟨lw_p29, List.forall_mem_cons.mpr ⟨lw_p30, List.forall_mem_cons.mpr ⟨lw_p31, fun _ h => absurd h List.not_mem_nil⟩⟩⟩⟩⟩⟩⟩⟩⟩⟩⟩⟩⟩⟩⟩⟩
theorem lw_p32 : lw_okq (⟨"SoulRaffle$Law", "readNot", "(LSoulRaffle$Tokens;I)Z"⟩, 4) := ⟨⟨by decide +kernel, by decide +kernel⟩, List.mem_of_getElem? (i := 91) (by decide +kernel), List.mem_of_getElem? (i := 621) (by decide +kernel), List.mem_of_getElem? (i := 622) (by decide +kernel)⟩
theorem lw_p33 : lw_okq (⟨"SoulRaffle$Law", "readBrackets", "(LSoulRaffle$Tokens;I)Z"⟩, 4) := ⟨⟨by decide +kernel, by decide +kernel⟩, List.mem_of_getElem? (i := 91) (by decide +kernel), List.mem_of_getElem? (i := 625) (by decide +kernel), List.mem_of_getElem? (i := 626) (by decide +kernel)⟩
theorem lw_p34 : lw_okq (⟨"SoulRaffle$Office", "workOutFits", "()V"⟩, 14) := ⟨⟨by decide +kernel, by decide +kernel⟩, List.mem_of_getElem? (i := 85) (by decide +kernel), List.mem_of_getElem? (i := 637) (by decide +kernel), List.mem_of_getElem? (i := 638) (by decide +kernel)⟩
theorem lw_p35 : lw_okq (⟨"SoulRaffle$Office", "ownerOf", "(I)I"⟩, 14) := ⟨⟨by decide +kernel, by decide +kernel⟩, List.mem_of_getElem? (i := 85) (by decide +kernel), List.mem_of_getElem? (i := 641) (by decide +kernel), List.mem_of_getElem? (i := 642) (by decide +kernel)⟩
theorem lw_p36 : lw_okq (⟨"SoulRaffle$Office", "worthOf", "(I)I"⟩, 14) := ⟨⟨by decide +kernel, by decide +kernel⟩, List.mem_of_getElem? (i := 85) (by decide +kernel), List.mem_of_getElem? (i := 645) (by decide +kernel), List.mem_of_getElem? (i := 646) (by decide +kernel)⟩
theorem lw_p37 : lw_okq (⟨"SoulRaffle$Law", "work", "(IIII)I"⟩, 4) := ⟨⟨by decide +kernel, by decide +kernel⟩, List.mem_of_getElem? (i := 91) (by decide +kernel), List.mem_of_getElem? (i := 649) (by decide +kernel), List.mem_of_getElem? (i := 650) (by decide +kernel)⟩
theorem lw_p38 : lw_okq (⟨"SoulRaffle$Law", "push", "(I)V"⟩, 4) := ⟨⟨by decide +kernel, by decide +kernel⟩, List.mem_of_getElem? (i := 91) (by decide +kernel), List.mem_of_getElem? (i := 653) (by decide +kernel), List.mem_of_getElem? (i := 654) (by decide +kernel)⟩
theorem lw_p39 : lw_okq (⟨"SoulRaffle$Law", "pop", "()I"⟩, 4) := ⟨⟨by decide +kernel, by decide +kernel⟩, List.mem_of_getElem? (i := 91) (by decide +kernel), List.mem_of_getElem? (i := 657) (by decide +kernel), List.mem_of_getElem? (i := 658) (by decide +kernel)⟩
theorem lw_p40 : lw_okq (⟨"SoulRaffle$Law", "pushOrJoin", "(I)V"⟩, 4) := ⟨⟨by decide +kernel, by decide +kernel⟩, List.mem_of_getElem? (i := 91) (by decide +kernel), List.mem_of_getElem? (i := 661) (by decide +kernel), List.mem_of_getElem? (i := 662) (by decide +kernel)⟩
theorem lw_p41 : lw_okq (⟨"SoulRaffle", "openOffice", "()V"⟩, 16) := ⟨⟨by decide +kernel, by decide +kernel⟩, List.mem_of_getElem? (i := 25) (by decide +kernel), List.mem_of_getElem? (i := 673) (by decide +kernel), List.mem_of_getElem? (i := 674) (by decide +kernel)⟩
theorem lw_p42 : lw_okq (⟨"SoulRaffle$Standing", "startOf", "(LSoulRaffle$Office;)V"⟩, 5) := ⟨⟨by decide +kernel, by decide +kernel⟩, List.mem_of_getElem? (i := 188) (by decide +kernel), List.mem_of_getElem? (i := 677) (by decide +kernel), List.mem_of_getElem? (i := 678) (by decide +kernel)⟩
theorem lw_p43 : lw_okq (⟨"SoulRaffle$Year", "readLines", "(LSoulRaffle$Tokens;LSoulRaffle$Office;)I"⟩, 4) := ⟨⟨by decide +kernel, by decide +kernel⟩, List.mem_of_getElem? (i := 168) (by decide +kernel), List.mem_of_getElem? (i := 688) (by decide +kernel), List.mem_of_getElem? (i := 689) (by decide +kernel)⟩
theorem lw_p44 : lw_okq (⟨"SoulRaffle$Year", "readLine", "(LSoulRaffle$Tokens;LSoulRaffle$Office;)Z"⟩, 4) := ⟨⟨by decide +kernel, by decide +kernel⟩, List.mem_of_getElem? (i := 168) (by decide +kernel), List.mem_of_getElem? (i := 692) (by decide +kernel), List.mem_of_getElem? (i := 693) (by decide +kernel)⟩
theorem lw_p45 : lw_okq (⟨"SoulRaffle$Year", "readNames", "(LSoulRaffle$Tokens;LSoulRaffle$Office;I)Z"⟩, 4) := ⟨⟨by decide +kernel, by decide +kernel⟩, List.mem_of_getElem? (i := 168) (by decide +kernel), List.mem_of_getElem? (i := 711) (by decide +kernel), List.mem_of_getElem? (i := 712) (by decide +kernel)⟩
theorem lw_p46 : lw_okq (⟨"SoulRaffle$Office", "hasPerson", "(I)Z"⟩, 14) := ⟨⟨by decide +kernel, by decide +kernel⟩, List.mem_of_getElem? (i := 85) (by decide +kernel), List.mem_of_getElem? (i := 723) (by decide +kernel), List.mem_of_getElem? (i := 724) (by decide +kernel)⟩
theorem lw_p47 : lw_okq (⟨"SoulRaffle$Office", "kindOf", "(I)I"⟩, 14) := ⟨⟨by decide +kernel, by decide +kernel⟩, List.mem_of_getElem? (i := 85) (by decide +kernel), List.mem_of_getElem? (i := 727) (by decide +kernel), List.mem_of_getElem? (i := 728) (by decide +kernel)⟩
def lw_privs_3 : List (MethodName × Nat) := [(⟨"SoulRaffle$Law", "readNot", "(LSoulRaffle$Tokens;I)Z"⟩, 4), (⟨"SoulRaffle$Law", "readBrackets", "(LSoulRaffle$Tokens;I)Z"⟩, 4), (⟨"SoulRaffle$Office", "workOutFits", "()V"⟩, 14), (⟨"SoulRaffle$Office", "ownerOf", "(I)I"⟩, 14), (⟨"SoulRaffle$Office", "worthOf", "(I)I"⟩, 14), (⟨"SoulRaffle$Law", "work", "(IIII)I"⟩, 4), (⟨"SoulRaffle$Law", "push", "(I)V"⟩, 4), (⟨"SoulRaffle$Law", "pop", "()I"⟩, 4), (⟨"SoulRaffle$Law", "pushOrJoin", "(I)V"⟩, 4), (⟨"SoulRaffle", "openOffice", "()V"⟩, 16), (⟨"SoulRaffle$Standing", "startOf", "(LSoulRaffle$Office;)V"⟩, 5), (⟨"SoulRaffle$Year", "readLines", "(LSoulRaffle$Tokens;LSoulRaffle$Office;)I"⟩, 4), (⟨"SoulRaffle$Year", "readLine", "(LSoulRaffle$Tokens;LSoulRaffle$Office;)Z"⟩, 4), (⟨"SoulRaffle$Year", "readNames", "(LSoulRaffle$Tokens;LSoulRaffle$Office;I)Z"⟩, 4), (⟨"SoulRaffle$Office", "hasPerson", "(I)Z"⟩, 14), (⟨"SoulRaffle$Office", "kindOf", "(I)I"⟩, 14)]
theorem lw_r3 : ∀ q ∈ lw_privs_3, lw_okq q := List.forall_mem_cons.mpr ⟨lw_p32, List.forall_mem_cons.mpr ⟨lw_p33, List.forall_mem_cons.mpr ⟨lw_p34, List.forall_mem_cons.mpr ⟨lw_p35, List.forall_mem_cons.mpr ⟨lw_p36, List.forall_mem_cons.mpr ⟨lw_p37, List.forall_mem_cons.mpr ⟨lw_p38, List.forall_mem_cons.mpr ⟨lw_p39, List.forall_mem_cons.mpr ⟨lw_p40, List.forall_mem_cons.mpr ⟨lw_p41, List.forall_mem_cons.mpr ⟨lw_p42, List.forall_mem_cons.mpr ⟨lw_p43, List.forall_mem_cons.mpr ⟨lw_p44, List.forall_mem_cons.mpr ⟨lw_p45, List.forall_mem_cons.mpr ⟨lw_p46, List.forall_mem_cons.mpr ⟨lw_p47, fun _ h => absurd h List.not_mem_nil⟩⟩⟩⟩⟩⟩⟩⟩⟩⟩⟩⟩⟩⟩⟩⟩
theorem lw_p48 : lw_okq (⟨"SoulRaffle$Standing", "shillingsOf", "(I)I"⟩, 5) := ⟨⟨by decide +kernel, by decide +kernel⟩, List.mem_of_getElem? (i := 188) (by decide +kernel), List.mem_of_getElem? (i := 731) (by decide +kernel), List.mem_of_getElem? (i := 732) (by decide +kernel)⟩
theorem lw_p49 : lw_okq (⟨"SoulRaffle$Standing", "ticketsOf", "(I)I"⟩, 5) := ⟨⟨by decide +kernel, by decide +kernel⟩, List.mem_of_getElem? (i := 188) (by decide +kernel), List.mem_of_getElem? (i := 735) (by decide +kernel), List.mem_of_getElem? (i := 736) (by decide +kernel)⟩
theorem lw_p50 : lw_okq (⟨"SoulRaffle$Standing", "bitsOf", "(I)I"⟩, 5) := ⟨⟨by decide +kernel, by decide +kernel⟩, List.mem_of_getElem? (i := 188) (by decide +kernel), List.mem_of_getElem? (i := 739) (by decide +kernel), List.mem_of_getElem? (i := 740) (by decide +kernel)⟩
theorem lw_p51 : lw_okq (⟨"SoulRaffle$Office", "hasGood", "(I)Z"⟩, 14) := ⟨⟨by decide +kernel, by decide +kernel⟩, List.mem_of_getElem? (i := 85) (by decide +kernel), List.mem_of_getElem? (i := 747) (by decide +kernel), List.mem_of_getElem? (i := 748) (by decide +kernel)⟩
theorem lw_p52 : lw_okq (⟨"SoulRaffle$Standing", "holderOf", "(I)I"⟩, 5) := ⟨⟨by decide +kernel, by decide +kernel⟩, List.mem_of_getElem? (i := 188) (by decide +kernel), List.mem_of_getElem? (i := 753) (by decide +kernel), List.mem_of_getElem? (i := 754) (by decide +kernel)⟩
theorem lw_p53 : lw_okq (⟨"SoulRaffle$Standing", "fitOf", "(LSoulRaffle$Office;II)I"⟩, 5) := ⟨⟨by decide +kernel, by decide +kernel⟩, List.mem_of_getElem? (i := 188) (by decide +kernel), List.mem_of_getElem? (i := 761) (by decide +kernel), List.mem_of_getElem? (i := 762) (by decide +kernel)⟩
theorem lw_p54 : lw_okq (⟨"SoulRaffle$Office", "fitBy", "(III)I"⟩, 14) := ⟨⟨by decide +kernel, by decide +kernel⟩, List.mem_of_getElem? (i := 85) (by decide +kernel), List.mem_of_getElem? (i := 772) (by decide +kernel), List.mem_of_getElem? (i := 773) (by decide +kernel)⟩
theorem lw_p55 : lw_okq (⟨"SoulRaffle$Standing", "canBuy", "(I)Z"⟩, 5) := ⟨⟨by decide +kernel, by decide +kernel⟩, List.mem_of_getElem? (i := 188) (by decide +kernel), List.mem_of_getElem? (i := 780) (by decide +kernel), List.mem_of_getElem? (i := 781) (by decide +kernel)⟩
theorem lw_p56 : lw_okq (⟨"SoulRaffle", "remember", "()V"⟩, 16) := ⟨⟨by decide +kernel, by decide +kernel⟩, List.mem_of_getElem? (i := 25) (by decide +kernel), List.mem_of_getElem? (i := 786) (by decide +kernel), List.mem_of_getElem? (i := 787) (by decide +kernel)⟩
theorem lw_p57 : lw_okq (⟨"SoulRaffle$Standing", "copyOf", "(LSoulRaffle$Standing;)V"⟩, 5) := ⟨⟨by decide +kernel, by decide +kernel⟩, List.mem_of_getElem? (i := 188) (by decide +kernel), List.mem_of_getElem? (i := 790) (by decide +kernel), List.mem_of_getElem? (i := 791) (by decide +kernel)⟩
theorem lw_p58 : lw_okq (⟨"SoulRaffle$Standing", "takeTicket", "(I)V"⟩, 5) := ⟨⟨by decide +kernel, by decide +kernel⟩, List.mem_of_getElem? (i := 188) (by decide +kernel), List.mem_of_getElem? (i := 798) (by decide +kernel), List.mem_of_getElem? (i := 799) (by decide +kernel)⟩
theorem lw_p59 : lw_okq (⟨"SoulRaffle$Standing", "canTrade", "(LSoulRaffle$Office;II)Z"⟩, 5) := ⟨⟨by decide +kernel, by decide +kernel⟩, List.mem_of_getElem? (i := 188) (by decide +kernel), List.mem_of_getElem? (i := 806) (by decide +kernel), List.mem_of_getElem? (i := 807) (by decide +kernel)⟩
theorem lw_p60 : lw_okq (⟨"SoulRaffle$Standing", "gainsBy", "(LSoulRaffle$Office;III)Z"⟩, 5) := ⟨⟨by decide +kernel, by decide +kernel⟩, List.mem_of_getElem? (i := 188) (by decide +kernel), List.mem_of_getElem? (i := 811) (by decide +kernel), List.mem_of_getElem? (i := 812) (by decide +kernel)⟩
theorem lw_p61 : lw_okq (⟨"SoulRaffle$Standing", "trade", "(II)V"⟩, 5) := ⟨⟨by decide +kernel, by decide +kernel⟩, List.mem_of_getElem? (i := 188) (by decide +kernel), List.mem_of_getElem? (i := 815) (by decide +kernel), List.mem_of_getElem? (i := 816) (by decide +kernel)⟩
theorem lw_p62 : lw_okq (⟨"SoulRaffle$Standing", "place", "(II)V"⟩, 5) := ⟨⟨by decide +kernel, by decide +kernel⟩, List.mem_of_getElem? (i := 188) (by decide +kernel), List.mem_of_getElem? (i := 819) (by decide +kernel), List.mem_of_getElem? (i := 820) (by decide +kernel)⟩
theorem lw_p63 : lw_okq (⟨"SoulRaffle$Standing", "passQuarter", "(LSoulRaffle$Office;)I"⟩, 5) := ⟨⟨by decide +kernel, by decide +kernel⟩, List.mem_of_getElem? (i := 188) (by decide +kernel), List.mem_of_getElem? (i := 832) (by decide +kernel), List.mem_of_getElem? (i := 833) (by decide +kernel)⟩
def lw_privs_4 : List (MethodName × Nat) := [(⟨"SoulRaffle$Standing", "shillingsOf", "(I)I"⟩, 5), (⟨"SoulRaffle$Standing", "ticketsOf", "(I)I"⟩, 5), (⟨"SoulRaffle$Standing", "bitsOf", "(I)I"⟩, 5), (⟨"SoulRaffle$Office", "hasGood", "(I)Z"⟩, 14), (⟨"SoulRaffle$Standing", "holderOf", "(I)I"⟩, 5), (⟨"SoulRaffle$Standing", "fitOf", "(LSoulRaffle$Office;II)I"⟩, 5), (⟨"SoulRaffle$Office", "fitBy", "(III)I"⟩, 14), (⟨"SoulRaffle$Standing", "canBuy", "(I)Z"⟩, 5), (⟨"SoulRaffle", "remember", "()V"⟩, 16), (⟨"SoulRaffle$Standing", "copyOf", "(LSoulRaffle$Standing;)V"⟩, 5), (⟨"SoulRaffle$Standing", "takeTicket", "(I)V"⟩, 5), (⟨"SoulRaffle$Standing", "canTrade", "(LSoulRaffle$Office;II)Z"⟩, 5), (⟨"SoulRaffle$Standing", "gainsBy", "(LSoulRaffle$Office;III)Z"⟩, 5), (⟨"SoulRaffle$Standing", "trade", "(II)V"⟩, 5), (⟨"SoulRaffle$Standing", "place", "(II)V"⟩, 5), (⟨"SoulRaffle$Standing", "passQuarter", "(LSoulRaffle$Office;)I"⟩, 5)]
theorem lw_r4 : ∀ q ∈ lw_privs_4, lw_okq q := List.forall_mem_cons.mpr ⟨lw_p48, List.forall_mem_cons.mpr ⟨lw_p49, List.forall_mem_cons.mpr ⟨lw_p50, List.forall_mem_cons.mpr ⟨lw_p51, List.forall_mem_cons.mpr ⟨lw_p52, List.forall_mem_cons.mpr ⟨lw_p53, List.forall_mem_cons.mpr ⟨lw_p54, List.forall_mem_cons.mpr ⟨lw_p55, List.forall_mem_cons.mpr ⟨lw_p56, List.forall_mem_cons.mpr ⟨lw_p57, List.forall_mem_cons.mpr ⟨lw_p58, List.forall_mem_cons.mpr ⟨lw_p59, List.forall_mem_cons.mpr ⟨lw_p60, List.forall_mem_cons.mpr ⟨lw_p61, List.forall_mem_cons.mpr ⟨lw_p62, List.forall_mem_cons.mpr ⟨lw_p63, fun _ h => absurd h List.not_mem_nil⟩⟩⟩⟩⟩⟩⟩⟩⟩⟩⟩⟩⟩⟩⟩⟩
theorem lw_p64 : lw_okq (⟨"SoulRaffle$Standing", "heldBits", "(LSoulRaffle$Office;)I"⟩, 5) := ⟨⟨by decide +kernel, by decide +kernel⟩, List.mem_of_getElem? (i := 188) (by decide +kernel), List.mem_of_getElem? (i := 836) (by decide +kernel), List.mem_of_getElem? (i := 837) (by decide +kernel)⟩
theorem lw_p65 : lw_okq (⟨"SoulRaffle$Office", "allGoods", "()I"⟩, 14) := ⟨⟨by decide +kernel, by decide +kernel⟩, List.mem_of_getElem? (i := 85) (by decide +kernel), List.mem_of_getElem? (i := 840) (by decide +kernel), List.mem_of_getElem? (i := 841) (by decide +kernel)⟩
theorem lw_p66 : lw_okq (⟨"SoulRaffle$Standing", "raffle", "(LSoulRaffle$Office;)I"⟩, 5) := ⟨⟨by decide +kernel, by decide +kernel⟩, List.mem_of_getElem? (i := 188) (by decide +kernel), List.mem_of_getElem? (i := 844) (by decide +kernel), List.mem_of_getElem? (i := 845) (by decide +kernel)⟩
theorem lw_p67 : lw_okq (⟨"SoulRaffle$Standing", "allTickets", "()I"⟩, 5) := ⟨⟨by decide +kernel, by decide +kernel⟩, List.mem_of_getElem? (i := 188) (by decide +kernel), List.mem_of_getElem? (i := 848) (by decide +kernel), List.mem_of_getElem? (i := 849) (by decide +kernel)⟩
theorem lw_p68 : lw_okq (⟨"SoulRaffle$Standing", "draw", "(I)I"⟩, 5) := ⟨⟨by decide +kernel, by decide +kernel⟩, List.mem_of_getElem? (i := 188) (by decide +kernel), List.mem_of_getElem? (i := 855) (by decide +kernel), List.mem_of_getElem? (i := 856) (by decide +kernel)⟩
theorem lw_p69 : lw_okq (⟨"SoulRaffle$Standing", "holderOfTicket", "(I)I"⟩, 5) := ⟨⟨by decide +kernel, by decide +kernel⟩, List.mem_of_getElem? (i := 188) (by decide +kernel), List.mem_of_getElem? (i := 863) (by decide +kernel), List.mem_of_getElem? (i := 864) (by decide +kernel)⟩
theorem lw_p70 : lw_okq (⟨"SoulRaffle$Standing", "settle", "(LSoulRaffle$Office;I)V"⟩, 5) := ⟨⟨by decide +kernel, by decide +kernel⟩, List.mem_of_getElem? (i := 188) (by decide +kernel), List.mem_of_getElem? (i := 867) (by decide +kernel), List.mem_of_getElem? (i := 868) (by decide +kernel)⟩
theorem lw_p71 : lw_okq (⟨"SoulRaffle$Year", "doLine", "(ILSoulRaffle$Office;LSoulRaffle$Standing;)Z"⟩, 4) := ⟨⟨by decide +kernel, by decide +kernel⟩, List.mem_of_getElem? (i := 168) (by decide +kernel), List.mem_of_getElem? (i := 883) (by decide +kernel), List.mem_of_getElem? (i := 884) (by decide +kernel)⟩
theorem lw_p72 : lw_okq (⟨"SoulRaffle$Standing", "rightBits", "(LSoulRaffle$Office;)I"⟩, 5) := ⟨⟨by decide +kernel, by decide +kernel⟩, List.mem_of_getElem? (i := 188) (by decide +kernel), List.mem_of_getElem? (i := 895) (by decide +kernel), List.mem_of_getElem? (i := 896) (by decide +kernel)⟩
theorem lw_p73 : lw_okq (⟨"SoulRaffle$Standing", "joyOf", "(LSoulRaffle$Office;I)I"⟩, 5) := ⟨⟨by decide +kernel, by decide +kernel⟩, List.mem_of_getElem? (i := 188) (by decide +kernel), List.mem_of_getElem? (i := 947) (by decide +kernel), List.mem_of_getElem? (i := 948) (by decide +kernel)⟩
theorem lw_p74 : lw_okq (⟨"SoulRaffle$Standing", "fitOfAll", "(LSoulRaffle$Office;II)I"⟩, 5) := ⟨⟨by decide +kernel, by decide +kernel⟩, List.mem_of_getElem? (i := 188) (by decide +kernel), List.mem_of_getElem? (i := 951) (by decide +kernel), List.mem_of_getElem? (i := 952) (by decide +kernel)⟩
theorem lw_p75 : lw_okq (⟨"SoulRaffle", "fanBits", "(I)I"⟩, 16) := ⟨⟨by decide +kernel, by decide +kernel⟩, List.mem_of_getElem? (i := 25) (by decide +kernel), List.mem_of_getElem? (i := 972) (by decide +kernel), List.mem_of_getElem? (i := 973) (by decide +kernel)⟩
theorem lw_p76 : lw_okq (⟨"SoulRaffle", "isFan", "(II)Z"⟩, 16) := ⟨⟨by decide +kernel, by decide +kernel⟩, List.mem_of_getElem? (i := 25) (by decide +kernel), List.mem_of_getElem? (i := 976) (by decide +kernel), List.mem_of_getElem? (i := 977) (by decide +kernel)⟩
theorem lw_p77 : lw_okq (⟨"SoulRaffle$Rings", "trade", "(LSoulRaffle$Office;LSoulRaffle$Standing;)V"⟩, 4) := ⟨⟨by decide +kernel, by decide +kernel⟩, List.mem_of_getElem? (i := 235) (by decide +kernel), List.mem_of_getElem? (i := 988) (by decide +kernel), List.mem_of_getElem? (i := 989) (by decide +kernel)⟩
theorem lw_p78 : lw_okq (⟨"SoulRaffle$Rings", "putIn", "(LSoulRaffle$Office;LSoulRaffle$Standing;)I"⟩, 4) := ⟨⟨by decide +kernel, by decide +kernel⟩, List.mem_of_getElem? (i := 235) (by decide +kernel), List.mem_of_getElem? (i := 992) (by decide +kernel), List.mem_of_getElem? (i := 993) (by decide +kernel)⟩
theorem lw_p79 : lw_okq (⟨"SoulRaffle$Standing", "firstOf", "(I)I"⟩, 5) := ⟨⟨by decide +kernel, by decide +kernel⟩, List.mem_of_getElem? (i := 188) (by decide +kernel), List.mem_of_getElem? (i := 996) (by decide +kernel), List.mem_of_getElem? (i := 997) (by decide +kernel)⟩
def lw_privs_5 : List (MethodName × Nat) := [(⟨"SoulRaffle$Standing", "heldBits", "(LSoulRaffle$Office;)I"⟩, 5), (⟨"SoulRaffle$Office", "allGoods", "()I"⟩, 14), (⟨"SoulRaffle$Standing", "raffle", "(LSoulRaffle$Office;)I"⟩, 5), (⟨"SoulRaffle$Standing", "allTickets", "()I"⟩, 5), (⟨"SoulRaffle$Standing", "draw", "(I)I"⟩, 5), (⟨"SoulRaffle$Standing", "holderOfTicket", "(I)I"⟩, 5), (⟨"SoulRaffle$Standing", "settle", "(LSoulRaffle$Office;I)V"⟩, 5), (⟨"SoulRaffle$Year", "doLine", "(ILSoulRaffle$Office;LSoulRaffle$Standing;)Z"⟩, 4), (⟨"SoulRaffle$Standing", "rightBits", "(LSoulRaffle$Office;)I"⟩, 5), (⟨"SoulRaffle$Standing", "joyOf", "(LSoulRaffle$Office;I)I"⟩, 5), (⟨"SoulRaffle$Standing", "fitOfAll", "(LSoulRaffle$Office;II)I"⟩, 5), (⟨"SoulRaffle", "fanBits", "(I)I"⟩, 16), (⟨"SoulRaffle", "isFan", "(II)Z"⟩, 16), (⟨"SoulRaffle$Rings", "trade", "(LSoulRaffle$Office;LSoulRaffle$Standing;)V"⟩, 4), (⟨"SoulRaffle$Rings", "putIn", "(LSoulRaffle$Office;LSoulRaffle$Standing;)I"⟩, 4), (⟨"SoulRaffle$Standing", "firstOf", "(I)I"⟩, 5)]
theorem lw_r5 : ∀ q ∈ lw_privs_5, lw_okq q := List.forall_mem_cons.mpr ⟨lw_p64, List.forall_mem_cons.mpr ⟨lw_p65, List.forall_mem_cons.mpr ⟨lw_p66, List.forall_mem_cons.mpr ⟨lw_p67, List.forall_mem_cons.mpr ⟨lw_p68, List.forall_mem_cons.mpr ⟨lw_p69, List.forall_mem_cons.mpr ⟨lw_p70, List.forall_mem_cons.mpr ⟨lw_p71, List.forall_mem_cons.mpr ⟨lw_p72, List.forall_mem_cons.mpr ⟨lw_p73, List.forall_mem_cons.mpr ⟨lw_p74, List.forall_mem_cons.mpr ⟨lw_p75, List.forall_mem_cons.mpr ⟨lw_p76, List.forall_mem_cons.mpr ⟨lw_p77, List.forall_mem_cons.mpr ⟨lw_p78, List.forall_mem_cons.mpr ⟨lw_p79, fun _ h => absurd h List.not_mem_nil⟩⟩⟩⟩⟩⟩⟩⟩⟩⟩⟩⟩⟩⟩⟩⟩
theorem lw_p80 : lw_okq (⟨"SoulRaffle$Rings", "pointsTo", "(LSoulRaffle$Office;LSoulRaffle$Standing;II)I"⟩, 4) := ⟨⟨by decide +kernel, by decide +kernel⟩, List.mem_of_getElem? (i := 235) (by decide +kernel), List.mem_of_getElem? (i := 1001) (by decide +kernel), List.mem_of_getElem? (i := 1002) (by decide +kernel)⟩
theorem lw_p81 : lw_okq (⟨"SoulRaffle$Rings", "handOut", "(LSoulRaffle$Office;I)I"⟩, 4) := ⟨⟨by decide +kernel, by decide +kernel⟩, List.mem_of_getElem? (i := 235) (by decide +kernel), List.mem_of_getElem? (i := 1009) (by decide +kernel), List.mem_of_getElem? (i := 1010) (by decide +kernel)⟩
theorem lw_p82 : lw_okq (⟨"SoulRaffle$Rings", "comesRound", "(I)Z"⟩, 4) := ⟨⟨by decide +kernel, by decide +kernel⟩, List.mem_of_getElem? (i := 235) (by decide +kernel), List.mem_of_getElem? (i := 1013) (by decide +kernel), List.mem_of_getElem? (i := 1014) (by decide +kernel)⟩
theorem lw_p83 : lw_okq (⟨"SoulRaffle$Rings", "gotBy", "(I)I"⟩, 4) := ⟨⟨by decide +kernel, by decide +kernel⟩, List.mem_of_getElem? (i := 235) (by decide +kernel), List.mem_of_getElem? (i := 1017) (by decide +kernel), List.mem_of_getElem? (i := 1018) (by decide +kernel)⟩
theorem lw_p84 : lw_okq (⟨"SoulRaffle$Gifts", "giveOut", "(LSoulRaffle$Office;)V"⟩, 4) := ⟨⟨by decide +kernel, by decide +kernel⟩, List.mem_of_getElem? (i := 255) (by decide +kernel), List.mem_of_getElem? (i := 1029) (by decide +kernel), List.mem_of_getElem? (i := 1030) (by decide +kernel)⟩
theorem lw_p85 : lw_okq (⟨"SoulRaffle$Gifts", "mostWithout", "(LSoulRaffle$Office;I)I"⟩, 4) := ⟨⟨by decide +kernel, by decide +kernel⟩, List.mem_of_getElem? (i := 255) (by decide +kernel), List.mem_of_getElem? (i := 1033) (by decide +kernel), List.mem_of_getElem? (i := 1034) (by decide +kernel)⟩
theorem lw_p86 : lw_okq (⟨"SoulRaffle$Gifts", "mostFrom", "(LSoulRaffle$Office;IIZ)I"⟩, 4) := ⟨⟨by decide +kernel, by decide +kernel⟩, List.mem_of_getElem? (i := 255) (by decide +kernel), List.mem_of_getElem? (i := 1040) (by decide +kernel), List.mem_of_getElem? (i := 1041) (by decide +kernel)⟩
theorem lw_p87 : lw_okq (⟨"SoulRaffle$Gifts", "mostBy", "(LSoulRaffle$Office;III)I"⟩, 4) := ⟨⟨by decide +kernel, by decide +kernel⟩, List.mem_of_getElem? (i := 255) (by decide +kernel), List.mem_of_getElem? (i := 1045) (by decide +kernel), List.mem_of_getElem? (i := 1046) (by decide +kernel)⟩
theorem lw_p88 : lw_okq (⟨"SoulRaffle$Gifts", "firstBest", "(LSoulRaffle$Office;II)I"⟩, 4) := ⟨⟨by decide +kernel, by decide +kernel⟩, List.mem_of_getElem? (i := 255) (by decide +kernel), List.mem_of_getElem? (i := 1051) (by decide +kernel), List.mem_of_getElem? (i := 1052) (by decide +kernel)⟩
theorem lw_p89 : lw_okq (⟨"SoulRaffle$Gifts", "givenTo", "(I)I"⟩, 4) := ⟨⟨by decide +kernel, by decide +kernel⟩, List.mem_of_getElem? (i := 255) (by decide +kernel), List.mem_of_getElem? (i := 1055) (by decide +kernel), List.mem_of_getElem? (i := 1056) (by decide +kernel)⟩
theorem lw_p90 : lw_okq (⟨"SoulRaffle$Seen", "add", "(IIZ)Z"⟩, 4) := ⟨⟨by decide +kernel, by decide +kernel⟩, List.mem_of_getElem? (i := 212) (by decide +kernel), List.mem_of_getElem? (i := 1088) (by decide +kernel), List.mem_of_getElem? (i := 1089) (by decide +kernel)⟩
theorem lw_p91 : lw_okq (⟨"SoulRaffle$Seen", "whoBits", "(LSoulRaffle$Office;)I"⟩, 4) := ⟨⟨by decide +kernel, by decide +kernel⟩, List.mem_of_getElem? (i := 212) (by decide +kernel), List.mem_of_getElem? (i := 1097) (by decide +kernel), List.mem_of_getElem? (i := 1098) (by decide +kernel)⟩
theorem lw_p92 : lw_okq (⟨"SoulRaffle$Seen", "allIsSo", "(LSoulRaffle$Office;I)Z"⟩, 4) := ⟨⟨by decide +kernel, by decide +kernel⟩, List.mem_of_getElem? (i := 212) (by decide +kernel), List.mem_of_getElem? (i := 1101) (by decide +kernel), List.mem_of_getElem? (i := 1102) (by decide +kernel)⟩
theorem lw_p93 : lw_okq (⟨"SoulRaffle", "leftByAsking", "(III)I"⟩, 16) := ⟨⟨by decide +kernel, by decide +kernel⟩, List.mem_of_getElem? (i := 25) (by decide +kernel), List.mem_of_getElem? (i := 1111) (by decide +kernel), List.mem_of_getElem? (i := 1112) (by decide +kernel)⟩
theorem lw_p94 : lw_okq (⟨"SoulRaffle$Standing", "tryLuck", "(LSoulRaffle$Office;)V"⟩, 5) := ⟨⟨by decide +kernel, by decide +kernel⟩, List.mem_of_getElem? (i := 188) (by decide +kernel), List.mem_of_getElem? (i := 1139) (by decide +kernel), List.mem_of_getElem? (i := 1140) (by decide +kernel)⟩
theorem lw_p95 : lw_okq (⟨"SoulRaffle$Standing", "joyOfAll", "(LSoulRaffle$Office;)I"⟩, 5) := ⟨⟨by decide +kernel, by decide +kernel⟩, List.mem_of_getElem? (i := 188) (by decide +kernel), List.mem_of_getElem? (i := 1147) (by decide +kernel), List.mem_of_getElem? (i := 1148) (by decide +kernel)⟩
def lw_privs_6 : List (MethodName × Nat) := [(⟨"SoulRaffle$Rings", "pointsTo", "(LSoulRaffle$Office;LSoulRaffle$Standing;II)I"⟩, 4), (⟨"SoulRaffle$Rings", "handOut", "(LSoulRaffle$Office;I)I"⟩, 4), (⟨"SoulRaffle$Rings", "comesRound", "(I)Z"⟩, 4), (⟨"SoulRaffle$Rings", "gotBy", "(I)I"⟩, 4), (⟨"SoulRaffle$Gifts", "giveOut", "(LSoulRaffle$Office;)V"⟩, 4), (⟨"SoulRaffle$Gifts", "mostWithout", "(LSoulRaffle$Office;I)I"⟩, 4), (⟨"SoulRaffle$Gifts", "mostFrom", "(LSoulRaffle$Office;IIZ)I"⟩, 4), (⟨"SoulRaffle$Gifts", "mostBy", "(LSoulRaffle$Office;III)I"⟩, 4), (⟨"SoulRaffle$Gifts", "firstBest", "(LSoulRaffle$Office;II)I"⟩, 4), (⟨"SoulRaffle$Gifts", "givenTo", "(I)I"⟩, 4), (⟨"SoulRaffle$Seen", "add", "(IIZ)Z"⟩, 4), (⟨"SoulRaffle$Seen", "whoBits", "(LSoulRaffle$Office;)I"⟩, 4), (⟨"SoulRaffle$Seen", "allIsSo", "(LSoulRaffle$Office;I)Z"⟩, 4), (⟨"SoulRaffle", "leftByAsking", "(III)I"⟩, 16), (⟨"SoulRaffle$Standing", "tryLuck", "(LSoulRaffle$Office;)V"⟩, 5), (⟨"SoulRaffle$Standing", "joyOfAll", "(LSoulRaffle$Office;)I"⟩, 5)]
theorem lw_r6 : ∀ q ∈ lw_privs_6, lw_okq q := List.forall_mem_cons.mpr ⟨lw_p80, List.forall_mem_cons.mpr ⟨lw_p81, List.forall_mem_cons.mpr ⟨lw_p82, List.forall_mem_cons.mpr ⟨lw_p83, List.forall_mem_cons.mpr ⟨lw_p84, List.forall_mem_cons.mpr ⟨lw_p85, List.forall_mem_cons.mpr ⟨lw_p86, List.forall_mem_cons.mpr ⟨lw_p87, List.forall_mem_cons.mpr ⟨lw_p88, List.forall_mem_cons.mpr ⟨lw_p89, List.forall_mem_cons.mpr ⟨lw_p90, List.forall_mem_cons.mpr ⟨lw_p91, List.forall_mem_cons.mpr ⟨lw_p92, List.forall_mem_cons.mpr ⟨lw_p93, List.forall_mem_cons.mpr ⟨lw_p94, List.forall_mem_cons.mpr ⟨lw_p95, fun _ h => absurd h List.not_mem_nil⟩⟩⟩⟩⟩⟩⟩⟩⟩⟩⟩⟩⟩⟩⟩⟩
theorem lw_p96 : lw_okq (⟨"SoulRaffle$Seen", "copyOf", "(LSoulRaffle$Seen;)V"⟩, 4) := ⟨⟨by decide +kernel, by decide +kernel⟩, List.mem_of_getElem? (i := 212) (by decide +kernel), List.mem_of_getElem? (i := 1156) (by decide +kernel), List.mem_of_getElem? (i := 1157) (by decide +kernel)⟩
theorem lw_p97 : lw_okq (⟨"SoulRaffle$Standing", "allShillings", "()I"⟩, 5) := ⟨⟨by decide +kernel, by decide +kernel⟩, List.mem_of_getElem? (i := 188) (by decide +kernel), List.mem_of_getElem? (i := 1165) (by decide +kernel), List.mem_of_getElem? (i := 1166) (by decide +kernel)⟩
theorem lw_p98 : lw_okq (⟨"java/lang/Throwable", "fillInStackTrace", "(I)Ljava/lang/Throwable;"⟩, 6) := ⟨⟨by decide +kernel, by decide +kernel⟩, List.mem_of_getElem? (i := 1216) (by decide +kernel), List.mem_of_getElem? (i := 1214) (by decide +kernel), List.mem_of_getElem? (i := 1215) (by decide +kernel)⟩
theorem lw_p99 : lw_okq (⟨"SoulRaffleModel", "lay", "(J)V"⟩, 33) := ⟨⟨by decide +kernel, by decide +kernel⟩, List.mem_of_getElem? (i := 1262) (by decide +kernel), List.mem_of_getElem? (i := 1260) (by decide +kernel), List.mem_of_getElem? (i := 1261) (by decide +kernel)⟩
theorem lw_p100 : lw_okq (⟨"SoulRaffleModel", "standsAsAlways", "(I)V"⟩, 33) := ⟨⟨by decide +kernel, by decide +kernel⟩, List.mem_of_getElem? (i := 1262) (by decide +kernel), List.mem_of_getElem? (i := 1293) (by decide +kernel), List.mem_of_getElem? (i := 1294) (by decide +kernel)⟩
theorem lw_p101 : lw_okq (⟨"SoulRaffleModel", "begins", "()V"⟩, 33) := ⟨⟨by decide +kernel, by decide +kernel⟩, List.mem_of_getElem? (i := 1262) (by decide +kernel), List.mem_of_getElem? (i := 1297) (by decide +kernel), List.mem_of_getElem? (i := 1298) (by decide +kernel)⟩
theorem lw_p102 : lw_okq (⟨"SoulRaffleModel", "starts", "(I)V"⟩, 33) := ⟨⟨by decide +kernel, by decide +kernel⟩, List.mem_of_getElem? (i := 1262) (by decide +kernel), List.mem_of_getElem? (i := 1301) (by decide +kernel), List.mem_of_getElem? (i := 1302) (by decide +kernel)⟩
theorem lw_p103 : lw_okq (⟨"SoulRaffleModel", "persons", "()I"⟩, 33) := ⟨⟨by decide +kernel, by decide +kernel⟩, List.mem_of_getElem? (i := 1262) (by decide +kernel), List.mem_of_getElem? (i := 1305) (by decide +kernel), List.mem_of_getElem? (i := 1306) (by decide +kernel)⟩
theorem lw_p104 : lw_okq (⟨"SoulRaffleModel", "personOf", "(II)I"⟩, 33) := ⟨⟨by decide +kernel, by decide +kernel⟩, List.mem_of_getElem? (i := 1262) (by decide +kernel), List.mem_of_getElem? (i := 1309) (by decide +kernel), List.mem_of_getElem? (i := 1310) (by decide +kernel)⟩
theorem lw_p105 : lw_okq (⟨"SoulRaffleModel", "cutAll", "()V"⟩, 33) := ⟨⟨by decide +kernel, by decide +kernel⟩, List.mem_of_getElem? (i := 1262) (by decide +kernel), List.mem_of_getElem? (i := 1417) (by decide +kernel), List.mem_of_getElem? (i := 1418) (by decide +kernel)⟩
theorem lw_p106 : lw_okq (⟨"SoulRaffleModel", "readLine", "()V"⟩, 33) := ⟨⟨by decide +kernel, by decide +kernel⟩, List.mem_of_getElem? (i := 1262) (by decide +kernel), List.mem_of_getElem? (i := 1436) (by decide +kernel), List.mem_of_getElem? (i := 1437) (by decide +kernel)⟩
theorem lw_p107 : lw_okq (⟨"SoulRaffleModel", "isWord", "(I)Z"⟩, 33) := ⟨⟨by decide +kernel, by decide +kernel⟩, List.mem_of_getElem? (i := 1262) (by decide +kernel), List.mem_of_getElem? (i := 1440) (by decide +kernel), List.mem_of_getElem? (i := 1441) (by decide +kernel)⟩
theorem lw_p108 : lw_okq (⟨"SoulRaffleModel", "readName", "(III)V"⟩, 33) := ⟨⟨by decide +kernel, by decide +kernel⟩, List.mem_of_getElem? (i := 1262) (by decide +kernel), List.mem_of_getElem? (i := 1444) (by decide +kernel), List.mem_of_getElem? (i := 1445) (by decide +kernel)⟩
theorem lw_p109 : lw_okq (⟨"SoulRaffleModel", "wrong", "(I)V"⟩, 33) := ⟨⟨by decide +kernel, by decide +kernel⟩, List.mem_of_getElem? (i := 1262) (by decide +kernel), List.mem_of_getElem? (i := 1448) (by decide +kernel), List.mem_of_getElem? (i := 1449) (by decide +kernel)⟩
theorem lw_p110 : lw_okq (⟨"SoulRaffleModel", "isName", "()Z"⟩, 33) := ⟨⟨by decide +kernel, by decide +kernel⟩, List.mem_of_getElem? (i := 1262) (by decide +kernel), List.mem_of_getElem? (i := 1452) (by decide +kernel), List.mem_of_getElem? (i := 1453) (by decide +kernel)⟩
theorem lw_p111 : lw_okq (⟨"SoulRaffleModel", "wordHere", "(II)I"⟩, 33) := ⟨⟨by decide +kernel, by decide +kernel⟩, List.mem_of_getElem? (i := 1262) (by decide +kernel), List.mem_of_getElem? (i := 1456) (by decide +kernel), List.mem_of_getElem? (i := 1457) (by decide +kernel)⟩
def lw_privs_7 : List (MethodName × Nat) := [(⟨"SoulRaffle$Seen", "copyOf", "(LSoulRaffle$Seen;)V"⟩, 4), (⟨"SoulRaffle$Standing", "allShillings", "()I"⟩, 5), (⟨"java/lang/Throwable", "fillInStackTrace", "(I)Ljava/lang/Throwable;"⟩, 6), (⟨"SoulRaffleModel", "lay", "(J)V"⟩, 33), (⟨"SoulRaffleModel", "standsAsAlways", "(I)V"⟩, 33), (⟨"SoulRaffleModel", "begins", "()V"⟩, 33), (⟨"SoulRaffleModel", "starts", "(I)V"⟩, 33), (⟨"SoulRaffleModel", "persons", "()I"⟩, 33), (⟨"SoulRaffleModel", "personOf", "(II)I"⟩, 33), (⟨"SoulRaffleModel", "cutAll", "()V"⟩, 33), (⟨"SoulRaffleModel", "readLine", "()V"⟩, 33), (⟨"SoulRaffleModel", "isWord", "(I)Z"⟩, 33), (⟨"SoulRaffleModel", "readName", "(III)V"⟩, 33), (⟨"SoulRaffleModel", "wrong", "(I)V"⟩, 33), (⟨"SoulRaffleModel", "isName", "()Z"⟩, 33), (⟨"SoulRaffleModel", "wordHere", "(II)I"⟩, 33)]
theorem lw_r7 : ∀ q ∈ lw_privs_7, lw_okq q := List.forall_mem_cons.mpr ⟨lw_p96, List.forall_mem_cons.mpr ⟨lw_p97, List.forall_mem_cons.mpr ⟨lw_p98, List.forall_mem_cons.mpr ⟨lw_p99, List.forall_mem_cons.mpr ⟨lw_p100, List.forall_mem_cons.mpr ⟨lw_p101, List.forall_mem_cons.mpr ⟨lw_p102, List.forall_mem_cons.mpr ⟨lw_p103, List.forall_mem_cons.mpr ⟨lw_p104, List.forall_mem_cons.mpr ⟨lw_p105, List.forall_mem_cons.mpr ⟨lw_p106, List.forall_mem_cons.mpr ⟨lw_p107, List.forall_mem_cons.mpr ⟨lw_p108, List.forall_mem_cons.mpr ⟨lw_p109, List.forall_mem_cons.mpr ⟨lw_p110, List.forall_mem_cons.mpr ⟨lw_p111, fun _ h => absurd h List.not_mem_nil⟩⟩⟩⟩⟩⟩⟩⟩⟩⟩⟩⟩⟩⟩⟩⟩
theorem lw_p112 : lw_okq (⟨"SoulRaffleModel", "nameAt", "(Z)I"⟩, 33) := ⟨⟨by decide +kernel, by decide +kernel⟩, List.mem_of_getElem? (i := 1262) (by decide +kernel), List.mem_of_getElem? (i := 1460) (by decide +kernel), List.mem_of_getElem? (i := 1461) (by decide +kernel)⟩
theorem lw_p113 : lw_okq (⟨"SoulRaffleModel", "takeOne", "(II)I"⟩, 33) := ⟨⟨by decide +kernel, by decide +kernel⟩, List.mem_of_getElem? (i := 1262) (by decide +kernel), List.mem_of_getElem? (i := 1464) (by decide +kernel), List.mem_of_getElem? (i := 1465) (by decide +kernel)⟩
theorem lw_p114 : lw_okq (⟨"SoulRaffleModel", "takeAfter", "(III)I"⟩, 33) := ⟨⟨by decide +kernel, by decide +kernel⟩, List.mem_of_getElem? (i := 1262) (by decide +kernel), List.mem_of_getElem? (i := 1468) (by decide +kernel), List.mem_of_getElem? (i := 1469) (by decide +kernel)⟩
theorem lw_p115 : lw_okq (⟨"SoulRaffleModel", "takeWord", "(I)V"⟩, 33) := ⟨⟨by decide +kernel, by decide +kernel⟩, List.mem_of_getElem? (i := 1262) (by decide +kernel), List.mem_of_getElem? (i := 1472) (by decide +kernel), List.mem_of_getElem? (i := 1473) (by decide +kernel)⟩
theorem lw_p116 : lw_okq (⟨"SoulRaffleModel", "hasWord", "(I)Z"⟩, 33) := ⟨⟨by decide +kernel, by decide +kernel⟩, List.mem_of_getElem? (i := 1262) (by decide +kernel), List.mem_of_getElem? (i := 1476) (by decide +kernel), List.mem_of_getElem? (i := 1477) (by decide +kernel)⟩
theorem lw_p117 : lw_okq (⟨"SoulRaffleModel", "takeNumber", "(II)I"⟩, 33) := ⟨⟨by decide +kernel, by decide +kernel⟩, List.mem_of_getElem? (i := 1262) (by decide +kernel), List.mem_of_getElem? (i := 1480) (by decide +kernel), List.mem_of_getElem? (i := 1481) (by decide +kernel)⟩
theorem lw_p118 : lw_okq (⟨"SoulRaffleModel", "takeTold", "(ZII)I"⟩, 33) := ⟨⟨by decide +kernel, by decide +kernel⟩, List.mem_of_getElem? (i := 1262) (by decide +kernel), List.mem_of_getElem? (i := 1484) (by decide +kernel), List.mem_of_getElem? (i := 1485) (by decide +kernel)⟩
theorem lw_p119 : lw_okq (⟨"SoulRaffleModel", "readLike", "()V"⟩, 33) := ⟨⟨by decide +kernel, by decide +kernel⟩, List.mem_of_getElem? (i := 1262) (by decide +kernel), List.mem_of_getElem? (i := 1491) (by decide +kernel), List.mem_of_getElem? (i := 1492) (by decide +kernel)⟩
theorem lw_p120 : lw_okq (⟨"SoulRaffleModel", "readOnce", "()V"⟩, 33) := ⟨⟨by decide +kernel, by decide +kernel⟩, List.mem_of_getElem? (i := 1262) (by decide +kernel), List.mem_of_getElem? (i := 1495) (by decide +kernel), List.mem_of_getElem? (i := 1496) (by decide +kernel)⟩
theorem lw_p121 : lw_okq (⟨"SoulRaffleModel", "whole", "(I)V"⟩, 33) := ⟨⟨by decide +kernel, by decide +kernel⟩, List.mem_of_getElem? (i := 1262) (by decide +kernel), List.mem_of_getElem? (i := 1499) (by decide +kernel), List.mem_of_getElem? (i := 1500) (by decide +kernel)⟩
theorem lw_p122 : lw_okq (⟨"SoulRaffleModel", "test", "(I)V"⟩, 33) := ⟨⟨by decide +kernel, by decide +kernel⟩, List.mem_of_getElem? (i := 1262) (by decide +kernel), List.mem_of_getElem? (i := 1503) (by decide +kernel), List.mem_of_getElem? (i := 1504) (by decide +kernel)⟩
theorem lw_p123 : lw_okq (⟨"SoulRaffleModel", "sums", "(I)V"⟩, 33) := ⟨⟨by decide +kernel, by decide +kernel⟩, List.mem_of_getElem? (i := 1262) (by decide +kernel), List.mem_of_getElem? (i := 1507) (by decide +kernel), List.mem_of_getElem? (i := 1508) (by decide +kernel)⟩
theorem lw_p124 : lw_okq (⟨"SoulRaffleModel", "products", "(I)V"⟩, 33) := ⟨⟨by decide +kernel, by decide +kernel⟩, List.mem_of_getElem? (i := 1262) (by decide +kernel), List.mem_of_getElem? (i := 1511) (by decide +kernel), List.mem_of_getElem? (i := 1512) (by decide +kernel)⟩
theorem lw_p125 : lw_okq (⟨"SoulRaffleModel", "takePart", "(I)V"⟩, 33) := ⟨⟨by decide +kernel, by decide +kernel⟩, List.mem_of_getElem? (i := 1262) (by decide +kernel), List.mem_of_getElem? (i := 1515) (by decide +kernel), List.mem_of_getElem? (i := 1516) (by decide +kernel)⟩
theorem lw_p126 : lw_okq (⟨"SoulRaffleModel", "isSign", "(I)Z"⟩, 33) := ⟨⟨by decide +kernel, by decide +kernel⟩, List.mem_of_getElem? (i := 1262) (by decide +kernel), List.mem_of_getElem? (i := 1519) (by decide +kernel), List.mem_of_getElem? (i := 1520) (by decide +kernel)⟩
theorem lw_p127 : lw_okq (⟨"SoulRaffleModel", "emit", "(II)V"⟩, 33) := ⟨⟨by decide +kernel, by decide +kernel⟩, List.mem_of_getElem? (i := 1262) (by decide +kernel), List.mem_of_getElem? (i := 1523) (by decide +kernel), List.mem_of_getElem? (i := 1524) (by decide +kernel)⟩
def lw_privs_8 : List (MethodName × Nat) := [(⟨"SoulRaffleModel", "nameAt", "(Z)I"⟩, 33), (⟨"SoulRaffleModel", "takeOne", "(II)I"⟩, 33), (⟨"SoulRaffleModel", "takeAfter", "(III)I"⟩, 33), (⟨"SoulRaffleModel", "takeWord", "(I)V"⟩, 33), (⟨"SoulRaffleModel", "hasWord", "(I)Z"⟩, 33), (⟨"SoulRaffleModel", "takeNumber", "(II)I"⟩, 33), (⟨"SoulRaffleModel", "takeTold", "(ZII)I"⟩, 33), (⟨"SoulRaffleModel", "readLike", "()V"⟩, 33), (⟨"SoulRaffleModel", "readOnce", "()V"⟩, 33), (⟨"SoulRaffleModel", "whole", "(I)V"⟩, 33), (⟨"SoulRaffleModel", "test", "(I)V"⟩, 33), (⟨"SoulRaffleModel", "sums", "(I)V"⟩, 33), (⟨"SoulRaffleModel", "products", "(I)V"⟩, 33), (⟨"SoulRaffleModel", "takePart", "(I)V"⟩, 33), (⟨"SoulRaffleModel", "isSign", "(I)Z"⟩, 33), (⟨"SoulRaffleModel", "emit", "(II)V"⟩, 33)]
theorem lw_r8 : ∀ q ∈ lw_privs_8, lw_okq q := List.forall_mem_cons.mpr ⟨lw_p112, List.forall_mem_cons.mpr ⟨lw_p113, List.forall_mem_cons.mpr ⟨lw_p114, List.forall_mem_cons.mpr ⟨lw_p115, List.forall_mem_cons.mpr ⟨lw_p116, List.forall_mem_cons.mpr ⟨lw_p117, List.forall_mem_cons.mpr ⟨lw_p118, List.forall_mem_cons.mpr ⟨lw_p119, List.forall_mem_cons.mpr ⟨lw_p120, List.forall_mem_cons.mpr ⟨lw_p121, List.forall_mem_cons.mpr ⟨lw_p122, List.forall_mem_cons.mpr ⟨lw_p123, List.forall_mem_cons.mpr ⟨lw_p124, List.forall_mem_cons.mpr ⟨lw_p125, List.forall_mem_cons.mpr ⟨lw_p126, List.forall_mem_cons.mpr ⟨lw_p127, fun _ h => absurd h List.not_mem_nil⟩⟩⟩⟩⟩⟩⟩⟩⟩⟩⟩⟩⟩⟩⟩⟩
theorem lw_p128 : lw_okq (⟨"SoulRaffleModel", "hasSign", "(I)Z"⟩, 33) := ⟨⟨by decide +kernel, by decide +kernel⟩, List.mem_of_getElem? (i := 1262) (by decide +kernel), List.mem_of_getElem? (i := 1527) (by decide +kernel), List.mem_of_getElem? (i := 1528) (by decide +kernel)⟩
theorem lw_p129 : lw_okq (⟨"SoulRaffleModel", "takeSign", "(I)V"⟩, 33) := ⟨⟨by decide +kernel, by decide +kernel⟩, List.mem_of_getElem? (i := 1262) (by decide +kernel), List.mem_of_getElem? (i := 1531) (by decide +kernel), List.mem_of_getElem? (i := 1532) (by decide +kernel)⟩
theorem lw_p130 : lw_okq (⟨"SoulRaffleModel", "readYear", "(II)V"⟩, 33) := ⟨⟨by decide +kernel, by decide +kernel⟩, List.mem_of_getElem? (i := 1262) (by decide +kernel), List.mem_of_getElem? (i := 1539) (by decide +kernel), List.mem_of_getElem? (i := 1540) (by decide +kernel)⟩
theorem lw_p131 : lw_okq (⟨"SoulRaffleModel", "isPerson", "(I)Z"⟩, 33) := ⟨⟨by decide +kernel, by decide +kernel⟩, List.mem_of_getElem? (i := 1262) (by decide +kernel), List.mem_of_getElem? (i := 1547) (by decide +kernel), List.mem_of_getElem? (i := 1548) (by decide +kernel)⟩
theorem lw_p132 : lw_okq (⟨"SoulRaffleModel", "heldBy", "(II)I"⟩, 33) := ⟨⟨by decide +kernel, by decide +kernel⟩, List.mem_of_getElem? (i := 1262) (by decide +kernel), List.mem_of_getElem? (i := 1551) (by decide +kernel), List.mem_of_getElem? (i := 1552) (by decide +kernel)⟩
theorem lw_p133 : lw_okq (⟨"SoulRaffleModel", "goods", "()I"⟩, 33) := ⟨⟨by decide +kernel, by decide +kernel⟩, List.mem_of_getElem? (i := 1262) (by decide +kernel), List.mem_of_getElem? (i := 1555) (by decide +kernel), List.mem_of_getElem? (i := 1556) (by decide +kernel)⟩
theorem lw_p134 : lw_okq (⟨"SoulRaffleModel", "isGood", "(I)Z"⟩, 33) := ⟨⟨by decide +kernel, by decide +kernel⟩, List.mem_of_getElem? (i := 1262) (by decide +kernel), List.mem_of_getElem? (i := 1563) (by decide +kernel), List.mem_of_getElem? (i := 1564) (by decide +kernel)⟩
theorem lw_p135 : lw_okq (⟨"SoulRaffleModel", "goodOf", "(II)I"⟩, 33) := ⟨⟨by decide +kernel, by decide +kernel⟩, List.mem_of_getElem? (i := 1262) (by decide +kernel), List.mem_of_getElem? (i := 1567) (by decide +kernel), List.mem_of_getElem? (i := 1568) (by decide +kernel)⟩
theorem lw_p136 : lw_okq (⟨"SoulRaffleModel", "fitOf", "(III)I"⟩, 33) := ⟨⟨by decide +kernel, by decide +kernel⟩, List.mem_of_getElem? (i := 1262) (by decide +kernel), List.mem_of_getElem? (i := 1575) (by decide +kernel), List.mem_of_getElem? (i := 1576) (by decide +kernel)⟩
theorem lw_p137 : lw_okq (⟨"SoulRaffleModel", "fitBy", "(III)I"⟩, 33) := ⟨⟨by decide +kernel, by decide +kernel⟩, List.mem_of_getElem? (i := 1262) (by decide +kernel), List.mem_of_getElem? (i := 1582) (by decide +kernel), List.mem_of_getElem? (i := 1583) (by decide +kernel)⟩
theorem lw_p138 : lw_okq (⟨"SoulRaffleModel", "worthAt", "(I)I"⟩, 33) := ⟨⟨by decide +kernel, by decide +kernel⟩, List.mem_of_getElem? (i := 1262) (by decide +kernel), List.mem_of_getElem? (i := 1586) (by decide +kernel), List.mem_of_getElem? (i := 1587) (by decide +kernel)⟩
theorem lw_p139 : lw_okq (⟨"SoulRaffleModel", "mayBuy", "(II)Z"⟩, 33) := ⟨⟨by decide +kernel, by decide +kernel⟩, List.mem_of_getElem? (i := 1262) (by decide +kernel), List.mem_of_getElem? (i := 1597) (by decide +kernel), List.mem_of_getElem? (i := 1598) (by decide +kernel)⟩
theorem lw_p140 : lw_okq (⟨"SoulRaffleModel", "keeps", "()V"⟩, 33) := ⟨⟨by decide +kernel, by decide +kernel⟩, List.mem_of_getElem? (i := 1262) (by decide +kernel), List.mem_of_getElem? (i := 1601) (by decide +kernel), List.mem_of_getElem? (i := 1602) (by decide +kernel)⟩
theorem lw_p141 : lw_okq (⟨"SoulRaffleModel", "copies", "(III)V"⟩, 33) := ⟨⟨by decide +kernel, by decide +kernel⟩, List.mem_of_getElem? (i := 1262) (by decide +kernel), List.mem_of_getElem? (i := 1605) (by decide +kernel), List.mem_of_getElem? (i := 1606) (by decide +kernel)⟩
theorem lw_p142 : lw_okq (⟨"SoulRaffleModel", "buys", "(II)V"⟩, 33) := ⟨⟨by decide +kernel, by decide +kernel⟩, List.mem_of_getElem? (i := 1262) (by decide +kernel), List.mem_of_getElem? (i := 1609) (by decide +kernel), List.mem_of_getElem? (i := 1610) (by decide +kernel)⟩
theorem lw_p143 : lw_okq (⟨"SoulRaffleModel", "maySwap", "(III)Z"⟩, 33) := ⟨⟨by decide +kernel, by decide +kernel⟩, List.mem_of_getElem? (i := 1262) (by decide +kernel), List.mem_of_getElem? (i := 1617) (by decide +kernel), List.mem_of_getElem? (i := 1618) (by decide +kernel)⟩
def lw_privs_9 : List (MethodName × Nat) := [(⟨"SoulRaffleModel", "hasSign", "(I)Z"⟩, 33), (⟨"SoulRaffleModel", "takeSign", "(I)V"⟩, 33), (⟨"SoulRaffleModel", "readYear", "(II)V"⟩, 33), (⟨"SoulRaffleModel", "isPerson", "(I)Z"⟩, 33), (⟨"SoulRaffleModel", "heldBy", "(II)I"⟩, 33), (⟨"SoulRaffleModel", "goods", "()I"⟩, 33), (⟨"SoulRaffleModel", "isGood", "(I)Z"⟩, 33), (⟨"SoulRaffleModel", "goodOf", "(II)I"⟩, 33), (⟨"SoulRaffleModel", "fitOf", "(III)I"⟩, 33), (⟨"SoulRaffleModel", "fitBy", "(III)I"⟩, 33), (⟨"SoulRaffleModel", "worthAt", "(I)I"⟩, 33), (⟨"SoulRaffleModel", "mayBuy", "(II)Z"⟩, 33), (⟨"SoulRaffleModel", "keeps", "()V"⟩, 33), (⟨"SoulRaffleModel", "copies", "(III)V"⟩, 33), (⟨"SoulRaffleModel", "buys", "(II)V"⟩, 33), (⟨"SoulRaffleModel", "maySwap", "(III)Z"⟩, 33)]
theorem lw_r9 : ∀ q ∈ lw_privs_9, lw_okq q := List.forall_mem_cons.mpr ⟨lw_p128, List.forall_mem_cons.mpr ⟨lw_p129, List.forall_mem_cons.mpr ⟨lw_p130, List.forall_mem_cons.mpr ⟨lw_p131, List.forall_mem_cons.mpr ⟨lw_p132, List.forall_mem_cons.mpr ⟨lw_p133, List.forall_mem_cons.mpr ⟨lw_p134, List.forall_mem_cons.mpr ⟨lw_p135, List.forall_mem_cons.mpr ⟨lw_p136, List.forall_mem_cons.mpr ⟨lw_p137, List.forall_mem_cons.mpr ⟨lw_p138, List.forall_mem_cons.mpr ⟨lw_p139, List.forall_mem_cons.mpr ⟨lw_p140, List.forall_mem_cons.mpr ⟨lw_p141, List.forall_mem_cons.mpr ⟨lw_p142, List.forall_mem_cons.mpr ⟨lw_p143, fun _ h => absurd h List.not_mem_nil⟩⟩⟩⟩⟩⟩⟩⟩⟩⟩⟩⟩⟩⟩⟩⟩
theorem lw_p144 : lw_okq (⟨"SoulRaffleModel", "doesLike", "(IIII)Z"⟩, 33) := ⟨⟨by decide +kernel, by decide +kernel⟩, List.mem_of_getElem? (i := 1262) (by decide +kernel), List.mem_of_getElem? (i := 1621) (by decide +kernel), List.mem_of_getElem? (i := 1622) (by decide +kernel)⟩
theorem lw_p145 : lw_okq (⟨"SoulRaffleModel", "swaps", "(III)V"⟩, 33) := ⟨⟨by decide +kernel, by decide +kernel⟩, List.mem_of_getElem? (i := 1262) (by decide +kernel), List.mem_of_getElem? (i := 1625) (by decide +kernel), List.mem_of_getElem? (i := 1626) (by decide +kernel)⟩
theorem lw_p146 : lw_okq (⟨"SoulRaffleModel", "passes", "(I)I"⟩, 33) := ⟨⟨by decide +kernel, by decide +kernel⟩, List.mem_of_getElem? (i := 1262) (by decide +kernel), List.mem_of_getElem? (i := 1637) (by decide +kernel), List.mem_of_getElem? (i := 1638) (by decide +kernel)⟩
theorem lw_p147 : lw_okq (⟨"SoulRaffleModel", "sumOf", "(I)I"⟩, 33) := ⟨⟨by decide +kernel, by decide +kernel⟩, List.mem_of_getElem? (i := 1262) (by decide +kernel), List.mem_of_getElem? (i := 1641) (by decide +kernel), List.mem_of_getElem? (i := 1642) (by decide +kernel)⟩
theorem lw_p148 : lw_okq (⟨"SoulRaffleModel", "draw", "(II)I"⟩, 33) := ⟨⟨by decide +kernel, by decide +kernel⟩, List.mem_of_getElem? (i := 1262) (by decide +kernel), List.mem_of_getElem? (i := 1645) (by decide +kernel), List.mem_of_getElem? (i := 1646) (by decide +kernel)⟩
theorem lw_p149 : lw_okq (⟨"SoulRaffleModel", "ownerOf", "(II)I"⟩, 33) := ⟨⟨by decide +kernel, by decide +kernel⟩, List.mem_of_getElem? (i := 1262) (by decide +kernel), List.mem_of_getElem? (i := 1653) (by decide +kernel), List.mem_of_getElem? (i := 1654) (by decide +kernel)⟩
theorem lw_p150 : lw_okq (⟨"SoulRaffleModel", "settles", "(II)V"⟩, 33) := ⟨⟨by decide +kernel, by decide +kernel⟩, List.mem_of_getElem? (i := 1262) (by decide +kernel), List.mem_of_getElem? (i := 1657) (by decide +kernel), List.mem_of_getElem? (i := 1658) (by decide +kernel)⟩
theorem lw_p151 : lw_okq (⟨"SoulRaffleModel", "rightsOf", "(I)I"⟩, 33) := ⟨⟨by decide +kernel, by decide +kernel⟩, List.mem_of_getElem? (i := 1262) (by decide +kernel), List.mem_of_getElem? (i := 1669) (by decide +kernel), List.mem_of_getElem? (i := 1670) (by decide +kernel)⟩
theorem lw_p152 : lw_okq (⟨"SoulRaffleModel", "triesNow", "()V"⟩, 33) := ⟨⟨by decide +kernel, by decide +kernel⟩, List.mem_of_getElem? (i := 1262) (by decide +kernel), List.mem_of_getElem? (i := 1677) (by decide +kernel), List.mem_of_getElem? (i := 1678) (by decide +kernel)⟩
theorem lw_p153 : lw_okq (⟨"SoulRaffleModel", "joyOf", "(II)I"⟩, 33) := ⟨⟨by decide +kernel, by decide +kernel⟩, List.mem_of_getElem? (i := 1262) (by decide +kernel), List.mem_of_getElem? (i := 1717) (by decide +kernel), List.mem_of_getElem? (i := 1718) (by decide +kernel)⟩
theorem lw_p154 : lw_okq (⟨"SoulRaffleModel", "fitOfAll", "(III)I"⟩, 33) := ⟨⟨by decide +kernel, by decide +kernel⟩, List.mem_of_getElem? (i := 1262) (by decide +kernel), List.mem_of_getElem? (i := 1721) (by decide +kernel), List.mem_of_getElem? (i := 1722) (by decide +kernel)⟩
theorem lw_p155 : lw_okq (⟨"SoulRaffleModel", "allGoods", "()I"⟩, 33) := ⟨⟨by decide +kernel, by decide +kernel⟩, List.mem_of_getElem? (i := 1262) (by decide +kernel), List.mem_of_getElem? (i := 1737) (by decide +kernel), List.mem_of_getElem? (i := 1738) (by decide +kernel)⟩
theorem lw_p156 : lw_okq (⟨"SoulRaffleModel", "wantOf", "(III)I"⟩, 33) := ⟨⟨by decide +kernel, by decide +kernel⟩, List.mem_of_getElem? (i := 1262) (by decide +kernel), List.mem_of_getElem? (i := 1741) (by decide +kernel), List.mem_of_getElem? (i := 1742) (by decide +kernel)⟩
theorem lw_p157 : lw_okq (⟨"SoulRaffleModel", "fansOf", "(I)I"⟩, 33) := ⟨⟨by decide +kernel, by decide +kernel⟩, List.mem_of_getElem? (i := 1262) (by decide +kernel), List.mem_of_getElem? (i := 1749) (by decide +kernel), List.mem_of_getElem? (i := 1750) (by decide +kernel)⟩
theorem lw_p158 : lw_okq (⟨"SoulRaffleModel", "ringsNow", "()I"⟩, 33) := ⟨⟨by decide +kernel, by decide +kernel⟩, List.mem_of_getElem? (i := 1262) (by decide +kernel), List.mem_of_getElem? (i := 1765) (by decide +kernel), List.mem_of_getElem? (i := 1766) (by decide +kernel)⟩
theorem lw_p159 : lw_okq (⟨"SoulRaffleModel", "ownerIn", "(I)I"⟩, 33) := ⟨⟨by decide +kernel, by decide +kernel⟩, List.mem_of_getElem? (i := 1262) (by decide +kernel), List.mem_of_getElem? (i := 1769) (by decide +kernel), List.mem_of_getElem? (i := 1770) (by decide +kernel)⟩
def lw_privs_10 : List (MethodName × Nat) := [(⟨"SoulRaffleModel", "doesLike", "(IIII)Z"⟩, 33), (⟨"SoulRaffleModel", "swaps", "(III)V"⟩, 33), (⟨"SoulRaffleModel", "passes", "(I)I"⟩, 33), (⟨"SoulRaffleModel", "sumOf", "(I)I"⟩, 33), (⟨"SoulRaffleModel", "draw", "(II)I"⟩, 33), (⟨"SoulRaffleModel", "ownerOf", "(II)I"⟩, 33), (⟨"SoulRaffleModel", "settles", "(II)V"⟩, 33), (⟨"SoulRaffleModel", "rightsOf", "(I)I"⟩, 33), (⟨"SoulRaffleModel", "triesNow", "()V"⟩, 33), (⟨"SoulRaffleModel", "joyOf", "(II)I"⟩, 33), (⟨"SoulRaffleModel", "fitOfAll", "(III)I"⟩, 33), (⟨"SoulRaffleModel", "allGoods", "()I"⟩, 33), (⟨"SoulRaffleModel", "wantOf", "(III)I"⟩, 33), (⟨"SoulRaffleModel", "fansOf", "(I)I"⟩, 33), (⟨"SoulRaffleModel", "ringsNow", "()I"⟩, 33), (⟨"SoulRaffleModel", "ownerIn", "(I)I"⟩, 33)]
theorem lw_r10 : ∀ q ∈ lw_privs_10, lw_okq q := List.forall_mem_cons.mpr ⟨lw_p144, List.forall_mem_cons.mpr ⟨lw_p145, List.forall_mem_cons.mpr ⟨lw_p146, List.forall_mem_cons.mpr ⟨lw_p147, List.forall_mem_cons.mpr ⟨lw_p148, List.forall_mem_cons.mpr ⟨lw_p149, List.forall_mem_cons.mpr ⟨lw_p150, List.forall_mem_cons.mpr ⟨lw_p151, List.forall_mem_cons.mpr ⟨lw_p152, List.forall_mem_cons.mpr ⟨lw_p153, List.forall_mem_cons.mpr ⟨lw_p154, List.forall_mem_cons.mpr ⟨lw_p155, List.forall_mem_cons.mpr ⟨lw_p156, List.forall_mem_cons.mpr ⟨lw_p157, List.forall_mem_cons.mpr ⟨lw_p158, List.forall_mem_cons.mpr ⟨lw_p159, fun _ h => absurd h List.not_mem_nil⟩⟩⟩⟩⟩⟩⟩⟩⟩⟩⟩⟩⟩⟩⟩⟩
theorem lw_p160 : lw_okq (⟨"SoulRaffleModel", "givesOut", "(I)V"⟩, 33) := ⟨⟨by decide +kernel, by decide +kernel⟩, List.mem_of_getElem? (i := 1262) (by decide +kernel), List.mem_of_getElem? (i := 1781) (by decide +kernel), List.mem_of_getElem? (i := 1782) (by decide +kernel)⟩
theorem lw_p161 : lw_okq (⟨"SoulRaffleModel", "givesFrom", "(IIII)V"⟩, 33) := ⟨⟨by decide +kernel, by decide +kernel⟩, List.mem_of_getElem? (i := 1262) (by decide +kernel), List.mem_of_getElem? (i := 1785) (by decide +kernel), List.mem_of_getElem? (i := 1786) (by decide +kernel)⟩
theorem lw_p162 : lw_okq (⟨"SoulRaffleModel", "whoNow", "()I"⟩, 33) := ⟨⟨by decide +kernel, by decide +kernel⟩, List.mem_of_getElem? (i := 1262) (by decide +kernel), List.mem_of_getElem? (i := 1819) (by decide +kernel), List.mem_of_getElem? (i := 1820) (by decide +kernel)⟩
theorem lw_p163 : lw_okq (⟨"SoulRaffleModel", "drawsDeed", "()V"⟩, 33) := ⟨⟨by decide +kernel, by decide +kernel⟩, List.mem_of_getElem? (i := 1262) (by decide +kernel), List.mem_of_getElem? (i := 1858) (by decide +kernel), List.mem_of_getElem? (i := 1859) (by decide +kernel)⟩
theorem lw_p164 : lw_okq (⟨"SoulRaffleModel", "joyOfAll", "(I)I"⟩, 33) := ⟨⟨by decide +kernel, by decide +kernel⟩, List.mem_of_getElem? (i := 1262) (by decide +kernel), List.mem_of_getElem? (i := 1862) (by decide +kernel), List.mem_of_getElem? (i := 1863) (by decide +kernel)⟩
def lw_privs_11 : List (MethodName × Nat) := [(⟨"SoulRaffleModel", "givesOut", "(I)V"⟩, 33), (⟨"SoulRaffleModel", "givesFrom", "(IIII)V"⟩, 33), (⟨"SoulRaffleModel", "whoNow", "()I"⟩, 33), (⟨"SoulRaffleModel", "drawsDeed", "()V"⟩, 33), (⟨"SoulRaffleModel", "joyOfAll", "(I)I"⟩, 33)]
theorem lw_r11 : ∀ q ∈ lw_privs_11, lw_okq q := List.forall_mem_cons.mpr ⟨lw_p160, List.forall_mem_cons.mpr ⟨lw_p161, List.forall_mem_cons.mpr ⟨lw_p162, List.forall_mem_cons.mpr ⟨lw_p163, List.forall_mem_cons.mpr ⟨lw_p164, fun _ h => absurd h List.not_mem_nil⟩⟩⟩⟩⟩
def lw_privs : List (MethodName × Nat) := lw_privs_1 ++ (lw_privs_2 ++ (lw_privs_3 ++ (lw_privs_4 ++ (lw_privs_5 ++ (lw_privs_6 ++ (lw_privs_7 ++ (lw_privs_8 ++ (lw_privs_9 ++ (lw_privs_10 ++ (lw_privs_11))))))))))
def lw_tbl : List Cond := k2_sels lw_privs ++ tables_1
theorem lw_privs_ok : ∀ q ∈ lw_privs, lw_okq q := by
  show ∀ q ∈ lw_privs_1 ++ (lw_privs_2 ++ (lw_privs_3 ++ (lw_privs_4 ++ (lw_privs_5 ++ (lw_privs_6 ++ (lw_privs_7 ++ (lw_privs_8 ++ (lw_privs_9 ++ (lw_privs_10 ++ (lw_privs_11)))))))))), lw_okq q
  exact List.forall_mem_append.mpr ⟨lw_r1, List.forall_mem_append.mpr ⟨lw_r2, List.forall_mem_append.mpr ⟨lw_r3, List.forall_mem_append.mpr ⟨lw_r4, List.forall_mem_append.mpr ⟨lw_r5, List.forall_mem_append.mpr ⟨lw_r6, List.forall_mem_append.mpr ⟨lw_r7, List.forall_mem_append.mpr ⟨lw_r8, List.forall_mem_append.mpr ⟨lw_r9, List.forall_mem_append.mpr ⟨lw_r10, lw_r11⟩⟩⟩⟩⟩⟩⟩⟩⟩⟩
def RX0 : String := "SoulRaffle$Gifts"
def TX0 : u_T := fun k => match k with
  | 0 => ("SoulRaffle$Gifts", "known", "Z", false)
  | 1 => ("SoulRaffle$Gifts", "total", "I", false)
  | 2 => ("SoulRaffle$Gifts", "row", "[I", true)
  | _ => ("SoulRaffle$Gifts", "mosts", "[I", true)
def tyX0 : Nat → FieldType := fun k => match k with
  | 0 => .boolean
  | 1 => .int
  | 2 => .array .int
  | _ => .array .int
abbrev wsX00 : List Cond := u_ws RX0 TX0 4
theorem nmX0 : ∀ a, a < 4 → ∀ b, b < 4 → a ≠ b → (TX0 a).2.1 ≠ (TX0 b).2.1 := by decide +kernel
theorem tyX0_ok : ∀ k, k < 4 → parseFieldDescriptor (TX0 k).2.2.1 = some (tyX0 k) := by decide +kernel
abbrev cX0_init : ByteArray := prog_2_method_1_code
def yX0_init : MethodName := ⟨RX0, "<init>", "()V"⟩
abbrev cX0_giveOut : ByteArray := prog_2_method_2_code
def yX0_giveOut : MethodName := ⟨RX0, "giveOut", "(LSoulRaffle$Office;)V"⟩
abbrev cX0_firstBest : ByteArray := prog_2_method_3_code
def yX0_firstBest : MethodName := ⟨RX0, "firstBest", "(LSoulRaffle$Office;II)I"⟩
abbrev cX0_mostBy : ByteArray := prog_2_method_4_code
def yX0_mostBy : MethodName := ⟨RX0, "mostBy", "(LSoulRaffle$Office;III)I"⟩
abbrev cX0_mostWithout : ByteArray := prog_2_method_5_code
def yX0_mostWithout : MethodName := ⟨RX0, "mostWithout", "(LSoulRaffle$Office;I)I"⟩
abbrev cX0_mostFrom : ByteArray := prog_2_method_6_code
def yX0_mostFrom : MethodName := ⟨RX0, "mostFrom", "(LSoulRaffle$Office;IIZ)I"⟩
abbrev cX0_givenTo : ByteArray := prog_2_method_7_code
def yX0_givenTo : MethodName := ⟨RX0, "givenTo", "(I)I"⟩
def RX1 : String := "SoulRaffle$Law"
def TX1 : u_T := fun k => match k with
  | 0 => ("SoulRaffle$Law", "parts", "[I", true)
  | 1 => ("SoulRaffle$Law", "size", "I", false)
  | 2 => ("SoulRaffle$Law", "stack", "[I", true)
  | _ => ("SoulRaffle$Law", "height", "I", false)
def tyX1 : Nat → FieldType := fun k => match k with
  | 0 => .array .int
  | 1 => .int
  | 2 => .array .int
  | _ => .int
abbrev wsX10 : List Cond := u_ws RX1 TX1 4
theorem nmX1 : ∀ a, a < 4 → ∀ b, b < 4 → a ≠ b → (TX1 a).2.1 ≠ (TX1 b).2.1 := by decide +kernel
theorem tyX1_ok : ∀ k, k < 4 → parseFieldDescriptor (TX1 k).2.2.1 = some (tyX1 k) := by decide +kernel
abbrev cX1_init : ByteArray := prog_3_method_1_code
def yX1_init : MethodName := ⟨RX1, "<init>", "()V"⟩
abbrev cX1_setUsual : ByteArray := prog_3_method_2_code
def yX1_setUsual : MethodName := ⟨RX1, "setUsual", "()V"⟩
abbrev cX1_add : ByteArray := prog_3_method_3_code
def yX1_add : MethodName := ⟨RX1, "add", "(I)V"⟩
abbrev cX1_readLevel : ByteArray := prog_3_method_4_code
def yX1_readLevel : MethodName := ⟨RX1, "readLevel", "(LSoulRaffle$Tokens;II)Z"⟩
abbrev cX1_operatorAt : ByteArray := prog_3_method_5_code
def yX1_operatorAt : MethodName := ⟨RX1, "operatorAt", "(LSoulRaffle$Tokens;I)I"⟩
abbrev cX1_readPart : ByteArray := prog_3_method_6_code
def yX1_readPart : MethodName := ⟨RX1, "readPart", "(LSoulRaffle$Tokens;I)Z"⟩
abbrev cX1_readNot : ByteArray := prog_3_method_7_code
def yX1_readNot : MethodName := ⟨RX1, "readNot", "(LSoulRaffle$Tokens;I)Z"⟩
abbrev cX1_readBrackets : ByteArray := prog_3_method_8_code
def yX1_readBrackets : MethodName := ⟨RX1, "readBrackets", "(LSoulRaffle$Tokens;I)Z"⟩
abbrev cX1_factAt : ByteArray := prog_3_method_9_code
def yX1_factAt : MethodName := ⟨RX1, "factAt", "(LSoulRaffle$Tokens;)I"⟩
abbrev cX1_work : ByteArray := prog_3_method_10_code
def yX1_work : MethodName := ⟨RX1, "work", "(IIII)I"⟩
abbrev cX1_pushOrJoin : ByteArray := prog_3_method_11_code
def yX1_pushOrJoin : MethodName := ⟨RX1, "pushOrJoin", "(I)V"⟩
abbrev cX1_join : ByteArray := prog_3_method_12_code
def yX1_join : MethodName := ⟨RX1, "join", "(III)I"⟩
abbrev cX1_push : ByteArray := prog_3_method_13_code
def yX1_push : MethodName := ⟨RX1, "push", "(I)V"⟩
abbrev cX1_pop : ByteArray := prog_3_method_14_code
def yX1_pop : MethodName := ⟨RX1, "pop", "()I"⟩
def RX2 : String := "SoulRaffle$Office"
def TX2 : u_T := fun k => match k with
  | 0 => ("SoulRaffle$Office", "persons", "I", false)
  | 1 => ("SoulRaffle$Office", "goods", "I", false)
  | 2 => ("SoulRaffle$Office", "personNames", "[J", true)
  | 3 => ("SoulRaffle$Office", "goodNames", "[J", true)
  | 4 => ("SoulRaffle$Office", "kinds", "[I", true)
  | 5 => ("SoulRaffle$Office", "coins", "[I", true)
  | 6 => ("SoulRaffle$Office", "worths", "[I", true)
  | 7 => ("SoulRaffle$Office", "owners", "[I", true)
  | 8 => ("SoulRaffle$Office", "likes", "[I", true)
  | 9 => ("SoulRaffle$Office", "seed", "I", false)
  | 10 => ("SoulRaffle$Office", "seedTold", "Z", false)
  | 11 => ("SoulRaffle$Office", "lawTold", "Z", false)
  | 12 => ("SoulRaffle$Office", "law", "LSoulRaffle$Law;", true)
  | _ => ("SoulRaffle$Office", "fits", "[I", true)
def tyX2 : Nat → FieldType := fun k => match k with
  | 0 => .int
  | 1 => .int
  | 2 => .array .long
  | 3 => .array .long
  | 4 => .array .int
  | 5 => .array .int
  | 6 => .array .int
  | 7 => .array .int
  | 8 => .array .int
  | 9 => .int
  | 10 => .boolean
  | 11 => .boolean
  | 12 => .object "SoulRaffle$Law"
  | _ => .array .int
abbrev wsX20 : List Cond := u_ws RX2 TX2 14
theorem nmX2 : ∀ a, a < 14 → ∀ b, b < 14 → a ≠ b → (TX2 a).2.1 ≠ (TX2 b).2.1 := by decide +kernel
theorem tyX2_ok : ∀ k, k < 14 → parseFieldDescriptor (TX2 k).2.2.1 = some (tyX2 k) := by decide +kernel
abbrev cX2_init : ByteArray := prog_4_method_1_code
def yX2_init : MethodName := ⟨RX2, "<init>", "()V"⟩
abbrev cX2_readLines : ByteArray := prog_4_method_2_code
def yX2_readLines : MethodName := ⟨RX2, "readLines", "(LSoulRaffle$Tokens;)I"⟩
abbrev cX2_clear : ByteArray := prog_4_method_3_code
def yX2_clear : MethodName := ⟨RX2, "clear", "()V"⟩
abbrev cX2_readLine : ByteArray := prog_4_method_4_code
def yX2_readLine : MethodName := ⟨RX2, "readLine", "(LSoulRaffle$Tokens;)Z"⟩
abbrev cX2_readPerson : ByteArray := prog_4_method_5_code
def yX2_readPerson : MethodName := ⟨RX2, "readPerson", "(LSoulRaffle$Tokens;)Z"⟩
abbrev cX2_addPerson : ByteArray := prog_4_method_6_code
def yX2_addPerson : MethodName := ⟨RX2, "addPerson", "(JII)V"⟩
abbrev cX2_readGood : ByteArray := prog_4_method_7_code
def yX2_readGood : MethodName := ⟨RX2, "readGood", "(LSoulRaffle$Tokens;)Z"⟩
abbrev cX2_addGood : ByteArray := prog_4_method_8_code
def yX2_addGood : MethodName := ⟨RX2, "addGood", "(JII)V"⟩
abbrev cX2_isNewName : ByteArray := prog_4_method_9_code
def yX2_isNewName : MethodName := ⟨RX2, "isNewName", "(LSoulRaffle$Tokens;)Z"⟩
abbrev cX2_kindAt : ByteArray := prog_4_method_10_code
def yX2_kindAt : MethodName := ⟨RX2, "kindAt", "(LSoulRaffle$Tokens;)I"⟩
abbrev cX2_readLikes : ByteArray := prog_4_method_11_code
def yX2_readLikes : MethodName := ⟨RX2, "readLikes", "(LSoulRaffle$Tokens;)Z"⟩
abbrev cX2_readSeed : ByteArray := prog_4_method_12_code
def yX2_readSeed : MethodName := ⟨RX2, "readSeed", "(LSoulRaffle$Tokens;)Z"⟩
abbrev cX2_readFits : ByteArray := prog_4_method_13_code
def yX2_readFits : MethodName := ⟨RX2, "readFits", "(LSoulRaffle$Tokens;)Z"⟩
abbrev cX2_workOutFits : ByteArray := prog_4_method_14_code
def yX2_workOutFits : MethodName := ⟨RX2, "workOutFits", "()V"⟩
abbrev cX2_fitIndex : ByteArray := prog_4_method_15_code
def yX2_fitIndex : MethodName := ⟨RX2, "fitIndex", "(III)I"⟩
abbrev cX2_fitBy : ByteArray := prog_4_method_16_code
def yX2_fitBy : MethodName := ⟨RX2, "fitBy", "(III)I"⟩
abbrev cX2_likeOf : ByteArray := prog_4_method_17_code
def yX2_likeOf : MethodName := ⟨RX2, "likeOf", "(II)I"⟩
abbrev cX2_hasPerson : ByteArray := prog_4_method_18_code
def yX2_hasPerson : MethodName := ⟨RX2, "hasPerson", "(I)Z"⟩
abbrev cX2_hasGood : ByteArray := prog_4_method_19_code
def yX2_hasGood : MethodName := ⟨RX2, "hasGood", "(I)Z"⟩
abbrev cX2_kindOf : ByteArray := prog_4_method_20_code
def yX2_kindOf : MethodName := ⟨RX2, "kindOf", "(I)I"⟩
abbrev cX2_worthOf : ByteArray := prog_4_method_21_code
def yX2_worthOf : MethodName := ⟨RX2, "worthOf", "(I)I"⟩
abbrev cX2_ownerOf : ByteArray := prog_4_method_22_code
def yX2_ownerOf : MethodName := ⟨RX2, "ownerOf", "(I)I"⟩
abbrev cX2_allGoods : ByteArray := prog_4_method_23_code
def yX2_allGoods : MethodName := ⟨RX2, "allGoods", "()I"⟩
def RX3 : String := "SoulRaffle$Rings"
def TX3 : u_T := fun k => match k with
  | 0 => ("SoulRaffle$Rings", "puts", "[I", true)
  | 1 => ("SoulRaffle$Rings", "pointed", "[I", true)
  | 2 => ("SoulRaffle$Rings", "got", "[I", true)
  | _ => ("SoulRaffle$Rings", "passed", "I", false)
def tyX3 : Nat → FieldType := fun k => match k with
  | 0 => .array .int
  | 1 => .array .int
  | 2 => .array .int
  | _ => .int
abbrev wsX30 : List Cond := u_ws RX3 TX3 4
theorem nmX3 : ∀ a, a < 4 → ∀ b, b < 4 → a ≠ b → (TX3 a).2.1 ≠ (TX3 b).2.1 := by decide +kernel
theorem tyX3_ok : ∀ k, k < 4 → parseFieldDescriptor (TX3 k).2.2.1 = some (tyX3 k) := by decide +kernel
abbrev cX3_init : ByteArray := prog_5_method_1_code
def yX3_init : MethodName := ⟨RX3, "<init>", "()V"⟩
abbrev cX3_trade : ByteArray := prog_5_method_2_code
def yX3_trade : MethodName := ⟨RX3, "trade", "(LSoulRaffle$Office;LSoulRaffle$Standing;)V"⟩
abbrev cX3_putIn : ByteArray := prog_5_method_3_code
def yX3_putIn : MethodName := ⟨RX3, "putIn", "(LSoulRaffle$Office;LSoulRaffle$Standing;)I"⟩
abbrev cX3_pointsTo : ByteArray := prog_5_method_4_code
def yX3_pointsTo : MethodName := ⟨RX3, "pointsTo", "(LSoulRaffle$Office;LSoulRaffle$Standing;II)I"⟩
abbrev cX3_handOut : ByteArray := prog_5_method_5_code
def yX3_handOut : MethodName := ⟨RX3, "handOut", "(LSoulRaffle$Office;I)I"⟩
abbrev cX3_comesRound : ByteArray := prog_5_method_6_code
def yX3_comesRound : MethodName := ⟨RX3, "comesRound", "(I)Z"⟩
abbrev cX3_gotBy : ByteArray := prog_5_method_7_code
def yX3_gotBy : MethodName := ⟨RX3, "gotBy", "(I)I"⟩
def RX4 : String := "SoulRaffle$Seen"
def TX4 : u_T := fun k => match k with
  | 0 => ("SoulRaffle$Seen", "goods", "[I", true)
  | 1 => ("SoulRaffle$Seen", "muches", "[I", true)
  | 2 => ("SoulRaffle$Seen", "sos", "[Z", true)
  | _ => ("SoulRaffle$Seen", "size", "I", false)
def tyX4 : Nat → FieldType := fun k => match k with
  | 0 => .array .int
  | 1 => .array .int
  | 2 => .array .boolean
  | _ => .int
abbrev wsX40 : List Cond := u_ws RX4 TX4 4
theorem nmX4 : ∀ a, a < 4 → ∀ b, b < 4 → a ≠ b → (TX4 a).2.1 ≠ (TX4 b).2.1 := by decide +kernel
theorem tyX4_ok : ∀ k, k < 4 → parseFieldDescriptor (TX4 k).2.2.1 = some (tyX4 k) := by decide +kernel
abbrev cX4_init : ByteArray := prog_6_method_1_code
def yX4_init : MethodName := ⟨RX4, "<init>", "()V"⟩
abbrev cX4_add : ByteArray := prog_6_method_2_code
def yX4_add : MethodName := ⟨RX4, "add", "(IIZ)Z"⟩
abbrev cX4_copyOf : ByteArray := prog_6_method_3_code
def yX4_copyOf : MethodName := ⟨RX4, "copyOf", "(LSoulRaffle$Seen;)V"⟩
abbrev cX4_whoBits : ByteArray := prog_6_method_4_code
def yX4_whoBits : MethodName := ⟨RX4, "whoBits", "(LSoulRaffle$Office;)I"⟩
abbrev cX4_allIsSo : ByteArray := prog_6_method_5_code
def yX4_allIsSo : MethodName := ⟨RX4, "allIsSo", "(LSoulRaffle$Office;I)Z"⟩
def RX5 : String := "SoulRaffle$Standing"
def TX5 : u_T := fun k => match k with
  | 0 => ("SoulRaffle$Standing", "holders", "[I", true)
  | 1 => ("SoulRaffle$Standing", "shillings", "[I", true)
  | 2 => ("SoulRaffle$Standing", "tickets", "[I", true)
  | 3 => ("SoulRaffle$Standing", "drawn", "J", false)
  | _ => ("SoulRaffle$Standing", "quarters", "I", false)
def tyX5 : Nat → FieldType := fun k => match k with
  | 0 => .array .int
  | 1 => .array .int
  | 2 => .array .int
  | 3 => .long
  | _ => .int
abbrev wsX50 : List Cond := u_ws RX5 TX5 5
theorem nmX5 : ∀ a, a < 5 → ∀ b, b < 5 → a ≠ b → (TX5 a).2.1 ≠ (TX5 b).2.1 := by decide +kernel
theorem tyX5_ok : ∀ k, k < 5 → parseFieldDescriptor (TX5 k).2.2.1 = some (tyX5 k) := by decide +kernel
abbrev cX5_init : ByteArray := prog_7_method_1_code
def yX5_init : MethodName := ⟨RX5, "<init>", "()V"⟩
abbrev cX5_startOf : ByteArray := prog_7_method_2_code
def yX5_startOf : MethodName := ⟨RX5, "startOf", "(LSoulRaffle$Office;)V"⟩
abbrev cX5_copyOf : ByteArray := prog_7_method_3_code
def yX5_copyOf : MethodName := ⟨RX5, "copyOf", "(LSoulRaffle$Standing;)V"⟩
abbrev cX5_holderOf : ByteArray := prog_7_method_4_code
def yX5_holderOf : MethodName := ⟨RX5, "holderOf", "(I)I"⟩
abbrev cX5_place : ByteArray := prog_7_method_5_code
def yX5_place : MethodName := ⟨RX5, "place", "(II)V"⟩
abbrev cX5_shillingsOf : ByteArray := prog_7_method_6_code
def yX5_shillingsOf : MethodName := ⟨RX5, "shillingsOf", "(I)I"⟩
abbrev cX5_ticketsOf : ByteArray := prog_7_method_7_code
def yX5_ticketsOf : MethodName := ⟨RX5, "ticketsOf", "(I)I"⟩
abbrev cX5_allTickets : ByteArray := prog_7_method_8_code
def yX5_allTickets : MethodName := ⟨RX5, "allTickets", "()I"⟩
abbrev cX5_allShillings : ByteArray := prog_7_method_9_code
def yX5_allShillings : MethodName := ⟨RX5, "allShillings", "()I"⟩
abbrev cX5_bitsOf : ByteArray := prog_7_method_10_code
def yX5_bitsOf : MethodName := ⟨RX5, "bitsOf", "(I)I"⟩
abbrev cX5_firstOf : ByteArray := prog_7_method_11_code
def yX5_firstOf : MethodName := ⟨RX5, "firstOf", "(I)I"⟩
abbrev cX5_heldBits : ByteArray := prog_7_method_12_code
def yX5_heldBits : MethodName := ⟨RX5, "heldBits", "(LSoulRaffle$Office;)I"⟩
abbrev cX5_rightBits : ByteArray := prog_7_method_13_code
def yX5_rightBits : MethodName := ⟨RX5, "rightBits", "(LSoulRaffle$Office;)I"⟩
abbrev cX5_fitOf : ByteArray := prog_7_method_14_code
def yX5_fitOf : MethodName := ⟨RX5, "fitOf", "(LSoulRaffle$Office;II)I"⟩
abbrev cX5_joyOf : ByteArray := prog_7_method_15_code
def yX5_joyOf : MethodName := ⟨RX5, "joyOf", "(LSoulRaffle$Office;I)I"⟩
abbrev cX5_fitOfAll : ByteArray := prog_7_method_16_code
def yX5_fitOfAll : MethodName := ⟨RX5, "fitOfAll", "(LSoulRaffle$Office;II)I"⟩
abbrev cX5_joyOfAll : ByteArray := prog_7_method_17_code
def yX5_joyOfAll : MethodName := ⟨RX5, "joyOfAll", "(LSoulRaffle$Office;)I"⟩
abbrev cX5_canBuy : ByteArray := prog_7_method_18_code
def yX5_canBuy : MethodName := ⟨RX5, "canBuy", "(I)Z"⟩
abbrev cX5_takeTicket : ByteArray := prog_7_method_19_code
def yX5_takeTicket : MethodName := ⟨RX5, "takeTicket", "(I)V"⟩
abbrev cX5_canTrade : ByteArray := prog_7_method_20_code
def yX5_canTrade : MethodName := ⟨RX5, "canTrade", "(LSoulRaffle$Office;II)Z"⟩
abbrev cX5_gainsBy : ByteArray := prog_7_method_21_code
def yX5_gainsBy : MethodName := ⟨RX5, "gainsBy", "(LSoulRaffle$Office;III)Z"⟩
abbrev cX5_trade : ByteArray := prog_7_method_22_code
def yX5_trade : MethodName := ⟨RX5, "trade", "(II)V"⟩
abbrev cX5_draw : ByteArray := prog_7_method_23_code
def yX5_draw : MethodName := ⟨RX5, "draw", "(I)I"⟩
abbrev cX5_passQuarter : ByteArray := prog_7_method_24_code
def yX5_passQuarter : MethodName := ⟨RX5, "passQuarter", "(LSoulRaffle$Office;)I"⟩
abbrev cX5_raffle : ByteArray := prog_7_method_25_code
def yX5_raffle : MethodName := ⟨RX5, "raffle", "(LSoulRaffle$Office;)I"⟩
abbrev cX5_holderOfTicket : ByteArray := prog_7_method_26_code
def yX5_holderOfTicket : MethodName := ⟨RX5, "holderOfTicket", "(I)I"⟩
abbrev cX5_settle : ByteArray := prog_7_method_27_code
def yX5_settle : MethodName := ⟨RX5, "settle", "(LSoulRaffle$Office;I)V"⟩
abbrev cX5_tryLuck : ByteArray := prog_7_method_28_code
def yX5_tryLuck : MethodName := ⟨RX5, "tryLuck", "(LSoulRaffle$Office;)V"⟩
def RX6 : String := "SoulRaffle$Tokens"
def TX6 : u_T := fun k => match k with
  | 0 => ("SoulRaffle$Tokens", "tape", "[C", true)
  | 1 => ("SoulRaffle$Tokens", "signs", "I", false)
  | 2 => ("SoulRaffle$Tokens", "kinds", "[I", true)
  | 3 => ("SoulRaffle$Tokens", "places", "[I", true)
  | 4 => ("SoulRaffle$Tokens", "values", "[J", true)
  | 5 => ("SoulRaffle$Tokens", "size", "I", false)
  | 6 => ("SoulRaffle$Tokens", "current", "I", false)
  | 7 => ("SoulRaffle$Tokens", "kind", "I", false)
  | 8 => ("SoulRaffle$Tokens", "place", "I", false)
  | 9 => ("SoulRaffle$Tokens", "value", "J", false)
  | _ => ("SoulRaffle$Tokens", "fault", "I", false)
def tyX6 : Nat → FieldType := fun k => match k with
  | 0 => .array .char
  | 1 => .int
  | 2 => .array .int
  | 3 => .array .int
  | 4 => .array .long
  | 5 => .int
  | 6 => .int
  | 7 => .int
  | 8 => .int
  | 9 => .long
  | _ => .int
abbrev wsX60 : List Cond := u_ws RX6 TX6 11
theorem nmX6 : ∀ a, a < 11 → ∀ b, b < 11 → a ≠ b → (TX6 a).2.1 ≠ (TX6 b).2.1 := by decide +kernel
theorem tyX6_ok : ∀ k, k < 11 → parseFieldDescriptor (TX6 k).2.2.1 = some (tyX6 k) := by decide +kernel
abbrev cX6_init : ByteArray := prog_8_method_1_code
def yX6_init : MethodName := ⟨RX6, "<init>", "()V"⟩
abbrev cX6_takeBytes : ByteArray := prog_8_method_2_code
def yX6_takeBytes : MethodName := ⟨RX6, "takeBytes", "(J)V"⟩
abbrev cX6_split : ByteArray := prog_8_method_3_code
def yX6_split : MethodName := ⟨RX6, "split", "()V"⟩
abbrev cX6_scan : ByteArray := prog_8_method_4_code
def yX6_scan : MethodName := ⟨RX6, "scan", "(I)I"⟩
abbrev cX6_scanWord : ByteArray := prog_8_method_5_code
def yX6_scanWord : MethodName := ⟨RX6, "scanWord", "(I)I"⟩
abbrev cX6_scanNumber : ByteArray := prog_8_method_6_code
def yX6_scanNumber : MethodName := ⟨RX6, "scanNumber", "(I)I"⟩
abbrev cX6_add : ByteArray := prog_8_method_7_code
def yX6_add : MethodName := ⟨RX6, "add", "(IIJ)V"⟩
abbrev cX6_signAt : ByteArray := prog_8_method_8_code
def yX6_signAt : MethodName := ⟨RX6, "signAt", "(I)C"⟩
abbrev cX6_isLetter : ByteArray := prog_8_method_9_code
def yX6_isLetter : MethodName := ⟨RX6, "isLetter", "(C)Z"⟩
abbrev cX6_isDigit : ByteArray := prog_8_method_10_code
def yX6_isDigit : MethodName := ⟨RX6, "isDigit", "(C)Z"⟩
abbrev cX6_step : ByteArray := prog_8_method_11_code
def yX6_step : MethodName := ⟨RX6, "step", "()V"⟩
abbrev cX6_isWord : ByteArray := prog_8_method_12_code
def yX6_isWord : MethodName := ⟨RX6, "isWord", "(LSoulRaffle$Word;)Z"⟩
abbrev cX6_isSign : ByteArray := prog_8_method_13_code
def yX6_isSign : MethodName := ⟨RX6, "isSign", "(C)Z"⟩
abbrev cX6_isName : ByteArray := prog_8_method_14_code
def yX6_isName : MethodName := ⟨RX6, "isName", "()Z"⟩
abbrev cX6_fail : ByteArray := prog_8_method_15_code
def yX6_fail : MethodName := ⟨RX6, "fail", "(I)Z"⟩
abbrev cX6_takeWord : ByteArray := prog_8_method_16_code
def yX6_takeWord : MethodName := ⟨RX6, "takeWord", "(LSoulRaffle$Word;)Z"⟩
abbrev cX6_takeEnd : ByteArray := prog_8_method_17_code
def yX6_takeEnd : MethodName := ⟨RX6, "takeEnd", "()Z"⟩
abbrev cX6_takeNumber : ByteArray := prog_8_method_18_code
def yX6_takeNumber : MethodName := ⟨RX6, "takeNumber", "(II)I"⟩
abbrev cX6_takeToldName : ByteArray := prog_8_method_19_code
def yX6_takeToldName : MethodName := ⟨RX6, "takeToldName", "([JI)I"⟩
def RX7 : String := "SoulRaffle$Word"
def TX7 : u_T := fun k => match k with
  | _ => ("", "", "", false)
def tyX7 : Nat → FieldType := fun k => match k with
  | _ => .int
abbrev wsX70 : List Cond := u_ws RX7 TX7 0
theorem nmX7 : ∀ a, a < 0 → ∀ b, b < 0 → a ≠ b → (TX7 a).2.1 ≠ (TX7 b).2.1 := by decide +kernel
theorem tyX7_ok : ∀ k, k < 0 → parseFieldDescriptor (TX7 k).2.2.1 = some (tyX7 k) := by decide +kernel
def RX8 : String := "SoulRaffle$Year"
def TX8 : u_T := fun k => match k with
  | 0 => ("SoulRaffle$Year", "lines", "I", false)
  | 1 => ("SoulRaffle$Year", "deeds", "[I", true)
  | 2 => ("SoulRaffle$Year", "firsts", "[I", true)
  | _ => ("SoulRaffle$Year", "seconds", "[I", true)
def tyX8 : Nat → FieldType := fun k => match k with
  | 0 => .int
  | 1 => .array .int
  | 2 => .array .int
  | _ => .array .int
abbrev wsX80 : List Cond := u_ws RX8 TX8 4
theorem nmX8 : ∀ a, a < 4 → ∀ b, b < 4 → a ≠ b → (TX8 a).2.1 ≠ (TX8 b).2.1 := by decide +kernel
theorem tyX8_ok : ∀ k, k < 4 → parseFieldDescriptor (TX8 k).2.2.1 = some (tyX8 k) := by decide +kernel
abbrev cX8_init : ByteArray := prog_10_method_1_code
def yX8_init : MethodName := ⟨RX8, "<init>", "()V"⟩
abbrev cX8_readLines : ByteArray := prog_10_method_2_code
def yX8_readLines : MethodName := ⟨RX8, "readLines", "(LSoulRaffle$Tokens;LSoulRaffle$Office;)I"⟩
abbrev cX8_readLine : ByteArray := prog_10_method_3_code
def yX8_readLine : MethodName := ⟨RX8, "readLine", "(LSoulRaffle$Tokens;LSoulRaffle$Office;)Z"⟩
abbrev cX8_deedAt : ByteArray := prog_10_method_4_code
def yX8_deedAt : MethodName := ⟨RX8, "deedAt", "(LSoulRaffle$Tokens;)I"⟩
abbrev cX8_readNames : ByteArray := prog_10_method_5_code
def yX8_readNames : MethodName := ⟨RX8, "readNames", "(LSoulRaffle$Tokens;LSoulRaffle$Office;I)Z"⟩
abbrev cX8_doLine : ByteArray := prog_10_method_6_code
def yX8_doLine : MethodName := ⟨RX8, "doLine", "(ILSoulRaffle$Office;LSoulRaffle$Standing;)Z"⟩
def RX9 : String := "SoulRaffle"
def TX9 : u_T := fun k => match k with
  | 0 => ("SoulRaffle", "tokens", "LSoulRaffle$Tokens;", true)
  | 1 => ("SoulRaffle", "told", "LSoulRaffle$Office;", false)
  | 2 => ("SoulRaffle", "spareOffice", "LSoulRaffle$Office;", false)
  | 3 => ("SoulRaffle", "toldYear", "LSoulRaffle$Year;", false)
  | 4 => ("SoulRaffle", "spareYear", "LSoulRaffle$Year;", false)
  | 5 => ("SoulRaffle", "now", "LSoulRaffle$Standing;", true)
  | 6 => ("SoulRaffle", "trial", "LSoulRaffle$Standing;", true)
  | 7 => ("SoulRaffle", "seen", "LSoulRaffle$Seen;", true)
  | 8 => ("SoulRaffle", "past", "[LSoulRaffle$Standing;", true)
  | 9 => ("SoulRaffle", "newest", "I", false)
  | 10 => ("SoulRaffle", "undoable", "I", false)
  | 11 => ("SoulRaffle", "markStandings", "[LSoulRaffle$Standing;", true)
  | 12 => ("SoulRaffle", "markSeens", "[LSoulRaffle$Seen;", true)
  | 13 => ("SoulRaffle", "markLaid", "[Z", true)
  | 14 => ("SoulRaffle", "rings", "LSoulRaffle$Rings;", true)
  | _ => ("SoulRaffle", "gifts", "LSoulRaffle$Gifts;", true)
def tyX9 : Nat → FieldType := fun k => match k with
  | 0 => .object "SoulRaffle$Tokens"
  | 1 => .object "SoulRaffle$Office"
  | 2 => .object "SoulRaffle$Office"
  | 3 => .object "SoulRaffle$Year"
  | 4 => .object "SoulRaffle$Year"
  | 5 => .object "SoulRaffle$Standing"
  | 6 => .object "SoulRaffle$Standing"
  | 7 => .object "SoulRaffle$Seen"
  | 8 => .array (.object "SoulRaffle$Standing")
  | 9 => .int
  | 10 => .int
  | 11 => .array (.object "SoulRaffle$Standing")
  | 12 => .array (.object "SoulRaffle$Seen")
  | 13 => .array .boolean
  | 14 => .object "SoulRaffle$Rings"
  | _ => .object "SoulRaffle$Gifts"
abbrev wsX90 : List Cond := u_ws RX9 TX9 16
theorem nmX9 : ∀ a, a < 16 → ∀ b, b < 16 → a ≠ b → (TX9 a).2.1 ≠ (TX9 b).2.1 := by decide +kernel
theorem tyX9_ok : ∀ k, k < 16 → parseFieldDescriptor (TX9 k).2.2.1 = some (tyX9 k) := by decide +kernel
abbrev cX9_init : ByteArray := prog_1_method_1_code
def yX9_init : MethodName := ⟨RX9, "<init>", "()V"⟩
abbrev cX9_feed : ByteArray := prog_1_method_2_code
def yX9_feed : MethodName := ⟨RX9, "feed", "(JJJ)I"⟩
abbrev cX9_office : ByteArray := prog_1_method_3_code
def yX9_office : MethodName := ⟨RX9, "office", "()I"⟩
abbrev cX9_openOffice : ByteArray := prog_1_method_4_code
def yX9_openOffice : MethodName := ⟨RX9, "openOffice", "()V"⟩
abbrev cX9_year : ByteArray := prog_1_method_5_code
def yX9_year : MethodName := ⟨RX9, "year", "()I"⟩
abbrev cX9_person : ByteArray := prog_1_method_6_code
def yX9_person : MethodName := ⟨RX9, "person", "(II)I"⟩
abbrev cX9_good : ByteArray := prog_1_method_7_code
def yX9_good : MethodName := ⟨RX9, "good", "(II)I"⟩
abbrev cX9_fit : ByteArray := prog_1_method_8_code
def yX9_fit : MethodName := ⟨RX9, "fit", "(II)I"⟩
abbrev cX9_buy : ByteArray := prog_1_method_9_code
def yX9_buy : MethodName := ⟨RX9, "buy", "(I)I"⟩
abbrev cX9_swap : ByteArray := prog_1_method_10_code
def yX9_swap : MethodName := ⟨RX9, "swap", "(II)Z"⟩
abbrev cX9_bring : ByteArray := prog_1_method_11_code
def yX9_bring : MethodName := ⟨RX9, "bring", "(I)I"⟩
abbrev cX9_quarter : ByteArray := prog_1_method_12_code
def yX9_quarter : MethodName := ⟨RX9, "quarter", "()I"⟩
abbrev cX9_remember : ByteArray := prog_1_method_13_code
def yX9_remember : MethodName := ⟨RX9, "remember", "()V"⟩
abbrev cX9_undo : ByteArray := prog_1_method_14_code
def yX9_undo : MethodName := ⟨RX9, "undo", "()Z"⟩
abbrev cX9_judged : ByteArray := prog_1_method_15_code
def yX9_judged : MethodName := ⟨RX9, "judged", "(I)I"⟩
abbrev cX9_winner : ByteArray := prog_1_method_16_code
def yX9_winner : MethodName := ⟨RX9, "winner", "(I)I"⟩
abbrev cX9_where : ByteArray := prog_1_method_17_code
def yX9_where : MethodName := ⟨RX9, "where", "(II)I"⟩
abbrev cX9_has : ByteArray := prog_1_method_18_code
def yX9_has : MethodName := ⟨RX9, "has", "(II)I"⟩
abbrev cX9_home : ByteArray := prog_1_method_19_code
def yX9_home : MethodName := ⟨RX9, "home", "()I"⟩
abbrev cX9_empty : ByteArray := prog_1_method_20_code
def yX9_empty : MethodName := ⟨RX9, "empty", "()I"⟩
abbrev cX9_won : ByteArray := prog_1_method_21_code
def yX9_won : MethodName := ⟨RX9, "won", "(II)I"⟩
abbrev cX9_streak : ByteArray := prog_1_method_22_code
def yX9_streak : MethodName := ⟨RX9, "streak", "(II)I"⟩
abbrev cX9_moves : ByteArray := prog_1_method_23_code
def yX9_moves : MethodName := ⟨RX9, "moves", "(I)I"⟩
abbrev cX9_least : ByteArray := prog_1_method_24_code
def yX9_least : MethodName := ⟨RX9, "least", "()I"⟩
abbrev cX9_rights : ByteArray := prog_1_method_25_code
def yX9_rights : MethodName := ⟨RX9, "rights", "()I"⟩
abbrev cX9_joy : ByteArray := prog_1_method_26_code
def yX9_joy : MethodName := ⟨RX9, "joy", "(I)I"⟩
abbrev cX9_envy : ByteArray := prog_1_method_27_code
def yX9_envy : MethodName := ⟨RX9, "envy", "(I)I"⟩
abbrev cX9_offers : ByteArray := prog_1_method_28_code
def yX9_offers : MethodName := ⟨RX9, "offers", "(I)I"⟩
abbrev cX9_want : ByteArray := prog_1_method_29_code
def yX9_want : MethodName := ⟨RX9, "want", "(I)I"⟩
abbrev cX9_fans : ByteArray := prog_1_method_30_code
def yX9_fans : MethodName := ⟨RX9, "fans", "(I)I"⟩
abbrev cX9_dull : ByteArray := prog_1_method_31_code
def yX9_dull : MethodName := ⟨RX9, "dull", "()I"⟩
abbrev cX9_fanBits : ByteArray := prog_1_method_32_code
def yX9_fanBits : MethodName := ⟨RX9, "fanBits", "(I)I"⟩
abbrev cX9_isFan : ByteArray := prog_1_method_33_code
def yX9_isFan : MethodName := ⟨RX9, "isFan", "(II)Z"⟩
abbrev cX9_gets : ByteArray := prog_1_method_34_code
def yX9_gets : MethodName := ⟨RX9, "gets", "(I)I"⟩
abbrev cX9_rounds : ByteArray := prog_1_method_35_code
def yX9_rounds : MethodName := ⟨RX9, "rounds", "()I"⟩
abbrev cX9_best : ByteArray := prog_1_method_36_code
def yX9_best : MethodName := ⟨RX9, "best", "(I)I"⟩
abbrev cX9_owes : ByteArray := prog_1_method_37_code
def yX9_owes : MethodName := ⟨RX9, "owes", "(I)I"⟩
abbrev cX9_spare : ByteArray := prog_1_method_38_code
def yX9_spare : MethodName := ⟨RX9, "spare", "()I"⟩
abbrev cX9_odds : ByteArray := prog_1_method_39_code
def yX9_odds : MethodName := ⟨RX9, "odds", "(II)I"⟩
abbrev cX9_enough : ByteArray := prog_1_method_40_code
def yX9_enough : MethodName := ⟨RX9, "enough", "(II)I"⟩
abbrev cX9_run : ByteArray := prog_1_method_41_code
def yX9_run : MethodName := ⟨RX9, "run", "(I)I"⟩
abbrev cX9_see : ByteArray := prog_1_method_42_code
def yX9_see : MethodName := ⟨RX9, "see", "(IIZ)Z"⟩
abbrev cX9_who : ByteArray := prog_1_method_43_code
def yX9_who : MethodName := ⟨RX9, "who", "()I"⟩
abbrev cX9_ask : ByteArray := prog_1_method_44_code
def yX9_ask : MethodName := ⟨RX9, "ask", "()I"⟩
abbrev cX9_leftByAsking : ByteArray := prog_1_method_45_code
def yX9_leftByAsking : MethodName := ⟨RX9, "leftByAsking", "(III)I"⟩
abbrev cX9_rich : ByteArray := prog_1_method_46_code
def yX9_rich : MethodName := ⟨RX9, "rich", "()I"⟩
abbrev cX9_sad : ByteArray := prog_1_method_47_code
def yX9_sad : MethodName := ⟨RX9, "sad", "()I"⟩
abbrev cX9_lack : ByteArray := prog_1_method_48_code
def yX9_lack : MethodName := ⟨RX9, "lack", "(I)I"⟩
abbrev cX9_debt : ByteArray := prog_1_method_49_code
def yX9_debt : MethodName := ⟨RX9, "debt", "()I"⟩
abbrev cX9_poor : ByteArray := prog_1_method_50_code
def yX9_poor : MethodName := ⟨RX9, "poor", "()I"⟩
abbrev cX9_rests : ByteArray := prog_1_method_51_code
def yX9_rests : MethodName := ⟨RX9, "rests", "(IIII)I"⟩
abbrev cX9_isBargain : ByteArray := prog_1_method_52_code
def yX9_isBargain : MethodName := ⟨RX9, "isBargain", "(I)Z"⟩
abbrev cX9_isRest : ByteArray := prog_1_method_53_code
def yX9_isRest : MethodName := ⟨RX9, "isRest", "(IIII)Z"⟩
abbrev cX9_bargained : ByteArray := prog_1_method_54_code
def yX9_bargained : MethodName := ⟨RX9, "bargained", "(IIIII)I"⟩
abbrev cX9_luck : ByteArray := prog_1_method_55_code
def yX9_luck : MethodName := ⟨RX9, "luck", "(III)I"⟩
abbrev cX9_mark : ByteArray := prog_1_method_56_code
def yX9_mark : MethodName := ⟨RX9, "mark", "(IZ)Z"⟩
abbrev cX9_count : ByteArray := prog_1_method_57_code
def yX9_count : MethodName := ⟨RX9, "count", "(I)I"⟩
abbrev cX9_at : ByteArray := prog_1_method_58_code
def yX9_at : MethodName := ⟨RX9, "at", "([II)I"⟩
abbrev cX9_put : ByteArray := prog_1_method_59_code
def yX9_put : MethodName := ⟨RX9, "put", "([III)V"⟩
abbrev cX9_copy : ByteArray := prog_1_method_60_code
def yX9_copy : MethodName := ⟨RX9, "copy", "([I[I)V"⟩
abbrev cX9_sum : ByteArray := prog_1_method_61_code
def yX9_sum : MethodName := ⟨RX9, "sum", "([I)I"⟩
abbrev cX9_indexOf : ByteArray := prog_1_method_62_code
def yX9_indexOf : MethodName := ⟨RX9, "indexOf", "([JIJ)I"⟩
abbrev cX9_spell : ByteArray := prog_1_method_63_code
def yX9_spell : MethodName := ⟨RX9, "spell", "(JC)J"⟩
def RX10 : String := "SoulRaffleModel"
def TX10 : u_T := fun k => match k with
  | 0 => ("SoulRaffleModel", "thrown", "I", false)
  | 1 => ("SoulRaffleModel", "tape", "[I", true)
  | 2 => ("SoulRaffleModel", "taped", "I", false)
  | 3 => ("SoulRaffleModel", "size", "I", false)
  | 4 => ("SoulRaffleModel", "sort", "[I", true)
  | 5 => ("SoulRaffleModel", "place", "[I", true)
  | 6 => ("SoulRaffleModel", "value", "[J", true)
  | 7 => ("SoulRaffleModel", "at", "I", false)
  | 8 => ("SoulRaffleModel", "fault", "I", false)
  | 9 => ("SoulRaffleModel", "words", "[J", true)
  | 10 => ("SoulRaffleModel", "offices", "[I", true)
  | 11 => ("SoulRaffleModel", "op", "[I", true)
  | 12 => ("SoulRaffleModel", "arg", "[I", true)
  | 13 => ("SoulRaffleModel", "codes", "I", false)
  | 14 => ("SoulRaffleModel", "names", "[J", true)
  | 15 => ("SoulRaffleModel", "readNames", "[J", true)
  | 16 => ("SoulRaffleModel", "nameOf", "[I", true)
  | 17 => ("SoulRaffleModel", "readNameOf", "[I", true)
  | 18 => ("SoulRaffleModel", "namesMany", "I", false)
  | 19 => ("SoulRaffleModel", "readMany", "I", false)
  | 20 => ("SoulRaffleModel", "once", "I", false)
  | 21 => ("SoulRaffleModel", "lines", "[I", true)
  | 22 => ("SoulRaffleModel", "facts", "[I", true)
  | 23 => ("SoulRaffleModel", "pile", "[I", true)
  | 24 => ("SoulRaffleModel", "state", "[I", true)
  | 25 => ("SoulRaffleModel", "undos", "I", false)
  | 26 => ("SoulRaffleModel", "isMarked", "[Z", true)
  | 27 => ("SoulRaffleModel", "puts", "[I", true)
  | 28 => ("SoulRaffleModel", "points", "[I", true)
  | 29 => ("SoulRaffleModel", "gains", "[I", true)
  | 30 => ("SoulRaffleModel", "row", "[I", true)
  | 31 => ("SoulRaffleModel", "bestRow", "[I", true)
  | _ => ("SoulRaffleModel", "mostFit", "I", false)
def tyX10 : Nat → FieldType := fun k => match k with
  | 0 => .int
  | 1 => .array .int
  | 2 => .int
  | 3 => .int
  | 4 => .array .int
  | 5 => .array .int
  | 6 => .array .long
  | 7 => .int
  | 8 => .int
  | 9 => .array .long
  | 10 => .array .int
  | 11 => .array .int
  | 12 => .array .int
  | 13 => .int
  | 14 => .array .long
  | 15 => .array .long
  | 16 => .array .int
  | 17 => .array .int
  | 18 => .int
  | 19 => .int
  | 20 => .int
  | 21 => .array .int
  | 22 => .array .int
  | 23 => .array .int
  | 24 => .array .int
  | 25 => .int
  | 26 => .array .boolean
  | 27 => .array .int
  | 28 => .array .int
  | 29 => .array .int
  | 30 => .array .int
  | 31 => .array .int
  | _ => .int
abbrev wsX100 : List Cond := u_ws RX10 TX10 33
theorem nmX10 : ∀ a, a < 33 → ∀ b, b < 33 → a ≠ b → (TX10 a).2.1 ≠ (TX10 b).2.1 := by decide +kernel
theorem tyX10_ok : ∀ k, k < 33 → parseFieldDescriptor (TX10 k).2.2.1 = some (tyX10 k) := by decide +kernel
abbrev cX10_thrown : ByteArray := prog_12_method_1_code
def yX10_thrown : MethodName := ⟨RX10, "thrown", "()I"⟩
abbrev cX10_feed : ByteArray := prog_12_method_2_code
def yX10_feed : MethodName := ⟨RX10, "feed", "(JJJ)I"⟩
abbrev cX10_lay : ByteArray := prog_12_method_3_code
def yX10_lay : MethodName := ⟨RX10, "lay", "(J)V"⟩
abbrev cX10_init : ByteArray := prog_12_method_4_code
def yX10_init : MethodName := ⟨RX10, "<init>", "()V"⟩
abbrev cX10_isLetter : ByteArray := prog_12_method_5_code
def yX10_isLetter : MethodName := ⟨RX10, "isLetter", "(I)Z"⟩
abbrev cX10_isDigit : ByteArray := prog_12_method_6_code
def yX10_isDigit : MethodName := ⟨RX10, "isDigit", "(I)Z"⟩
abbrev cX10_rank : ByteArray := prog_12_method_7_code
def yX10_rank : MethodName := ⟨RX10, "rank", "(I)I"⟩
abbrev cX10_isSignOf : ByteArray := prog_12_method_8_code
def yX10_isSignOf : MethodName := ⟨RX10, "isSignOf", "(I)Z"⟩
abbrev cX10_cutAll : ByteArray := prog_12_method_9_code
def yX10_cutAll : MethodName := ⟨RX10, "cutAll", "()V"⟩
abbrev cX10_wrong : ByteArray := prog_12_method_10_code
def yX10_wrong : MethodName := ⟨RX10, "wrong", "(I)V"⟩
abbrev cX10_isSign : ByteArray := prog_12_method_11_code
def yX10_isSign : MethodName := ⟨RX10, "isSign", "(I)Z"⟩
abbrev cX10_isWord : ByteArray := prog_12_method_12_code
def yX10_isWord : MethodName := ⟨RX10, "isWord", "(I)Z"⟩
abbrev cX10_takeSign : ByteArray := prog_12_method_13_code
def yX10_takeSign : MethodName := ⟨RX10, "takeSign", "(I)V"⟩
abbrev cX10_hasSign : ByteArray := prog_12_method_14_code
def yX10_hasSign : MethodName := ⟨RX10, "hasSign", "(I)Z"⟩
abbrev cX10_hasWord : ByteArray := prog_12_method_15_code
def yX10_hasWord : MethodName := ⟨RX10, "hasWord", "(I)Z"⟩
abbrev cX10_takeWord : ByteArray := prog_12_method_16_code
def yX10_takeWord : MethodName := ⟨RX10, "takeWord", "(I)V"⟩
abbrev cX10_within : ByteArray := prog_12_method_17_code
def yX10_within : MethodName := ⟨RX10, "within", "(III)Z"⟩
abbrev cX10_standsAsAlways : ByteArray := prog_12_method_18_code
def yX10_standsAsAlways : MethodName := ⟨RX10, "standsAsAlways", "(I)V"⟩
abbrev cX10_takeNumber : ByteArray := prog_12_method_19_code
def yX10_takeNumber : MethodName := ⟨RX10, "takeNumber", "(II)I"⟩
abbrev cX10_takeAfter : ByteArray := prog_12_method_20_code
def yX10_takeAfter : MethodName := ⟨RX10, "takeAfter", "(III)I"⟩
abbrev cX10_wordHere : ByteArray := prog_12_method_21_code
def yX10_wordHere : MethodName := ⟨RX10, "wordHere", "(II)I"⟩
abbrev cX10_takeOne : ByteArray := prog_12_method_22_code
def yX10_takeOne : MethodName := ⟨RX10, "takeOne", "(II)I"⟩
abbrev cX10_isName : ByteArray := prog_12_method_23_code
def yX10_isName : MethodName := ⟨RX10, "isName", "()Z"⟩
abbrev cX10_nameAt : ByteArray := prog_12_method_24_code
def yX10_nameAt : MethodName := ⟨RX10, "nameAt", "(Z)I"⟩
abbrev cX10_takeTold : ByteArray := prog_12_method_25_code
def yX10_takeTold : MethodName := ⟨RX10, "takeTold", "(ZII)I"⟩
abbrev cX10_office : ByteArray := prog_12_method_26_code
def yX10_office : MethodName := ⟨RX10, "office", "()I"⟩
abbrev cX10_readLine : ByteArray := prog_12_method_27_code
def yX10_readLine : MethodName := ⟨RX10, "readLine", "()V"⟩
abbrev cX10_readName : ByteArray := prog_12_method_28_code
def yX10_readName : MethodName := ⟨RX10, "readName", "(III)V"⟩
abbrev cX10_readLike : ByteArray := prog_12_method_29_code
def yX10_readLike : MethodName := ⟨RX10, "readLike", "()V"⟩
abbrev cX10_readOnce : ByteArray := prog_12_method_30_code
def yX10_readOnce : MethodName := ⟨RX10, "readOnce", "()V"⟩
abbrev cX10_year : ByteArray := prog_12_method_31_code
def yX10_year : MethodName := ⟨RX10, "year", "()I"⟩
abbrev cX10_readYear : ByteArray := prog_12_method_32_code
def yX10_readYear : MethodName := ⟨RX10, "readYear", "(II)V"⟩
abbrev cX10_emit : ByteArray := prog_12_method_33_code
def yX10_emit : MethodName := ⟨RX10, "emit", "(II)V"⟩
abbrev cX10_whole : ByteArray := prog_12_method_34_code
def yX10_whole : MethodName := ⟨RX10, "whole", "(I)V"⟩
abbrev cX10_test : ByteArray := prog_12_method_35_code
def yX10_test : MethodName := ⟨RX10, "test", "(I)V"⟩
abbrev cX10_sums : ByteArray := prog_12_method_36_code
def yX10_sums : MethodName := ⟨RX10, "sums", "(I)V"⟩
abbrev cX10_products : ByteArray := prog_12_method_37_code
def yX10_products : MethodName := ⟨RX10, "products", "(I)V"⟩
abbrev cX10_takePart : ByteArray := prog_12_method_38_code
def yX10_takePart : MethodName := ⟨RX10, "takePart", "(I)V"⟩
abbrev cX10_worthAt : ByteArray := prog_12_method_39_code
def yX10_worthAt : MethodName := ⟨RX10, "worthAt", "(I)I"⟩
abbrev cX10_both : ByteArray := prog_12_method_40_code
def yX10_both : MethodName := ⟨RX10, "both", "(III)I"⟩
abbrev cX10_copies : ByteArray := prog_12_method_41_code
def yX10_copies : MethodName := ⟨RX10, "copies", "(III)V"⟩
abbrev cX10_starts : ByteArray := prog_12_method_42_code
def yX10_starts : MethodName := ⟨RX10, "starts", "(I)V"⟩
abbrev cX10_begins : ByteArray := prog_12_method_43_code
def yX10_begins : MethodName := ⟨RX10, "begins", "()V"⟩
abbrev cX10_keeps : ByteArray := prog_12_method_44_code
def yX10_keeps : MethodName := ⟨RX10, "keeps", "()V"⟩
abbrev cX10_persons : ByteArray := prog_12_method_45_code
def yX10_persons : MethodName := ⟨RX10, "persons", "()I"⟩
abbrev cX10_goods : ByteArray := prog_12_method_46_code
def yX10_goods : MethodName := ⟨RX10, "goods", "()I"⟩
abbrev cX10_personOf : ByteArray := prog_12_method_47_code
def yX10_personOf : MethodName := ⟨RX10, "personOf", "(II)I"⟩
abbrev cX10_goodOf : ByteArray := prog_12_method_48_code
def yX10_goodOf : MethodName := ⟨RX10, "goodOf", "(II)I"⟩
abbrev cX10_isPerson : ByteArray := prog_12_method_49_code
def yX10_isPerson : MethodName := ⟨RX10, "isPerson", "(I)Z"⟩
abbrev cX10_isGood : ByteArray := prog_12_method_50_code
def yX10_isGood : MethodName := ⟨RX10, "isGood", "(I)Z"⟩
abbrev cX10_bits : ByteArray := prog_12_method_51_code
def yX10_bits : MethodName := ⟨RX10, "bits", "(I)I"⟩
abbrev cX10_heldBy : ByteArray := prog_12_method_52_code
def yX10_heldBy : MethodName := ⟨RX10, "heldBy", "(II)I"⟩
abbrev cX10_fitBy : ByteArray := prog_12_method_53_code
def yX10_fitBy : MethodName := ⟨RX10, "fitBy", "(III)I"⟩
abbrev cX10_fitOf : ByteArray := prog_12_method_54_code
def yX10_fitOf : MethodName := ⟨RX10, "fitOf", "(III)I"⟩
abbrev cX10_fitOfAll : ByteArray := prog_12_method_55_code
def yX10_fitOfAll : MethodName := ⟨RX10, "fitOfAll", "(III)I"⟩
abbrev cX10_joyOf : ByteArray := prog_12_method_56_code
def yX10_joyOf : MethodName := ⟨RX10, "joyOf", "(II)I"⟩
abbrev cX10_joyOfAll : ByteArray := prog_12_method_57_code
def yX10_joyOfAll : MethodName := ⟨RX10, "joyOfAll", "(I)I"⟩
abbrev cX10_rightsOf : ByteArray := prog_12_method_58_code
def yX10_rightsOf : MethodName := ⟨RX10, "rightsOf", "(I)I"⟩
abbrev cX10_sumOf : ByteArray := prog_12_method_59_code
def yX10_sumOf : MethodName := ⟨RX10, "sumOf", "(I)I"⟩
abbrev cX10_mayBuy : ByteArray := prog_12_method_60_code
def yX10_mayBuy : MethodName := ⟨RX10, "mayBuy", "(II)Z"⟩
abbrev cX10_buys : ByteArray := prog_12_method_61_code
def yX10_buys : MethodName := ⟨RX10, "buys", "(II)V"⟩
abbrev cX10_doesLike : ByteArray := prog_12_method_62_code
def yX10_doesLike : MethodName := ⟨RX10, "doesLike", "(IIII)Z"⟩
abbrev cX10_maySwap : ByteArray := prog_12_method_63_code
def yX10_maySwap : MethodName := ⟨RX10, "maySwap", "(III)Z"⟩
abbrev cX10_swaps : ByteArray := prog_12_method_64_code
def yX10_swaps : MethodName := ⟨RX10, "swaps", "(III)V"⟩
abbrev cX10_draw : ByteArray := prog_12_method_65_code
def yX10_draw : MethodName := ⟨RX10, "draw", "(II)I"⟩
abbrev cX10_ownerOf : ByteArray := prog_12_method_66_code
def yX10_ownerOf : MethodName := ⟨RX10, "ownerOf", "(II)I"⟩
abbrev cX10_settles : ByteArray := prog_12_method_67_code
def yX10_settles : MethodName := ⟨RX10, "settles", "(II)V"⟩
abbrev cX10_passes : ByteArray := prog_12_method_68_code
def yX10_passes : MethodName := ⟨RX10, "passes", "(I)I"⟩
abbrev cX10_person : ByteArray := prog_12_method_69_code
def yX10_person : MethodName := ⟨RX10, "person", "(II)I"⟩
abbrev cX10_good : ByteArray := prog_12_method_70_code
def yX10_good : MethodName := ⟨RX10, "good", "(II)I"⟩
abbrev cX10_fit : ByteArray := prog_12_method_71_code
def yX10_fit : MethodName := ⟨RX10, "fit", "(II)I"⟩
abbrev cX10_buy : ByteArray := prog_12_method_72_code
def yX10_buy : MethodName := ⟨RX10, "buy", "(I)I"⟩
abbrev cX10_swap : ByteArray := prog_12_method_73_code
def yX10_swap : MethodName := ⟨RX10, "swap", "(II)Z"⟩
abbrev cX10_bring : ByteArray := prog_12_method_74_code
def yX10_bring : MethodName := ⟨RX10, "bring", "(I)I"⟩
abbrev cX10_quarter : ByteArray := prog_12_method_75_code
def yX10_quarter : MethodName := ⟨RX10, "quarter", "()I"⟩
abbrev cX10_undo : ByteArray := prog_12_method_76_code
def yX10_undo : MethodName := ⟨RX10, "undo", "()Z"⟩
abbrev cX10_judged : ByteArray := prog_12_method_77_code
def yX10_judged : MethodName := ⟨RX10, "judged", "(I)I"⟩
abbrev cX10_triesNow : ByteArray := prog_12_method_78_code
def yX10_triesNow : MethodName := ⟨RX10, "triesNow", "()V"⟩
abbrev cX10_winner : ByteArray := prog_12_method_79_code
def yX10_winner : MethodName := ⟨RX10, "winner", "(I)I"⟩
abbrev cX10_where : ByteArray := prog_12_method_80_code
def yX10_where : MethodName := ⟨RX10, "where", "(II)I"⟩
abbrev cX10_has : ByteArray := prog_12_method_81_code
def yX10_has : MethodName := ⟨RX10, "has", "(II)I"⟩
abbrev cX10_home : ByteArray := prog_12_method_82_code
def yX10_home : MethodName := ⟨RX10, "home", "()I"⟩
abbrev cX10_empty : ByteArray := prog_12_method_83_code
def yX10_empty : MethodName := ⟨RX10, "empty", "()I"⟩
abbrev cX10_won : ByteArray := prog_12_method_84_code
def yX10_won : MethodName := ⟨RX10, "won", "(II)I"⟩
abbrev cX10_streak : ByteArray := prog_12_method_85_code
def yX10_streak : MethodName := ⟨RX10, "streak", "(II)I"⟩
abbrev cX10_moves : ByteArray := prog_12_method_86_code
def yX10_moves : MethodName := ⟨RX10, "moves", "(I)I"⟩
abbrev cX10_rights : ByteArray := prog_12_method_87_code
def yX10_rights : MethodName := ⟨RX10, "rights", "()I"⟩
abbrev cX10_joy : ByteArray := prog_12_method_88_code
def yX10_joy : MethodName := ⟨RX10, "joy", "(I)I"⟩
abbrev cX10_envy : ByteArray := prog_12_method_89_code
def yX10_envy : MethodName := ⟨RX10, "envy", "(I)I"⟩
abbrev cX10_offers : ByteArray := prog_12_method_90_code
def yX10_offers : MethodName := ⟨RX10, "offers", "(I)I"⟩
abbrev cX10_wantOf : ByteArray := prog_12_method_91_code
def yX10_wantOf : MethodName := ⟨RX10, "wantOf", "(III)I"⟩
abbrev cX10_allGoods : ByteArray := prog_12_method_92_code
def yX10_allGoods : MethodName := ⟨RX10, "allGoods", "()I"⟩
abbrev cX10_want : ByteArray := prog_12_method_93_code
def yX10_want : MethodName := ⟨RX10, "want", "(I)I"⟩
abbrev cX10_fansOf : ByteArray := prog_12_method_94_code
def yX10_fansOf : MethodName := ⟨RX10, "fansOf", "(I)I"⟩
abbrev cX10_fans : ByteArray := prog_12_method_95_code
def yX10_fans : MethodName := ⟨RX10, "fans", "(I)I"⟩
abbrev cX10_dull : ByteArray := prog_12_method_96_code
def yX10_dull : MethodName := ⟨RX10, "dull", "()I"⟩
abbrev cX10_least : ByteArray := prog_12_method_97_code
def yX10_least : MethodName := ⟨RX10, "least", "()I"⟩
abbrev cX10_ownerIn : ByteArray := prog_12_method_98_code
def yX10_ownerIn : MethodName := ⟨RX10, "ownerIn", "(I)I"⟩
abbrev cX10_ringsNow : ByteArray := prog_12_method_99_code
def yX10_ringsNow : MethodName := ⟨RX10, "ringsNow", "()I"⟩
abbrev cX10_gets : ByteArray := prog_12_method_100_code
def yX10_gets : MethodName := ⟨RX10, "gets", "(I)I"⟩
abbrev cX10_rounds : ByteArray := prog_12_method_101_code
def yX10_rounds : MethodName := ⟨RX10, "rounds", "()I"⟩
abbrev cX10_givesFrom : ByteArray := prog_12_method_102_code
def yX10_givesFrom : MethodName := ⟨RX10, "givesFrom", "(IIII)V"⟩
abbrev cX10_givesOut : ByteArray := prog_12_method_103_code
def yX10_givesOut : MethodName := ⟨RX10, "givesOut", "(I)V"⟩
abbrev cX10_best : ByteArray := prog_12_method_104_code
def yX10_best : MethodName := ⟨RX10, "best", "(I)I"⟩
abbrev cX10_owes : ByteArray := prog_12_method_105_code
def yX10_owes : MethodName := ⟨RX10, "owes", "(I)I"⟩
abbrev cX10_spare : ByteArray := prog_12_method_106_code
def yX10_spare : MethodName := ⟨RX10, "spare", "()I"⟩
abbrev cX10_odds : ByteArray := prog_12_method_107_code
def yX10_odds : MethodName := ⟨RX10, "odds", "(II)I"⟩
abbrev cX10_enough : ByteArray := prog_12_method_108_code
def yX10_enough : MethodName := ⟨RX10, "enough", "(II)I"⟩
abbrev cX10_run : ByteArray := prog_12_method_109_code
def yX10_run : MethodName := ⟨RX10, "run", "(I)I"⟩
abbrev cX10_see : ByteArray := prog_12_method_110_code
def yX10_see : MethodName := ⟨RX10, "see", "(IIZ)Z"⟩
abbrev cX10_whoNow : ByteArray := prog_12_method_111_code
def yX10_whoNow : MethodName := ⟨RX10, "whoNow", "()I"⟩
abbrev cX10_who : ByteArray := prog_12_method_112_code
def yX10_who : MethodName := ⟨RX10, "who", "()I"⟩
abbrev cX10_ask : ByteArray := prog_12_method_113_code
def yX10_ask : MethodName := ⟨RX10, "ask", "()I"⟩
abbrev cX10_rich : ByteArray := prog_12_method_114_code
def yX10_rich : MethodName := ⟨RX10, "rich", "()I"⟩
abbrev cX10_sad : ByteArray := prog_12_method_115_code
def yX10_sad : MethodName := ⟨RX10, "sad", "()I"⟩
abbrev cX10_lack : ByteArray := prog_12_method_116_code
def yX10_lack : MethodName := ⟨RX10, "lack", "(I)I"⟩
abbrev cX10_debt : ByteArray := prog_12_method_117_code
def yX10_debt : MethodName := ⟨RX10, "debt", "()I"⟩
abbrev cX10_poor : ByteArray := prog_12_method_118_code
def yX10_poor : MethodName := ⟨RX10, "poor", "()I"⟩
abbrev cX10_getsBy : ByteArray := prog_12_method_119_code
def yX10_getsBy : MethodName := ⟨RX10, "getsBy", "(IIIII)I"⟩
abbrev cX10_rests : ByteArray := prog_12_method_120_code
def yX10_rests : MethodName := ⟨RX10, "rests", "(IIII)I"⟩
abbrev cX10_drawsDeed : ByteArray := prog_12_method_121_code
def yX10_drawsDeed : MethodName := ⟨RX10, "drawsDeed", "()V"⟩
abbrev cX10_luck : ByteArray := prog_12_method_122_code
def yX10_luck : MethodName := ⟨RX10, "luck", "(III)I"⟩
abbrev cX10_mark : ByteArray := prog_12_method_123_code
def yX10_mark : MethodName := ⟨RX10, "mark", "(IZ)Z"⟩
abbrev cX10_count : ByteArray := prog_12_method_124_code
def yX10_count : MethodName := ⟨RX10, "count", "(I)I"⟩
def RJ11 : String := "java/lang/Character"
def TJ11 : u_T := fun k => match k with
  | _ => ("", "", "", false)
def tyJ11 : Nat → FieldType := fun k => match k with
  | _ => .int
theorem nmJ11 : ∀ a, a < 0 → ∀ b, b < 0 → a ≠ b → (TJ11 a).2.1 ≠ (TJ11 b).2.1 := by decide +kernel
theorem tyJ11_ok : ∀ k, k < 0 → parseFieldDescriptor (TJ11 k).2.2.1 = some (tyJ11 k) := by decide +kernel
abbrev cJ11_isValidCodePoint_9a6ad : ByteArray := prog_15_method_11_code
def yJ11_isValidCodePoint_9a6ad : MethodName := ⟨RJ11, "isValidCodePoint", "(I)Z"⟩
abbrev cJ11_highSurrogate_5068e : ByteArray := prog_15_method_28_code
def yJ11_highSurrogate_5068e : MethodName := ⟨RJ11, "highSurrogate", "(I)C"⟩
abbrev cJ11_lowSurrogate_5068e : ByteArray := prog_15_method_29_code
def yJ11_lowSurrogate_5068e : MethodName := ⟨RJ11, "lowSurrogate", "(I)C"⟩
def RJ6 : String := "java/lang/Integer"
def TJ6 : u_T := fun k => match k with
  | _ => ("", "", "", false)
def tyJ6 : Nat → FieldType := fun k => match k with
  | _ => .int
theorem nmJ6 : ∀ a, a < 0 → ∀ b, b < 0 → a ≠ b → (TJ6 a).2.1 ≠ (TJ6 b).2.1 := by decide +kernel
theorem tyJ6_ok : ∀ k, k < 0 → parseFieldDescriptor (TJ6 k).2.2.1 = some (tyJ6 k) := by decide +kernel
abbrev cJ6_bitCount_0f7a4 : ByteArray := prog_19_method_49_code
def yJ6_bitCount_0f7a4 : MethodName := ⟨RJ6, "bitCount", "(I)I"⟩
def RJ9 : String := "java/lang/Math"
def TJ9 : u_T := fun k => match k with
  | _ => ("", "", "", false)
def tyJ9 : Nat → FieldType := fun k => match k with
  | _ => .int
theorem nmJ9 : ∀ a, a < 0 → ∀ b, b < 0 → a ≠ b → (TJ9 a).2.1 ≠ (TJ9 b).2.1 := by decide +kernel
theorem tyJ9_ok : ∀ k, k < 0 → parseFieldDescriptor (TJ9 k).2.2.1 = some (tyJ9 k) := by decide +kernel
abbrev cJ9_max_7cf53 : ByteArray := prog_20_method_65_code
def yJ9_max_7cf53 : MethodName := ⟨RJ9, "max", "(II)I"⟩
abbrev cJ9_min_7cf53 : ByteArray := prog_20_method_69_code
def yJ9_min_7cf53 : MethodName := ⟨RJ9, "min", "(II)I"⟩
def RJ0 : String := "java/lang/String"
def TJ0 : u_T := fun k => match k with
  | _ => ("", "", "", false)
def tyJ0 : Nat → FieldType := fun k => match k with
  | _ => .int
theorem nmJ0 : ∀ a, a < 0 → ∀ b, b < 0 → a ≠ b → (TJ0 a).2.1 ≠ (TJ0 b).2.1 := by decide +kernel
theorem tyJ0_ok : ∀ k, k < 0 → parseFieldDescriptor (TJ0 k).2.2.1 = some (tyJ0 k) := by decide +kernel
abbrev cJ0_length_8abf5 : ByteArray := prog_22_method_54_code
def yJ0_length_8abf5 : MethodName := ⟨RJ0, "length", "()I"⟩
abbrev cJ0_indexOf_0f7a4 : ByteArray := prog_22_method_79_code
def yJ0_indexOf_0f7a4 : MethodName := ⟨RJ0, "indexOf", "(I)I"⟩
abbrev cJ0_indexOf_7cf53 : ByteArray := prog_22_method_80_code
def yJ0_indexOf_7cf53 : MethodName := ⟨RJ0, "indexOf", "(II)I"⟩
abbrev cJ0_coder_7d493 : ByteArray := prog_22_method_152_code
def yJ0_coder_7d493 : MethodName := ⟨RJ0, "coder", "()B"⟩
abbrev cJ0_isLatin1_aae02 : ByteArray := prog_22_method_154_code
def yJ0_isLatin1_aae02 : MethodName := ⟨RJ0, "isLatin1", "()Z"⟩
abbrev cJ0_checkBoundsBeginEnd_23922 : ByteArray := prog_22_method_158_code
def yJ0_checkBoundsBeginEnd_23922 : MethodName := ⟨RJ0, "checkBoundsBeginEnd", "(III)V"⟩
def RJ1 : String := "java/lang/StringLatin1"
def TJ1 : u_T := fun k => match k with
  | _ => ("", "", "", false)
def tyJ1 : Nat → FieldType := fun k => match k with
  | _ => .int
theorem nmJ1 : ∀ a, a < 0 → ∀ b, b < 0 → a ≠ b → (TJ1 a).2.1 ≠ (TJ1 b).2.1 := by decide +kernel
theorem tyJ1_ok : ∀ k, k < 0 → parseFieldDescriptor (TJ1 k).2.2.1 = some (tyJ1 k) := by decide +kernel
abbrev cJ1_canEncode_9a6ad : ByteArray := prog_23_method_4_code
def yJ1_canEncode_9a6ad : MethodName := ⟨RJ1, "canEncode", "(I)Z"⟩
abbrev cJ1_indexOf_4cfef : ByteArray := prog_23_method_22_code
def yJ1_indexOf_4cfef : MethodName := ⟨RJ1, "indexOf", "([BIII)I"⟩
abbrev cJ1_indexOfChar_4cfef : ByteArray := prog_23_method_23_code
def yJ1_indexOfChar_4cfef : MethodName := ⟨RJ1, "indexOfChar", "([BIII)I"⟩
def RJ2 : String := "java/lang/StringUTF16"
def TJ2 : u_T := fun k => match k with
  | _ => ("", "", "", false)
def tyJ2 : Nat → FieldType := fun k => match k with
  | _ => .int
theorem nmJ2 : ∀ a, a < 0 → ∀ b, b < 0 → a ≠ b → (TJ2 a).2.1 ≠ (TJ2 b).2.1 := by decide +kernel
theorem tyJ2_ok : ∀ k, k < 0 → parseFieldDescriptor (TJ2 k).2.2.1 = some (tyJ2 k) := by decide +kernel
abbrev cJ2_getChar_3b067 : ByteArray := prog_24_method_5_code
def yJ2_getChar_3b067 : MethodName := ⟨RJ2, "getChar", "([BI)C"⟩
abbrev cJ2_length_9d52b : ByteArray := prog_24_method_6_code
def yJ2_length_9d52b : MethodName := ⟨RJ2, "length", "([B)I"⟩
abbrev cJ2_indexOf_4cfef : ByteArray := prog_24_method_40_code
def yJ2_indexOf_4cfef : MethodName := ⟨RJ2, "indexOf", "([BIII)I"⟩
abbrev cJ2_indexOfChar_4cfef : ByteArray := prog_24_method_47_code
def yJ2_indexOfChar_4cfef : MethodName := ⟨RJ2, "indexOfChar", "([BIII)I"⟩
abbrev cJ2_indexOfCharUnsafe_4cfef : ByteArray := prog_24_method_48_code
def yJ2_indexOfCharUnsafe_4cfef : MethodName := ⟨RJ2, "indexOfCharUnsafe", "([BIII)I"⟩
abbrev cJ2_indexOfSupplementary_4cfef : ByteArray := prog_24_method_49_code
def yJ2_indexOfSupplementary_4cfef : MethodName := ⟨RJ2, "indexOfSupplementary", "([BIII)I"⟩
abbrev cJ2_checkBoundsBeginEnd_d044e : ByteArray := prog_24_method_93_code
def yJ2_checkBoundsBeginEnd_d044e : MethodName := ⟨RJ2, "checkBoundsBeginEnd", "(II[B)V"⟩
def RJ3 : String := "jdk/internal/util/Preconditions"
def TJ3 : u_T := fun k => match k with
  | _ => ("", "", "", false)
def tyJ3 : Nat → FieldType := fun k => match k with
  | _ => .int
theorem nmJ3 : ∀ a, a < 0 → ∀ b, b < 0 → a ≠ b → (TJ3 a).2.1 ≠ (TJ3 b).2.1 := by decide +kernel
theorem tyJ3_ok : ∀ k, k < 0 → parseFieldDescriptor (TJ3 k).2.2.1 = some (tyJ3 k) := by decide +kernel
abbrev cJ3_checkFromToIndex_8c36e : ByteArray := prog_29_method_12_code
def yJ3_checkFromToIndex_8c36e : MethodName := ⟨RJ3, "checkFromToIndex", "(IIILjava/util/function/BiFunction;)I"⟩
def RL : String := "SoulRaffleLaw"
abbrev cL_rests : ByteArray := method_3_code
def yL_rests : MethodName := ⟨RL, "rests", "(LSoulRaffle;IIII[J)I"⟩
abbrev cL_law : ByteArray := code
def yL_law : MethodName := ⟨RL, "law", "([I)Z"⟩
abbrev vwCl : List vw_C := [(RX0, TX0, 4), (RX1, TX1, 4), (RX2, TX2, 14), (RX3, TX3, 4), (RX4, TX4, 4), (RX5, TX5, 5), (RX6, TX6, 11), (RX8, TX8, 4), (RX9, TX9, 16), (RX10, TX10, 33)]
end
section
/-! A small evaluator of straight stretches of code over a pool of cells with numbered places, and why it says what the machine does. -/
-- ===== the words that stay good in a call =====
def ab_W0 : List Cond := lw_tbl.filter goodWord
def ab_isNest : Cond → Bool
  | .fieldLinkNest _ _ _ _ _ _ => true
  | .methodLinkNest _ _ _ _ => true
  | _ => false
def ab_NW (U : State) : Prop := ∀ w ∈ lw_tbl, ab_isNest w = true → va_Nw w U
-- ===== values, tags, states =====
abbrev ab_T : Type := Nat ⊕ (Nat × Nat)
abbrev ab_V : Type := Int32 ⊕ (Int64 ⊕ (ab_T × Nat))
abbrev vI (x : Int32) : ab_V := .inl x
abbrev vL (x : Int64) : ab_V := .inr (.inl x)
abbrev vR (t : ab_T) (a : Nat) : ab_V := .inr (.inr (t, a))
abbrev kO (c : Nat) : ab_T := .inl c
abbrev kA (e n : Nat) : ab_T := .inr (e, n)
abbrev ab_S : Type := (Nat → Nat → Int32) × ((Nat → Nat → Int64) × (Nat → Nat))
def sI (u : ab_S) (a k : Nat) (v : Int32) : ab_S := (fun b j => if b = a ∧ j = k then v else u.1 b j, u.2)
def sJ (u : ab_S) (a k : Nat) (v : Int64) : ab_S := (u.1, fun b j => if b = a ∧ j = k then v else u.2.1 b j, u.2.2)
def sM (u : ab_S) (k : Nat) (v : Nat) : ab_S := (u.1, u.2.1, fun j => if j = k then v else u.2.2 j)
-- class numbers, array class numbers, addresses, addresses of what is never written
abbrev ab_E : Type := (Nat → ClassId) × ((Nat → Nat → Nat) × ((Nat → ClassId) × ((Nat → Nat) × (Nat → Nat → Nat))))
def ab_ro (E : ab_E) : Nat → Nat := E.2.2.2.1
def ab_sa (E : ab_E) : Nat → Nat → Nat := E.2.2.2.2
def ab_cA (E : ab_E) : Nat → ClassId := E.2.2.1
def ab_re (E : ab_E) : ab_T → Nat → Nat
  | .inl c, a => if c < 20 then ab_ro E a else ab_sa E c a
  | .inr (e, _), a => if e < 6 then ab_ro E a else ab_sa E (100 + e) a
def ab_vm (E : ab_E) : ab_V → Value
  | .inl x => .int x
  | .inr (.inl x) => .long x
  | .inr (.inr (t, a)) => .ref (ab_re E t a)
-- ===== the two pools: the tags by the places; fields by tag and number =====
def ab_tSt : List ab_T := [kO 5, kA 0 8, kA 0 6, kA 0 6]
def ab_tSe : List ab_T := [kO 4, kA 0 8, kA 0 8, kA 3 8]
def ab_tOf : List ab_T := [kO 2, kA 1 6, kA 1 8, kA 0 6, kA 0 6, kA 0 8, kA 0 8, kA 0 48, kO 1, kA 0 1000, kA 0 32, kA 0 384]
def ab_tYe : List ab_T := [kO 7, kA 0 40, kA 0 40, kA 0 40]
def ab_sh0 : List ab_T := [kO 8, kO 6, kA 2 1000, kA 0 1001, kA 0 1001, kA 1 1001] ++ ab_tOf ++ ab_tOf ++ ab_tYe ++ ab_tYe ++ ab_tSt ++ ab_tSt ++ ab_tSe ++ [kA 4 16] ++ (List.replicate 16 ab_tSt).flatten ++ [kA 4 4] ++ (List.replicate 4 ab_tSt).flatten ++ [kA 5 4] ++ (List.replicate 4 ab_tSe).flatten ++ [kA 3 4, kO 3, kA 0 6, kA 0 6, kA 0 6, kO 0, kA 0 6, kA 0 1792]
def ab_sh1 : List ab_T := [kO 9, kA 0 1000, kA 0 1002, kA 0 1002, kA 1 1002, kA 1 23, kA 0 180, kA 0 2200, kA 0 2200, kA 1 14, kA 1 14, kA 0 14, kA 0 14, kA 0 250, kA 0 4, kA 0 1100, kA 0 1081, kA 3 4, kA 0 6, kA 0 6, kA 0 6, kA 0 6, kA 0 6]
def ab_sh (sy : Nat) : List ab_T := if sy = 0 then ab_sh0 else ab_sh1
-- a field: what it is (0 int, 1 long, 2 a fixed cell so much behind, 3 a changing reference by its number, 4 boolean), its tag, that number
def ab_f0 : List (List (Nat × (ab_T × Nat))) := [
  [(4, kO 0, 0), (0, kO 0, 0), (2, kA 0 6, 1), (2, kA 0 1792, 2)],
  [(2, kA 0 1000, 1), (0, kO 0, 0), (2, kA 0 32, 2), (0, kO 0, 0)],
  [(0, kO 0, 0), (0, kO 0, 0), (2, kA 1 6, 1), (2, kA 1 8, 2), (2, kA 0 6, 3), (2, kA 0 6, 4), (2, kA 0 8, 5), (2, kA 0 8, 6), (2, kA 0 48, 7), (0, kO 0, 0), (4, kO 0, 0), (4, kO 0, 0), (2, kO 1, 8), (2, kA 0 384, 11)],
  [(2, kA 0 6, 1), (2, kA 0 6, 2), (2, kA 0 6, 3), (0, kO 0, 0)],
  [(2, kA 0 8, 1), (2, kA 0 8, 2), (2, kA 3 8, 3), (0, kO 0, 0)],
  [(2, kA 0 8, 1), (2, kA 0 6, 2), (2, kA 0 6, 3), (1, kO 0, 0), (0, kO 0, 0)],
  [(2, kA 2 1000, 1), (0, kO 0, 0), (2, kA 0 1001, 2), (2, kA 0 1001, 3), (2, kA 1 1001, 4), (0, kO 0, 0), (0, kO 0, 0), (0, kO 0, 0), (0, kO 0, 0), (1, kO 0, 0), (0, kO 0, 0)],
  [(0, kO 0, 0), (2, kA 0 40, 1), (2, kA 0 40, 2), (2, kA 0 40, 3)],
  [(2, kO 6, 1), (3, kO 2, 0), (3, kO 2, 1), (3, kO 7, 2), (3, kO 7, 3), (2, kO 5, 38), (2, kO 5, 42), (2, kO 4, 46), (2, kA 4 16, 50), (0, kO 0, 0), (0, kO 0, 0), (2, kA 4 4, 115), (2, kA 5 4, 132), (2, kA 3 4, 149), (2, kO 3, 150), (2, kO 0, 154)],
  [(0, kO 0, 0), (2, kA 0 1000, 1), (0, kO 0, 0), (0, kO 0, 0), (2, kA 0 1002, 2), (2, kA 0 1002, 3), (2, kA 1 1002, 4), (0, kO 0, 0), (0, kO 0, 0), (2, kA 1 23, 5), (2, kA 0 180, 6), (2, kA 0 2200, 7), (2, kA 0 2200, 8), (0, kO 0, 0), (2, kA 1 14, 9), (2, kA 1 14, 10), (2, kA 0 14, 11), (2, kA 0 14, 12), (0, kO 0, 0), (0, kO 0, 0), (0, kO 0, 0), (2, kA 0 250, 13), (2, kA 0 4, 14), (2, kA 0 1100, 15), (2, kA 0 1081, 16), (0, kO 0, 0), (2, kA 3 4, 17), (2, kA 0 6, 18), (2, kA 0 6, 19), (2, kA 0 6, 20), (2, kA 0 6, 21), (2, kA 0 6, 22), (0, kO 0, 0)]]
def ab_fs (c : Nat) : List (Nat × (ab_T × Nat)) := ab_f0.getD c []
def ab_fk (c k : Nat) : Nat × (ab_T × Nat) := (ab_fs c).getD k (9, kO 0, 0)
def ab_fv (E : ab_E) (u : ab_S) (a : Nat) (q : Nat × (ab_T × Nat)) (k : Nat) : Value := match q.1 with
  | 1 => .long (u.2.1 a k)
  | 2 => .ref (ab_ro E (a + q.2.2))
  | 3 => .ref (ab_ro E (u.2.2 q.2.2))
  | _ => .int (u.1 a k)
def ab_cell (E : ab_E) (u : ab_S) (a : Nat) : ab_T → va_E
  | .inl c => .inr (c, (List.range (ab_fs c).length).map fun k => ab_fv E u a (ab_fk c k) k)
  | .inr (e, n) => .inl (ab_cA E e, (n, match e with
      | 1 => .inr (.inl (u.2.1 a))
      | 4 => .inr (.inr (.inr (.inr (fun j => some (ab_ro E (a + 1 + 4 * j))))))
      | 5 => .inr (.inr (.inr (.inr (fun j => some (ab_ro E (a + 1 + 4 * j))))))
      | _ => .inl (u.1 a)))
def ab_wd (E : ab_E) (sy : Nat) (u : ab_S) : va_W := (List.range (ab_sh sy).length).map fun a => (ab_ro E a, ab_cell E u a ((ab_sh sy).getD a (kO 99)))
def ab_WT (sy : Nat) (u : ab_S) : Prop := ∀ j, j < 4 → sy = 0 → ab_sh0[u.2.2 j]? = some (if j < 2 then kO 2 else kO 7)
-- how many of the things that are never written
def ab_sn (c : Nat) : Nat := if c = 20 then 23 else 1
def ab_ia (sy : Nat) : ab_T → Nat → Prop
  | .inl c, a => if c < 20 then (ab_sh sy)[a]? = some (.inl c) else a < ab_sn c
  | .inr (e, n), a => if e < 6 then (ab_sh sy)[a]? = some (.inr (e, n)) else (a < 1 ∧ e < 8 ∧ n = (if e = 6 then 23 else 8))
def ab_ok (sy : Nat) : ab_V → Prop
  | .inr (.inr (t, a)) => ab_ia sy t a
  | _ => True
def ab_el : Nat → FieldType
  | 0 => .int
  | 1 => .long
  | 2 => .char
  | 3 => .boolean
  | 4 => .object "SoulRaffle$Standing"
  | 5 => .object "SoulRaffle$Seen"
  | _ => .int
def ab_ty (E : ab_E) : List (ClassId × FieldType) := (List.range 6).map fun e => (ab_cA E e, ab_el e)
theorem ab_ty_at (E : ab_E) {e : Nat} (h : e < 6) : (ab_ty E)[e]? = some (ab_cA E e, ab_el e) := by
  unfold ab_ty
  rw [List.getElem?_map, List.getElem?_range h]
  rfl
theorem ab_wd_at (E : ab_E) {sy a : Nat} {u : ab_S} {t : ab_T} (h : (ab_sh sy)[a]? = some t) : (ab_wd E sy u)[a]? = some (ab_ro E a, ab_cell E u a t) := by
  have hl : a < (ab_sh sy).length := (List.getElem?_eq_some_iff.mp h).1
  unfold ab_wd
  rw [List.getElem?_map, List.getElem?_range hl]
  simp [List.getD_eq_getElem?_getD, h]
theorem ab_wd_set (E : ab_E) {sy a : Nat} {u u' : ab_S} {t : ab_T} {x : va_E} (h : (ab_sh sy)[a]? = some t) (hx : x = ab_cell E u' a t) (ho : ∀ b s, b ≠ a → (ab_sh sy)[b]? = some s → ab_cell E u' b s = ab_cell E u b s) : (ab_wd E sy u).set a (ab_ro E a, x) = ab_wd E sy u' := by
  have hl : a < (ab_sh sy).length := (List.getElem?_eq_some_iff.mp h).1
  apply List.ext_getElem?
  intro i
  by_cases hi : i < (ab_sh sy).length
  · obtain ⟨s, hs⟩ : ∃ s, (ab_sh sy)[i]? = some s := ⟨_, List.getElem?_eq_getElem hi⟩
    rw [ab_wd_at E hs]
    by_cases e : i = a
    · subst e
      rw [List.getElem?_set_self (by unfold ab_wd; simpa using hl), hx]
      cases h.symm.trans hs
      rfl
    · rw [List.getElem?_set_ne (Ne.symm e), ab_wd_at E hs, ho i s e hs]
  · rw [List.getElem?_eq_none (by simp [ab_wd]; omega), List.getElem?_eq_none (by simp [ab_wd]; omega)]
-- ===== what a store does to the pool =====
theorem ab_cell_sI (E : ab_E) {u : ab_S} {a b k : Nat} {v : Int32} {s : ab_T} (h : b ≠ a) : ab_cell E (sI u a k v) b s = ab_cell E u b s := by
  have e1 : (sI u a k v).1 b = u.1 b := by funext j; simp [sI, h]
  have e2 : (sI u a k v).2 = u.2 := rfl
  cases s with
  | inl c => simp only [ab_cell, ab_fv, e1, e2]
  | inr p => simp only [ab_cell, e1, e2]
theorem ab_cell_sJ (E : ab_E) {u : ab_S} {a b k : Nat} {v : Int64} {s : ab_T} (h : b ≠ a) : ab_cell E (sJ u a k v) b s = ab_cell E u b s := by
  have e1 : (sJ u a k v).2.1 b = u.2.1 b := by funext j; simp [sJ, h]
  have e2 : (sJ u a k v).1 = u.1 := rfl
  have e3 : (sJ u a k v).2.2 = u.2.2 := rfl
  cases s with
  | inl c => simp only [ab_cell, ab_fv, e1, e2, e3]
  | inr p => simp only [ab_cell, e1, e2, e3]
theorem ab_fs_none {c : Nat} (h : 10 ≤ c) : ab_fs c = [] := by
  unfold ab_fs
  rw [List.getD_eq_getElem?_getD, List.getElem?_eq_none (show ab_f0.length ≤ c from h)]
  rfl
theorem ab_fk_none {c k : Nat} (h : (ab_fs c).length ≤ k) : ab_fk c k = (9, kO 0, 0) := by
  unfold ab_fk
  rw [List.getD_eq_getElem?_getD, List.getElem?_eq_none h]
  rfl
theorem ab_no3 : ∀ c, c < 10 → c ≠ 8 → ∀ k, k < (ab_fs c).length → (ab_fk c k).1 ≠ 3 := by decide +kernel
theorem ab_cell_sM (E : ab_E) {u : ab_S} {b j : Nat} {v : Nat} {s : ab_T} (h : s ≠ kO 8) : ab_cell E (sM u j v) b s = ab_cell E u b s := by
  have e1 : (sM u j v).2.1 = u.2.1 := rfl
  have e2 : (sM u j v).1 = u.1 := rfl
  cases s with
  | inl c =>
    simp only [ab_cell, e1, e2]
    congr 2
    apply List.map_congr_left
    intro k hk
    have hk2 : k < (ab_fs c).length := List.mem_range.mp hk
    have h3 : (ab_fk c k).1 ≠ 3 := by
      have hc : c ≠ 8 := fun q => h (by rw [q])
      by_cases h10 : c < 10
      · exact ab_no3 c h10 hc k hk2
      · rw [ab_fs_none (Nat.not_lt.mp h10)] at hk2
        cases hk2
    simp only [ab_fv, e1, e2]
    split
    · rfl
    · rfl
    · exact absurd (by assumption) h3
    · rfl
  | inr p => simp only [ab_cell, e1, e2]
theorem ab_map_set {β : Type} (f : Nat → β) (n k : Nat) (v : β) : ((List.range n).map f).set k v = (List.range n).map (fun j => if j = k then v else f j) := by
  apply List.ext_getElem?
  intro i
  by_cases hi : i < n
  · by_cases e : i = k
    · subst e
      rw [List.getElem?_set_self (by simpa using hi), List.getElem?_map, List.getElem?_range hi]
      simp
    · rw [List.getElem?_set_ne (Ne.symm e), List.getElem?_map, List.getElem?_map, List.getElem?_range hi]
      simp [e]
  · rw [List.getElem?_eq_none (by simp; omega), List.getElem?_eq_none (by simp; omega)]
theorem ab_obj_sI (E : ab_E) {u : ab_S} {a c k : Nat} {v : Int32} (h : (ab_fk c k).1 = 0 ∨ (ab_fk c k).1 = 4) : ab_cell E (sI u a k v) a (.inl c) = .inr (c, ((List.range (ab_fs c).length).map fun j => ab_fv E u a (ab_fk c j) j).set k (.int v)) := by
  rw [ab_map_set]
  simp only [ab_cell]
  congr 2
  apply List.map_congr_left
  intro j _
  by_cases e : j = k
  · subst e
    rw [if_pos rfl]
    rcases h with h | h <;> simp [ab_fv, h, sI]
  · rw [if_neg e]
    have e1 : (sI u a k v).1 a j = u.1 a j := by simp [sI, e]
    have e2 : (sI u a k v).2 = u.2 := rfl
    simp only [ab_fv, e1, e2]
theorem ab_obj_sJ (E : ab_E) {u : ab_S} {a c k : Nat} {v : Int64} (h : (ab_fk c k).1 = 1) : ab_cell E (sJ u a k v) a (.inl c) = .inr (c, ((List.range (ab_fs c).length).map fun j => ab_fv E u a (ab_fk c j) j).set k (.long v)) := by
  rw [ab_map_set]
  simp only [ab_cell]
  congr 2
  apply List.map_congr_left
  intro j _
  by_cases e : j = k
  · subst e
    rw [if_pos rfl]
    simp [ab_fv, h, sJ]
  · rw [if_neg e]
    have e1 : (sJ u a k v).2.1 a j = u.2.1 a j := by simp [sJ, e]
    have e2 : (sJ u a k v).1 = u.1 := rfl
    have e3 : (sJ u a k v).2.2 = u.2.2 := rfl
    simp only [ab_fv, e1, e2, e3]
theorem ab_obj_sM (E : ab_E) {u : ab_S} {a k : Nat} {v : Nat} (hk : 1 ≤ k ∧ k < 5) : ab_cell E (sM u (k - 1) v) a (kO 8) = .inr (8, ((List.range (ab_fs 8).length).map fun j => ab_fv E u a (ab_fk 8 j) j).set k (.ref (ab_ro E v))) := by
  rw [ab_map_set]
  simp only [ab_cell]
  congr 2
  apply List.map_congr_left
  intro j hj
  have hj2 : j < 16 := List.mem_range.mp hj
  have key : ∀ j, j < 16 → decide ((ab_fk 8 j).1 = 3) = decide (1 ≤ j ∧ j < 5) ∧ (1 ≤ j ∧ j < 5 → (ab_fk 8 j).2.2 = j - 1) := by decide +kernel
  obtain ⟨q0, q2⟩ := key j hj2
  have q1 : (ab_fk 8 j).1 = 3 ↔ 1 ≤ j ∧ j < 5 := by rwa [decide_eq_decide] at q0
  by_cases e : j = k
  · subst e
    rw [if_pos rfl]
    have h3 := q1.mpr hk
    simp only [ab_fv, h3, q2 hk]
    simp [sM]
  · rw [if_neg e]
    have e1 : (sM u (k - 1) v).1 = u.1 := rfl
    have e2 : (sM u (k - 1) v).2.1 = u.2.1 := rfl
    simp only [ab_fv, e1, e2]
    split
    · rfl
    · rfl
    · rename_i h3
      have h4 := q1.mp h3
      have h5 : ¬ (ab_fk 8 j).2.2 = k - 1 := by rw [q2 h4]; omega
      simp [sM, h5]
    · rfl
theorem ab_arr_sI (E : ab_E) {u : ab_S} {a e n k : Nat} {v : Int32} (h : e = 0 ∨ e = 2 ∨ e = 3) : ab_cell E (sI u a k v) a (.inr (e, n)) = .inl (ab_cA E e, (n, .inl (upd (u.1 a) k v))) := by
  have e1 : (sI u a k v).1 a = upd (u.1 a) k v := by funext j; simp [sI, upd]
  rcases h with rfl | rfl | rfl <;> simp only [ab_cell, e1]
theorem ab_arr_sJ (E : ab_E) {u : ab_S} {a n k : Nat} {v : Int64} : ab_cell E (sJ u a k v) a (.inr (1, n)) = .inl (ab_cA E 1, (n, .inr (.inl (vp_updL (u.2.1 a) k v)))) := by
  have e1 : (sJ u a k v).2.1 a = vp_updL (u.2.1 a) k v := by funext j; simp [sJ, vp_updL]
  simp only [ab_cell, e1]
-- ===== where things lie =====
def ab_layB (sy a : Nat) : Bool := match (ab_sh sy)[a]? with
  | some (Sum.inl c) => decide (c < 10) && (decide (c ≠ 8) || (sy == 0 && a == 0)) && (List.range (ab_fs c).length).all (fun k => (ab_fk c k).1 != 2 || (decide ((ab_sh sy)[a + (ab_fk c k).2.2]? = some (ab_fk c k).2.1)))
  | some (Sum.inr (e, n)) => decide (e < 6) && (decide (e < 4) || (List.range n).all (fun j => decide ((ab_sh sy)[a + 1 + 4 * j]? = some (if e = 4 then kO 5 else kO 4))))
  | none => true
theorem ab_lay0 : (List.range 2).all (fun sy => (List.range (ab_sh sy).length).all (fun a => ab_layB sy a)) = true := by decide +kernel
theorem ab_lay1 {sy a : Nat} (hs : sy < 2) (ha : a < (ab_sh sy).length) : ab_layB sy a = true := List.all_eq_true.mp (List.all_eq_true.mp ab_lay0 sy (List.mem_range.mpr hs)) a (List.mem_range.mpr ha)
theorem ab_lay {sy a c k : Nat} (hs : sy < 2) (h : (ab_sh sy)[a]? = some (kO c)) : c < 10 ∧ (c = 8 → sy = 0 ∧ a = 0) ∧ ((ab_fk c k).1 = 2 → (ab_sh sy)[a + (ab_fk c k).2.2]? = some (ab_fk c k).2.1) := by
  have h1 := ab_lay1 hs (List.getElem?_eq_some_iff.mp h).1
  unfold ab_layB at h1
  rw [h] at h1
  simp only [Bool.and_eq_true, Bool.or_eq_true, decide_eq_true_eq, List.all_eq_true, List.mem_range, beq_iff_eq, bne_iff_ne, ne_eq] at h1
  refine ⟨h1.1.1, fun h8 => h1.1.2.resolve_left (fun q => q h8), fun h2 => ?_⟩
  by_cases hk : k < (ab_fs c).length
  · exact (h1.2 k hk).resolve_left (fun q => q h2)
  · rw [ab_fk_none (Nat.not_lt.mp hk)] at h2
    cases h2
theorem ab_layA {sy a e n : Nat} (hs : sy < 2) (h : (ab_sh sy)[a]? = some (kA e n)) : e < 6 ∧ (4 ≤ e → ∀ j, j < n → (ab_sh sy)[a + 1 + 4 * j]? = some (if e = 4 then kO 5 else kO 4)) := by
  have h1 := ab_lay1 hs (List.getElem?_eq_some_iff.mp h).1
  unfold ab_layB at h1
  rw [h] at h1
  simp only [Bool.and_eq_true, Bool.or_eq_true, decide_eq_true_eq, List.all_eq_true, List.mem_range] at h1
  exact ⟨h1.1, fun h4 => h1.2.resolve_left (by omega)⟩
end
section
/-! what the entries of the constant pools mean, by the owner and the entry -/
def ab_cn : Nat → String
  | 0 => "SoulRaffle$Gifts"
  | 1 => "SoulRaffle$Law"
  | 2 => "SoulRaffle$Office"
  | 3 => "SoulRaffle$Rings"
  | 4 => "SoulRaffle$Seen"
  | 5 => "SoulRaffle$Standing"
  | 6 => "SoulRaffle$Tokens"
  | 7 => "SoulRaffle$Year"
  | 8 => "SoulRaffle"
  | 9 => "SoulRaffleModel"
  | 10 => "SoulRaffleLaw"
  | 11 => "java/lang/Integer"
  | 12 => "java/lang/Math"
  | 13 => "java/lang/String"
  | 14 => "java/lang/StringLatin1"
  | _ => ""
def ab_TT : Nat → u_T
  | 0 => TX0
  | 1 => TX1
  | 2 => TX2
  | 3 => TX3
  | 4 => TX4
  | 5 => TX5
  | 6 => TX6
  | 7 => TX8
  | 8 => TX9
  | 9 => TX10
  | _ => fun _ => ("", "", "", false)
def ab_tt : Nat → Nat → FieldType
  | 0 => tyX0
  | 1 => tyX1
  | 2 => tyX2
  | 3 => tyX3
  | 4 => tyX4
  | 5 => tyX5
  | 6 => tyX6
  | 7 => tyX8
  | 8 => tyX9
  | 9 => tyX10
  | _ => fun _ => .int
def ab_wn : List String := ["PERSON", "COINS", "GOOD", "WORTH", "OF", "LIKES", "SEED", "FITS", "QUARTER", "BUY", "SWAP", "BRING", "PLAIN", "PROUD", "MEEK", "MATE", "NOT", "AND", "OR", "PRICE", "MINE", "LIKE", "OTHERS"]
def ab_wl : List Int64 := [232608281, 1896526, 149125, 12532058, 411, 6562612, 377761, 125218, 6888375828, 2050, 390787, 1424122, 8740238, 8868856, 259670, 257153, 10631, 1111, 423, 8863997, 262823, 243059, 226024039]
def ab_wr : List Int32 := [1, 1, 1, 1, 1, 1, 1, 1, 1, 1, 1, 1, 1, 1, 1, 1, 1, 1, 1, 0, 0, 0, 0]
abbrev ab_K : Type := Nat × (Nat × (Nat × Int))
def ab_lk0 : List (Nat × ab_K) := [(9, (0, 0, 2, 0)), (15, (0, 0, 3, 0)), (18, (0, 0, 0, 0)), (26, (0, 0, 1, 0)), (30, (1, 2, 0, 0)), (47, (1, 2, 1, 0))]
def ab_lk1 : List (Nat × ab_K) := [(9, (0, 1, 0, 0)), (15, (0, 1, 2, 0)), (18, (0, 1, 1, 0)), (43, (4, 17, 0, 0)), (53, (4, 18, 0, 0)), (60, (1, 6, 7, 0)), (63, (4, 16, 0, 0)), (74, (1, 6, 9, 0)), (84, (4, 19, 0, 0)), (87, (4, 20, 0, 0)), (90, (4, 21, 0, 0)), (93, (4, 22, 0, 0)), (96, (0, 1, 3, 0))]
def ab_lk2 : List (Nat × ab_K) := [(9, (0, 2, 2, 0)), (15, (0, 2, 3, 0)), (18, (0, 2, 4, 0)), (22, (0, 2, 5, 0)), (25, (0, 2, 6, 0)), (28, (0, 2, 7, 0)), (31, (0, 2, 8, 0)), (37, (0, 2, 12, 0)), (41, (0, 2, 13, 0)), (47, (1, 6, 7, 0)), (57, (1, 6, 10, 0)), (63, (0, 2, 0, 0)), (66, (0, 2, 1, 0)), (69, (0, 2, 9, 0)), (72, (0, 2, 10, 0)), (76, (0, 2, 11, 0)), (82, (4, 0, 0, 0)), (95, (4, 2, 0, 0)), (101, (4, 5, 0, 0)), (107, (4, 6, 0, 0)), (113, (4, 7, 0, 0)), (129, (1, 6, 9, 0)), (137, (4, 1, 0, 0)), (159, (4, 3, 0, 0)), (162, (4, 4, 0, 0)), (179, (4, 12, 0, 0)), (182, (4, 13, 0, 0)), (185, (4, 14, 0, 0)), (188, (4, 15, 0, 0)), (194, (1, 1, 1, 0))]
def ab_lk3 : List (Nat × ab_K) := [(9, (0, 3, 0, 0)), (15, (0, 3, 1, 0)), (18, (0, 3, 2, 0)), (21, (0, 3, 3, 0)), (29, (1, 2, 0, 0))]
def ab_lk4 : List (Nat × ab_K) := [(9, (0, 4, 0, 0)), (15, (0, 4, 1, 0)), (18, (0, 4, 2, 0)), (22, (0, 4, 3, 0)), (34, (1, 2, 0, 0))]
def ab_lk5 : List (Nat × ab_K) := [(9, (0, 5, 0, 0)), (15, (0, 5, 1, 0)), (18, (0, 5, 2, 0)), (25, (1, 2, 0, 0)), (31, (1, 2, 5, 0)), (38, (1, 2, 9, 0)), (41, (0, 5, 3, 0)), (45, (0, 5, 4, 0)), (64, (1, 2, 1, 0)), (104, (3, 0, 0, 1103515245)), (106, (3, 0, 0, 12345)), (108, (3, 0, 0, 2147483648)), (110, (3, 0, 0, 65536))]
def ab_lk6 : List (Nat × ab_K) := [(9, (0, 6, 0, 0)), (15, (0, 6, 2, 0)), (19, (0, 6, 3, 0)), (22, (0, 6, 4, 0)), (26, (3, 0, 0, 255)), (28, (0, 6, 1, 0)), (32, (0, 6, 5, 0)), (35, (0, 6, 10, 0)), (56, (0, 6, 6, 0)), (75, (7, 0, 0, 0)), (86, (3, 0, 0, 10)), (88, (0, 6, 7, 0)), (91, (0, 6, 8, 0)), (94, (0, 6, 9, 0)), (98, (6, 0, 0, 0)), (103, (11, 0, 0, 0)), (107, (6, 1, 0, 0))]
def ab_lk7 : List (Nat × ab_K) := [(9, (0, 7, 1, 0)), (15, (0, 7, 2, 0)), (18, (0, 7, 3, 0)), (21, (0, 7, 0, 0)), (25, (1, 6, 7, 0)), (34, (1, 6, 10, 0)), (60, (4, 8, 0, 0)), (70, (4, 9, 0, 0)), (73, (4, 10, 0, 0)), (76, (4, 11, 0, 0)), (79, (1, 2, 2, 0)), (85, (1, 2, 0, 0)), (92, (1, 2, 3, 0)), (95, (1, 2, 1, 0)), (101, (1, 6, 9, 0))]
def ab_lk8 : List (Nat × ab_K) := [(10, (0, 8, 0, 0)), (19, (0, 8, 1, 0)), (23, (0, 8, 2, 0)), (29, (0, 8, 3, 0)), (33, (0, 8, 4, 0)), (39, (0, 8, 5, 0)), (43, (0, 8, 6, 0)), (49, (0, 8, 7, 0)), (53, (0, 8, 8, 0)), (57, (0, 8, 11, 0)), (60, (0, 8, 12, 0)), (64, (0, 8, 13, 0)), (71, (0, 8, 14, 0)), (78, (0, 8, 15, 0)), (86, (1, 6, 1, 0)), (104, (1, 7, 0, 0)), (107, (1, 4, 3, 0)), (110, (0, 8, 10, 0)), (113, (1, 0, 0, 0)), (178, (0, 8, 9, 0)), (213, (1, 2, 1, 0)), (216, (1, 2, 0, 0)), (239, (1, 3, 3, 0)), (245, (1, 0, 1, 0)), (261, (3, 0, 0, 1000000)), (263, (3, 0, 0, 500000)), (295, (1, 5, 3, 0)), (308, (1, 5, 4, 0)), (314, (3, 0, 0, 27))]
def ab_lk9 : List (Nat × ab_K) := [(1, (0, 9, 0, 0)), (11, (0, 9, 2, 0)), (14, (0, 9, 1, 0)), (24, (0, 9, 4, 0)), (27, (0, 9, 5, 0)), (30, (0, 9, 6, 0)), (34, (3, 0, 0, 1119812451)), (36, (3, 0, 0, 6395136)), (38, (3, 0, 0, 375665)), (40, (3, 0, 0, 43890888)), (42, (3, 0, 0, 561)), (44, (3, 0, 0, 22961072)), (46, (3, 0, 0, 969441)), (48, (3, 0, 0, 316998)), (50, (3, 0, 0, 45076385548)), (52, (3, 0, 0, 3540)), (54, (3, 0, 0, 993947)), (56, (3, 0, 0, 4672922)), (58, (3, 0, 0, 30596128)), (60, (3, 0, 0, 30919646)), (62, (3, 0, 0, 665530)), (64, (3, 0, 0, 660603)), (66, (3, 0, 0, 19741)), (68, (3, 0, 0, 1891)), (70, (3, 0, 0, 573)), (72, (3, 0, 0, 30910767)), (74, (3, 0, 0, 671333)), (76, (3, 0, 0, 620569)), (78, (3, 0, 0, 1078055329)), (80, (0, 9, 9, 0)), (83, (0, 9, 10, 0)), (86, (0, 9, 11, 0)), (89, (0, 9, 12, 0)), (92, (0, 9, 14, 0)), (95, (0, 9, 15, 0)), (98, (0, 9, 16, 0)), (101, (0, 9, 17, 0)), (104, (0, 9, 21, 0)), (107, (0, 9, 22, 0)), (110, (0, 9, 23, 0)), (113, (0, 9, 24, 0)), (116, (0, 9, 26, 0)), (120, (0, 9, 27, 0)), (123, (0, 9, 28, 0)), (126, (0, 9, 29, 0)), (129, (0, 9, 30, 0)), (132, (0, 9, 31, 0)), (146, (0, 9, 3, 0)), (149, (3, 0, 0, 37)), (158, (3, 0, 0, 10)), (160, (3, 0, 0, 48)), (165, (0, 9, 7, 0)), (168, (0, 9, 8, 0)), (193, (0, 9, 19, 0)), (196, (0, 9, 18, 0)), (214, (0, 9, 13, 0)), (217, (0, 9, 20, 0)), (285, (0, 9, 25, 0)), (319, (3, 0, 0, 1103515245)), (321, (3, 0, 0, 12345)), (323, (3, 0, 0, 2147483648)), (325, (3, 0, 0, 65536)), (388, (0, 9, 32, 0)), (398, (3, 0, 0, 1000000)), (400, (3, 0, 0, 500000))]
def ab_lk10 : List (Nat × ab_K) := [(19, (3, 0, 0, 4294967295))]
def ab_lk11 : List (Nat × ab_K) := [(265, (2, 0, 0, 1431655765)), (266, (2, 0, 0, 858993459)), (267, (2, 0, 0, 252645135))]
def ab_lk12 : List (Nat × ab_K) := []
def ab_lk13 : List (Nat × ab_K) := [(9, (8, 0, 0, 0)), (15, (9, 0, 0, 0)), (38, (10, 0, 0, 0))]
def ab_lk14 : List (Nat × ab_K) := []
def ab_lks : Nat → List (Nat × ab_K)
  | 0 => ab_lk0
  | 1 => ab_lk1
  | 2 => ab_lk2
  | 3 => ab_lk3
  | 4 => ab_lk4
  | 5 => ab_lk5
  | 6 => ab_lk6
  | 7 => ab_lk7
  | 8 => ab_lk8
  | 9 => ab_lk9
  | 10 => ab_lk10
  | 11 => ab_lk11
  | 12 => ab_lk12
  | 13 => ab_lk13
  | 14 => ab_lk14
  | _ => []
def ab_lk (own idx : Nat) : ab_K := ((ab_lks own).lookup idx).getD (99, 0, 0, 0)
def ab_lkw (own idx : Nat) (q : ab_K) : Cond := match q.1 with
  | 0 => .fieldLink (ab_cn own) idx (ab_cn q.2.1) (ab_TT q.2.1 q.2.2.1).2.1 (ab_TT q.2.1 q.2.2.1).2.2.1
  | 1 => .fieldLinkNest (ab_cn own) idx (ab_cn q.2.1) (ab_TT q.2.1 q.2.2.1).2.1 (ab_TT q.2.1 q.2.2.1).2.2.1 "SoulRaffle"
  | 2 => .constant (ab_cn own) idx (Int32.ofInt q.2.2.2)
  | 3 => .constantLong (ab_cn own) idx (Int64.ofInt q.2.2.2)
  | 4 => .fieldLink (ab_cn own) idx "SoulRaffle$Word" (ab_wn.getD q.2.1 "") "LSoulRaffle$Word;"
  | 5 => .fieldLink (ab_cn own) idx "SoulRaffle" "WORDS" "[LSoulRaffle$Word;"
  | 11 => .fieldLinkNest (ab_cn own) idx "SoulRaffle" "WORDS" "[LSoulRaffle$Word;" "SoulRaffle"
  | 6 => .fieldLink (ab_cn own) idx "SoulRaffle$Word" (if q.2.1 = 0 then "letters" else "reserved") (if q.2.1 = 0 then "J" else "Z")
  | 7 => .stringRef (ab_cn own) idx "()<=+-*;"
  | 8 => .fieldLink (ab_cn own) idx "java/lang/String" "value" "[B"
  | 9 => .fieldLink (ab_cn own) idx "java/lang/String" "coder" "B"
  | _ => .fieldLink (ab_cn own) idx "java/lang/String" "COMPACT_STRINGS" "Z"
def ab_lkB (own : Nat) : Bool := (ab_lks own).all fun p => decide (ab_lkw own p.1 p.2 ∈ lw_tbl) && (goodWord (ab_lkw own p.1 p.2) || ab_isNest (ab_lkw own p.1 p.2) || p.2.1 == 7) && decide (p.2.1 < 12) && (decide (1 < p.2.1) || (decide (p.2.2.1 < 10) && decide (p.2.2.2.1 < (ab_fs p.2.2.1).length)))
theorem ab_lkB0 : ab_lkB 0 = true := by decide +kernel
theorem ab_lkB1 : ab_lkB 1 = true := by decide +kernel
theorem ab_lkB2 : ab_lkB 2 = true := by decide +kernel
theorem ab_lkB3 : ab_lkB 3 = true := by decide +kernel
theorem ab_lkB4 : ab_lkB 4 = true := by decide +kernel
theorem ab_lkB5 : ab_lkB 5 = true := by decide +kernel
theorem ab_lkB6 : ab_lkB 6 = true := by decide +kernel
theorem ab_lkB7 : ab_lkB 7 = true := by decide +kernel
theorem ab_lkB8 : ab_lkB 8 = true := by decide +kernel
theorem ab_lkB9 : ab_lkB 9 = true := by decide +kernel
theorem ab_lkB10 : ab_lkB 10 = true := by decide +kernel
theorem ab_lkB11 : ab_lkB 11 = true := by decide +kernel
theorem ab_lkB12 : ab_lkB 12 = true := by decide +kernel
theorem ab_lkB13 : ab_lkB 13 = true := by decide +kernel
theorem ab_lkB14 : ab_lkB 14 = true := by decide +kernel
end
section
/-! what straight code does, as a function; and that the machine does it -/
def ab_cat : ab_V → Nat
  | .inr (.inl _) => 2
  | _ => 1
theorem ab_cat_vm (E : ab_E) (v : ab_V) : (ab_vm E v).category = ab_cat v := by
  rcases v with x | x | ⟨t, a⟩ <;> rfl
-- ===== the locals =====
def ab_al (E : ab_E) : List (Option ab_V) → Nat → List (Nat × Value)
  | [], _ => []
  | none :: r, i => ab_al E r (i + 1)
  | some v :: r, i => (i, ab_vm E v) :: ab_al E r (i + 1)
theorem ab_al_mem {E : ab_E} {L : List (Option ab_V)} {i : Nat} {q : Nat × Value} : q ∈ ab_al E L i ↔ ∃ (j : Nat) (v : ab_V), L[j]? = some (some v) ∧ q = (i + j, ab_vm E v) := by
  induction L generalizing i with
  | nil => simp [ab_al]
  | cons o r ih =>
    have tail : (∃ (j : Nat) (v : ab_V), r[j]? = some (some v) ∧ q = (i + 1 + j, ab_vm E v)) ↔ ∃ (j : Nat) (v : ab_V), (o :: r)[j + 1]? = some (some v) ∧ q = (i + (j + 1), ab_vm E v) := by
      constructor
      · rintro ⟨j, v, h1, h2⟩; exact ⟨j, v, by simpa using h1, by rw [h2]; congr 1; omega⟩
      · rintro ⟨j, v, h1, h2⟩; exact ⟨j, v, by simpa using h1, by rw [h2]; congr 1; omega⟩
    cases o with
    | none =>
      rw [ab_al, ih, tail]
      constructor
      · rintro ⟨j, v, h⟩; exact ⟨j + 1, v, h⟩
      · rintro ⟨j, v, h1, h2⟩
        cases j with
        | zero => simp at h1
        | succ j => exact ⟨j, v, h1, h2⟩
    | some w =>
      rw [ab_al, List.mem_cons, ih, tail]
      constructor
      · rintro (h | ⟨j, v, h⟩)
        · exact ⟨0, w, rfl, h⟩
        · exact ⟨j + 1, v, h⟩
      · rintro ⟨j, v, h1, h2⟩
        cases j with
        | zero => left; simp at h1; rw [h2, h1]; rfl
        | succ j => exact Or.inr ⟨j, v, h1, h2⟩
def ab_hl (E : ab_E) (ls : Array Slot) (L : List (Option ab_V)) : Prop := lv_has ls L.length (ab_al E L 0)
theorem ab_hl.at {E : ab_E} {ls : Array Slot} {L : List (Option ab_V)} (h : ab_hl E ls L) {i : Nat} {v : ab_V} (hi : L[i]? = some (some v)) : ls[i]? = some (.val (ab_vm E v)) :=
  h.2.2 (i, ab_vm E v) (ab_al_mem.mpr ⟨i, v, hi, by simp⟩)
theorem ab_hl.weak {E : ab_E} {ls : Array Slot} {L L' : List (Option ab_V)} (h : ab_hl E ls L) (hn : L'.length = L.length) (hw : ∀ (i : Nat) (v : ab_V), L'[i]? = some (some v) → L[i]? = some (some v)) : ab_hl E ls L' := by
  refine ⟨by rw [hn]; exact h.1, h.2.1, fun q hq => ?_⟩
  obtain ⟨j, v, h1, h2⟩ := ab_al_mem.mp hq
  exact h.2.2 q (ab_al_mem.mpr ⟨j, v, hw j v h1, h2⟩)
def ab_un : Option ab_V → Option ab_V
  | some (.inr (.inl _)) => none
  | x => x
def ab_st1 : List (Option ab_V) → Nat → ab_V → List (Option ab_V)
  | [], _, _ => []
  | _ :: r, 0, v => some v :: r
  | o :: r, i + 1, v => (match i with | 0 => ab_un o | _ => o) :: ab_st1 r i v
def ab_k1 : List (Option ab_V) → List (Option ab_V)
  | [] => []
  | _ :: r => none :: r
def ab_st2 : List (Option ab_V) → Nat → ab_V → List (Option ab_V)
  | [], _, _ => []
  | _ :: r, 0, v => some v :: ab_k1 r
  | o :: r, i + 1, v => (match i with | 0 => ab_un o | _ => o) :: ab_st2 r i v
theorem ab_k1_len (r : List (Option ab_V)) : (ab_k1 r).length = r.length := by cases r <;> rfl
theorem ab_k1_at {r : List (Option ab_V)} {j : Nat} {w : ab_V} (h : (ab_k1 r)[j]? = some (some w)) : j ≠ 0 ∧ r[j]? = some (some w) := by
  cases r with
  | nil => simp [ab_k1] at h
  | cons o r =>
    cases j with
    | zero => simp [ab_k1] at h
    | succ j => exact ⟨by omega, by simpa [ab_k1] using h⟩
theorem ab_un_some {o : Option ab_V} {w : ab_V} (h : ab_un o = some w) : o = some w ∧ ab_cat w = 1 := by
  rcases o with _ | x | x | ⟨t, a⟩
  · cases h
  · cases h; exact ⟨rfl, rfl⟩
  · cases h
  · cases h; exact ⟨rfl, rfl⟩
theorem ab_st1_len (L : List (Option ab_V)) (i : Nat) (v : ab_V) : (ab_st1 L i v).length = L.length := by
  induction L generalizing i with
  | nil => simp [ab_st1]
  | cons o r ih => cases i <;> simp [ab_st1, ih]
theorem ab_st2_len (L : List (Option ab_V)) (i : Nat) (v : ab_V) : (ab_st2 L i v).length = L.length := by
  induction L generalizing i with
  | nil => simp [ab_st2]
  | cons o r ih => cases i <;> simp [ab_st2, ih, ab_k1_len]
theorem ab_st1_at {L : List (Option ab_V)} {i j : Nat} {v w : ab_V} (h : (ab_st1 L i v)[j]? = some (some w)) : (j = i ∧ w = v) ∨ (j ≠ i ∧ L[j]? = some (some w) ∧ ¬ (j + 1 = i ∧ ab_cat w = 2)) := by
  induction L generalizing i j with
  | nil => simp [ab_st1] at h
  | cons o r ih =>
    cases i with
    | zero =>
      cases j with
      | zero => left; simp [ab_st1] at h; exact ⟨rfl, h.symm⟩
      | succ j => right; simp [ab_st1] at h; exact ⟨by omega, by simpa using h, by omega⟩
    | succ i =>
      cases j with
      | zero =>
        right
        simp only [ab_st1, List.getElem?_cons_zero, Option.some.injEq] at h
        cases i with
        | zero =>
          obtain ⟨h1, h2⟩ := ab_un_some h
          exact ⟨by omega, by simp [h1], fun q => by omega⟩
        | succ i =>
          have h : o = some w := h
          exact ⟨by omega, by simp [h], fun q => by omega⟩
      | succ j =>
        simp only [ab_st1, List.getElem?_cons_succ] at h
        rcases ih h with ⟨h1, h2⟩ | ⟨h1, h2, h3⟩
        · exact Or.inl ⟨by omega, h2⟩
        · exact Or.inr ⟨by omega, by simpa using h2, fun q => h3 ⟨by omega, q.2⟩⟩
theorem ab_st2_at {L : List (Option ab_V)} {i j : Nat} {v w : ab_V} (h : (ab_st2 L i v)[j]? = some (some w)) : (j = i ∧ w = v) ∨ (j ≠ i ∧ j ≠ i + 1 ∧ L[j]? = some (some w) ∧ ¬ (j + 1 = i ∧ ab_cat w = 2)) := by
  induction L generalizing i j with
  | nil => simp [ab_st2] at h
  | cons o r ih =>
    cases i with
    | zero =>
      cases j with
      | zero => left; simp [ab_st2] at h; exact ⟨rfl, h.symm⟩
      | succ j =>
        right
        simp only [ab_st2, List.getElem?_cons_succ] at h
        obtain ⟨h1, h2⟩ := ab_k1_at h
        exact ⟨by omega, by omega, by simpa using h2, by omega⟩
    | succ i =>
      cases j with
      | zero =>
        right
        simp only [ab_st2, List.getElem?_cons_zero, Option.some.injEq] at h
        cases i with
        | zero =>
          obtain ⟨h1, h2⟩ := ab_un_some h
          exact ⟨by omega, by omega, by simp [h1], fun q => by omega⟩
        | succ i =>
          have h : o = some w := h
          exact ⟨by omega, by omega, by simp [h], fun q => by omega⟩
      | succ j =>
        simp only [ab_st2, List.getElem?_cons_succ] at h
        rcases ih h with ⟨h1, h2⟩ | ⟨h1, h0, h2, h3⟩
        · exact Or.inl ⟨by omega, h2⟩
        · exact Or.inr ⟨by omega, by omega, by simpa using h2, fun q => h3 ⟨by omega, q.2⟩⟩
theorem ab_hl.st1 {E : ab_E} {ls : Array Slot} {L : List (Option ab_V)} {i : Nat} {v : ab_V} (h : lv_has ls L.length ((i, ab_vm E v) :: (ab_al E L 0).filter (fun q => !(q.1 == i) && !(q.1 + 1 == i && q.2.category == 2)))) : ab_hl E ls (ab_st1 L i v) := by
  refine ⟨by rw [ab_st1_len]; exact h.1, h.2.1, fun q hq => h.2.2 q ?_⟩
  obtain ⟨j, w, h1, rfl⟩ := ab_al_mem.mp hq
  rcases ab_st1_at h1 with ⟨rfl, rfl⟩ | ⟨h2, h3, h4⟩
  · simp
  · refine List.mem_cons_of_mem _ (List.mem_filter.mpr ⟨ab_al_mem.mpr ⟨j, w, h3, rfl⟩, ?_⟩)
    simp only [Nat.zero_add, ab_cat_vm]
    by_cases h5 : j + 1 = i
    · have h6 : ab_cat w ≠ 2 := fun q => h4 ⟨h5, q⟩
      simp [h2, h6]
    · simp [h2, h5]
theorem ab_hl.st2 {E : ab_E} {ls : Array Slot} {L : List (Option ab_V)} {i : Nat} {v : ab_V} (h : lv_has ls L.length ((i, ab_vm E v) :: (ab_al E L 0).filter (fun q => !(q.1 == i) && (!(q.1 == i + 1) && !(q.1 + 1 == i && q.2.category == 2))))) : ab_hl E ls (ab_st2 L i v) := by
  refine ⟨by rw [ab_st2_len]; exact h.1, h.2.1, fun q hq => h.2.2 q ?_⟩
  obtain ⟨j, w, h1, rfl⟩ := ab_al_mem.mp hq
  rcases ab_st2_at h1 with ⟨rfl, rfl⟩ | ⟨h2, h0, h3, h4⟩
  · simp
  · refine List.mem_cons_of_mem _ (List.mem_filter.mpr ⟨ab_al_mem.mpr ⟨j, w, h3, rfl⟩, ?_⟩)
    simp only [Nat.zero_add, ab_cat_vm]
    by_cases h5 : j + 1 = i
    · have h6 : ab_cat w ≠ 2 := fun q => h4 ⟨h5, q⟩
      simp [h2, h0, h6]
    · simp [h2, h0, h5]
theorem ab_ok_st1 {sy : Nat} {L : List (Option ab_V)} {i : Nat} {v : ab_V} (h : ∀ (j : Nat) (w : ab_V), L[j]? = some (some w) → ab_ok sy w) (hv : ab_ok sy v) : ∀ (j : Nat) (w : ab_V), (ab_st1 L i v)[j]? = some (some w) → ab_ok sy w := by
  intro j w hw
  rcases ab_st1_at hw with ⟨-, rfl⟩ | ⟨-, h3, -⟩
  · exact hv
  · exact h j w h3
theorem ab_ok_st2 {sy : Nat} {L : List (Option ab_V)} {i : Nat} {v : ab_V} (h : ∀ (j : Nat) (w : ab_V), L[j]? = some (some w) → ab_ok sy w) (hv : ab_ok sy v) : ∀ (j : Nat) (w : ab_V), (ab_st2 L i v)[j]? = some (some w) → ab_ok sy w := by
  intro j w hw
  rcases ab_st2_at hw with ⟨-, rfl⟩ | ⟨-, -, h3, -⟩
  · exact hv
  · exact h j w h3
-- ===== instructions =====
abbrev ab_O : Type := (Instr ⊕ (Nat × Nat)) ⊕ ((Int32 ⊕ Int64) ⊕ (Nat × Int32))
abbrev oP (i : Instr) : ab_O := .inl (.inl i)
abbrev oL (c n : Nat) : ab_O := .inl (.inr (c, n))
abbrev oC (x : Int32) : ab_O := .inr (.inl (.inl x))
abbrev oD (x : Int64) : ab_O := .inr (.inl (.inr x))
abbrev oN (i : Nat) (z : Int32) : ab_O := .inr (.inr (i, z))
def ab_ln : Instr → Nat
  | .iload _ | .lload _ | .aload _ | .istore _ | .lstore _ | .astore _ | .bipush _ | .ldc _ => 2
  | .sipush _ | .ldc_w _ | .ldc2_w _ | .iinc _ _ | .getfield _ | .putfield _ | .getstatic _ => 3
  | _ => 1
def ab_oc (own : Nat) (x : Int32) : Instr → Bool
  | .iconst n => Int32.ofInt n == x
  | .bipush n => (Int8.ofInt n).toInt32 == x
  | .sipush n => (Int16.ofInt n).toInt32 == x
  | .ldc k => (ab_lk own k).1 == 2 && Int32.ofInt (ab_lk own k).2.2.2 == x
  | .ldc_w k => (ab_lk own k).1 == 2 && Int32.ofInt (ab_lk own k).2.2.2 == x
  | _ => false
def ab_od (own : Nat) (x : Int64) : Instr → Bool
  | .lconst n => Int64.ofNat n == x
  | .ldc2_w k => (ab_lk own k).1 == 3 && Int64.ofInt (ab_lk own k).2.2.2 == x
  | _ => false
def ab_on (n : Nat) (z : Int32) : Instr → Bool
  | .iinc k y => k == n && Int32.ofInt y == z
  | _ => false
def ab_ol (c n : Nat) : Instr → Bool
  | .iload k => c == 0 && k == n
  | .iload_n k => c == 0 && k.val == n
  | .lload k => c == 1 && k == n
  | .lload_n k => c == 1 && k.val == n
  | .aload k => c == 2 && k == n
  | .aload_n k => c == 2 && k.val == n
  | .istore k => c == 3 && k == n
  | .istore_n k => c == 3 && k.val == n
  | .lstore k => c == 4 && k == n
  | .lstore_n k => c == 4 && k.val == n
  | .astore k => c == 5 && k == n
  | .astore_n k => c == 5 && k.val == n
  | _ => false
def ab_om (own : Nat) (i : Instr) : ab_O → Bool
  | .inl (.inl j) => decide (i = j)
  | .inl (.inr (c, n)) => ab_ol c n i
  | .inr (.inl (.inl x)) => ab_oc own x i
  | .inr (.inl (.inr x)) => ab_od own x i
  | .inr (.inr (n, z)) => ab_on n z i
def ab_dc (own : Nat) (b : ByteArray) (pc : Nat) (o : ab_O) (n : Nat) : Bool := match decode b pc with
  | .ok q => q.2 == n && (q.2 == ab_ln q.1 && ab_om own q.1 o)
  | .error _ => false
theorem ab_dc_ok {own : Nat} {b : ByteArray} {pc n : Nat} {o : ab_O} (h : ab_dc own b pc o n = true) : ∃ i, decode b pc = .ok (i, n) ∧ n = ab_ln i ∧ ab_om own i o = true := by
  unfold ab_dc at h
  split at h
  · rename_i q hq
    simp only [Bool.and_eq_true, beq_iff_eq] at h
    obtain ⟨h1, h2, h3⟩ := h
    refine ⟨q.1, ?_, ?_, h3⟩
    · rw [hq, ← h1]
    · rw [← h1, h2]
  · cases h
-- guards
def ab_ix (i : Int32) (n : Nat) : Bool := decide (0 ≤ i.toInt) && decide (i.toInt < n)
def ab_b1 (x : Int32) : Bool := x == 0 || x == 1
def ab_c1 (x : Int32) : Bool := vp_nar .char x == x
def nc (i : Int32) : Nat := i.toNatClampNeg
theorem ab_ix_in {i : Int32} {n : Nat} (h : ab_ix i n = true) : vp_in i n := by
  simp only [ab_ix, Bool.and_eq_true, decide_eq_true_eq] at h
  exact vp_in_iff.mpr h
theorem ab_ix_lt {i : Int32} {n : Nat} (h : ab_ix i n = true) : nc i < n := Nat.not_le.mp fun q => ab_ix_in h (Or.inr q)
-- fields and things never written
def ab_fval (u : ab_S) (a c k : Nat) : Option ab_V := match (ab_fk c k).1 with
  | 0 => some (vI (u.1 a k))
  | 4 => some (vI (u.1 a k))
  | 1 => some (vL (u.2.1 a k))
  | 2 => some (vR (ab_fk c k).2.1 (a + (ab_fk c k).2.2))
  | 3 => some (vR (ab_fk c k).2.1 (u.2.2 (ab_fk c k).2.2))
  | _ => none
def ab_gf (q : ab_K) (t : ab_T) (a : Nat) (u : ab_S) : Option ab_V := match t with
  | .inl c => match q.1 with
    | 0 => bif Nat.beq c q.2.1 then ab_fval u a c q.2.2.1 else none
    | 1 => bif Nat.beq c q.2.1 then ab_fval u a c q.2.2.1 else none
    | 6 => bif Nat.beq c 20 then (bif Nat.beq q.2.1 0 then some (vL (ab_wl.getD a 0)) else some (vI (ab_wr.getD a 0))) else none
    | 8 => bif Nat.beq c 21 then some (vR (kA 7 8) 0) else none
    | 9 => bif Nat.beq c 21 then some (vI 0) else none
    | _ => none
  | .inr _ => none
def ab_pf (q : ab_K) (t : ab_T) (a : Nat) (v : ab_V) (u : ab_S) : Option (List Bool × ab_S) := match t with
  | .inl c => bif (Nat.beq c q.2.1 && Nat.ble q.1 1) then (match (ab_fk c q.2.2.1).1, v with
    | 0, .inl x => some ([], sI u a q.2.2.1 x)
    | 4, .inl x => some ([ab_b1 x], sI u a q.2.2.1 x)
    | 1, .inr (.inl x) => some ([], sJ u a q.2.2.1 x)
    | 3, .inr (.inr (.inl d, b)) => bif (Nat.beq c 8 && Nat.beq d (if q.2.2.1 < 3 then 2 else 7)) then some ([], sM u (q.2.2.1 - 1) b) else none
    | _, _ => none) else none
  | .inr _ => none
def ab_gs (q : ab_K) : Option ab_V := match q.1 with
  | 4 => some (vR (kO 20) q.2.1)
  | 5 => some (vR (kA 6 23) 0)
  | 11 => some (vR (kA 6 23) 0)
  | 10 => some (vI 1)
  | _ => none
def ab_by : List Int32 := [40, 41, 60, 61, 43, 45, 42, 59]
def ab_sti (own : Nat) (i : Instr) (st : List ab_V) (u : ab_S) : Option (List Bool × (List ab_V × ab_S)) := match i, st with
  | .iadd, .inl y :: .inl x :: r => some ([], vI (x + y) :: r, u)
  | .isub, .inl y :: .inl x :: r => some ([], vI (x - y) :: r, u)
  | .imul, .inl y :: .inl x :: r => some ([], vI (x * y) :: r, u)
  | .iand, .inl y :: .inl x :: r => some ([], vI (x &&& y) :: r, u)
  | .ior, .inl y :: .inl x :: r => some ([], vI (x ||| y) :: r, u)
  | .ixor, .inl y :: .inl x :: r => some ([], vI (x ^^^ y) :: r, u)
  | .ineg, .inl x :: r => some ([], vI (-x) :: r, u)
  | .ishl, .inl y :: .inl x :: r => some ([], vI (x <<< (y &&& 31)) :: r, u)
  | .ishr, .inl y :: .inl x :: r => some ([], vI (x >>> (y &&& 31)) :: r, u)
  | .iushr, .inl y :: .inl x :: r => some ([], vI ((x.toUInt32 >>> (y.toUInt32 &&& Int32.toUInt32 31)).toInt32) :: r, u)
  | .idiv, .inl y :: .inl x :: r => some ([decide (¬ y = 0)], vI (x / y) :: r, u)
  | .irem, .inl y :: .inl x :: r => some ([decide (¬ y = 0)], vI (x - x / y * y) :: r, u)
  | .ladd, .inr (.inl y) :: .inr (.inl x) :: r => some ([], vL (x + y) :: r, u)
  | .lsub, .inr (.inl y) :: .inr (.inl x) :: r => some ([], vL (x - y) :: r, u)
  | .lmul, .inr (.inl y) :: .inr (.inl x) :: r => some ([], vL (x * y) :: r, u)
  | .land, .inr (.inl y) :: .inr (.inl x) :: r => some ([], vL (x &&& y) :: r, u)
  | .lor, .inr (.inl y) :: .inr (.inl x) :: r => some ([], vL (x ||| y) :: r, u)
  | .ldiv, .inr (.inl y) :: .inr (.inl x) :: r => some ([decide (¬ y = 0)], vL (x / y) :: r, u)
  | .lrem, .inr (.inl y) :: .inr (.inl x) :: r => some ([decide (¬ y = 0)], vL (x - x / y * y) :: r, u)
  | .lshl, .inl y :: .inr (.inl x) :: r => some ([], vL (x <<< (y.toInt64 &&& 63)) :: r, u)
  | .lshr, .inl y :: .inr (.inl x) :: r => some ([], vL (x >>> (y.toInt64 &&& 63)) :: r, u)
  | .lushr, .inl y :: .inr (.inl x) :: r => some ([], vL ((x.toUInt64 >>> (y.toInt64.toUInt64 &&& Int64.toUInt64 63)).toInt64) :: r, u)
  | .i2l, .inl x :: r => some ([], vL x.toInt64 :: r, u)
  | .l2i, .inr (.inl x) :: r => some ([], vI x.toInt32 :: r, u)
  | .i2c, .inl x :: r => some ([], vI (x.toUInt32 % 65536).toInt32 :: r, u)
  | .i2b, .inl x :: r => some ([], vI x.toInt8.toInt32 :: r, u)
  | .lcmp, .inr (.inl y) :: .inr (.inl x) :: r => some ([], vI (lg_cmp x y) :: r, u)
  | .dup, .inl x :: r => some ([], .inl x :: .inl x :: r, u)
  | .dup, .inr (.inr x) :: r => some ([], .inr (.inr x) :: .inr (.inr x) :: r, u)
  | .pop, .inl _ :: r => some ([], r, u)
  | .dup2, .inl y :: .inr (.inr x) :: r => some ([], .inl y :: .inr (.inr x) :: .inl y :: .inr (.inr x) :: r, u)
  | .getfield k, .inr (.inr (t, a)) :: r => match ab_gf (ab_lk own k) t a u with
    | some v => some ([], v :: r, u)
    | none => none
  | .putfield k, v :: .inr (.inr (t, a)) :: r => match ab_pf (ab_lk own k) t a v u with
    | some (g, u') => some (g, r, u')
    | none => none
  | .getstatic k, r => match ab_gs (ab_lk own k) with
    | some v => some ([], v :: r, u)
    | none => none
  | .ldc k, r => bif Nat.beq (ab_lk own k).1 7 then some ([], vR (kO 21) 0 :: r, u) else none
  | .arraylength, .inr (.inr (.inr (_, n), _)) :: r => some ([], vI (Int32.ofNat n) :: r, u)
  | .iaload, .inl i :: .inr (.inr (.inr (0, n), a)) :: r => some ([ab_ix i n], vI (u.1 a (nc i)) :: r, u)
  | .caload, .inl i :: .inr (.inr (.inr (2, n), a)) :: r => some ([ab_ix i n], vI (u.1 a (nc i)) :: r, u)
  | .baload, .inl i :: .inr (.inr (.inr (3, n), a)) :: r => some ([ab_ix i n], vI (u.1 a (nc i)) :: r, u)
  | .baload, .inl i :: .inr (.inr (.inr (7, _), _)) :: r => some ([ab_ix i 8], vI (ab_by.getD (nc i) 0) :: r, u)
  | .laload, .inl i :: .inr (.inr (.inr (1, n), a)) :: r => some ([ab_ix i n], vL (u.2.1 a (nc i)) :: r, u)
  | .aaload, .inl i :: .inr (.inr (.inr (4, n), a)) :: r => some ([ab_ix i n], vR (kO 5) (a + 1 + 4 * nc i) :: r, u)
  | .aaload, .inl i :: .inr (.inr (.inr (5, n), a)) :: r => some ([ab_ix i n], vR (kO 4) (a + 1 + 4 * nc i) :: r, u)
  | .aaload, .inl i :: .inr (.inr (.inr (6, _), _)) :: r => some ([ab_ix i 23], vR (kO 20) (nc i) :: r, u)
  | .iastore, .inl x :: .inl i :: .inr (.inr (.inr (0, n), a)) :: r => some ([ab_ix i n], r, sI u a (nc i) x)
  | .castore, .inl x :: .inl i :: .inr (.inr (.inr (2, n), a)) :: r => some ([ab_ix i n, ab_c1 x], r, sI u a (nc i) x)
  | .bastore, .inl x :: .inl i :: .inr (.inr (.inr (3, n), a)) :: r => some ([ab_ix i n, ab_b1 x], r, sI u a (nc i) x)
  | .lastore, .inr (.inl x) :: .inl i :: .inr (.inr (.inr (1, n), a)) :: r => some ([ab_ix i n], r, sJ u a (nc i) x)
  | _, _ => none
def ab_stl (c n : Nat) (L : List (Option ab_V)) (st : List ab_V) : Option (List (Option ab_V) × List ab_V) := match c with
  | 0 => match L[n]? with
    | some (some (.inl x)) => some (L, .inl x :: st)
    | _ => none
  | 1 => match L[n]? with
    | some (some (.inr (.inl x))) => some (L, .inr (.inl x) :: st)
    | _ => none
  | 2 => match L[n]? with
    | some (some (.inr (.inr x))) => some (L, .inr (.inr x) :: st)
    | _ => none
  | 3 => match st with
    | .inl x :: r => bif Nat.blt n L.length then some (ab_st1 L n (.inl x), r) else none
    | _ => none
  | 4 => match st with
    | .inr (.inl x) :: r => bif Nat.blt (n + 1) L.length then some (ab_st2 L n (.inr (.inl x)), r) else none
    | _ => none
  | 5 => match st with
    | .inr (.inr x) :: r => bif Nat.blt n L.length then some (ab_st1 L n (.inr (.inr x)), r) else none
    | _ => none
  | _ => none
def ab_stp (own : Nat) (o : ab_O) (L : List (Option ab_V)) (st : List ab_V) (u : ab_S) : Option (List Bool × (List (Option ab_V) × (List ab_V × ab_S))) := match o with
  | .inr (.inl (.inl x)) => some ([], L, .inl x :: st, u)
  | .inr (.inl (.inr x)) => some ([], L, .inr (.inl x) :: st, u)
  | .inr (.inr (i, z)) => match L[i]? with
    | some (some (.inl x)) => some ([], ab_st1 L i (.inl (x + z)), st, u)
    | _ => none
  | .inl (.inr (c, n)) => match ab_stl c n L st with
    | some (L', st') => some ([], L', st', u)
    | none => none
  | .inl (.inl i) => match ab_sti own i st u with
    | some (g, st', u') => some (g, L, st', u')
    | none => none
end
section
/-! fields, statics and array elements: the evaluator's answers are the machine's -/
theorem ab_wwB : (List.range 10).all (fun ci => (u_ws (ab_cn ci) (ab_TT ci) (ab_fs ci).length).all (fun w => decide (w ∈ lw_tbl) && goodWord w)) = true := by decide +kernel
theorem ab_ww {ci : Nat} (h : ci < 10) : ∀ w ∈ u_ws (ab_cn ci) (ab_TT ci) (ab_fs ci).length, w ∈ ab_W0 := by
  intro w hw
  have h1 := List.all_eq_true.mp (List.all_eq_true.mp ab_wwB ci (List.mem_range.mpr h)) w hw
  simp only [Bool.and_eq_true, decide_eq_true_eq] at h1
  exact List.mem_filter.mpr h1
theorem ab_vw {ci : Nat} (h : ci < 10) : vwCl[ci]? = some (ab_cn ci, ab_TT ci, (ab_fs ci).length) := by
  match ci, h with
  | 0, _ | 1, _ | 2, _ | 3, _ | 4, _ | 5, _ | 6, _ | 7, _ | 8, _ | 9, _ => rfl
theorem ab_ty_ok {ci : Nat} (h : ci < 10) : ∀ k, k < (ab_fs ci).length → parseFieldDescriptor (ab_TT ci k).2.2.1 = some (ab_tt ci k) := by
  match ci, h with
  | 0, _ => exact tyX0_ok
  | 1, _ => exact tyX1_ok
  | 2, _ => exact tyX2_ok
  | 3, _ => exact tyX3_ok
  | 4, _ => exact tyX4_ok
  | 5, _ => exact tyX5_ok
  | 6, _ => exact tyX6_ok
  | 7, _ => exact tyX8_ok
  | 8, _ => exact tyX9_ok
  | 9, _ => exact tyX10_ok
theorem ab_nm_ok {ci : Nat} (h : ci < 10) : ∀ a, a < (ab_fs ci).length → ∀ b, b < (ab_fs ci).length → a ≠ b → (ab_TT ci a).2.1 ≠ (ab_TT ci b).2.1 := by
  match ci, h with
  | 0, _ => exact nmX0
  | 1, _ => exact nmX1
  | 2, _ => exact nmX2
  | 3, _ => exact nmX3
  | 4, _ => exact nmX4
  | 5, _ => exact nmX5
  | 6, _ => exact nmX6
  | 7, _ => exact nmX8
  | 8, _ => exact nmX9
  | 9, _ => exact nmX10
def ab_kdB (ci k : Nat) : Bool := decide ((ab_TT ci k).1 = ab_cn ci) && (match (ab_fk ci k).1 with
  | 0 => decide (ab_tt ci k = .int) && !(ab_TT ci k).2.2.2
  | 4 => decide (ab_tt ci k = .boolean) && !(ab_TT ci k).2.2.2
  | 1 => decide (ab_tt ci k = .long) && !(ab_TT ci k).2.2.2
  | 3 => decide (ab_tt ci k = .object (if k < 3 then "SoulRaffle$Office" else "SoulRaffle$Year")) && !(ab_TT ci k).2.2.2 && decide (ci = 8) && decide (1 ≤ k) && decide (k < 5) && decide ((ab_fk ci k).2.2 = k - 1) && decide ((ab_fk ci k).2.1 = if k < 3 then kO 2 else kO 7)
  | 2 => true
  | _ => false)
theorem ab_kd0 : (List.range 10).all (fun ci => (List.range (ab_fs ci).length).all (fun k => ab_kdB ci k)) = true := by decide +kernel
theorem ab_kd {ci k : Nat} (h : ci < 10) (hk : k < (ab_fs ci).length) : ab_kdB ci k = true := List.all_eq_true.mp (List.all_eq_true.mp ab_kd0 ci (List.mem_range.mpr h)) k (List.mem_range.mpr hk)
-- links
theorem ab_lkAll {own : Nat} (h : own < 15) : ab_lkB own = true := by
  match own, h with
  | 0, _ => exact ab_lkB0
  | 1, _ => exact ab_lkB1
  | 2, _ => exact ab_lkB2
  | 3, _ => exact ab_lkB3
  | 4, _ => exact ab_lkB4
  | 5, _ => exact ab_lkB5
  | 6, _ => exact ab_lkB6
  | 7, _ => exact ab_lkB7
  | 8, _ => exact ab_lkB8
  | 9, _ => exact ab_lkB9
  | 10, _ => exact ab_lkB10
  | 11, _ => exact ab_lkB11
  | 12, _ => exact ab_lkB12
  | 13, _ => exact ab_lkB13
  | 14, _ => exact ab_lkB14
theorem ab_look {l : List (Nat × ab_K)} {k : Nat} {q : ab_K} (h : l.lookup k = some q) : (k, q) ∈ l := by
  induction l with
  | nil => cases h
  | cons p r ih =>
    obtain ⟨j, z⟩ := p
    rw [List.lookup_cons] at h
    by_cases e : k = j
    · subst e
      simp only [beq_self_eq_true] at h
      cases h
      exact List.mem_cons_self
    · rw [show (k == j) = false from by simpa using e] at h
      exact List.mem_cons_of_mem _ (ih h)
theorem ab_lk_ok {own k : Nat} (h : own < 15) (hn : (ab_lk own k).1 ≠ 99) : ab_lkw own k (ab_lk own k) ∈ lw_tbl ∧ (goodWord (ab_lkw own k (ab_lk own k)) = true ∨ ab_isNest (ab_lkw own k (ab_lk own k)) = true ∨ (ab_lk own k).1 = 7) ∧ ((ab_lk own k).1 ≤ 1 → (ab_lk own k).2.1 < 10 ∧ (ab_lk own k).2.2.1 < (ab_fs (ab_lk own k).2.1).length) := by
  have h0 := ab_lkAll h
  unfold ab_lkB at h0
  cases hq : (ab_lks own).lookup k with
  | none => exact absurd (by unfold ab_lk; rw [hq]; rfl) hn
  | some q =>
    have e : ab_lk own k = q := by unfold ab_lk; rw [hq]; rfl
    have h1 := List.all_eq_true.mp h0 (k, q) (ab_look hq)
    rw [e]
    simp only [Bool.and_eq_true, Bool.or_eq_true, decide_eq_true_eq, beq_iff_eq] at h1
    obtain ⟨⟨⟨h2, h3⟩, -⟩, h4⟩ := h1
    refine ⟨h2, ?_, fun h5 => h4.resolve_left (by omega)⟩
    rcases h3 with (h3 | h3) | h3
    · exact Or.inl h3
    · exact Or.inr (Or.inl h3)
    · exact Or.inr (Or.inr h3)
-- ===== what is never written: the Words, their row, one text =====
def ab_SF (E : ab_E) (A : Nat → Prop) (U : State) (H : Heap) : Prop :=
  (∀ i, i < 23 → va_Z "SoulRaffle$Word" (ab_wn.getD i "") "LSoulRaffle$Word;" (.ref (ab_sa E 20 i)) A U H ∧ va_OF "SoulRaffle$Word" "letters" "J" (.long (ab_wl.getD i 0)) (ab_sa E 20 i) A U H ∧ va_OF "SoulRaffle$Word" "reserved" "Z" (.int (ab_wr.getD i 0)) (ab_sa E 20 i) A U H) ∧
  va_Z "SoulRaffle" "WORDS" "[LSoulRaffle$Word;" (.ref (ab_sa E 106 0)) A U H ∧ va_T (.object "SoulRaffle$Word") (ab_sa E 106 0) 23 (fun i => .ref (ab_sa E 20 i)) A U H ∧
  vk_S 1 [8] [ab_by] (fun _ => ab_sa E 21 0) (fun _ => ab_sa E 107 0) A U H ∧ vk_R "SoulRaffle$Tokens" 75 "()<=+-*;" (ab_sa E 21 0) U ∧ va_Z "java/lang/String" "COMPACT_STRINGS" "Z" (.int 1) A U H
abbrev ab_F (p : Program) (s : State) (m : MethodId) (args : Array Value) (c : Code) (E : ab_E) (sy own : Nat) (b : ByteArray) (A : Nat → Prop) : Prop :=
  p.tables.exec = Jvm.exec ∧ c.code = b ∧ s.vm.findClass (ab_cn own) = some m.cls ∧ (∀ w ∈ ab_W0, w.before args s = true) ∧ ab_NW s ∧ va_K (E.1, E.2.1) vwCl (ab_ty E) s ∧ ab_SF E A s s.heap ∧ own < 15 ∧ sy < 2
abbrev ab_X (E : ab_E) (sy : Nat) (A : Nat → Prop) (s : State) (u : ab_S) (H : Heap) (locs : List Loc) : Prop :=
  va_P (E.1, E.2.1) vwCl (ab_wd E sy u) H ∧ va_D A (ab_wd E sy u) ∧ va_S A s.heap H locs ∧ ab_WT sy u
theorem ab_re_ro (E : ab_E) {sy x : Nat} {t : ab_T} (hs : sy < 2) (h : (ab_sh sy)[x]? = some t) : ab_re E t x = ab_ro E x := by
  cases t with
  | inl c =>
    have h1 := (ab_lay (k := 0) hs h).1
    simp only [ab_re]
    rw [if_pos (by omega)]
  | inr p =>
    obtain ⟨e, n⟩ := p
    have h1 := (ab_layA hs h).1
    simp only [ab_re]
    rw [if_pos h1]
theorem ab_ia_of {sy x : Nat} {t : ab_T} (hs : sy < 2) (h : (ab_sh sy)[x]? = some t) : ab_ia sy t x := by
  cases t with
  | inl c =>
    have h1 := (ab_lay (k := 0) hs h).1
    simp only [ab_ia]
    rw [if_pos (by omega)]
    exact h
  | inr p =>
    obtain ⟨e, n⟩ := p
    have h1 := (ab_layA hs h).1
    simp only [ab_ia]
    rw [if_pos h1]
    exact h
theorem ab_fval_ok (E : ab_E) {sy a c k : Nat} {u : ab_S} {v : ab_V} (hs : sy < 2) (hW : ab_WT sy u) (h : (ab_sh sy)[a]? = some (kO c)) (hk : k < (ab_fs c).length) (hv : ab_fval u a c k = some v) : ab_ok sy v ∧ ab_vm E v = ab_fv E u a (ab_fk c k) k := by
  obtain ⟨hc, h8, hl⟩ := ab_lay (k := k) hs h
  have hd := ab_kd hc hk
  unfold ab_fval at hv
  unfold ab_fv
  split at hv
  · rename_i e; rw [e]; cases hv; exact ⟨trivial, rfl⟩
  · rename_i e; rw [e]; cases hv; exact ⟨trivial, rfl⟩
  · rename_i e; rw [e]; cases hv; exact ⟨trivial, rfl⟩
  · rename_i e
    rw [e]
    cases hv
    have h1 := hl e
    exact ⟨ab_ia_of hs h1, congrArg Value.ref (ab_re_ro E hs h1)⟩
  · rename_i e
    cases hv
    unfold ab_kdB at hd
    rw [e] at hd
    simp only [Bool.and_eq_true, decide_eq_true_eq] at hd
    obtain ⟨-, ⟨⟨⟨⟨⟨-, hc8⟩, hk1⟩, hk5⟩, hj⟩, ht⟩⟩ := hd
    obtain ⟨hs0, -⟩ := h8 hc8
    subst hs0
    have h1 := hW (k - 1) (by omega) rfl
    have e2 : (if k - 1 < 2 then kO 2 else kO 7) = (if k < 3 then kO 2 else kO 7) := by
      by_cases q : k < 3
      · rw [if_pos q, if_pos (by omega)]
      · rw [if_neg q, if_neg (by omega)]
    rw [e2, ← ht, ← hj] at h1
    rw [e]
    exact ⟨ab_ia_of hs h1, congrArg Value.ref (ab_re_ro E hs h1)⟩
  · cases hv
section ABF
variable {p : Program} {l : Launch} {e : Env} {R : Room} {s : State} {m : MethodId} {args : Array Value} {below : List Frame} {meth : Method} {c : Code} {H : Heap} {locs : List Loc} {cells slots : Nat} {Q : State → Prop} {E : ab_E} {sy own : Nat} {b : ByteArray} {A : Nat → Prop} {u : ab_S} {pc : Nat} {ls : Array Slot} {rest : List Value}
theorem ab_get_ok {t : ab_T} {a k : Nat} {v : ab_V} (F : ab_F p s m args c E sy own b A) (X : ab_X E sy A s u H locs) (hia : ab_ia sy t a) (hd : decode b pc = .ok (.getfield k, 3)) (h : ab_gf (ab_lk own k) t a u = some v) :
    ab_ok sy v ∧ (W p l e R s m args below meth c H locs cells slots Q (F0 m (pc + 3) ls (ab_vm E v :: rest)) → W p l e R s m args below meth c H locs cells slots Q (F0 m pc ls (.ref (ab_re E t a) :: rest))) := by
  obtain ⟨hx, hb, hown, hts, hNW, hK, hSF, ho, hs⟩ := F
  obtain ⟨hP, hD, hS, hW⟩ := X
  cases t with
  | inr z => cases h
  | inl ci =>
    have pool : ∀ (hq : (ab_lk own k).1 ≤ 1) (e1 : ci = (ab_lk own k).2.1), ab_fval u a ci (ab_lk own k).2.2.1 = some v → (ab_sh sy)[a]? = some (kO ci) ∧ ci < 10 ∧ (ab_lk own k).2.2.1 < (ab_fs ci).length ∧ ab_re E (.inl ci) a = ab_ro E a ∧ ab_ok sy v ∧ ab_vm E v = ab_fv E u a (ab_fk ci (ab_lk own k).2.2.1) (ab_lk own k).2.2.1 ∧ (ab_TT ci (ab_lk own k).2.2.1).1 = ab_cn ci := by
      intro hq e1 hv
      obtain ⟨-, -, h3⟩ := ab_lk_ok (k := k) ho (by omega)
      obtain ⟨h4, h5⟩ := h3 hq
      rw [← e1] at h4 h5
      have h6 : (ab_sh sy)[a]? = some (kO ci) := by
        simp only [ab_ia] at hia
        rwa [if_pos (by omega)] at hia
      obtain ⟨h7, h8⟩ := ab_fval_ok E hs hW h6 h5 hv
      have h9 := ab_kd h4 h5
      unfold ab_kdB at h9
      simp only [Bool.and_eq_true, decide_eq_true_eq] at h9
      exact ⟨h6, h4, h5, ab_re_ro E hs h6, h7, h8, h9.1⟩
    unfold ab_gf at h
    dsimp only at h
    split at h
    · rename_i hq
      cases hc : Nat.beq ci (ab_lk own k).2.1 with
      | false => rw [hc] at h; cases h
      | true =>
        rw [hc] at h
        have e1 := Nat.eq_of_beq_eq_true hc
        obtain ⟨g1, g2, g3, g4, g5, g6, g7⟩ := pool (by omega) e1 h
        refine ⟨g5, fun kk => ?_⟩
        obtain ⟨w1, w2, -⟩ := ab_lk_ok (k := k) ho (by omega)
        unfold ab_lkw at w1 w2
        rw [hq] at w1 w2
        simp only [ab_isNest] at w2
        have w3 : Cond.fieldLink (ab_cn own) k (ab_cn ci) (ab_TT ci (ab_lk own k).2.2.1).2.1 (ab_TT ci (ab_lk own k).2.2.1).2.2.1 ∈ ab_W0 := by
          rw [← e1] at w1 w2
          exact List.mem_filter.mpr ⟨w1, by rcases w2 with w2 | w2 | w2 <;> first | exact w2 | cases w2⟩
        rw [g4]
        rw [g6] at kk
        exact va_get hx hb (T := ab_TT ci) (ref := ab_cn ci) hts (ab_ww g2) hown hK hP a (ab_wd_at E g1) (ab_vw g2) _ g3 (hts _ w3) (fun x hx => by rw [g7] at hx; exact hx) (by rw [List.getElem?_map, List.getElem?_range g3]; rfl) hd kk
    · rename_i hq
      cases hc : Nat.beq ci (ab_lk own k).2.1 with
      | false => rw [hc] at h; cases h
      | true =>
        rw [hc] at h
        have e1 := Nat.eq_of_beq_eq_true hc
        obtain ⟨g1, g2, g3, g4, g5, g6, g7⟩ := pool (by omega) e1 h
        refine ⟨g5, fun kk => ?_⟩
        obtain ⟨w1, w2, -⟩ := ab_lk_ok (k := k) ho (by omega)
        unfold ab_lkw at w1
        rw [hq, ← e1] at w1
        have w3 := va_Nw.use (A := args) rfl (hNW _ w1 rfl)
        rw [g4]
        rw [g6] at kk
        exact va_getN hx hb (T := ab_TT ci) (ref := ab_cn ci) hts (ab_ww g2) hown hK hP a (ab_wd_at E g1) (ab_vw g2) _ g3 w3 (fun x hx => by rw [g7] at hx; exact hx) (by rw [List.getElem?_map, List.getElem?_range g3]; rfl) hd kk
    · rename_i hq
      cases hc : Nat.beq ci 20 with
      | false => rw [hc] at h; cases h
      | true =>
        rw [hc] at h
        have e1 := Nat.eq_of_beq_eq_true hc
        subst e1
        obtain ⟨w1, w2, -⟩ := ab_lk_ok (k := k) ho (by omega)
        unfold ab_lkw at w1 w2
        rw [hq] at w1 w2
        simp only [ab_isNest] at w2
        have w3 : _ ∈ ab_W0 := List.mem_filter.mpr ⟨w1, by rcases w2 with w2 | w2 | w2 <;> first | exact w2 | cases w2⟩
        have hi : a < 23 := hia
        obtain ⟨s1, s2, s3⟩ := hSF.1 a hi
        cases hf : Nat.beq (ab_lk own k).2.1 0 with
        | true =>
          rw [hf] at h
          cases h
          have e2 := Nat.eq_of_beq_eq_true hf
          rw [if_pos e2, if_pos e2] at w3
          exact ⟨trivial, fun kk => vk_getf hx hb s2 hS hown (hts _ w3) (fun x hx => hx) hd kk⟩
        | false =>
          rw [hf] at h
          cases h
          have e2 : ¬ (ab_lk own k).2.1 = 0 := fun q => by rw [q] at hf; cases hf
          rw [if_neg e2, if_neg e2] at w3
          exact ⟨trivial, fun kk => vk_getf hx hb s3 hS hown (hts _ w3) (fun x hx => hx) hd kk⟩
    · rename_i hq
      cases hc : Nat.beq ci 21 with
      | false => rw [hc] at h; cases h
      | true =>
        rw [hc] at h
        have e1 := Nat.eq_of_beq_eq_true hc
        subst e1
        cases h
        obtain ⟨w1, w2, -⟩ := ab_lk_ok (k := k) ho (by omega)
        unfold ab_lkw at w1 w2
        rw [hq] at w1 w2
        simp only [ab_isNest] at w2
        have w3 : _ ∈ ab_W0 := List.mem_filter.mpr ⟨w1, by rcases w2 with w2 | w2 | w2 <;> first | exact w2 | cases w2⟩
        have hi : a < 1 := hia
        have ha : a = 0 := by omega
        subst ha
        obtain ⟨s1, s2, s3, s4⟩ := hSF.2.2.2.1.1 0 (by omega)
        exact ⟨⟨by omega, by omega, rfl⟩, fun kk => vk_getf hx hb s3 hS hown (hts _ w3) (fun x hx => hx) hd kk⟩
    · rename_i hq
      cases hc : Nat.beq ci 21 with
      | false => rw [hc] at h; cases h
      | true =>
        rw [hc] at h
        have e1 := Nat.eq_of_beq_eq_true hc
        subst e1
        cases h
        obtain ⟨w1, w2, -⟩ := ab_lk_ok (k := k) ho (by omega)
        unfold ab_lkw at w1 w2
        rw [hq] at w1 w2
        simp only [ab_isNest] at w2
        have w3 : _ ∈ ab_W0 := List.mem_filter.mpr ⟨w1, by rcases w2 with w2 | w2 | w2 <;> first | exact w2 | cases w2⟩
        have hi : a < 1 := hia
        have ha : a = 0 := by omega
        subst ha
        obtain ⟨s1, s2, s3, s4⟩ := hSF.2.2.2.1.1 0 (by omega)
        exact ⟨trivial, fun kk => vk_getf hx hb s2 hS hown (hts _ w3) (fun x hx => hx) hd kk⟩
    · cases h
end ABF
end
section
/-! putfield, getstatic, arrays -/
theorem ab_sh8 {sy b : Nat} (hs : sy < 2) (h : (ab_sh sy)[b]? = some (kO 8)) : sy = 0 ∧ b = 0 := (ab_lay (k := 0) hs h).2.1 rfl
theorem ab_w23 : (List.range 15).all (fun o => (ab_lks o).all (fun p => p.2.1 != 4 || decide (p.2.2.1 < 23))) = true := by decide +kernel
theorem ab_w23' {own k : Nat} (h : own < 15) (hq : (ab_lk own k).1 = 4) : (ab_lk own k).2.1 < 23 := by
  cases hl : (ab_lks own).lookup k with
  | none => rw [show (ab_lk own k).1 = 99 from by unfold ab_lk; rw [hl]; rfl] at hq; omega
  | some q =>
    have e : ab_lk own k = q := by unfold ab_lk; rw [hl]; rfl
    have h1 := List.all_eq_true.mp (List.all_eq_true.mp ab_w23 own (List.mem_range.mpr h)) (k, q) (ab_look hl)
    rw [e] at hq ⊢
    simpa [hq] using h1
section ABS
variable {p : Program} {l : Launch} {e : Env} {R : Room} {s : State} {m : MethodId} {args : Array Value} {below : List Frame} {meth : Method} {c : Code} {H : Heap} {locs : List Loc} {cells slots : Nat} {Q : State → Prop} {E : ab_E} {sy own : Nat} {b : ByteArray} {A : Nat → Prop} {u : ab_S} {pc : Nat} {ls : Array Slot} {rest : List Value}
/-- a store into a field of the pool, once its new cell is known -/
theorem ab_putraw {k ci kf a : Nat} {u' : ab_S} {v : Value} {ty : FieldType} (F : ab_F p s m args c E sy own b A) (X : ab_X E sy A s u H locs) (hd : decode b pc = .ok (.putfield k, 3))
    (hq : (ab_lk own k).1 ≤ 1) (e1 : ci = (ab_lk own k).2.1) (e2 : kf = (ab_lk own k).2.2.1) (h6 : (ab_sh sy)[a]? = some (kO ci)) (hty : ab_tt ci kf = ty) (hfin : (ab_TT ci kf).2.2.2 = false) (hn : narrow ty v = v) (hfit : fits ty v = true)
    (hcell : ab_cell E u' a (kO ci) = .inr (ci, ((List.range (ab_fs ci).length).map fun j => ab_fv E u a (ab_fk ci j) j).set kf v)) (hoth : ∀ b s, b ≠ a → (ab_sh sy)[b]? = some s → ab_cell E u' b s = ab_cell E u b s) (hW' : ab_WT sy u')
    (kk : ∀ (H1 : Heap) (locs1 : List Loc), ab_X E sy A s u' H1 locs1 → W p l e R s m args below meth c H1 locs1 cells slots Q (F0 m (pc + 3) ls rest)) : W p l e R s m args below meth c H locs cells slots Q (F0 m pc ls (v :: .ref (ab_ro E a) :: rest)) := by
  obtain ⟨hx, hb, hown, hts, hNW, hK, hSF, ho, hs⟩ := F
  obtain ⟨hP, hD, hS, hW⟩ := X
  obtain ⟨w1, w2, h3⟩ := ab_lk_ok (k := k) ho (by omega)
  obtain ⟨h4, h5⟩ := h3 hq
  rw [← e1] at h4 h5
  rw [← e2] at h5
  have h9 := ab_kd h4 h5
  unfold ab_kdB at h9
  simp only [Bool.and_eq_true, decide_eq_true_eq] at h9
  have hown1 := h9.1
  have hset := ab_wd_set E h6 hcell.symm hoth
  unfold ab_lkw at w1 w2
  have hkk : ∀ (H1 : Heap) (locs1 : List Loc), va_P (E.1, E.2.1) vwCl ((ab_wd E sy u).set a (ab_ro E a, .inr (ci, ((List.range (ab_fs ci).length).map fun j => ab_fv E u a (ab_fk ci j) j).set kf v))) H1 → va_D A ((ab_wd E sy u).set a (ab_ro E a, .inr (ci, ((List.range (ab_fs ci).length).map fun j => ab_fv E u a (ab_fk ci j) j).set kf v))) → va_S A s.heap H1 locs1 → W p l e R s m args below meth c H1 locs1 cells slots Q (F0 m (pc + 3) ls rest) := by
    intro H1 locs1 g1 g2 g3
    rw [hset] at g1 g2
    exact kk H1 locs1 ⟨g1, g2, g3, hW'⟩
  rcases (show (ab_lk own k).1 = 0 ∨ (ab_lk own k).1 = 1 by omega) with h0 | h0
  · rw [h0] at w1 w2
    simp only [ab_isNest] at w2
    rw [← e1, ← e2] at w1 w2
    have w3 : _ ∈ ab_W0 := List.mem_filter.mpr ⟨w1, by rcases w2 with w2 | w2 | w2 <;> first | exact w2 | cases w2⟩
    exact va_put hx hb (T := ab_TT ci) (ref := ab_cn ci) hts (ab_ww h4) (ab_tt ci) (ab_ty_ok h4) (ab_nm_ok h4) hown hK hP hD hS a (ab_wd_at E h6) (ab_vw h4) kf h5 (hts _ w3) (fun x hx => by rw [hown1] at hx; exact hx) hfin (by rw [ab_ty_ok h4 kf h5, hty]) hn hfit (by simpa using h5) hd hkk
  · rw [h0] at w1
    rw [← e1, ← e2] at w1
    have w3 := va_Nw.use (A := args) rfl (hNW _ w1 rfl)
    exact va_putN hx hb (T := ab_TT ci) (ref := ab_cn ci) hts (ab_ww h4) (ab_tt ci) (ab_ty_ok h4) (ab_nm_ok h4) hown hK hP hD hS a (ab_wd_at E h6) (ab_vw h4) kf h5 w3 (fun x hx => by rw [hown1] at hx; exact hx) hfin (by rw [ab_ty_ok h4 kf h5, hty]) hn hfit (by simpa using h5) hd hkk
theorem ab_put_ok {t : ab_T} {a k : Nat} {v : ab_V} {u' : ab_S} {g : List Bool} (F : ab_F p s m args c E sy own b A) (X : ab_X E sy A s u H locs) (hia : ab_ia sy t a) (hv : ab_ok sy v) (hd : decode b pc = .ok (.putfield k, 3)) (h : ab_pf (ab_lk own k) t a v u = some (g, u')) (hg : g.all id = true)
    (kk : ∀ (H1 : Heap) (locs1 : List Loc), ab_X E sy A s u' H1 locs1 → W p l e R s m args below meth c H1 locs1 cells slots Q (F0 m (pc + 3) ls rest)) : W p l e R s m args below meth c H locs cells slots Q (F0 m pc ls (ab_vm E v :: .ref (ab_re E t a) :: rest)) := by
  have F2 := F
  have X2 := X
  obtain ⟨hx, hb, hown, hts, hNW, hK, hSF, ho, hs⟩ := F
  obtain ⟨hP, hD, hS, hW⟩ := X
  cases t with
  | inr z => cases h
  | inl ci =>
    unfold ab_pf at h
    dsimp only at h
    cases hc : (Nat.beq ci (ab_lk own k).2.1 && Nat.ble (ab_lk own k).1 1) with
    | false => rw [hc] at h; cases h
    | true =>
      rw [hc] at h
      dsimp only [cond] at h
      rw [Bool.and_eq_true] at hc
      have e1 := Nat.eq_of_beq_eq_true hc.1
      have hq := Nat.le_of_ble_eq_true hc.2
      obtain ⟨-, -, h3⟩ := ab_lk_ok (k := k) ho (by omega)
      obtain ⟨h4, h5⟩ := h3 hq
      rw [← e1] at h4 h5
      have h6 : (ab_sh sy)[a]? = some (kO ci) := by
        simp only [ab_ia] at hia
        rwa [if_pos (by omega)] at hia
      have h9 := ab_kd h4 h5
      unfold ab_kdB at h9
      rw [ab_re_ro E hs h6]
      generalize hkf : (ab_lk own k).2.2.1 = kf at h h5 h9
      split at h
      · rename_i ec
        cases h
        rw [ec] at h9
        simp only [Bool.and_eq_true, decide_eq_true_eq, Bool.not_eq_true'] at h9
        exact ab_putraw F2 X2 hd hq e1 hkf.symm h6 h9.2.1 h9.2.2 rfl rfl (ab_obj_sI E (Or.inl ec)) (fun b s hb _ => ab_cell_sI E hb) hW kk
      · rename_i x ec
        cases h
        rw [ec] at h9
        simp only [Bool.and_eq_true, decide_eq_true_eq, Bool.not_eq_true'] at h9
        have hx1 : ab_b1 x = true := by simpa using hg
        have hx2 : x = 0 ∨ x = 1 := by simpa [ab_b1] using hx1
        exact ab_putraw F2 X2 hd hq e1 hkf.symm h6 h9.2.1 h9.2.2 (by rcases hx2 with rfl | rfl <;> rfl) (by rcases hx2 with rfl | rfl <;> rfl) (ab_obj_sI E (Or.inr ec)) (fun b s hb _ => ab_cell_sI E hb) hW kk
      · rename_i ec
        cases h
        rw [ec] at h9
        simp only [Bool.and_eq_true, decide_eq_true_eq, Bool.not_eq_true'] at h9
        exact ab_putraw F2 X2 hd hq e1 hkf.symm h6 h9.2.1 h9.2.2 rfl rfl (ab_obj_sJ E ec) (fun b s hb _ => ab_cell_sJ E hb) hW kk
      · rename_i d b2 ec
        rw [ec] at h9
        simp only [Bool.and_eq_true, decide_eq_true_eq, Bool.not_eq_true'] at h9
        obtain ⟨-, ⟨⟨⟨⟨⟨⟨ht, hf⟩, h8⟩, hk1⟩, hk5⟩, hj⟩, htag⟩⟩ := h9
        cases hcc : (Nat.beq ci 8 && Nat.beq d (if kf < 3 then 2 else 7)) with
        | false => rw [hcc] at h; cases h
        | true =>
          rw [hcc] at h
          cases h
          rw [Bool.and_eq_true] at hcc
          have hdd := Nat.eq_of_beq_eq_true hcc.2
          subst h8
          obtain ⟨hs0, ha0⟩ := ab_sh8 hs h6
          subst hs0
          subst ha0
          have hd20 : d < 20 := by rw [hdd]; split <;> omega
          have hb2 : (ab_sh 0)[b2]? = some (kO d) := by
            simp only [ab_ok, ab_ia] at hv
            rwa [if_pos hd20] at hv
          have hvm : ab_vm E (.inr (.inr (.inl d, b2))) = .ref (ab_ro E b2) := congrArg Value.ref (ab_re_ro E hs hb2)
          rw [hvm]
          refine ab_putraw F2 X2 hd hq e1 hkf.symm h6 ht hf rfl rfl (ab_obj_sM E ⟨hk1, hk5⟩) (fun b s hb hsh => ab_cell_sM E (fun q => ?_)) ?_ kk
          · rw [q] at hsh
            exact hb (ab_sh8 hs hsh).2
          · intro j hj4 _
            show ab_sh0[if j = kf - 1 then b2 else u.2.2 j]? = _
            by_cases ej : j = kf - 1
            · rw [if_pos ej]
              rw [show (if j < 2 then kO 2 else kO 7) = kO d by
                rw [hdd]
                by_cases q : kf < 3
                · rw [if_pos q, if_pos (by omega)]
                · rw [if_neg q, if_neg (by omega)]]
              exact hb2
            · rw [if_neg ej]
              exact hW j hj4 rfl
      · cases h
theorem ab_gst_ok {k : Nat} {v : ab_V} (F : ab_F p s m args c E sy own b A) (X : ab_X E sy A s u H locs) (hd : decode b pc = .ok (.getstatic k, 3)) (h : ab_gs (ab_lk own k) = some v) :
    ab_ok sy v ∧ (W p l e R s m args below meth c H locs cells slots Q (F0 m (pc + 3) ls (ab_vm E v :: rest)) → W p l e R s m args below meth c H locs cells slots Q (F0 m pc ls rest)) := by
  obtain ⟨hx, hb, hown, hts, hNW, hK, hSF, ho, hs⟩ := F
  obtain ⟨hP, hD, hS, hW⟩ := X
  obtain ⟨f1, f2, f3, f4, f5, f6⟩ := hSF
  unfold ab_gs at h
  split at h
  · rename_i hq
    cases h
    obtain ⟨w1, w2, -⟩ := ab_lk_ok (k := k) ho (by omega)
    unfold ab_lkw at w1 w2
    rw [hq] at w1 w2
    simp only [ab_isNest] at w2
    have w3 : _ ∈ ab_W0 := List.mem_filter.mpr ⟨w1, by rcases w2 with w2 | w2 | w2 <;> first | exact w2 | cases w2⟩
    have hi := ab_w23' ho hq
    exact ⟨hi, fun kk => va_gets hx hb (f1 _ hi).1 hS hown (hts _ w3) (fun x hx => hx) hd kk⟩
  · rename_i hq
    cases h
    obtain ⟨w1, w2, -⟩ := ab_lk_ok (k := k) ho (by omega)
    unfold ab_lkw at w1 w2
    rw [hq] at w1 w2
    simp only [ab_isNest] at w2
    have w3 : _ ∈ ab_W0 := List.mem_filter.mpr ⟨w1, by rcases w2 with w2 | w2 | w2 <;> first | exact w2 | cases w2⟩
    exact ⟨⟨by omega, by omega, rfl⟩, fun kk => va_gets hx hb f2 hS hown (hts _ w3) (fun x hx => hx) hd kk⟩
  · rename_i hq
    cases h
    obtain ⟨w1, w2, -⟩ := ab_lk_ok (k := k) ho (by omega)
    unfold ab_lkw at w1
    rw [hq] at w1
    have w3 := va_Nw.use (A := args) rfl (hNW _ w1 rfl)
    exact ⟨⟨by omega, by omega, rfl⟩, fun kk => va_getsN hx hb f2 hS hown w3 (fun x hx => hx) hd kk⟩
  · rename_i hq
    cases h
    obtain ⟨w1, w2, -⟩ := ab_lk_ok (k := k) ho (by omega)
    unfold ab_lkw at w1 w2
    rw [hq] at w1 w2
    simp only [ab_isNest] at w2
    have w3 : _ ∈ ab_W0 := List.mem_filter.mpr ⟨w1, by rcases w2 with w2 | w2 | w2 <;> first | exact w2 | cases w2⟩
    exact ⟨trivial, fun kk => va_gets hx hb f6 hS hown (hts _ w3) (fun x hx => hx) hd kk⟩
  · cases h
/-- a row of the pool at its place -/
theorem ab_row {a e' n : Nat} (hs : sy < 2) (hia : ab_ia sy (kA e' n) a) (he : e' < 6) : (ab_sh sy)[a]? = some (kA e' n) ∧ (ab_wd E sy u)[a]? = some (ab_ro E a, ab_cell E u a (kA e' n)) ∧ ab_re E (kA e' n) a = ab_ro E a := by
  have h6 : (ab_sh sy)[a]? = some (kA e' n) := by
    simp only [ab_ia] at hia
    rwa [if_pos he] at hia
  exact ⟨h6, ab_wd_at E h6, ab_re_ro E hs h6⟩
end ABS
end
section
/-! one instruction, and a stretch of them -/
def ab_oks (sy : Nat) (st : List ab_V) : Prop := ∀ v ∈ st, ab_ok sy v
theorem ab_oks.hd {sy : Nat} {v : ab_V} {r : List ab_V} (h : ab_oks sy (v :: r)) : ab_ok sy v := h v List.mem_cons_self
theorem ab_oks.tl {sy : Nat} {v : ab_V} {r : List ab_V} (h : ab_oks sy (v :: r)) : ab_oks sy r := fun w hw => h w (List.mem_cons_of_mem _ hw)
theorem ab_oks.cons {sy : Nat} {v : ab_V} {r : List ab_V} (hv : ab_ok sy v) (h : ab_oks sy r) : ab_oks sy (v :: r) := fun w hw => (List.mem_cons.mp hw).elim (fun e => by rw [e]; exact hv) (h w)
theorem ab_g1 {g : Bool} (h : [g].all id = true) : g = true := by simpa using h
theorem ab_g2 {g k : Bool} (h : [g, k].all id = true) : g = true ∧ k = true := by simpa using h
theorem ab_nz {P : Prop} [Decidable P] (h : [decide P].all id = true) : P := by simpa using h
theorem ab_s75B : (List.range 15).all (fun o => (ab_lks o).all (fun p => p.2.1 != 7 || (o == 6 && p.1 == 75))) = true := by decide +kernel
theorem ab_s75 {own k : Nat} (h : own < 15) (hq : (ab_lk own k).1 = 7) : own = 6 ∧ k = 75 := by
  cases hl : (ab_lks own).lookup k with
  | none => rw [show (ab_lk own k).1 = 99 from by unfold ab_lk; rw [hl]; rfl] at hq; omega
  | some q =>
    have e : ab_lk own k = q := by unfold ab_lk; rw [hl]; rfl
    have h1 := List.all_eq_true.mp (List.all_eq_true.mp ab_s75B own (List.mem_range.mpr h)) (k, q) (ab_look hl)
    rw [e] at hq
    simpa [hq] using h1
theorem ab_c1_eq {x : Int32} (h : ab_c1 x = true) : vp_nar .char x = x := by simpa [ab_c1] using h
theorem ab_b1_eq {x : Int32} (h : ab_b1 x = true) : vp_nar .boolean x = x := by
  have h2 : x = 0 ∨ x = 1 := by simpa [ab_b1] using h
  rcases h2 with rfl | rfl <;> rfl
section ABT
variable {p : Program} {l : Launch} {e : Env} {R : Room} {s : State} {m : MethodId} {args : Array Value} {below : List Frame} {meth : Method} {c : Code} {H : Heap} {locs : List Loc} {cells slots : Nat} {Q : State → Prop} {E : ab_E} {sy own : Nat} {b : ByteArray} {A : Nat → Prop} {u : ab_S} {pc : Nat} {ls : Array Slot}
set_option maxHeartbeats 4000000 in
theorem ab_sti_ok {i : Instr} {n : Nat} {st st' : List ab_V} {u' : ab_S} {g : List Bool} (F : ab_F p s m args c E sy own b A) (X : ab_X E sy A s u H locs) (hst : ab_oks sy st) (hd : decode b pc = .ok (i, n)) (hn : n = ab_ln i) (h : ab_sti own i st u = some (g, st', u')) (hg : g.all id = true)
    (kk : ∀ (H1 : Heap) (locs1 : List Loc), ab_X E sy A s u' H1 locs1 → ab_oks sy st' → W p l e R s m args below meth c H1 locs1 cells slots Q (F0 m (pc + n) ls (st'.map (ab_vm E)))) : W p l e R s m args below meth c H locs cells slots Q (F0 m pc ls (st.map (ab_vm E))) := by
  subst hn
  have F2 := F
  have X2 := X
  obtain ⟨hx, hb, hown, hts, hNW, hK, hSF, ho, hs⟩ := F
  obtain ⟨hP, hD, hS, hW⟩ := X
  unfold ab_sti at h
  split at h
  · cases h; exact lv_iadd hx hb hd (kk H locs X2 (hst.tl.tl.cons trivial))
  · cases h; exact lv_isub hx hb hd (kk H locs X2 (hst.tl.tl.cons trivial))
  · cases h; exact lv_imul hx hb hd (kk H locs X2 (hst.tl.tl.cons trivial))
  · cases h; exact lv_iand hx hb hd (kk H locs X2 (hst.tl.tl.cons trivial))
  · cases h; exact lv_ior hx hb hd (kk H locs X2 (hst.tl.tl.cons trivial))
  · cases h; exact lv_ixor hx hb hd (kk H locs X2 (hst.tl.tl.cons trivial))
  · cases h; exact lv_ineg hx hb hd (kk H locs X2 (hst.tl.cons trivial))
  · cases h; exact lv_ishl hx hb hd (kk H locs X2 (hst.tl.tl.cons trivial))
  · cases h; exact lv_ishr hx hb hd (kk H locs X2 (hst.tl.tl.cons trivial))
  · cases h; exact lv_iushr hx hb hd rfl (kk H locs X2 (hst.tl.tl.cons trivial))
  · cases h; exact lv_idiv hx hb hd (ab_nz hg) (kk H locs X2 (hst.tl.tl.cons trivial))
  · cases h; exact lv_irem hx hb hd (ab_nz hg) (kk H locs X2 (hst.tl.tl.cons trivial))
  · cases h; exact lv_ladd hx hb hd (kk H locs X2 (hst.tl.tl.cons trivial))
  · cases h; exact lv_lsub hx hb hd (kk H locs X2 (hst.tl.tl.cons trivial))
  · cases h; exact lv_lmul hx hb hd (kk H locs X2 (hst.tl.tl.cons trivial))
  · cases h; exact lv_land hx hb hd (kk H locs X2 (hst.tl.tl.cons trivial))
  · cases h; exact lv_lor hx hb hd (kk H locs X2 (hst.tl.tl.cons trivial))
  · cases h; exact lv_ldiv hx hb hd (ab_nz hg) (kk H locs X2 (hst.tl.tl.cons trivial))
  · cases h; exact lv_lrem hx hb hd (ab_nz hg) (kk H locs X2 (hst.tl.tl.cons trivial))
  · cases h; exact lv_lshl hx hb hd rfl (kk H locs X2 (hst.tl.tl.cons trivial))
  · cases h; exact lv_lshr hx hb hd rfl (kk H locs X2 (hst.tl.tl.cons trivial))
  · cases h; exact lv_lushr hx hb hd rfl (kk H locs X2 (hst.tl.tl.cons trivial))
  · cases h; exact lv_i2l hx hb hd rfl (kk H locs X2 (hst.tl.cons trivial))
  · cases h; exact lv_l2i hx hb hd rfl (kk H locs X2 (hst.tl.cons trivial))
  · cases h; exact lv_i2c hx hb hd rfl (kk H locs X2 (hst.tl.cons trivial))
  · cases h; exact lv_i2b hx hb hd rfl (kk H locs X2 (hst.tl.cons trivial))
  · cases h; exact W.lcmp hx hb hd (kk H locs X2 (hst.tl.tl.cons trivial))
  · cases h; exact lv_dup hx hb hd rfl (kk H locs X2 (hst.cons hst.hd))
  · cases h; exact lv_dup hx hb hd rfl (kk H locs X2 (hst.cons hst.hd))
  · cases h; exact lv_pop hx hb hd rfl (kk H locs X2 hst.tl)
  · cases h; exact lv_dup2_11 hx hb hd rfl rfl (kk H locs X2 ((hst.cons hst.tl.hd).cons hst.hd))
  · rename_i k t a r
    split at h
    · rename_i v hv
      cases h
      obtain ⟨h1, h2⟩ := ab_get_ok (l := l) (e := e) (R := R) (below := below) (meth := meth) (cells := cells) (slots := slots) (Q := Q) (ls := ls) (rest := r.map (ab_vm E)) F2 X2 hst.hd hd hv
      exact h2 (kk H locs X2 (hst.tl.cons h1))
    · cases h
  · rename_i k v t a r
    split at h
    · rename_i g1 u1 hv
      cases h
      exact ab_put_ok F2 X2 hst.tl.hd hst.hd hd hv hg (fun H1 locs1 X1 => kk H1 locs1 X1 hst.tl.tl)
    · cases h
  · rename_i k
    split at h
    · rename_i v hv
      cases h
      obtain ⟨h1, h2⟩ := ab_gst_ok (l := l) (e := e) (R := R) (below := below) (meth := meth) (cells := cells) (slots := slots) (Q := Q) (ls := ls) (rest := st.map (ab_vm E)) F2 X2 hd hv
      exact h2 (kk H locs X2 (hst.cons h1))
    · cases h
  · rename_i k
    cases hq : Nat.beq (ab_lk own k).1 7 with
    | false => rw [hq] at h; cases h
    | true =>
      rw [hq] at h
      cases h
      have hq7 := Nat.eq_of_beq_eq_true hq
      obtain ⟨w1, -, -⟩ := ab_lk_ok (k := k) ho (by omega)
      obtain ⟨ho6, hk75⟩ := ab_s75 ho hq7
      subst ho6
      subst hk75
      exact va_ldcS hx hb hown hSF.2.2.2.2.1 hd (kk H locs X2 (hst.cons (show (0 : Nat) < 1 by omega)))
  · rename_i e0 n0 a r
    cases h
    by_cases he : e0 < 6
    · obtain ⟨g1, g2, g3⟩ := ab_row (E := E) (u := u) (e' := e0) (n := n0) (a := a) hs hst.hd he
      show W p l e R s m args below meth c H locs cells slots Q (F0 m pc ls (.ref (ab_re E (kA e0 n0) a) :: r.map (ab_vm E)))
      rw [g3]
      exact va_alen hx hb hK hP a e0 g2 (ab_ty_at E he) rfl hd (kk H locs X2 (hst.tl.cons trivial))
    · have hia : a < 1 ∧ e0 < 8 ∧ n0 = (if e0 = 6 then 23 else 8) := by
        have h1 : ab_ia sy (kA e0 n0) a := hst.hd
        simp only [ab_ia] at h1
        rwa [if_neg he] at h1
      obtain ⟨ha, he8, hn0⟩ := hia
      have ha0 : a = 0 := by omega
      subst ha0
      rcases (show e0 = 6 ∨ e0 = 7 by omega) with rfl | rfl
      · subst hn0
        exact va_tlen hx hb hSF.2.2.1 hS rfl hd (kk H locs X2 (hst.tl.cons trivial))
      · subst hn0
        exact va_tlen hx hb (hSF.2.2.2.1.1 0 (by omega)).2.2.2 hS rfl hd (kk H locs X2 (hst.tl.cons trivial))
  · rename_i i0 n0 a r
    cases h
    obtain ⟨g1, g2, g3⟩ := ab_row (E := E) (u := u) (e' := 0) (n := n0) (a := a) hs hst.tl.hd (by omega)
    show W p l e R s m args below meth c H locs cells slots Q (F0 m pc ls (.int i0 :: .ref (ab_re E (kA 0 n0) a) :: r.map (ab_vm E)))
    rw [g3]
    exact va_iald hx hb hK hP a 0 g2 (ab_ty_at E (e := 0) (by omega)) (ab_ix_in (ab_g1 hg)) hd (kk H locs X2 (hst.tl.tl.cons trivial))
  · rename_i i0 n0 a r
    cases h
    obtain ⟨g1, g2, g3⟩ := ab_row (E := E) (u := u) (e' := 2) (n := n0) (a := a) hs hst.tl.hd (by omega)
    show W p l e R s m args below meth c H locs cells slots Q (F0 m pc ls (.int i0 :: .ref (ab_re E (kA 2 n0) a) :: r.map (ab_vm E)))
    rw [g3]
    exact va_cald hx hb hK hP a 2 g2 (ab_ty_at E (e := 2) (by omega)) (ab_ix_in (ab_g1 hg)) hd (kk H locs X2 (hst.tl.tl.cons trivial))
  · rename_i i0 n0 a r
    cases h
    obtain ⟨g1, g2, g3⟩ := ab_row (E := E) (u := u) (e' := 3) (n := n0) (a := a) hs hst.tl.hd (by omega)
    show W p l e R s m args below meth c H locs cells slots Q (F0 m pc ls (.int i0 :: .ref (ab_re E (kA 3 n0) a) :: r.map (ab_vm E)))
    rw [g3]
    exact va_zald hx hb hK hP a 3 g2 (ab_ty_at E (e := 3) (by omega)) (ab_ix_in (ab_g1 hg)) hd (kk H locs X2 (hst.tl.tl.cons trivial))
  · rename_i i0 n0 a r
    cases h
    have hia : a < 1 ∧ 7 < 8 ∧ n0 = 8 := hst.tl.hd
    obtain ⟨ha, -, hn0⟩ := hia
    have ha0 : a = 0 := by omega
    subst ha0
    exact va_tb hx hb (hSF.2.2.2.1.1 0 (by omega)).2.2.2 hS (ab_ix_in (ab_g1 hg)) rfl hd (kk H locs X2 (hst.tl.tl.cons trivial))
  · rename_i i0 n0 a r
    cases h
    obtain ⟨g1, g2, g3⟩ := ab_row (E := E) (u := u) (e' := 1) (n := n0) (a := a) hs hst.tl.hd (by omega)
    show W p l e R s m args below meth c H locs cells slots Q (F0 m pc ls (.int i0 :: .ref (ab_re E (kA 1 n0) a) :: r.map (ab_vm E)))
    rw [g3]
    exact va_lald hx hb hK hP a 1 g2 (ab_ty_at E (e := 1) (by omega)) (ab_ix_in (ab_g1 hg)) hd (kk H locs X2 (hst.tl.tl.cons trivial))
  · rename_i i0 n0 a r
    cases h
    obtain ⟨g1, g2, g3⟩ := ab_row (E := E) (u := u) (e' := 4) (n := n0) (a := a) hs hst.tl.hd (by omega)
    have hl := (ab_layA hs g1).2 (by omega) (nc i0) (ab_ix_lt (ab_g1 hg))
    show W p l e R s m args below meth c H locs cells slots Q (F0 m pc ls (.int i0 :: .ref (ab_re E (kA 4 n0) a) :: r.map (ab_vm E)))
    rw [g3]
    refine va_aldq hx hb hK hP a 4 g2 (ab_ty_at E (e := 4) (by omega)) (ab_ix_in (ab_g1 hg)) hd ?_
    have k1 := kk H locs X2 (hst.tl.tl.cons (ab_ia_of hs hl))
    have e1 : ab_vm E (vR (kO 5) (a + 1 + 4 * nc i0)) = .ref (ab_ro E (a + 1 + 4 * nc i0)) := congrArg Value.ref (ab_re_ro E hs hl)
    rw [List.map_cons, e1] at k1
    exact k1
  · rename_i i0 n0 a r
    cases h
    obtain ⟨g1, g2, g3⟩ := ab_row (E := E) (u := u) (e' := 5) (n := n0) (a := a) hs hst.tl.hd (by omega)
    have hl := (ab_layA hs g1).2 (by omega) (nc i0) (ab_ix_lt (ab_g1 hg))
    show W p l e R s m args below meth c H locs cells slots Q (F0 m pc ls (.int i0 :: .ref (ab_re E (kA 5 n0) a) :: r.map (ab_vm E)))
    rw [g3]
    refine va_aldq hx hb hK hP a 5 g2 (ab_ty_at E (e := 5) (by omega)) (ab_ix_in (ab_g1 hg)) hd ?_
    have k1 := kk H locs X2 (hst.tl.tl.cons (ab_ia_of hs hl))
    have e1 : ab_vm E (vR (kO 4) (a + 1 + 4 * nc i0)) = .ref (ab_ro E (a + 1 + 4 * nc i0)) := congrArg Value.ref (ab_re_ro E hs hl)
    rw [List.map_cons, e1] at k1
    exact k1
  · rename_i i0 n0 a r
    cases h
    have hia : a < 1 ∧ 6 < 8 ∧ n0 = 23 := hst.tl.hd
    obtain ⟨ha, -, hn0⟩ := hia
    have ha0 : a = 0 := by omega
    subst ha0
    have hi := ab_ix_lt (ab_g1 hg)
    exact vb_tq hx hb hSF.2.2.1 hS (ab_ix_in (ab_g1 hg)) rfl hd (kk H locs X2 (hst.tl.tl.cons hi))
  · rename_i x0 i0 n0 a r
    cases h
    obtain ⟨g1, g2, g3⟩ := ab_row (E := E) (u := u) (e' := 0) (n := n0) (a := a) hs hst.tl.tl.hd (by omega)
    show W p l e R s m args below meth c H locs cells slots Q (F0 m pc ls (.int x0 :: .int i0 :: .ref (ab_re E (kA 0 n0) a) :: st'.map (ab_vm E)))
    rw [g3]
    refine va_iast hx hb hK hP hD hS a 0 g2 (ab_ty_at E (e := 0) (by omega)) (ab_ix_in (ab_g1 hg)) hd (fun H1 locs1 h1 h2 h3 => ?_)
    have hset := ab_wd_set E g1 (ab_arr_sI E (by omega)).symm (fun b s hb _ => ab_cell_sI E hb) (u := u) (u' := sI u a (nc i0) x0)
    exact kk H1 locs1 ⟨by rw [← hset]; exact h1, by rw [← hset]; exact h2, h3, hW⟩ hst.tl.tl.tl
  · rename_i x0 i0 n0 a r
    cases h
    obtain ⟨g1, g2, g3⟩ := ab_row (E := E) (u := u) (e' := 2) (n := n0) (a := a) hs hst.tl.tl.hd (by omega)
    show W p l e R s m args below meth c H locs cells slots Q (F0 m pc ls (.int x0 :: .int i0 :: .ref (ab_re E (kA 2 n0) a) :: st'.map (ab_vm E)))
    rw [g3]
    refine va_cast hx hb hK hP hD hS a 2 g2 (ab_ty_at E (e := 2) (by omega)) (ab_ix_in (ab_g2 hg).1) hd (fun H1 locs1 h1 h2 h3 => ?_)
    rw [ab_c1_eq (ab_g2 hg).2] at h1 h2
    have hset := ab_wd_set E g1 (ab_arr_sI E (by omega)).symm (fun b s hb _ => ab_cell_sI E hb) (u := u) (u' := sI u a (nc i0) x0)
    exact kk H1 locs1 ⟨by rw [← hset]; exact h1, by rw [← hset]; exact h2, h3, hW⟩ hst.tl.tl.tl
  · rename_i x0 i0 n0 a r
    cases h
    obtain ⟨g1, g2, g3⟩ := ab_row (E := E) (u := u) (e' := 3) (n := n0) (a := a) hs hst.tl.tl.hd (by omega)
    show W p l e R s m args below meth c H locs cells slots Q (F0 m pc ls (.int x0 :: .int i0 :: .ref (ab_re E (kA 3 n0) a) :: st'.map (ab_vm E)))
    rw [g3]
    refine va_zast hx hb hK hP hD hS a 3 g2 (ab_ty_at E (e := 3) (by omega)) (ab_ix_in (ab_g2 hg).1) hd (fun H1 locs1 h1 h2 h3 => ?_)
    rw [ab_b1_eq (ab_g2 hg).2] at h1 h2
    have hset := ab_wd_set E g1 (ab_arr_sI E (by omega)).symm (fun b s hb _ => ab_cell_sI E hb) (u := u) (u' := sI u a (nc i0) x0)
    exact kk H1 locs1 ⟨by rw [← hset]; exact h1, by rw [← hset]; exact h2, h3, hW⟩ hst.tl.tl.tl
  · rename_i x0 i0 n0 a r
    cases h
    obtain ⟨g1, g2, g3⟩ := ab_row (E := E) (u := u) (e' := 1) (n := n0) (a := a) hs hst.tl.tl.hd (by omega)
    show W p l e R s m args below meth c H locs cells slots Q (F0 m pc ls (.long x0 :: .int i0 :: .ref (ab_re E (kA 1 n0) a) :: st'.map (ab_vm E)))
    rw [g3]
    refine va_last hx hb hK hP hD hS a 1 g2 (ab_ty_at E (e := 1) (by omega)) (ab_ix_in (ab_g1 hg)) hd (fun H1 locs1 h1 h2 h3 => ?_)
    have hset := ab_wd_set E g1 (ab_arr_sJ E).symm (fun b s hb _ => ab_cell_sJ E hb) (u := u) (u' := sJ u a (nc i0) x0)
    exact kk H1 locs1 ⟨by rw [← hset]; exact h1, by rw [← hset]; exact h2, h3, hW⟩ hst.tl.tl.tl
  · cases h
end ABT
end
section
/-! stretches, the judgement on a place in a method, its rows -/
theorem ab_stp_ok {p : Program} {l : Launch} {e : Env} {R : Room} {s : State} {m : MethodId} {args : Array Value} {below : List Frame} {meth : Method} {c : Code} {H : Heap} {locs : List Loc} {cells slots : Nat} {Q : State → Prop} {E : ab_E} {sy own : Nat} {b : ByteArray} {A : Nat → Prop} {u : ab_S} {pc : Nat} {ls : Array Slot}
    {o : ab_O} {n : Nat} {L L' : List (Option ab_V)} {st st' : List ab_V} {u' : ab_S} {g : List Bool} (F : ab_F p s m args c E sy own b A) (X : ab_X E sy A s u H locs) (hl : ab_hl E ls L) (hL : ∀ (j : Nat) (w : ab_V), L[j]? = some (some w) → ab_ok sy w) (hst : ab_oks sy st) (hd : ab_dc own b pc o n = true) (h : ab_stp own o L st u = some (g, L', st', u')) (hg : g.all id = true)
    (kk : ∀ (H1 : Heap) (locs1 : List Loc) (ls1 : Array Slot), ab_X E sy A s u' H1 locs1 → ab_hl E ls1 L' → L'.length = L.length → (∀ (j : Nat) (w : ab_V), L'[j]? = some (some w) → ab_ok sy w) → ab_oks sy st' → W p l e R s m args below meth c H1 locs1 cells slots Q (F0 m (pc + n) ls1 (st'.map (ab_vm E)))) : W p l e R s m args below meth c H locs cells slots Q (F0 m pc ls (st.map (ab_vm E))) := by
  obtain ⟨i, hdec, hn, hm⟩ := ab_dc_ok hd
  obtain ⟨hx, hb, hown, hts, hNW, hK, hSF, ho, hs⟩ := id F
  rcases o with (j | ⟨k, x⟩) | ((x | x) | ⟨k, z⟩)
  · -- a plain one
    have hij : i = j := by simpa [ab_om] using hm
    subst hij
    simp only [ab_stp] at h
    split at h
    · rename_i g0 st0 u0 hq
      cases h
      exact ab_sti_ok F X hst hdec hn hq hg (fun H1 locs1 X1 h1 => kk H1 locs1 ls X1 hl rfl hL h1)
    · cases h
  · -- a place
    simp only [ab_stp] at h
    split at h
    · rename_i L0 st0 hq
      cases h
      simp only [ab_om] at hm
      subst hn
      unfold ab_stl at hq
      split at hq
      · split at hq
        · rename_i y hy
          cases hq
          have hat := hl.at hy
          cases i with
          | iload k => have e1 : k = x := by simpa [ab_ol] using hm
                       subst e1
                       exact lv_iload hx hb hdec hat (kk H locs ls X hl rfl hL (hst.cons trivial))
          | iload_n k => have e1 : k.val = x := by simpa [ab_ol] using hm
                         exact lv_iload_n hx hb hdec e1 hat (kk H locs ls X hl rfl hL (hst.cons trivial))
          | _ => simp [ab_ol] at hm
        · cases hq
      · split at hq
        · rename_i y hy
          cases hq
          have hat := hl.at hy
          cases i with
          | lload k => have e1 : k = x := by simpa [ab_ol] using hm
                       subst e1
                       exact lv_lload hx hb hdec hat (kk H locs ls X hl rfl hL (hst.cons trivial))
          | lload_n k => have e1 : k.val = x := by simpa [ab_ol] using hm
                         exact lv_lload_n hx hb hdec e1 hat (kk H locs ls X hl rfl hL (hst.cons trivial))
          | _ => simp [ab_ol] at hm
        · cases hq
      · split at hq
        · rename_i y hy
          cases hq
          have hat := hl.at hy
          cases i with
          | aload k => have e1 : k = x := by simpa [ab_ol] using hm
                       subst e1
                       exact lv_aload hx hb hdec hat (kk H locs ls X hl rfl hL (hst.cons (hL _ _ hy)))
          | aload_n k => have e1 : k.val = x := by simpa [ab_ol] using hm
                         exact lv_aload_n hx hb hdec e1 hat (kk H locs ls X hl rfl hL (hst.cons (hL _ _ hy)))
          | _ => simp [ab_ol] at hm
        · cases hq
      · split at hq
        · rename_i y r
          cases hc : Nat.blt x L.length with
          | false => rw [hc] at hq; cases hq
          | true =>
            rw [hc] at hq
            cases hq
            have hlt : x < L.length := Nat.le_of_ble_eq_true hc
            cases i with
            | istore k => have e1 : k = x := by simpa [ab_ol] using hm
                          subst e1
                          exact lv_istore hx hb hdec hl hlt rfl (fun ls1 h1 => kk H locs ls1 X (ab_hl.st1 h1) (ab_st1_len _ _ _) (ab_ok_st1 hL trivial) hst.tl)
            | istore_n k => have e1 : k.val = x := by simpa [ab_ol] using hm
                            exact lv_istore_n hx hb hdec e1 hl hlt rfl (fun ls1 h1 => kk H locs ls1 X (ab_hl.st1 h1) (ab_st1_len _ _ _) (ab_ok_st1 hL trivial) hst.tl)
            | _ => simp [ab_ol] at hm
        · cases hq
      · split at hq
        · rename_i y r
          cases hc : Nat.blt (x + 1) L.length with
          | false => rw [hc] at hq; cases hq
          | true =>
            rw [hc] at hq
            cases hq
            have hlt : x + 1 < L.length := Nat.le_of_ble_eq_true hc
            cases i with
            | lstore k => have e1 : k = x := by simpa [ab_ol] using hm
                          subst e1
                          exact lv_lstore hx hb hdec hl hlt rfl (fun ls1 h1 => kk H locs ls1 X (ab_hl.st2 h1) (ab_st2_len _ _ _) (ab_ok_st2 hL trivial) hst.tl)
            | lstore_n k => have e1 : k.val = x := by simpa [ab_ol] using hm
                            exact lv_lstore_n hx hb hdec e1 hl hlt rfl (fun ls1 h1 => kk H locs ls1 X (ab_hl.st2 h1) (ab_st2_len _ _ _) (ab_ok_st2 hL trivial) hst.tl)
            | _ => simp [ab_ol] at hm
        · cases hq
      · split at hq
        · rename_i y r
          cases hc : Nat.blt x L.length with
          | false => rw [hc] at hq; cases hq
          | true =>
            rw [hc] at hq
            cases hq
            have hlt : x < L.length := Nat.le_of_ble_eq_true hc
            cases i with
            | astore k => have e1 : k = x := by simpa [ab_ol] using hm
                          subst e1
                          exact lv_astore hx hb hdec hl hlt rfl (fun ls1 h1 => kk H locs ls1 X (ab_hl.st1 h1) (ab_st1_len _ _ _) (ab_ok_st1 hL hst.hd) hst.tl)
            | astore_n k => have e1 : k.val = x := by simpa [ab_ol] using hm
                            exact lv_astore_n hx hb hdec e1 hl hlt rfl (fun ls1 h1 => kk H locs ls1 X (ab_hl.st1 h1) (ab_st1_len _ _ _) (ab_ok_st1 hL hst.hd) hst.tl)
            | _ => simp [ab_ol] at hm
        · cases hq
      · cases hq
    · cases h
  · -- a number
    simp only [ab_stp] at h
    cases h
    simp only [ab_om] at hm
    subst hn
    have k1 := kk H locs ls X hl rfl hL (hst.cons trivial)
    cases i with
    | iconst v => have e1 : Int32.ofInt v = x := by simpa [ab_oc] using hm
                  exact lv_iconst hx hb hdec e1 k1
    | bipush v => have e1 : (Int8.ofInt v).toInt32 = x := by simpa [ab_oc] using hm
                  exact lv_bipush hx hb hdec e1 k1
    | sipush v => have e1 : (Int16.ofInt v).toInt32 = x := by simpa [ab_oc] using hm
                  exact lv_sipush hx hb hdec e1 k1
    | ldc k =>
      have e1 : (ab_lk own k).1 = 2 ∧ Int32.ofInt (ab_lk own k).2.2.2 = x := by simpa [ab_oc] using hm
      obtain ⟨w1, w2, -⟩ := ab_lk_ok (k := k) ho (by omega)
      unfold ab_lkw at w1 w2
      rw [e1.1] at w1 w2
      simp only [ab_isNest] at w2
      have w3 : _ ∈ ab_W0 := List.mem_filter.mpr ⟨w1, by rcases w2 with w2 | w2 | w2 <;> first | exact w2 | cases w2⟩
      rw [e1.2] at w3
      exact lv_ldc hx hb hown (hts _ w3) hdec k1
    | ldc_w k =>
      have e1 : (ab_lk own k).1 = 2 ∧ Int32.ofInt (ab_lk own k).2.2.2 = x := by simpa [ab_oc] using hm
      obtain ⟨w1, w2, -⟩ := ab_lk_ok (k := k) ho (by omega)
      unfold ab_lkw at w1 w2
      rw [e1.1] at w1 w2
      simp only [ab_isNest] at w2
      have w3 : _ ∈ ab_W0 := List.mem_filter.mpr ⟨w1, by rcases w2 with w2 | w2 | w2 <;> first | exact w2 | cases w2⟩
      rw [e1.2] at w3
      exact lv_ldcw hx hb hown (hts _ w3) hdec k1
    | _ => simp [ab_oc] at hm
  · -- a long number
    simp only [ab_stp] at h
    cases h
    simp only [ab_om] at hm
    subst hn
    have k1 := kk H locs ls X hl rfl hL (hst.cons trivial)
    cases i with
    | lconst v => have e1 : Int64.ofNat v = x := by simpa [ab_od] using hm
                  exact lv_lconst hx hb hdec e1 k1
    | ldc2_w k =>
      have e1 : (ab_lk own k).1 = 3 ∧ Int64.ofInt (ab_lk own k).2.2.2 = x := by simpa [ab_od] using hm
      obtain ⟨w1, w2, -⟩ := ab_lk_ok (k := k) ho (by omega)
      unfold ab_lkw at w1 w2
      rw [e1.1] at w1 w2
      simp only [ab_isNest] at w2
      have w3 : _ ∈ ab_W0 := List.mem_filter.mpr ⟨w1, by rcases w2 with w2 | w2 | w2 <;> first | exact w2 | cases w2⟩
      rw [e1.2] at w3
      exact lv_ldc2 hx hb hown (hts _ w3) hdec k1
    | _ => simp [ab_od] at hm
  · -- iinc
    simp only [ab_stp] at h
    split at h
    · rename_i y hy
      cases h
      simp only [ab_om] at hm
      subst hn
      cases i with
      | iinc k1 z1 =>
        have e1 : k1 = k ∧ Int32.ofInt z1 = z := by simpa [ab_on] using hm
        obtain ⟨e1, e2⟩ := e1
        subst e1
        obtain ⟨k2, hk2⟩ := List.getElem?_of_mem (ab_al_mem.mpr ⟨k1, _, hy, rfl⟩ : ((0 + k1, ab_vm E (.inl y)) : Nat × Value) ∈ ab_al E L 0)
        rw [Nat.zero_add] at hk2
        have hlt : k1 < L.length := (List.getElem?_eq_some_iff.mp hy).1
        exact lv_iinc hx hb hdec hl hk2 (by rw [e2]) hlt rfl (fun ls1 h1 => kk H locs ls1 X (ab_hl.st1 h1) (ab_st1_len _ _ _) (ab_ok_st1 hL trivial) hst)
      | _ => simp [ab_on] at hm
    · cases h
-- ===== stretches =====
def ab_seg (own : Nat) : List (ab_O × Nat) → List (Option ab_V) → List ab_V → ab_S → Option (List Bool × (List (Option ab_V) × (List ab_V × ab_S)))
  | [], L, st, u => some ([], L, st, u)
  | q :: r, L, st, u => match ab_stp own q.1 L st u with
    | some (g, L', st', u') => match ab_seg own r L' st' u' with
      | some (g2, x) => some (g ++ g2, x)
      | none => none
    | none => none
def ab_dcs (own : Nat) (b : ByteArray) : Nat → List (ab_O × Nat) → Bool
  | _, [] => true
  | pc, q :: r => ab_dc own b pc q.1 q.2 && ab_dcs own b (pc + q.2) r
def ab_sl : Nat → List (ab_O × Nat) → Nat
  | pc, [] => pc
  | pc, q :: r => ab_sl (pc + q.2) r
def ab_gd {α : Type} : List Bool → Option α → Option α
  | [], r => r
  | b :: l, r => bif b then ab_gd l r else none
theorem ab_gd_some {α : Type} {l : List Bool} {r : Option α} {x : α} (h : ab_gd l r = some x) : l.all id = true ∧ r = some x := by
  induction l with
  | nil => exact ⟨rfl, h⟩
  | cons b l ih =>
    cases b with
    | false => cases h
    | true => exact ⟨by simpa using (ih h).1, (ih h).2⟩
theorem ab_seg_ok {p : Program} {l : Launch} {e : Env} {R : Room} {s : State} {m : MethodId} {args : Array Value} {below : List Frame} {meth : Method} {c : Code} {cells slots : Nat} {Q : State → Prop} {E : ab_E} {sy own : Nat} {b : ByteArray} {A : Nat → Prop} (F : ab_F p s m args c E sy own b A) : ∀ (is : List (ab_O × Nat)) {H : Heap} {locs : List Loc} {u : ab_S} {pc : Nat} {ls : Array Slot} {L L' : List (Option ab_V)} {st st' : List ab_V} {u' : ab_S} {g : List Bool}
    (_ : ab_X E sy A s u H locs) (_ : ab_hl E ls L) (_ : ∀ (j : Nat) (w : ab_V), L[j]? = some (some w) → ab_ok sy w) (_ : ab_oks sy st) (_ : ab_dcs own b pc is = true) (_ : ab_seg own is L st u = some (g, L', st', u')) (_ : g.all id = true)
    (_ : ∀ (H1 : Heap) (locs1 : List Loc) (ls1 : Array Slot), ab_X E sy A s u' H1 locs1 → ab_hl E ls1 L' → L'.length = L.length → (∀ (j : Nat) (w : ab_V), L'[j]? = some (some w) → ab_ok sy w) → ab_oks sy st' → W p l e R s m args below meth c H1 locs1 cells slots Q (F0 m (ab_sl pc is) ls1 (st'.map (ab_vm E)))), W p l e R s m args below meth c H locs cells slots Q (F0 m pc ls (st.map (ab_vm E)))
  | [], H, locs, u, pc, ls, L, L', st, st', u', g, X, hl, hL, hst, hd, h, hg, kk => by
    cases h
    exact kk H locs ls X hl rfl hL hst
  | q :: r, H, locs, u, pc, ls, L, L', st, st', u', g, X, hl, hL, hst, hd, h, hg, kk => by
    simp only [ab_seg] at h
    split at h
    · rename_i g1 L1 st1 u1 h1
      split at h
      · rename_i g2 x h2
        cases h
        rw [List.all_append, Bool.and_eq_true] at hg
        simp only [ab_dcs, Bool.and_eq_true] at hd
        refine ab_stp_ok F X hl hL hst hd.1 h1 hg.1 (fun H1 locs1 ls1 X1 hl1 hn1 hL1 hst1 => ?_)
        exact ab_seg_ok F r X1 hl1 hL1 hst1 hd.2 h2 hg.2 (fun H2 locs2 ls2 X2 hl2 hn2 hL2 hst2 => kk H2 locs2 ls2 X2 hl2 (hn2.trans hn1) hL2 hst2)
      · cases h
    · cases h
-- ===== the judgement =====
def ab_A (E : ab_E) (sy : Nat) : Nat → Prop := fun q => ∃ a, a < (ab_sh sy).length ∧ q = ab_ro E a
def ab_rm (d : Nat) : Room := { frames := d, cells := 0, slots := 0, locals := 64 * d }
def ab_Q {τ : Type} (E : ab_E) (sy : Nat) (w : τ → Option ab_V) (x : τ) (u' : ab_S) : Array Value → State → Outcome → State → Prop := fun _ st o t =>
  o = .returned ((w x).map (ab_vm E)) ∧ va_P (E.1, E.2.1) vwCl (ab_wd E sy u') t.heap ∧ ab_WT sy u' ∧ va_F (ab_A E sy) st t
def wI (x : Int32) : Option ab_V := some (.inl x)
def wJ (x : Int64) : Option ab_V := some (.inr (.inl x))
def wV (_ : Unit) : Option ab_V := none
def ab_G {τ : Type} (sy own : Nat) (b : ByteArray) (rt : Option FieldType) (d pc : Nat) (L : List (Option ab_V)) (st : List ab_V) (u : ab_S) (w : τ → Option ab_V) (r : Option (τ × ab_S)) : Prop :=
  ∀ (x : τ) (u' : ab_S), r = some (x, u') → ∀ (p : Program) (l : Launch) (e : Env) (s : State) (m : MethodId) (args : Array Value) (below : List Frame) (meth : Method) (c : Code) (H : Heap) (locs : List Loc) (ls : Array Slot) (E : ab_E),
    l.flags = flags0 → ab_F p s m args c E sy own b (ab_A E sy) → meth.sig.returnType = rt → meth.locks = false → c.maxLocals = L.length → ab_X E sy (ab_A E sy) s u H locs → ab_hl E ls L → (∀ (j : Nat) (w : ab_V), L[j]? = some (some w) → ab_ok sy w) → ab_oks sy st →
    W p l e (ab_rm d) s m args below meth c H locs 0 0 (MQ below (ab_Q E sy w x u') args s 0 0 (ab_A E sy)) (F0 m pc ls (st.map (ab_vm E)))
section ABG
variable {τ : Type} {sy own : Nat} {b : ByteArray} {rt : Option FieldType} {d pc : Nat} {L : List (Option ab_V)} {st : List ab_V} {u : ab_S} {w : τ → Option ab_V} {r : Option (τ × ab_S)}
theorem g_none : ab_G sy own b rt d pc L st u w (none : Option (τ × ab_S)) := fun _ _ h => by cases h
theorem g_seg {pc' : Nat} {L' : List (Option ab_V)} {st' : List ab_V} {u1 : ab_S} {gs : List Bool} (is : List (ab_O × Nat)) (hd : ab_dcs own b pc is = true) (hp : ab_sl pc is = pc') (hr : ab_seg own is L st u = some (gs, L', st', u1)) (k : ab_G sy own b rt d pc' L' st' u1 w r) : ab_G sy own b rt d pc L st u w (ab_gd gs r) := by
  intro x u' hx p l e s m args below meth c H locs ls E hfl F hret hlk hml X hl hL hst
  obtain ⟨h1, h2⟩ := ab_gd_some hx
  refine ab_seg_ok F is X hl hL hst hd hr h1 (fun H1 locs1 ls1 X1 hl1 hn1 hL1 hst1 => ?_)
  rw [hp]
  exact k x u' h2 p l e s m args below meth c H1 locs1 ls1 E hfl F hret hlk (by rw [hn1]; exact hml) X1 hl1 hL1 hst1
theorem g_seg0 {pc' : Nat} {L' : List (Option ab_V)} {st' : List ab_V} {u1 : ab_S} (is : List (ab_O × Nat)) (hd : ab_dcs own b pc is = true) (hp : ab_sl pc is = pc') (hr : ab_seg own is L st u = some ([], L', st', u1)) (k : ab_G sy own b rt d pc' L' st' u1 w r) : ab_G sy own b rt d pc L st u w r :=
  g_seg is hd hp hr k
theorem g_weak {L' : List (Option ab_V)} (hn : L'.length = L.length) (hw : ∀ (i : Nat) (v : ab_V), L'[i]? = some (some v) → L[i]? = some (some v)) (k : ab_G sy own b rt d pc L' st u w r) : ab_G sy own b rt d pc L st u w r := by
  intro x u' hx p l e s m args below meth c H locs ls E hfl F hret hlk hml X hl hL hst
  exact k x u' hx p l e s m args below meth c H locs ls E hfl F hret hlk (by rw [hn]; exact hml) X (hl.weak hn hw) (fun j v h => hL j v (hw j v h)) hst
theorem g_goto {off : Int} {tgt : Nat} (hd : decode b pc = .ok (.goto off, 3)) (ht : (pc : Int) + off = (tgt : Int)) (k : ab_G sy own b rt d tgt L st u w r) : ab_G sy own b rt d pc L st u w r := by
  intro x u' hx p l e s m args below meth c H locs ls E hfl F hret hlk hml X hl hL hst
  exact lv_goto F.1 F.2.1 hd ht (k x u' hx p l e s m args below meth c H locs ls E hfl F hret hlk hml X hl hL hst)
theorem g_ifnull {off : Int} {pc2 : Nat} {q : ab_T × Nat} (hd : decode b pc = .ok (.ifnull off, 3)) (hp : pc + 3 = pc2) (k : ab_G sy own b rt d pc2 L st u w r) : ab_G sy own b rt d pc L (.inr (.inr q) :: st) u w r := by
  intro x u' hx p l e s m args below meth c H locs ls E hfl F hret hlk hml X hl hL hst
  subst hp
  exact lv_ifnull F.1 F.2.1 hd (k x u' hx p l e s m args below meth c H locs ls E hfl F hret hlk hml X hl hL hst.tl)
theorem g_ifnonnull {off : Int} {tgt : Nat} {q : ab_T × Nat} (hd : decode b pc = .ok (.ifnonnull off, 3)) (ht : (pc : Int) + off = (tgt : Int)) (k : ab_G sy own b rt d tgt L st u w r) : ab_G sy own b rt d pc L (.inr (.inr q) :: st) u w r := by
  intro x u' hx p l e s m args below meth c H locs ls E hfl F hret hlk hml X hl hL hst
  exact lv_ifnonnull F.1 F.2.1 hd ht (k x u' hx p l e s m args below meth c H locs ls E hfl F hret hlk hml X hl hL hst.tl)
theorem ab_cnd {α : Type} {P : Prop} [Decidable P] {r1 r2 : Option α} {x : α} (h : (bif decide P then r1 else r2) = some x) : (P → r1 = some x) ∧ (¬ P → r2 = some x) := by
  by_cases q : P
  · simp [q] at h; exact ⟨fun _ => h, fun z => absurd q z⟩
  · simp [q] at h; exact ⟨fun z => absurd z q, fun _ => h⟩
theorem g_iret {v : Int32} (hd : decode b pc = .ok (.ireturn, 1)) (hr : rt = some .int) : ab_G sy own b rt d pc L [.inl v] u wI (some (v, u)) := by
  intro x u' hx p l e s m args below meth c H locs ls E hfl F hret hlk hml X hl hL hst
  cases hx
  exact W.iret F.1 F.2.1 (by rw [hret, hr]) (fun t ht _ => ⟨rfl, by rw [ht]; exact X.1, X.2.2.2, X.2.2.1.F ht⟩) X.2.2.1.2.2 hd hlk
theorem g_zret {v : Int32} (hd : decode b pc = .ok (.ireturn, 1)) (hr : rt = some .boolean) : ab_G sy own b rt d pc L [.inl v] u wI (ab_gd [ab_b1 v] (some (v, u))) := by
  intro x u' hx p l e s m args below meth c H locs ls E hfl F hret hlk hml X hl hL hst
  obtain ⟨h1, hx⟩ := ab_gd_some hx
  cases hx
  have h2 : v = 0 ∨ v = 1 := by simpa [ab_b1] using h1
  exact W.zret (ty := .boolean) F.1 F.2.1 (by rw [hret, hr]) (by rcases h2 with rfl | rfl <;> rfl) (fun t ht _ => ⟨rfl, by rw [ht]; exact X.1, X.2.2.2, X.2.2.1.F ht⟩) X.2.2.1.2.2 hd hlk
theorem ab_c1_nar {v : Int32} (h : ab_c1 v = true) : narrow .char (.int v) = .int v := by
  have h1 := ab_c1_eq h
  unfold vp_nar at h1
  cases hq : narrow .char (.int v) with
  | int y => rw [hq] at h1; exact congrArg Value.int h1
  | _ => simp [narrow] at hq
theorem g_cret {v : Int32} (hd : decode b pc = .ok (.ireturn, 1)) (hr : rt = some .char) : ab_G sy own b rt d pc L [.inl v] u wI (ab_gd [ab_c1 v] (some (v, u))) := by
  intro x u' hx p l e s m args below meth c H locs ls E hfl F hret hlk hml X hl hL hst
  obtain ⟨h1, hx⟩ := ab_gd_some hx
  cases hx
  exact W.zret (ty := .char) F.1 F.2.1 (by rw [hret, hr]) (ab_c1_nar (by simpa using h1)) (fun t ht _ => ⟨rfl, by rw [ht]; exact X.1, X.2.2.2, X.2.2.1.F ht⟩) X.2.2.1.2.2 hd hlk
theorem g_lret {v : Int64} (hd : decode b pc = .ok (.lreturn, 1)) (hr : rt = some .long) : ab_G sy own b rt d pc L [.inr (.inl v)] u wJ (some (v, u)) := by
  intro x u' hx p l e s m args below meth c H locs ls E hfl F hret hlk hml X hl hL hst
  cases hx
  exact W.lret F.1 F.2.1 (by rw [hret, hr]) (fun t ht _ => ⟨rfl, by rw [ht]; exact X.1, X.2.2.2, X.2.2.1.F ht⟩) X.2.2.1.2.2 hd hlk
theorem g_vret (hd : decode b pc = .ok (.return_, 1)) (hr : rt = none) : ab_G sy own b rt d pc L [] u wV (some ((), u)) := by
  intro x u' hx p l e s m args below meth c H locs ls E hfl F hret hlk hml X hl hL hst
  cases hx
  exact W.vret F.1 F.2.1 (by rw [hret, hr]) (fun t ht _ => ⟨rfl, by rw [ht]; exact X.1, X.2.2.2, X.2.2.1.F ht⟩) X.2.2.1.2.2 hd hlk
end ABG
end
section
/-! branches, switches, calls, entries -/
section ABH
variable {τ : Type} {sy own : Nat} {b : ByteArray} {rt : Option FieldType} {d pc : Nat} {L : List (Option ab_V)} {st : List ab_V} {u : ab_S} {w : τ → Option ab_V} {r1 r2 : Option (τ × ab_S)}
theorem g_ieq {x y : Int32} {off : Int} {tgt pc2 : Nat} (hd : decode b pc = .ok (.if_icmp .eq off, 3)) (ht : (pc : Int) + off = (tgt : Int)) (hp : pc + 3 = pc2) (k1 : ab_G sy own b rt d tgt L st u w r1) (k2 : ab_G sy own b rt d pc2 L st u w r2) : ab_G sy own b rt d pc L (.inl y :: .inl x :: st) u w (bif decide (x = y) then r1 else r2) := by
  intro z u' hx p l e s m args below meth c H locs ls E hfl F hret hlk hml X hl hL hst
  subst hp
  have hc := ab_cnd hx
  exact lv_icmp_eq F.1 F.2.1 hd ht (fun h => k1 z u' (hc.1 h) p l e s m args below meth c H locs ls E hfl F hret hlk hml X hl hL hst.tl.tl) (fun h => k2 z u' (hc.2 h) p l e s m args below meth c H locs ls E hfl F hret hlk hml X hl hL hst.tl.tl)
theorem g_ine {x y : Int32} {off : Int} {tgt pc2 : Nat} (hd : decode b pc = .ok (.if_icmp .ne off, 3)) (ht : (pc : Int) + off = (tgt : Int)) (hp : pc + 3 = pc2) (k1 : ab_G sy own b rt d tgt L st u w r1) (k2 : ab_G sy own b rt d pc2 L st u w r2) : ab_G sy own b rt d pc L (.inl y :: .inl x :: st) u w (bif decide (x = y) then r2 else r1) := by
  intro z u' hx p l e s m args below meth c H locs ls E hfl F hret hlk hml X hl hL hst
  subst hp
  have hc := ab_cnd hx
  exact lv_icmp_ne F.1 F.2.1 hd ht (fun h => k1 z u' (hc.2 h) p l e s m args below meth c H locs ls E hfl F hret hlk hml X hl hL hst.tl.tl) (fun h => k2 z u' (hc.1 h) p l e s m args below meth c H locs ls E hfl F hret hlk hml X hl hL hst.tl.tl)
theorem g_ilt {x y : Int32} {off : Int} {tgt pc2 : Nat} (hd : decode b pc = .ok (.if_icmp .lt off, 3)) (ht : (pc : Int) + off = (tgt : Int)) (hp : pc + 3 = pc2) (k1 : ab_G sy own b rt d tgt L st u w r1) (k2 : ab_G sy own b rt d pc2 L st u w r2) : ab_G sy own b rt d pc L (.inl y :: .inl x :: st) u w (bif decide (x < y) then r1 else r2) := by
  intro z u' hx p l e s m args below meth c H locs ls E hfl F hret hlk hml X hl hL hst
  subst hp
  have hc := ab_cnd hx
  exact lv_icmp_lt F.1 F.2.1 hd ht (fun h => k1 z u' (hc.1 h) p l e s m args below meth c H locs ls E hfl F hret hlk hml X hl hL hst.tl.tl) (fun h => k2 z u' (hc.2 h) p l e s m args below meth c H locs ls E hfl F hret hlk hml X hl hL hst.tl.tl)
theorem g_ige {x y : Int32} {off : Int} {tgt pc2 : Nat} (hd : decode b pc = .ok (.if_icmp .ge off, 3)) (ht : (pc : Int) + off = (tgt : Int)) (hp : pc + 3 = pc2) (k1 : ab_G sy own b rt d tgt L st u w r1) (k2 : ab_G sy own b rt d pc2 L st u w r2) : ab_G sy own b rt d pc L (.inl y :: .inl x :: st) u w (bif decide (x < y) then r2 else r1) := by
  intro z u' hx p l e s m args below meth c H locs ls E hfl F hret hlk hml X hl hL hst
  subst hp
  have hc := ab_cnd hx
  exact lv_icmp_ge F.1 F.2.1 hd ht (fun h => k1 z u' (hc.2 (Int32.not_lt.mpr h)) p l e s m args below meth c H locs ls E hfl F hret hlk hml X hl hL hst.tl.tl) (fun h => k2 z u' (hc.1 (Int32.not_le.mp h)) p l e s m args below meth c H locs ls E hfl F hret hlk hml X hl hL hst.tl.tl)
theorem g_igt {x y : Int32} {off : Int} {tgt pc2 : Nat} (hd : decode b pc = .ok (.if_icmp .gt off, 3)) (ht : (pc : Int) + off = (tgt : Int)) (hp : pc + 3 = pc2) (k1 : ab_G sy own b rt d tgt L st u w r1) (k2 : ab_G sy own b rt d pc2 L st u w r2) : ab_G sy own b rt d pc L (.inl y :: .inl x :: st) u w (bif decide (x ≤ y) then r2 else r1) := by
  intro z u' hx p l e s m args below meth c H locs ls E hfl F hret hlk hml X hl hL hst
  subst hp
  have hc := ab_cnd hx
  exact lv_icmp_gt F.1 F.2.1 hd ht (fun h => k1 z u' (hc.2 (Int32.not_le.mpr h)) p l e s m args below meth c H locs ls E hfl F hret hlk hml X hl hL hst.tl.tl) (fun h => k2 z u' (hc.1 (Int32.not_lt.mp h)) p l e s m args below meth c H locs ls E hfl F hret hlk hml X hl hL hst.tl.tl)
theorem g_ile {x y : Int32} {off : Int} {tgt pc2 : Nat} (hd : decode b pc = .ok (.if_icmp .le off, 3)) (ht : (pc : Int) + off = (tgt : Int)) (hp : pc + 3 = pc2) (k1 : ab_G sy own b rt d tgt L st u w r1) (k2 : ab_G sy own b rt d pc2 L st u w r2) : ab_G sy own b rt d pc L (.inl y :: .inl x :: st) u w (bif decide (x ≤ y) then r1 else r2) := by
  intro z u' hx p l e s m args below meth c H locs ls E hfl F hret hlk hml X hl hL hst
  subst hp
  have hc := ab_cnd hx
  exact lv_icmp_le F.1 F.2.1 hd ht (fun h => k1 z u' (hc.1 h) p l e s m args below meth c H locs ls E hfl F hret hlk hml X hl hL hst.tl.tl) (fun h => k2 z u' (hc.2 h) p l e s m args below meth c H locs ls E hfl F hret hlk hml X hl hL hst.tl.tl)
theorem g_zeq {x : Int32} {off : Int} {tgt pc2 : Nat} (hd : decode b pc = .ok (.ifCond .eq off, 3)) (ht : (pc : Int) + off = (tgt : Int)) (hp : pc + 3 = pc2) (k1 : ab_G sy own b rt d tgt L st u w r1) (k2 : ab_G sy own b rt d pc2 L st u w r2) : ab_G sy own b rt d pc L (.inl x :: st) u w (bif decide (x = 0) then r1 else r2) := by
  intro z u' hx p l e s m args below meth c H locs ls E hfl F hret hlk hml X hl hL hst
  subst hp
  have hc := ab_cnd hx
  exact lv_if_eq F.1 F.2.1 hd ht (fun h => k1 z u' (hc.1 h) p l e s m args below meth c H locs ls E hfl F hret hlk hml X hl hL hst.tl) (fun h => k2 z u' (hc.2 h) p l e s m args below meth c H locs ls E hfl F hret hlk hml X hl hL hst.tl)
theorem g_zne {x : Int32} {off : Int} {tgt pc2 : Nat} (hd : decode b pc = .ok (.ifCond .ne off, 3)) (ht : (pc : Int) + off = (tgt : Int)) (hp : pc + 3 = pc2) (k1 : ab_G sy own b rt d tgt L st u w r1) (k2 : ab_G sy own b rt d pc2 L st u w r2) : ab_G sy own b rt d pc L (.inl x :: st) u w (bif decide (x = 0) then r2 else r1) := by
  intro z u' hx p l e s m args below meth c H locs ls E hfl F hret hlk hml X hl hL hst
  subst hp
  have hc := ab_cnd hx
  exact lv_if_ne F.1 F.2.1 hd ht (fun h => k1 z u' (hc.2 h) p l e s m args below meth c H locs ls E hfl F hret hlk hml X hl hL hst.tl) (fun h => k2 z u' (hc.1 h) p l e s m args below meth c H locs ls E hfl F hret hlk hml X hl hL hst.tl)
theorem g_zlt {x : Int32} {off : Int} {tgt pc2 : Nat} (hd : decode b pc = .ok (.ifCond .lt off, 3)) (ht : (pc : Int) + off = (tgt : Int)) (hp : pc + 3 = pc2) (k1 : ab_G sy own b rt d tgt L st u w r1) (k2 : ab_G sy own b rt d pc2 L st u w r2) : ab_G sy own b rt d pc L (.inl x :: st) u w (bif decide (x < 0) then r1 else r2) := by
  intro z u' hx p l e s m args below meth c H locs ls E hfl F hret hlk hml X hl hL hst
  subst hp
  have hc := ab_cnd hx
  exact lv_if_lt F.1 F.2.1 hd ht (fun h => k1 z u' (hc.1 h) p l e s m args below meth c H locs ls E hfl F hret hlk hml X hl hL hst.tl) (fun h => k2 z u' (hc.2 h) p l e s m args below meth c H locs ls E hfl F hret hlk hml X hl hL hst.tl)
theorem g_zge {x : Int32} {off : Int} {tgt pc2 : Nat} (hd : decode b pc = .ok (.ifCond .ge off, 3)) (ht : (pc : Int) + off = (tgt : Int)) (hp : pc + 3 = pc2) (k1 : ab_G sy own b rt d tgt L st u w r1) (k2 : ab_G sy own b rt d pc2 L st u w r2) : ab_G sy own b rt d pc L (.inl x :: st) u w (bif decide (x < 0) then r2 else r1) := by
  intro z u' hx p l e s m args below meth c H locs ls E hfl F hret hlk hml X hl hL hst
  subst hp
  have hc := ab_cnd hx
  exact lv_if_ge F.1 F.2.1 hd ht (fun h => k1 z u' (hc.2 (Int32.not_lt.mpr h)) p l e s m args below meth c H locs ls E hfl F hret hlk hml X hl hL hst.tl) (fun h => k2 z u' (hc.1 (Int32.not_le.mp h)) p l e s m args below meth c H locs ls E hfl F hret hlk hml X hl hL hst.tl)
theorem g_zgt {x : Int32} {off : Int} {tgt pc2 : Nat} (hd : decode b pc = .ok (.ifCond .gt off, 3)) (ht : (pc : Int) + off = (tgt : Int)) (hp : pc + 3 = pc2) (k1 : ab_G sy own b rt d tgt L st u w r1) (k2 : ab_G sy own b rt d pc2 L st u w r2) : ab_G sy own b rt d pc L (.inl x :: st) u w (bif decide (x ≤ 0) then r2 else r1) := by
  intro z u' hx p l e s m args below meth c H locs ls E hfl F hret hlk hml X hl hL hst
  subst hp
  have hc := ab_cnd hx
  exact lv_if_gt F.1 F.2.1 hd ht (fun h => k1 z u' (hc.2 (Int32.not_le.mpr h)) p l e s m args below meth c H locs ls E hfl F hret hlk hml X hl hL hst.tl) (fun h => k2 z u' (hc.1 (Int32.not_lt.mp h)) p l e s m args below meth c H locs ls E hfl F hret hlk hml X hl hL hst.tl)
theorem g_zle {x : Int32} {off : Int} {tgt pc2 : Nat} (hd : decode b pc = .ok (.ifCond .le off, 3)) (ht : (pc : Int) + off = (tgt : Int)) (hp : pc + 3 = pc2) (k1 : ab_G sy own b rt d tgt L st u w r1) (k2 : ab_G sy own b rt d pc2 L st u w r2) : ab_G sy own b rt d pc L (.inl x :: st) u w (bif decide (x ≤ 0) then r1 else r2) := by
  intro z u' hx p l e s m args below meth c H locs ls E hfl F hret hlk hml X hl hL hst
  subst hp
  have hc := ab_cnd hx
  exact lv_if_le F.1 F.2.1 hd ht (fun h => k1 z u' (hc.1 h) p l e s m args below meth c H locs ls E hfl F hret hlk hml X hl hL hst.tl) (fun h => k2 z u' (hc.2 h) p l e s m args below meth c H locs ls E hfl F hret hlk hml X hl hL hst.tl)
theorem g_leq {x y : Int64} {off : Int} {tgt pc1 pc2 : Nat} (hc : decode b pc = .ok (.lcmp, 1)) (h1 : pc + 1 = pc1) (hd : decode b pc1 = .ok (.ifCond .eq off, 3)) (ht : (pc1 : Int) + off = (tgt : Int)) (hp : pc1 + 3 = pc2) (k1 : ab_G sy own b rt d tgt L st u w r1) (k2 : ab_G sy own b rt d pc2 L st u w r2) : ab_G sy own b rt d pc L (.inr (.inl y) :: .inr (.inl x) :: st) u w (bif decide (x = y) then r1 else r2) := by
  have h2 : decide (x = y) = decide (lg_cmp x y = 0) := decide_eq_decide.mpr (lg_cmp_eq x y).symm
  rw [h2]
  have k3 := g_zeq (x := lg_cmp x y) hd ht hp k1 k2
  subst h1
  intro z u' hx p l e s m args below meth c H locs ls E hfl F hret hlk hml X hl hL hst
  exact W.lcmp F.1 F.2.1 hc (k3 z u' hx p l e s m args below meth c H locs ls E hfl F hret hlk hml X hl hL (hst.tl.tl.cons trivial))
theorem g_lne {x y : Int64} {off : Int} {tgt pc1 pc2 : Nat} (hc : decode b pc = .ok (.lcmp, 1)) (h1 : pc + 1 = pc1) (hd : decode b pc1 = .ok (.ifCond .ne off, 3)) (ht : (pc1 : Int) + off = (tgt : Int)) (hp : pc1 + 3 = pc2) (k1 : ab_G sy own b rt d tgt L st u w r1) (k2 : ab_G sy own b rt d pc2 L st u w r2) : ab_G sy own b rt d pc L (.inr (.inl y) :: .inr (.inl x) :: st) u w (bif decide (x = y) then r2 else r1) := by
  have h2 : decide (x = y) = decide (lg_cmp x y = 0) := decide_eq_decide.mpr (lg_cmp_eq x y).symm
  rw [h2]
  have k3 := g_zne (x := lg_cmp x y) hd ht hp k1 k2
  subst h1
  intro z u' hx p l e s m args below meth c H locs ls E hfl F hret hlk hml X hl hL hst
  exact W.lcmp F.1 F.2.1 hc (k3 z u' hx p l e s m args below meth c H locs ls E hfl F hret hlk hml X hl hL (hst.tl.tl.cons trivial))
theorem g_llt {x y : Int64} {off : Int} {tgt pc1 pc2 : Nat} (hc : decode b pc = .ok (.lcmp, 1)) (h1 : pc + 1 = pc1) (hd : decode b pc1 = .ok (.ifCond .lt off, 3)) (ht : (pc1 : Int) + off = (tgt : Int)) (hp : pc1 + 3 = pc2) (k1 : ab_G sy own b rt d tgt L st u w r1) (k2 : ab_G sy own b rt d pc2 L st u w r2) : ab_G sy own b rt d pc L (.inr (.inl y) :: .inr (.inl x) :: st) u w (bif decide (x < y) then r1 else r2) := by
  have h2 : decide (x < y) = decide (lg_cmp x y < 0) := decide_eq_decide.mpr (lg_cmp_lt x y).symm
  rw [h2]
  have k3 := g_zlt (x := lg_cmp x y) hd ht hp k1 k2
  subst h1
  intro z u' hx p l e s m args below meth c H locs ls E hfl F hret hlk hml X hl hL hst
  exact W.lcmp F.1 F.2.1 hc (k3 z u' hx p l e s m args below meth c H locs ls E hfl F hret hlk hml X hl hL (hst.tl.tl.cons trivial))
theorem g_lge {x y : Int64} {off : Int} {tgt pc1 pc2 : Nat} (hc : decode b pc = .ok (.lcmp, 1)) (h1 : pc + 1 = pc1) (hd : decode b pc1 = .ok (.ifCond .ge off, 3)) (ht : (pc1 : Int) + off = (tgt : Int)) (hp : pc1 + 3 = pc2) (k1 : ab_G sy own b rt d tgt L st u w r1) (k2 : ab_G sy own b rt d pc2 L st u w r2) : ab_G sy own b rt d pc L (.inr (.inl y) :: .inr (.inl x) :: st) u w (bif decide (x < y) then r2 else r1) := by
  have h2 : decide (x < y) = decide (lg_cmp x y < 0) := decide_eq_decide.mpr (lg_cmp_lt x y).symm
  rw [h2]
  have k3 := g_zge (x := lg_cmp x y) hd ht hp k1 k2
  subst h1
  intro z u' hx p l e s m args below meth c H locs ls E hfl F hret hlk hml X hl hL hst
  exact W.lcmp F.1 F.2.1 hc (k3 z u' hx p l e s m args below meth c H locs ls E hfl F hret hlk hml X hl hL (hst.tl.tl.cons trivial))
theorem g_lgt {x y : Int64} {off : Int} {tgt pc1 pc2 : Nat} (hc : decode b pc = .ok (.lcmp, 1)) (h1 : pc + 1 = pc1) (hd : decode b pc1 = .ok (.ifCond .gt off, 3)) (ht : (pc1 : Int) + off = (tgt : Int)) (hp : pc1 + 3 = pc2) (k1 : ab_G sy own b rt d tgt L st u w r1) (k2 : ab_G sy own b rt d pc2 L st u w r2) : ab_G sy own b rt d pc L (.inr (.inl y) :: .inr (.inl x) :: st) u w (bif decide (x ≤ y) then r2 else r1) := by
  have h2 : decide (x ≤ y) = decide (lg_cmp x y ≤ 0) := decide_eq_decide.mpr (lg_cmp_le x y).symm
  rw [h2]
  have k3 := g_zgt (x := lg_cmp x y) hd ht hp k1 k2
  subst h1
  intro z u' hx p l e s m args below meth c H locs ls E hfl F hret hlk hml X hl hL hst
  exact W.lcmp F.1 F.2.1 hc (k3 z u' hx p l e s m args below meth c H locs ls E hfl F hret hlk hml X hl hL (hst.tl.tl.cons trivial))
theorem g_lle {x y : Int64} {off : Int} {tgt pc1 pc2 : Nat} (hc : decode b pc = .ok (.lcmp, 1)) (h1 : pc + 1 = pc1) (hd : decode b pc1 = .ok (.ifCond .le off, 3)) (ht : (pc1 : Int) + off = (tgt : Int)) (hp : pc1 + 3 = pc2) (k1 : ab_G sy own b rt d tgt L st u w r1) (k2 : ab_G sy own b rt d pc2 L st u w r2) : ab_G sy own b rt d pc L (.inr (.inl y) :: .inr (.inl x) :: st) u w (bif decide (x ≤ y) then r1 else r2) := by
  have h2 : decide (x ≤ y) = decide (lg_cmp x y ≤ 0) := decide_eq_decide.mpr (lg_cmp_le x y).symm
  rw [h2]
  have k3 := g_zle (x := lg_cmp x y) hd ht hp k1 k2
  subst h1
  intro z u' hx p l e s m args below meth c H locs ls E hfl F hret hlk hml X hl hL hst
  exact W.lcmp F.1 F.2.1 hc (k3 z u' hx p l e s m args below meth c H locs ls E hfl F hret hlk hml X hl hL (hst.tl.tl.cons trivial))
-- a table
def ab_sw {α : Type} (x : Int32) : List (Int32 × Option α) → Option α → Option α
  | [], r => r
  | q :: l, r => bif decide (x = q.1) then q.2 else ab_sw x l r
def ab_swB (pc : Nat) (lo : Int) (offs : Array Int) (cs : List (Int32 × Nat)) : Bool := (List.range cs.length).all fun i => match cs[i]?, offs[i]? with
  | some q, some o => decide (q.1.toInt = lo + i) && decide ((pc : Int) + o = (q.2 : Int))
  | _, _ => false
theorem ab_sw_some {α : Type} {x : Int32} {l : List (Int32 × Option α)} {r : Option α} {z : α} (h : ab_sw x l r = some z) : (∃ (i : Nat) (q : Int32 × Option α), l[i]? = some q ∧ x = q.1 ∧ q.2 = some z) ∨ ((∀ q ∈ l, x ≠ q.1) ∧ r = some z) := by
  induction l with
  | nil => exact Or.inr ⟨fun q hq => absurd hq List.not_mem_nil, h⟩
  | cons q l ih =>
    obtain ⟨h1, h2⟩ := ab_cnd (show (bif decide (x = q.1) then q.2 else ab_sw x l r) = some z from h)
    by_cases e : x = q.1
    · exact Or.inl ⟨0, q, rfl, e, h1 e⟩
    · rcases ih (h2 e) with ⟨i, q2, a1, a2⟩ | ⟨a1, a2⟩
      · exact Or.inl ⟨i + 1, q2, by simpa using a1, a2⟩
      · refine Or.inr ⟨fun q2 hq => ?_, a2⟩
        rcases List.mem_cons.mp hq with rfl | hq
        · exact e
        · exact a1 q2 hq
theorem g_sw {x : Int32} {dflt lo hi : Int} {offs : Array Int} {len tgd : Nat} {rd : Option (τ × ab_S)} (cs : List (Int32 × (Nat × Option (τ × ab_S)))) (hd : decode b pc = .ok (.tableswitch dflt lo hi offs, len)) (hB : ab_swB pc lo offs (cs.map fun q => (q.1, q.2.1)) = true) (hn : hi = lo + cs.length - 1) (ht : (pc : Int) + dflt = (tgd : Int))
    (kk : ∀ q ∈ cs, ab_G sy own b rt d q.2.1 L st u w q.2.2) (kd : ab_G sy own b rt d tgd L st u w rd) : ab_G sy own b rt d pc L (.inl x :: st) u w (ab_sw x (cs.map fun q => (q.1, q.2.2)) rd) := by
  intro z u' hx p l e s m args below meth c H locs ls E hfl F hret hlk hml X hl hL hst
  have hB2 : ∀ (i : Nat) (q : Int32 × (Nat × Option (τ × ab_S))), cs[i]? = some q → ∃ o, offs[i]? = some o ∧ q.1.toInt = lo + (i : Int) ∧ (pc : Int) + o = (q.2.1 : Int) := by
    intro i q hq
    have hi := (List.getElem?_eq_some_iff.mp hq).1
    have h1 := List.all_eq_true.mp hB i (List.mem_range.mpr (by simpa using hi))
    rw [List.getElem?_map, hq] at h1
    cases ho : offs[i]? with
    | none => rw [ho] at h1; cases h1
    | some o =>
      rw [ho] at h1
      simp only [Option.map_some, Bool.and_eq_true, decide_eq_true_eq] at h1
      exact ⟨o, rfl, h1⟩
  rcases ab_sw_some hx with ⟨i, q, h1, h2, h3⟩ | ⟨h1, h2⟩
  · rw [List.getElem?_map] at h1
    cases hc : cs[i]? with
    | none => rw [hc] at h1; cases h1
    | some q0 =>
      rw [hc] at h1
      cases h1
      obtain ⟨o, ho, e1, e2⟩ := hB2 i q0 hc
      have hi := (List.getElem?_eq_some_iff.mp hc).1
      have e3 : x.toInt = lo + i := by rw [h2]; exact e1
      exact lv_tableIn F.1 F.2.1 hd (by omega) (by omega) (by rw [show (x.toInt - lo).toNat = i by omega]; exact ho) e2 (kk q0 (List.mem_of_getElem? hc) z u' h3 p l e s m args below meth c H locs ls E hfl F hret hlk hml X hl hL hst.tl)
  · refine lv_tableOut F.1 F.2.1 hd ?_ ht (kd z u' h2 p l e s m args below meth c H locs ls E hfl F hret hlk hml X hl hL hst.tl)
    by_cases q1 : x.toInt < lo
    · exact Or.inl q1
    · refine Or.inr (Int.not_le.mp fun q2 => ?_)
      have hlt : (x.toInt - lo).toNat < cs.length := by omega
      have hq := List.getElem?_eq_getElem hlt
      obtain ⟨o, -, e1, -⟩ := hB2 _ _ hq
      refine h1 (cs[(x.toInt - lo).toNat].1, cs[(x.toInt - lo).toNat].2.2) (List.mem_map.mpr ⟨_, List.mem_of_getElem? hq, rfl⟩) (Int32.toInt_inj.mp ?_)
      show x.toInt = cs[(x.toInt - lo).toNat].1.toInt
      rw [e1]
      omega
end ABH
-- ===== contracts =====
def ab_B (E : ab_E) (sy : Nat) (u : ab_S) (U : State) : Prop := va_K (E.1, E.2.1) vwCl (ab_ty E) U ∧ va_P (E.1, E.2.1) vwCl (ab_wd E sy u) U.heap ∧ va_D (ab_A E sy) (ab_wd E sy u) ∧ ab_SF E (ab_A E sy) U U.heap ∧ ab_NW U ∧ ab_WT sy u
def ab_C {τ : Type} (sy : Nat) (y : MethodName) (b : ByteArray) (nL : Nat) (rt : Option FieldType) (d : Nat) (as : List ab_V) (u : ab_S) (w : τ → Option ab_V) (r : Option (τ × ab_S)) : Prop :=
  ∀ (x : τ) (u' : ab_S), r = some (x, u') → ab_oks sy as → ∀ (l : Launch) (E : ab_E), l.flags = flags0 → Met l y (Cond.code y b nL rt :: ab_W0) (ab_rm d) (va_Pc (as.map (ab_vm E)) (ab_B E sy u)) (ab_Q E sy w x u') 0 0 (ab_A E sy)
def ab_L0 : Nat → List ab_V → List (Option ab_V)
  | n, [] => List.replicate n none
  | n, .inr (.inl x) :: r => some (.inr (.inl x)) :: none :: ab_L0 (n - 2) r
  | n, v :: r => some v :: ab_L0 (n - 1) r
def ab_al0 : Nat → List ab_V → List (Nat × ab_V)
  | _, [] => []
  | i, .inr (.inl x) :: r => (i, .inr (.inl x)) :: ab_al0 (i + 2) r
  | i, v :: r => (i, v) :: ab_al0 (i + 1) r
theorem ab_NW.moved {s U : State} (hW : s.WarmedH U.vm) (h : ab_NW s) : ab_NW U := by
  intro w hw hn
  have h1 := h w hw hn
  cases w with
  | fieldLinkNest a i b n dd hh => exact va_Nw.warmF hW h1
  | methodLinkNest a i x hh => exact va_Nw.warmM hW h1
  | _ => cases hn
theorem ab_NW.same {s U : State} (hv : s.vm = U.vm) (h : ab_NW s) : ab_NW U := by
  intro w hw hn
  have h1 := h w hw hn
  cases w with
  | fieldLinkNest a i b n dd hh => exact va_Nw.same rfl hv h1
  | methodLinkNest a i x hh => exact va_Nw.same rfl hv h1
  | _ => cases hn
theorem ab_SF.moved {E : ab_E} {A : Nat → Prop} {s U : State} {H : Heap} (hW : s.WarmedH U.vm) (h : ab_SF E A s H) : ab_SF E A U H := by
  obtain ⟨f1, f2, f3, f4, f5, f6⟩ := h
  have hv := hW.alike
  exact ⟨fun i hi => ⟨va_Z.moved hv (f1 i hi).1, va_OF.moved hv (f1 i hi).2.1, va_OF.moved hv (f1 i hi).2.2⟩, va_Z.moved hv f2, va_T.moved hv f3, vk_S.moved hv f4, vk_R.warm hW f5, va_Z.moved hv f6⟩
theorem ab_SF.same {E : ab_E} {A : Nat → Prop} {s U : State} {H : Heap} (hv0 : U.vm = s.vm) (h : ab_SF E A s H) : ab_SF E A U H := by
  obtain ⟨f1, f2, f3, f4, f5, f6⟩ := h
  have hv : s.vm.Alike U.vm := by rw [hv0]; exact Vm.Alike.refl _
  exact ⟨fun i hi => ⟨va_Z.moved hv (f1 i hi).1, va_OF.moved hv (f1 i hi).2.1, va_OF.moved hv (f1 i hi).2.2⟩, va_Z.moved hv f2, va_T.moved hv f3, vk_S.moved hv f4, vk_R.same hv0 f5, va_Z.moved hv f6⟩
theorem ab_SF.kept {E : ab_E} {A : Nat → Prop} {s : State} {H H1 : Heap} (h : ab_SF E A s H) (hq : ∀ a : Nat, a < H.size → ¬ A a → H1[a]? = H[a]?) : ab_SF E A s H1 := by
  obtain ⟨f1, f2, f3, f4, f5, f6⟩ := h
  exact ⟨fun i hi => ⟨(f1 i hi).1.kept hq, (f1 i hi).2.1.kept hq, (f1 i hi).2.2.kept hq⟩, f2.kept hq, f3.kept hq, f4.kept hq, f5, f6.kept hq⟩
theorem ab_B_blind (E : ab_E) (sy : Nat) (u : ab_S) (av : List Value) : FrameBlind (va_Pc av (ab_B E sy u)) := by
  intro a U g mk h
  obtain ⟨h0, h1, h2, h3, h4, h5, h6⟩ := h
  exact ⟨h0, va_K.moved (u := U) (U := U.calling g mk a) (Vm.Alike.refl U.vm) h1, h2, h3, ab_SF.same (s := U) (U := U.calling g mk a) rfl h4, ab_NW.same (s := U) (U := U.calling g mk a) rfl h5, h6⟩
theorem ab_D_eq {E : ab_E} {sy : Nat} {A : Nat → Prop} {u u' : ab_S} (h : va_D A (ab_wd E sy u)) : va_D A (ab_wd E sy u') := by
  have key : ∀ (k : Nat) (q : Nat × va_E), (ab_wd E sy u')[k]? = some q → ∃ q0, (ab_wd E sy u)[k]? = some q0 ∧ q0.1 = q.1 := by
    intro k q hk
    have hl : k < (ab_sh sy).length := by
      have := (List.getElem?_eq_some_iff.mp hk).1
      simpa [ab_wd] using this
    obtain ⟨t, ht⟩ : ∃ t, (ab_sh sy)[k]? = some t := ⟨_, List.getElem?_eq_getElem hl⟩
    rw [ab_wd_at E ht] at hk
    cases hk
    exact ⟨_, ab_wd_at E ht, rfl⟩
  refine ⟨fun i j p q hi hj e => ?_, fun k q hk => ?_⟩
  · obtain ⟨p0, a1, a2⟩ := key i p hi
    obtain ⟨q0, b1, b2⟩ := key j q hj
    exact h.1 i j p0 q0 a1 b1 (by rw [a2, b2, e])
  · obtain ⟨q0, a1, a2⟩ := key k q hk
    rw [← a2]
    exact h.2 k q0 a1
theorem ab_L0_at : ∀ (as : List ab_V) (n i j : Nat) (v : ab_V), (ab_L0 n as)[j]? = some (some v) → (i + j, v) ∈ ab_al0 i as
  | [], n, i, j, v, h => by
    simp only [ab_L0] at h
    rw [List.getElem?_replicate] at h
    split at h <;> cases h
  | .inr (.inl x) :: r, n, i, j, v, h => by
    simp only [ab_L0] at h
    simp only [ab_al0]
    match j, h with
    | 0, h => simp at h; rw [h]; exact List.mem_cons_self
    | 1, h => simp at h
    | j + 2, h =>
      refine List.mem_cons_of_mem _ ?_
      have h1 := ab_L0_at r (n - 2) (i + 2) j v (by simpa using h)
      rwa [show i + 2 + j = i + (j + 2) by omega] at h1
  | .inl x :: r, n, i, j, v, h => by
    simp only [ab_L0] at h
    simp only [ab_al0]
    match j, h with
    | 0, h => simp at h; rw [h]; exact List.mem_cons_self
    | j + 1, h =>
      refine List.mem_cons_of_mem _ ?_
      have h1 := ab_L0_at r (n - 1) (i + 1) j v (by simpa using h)
      rwa [show i + 1 + j = i + (j + 1) by omega] at h1
  | .inr (.inr x) :: r, n, i, j, v, h => by
    simp only [ab_L0] at h
    simp only [ab_al0]
    match j, h with
    | 0, h => simp at h; rw [h]; exact List.mem_cons_self
    | j + 1, h =>
      refine List.mem_cons_of_mem _ ?_
      have h1 := ab_L0_at r (n - 1) (i + 1) j v (by simpa using h)
      rwa [show i + 1 + j = i + (j + 1) by omega] at h1
theorem ab_al0_args (E : ab_E) : ∀ (as : List ab_V) (i : Nat), lv_args i (as.map (ab_vm E)) = (ab_al0 i as).map (fun q => (q.1, ab_vm E q.2))
  | [], i => rfl
  | .inr (.inl x) :: r, i => congrArg (List.cons _) (ab_al0_args E r (i + 2))
  | .inl x :: r, i => congrArg (List.cons _) (ab_al0_args E r (i + 1))
  | .inr (.inr (t, a)) :: r, i => congrArg (List.cons _) (ab_al0_args E r (i + 1))
theorem ab_al0_mem : ∀ (as : List ab_V) (i : Nat) (q : Nat × ab_V), q ∈ ab_al0 i as → q.2 ∈ as
  | .inr (.inl x) :: r, i, q, h => (List.mem_cons.mp h).elim (fun e => by rw [e]; exact List.mem_cons_self) (fun h => List.mem_cons_of_mem _ (ab_al0_mem r _ q h))
  | .inl x :: r, i, q, h => (List.mem_cons.mp h).elim (fun e => by rw [e]; exact List.mem_cons_self) (fun h => List.mem_cons_of_mem _ (ab_al0_mem r _ q h))
  | .inr (.inr (t, a)) :: r, i, q, h => (List.mem_cons.mp h).elim (fun e => by rw [e]; exact List.mem_cons_self) (fun h => List.mem_cons_of_mem _ (ab_al0_mem r _ q h))
/-- a method, from its code: what its first place gives is its contract -/
theorem ab_entry {τ : Type} {sy own : Nat} {y : MethodName} {b : ByteArray} {nL : Nat} {rt : Option FieldType} {d : Nat} {as : List ab_V} {u : ab_S} {w : τ → Option ab_V} {r : Option (τ × ab_S)} (hy : plainName y.cls = true) (hc : y.cls = ab_cn own) (ho : own < 15) (hs : sy < 2) (hn : ∀ E, (lg_sl (as.map (ab_vm E))).length ≤ nL) (hln : (ab_L0 nL as).length = nL)
    (hG : ab_G sy own b rt d 0 (ab_L0 nL as) [] u w r) : ab_C sy y b nL rt d as u w r := by
  intro x u' hx hok l E hfl
  refine Met.ofW (cc := b) (maxL := nL) (ret := rt) hy rfl ?_
  intro p e s m args below meth c s₁ B hml hv
  obtain ⟨rfl, hK, hP, hD, hSF, hNW, hWT⟩ := hv
  have hts := atoms_spec (ws := Cond.code y b nL rt :: ab_W0) B.pre
  have hown : s.vm.findClass (ab_cn own) = some m.cls := by rw [← hc]; exact findClass_of_methodNamed B.named
  rw [lg_entry_eq]
  refine hG x u' hx p l e s m _ below meth c s.heap [] _ E hfl ⟨B.exec, B.bytes, hown, fun w hw => hts w (List.mem_cons_of_mem _ hw), hNW, hK, hSF, ho, hs⟩ B.returns B.notSynchronized (by rw [hml, hln]) ⟨hP, hD, va_S.rf, hWT⟩ ?_ (fun j v hj => hok v (ab_al0_mem as 0 _ (ab_L0_at as nL 0 j v hj))) (fun v hv => by cases hv)
  have h1 := lv_entry (as.map (ab_vm E)) (n := nL) (hn E)
  refine ⟨by rw [hln]; exact h1.1, h1.2.1, fun q hq => h1.2.2 q ?_⟩
  obtain ⟨j, v, a1, rfl⟩ := ab_al_mem.mp hq
  rw [ab_al0_args]
  exact List.mem_map.mpr ⟨(0 + j, v), ab_L0_at as nL 0 j v a1, rfl⟩
end
section
/-! calls -/
theorem ab_inT {y : Cond} (i : Nat) (h : lw_tbl[i]? = some y) (g : goodWord y = true) : y ∈ ab_W0 := List.mem_filter.mpr ⟨List.mem_of_getElem? h, g⟩
/-- what the tables say of a callee: its code, its kind, that its class is ready -/
def ab_mI (y : MethodName) (b : ByteArray) (nL : Nat) (rt : Option FieldType) (n : Nat) : Prop := Cond.code y b nL rt ∈ ab_W0 ∧ Cond.initialized y.cls ∈ ab_W0 ∧ (y.cls ≠ "java/lang/invoke/MethodHandle" ∧ y.cls ≠ "java/lang/invoke/VarHandle") ∧ (parseMethodDescriptor y.desc).map (fun d => d.parameters.length) = some n ∧ nL ≤ 45
def ab_mV (y : MethodName) : Prop := Cond.instanceMethod y ∈ ab_W0 ∧ Cond.selects y.cls y y ∈ ab_W0
def ab_mS (y : MethodName) : Prop := Cond.static y ∈ ab_W0
/-- a call site: the plain link, or the nest mate's -/
def ab_lp (own k : Nat) (y : MethodName) : Prop := Cond.methodLink (ab_cn own) k y ∈ ab_W0
def ab_ln' (own k : Nat) (y : MethodName) : Prop := Cond.methodLinkNest (ab_cn own) k y "SoulRaffle" ∈ lw_tbl
theorem ab_good0 {w : Cond} (h : w ∈ ab_W0) : (w.onTables && w.keeps) = true ∨ ∃ ty, w = .arrayClass ty := good_of_word (List.mem_filter.mp h).2
section ABI
variable {p : Program} {l : Launch} {e : Env} {s : State} {m : MethodId} {args : Array Value} {below : List Frame} {meth : Method} {c : Code} {H : Heap} {locs : List Loc} {Q : State → Prop} {E : ab_E} {sy own : Nat} {b : ByteArray} {u : ab_S} {pc : Nat} {ls : Array Slot} {d : Nat}
theorem ab_aft {τ : Type} {w : τ → Option ab_V} {x : τ} {u' : ab_S} {rest st0 : List Value} {a : Array Value} (hr : va_Run p l e (ab_rm d) s m args below meth c H locs 0 0 0 0 (F0 m pc ls st0) rest (ab_Q E sy w x u' a) (ab_A E sy)) (X : ab_X E sy (ab_A E sy) s u H locs)
    (kk : ∀ (H1 : Heap) (locs1 : List Loc), ab_X E sy (ab_A E sy) s u' H1 locs1 → W p l e (ab_rm d) s m args below meth c H1 locs1 0 0 Q (F0 m (pc + 3) ls (((w x).map (ab_vm E)).toList ++ rest))) : W p l e (ab_rm d) s m args below meth c H locs 0 0 Q (F0 m pc ls st0) := by
  obtain ⟨hP, hD, hS, hWT⟩ := X
  intro T hT Y
  obtain ⟨v, st₀, t, T', L, h0, Y', hL, e1, e2, ⟨hv, hP', hW', hz, hk⟩, stp⟩ := hr T hT Y
  cases hv
  rw [h0] at hz hk
  obtain ⟨t2, a1, b1⟩ := kk T'.heap (locs ++ L) ⟨by rw [e1]; exact hP', ab_D_eq hD, ⟨Nat.le_trans hS.1 (by rw [e1]; exact hz), fun q h1 h2 => by rw [e1, hk q (Nat.lt_of_lt_of_le h1 hS.1) h2]; exact hS.2.1 q h1 h2, fun q hq => by
      rcases List.mem_append.mp hq with h | h
      · exact hS.2.2 q h
      · exact hL q h⟩, hW'⟩ T' rfl Y'
  exact ⟨t2, stp t2 a1, b1⟩
theorem ab_pre {as : List ab_V} (F : ab_F p s m args c E sy own b (ab_A E sy)) (X : ab_X E sy (ab_A E sy) s u H locs) : ∀ U : State, U.heap = H → s.WarmedH U.vm → va_Pc (as.map (ab_vm E)) (ab_B E sy u) (as.map (ab_vm E)).toArray U := by
  obtain ⟨hx, hb, hown, hts, hNW, hK, hSF, ho, hs⟩ := F
  obtain ⟨hP, hD, hS, hWT⟩ := X
  intro U hU hW
  exact ⟨rfl, va_K.moved hW.alike hK, by rw [hU]; exact hP, hD, by rw [hU]; exact ab_SF.moved hW (ab_SF.kept hSF hS.2.1), ab_NW.moved hW hNW, hWT⟩
theorem ab_ws {y : MethodName} {b' : ByteArray} {nL' : Nat} {rt' : Option FieldType} (hts : ∀ w ∈ ab_W0, w.before args s = true) (hc : Cond.code y b' nL' rt' ∈ ab_W0) : ∀ w ∈ (Cond.code y b' nL' rt' :: ab_W0), ∀ (a' : Array Value) (U : State), s.WarmedH U.vm → w.before a' U = true :=
  pay_in hts (fun w hw => (List.mem_cons.mp hw).elim (fun e => by rw [e]; exact ⟨hc, ab_good0 hc⟩) (fun h => ⟨h, ab_good0 h⟩))
theorem ab_cats (E : ab_E) (st : List ab_V) : ((st.map (ab_vm E)).map fun v => v.category).sum = (st.map ab_cat).sum := by
  rw [List.map_map]
  congr 1
  exact List.map_congr_left (fun v _ => ab_cat_vm E v)
theorem ab_CB {y : MethodName} {b' : ByteArray} {nL' : Nat} {rt' : Option FieldType} {d' n k : Nat} (hts : ∀ w ∈ ab_W0, w.before args s = true) (hI : ab_mI y b' nL' rt' n) (hd : d' + 1 ≤ d) (hl : (Cond.methodLink (ab_cn own) k y).before args s = true) : CallB (ab_rm d) s args (ab_cn own) k y b' nL' rt' (Cond.code y b' nL' rt' :: ab_W0) (ab_rm d') 0 0 n := by
  obtain ⟨h1, h2, h3, h4, h5⟩ := hI
  refine ⟨rfl, rfl, hd, by simp only [ab_rm]; omega, ab_ws hts h1, List.mem_cons_self, hts _ h1, hts _ h2, h3, fun sig h => ?_, hl⟩
  rw [h] at h4
  exact (Option.some.inj h4).symm
theorem ab_CBN {y : MethodName} {b' : ByteArray} {nL' : Nat} {rt' : Option FieldType} {d' n k : Nat} (hts : ∀ w ∈ ab_W0, w.before args s = true) (hI : ab_mI y b' nL' rt' n) (hd : d' + 1 ≤ d) (hl : (Cond.methodLinkNest (ab_cn own) k y "SoulRaffle").before args s = true) : va_CN (ab_rm d) s args (ab_cn own) k y "SoulRaffle" b' nL' rt' (Cond.code y b' nL' rt' :: ab_W0) (ab_rm d') 0 0 n := by
  obtain ⟨h1, h2, h3, h4, h5⟩ := hI
  refine ⟨⟨rfl, rfl, hd, by simp only [ab_rm]; omega, ab_ws hts h1, List.mem_cons_self⟩, hts _ h1, hts _ h2, h3, fun sig h => ?_, hl⟩
  rw [h] at h4
  exact (Option.some.inj h4).symm
end ABI
section ABJ
variable {τ τ' : Type} {sy own : Nat} {b : ByteArray} {rt : Option FieldType} {d pc pc2 : Nat} {L : List (Option ab_V)} {st st0 : List ab_V} {u : ab_S} {w : τ → Option ab_V} {w' : τ' → Option ab_V} {r0 : Option (τ' × ab_S)} {r1 : τ' × ab_S → Option (τ × ab_S)} {y : MethodName} {b' : ByteArray} {nL' : Nat} {rt' : Option FieldType} {d' k : Nat} {as : List ab_V}
def ab_wok (w : τ' → Option ab_V) : Prop := ∀ x v, w x = some v → ∀ sy, ab_ok sy v
theorem wI_ok : ab_wok wI := fun x v h sy => by cases h; trivial
theorem wJ_ok : ab_wok wJ := fun x v h sy => by cases h; trivial
theorem wV_ok : ab_wok wV := fun x v h sy => by cases h
theorem ab_bind {α β : Type} {r : Option α} {f : α → Option β} {z : β} (h : r.bind f = some z) : ∃ x, r = some x ∧ f x = some z := by
  cases r with
  | none => cases h
  | some x => exact ⟨x, rfl, h⟩
/-- an instance call -/
theorem g_callV {ci a : Nat} {bs : List ab_V} (hM : ab_C sy y b' nL' rt' d' (vR (kO ci) a :: bs) u w' r0) (hI : ab_mI y b' nL' rt' bs.length) (hV : ab_mV y) (hci : ab_cn ci = y.cls) (hc10 : ci < 10) (hlk : ab_lp own k y ∨ ab_ln' own k y) (hw : ab_wok w') (hd : decode b pc = .ok (.invokevirtual k, 3)) (hst : st0 = bs.reverse ++ vR (kO ci) a :: st) (hcat : (st.map ab_cat).sum ≤ 8) (hdep : d' + 1 ≤ d) (hp : pc + 3 = pc2)
    (kk : ∀ q : τ' × ab_S, r0 = some q → ab_G sy own b rt d pc2 L ((w' q.1).toList ++ st) q.2 w (r1 q)) : ab_G sy own b rt d pc L st0 u w (r0.bind r1) := by
  intro x u' hx p l e s m args below meth c H locs ls E hfl F hret hlk2 hml X hl hL hok
  subst hp
  subst hst
  obtain ⟨q, hq, hx⟩ := ab_bind hx
  obtain ⟨z, uz⟩ := q
  obtain ⟨hex, hb, hown, hts, hNW, hK, hSF, ho, hs⟩ := id F
  have hoka : ab_oks sy (vR (kO ci) a :: bs) := fun v hv => hok v (by
    rcases List.mem_cons.mp hv with h | h
    · rw [h]; exact List.mem_append_right _ List.mem_cons_self
    · exact List.mem_append_left _ (List.mem_reverse.mpr h))
  have hokr : ab_oks sy st := fun v hv => hok v (List.mem_append_right _ (List.mem_cons_of_mem _ hv))
  have hia : ab_ia sy (kO ci) a := hoka.hd
  have h6 : (ab_sh sy)[a]? = some (kO ci) := by
    simp only [ab_ia] at hia
    rwa [if_pos (by omega)] at hia
  have hM2 := hM z uz hq hoka l E hfl
  have hre : ab_re E (kO ci) a = ab_ro E a := ab_re_ro E hs h6
  have hrec : ∃ cellB : Cell, H[ab_re E (kO ci) a]? = some cellB ∧ cellB.vm.isStatics = false ∧ s.vm.findClass y.cls = some cellB.cls := by
    rw [hre, ← hci]
    exact va_recv hK X.1 (ab_vw hc10) (ab_wd_at E h6)
  have hpv : PreV s H y.cls (ab_re E (kO ci) a) (va_Pc ((vR (kO ci) a :: bs).map (ab_vm E)) (ab_B E sy u)) (bs.map (ab_vm E)) := ⟨ab_B_blind E sy u _, hrec, fun U hU hW => ab_pre (as := vR (kO ci) a :: bs) F X U hU hW⟩
  have hstack : (List.map (ab_vm E) (bs.reverse ++ vR (kO ci) a :: st)) = (bs.map (ab_vm E)).reverse ++ .ref (ab_re E (kO ci) a) :: st.map (ab_vm E) := by
    rw [List.map_append, List.map_reverse]
    rfl
  have hfix : CallFix p m c b L.length s args ab_W0 (ab_cn own) := ⟨hex, hb, hml, hown, hts⟩
  have hmon : 2 * (F0 m pc ls (List.map (ab_vm E) (bs.reverse ++ vR (kO ci) a :: st))).monitorRoom + ((st.map (ab_vm E)).map fun v => v.category).sum ≤ 8 := lv_room (by rw [ab_cats]; exact hcat)
  have hrun : va_Run p l e (ab_rm d) s m args below meth c H locs 0 0 0 0 (F0 m pc ls (List.map (ab_vm E) (bs.reverse ++ vR (kO ci) a :: st))) (st.map (ab_vm E)) (ab_Q E sy w' z uz (Value.ref (ab_re E (kO ci) a) :: bs.map (ab_vm E)).toArray) (ab_A E sy) := by
    rcases hlk with hlk | hlk
    · exact va_runV hfix hM2 ⟨ab_CB hts hI hdep (hts _ hlk), hts _ hV.1, hts _ hV.2⟩ hpv rfl (by simp) hl.1 hstack hmon hd ⟨Nat.zero_le _, Nat.zero_le _⟩
    · exact va_runVN hfix hM2 ⟨ab_CBN hts hI hdep (va_Nw.use rfl (hNW _ hlk rfl)), hts _ hV.1, hts _ hV.2⟩ hpv rfl (by simp) hl.1 hstack hmon hd ⟨Nat.zero_le _, Nat.zero_le _⟩
  refine ab_aft hrun X (fun H1 locs1 X1 => ?_)
  have k1 := kk (z, uz) hq x u' hx p l e s m args below meth c H1 locs1 ls E hfl F hret hlk2 hml X1 hl hL (fun v hv => by
    rcases List.mem_append.mp hv with h | h
    · exact hw z v (by simpa using h) sy
    · exact hokr v h)
  rw [List.map_append] at k1
  rw [show Option.toList (Option.map (ab_vm E) (w' z)) = List.map (ab_vm E) (Option.toList (w' z)) by cases w' z <;> rfl]
  exact k1
/-- a static call -/
theorem g_callS (hM : ab_C sy y b' nL' rt' d' as u w' r0) (hI : ab_mI y b' nL' rt' as.length) (hV : ab_mS y) (hlk : ab_lp own k y ∨ ab_ln' own k y) (hw : ab_wok w') (hd : decode b pc = .ok (.invokestatic k, 3)) (hst : st0 = as.reverse ++ st) (hcat : (st.map ab_cat).sum ≤ 8) (hdep : d' + 1 ≤ d) (hp : pc + 3 = pc2)
    (kk : ∀ q : τ' × ab_S, r0 = some q → ab_G sy own b rt d pc2 L ((w' q.1).toList ++ st) q.2 w (r1 q)) : ab_G sy own b rt d pc L st0 u w (r0.bind r1) := by
  intro x u' hx p l e s m args below meth c H locs ls E hfl F hret hlk2 hml X hl hL hok
  subst hp
  subst hst
  obtain ⟨q, hq, hx⟩ := ab_bind hx
  obtain ⟨z, uz⟩ := q
  obtain ⟨hex, hb, hown, hts, hNW, hK, hSF, ho, hs⟩ := id F
  have hoka : ab_oks sy as := fun v hv => hok v (List.mem_append_left _ (List.mem_reverse.mpr hv))
  have hokr : ab_oks sy st := fun v hv => hok v (List.mem_append_right _ hv)
  have hM2 := hM z uz hq hoka l E hfl
  have hpv : PreS s H (va_Pc (as.map (ab_vm E)) (ab_B E sy u)) (as.map (ab_vm E)) := ⟨ab_B_blind E sy u _, fun U hU hW => ab_pre (as := as) F X U hU hW⟩
  have hstack : (List.map (ab_vm E) (as.reverse ++ st)) = (as.map (ab_vm E)).reverse ++ st.map (ab_vm E) := by
    rw [List.map_append, List.map_reverse]
  have hfix : CallFix p m c b L.length s args ab_W0 (ab_cn own) := ⟨hex, hb, hml, hown, hts⟩
  have hmon : 2 * (F0 m pc ls (List.map (ab_vm E) (as.reverse ++ st))).monitorRoom + ((st.map (ab_vm E)).map fun v => v.category).sum ≤ 8 := lv_room (by rw [ab_cats]; exact hcat)
  have hrun : va_Run p l e (ab_rm d) s m args below meth c H locs 0 0 0 0 (F0 m pc ls (List.map (ab_vm E) (as.reverse ++ st))) (st.map (ab_vm E)) (ab_Q E sy w' z uz (as.map (ab_vm E)).toArray) (ab_A E sy) := by
    rcases hlk with hlk | hlk
    · exact va_runS hfix hM2 ⟨ab_CB hts hI hdep (hts _ hlk), hts _ hV⟩ hpv rfl (by simp) hl.1 hstack hmon hd ⟨Nat.zero_le _, Nat.zero_le _⟩
    · exact va_runSN hfix hM2 ⟨ab_CBN hts hI hdep (va_Nw.use rfl (hNW _ hlk rfl)), hts _ hV, trivial⟩ hpv rfl (by simp) hl.1 hstack hmon hd ⟨Nat.zero_le _, Nat.zero_le _⟩
  refine ab_aft hrun X (fun H1 locs1 X1 => ?_)
  have k1 := kk (z, uz) hq x u' hx p l e s m args below meth c H1 locs1 ls E hfl F hret hlk2 hml X1 hl hL (fun v hv => by
    rcases List.mem_append.mp hv with h | h
    · exact hw z v (by simpa using h) sy
    · exact hokr v h)
  rw [List.map_append] at k1
  rw [show Option.toList (Option.map (ab_vm E) (w' z)) = List.map (ab_vm E) (Option.toList (w' z)) by cases w' z <;> rfl]
  exact k1
end ABJ
end
section
/-! what the tables say of the methods and of the call sites -/
def fu : Nat := 5000
def ab_mk : List Bool → List (Option ab_V) → List (Option ab_V)
  | b :: m, o :: r => (bif b then o else none) :: ab_mk m r
  | _, _ => []
theorem ab_mk_ok : ∀ (m : List Bool) (L : List (Option ab_V)) (i : Nat) (v : ab_V), (ab_mk m L)[i]? = some (some v) → L[i]? = some (some v)
  | [], L, i, v, h => by simp [ab_mk] at h
  | b :: m, [], i, v, h => by simp [ab_mk] at h
  | b :: m, o :: r, 0, v, h => by
    cases b with
    | false => simp [ab_mk] at h
    | true => simpa [ab_mk] using h
  | b :: m, o :: r, i + 1, v, h => by
    simp only [ab_mk, List.getElem?_cons_succ] at h ⊢
    exact ab_mk_ok m r i v h
theorem ab_mk_len : ∀ (m : List Bool) (L : List (Option ab_V)), m.length = L.length → (ab_mk m L).length = L.length
  | [], [], h => rfl
  | b :: m, o :: r, h => by simp only [ab_mk, List.length_cons]; rw [ab_mk_len m r (by simpa using h)]
  | [], o :: r, h => by simp at h
  | b :: m, [], h => by simp at h
theorem g_jump {τ : Type} {sy own : Nat} {b : ByteArray} {rt : Option FieldType} {d pc : Nat} {L L' : List (Option ab_V)} {st : List ab_V} {u : ab_S} {w : τ → Option ab_V} {r : Option (τ × ab_S)} (m : List Bool) (hm : ab_mk m L = L') (k : ab_G sy own b rt d pc L' st u w r) (hn : m.length = L.length := by rfl) : ab_G sy own b rt d pc L st u w r :=
  g_weak (L' := L') (by rw [← hm]; exact ab_mk_len m L hn) (fun i v h => ab_mk_ok m L i v (by rw [hm]; exact h)) k
theorem miX9_feed : ab_mI yX9_feed cX9_feed 7 (some .int) 3 := ⟨(ab_inT 492 (by decide +kernel) (by decide +kernel)), (ab_inT 166 (by decide +kernel) (by decide +kernel)), ⟨by decide +kernel, by decide +kernel⟩, by decide +kernel, by decide⟩
theorem mvX9_feed : ab_mV yX9_feed := ⟨(ab_inT 490 (by decide +kernel) (by decide +kernel)), (ab_inT 491 (by decide +kernel) (by decide +kernel))⟩
theorem miX9_office : ab_mI yX9_office cX9_office 3 (some .int) 0 := ⟨(ab_inT 501 (by decide +kernel) (by decide +kernel)), (ab_inT 166 (by decide +kernel) (by decide +kernel)), ⟨by decide +kernel, by decide +kernel⟩, by decide +kernel, by decide⟩
theorem mvX9_office : ab_mV yX9_office := ⟨(ab_inT 499 (by decide +kernel) (by decide +kernel)), (ab_inT 500 (by decide +kernel) (by decide +kernel))⟩
theorem miX9_openOffice : ab_mI yX9_openOffice cX9_openOffice 2 none 0 := ⟨(ab_inT 840 (by decide +kernel) (by decide +kernel)), (ab_inT 166 (by decide +kernel) (by decide +kernel)), ⟨by decide +kernel, by decide +kernel⟩, by decide +kernel, by decide⟩
theorem mvX9_openOffice : ab_mV yX9_openOffice := ⟨(ab_inT 839 (by decide +kernel) (by decide +kernel)), (ab_inT 41 (by decide +kernel) (by decide +kernel))⟩
theorem miX9_year : ab_mI yX9_year cX9_year 3 (some .int) 0 := ⟨(ab_inT 851 (by decide +kernel) (by decide +kernel)), (ab_inT 166 (by decide +kernel) (by decide +kernel)), ⟨by decide +kernel, by decide +kernel⟩, by decide +kernel, by decide⟩
theorem mvX9_year : ab_mV yX9_year := ⟨(ab_inT 849 (by decide +kernel) (by decide +kernel)), (ab_inT 850 (by decide +kernel) (by decide +kernel))⟩
theorem miX9_person : ab_mI yX9_person cX9_person 3 (some .int) 2 := ⟨(ab_inT 886 (by decide +kernel) (by decide +kernel)), (ab_inT 166 (by decide +kernel) (by decide +kernel)), ⟨by decide +kernel, by decide +kernel⟩, by decide +kernel, by decide⟩
theorem mvX9_person : ab_mV yX9_person := ⟨(ab_inT 884 (by decide +kernel) (by decide +kernel)), (ab_inT 885 (by decide +kernel) (by decide +kernel))⟩
theorem miX9_good : ab_mI yX9_good cX9_good 3 (some .int) 2 := ⟨(ab_inT 910 (by decide +kernel) (by decide +kernel)), (ab_inT 166 (by decide +kernel) (by decide +kernel)), ⟨by decide +kernel, by decide +kernel⟩, by decide +kernel, by decide⟩
theorem mvX9_good : ab_mV yX9_good := ⟨(ab_inT 908 (by decide +kernel) (by decide +kernel)), (ab_inT 909 (by decide +kernel) (by decide +kernel))⟩
theorem miX9_fit : ab_mI yX9_fit cX9_fit 3 (some .int) 2 := ⟨(ab_inT 924 (by decide +kernel) (by decide +kernel)), (ab_inT 166 (by decide +kernel) (by decide +kernel)), ⟨by decide +kernel, by decide +kernel⟩, by decide +kernel, by decide⟩
theorem mvX9_fit : ab_mV yX9_fit := ⟨(ab_inT 922 (by decide +kernel) (by decide +kernel)), (ab_inT 923 (by decide +kernel) (by decide +kernel))⟩
theorem miX9_buy : ab_mI yX9_buy cX9_buy 2 (some .int) 1 := ⟨(ab_inT 943 (by decide +kernel) (by decide +kernel)), (ab_inT 166 (by decide +kernel) (by decide +kernel)), ⟨by decide +kernel, by decide +kernel⟩, by decide +kernel, by decide⟩
theorem mvX9_buy : ab_mV yX9_buy := ⟨(ab_inT 941 (by decide +kernel) (by decide +kernel)), (ab_inT 942 (by decide +kernel) (by decide +kernel))⟩
theorem miX9_swap : ab_mI yX9_swap cX9_swap 3 (some .boolean) 2 := ⟨(ab_inT 969 (by decide +kernel) (by decide +kernel)), (ab_inT 166 (by decide +kernel) (by decide +kernel)), ⟨by decide +kernel, by decide +kernel⟩, by decide +kernel, by decide⟩
theorem mvX9_swap : ab_mV yX9_swap := ⟨(ab_inT 967 (by decide +kernel) (by decide +kernel)), (ab_inT 968 (by decide +kernel) (by decide +kernel))⟩
theorem miX9_bring : ab_mI yX9_bring cX9_bring 3 (some .int) 1 := ⟨(ab_inT 990 (by decide +kernel) (by decide +kernel)), (ab_inT 166 (by decide +kernel) (by decide +kernel)), ⟨by decide +kernel, by decide +kernel⟩, by decide +kernel, by decide⟩
theorem mvX9_bring : ab_mV yX9_bring := ⟨(ab_inT 988 (by decide +kernel) (by decide +kernel)), (ab_inT 989 (by decide +kernel) (by decide +kernel))⟩
theorem miX9_quarter : ab_mI yX9_quarter cX9_quarter 1 (some .int) 0 := ⟨(ab_inT 995 (by decide +kernel) (by decide +kernel)), (ab_inT 166 (by decide +kernel) (by decide +kernel)), ⟨by decide +kernel, by decide +kernel⟩, by decide +kernel, by decide⟩
theorem mvX9_quarter : ab_mV yX9_quarter := ⟨(ab_inT 993 (by decide +kernel) (by decide +kernel)), (ab_inT 994 (by decide +kernel) (by decide +kernel))⟩
theorem miX9_remember : ab_mI yX9_remember cX9_remember 3 none 0 := ⟨(ab_inT 953 (by decide +kernel) (by decide +kernel)), (ab_inT 166 (by decide +kernel) (by decide +kernel)), ⟨by decide +kernel, by decide +kernel⟩, by decide +kernel, by decide⟩
theorem mvX9_remember : ab_mV yX9_remember := ⟨(ab_inT 952 (by decide +kernel) (by decide +kernel)), (ab_inT 56 (by decide +kernel) (by decide +kernel))⟩
theorem miX9_undo : ab_mI yX9_undo cX9_undo 2 (some .boolean) 0 := ⟨(ab_inT 1042 (by decide +kernel) (by decide +kernel)), (ab_inT 166 (by decide +kernel) (by decide +kernel)), ⟨by decide +kernel, by decide +kernel⟩, by decide +kernel, by decide⟩
theorem mvX9_undo : ab_mV yX9_undo := ⟨(ab_inT 1040 (by decide +kernel) (by decide +kernel)), (ab_inT 1041 (by decide +kernel) (by decide +kernel))⟩
theorem miX9_judged : ab_mI yX9_judged cX9_judged 5 (some .int) 1 := ⟨(ab_inT 1046 (by decide +kernel) (by decide +kernel)), (ab_inT 166 (by decide +kernel) (by decide +kernel)), ⟨by decide +kernel, by decide +kernel⟩, by decide +kernel, by decide⟩
theorem mvX9_judged : ab_mV yX9_judged := ⟨(ab_inT 1044 (by decide +kernel) (by decide +kernel)), (ab_inT 1045 (by decide +kernel) (by decide +kernel))⟩
theorem miX9_winner : ab_mI yX9_winner cX9_winner 4 (some .int) 1 := ⟨(ab_inT 1067 (by decide +kernel) (by decide +kernel)), (ab_inT 166 (by decide +kernel) (by decide +kernel)), ⟨by decide +kernel, by decide +kernel⟩, by decide +kernel, by decide⟩
theorem mvX9_winner : ab_mV yX9_winner := ⟨(ab_inT 1065 (by decide +kernel) (by decide +kernel)), (ab_inT 1066 (by decide +kernel) (by decide +kernel))⟩
theorem miX9_where : ab_mI yX9_where cX9_where 4 (some .int) 2 := ⟨(ab_inT 1071 (by decide +kernel) (by decide +kernel)), (ab_inT 166 (by decide +kernel) (by decide +kernel)), ⟨by decide +kernel, by decide +kernel⟩, by decide +kernel, by decide⟩
theorem mvX9_where : ab_mV yX9_where := ⟨(ab_inT 1069 (by decide +kernel) (by decide +kernel)), (ab_inT 1070 (by decide +kernel) (by decide +kernel))⟩
theorem miX9_has : ab_mI yX9_has cX9_has 4 (some .int) 2 := ⟨(ab_inT 1075 (by decide +kernel) (by decide +kernel)), (ab_inT 166 (by decide +kernel) (by decide +kernel)), ⟨by decide +kernel, by decide +kernel⟩, by decide +kernel, by decide⟩
theorem mvX9_has : ab_mV yX9_has := ⟨(ab_inT 1073 (by decide +kernel) (by decide +kernel)), (ab_inT 1074 (by decide +kernel) (by decide +kernel))⟩
theorem miX9_home : ab_mI yX9_home cX9_home 2 (some .int) 0 := ⟨(ab_inT 1079 (by decide +kernel) (by decide +kernel)), (ab_inT 166 (by decide +kernel) (by decide +kernel)), ⟨by decide +kernel, by decide +kernel⟩, by decide +kernel, by decide⟩
theorem mvX9_home : ab_mV yX9_home := ⟨(ab_inT 1077 (by decide +kernel) (by decide +kernel)), (ab_inT 1078 (by decide +kernel) (by decide +kernel))⟩
theorem miX9_empty : ab_mI yX9_empty cX9_empty 2 (some .int) 0 := ⟨(ab_inT 1084 (by decide +kernel) (by decide +kernel)), (ab_inT 166 (by decide +kernel) (by decide +kernel)), ⟨by decide +kernel, by decide +kernel⟩, by decide +kernel, by decide⟩
theorem mvX9_empty : ab_mV yX9_empty := ⟨(ab_inT 1082 (by decide +kernel) (by decide +kernel)), (ab_inT 1083 (by decide +kernel) (by decide +kernel))⟩
theorem miX9_won : ab_mI yX9_won cX9_won 5 (some .int) 2 := ⟨(ab_inT 1089 (by decide +kernel) (by decide +kernel)), (ab_inT 166 (by decide +kernel) (by decide +kernel)), ⟨by decide +kernel, by decide +kernel⟩, by decide +kernel, by decide⟩
theorem mvX9_won : ab_mV yX9_won := ⟨(ab_inT 1087 (by decide +kernel) (by decide +kernel)), (ab_inT 1088 (by decide +kernel) (by decide +kernel))⟩
theorem miX9_streak : ab_mI yX9_streak cX9_streak 7 (some .int) 2 := ⟨(ab_inT 1093 (by decide +kernel) (by decide +kernel)), (ab_inT 166 (by decide +kernel) (by decide +kernel)), ⟨by decide +kernel, by decide +kernel⟩, by decide +kernel, by decide⟩
theorem mvX9_streak : ab_mV yX9_streak := ⟨(ab_inT 1091 (by decide +kernel) (by decide +kernel)), (ab_inT 1092 (by decide +kernel) (by decide +kernel))⟩
theorem miX9_moves : ab_mI yX9_moves cX9_moves 3 (some .int) 1 := ⟨(ab_inT 1098 (by decide +kernel) (by decide +kernel)), (ab_inT 166 (by decide +kernel) (by decide +kernel)), ⟨by decide +kernel, by decide +kernel⟩, by decide +kernel, by decide⟩
theorem mvX9_moves : ab_mV yX9_moves := ⟨(ab_inT 1096 (by decide +kernel) (by decide +kernel)), (ab_inT 1097 (by decide +kernel) (by decide +kernel))⟩
theorem miX9_least : ab_mI yX9_least cX9_least 6 (some .int) 0 := ⟨(ab_inT 1102 (by decide +kernel) (by decide +kernel)), (ab_inT 166 (by decide +kernel) (by decide +kernel)), ⟨by decide +kernel, by decide +kernel⟩, by decide +kernel, by decide⟩
theorem mvX9_least : ab_mV yX9_least := ⟨(ab_inT 1100 (by decide +kernel) (by decide +kernel)), (ab_inT 1101 (by decide +kernel) (by decide +kernel))⟩
theorem miX9_rights : ab_mI yX9_rights cX9_rights 1 (some .int) 0 := ⟨(ab_inT 1106 (by decide +kernel) (by decide +kernel)), (ab_inT 166 (by decide +kernel) (by decide +kernel)), ⟨by decide +kernel, by decide +kernel⟩, by decide +kernel, by decide⟩
theorem mvX9_rights : ab_mV yX9_rights := ⟨(ab_inT 1104 (by decide +kernel) (by decide +kernel)), (ab_inT 1105 (by decide +kernel) (by decide +kernel))⟩
theorem miX9_joy : ab_mI yX9_joy cX9_joy 2 (some .int) 1 := ⟨(ab_inT 1110 (by decide +kernel) (by decide +kernel)), (ab_inT 166 (by decide +kernel) (by decide +kernel)), ⟨by decide +kernel, by decide +kernel⟩, by decide +kernel, by decide⟩
theorem mvX9_joy : ab_mV yX9_joy := ⟨(ab_inT 1108 (by decide +kernel) (by decide +kernel)), (ab_inT 1109 (by decide +kernel) (by decide +kernel))⟩
theorem miX9_envy : ab_mI yX9_envy cX9_envy 5 (some .int) 1 := ⟨(ab_inT 1122 (by decide +kernel) (by decide +kernel)), (ab_inT 166 (by decide +kernel) (by decide +kernel)), ⟨by decide +kernel, by decide +kernel⟩, by decide +kernel, by decide⟩
theorem mvX9_envy : ab_mV yX9_envy := ⟨(ab_inT 1120 (by decide +kernel) (by decide +kernel)), (ab_inT 1121 (by decide +kernel) (by decide +kernel))⟩
theorem miX9_offers : ab_mI yX9_offers cX9_offers 6 (some .int) 1 := ⟨(ab_inT 1127 (by decide +kernel) (by decide +kernel)), (ab_inT 166 (by decide +kernel) (by decide +kernel)), ⟨by decide +kernel, by decide +kernel⟩, by decide +kernel, by decide⟩
theorem mvX9_offers : ab_mV yX9_offers := ⟨(ab_inT 1125 (by decide +kernel) (by decide +kernel)), (ab_inT 1126 (by decide +kernel) (by decide +kernel))⟩
theorem miX9_want : ab_mI yX9_want cX9_want 6 (some .int) 1 := ⟨(ab_inT 1131 (by decide +kernel) (by decide +kernel)), (ab_inT 166 (by decide +kernel) (by decide +kernel)), ⟨by decide +kernel, by decide +kernel⟩, by decide +kernel, by decide⟩
theorem mvX9_want : ab_mV yX9_want := ⟨(ab_inT 1129 (by decide +kernel) (by decide +kernel)), (ab_inT 1130 (by decide +kernel) (by decide +kernel))⟩
theorem miX9_fans : ab_mI yX9_fans cX9_fans 2 (some .int) 1 := ⟨(ab_inT 1135 (by decide +kernel) (by decide +kernel)), (ab_inT 166 (by decide +kernel) (by decide +kernel)), ⟨by decide +kernel, by decide +kernel⟩, by decide +kernel, by decide⟩
theorem mvX9_fans : ab_mV yX9_fans := ⟨(ab_inT 1133 (by decide +kernel) (by decide +kernel)), (ab_inT 1134 (by decide +kernel) (by decide +kernel))⟩
theorem miX9_dull : ab_mI yX9_dull cX9_dull 3 (some .int) 0 := ⟨(ab_inT 1147 (by decide +kernel) (by decide +kernel)), (ab_inT 166 (by decide +kernel) (by decide +kernel)), ⟨by decide +kernel, by decide +kernel⟩, by decide +kernel, by decide⟩
theorem mvX9_dull : ab_mV yX9_dull := ⟨(ab_inT 1145 (by decide +kernel) (by decide +kernel)), (ab_inT 1146 (by decide +kernel) (by decide +kernel))⟩
theorem miX9_fanBits : ab_mI yX9_fanBits cX9_fanBits 4 (some .int) 1 := ⟨(ab_inT 1139 (by decide +kernel) (by decide +kernel)), (ab_inT 166 (by decide +kernel) (by decide +kernel)), ⟨by decide +kernel, by decide +kernel⟩, by decide +kernel, by decide⟩
theorem mvX9_fanBits : ab_mV yX9_fanBits := ⟨(ab_inT 1138 (by decide +kernel) (by decide +kernel)), (ab_inT 75 (by decide +kernel) (by decide +kernel))⟩
theorem miX9_isFan : ab_mI yX9_isFan cX9_isFan 5 (some .boolean) 2 := ⟨(ab_inT 1143 (by decide +kernel) (by decide +kernel)), (ab_inT 166 (by decide +kernel) (by decide +kernel)), ⟨by decide +kernel, by decide +kernel⟩, by decide +kernel, by decide⟩
theorem mvX9_isFan : ab_mV yX9_isFan := ⟨(ab_inT 1142 (by decide +kernel) (by decide +kernel)), (ab_inT 76 (by decide +kernel) (by decide +kernel))⟩
theorem miX9_gets : ab_mI yX9_gets cX9_gets 2 (some .int) 1 := ⟨(ab_inT 1151 (by decide +kernel) (by decide +kernel)), (ab_inT 166 (by decide +kernel) (by decide +kernel)), ⟨by decide +kernel, by decide +kernel⟩, by decide +kernel, by decide⟩
theorem mvX9_gets : ab_mV yX9_gets := ⟨(ab_inT 1149 (by decide +kernel) (by decide +kernel)), (ab_inT 1150 (by decide +kernel) (by decide +kernel))⟩
theorem miX9_rounds : ab_mI yX9_rounds cX9_rounds 1 (some .int) 0 := ⟨(ab_inT 1188 (by decide +kernel) (by decide +kernel)), (ab_inT 166 (by decide +kernel) (by decide +kernel)), ⟨by decide +kernel, by decide +kernel⟩, by decide +kernel, by decide⟩
theorem mvX9_rounds : ab_mV yX9_rounds := ⟨(ab_inT 1186 (by decide +kernel) (by decide +kernel)), (ab_inT 1187 (by decide +kernel) (by decide +kernel))⟩
theorem miX9_best : ab_mI yX9_best cX9_best 2 (some .int) 1 := ⟨(ab_inT 1192 (by decide +kernel) (by decide +kernel)), (ab_inT 166 (by decide +kernel) (by decide +kernel)), ⟨by decide +kernel, by decide +kernel⟩, by decide +kernel, by decide⟩
theorem mvX9_best : ab_mV yX9_best := ⟨(ab_inT 1190 (by decide +kernel) (by decide +kernel)), (ab_inT 1191 (by decide +kernel) (by decide +kernel))⟩
theorem miX9_owes : ab_mI yX9_owes cX9_owes 4 (some .int) 1 := ⟨(ab_inT 1226 (by decide +kernel) (by decide +kernel)), (ab_inT 166 (by decide +kernel) (by decide +kernel)), ⟨by decide +kernel, by decide +kernel⟩, by decide +kernel, by decide⟩
theorem mvX9_owes : ab_mV yX9_owes := ⟨(ab_inT 1224 (by decide +kernel) (by decide +kernel)), (ab_inT 1225 (by decide +kernel) (by decide +kernel))⟩
theorem miX9_spare : ab_mI yX9_spare cX9_spare 4 (some .int) 0 := ⟨(ab_inT 1232 (by decide +kernel) (by decide +kernel)), (ab_inT 166 (by decide +kernel) (by decide +kernel)), ⟨by decide +kernel, by decide +kernel⟩, by decide +kernel, by decide⟩
theorem mvX9_spare : ab_mV yX9_spare := ⟨(ab_inT 1230 (by decide +kernel) (by decide +kernel)), (ab_inT 1231 (by decide +kernel) (by decide +kernel))⟩
theorem miX9_odds : ab_mI yX9_odds cX9_odds 12 (some .int) 2 := ⟨(ab_inT 1236 (by decide +kernel) (by decide +kernel)), (ab_inT 166 (by decide +kernel) (by decide +kernel)), ⟨by decide +kernel, by decide +kernel⟩, by decide +kernel, by decide⟩
theorem mvX9_odds : ab_mV yX9_odds := ⟨(ab_inT 1234 (by decide +kernel) (by decide +kernel)), (ab_inT 1235 (by decide +kernel) (by decide +kernel))⟩
theorem miX9_enough : ab_mI yX9_enough cX9_enough 5 (some .int) 2 := ⟨(ab_inT 1242 (by decide +kernel) (by decide +kernel)), (ab_inT 166 (by decide +kernel) (by decide +kernel)), ⟨by decide +kernel, by decide +kernel⟩, by decide +kernel, by decide⟩
theorem mvX9_enough : ab_mV yX9_enough := ⟨(ab_inT 1240 (by decide +kernel) (by decide +kernel)), (ab_inT 1241 (by decide +kernel) (by decide +kernel))⟩
theorem miX9_run : ab_mI yX9_run cX9_run 9 (some .int) 1 := ⟨(ab_inT 1246 (by decide +kernel) (by decide +kernel)), (ab_inT 166 (by decide +kernel) (by decide +kernel)), ⟨by decide +kernel, by decide +kernel⟩, by decide +kernel, by decide⟩
theorem mvX9_run : ab_mV yX9_run := ⟨(ab_inT 1244 (by decide +kernel) (by decide +kernel)), (ab_inT 1245 (by decide +kernel) (by decide +kernel))⟩
theorem miX9_see : ab_mI yX9_see cX9_see 4 (some .boolean) 3 := ⟨(ab_inT 1251 (by decide +kernel) (by decide +kernel)), (ab_inT 166 (by decide +kernel) (by decide +kernel)), ⟨by decide +kernel, by decide +kernel⟩, by decide +kernel, by decide⟩
theorem mvX9_see : ab_mV yX9_see := ⟨(ab_inT 1249 (by decide +kernel) (by decide +kernel)), (ab_inT 1250 (by decide +kernel) (by decide +kernel))⟩
theorem miX9_who : ab_mI yX9_who cX9_who 1 (some .int) 0 := ⟨(ab_inT 1260 (by decide +kernel) (by decide +kernel)), (ab_inT 166 (by decide +kernel) (by decide +kernel)), ⟨by decide +kernel, by decide +kernel⟩, by decide +kernel, by decide⟩
theorem mvX9_who : ab_mV yX9_who := ⟨(ab_inT 1258 (by decide +kernel) (by decide +kernel)), (ab_inT 1259 (by decide +kernel) (by decide +kernel))⟩
theorem miX9_ask : ab_mI yX9_ask cX9_ask 7 (some .int) 0 := ⟨(ab_inT 1274 (by decide +kernel) (by decide +kernel)), (ab_inT 166 (by decide +kernel) (by decide +kernel)), ⟨by decide +kernel, by decide +kernel⟩, by decide +kernel, by decide⟩
theorem mvX9_ask : ab_mV yX9_ask := ⟨(ab_inT 1272 (by decide +kernel) (by decide +kernel)), (ab_inT 1273 (by decide +kernel) (by decide +kernel))⟩
theorem miX9_leftByAsking : ab_mI yX9_leftByAsking cX9_leftByAsking 6 (some .int) 3 := ⟨(ab_inT 1278 (by decide +kernel) (by decide +kernel)), (ab_inT 166 (by decide +kernel) (by decide +kernel)), ⟨by decide +kernel, by decide +kernel⟩, by decide +kernel, by decide⟩
theorem mvX9_leftByAsking : ab_mV yX9_leftByAsking := ⟨(ab_inT 1277 (by decide +kernel) (by decide +kernel)), (ab_inT 93 (by decide +kernel) (by decide +kernel))⟩
theorem miX9_rich : ab_mI yX9_rich cX9_rich 4 (some .int) 0 := ⟨(ab_inT 1282 (by decide +kernel) (by decide +kernel)), (ab_inT 166 (by decide +kernel) (by decide +kernel)), ⟨by decide +kernel, by decide +kernel⟩, by decide +kernel, by decide⟩
theorem mvX9_rich : ab_mV yX9_rich := ⟨(ab_inT 1280 (by decide +kernel) (by decide +kernel)), (ab_inT 1281 (by decide +kernel) (by decide +kernel))⟩
theorem miX9_sad : ab_mI yX9_sad cX9_sad 5 (some .int) 0 := ⟨(ab_inT 1286 (by decide +kernel) (by decide +kernel)), (ab_inT 166 (by decide +kernel) (by decide +kernel)), ⟨by decide +kernel, by decide +kernel⟩, by decide +kernel, by decide⟩
theorem mvX9_sad : ab_mV yX9_sad := ⟨(ab_inT 1284 (by decide +kernel) (by decide +kernel)), (ab_inT 1285 (by decide +kernel) (by decide +kernel))⟩
theorem miX9_lack : ab_mI yX9_lack cX9_lack 4 (some .int) 1 := ⟨(ab_inT 1290 (by decide +kernel) (by decide +kernel)), (ab_inT 166 (by decide +kernel) (by decide +kernel)), ⟨by decide +kernel, by decide +kernel⟩, by decide +kernel, by decide⟩
theorem mvX9_lack : ab_mV yX9_lack := ⟨(ab_inT 1288 (by decide +kernel) (by decide +kernel)), (ab_inT 1289 (by decide +kernel) (by decide +kernel))⟩
theorem miX9_debt : ab_mI yX9_debt cX9_debt 1 (some .int) 0 := ⟨(ab_inT 1294 (by decide +kernel) (by decide +kernel)), (ab_inT 166 (by decide +kernel) (by decide +kernel)), ⟨by decide +kernel, by decide +kernel⟩, by decide +kernel, by decide⟩
theorem mvX9_debt : ab_mV yX9_debt := ⟨(ab_inT 1292 (by decide +kernel) (by decide +kernel)), (ab_inT 1293 (by decide +kernel) (by decide +kernel))⟩
theorem miX9_poor : ab_mI yX9_poor cX9_poor 3 (some .int) 0 := ⟨(ab_inT 1298 (by decide +kernel) (by decide +kernel)), (ab_inT 166 (by decide +kernel) (by decide +kernel)), ⟨by decide +kernel, by decide +kernel⟩, by decide +kernel, by decide⟩
theorem mvX9_poor : ab_mV yX9_poor := ⟨(ab_inT 1296 (by decide +kernel) (by decide +kernel)), (ab_inT 1297 (by decide +kernel) (by decide +kernel))⟩
theorem miX9_rests : ab_mI yX9_rests cX9_rests 7 (some .int) 4 := ⟨(ab_inT 1340 (by decide +kernel) (by decide +kernel)), (ab_inT 166 (by decide +kernel) (by decide +kernel)), ⟨by decide +kernel, by decide +kernel⟩, by decide +kernel, by decide⟩
theorem mvX9_rests : ab_mV yX9_rests := ⟨(ab_inT 1338 (by decide +kernel) (by decide +kernel)), (ab_inT 1339 (by decide +kernel) (by decide +kernel))⟩
theorem miX9_isBargain : ab_mI yX9_isBargain cX9_isBargain 1 (some .boolean) 1 := ⟨(ab_inT 1343 (by decide +kernel) (by decide +kernel)), (ab_inT 166 (by decide +kernel) (by decide +kernel)), ⟨by decide +kernel, by decide +kernel⟩, by decide +kernel, by decide⟩
theorem msX9_isBargain : ab_mS yX9_isBargain := (ab_inT 1342 (by decide +kernel) (by decide +kernel))
theorem miX9_isRest : ab_mI yX9_isRest cX9_isRest 6 (some .boolean) 4 := ⟨(ab_inT 1411 (by decide +kernel) (by decide +kernel)), (ab_inT 166 (by decide +kernel) (by decide +kernel)), ⟨by decide +kernel, by decide +kernel⟩, by decide +kernel, by decide⟩
theorem msX9_isRest : ab_mS yX9_isRest := (ab_inT 1410 (by decide +kernel) (by decide +kernel))
theorem miX9_bargained : ab_mI yX9_bargained cX9_bargained 5 (some .int) 5 := ⟨(ab_inT 1414 (by decide +kernel) (by decide +kernel)), (ab_inT 166 (by decide +kernel) (by decide +kernel)), ⟨by decide +kernel, by decide +kernel⟩, by decide +kernel, by decide⟩
theorem msX9_bargained : ab_mS yX9_bargained := (ab_inT 1413 (by decide +kernel) (by decide +kernel))
theorem miX9_luck : ab_mI yX9_luck cX9_luck 6 (some .int) 3 := ⟨(ab_inT 1302 (by decide +kernel) (by decide +kernel)), (ab_inT 166 (by decide +kernel) (by decide +kernel)), ⟨by decide +kernel, by decide +kernel⟩, by decide +kernel, by decide⟩
theorem mvX9_luck : ab_mV yX9_luck := ⟨(ab_inT 1300 (by decide +kernel) (by decide +kernel)), (ab_inT 1301 (by decide +kernel) (by decide +kernel))⟩
theorem miX9_mark : ab_mI yX9_mark cX9_mark 5 (some .boolean) 2 := ⟨(ab_inT 1319 (by decide +kernel) (by decide +kernel)), (ab_inT 166 (by decide +kernel) (by decide +kernel)), ⟨by decide +kernel, by decide +kernel⟩, by decide +kernel, by decide⟩
theorem mvX9_mark : ab_mV yX9_mark := ⟨(ab_inT 1317 (by decide +kernel) (by decide +kernel)), (ab_inT 1318 (by decide +kernel) (by decide +kernel))⟩
theorem miX9_count : ab_mI yX9_count cX9_count 2 (some .int) 1 := ⟨(ab_inT 1328 (by decide +kernel) (by decide +kernel)), (ab_inT 166 (by decide +kernel) (by decide +kernel)), ⟨by decide +kernel, by decide +kernel⟩, by decide +kernel, by decide⟩
theorem mvX9_count : ab_mV yX9_count := ⟨(ab_inT 1326 (by decide +kernel) (by decide +kernel)), (ab_inT 1327 (by decide +kernel) (by decide +kernel))⟩
theorem miX9_at : ab_mI yX9_at cX9_at 2 (some .int) 2 := ⟨(ab_inT 747 (by decide +kernel) (by decide +kernel)), (ab_inT 166 (by decide +kernel) (by decide +kernel)), ⟨by decide +kernel, by decide +kernel⟩, by decide +kernel, by decide⟩
theorem msX9_at : ab_mS yX9_at := (ab_inT 746 (by decide +kernel) (by decide +kernel))
theorem miX9_put : ab_mI yX9_put cX9_put 3 none 3 := ⟨(ab_inT 714 (by decide +kernel) (by decide +kernel)), (ab_inT 166 (by decide +kernel) (by decide +kernel)), ⟨by decide +kernel, by decide +kernel⟩, by decide +kernel, by decide⟩
theorem msX9_put : ab_mS yX9_put := (ab_inT 713 (by decide +kernel) (by decide +kernel))
theorem miX9_copy : ab_mI yX9_copy cX9_copy 3 none 2 := ⟨(ab_inT 960 (by decide +kernel) (by decide +kernel)), (ab_inT 166 (by decide +kernel) (by decide +kernel)), ⟨by decide +kernel, by decide +kernel⟩, by decide +kernel, by decide⟩
theorem msX9_copy : ab_mS yX9_copy := (ab_inT 959 (by decide +kernel) (by decide +kernel))
theorem miX9_sum : ab_mI yX9_sum cX9_sum 6 (some .int) 1 := ⟨(ab_inT 1018 (by decide +kernel) (by decide +kernel)), (ab_inT 166 (by decide +kernel) (by decide +kernel)), ⟨by decide +kernel, by decide +kernel⟩, by decide +kernel, by decide⟩
theorem msX9_sum : ab_mS yX9_sum := (ab_inT 1017 (by decide +kernel) (by decide +kernel))
theorem miX9_indexOf : ab_mI yX9_indexOf cX9_indexOf 5 (some .int) 3 := ⟨(ab_inT 676 (by decide +kernel) (by decide +kernel)), (ab_inT 166 (by decide +kernel) (by decide +kernel)), ⟨by decide +kernel, by decide +kernel⟩, by decide +kernel, by decide⟩
theorem msX9_indexOf : ab_mS yX9_indexOf := (ab_inT 675 (by decide +kernel) (by decide +kernel))
theorem miX9_spell : ab_mI yX9_spell cX9_spell 3 (some .long) 2 := ⟨(ab_inT 523 (by decide +kernel) (by decide +kernel)), (ab_inT 166 (by decide +kernel) (by decide +kernel)), ⟨by decide +kernel, by decide +kernel⟩, by decide +kernel, by decide⟩
theorem msX9_spell : ab_mS yX9_spell := (ab_inT 522 (by decide +kernel) (by decide +kernel))
theorem miX10_thrown : ab_mI yX10_thrown cX10_thrown 1 (some .int) 0 := ⟨(ab_inT 1419 (by decide +kernel) (by decide +kernel)), (ab_inT 175 (by decide +kernel) (by decide +kernel)), ⟨by decide +kernel, by decide +kernel⟩, by decide +kernel, by decide⟩
theorem mvX10_thrown : ab_mV yX10_thrown := ⟨(ab_inT 1417 (by decide +kernel) (by decide +kernel)), (ab_inT 1418 (by decide +kernel) (by decide +kernel))⟩
theorem miX10_feed : ab_mI yX10_feed cX10_feed 7 (some .int) 3 := ⟨(ab_inT 1423 (by decide +kernel) (by decide +kernel)), (ab_inT 175 (by decide +kernel) (by decide +kernel)), ⟨by decide +kernel, by decide +kernel⟩, by decide +kernel, by decide⟩
theorem mvX10_feed : ab_mV yX10_feed := ⟨(ab_inT 1421 (by decide +kernel) (by decide +kernel)), (ab_inT 1422 (by decide +kernel) (by decide +kernel))⟩
theorem miX10_lay : ab_mI yX10_lay cX10_lay 5 none 1 := ⟨(ab_inT 1428 (by decide +kernel) (by decide +kernel)), (ab_inT 175 (by decide +kernel) (by decide +kernel)), ⟨by decide +kernel, by decide +kernel⟩, by decide +kernel, by decide⟩
theorem mvX10_lay : ab_mV yX10_lay := ⟨(ab_inT 1426 (by decide +kernel) (by decide +kernel)), (ab_inT 99 (by decide +kernel) (by decide +kernel))⟩
theorem miX10_isLetter : ab_mI yX10_isLetter cX10_isLetter 1 (some .boolean) 1 := ⟨(ab_inT 1587 (by decide +kernel) (by decide +kernel)), (ab_inT 175 (by decide +kernel) (by decide +kernel)), ⟨by decide +kernel, by decide +kernel⟩, by decide +kernel, by decide⟩
theorem msX10_isLetter : ab_mS yX10_isLetter := (ab_inT 1586 (by decide +kernel) (by decide +kernel))
theorem miX10_isDigit : ab_mI yX10_isDigit cX10_isDigit 1 (some .boolean) 1 := ⟨(ab_inT 1594 (by decide +kernel) (by decide +kernel)), (ab_inT 175 (by decide +kernel) (by decide +kernel)), ⟨by decide +kernel, by decide +kernel⟩, by decide +kernel, by decide⟩
theorem msX10_isDigit : ab_mS yX10_isDigit := (ab_inT 1593 (by decide +kernel) (by decide +kernel))
theorem miX10_rank : ab_mI yX10_rank cX10_rank 1 (some .int) 1 := ⟨(ab_inT 1591 (by decide +kernel) (by decide +kernel)), (ab_inT 175 (by decide +kernel) (by decide +kernel)), ⟨by decide +kernel, by decide +kernel⟩, by decide +kernel, by decide⟩
theorem msX10_rank : ab_mS yX10_rank := (ab_inT 1590 (by decide +kernel) (by decide +kernel))
theorem miX10_isSignOf : ab_mI yX10_isSignOf cX10_isSignOf 1 (some .boolean) 1 := ⟨(ab_inT 1599 (by decide +kernel) (by decide +kernel)), (ab_inT 175 (by decide +kernel) (by decide +kernel)), ⟨by decide +kernel, by decide +kernel⟩, by decide +kernel, by decide⟩
theorem msX10_isSignOf : ab_mS yX10_isSignOf := (ab_inT 1598 (by decide +kernel) (by decide +kernel))
theorem miX10_cutAll : ab_mI yX10_cutAll cX10_cutAll 7 none 0 := ⟨(ab_inT 1584 (by decide +kernel) (by decide +kernel)), (ab_inT 175 (by decide +kernel) (by decide +kernel)), ⟨by decide +kernel, by decide +kernel⟩, by decide +kernel, by decide⟩
theorem mvX10_cutAll : ab_mV yX10_cutAll := ⟨(ab_inT 1583 (by decide +kernel) (by decide +kernel)), (ab_inT 105 (by decide +kernel) (by decide +kernel))⟩
theorem miX10_wrong : ab_mI yX10_wrong cX10_wrong 2 none 1 := ⟨(ab_inT 1615 (by decide +kernel) (by decide +kernel)), (ab_inT 175 (by decide +kernel) (by decide +kernel)), ⟨by decide +kernel, by decide +kernel⟩, by decide +kernel, by decide⟩
theorem mvX10_wrong : ab_mV yX10_wrong := ⟨(ab_inT 1614 (by decide +kernel) (by decide +kernel)), (ab_inT 109 (by decide +kernel) (by decide +kernel))⟩
theorem miX10_isSign : ab_mI yX10_isSign cX10_isSign 2 (some .boolean) 1 := ⟨(ab_inT 1686 (by decide +kernel) (by decide +kernel)), (ab_inT 175 (by decide +kernel) (by decide +kernel)), ⟨by decide +kernel, by decide +kernel⟩, by decide +kernel, by decide⟩
theorem mvX10_isSign : ab_mV yX10_isSign := ⟨(ab_inT 1685 (by decide +kernel) (by decide +kernel)), (ab_inT 126 (by decide +kernel) (by decide +kernel))⟩
theorem miX10_isWord : ab_mI yX10_isWord cX10_isWord 2 (some .boolean) 1 := ⟨(ab_inT 1607 (by decide +kernel) (by decide +kernel)), (ab_inT 175 (by decide +kernel) (by decide +kernel)), ⟨by decide +kernel, by decide +kernel⟩, by decide +kernel, by decide⟩
theorem mvX10_isWord : ab_mV yX10_isWord := ⟨(ab_inT 1606 (by decide +kernel) (by decide +kernel)), (ab_inT 107 (by decide +kernel) (by decide +kernel))⟩
theorem miX10_takeSign : ab_mI yX10_takeSign cX10_takeSign 2 none 1 := ⟨(ab_inT 1698 (by decide +kernel) (by decide +kernel)), (ab_inT 175 (by decide +kernel) (by decide +kernel)), ⟨by decide +kernel, by decide +kernel⟩, by decide +kernel, by decide⟩
theorem mvX10_takeSign : ab_mV yX10_takeSign := ⟨(ab_inT 1697 (by decide +kernel) (by decide +kernel)), (ab_inT 129 (by decide +kernel) (by decide +kernel))⟩
theorem miX10_hasSign : ab_mI yX10_hasSign cX10_hasSign 3 (some .boolean) 1 := ⟨(ab_inT 1694 (by decide +kernel) (by decide +kernel)), (ab_inT 175 (by decide +kernel) (by decide +kernel)), ⟨by decide +kernel, by decide +kernel⟩, by decide +kernel, by decide⟩
theorem mvX10_hasSign : ab_mV yX10_hasSign := ⟨(ab_inT 1693 (by decide +kernel) (by decide +kernel)), (ab_inT 128 (by decide +kernel) (by decide +kernel))⟩
theorem miX10_hasWord : ab_mI yX10_hasWord cX10_hasWord 3 (some .boolean) 1 := ⟨(ab_inT 1643 (by decide +kernel) (by decide +kernel)), (ab_inT 175 (by decide +kernel) (by decide +kernel)), ⟨by decide +kernel, by decide +kernel⟩, by decide +kernel, by decide⟩
theorem mvX10_hasWord : ab_mV yX10_hasWord := ⟨(ab_inT 1642 (by decide +kernel) (by decide +kernel)), (ab_inT 116 (by decide +kernel) (by decide +kernel))⟩
theorem miX10_takeWord : ab_mI yX10_takeWord cX10_takeWord 2 none 1 := ⟨(ab_inT 1639 (by decide +kernel) (by decide +kernel)), (ab_inT 175 (by decide +kernel) (by decide +kernel)), ⟨by decide +kernel, by decide +kernel⟩, by decide +kernel, by decide⟩
theorem mvX10_takeWord : ab_mV yX10_takeWord := ⟨(ab_inT 1638 (by decide +kernel) (by decide +kernel)), (ab_inT 115 (by decide +kernel) (by decide +kernel))⟩
theorem miX10_within : ab_mI yX10_within cX10_within 3 (some .boolean) 3 := ⟨(ab_inT 1654 (by decide +kernel) (by decide +kernel)), (ab_inT 175 (by decide +kernel) (by decide +kernel)), ⟨by decide +kernel, by decide +kernel⟩, by decide +kernel, by decide⟩
theorem msX10_within : ab_mS yX10_within := (ab_inT 1653 (by decide +kernel) (by decide +kernel))
theorem miX10_standsAsAlways : ab_mI yX10_standsAsAlways cX10_standsAsAlways 3 none 1 := ⟨(ab_inT 1460 (by decide +kernel) (by decide +kernel)), (ab_inT 175 (by decide +kernel) (by decide +kernel)), ⟨by decide +kernel, by decide +kernel⟩, by decide +kernel, by decide⟩
theorem mvX10_standsAsAlways : ab_mV yX10_standsAsAlways := ⟨(ab_inT 1459 (by decide +kernel) (by decide +kernel)), (ab_inT 100 (by decide +kernel) (by decide +kernel))⟩
theorem miX10_takeNumber : ab_mI yX10_takeNumber cX10_takeNumber 3 (some .int) 2 := ⟨(ab_inT 1647 (by decide +kernel) (by decide +kernel)), (ab_inT 175 (by decide +kernel) (by decide +kernel)), ⟨by decide +kernel, by decide +kernel⟩, by decide +kernel, by decide⟩
theorem mvX10_takeNumber : ab_mV yX10_takeNumber := ⟨(ab_inT 1646 (by decide +kernel) (by decide +kernel)), (ab_inT 117 (by decide +kernel) (by decide +kernel))⟩
theorem miX10_takeAfter : ab_mI yX10_takeAfter cX10_takeAfter 4 (some .int) 3 := ⟨(ab_inT 1635 (by decide +kernel) (by decide +kernel)), (ab_inT 175 (by decide +kernel) (by decide +kernel)), ⟨by decide +kernel, by decide +kernel⟩, by decide +kernel, by decide⟩
theorem mvX10_takeAfter : ab_mV yX10_takeAfter := ⟨(ab_inT 1634 (by decide +kernel) (by decide +kernel)), (ab_inT 114 (by decide +kernel) (by decide +kernel))⟩
theorem miX10_wordHere : ab_mI yX10_wordHere cX10_wordHere 5 (some .int) 2 := ⟨(ab_inT 1623 (by decide +kernel) (by decide +kernel)), (ab_inT 175 (by decide +kernel) (by decide +kernel)), ⟨by decide +kernel, by decide +kernel⟩, by decide +kernel, by decide⟩
theorem mvX10_wordHere : ab_mV yX10_wordHere := ⟨(ab_inT 1622 (by decide +kernel) (by decide +kernel)), (ab_inT 111 (by decide +kernel) (by decide +kernel))⟩
theorem miX10_takeOne : ab_mI yX10_takeOne cX10_takeOne 4 (some .int) 2 := ⟨(ab_inT 1631 (by decide +kernel) (by decide +kernel)), (ab_inT 175 (by decide +kernel) (by decide +kernel)), ⟨by decide +kernel, by decide +kernel⟩, by decide +kernel, by decide⟩
theorem mvX10_takeOne : ab_mV yX10_takeOne := ⟨(ab_inT 1630 (by decide +kernel) (by decide +kernel)), (ab_inT 113 (by decide +kernel) (by decide +kernel))⟩
theorem miX10_isName : ab_mI yX10_isName cX10_isName 1 (some .boolean) 0 := ⟨(ab_inT 1619 (by decide +kernel) (by decide +kernel)), (ab_inT 175 (by decide +kernel) (by decide +kernel)), ⟨by decide +kernel, by decide +kernel⟩, by decide +kernel, by decide⟩
theorem mvX10_isName : ab_mV yX10_isName := ⟨(ab_inT 1618 (by decide +kernel) (by decide +kernel)), (ab_inT 110 (by decide +kernel) (by decide +kernel))⟩
theorem miX10_nameAt : ab_mI yX10_nameAt cX10_nameAt 3 (some .int) 1 := ⟨(ab_inT 1627 (by decide +kernel) (by decide +kernel)), (ab_inT 175 (by decide +kernel) (by decide +kernel)), ⟨by decide +kernel, by decide +kernel⟩, by decide +kernel, by decide⟩
theorem mvX10_nameAt : ab_mV yX10_nameAt := ⟨(ab_inT 1626 (by decide +kernel) (by decide +kernel)), (ab_inT 112 (by decide +kernel) (by decide +kernel))⟩
theorem miX10_takeTold : ab_mI yX10_takeTold cX10_takeTold 5 (some .int) 3 := ⟨(ab_inT 1651 (by decide +kernel) (by decide +kernel)), (ab_inT 175 (by decide +kernel) (by decide +kernel)), ⟨by decide +kernel, by decide +kernel⟩, by decide +kernel, by decide⟩
theorem mvX10_takeTold : ab_mV yX10_takeTold := ⟨(ab_inT 1650 (by decide +kernel) (by decide +kernel)), (ab_inT 118 (by decide +kernel) (by decide +kernel))⟩
theorem miX10_office : ab_mI yX10_office cX10_office 2 (some .int) 0 := ⟨(ab_inT 1580 (by decide +kernel) (by decide +kernel)), (ab_inT 175 (by decide +kernel) (by decide +kernel)), ⟨by decide +kernel, by decide +kernel⟩, by decide +kernel, by decide⟩
theorem mvX10_office : ab_mV yX10_office := ⟨(ab_inT 1578 (by decide +kernel) (by decide +kernel)), (ab_inT 1579 (by decide +kernel) (by decide +kernel))⟩
theorem miX10_readLine : ab_mI yX10_readLine cX10_readLine 4 none 0 := ⟨(ab_inT 1603 (by decide +kernel) (by decide +kernel)), (ab_inT 175 (by decide +kernel) (by decide +kernel)), ⟨by decide +kernel, by decide +kernel⟩, by decide +kernel, by decide⟩
theorem mvX10_readLine : ab_mV yX10_readLine := ⟨(ab_inT 1602 (by decide +kernel) (by decide +kernel)), (ab_inT 106 (by decide +kernel) (by decide +kernel))⟩
theorem miX10_readName : ab_mI yX10_readName cX10_readName 5 none 3 := ⟨(ab_inT 1611 (by decide +kernel) (by decide +kernel)), (ab_inT 175 (by decide +kernel) (by decide +kernel)), ⟨by decide +kernel, by decide +kernel⟩, by decide +kernel, by decide⟩
theorem mvX10_readName : ab_mV yX10_readName := ⟨(ab_inT 1610 (by decide +kernel) (by decide +kernel)), (ab_inT 108 (by decide +kernel) (by decide +kernel))⟩
theorem miX10_readLike : ab_mI yX10_readLike cX10_readLike 4 none 0 := ⟨(ab_inT 1658 (by decide +kernel) (by decide +kernel)), (ab_inT 175 (by decide +kernel) (by decide +kernel)), ⟨by decide +kernel, by decide +kernel⟩, by decide +kernel, by decide⟩
theorem mvX10_readLike : ab_mV yX10_readLike := ⟨(ab_inT 1657 (by decide +kernel) (by decide +kernel)), (ab_inT 119 (by decide +kernel) (by decide +kernel))⟩
theorem miX10_readOnce : ab_mI yX10_readOnce cX10_readOnce 2 none 0 := ⟨(ab_inT 1662 (by decide +kernel) (by decide +kernel)), (ab_inT 175 (by decide +kernel) (by decide +kernel)), ⟨by decide +kernel, by decide +kernel⟩, by decide +kernel, by decide⟩
theorem mvX10_readOnce : ab_mV yX10_readOnce := ⟨(ab_inT 1661 (by decide +kernel) (by decide +kernel)), (ab_inT 120 (by decide +kernel) (by decide +kernel))⟩
theorem miX10_year : ab_mI yX10_year cX10_year 3 (some .int) 0 := ⟨(ab_inT 1702 (by decide +kernel) (by decide +kernel)), (ab_inT 175 (by decide +kernel) (by decide +kernel)), ⟨by decide +kernel, by decide +kernel⟩, by decide +kernel, by decide⟩
theorem mvX10_year : ab_mV yX10_year := ⟨(ab_inT 1700 (by decide +kernel) (by decide +kernel)), (ab_inT 1701 (by decide +kernel) (by decide +kernel))⟩
theorem miX10_readYear : ab_mI yX10_readYear cX10_readYear 3 none 2 := ⟨(ab_inT 1706 (by decide +kernel) (by decide +kernel)), (ab_inT 175 (by decide +kernel) (by decide +kernel)), ⟨by decide +kernel, by decide +kernel⟩, by decide +kernel, by decide⟩
theorem mvX10_readYear : ab_mV yX10_readYear := ⟨(ab_inT 1705 (by decide +kernel) (by decide +kernel)), (ab_inT 130 (by decide +kernel) (by decide +kernel))⟩
theorem miX10_emit : ab_mI yX10_emit cX10_emit 3 none 2 := ⟨(ab_inT 1690 (by decide +kernel) (by decide +kernel)), (ab_inT 175 (by decide +kernel) (by decide +kernel)), ⟨by decide +kernel, by decide +kernel⟩, by decide +kernel, by decide⟩
theorem mvX10_emit : ab_mV yX10_emit := ⟨(ab_inT 1689 (by decide +kernel) (by decide +kernel)), (ab_inT 127 (by decide +kernel) (by decide +kernel))⟩
theorem miX10_whole : ab_mI yX10_whole cX10_whole 3 none 1 := ⟨(ab_inT 1666 (by decide +kernel) (by decide +kernel)), (ab_inT 175 (by decide +kernel) (by decide +kernel)), ⟨by decide +kernel, by decide +kernel⟩, by decide +kernel, by decide⟩
theorem mvX10_whole : ab_mV yX10_whole := ⟨(ab_inT 1665 (by decide +kernel) (by decide +kernel)), (ab_inT 121 (by decide +kernel) (by decide +kernel))⟩
theorem miX10_test : ab_mI yX10_test cX10_test 3 none 1 := ⟨(ab_inT 1670 (by decide +kernel) (by decide +kernel)), (ab_inT 175 (by decide +kernel) (by decide +kernel)), ⟨by decide +kernel, by decide +kernel⟩, by decide +kernel, by decide⟩
theorem mvX10_test : ab_mV yX10_test := ⟨(ab_inT 1669 (by decide +kernel) (by decide +kernel)), (ab_inT 122 (by decide +kernel) (by decide +kernel))⟩
theorem miX10_sums : ab_mI yX10_sums cX10_sums 3 none 1 := ⟨(ab_inT 1674 (by decide +kernel) (by decide +kernel)), (ab_inT 175 (by decide +kernel) (by decide +kernel)), ⟨by decide +kernel, by decide +kernel⟩, by decide +kernel, by decide⟩
theorem mvX10_sums : ab_mV yX10_sums := ⟨(ab_inT 1673 (by decide +kernel) (by decide +kernel)), (ab_inT 123 (by decide +kernel) (by decide +kernel))⟩
theorem miX10_products : ab_mI yX10_products cX10_products 2 none 1 := ⟨(ab_inT 1678 (by decide +kernel) (by decide +kernel)), (ab_inT 175 (by decide +kernel) (by decide +kernel)), ⟨by decide +kernel, by decide +kernel⟩, by decide +kernel, by decide⟩
theorem mvX10_products : ab_mV yX10_products := ⟨(ab_inT 1677 (by decide +kernel) (by decide +kernel)), (ab_inT 124 (by decide +kernel) (by decide +kernel))⟩
theorem miX10_takePart : ab_mI yX10_takePart cX10_takePart 4 none 1 := ⟨(ab_inT 1682 (by decide +kernel) (by decide +kernel)), (ab_inT 175 (by decide +kernel) (by decide +kernel)), ⟨by decide +kernel, by decide +kernel⟩, by decide +kernel, by decide⟩
theorem mvX10_takePart : ab_mV yX10_takePart := ⟨(ab_inT 1681 (by decide +kernel) (by decide +kernel)), (ab_inT 125 (by decide +kernel) (by decide +kernel))⟩
theorem miX10_worthAt : ab_mI yX10_worthAt cX10_worthAt 5 (some .int) 1 := ⟨(ab_inT 1753 (by decide +kernel) (by decide +kernel)), (ab_inT 175 (by decide +kernel) (by decide +kernel)), ⟨by decide +kernel, by decide +kernel⟩, by decide +kernel, by decide⟩
theorem mvX10_worthAt : ab_mV yX10_worthAt := ⟨(ab_inT 1752 (by decide +kernel) (by decide +kernel)), (ab_inT 138 (by decide +kernel) (by decide +kernel))⟩
theorem miX10_both : ab_mI yX10_both cX10_both 3 (some .int) 3 := ⟨(ab_inT 1756 (by decide +kernel) (by decide +kernel)), (ab_inT 175 (by decide +kernel) (by decide +kernel)), ⟨by decide +kernel, by decide +kernel⟩, by decide +kernel, by decide⟩
theorem msX10_both : ab_mS yX10_both := (ab_inT 1755 (by decide +kernel) (by decide +kernel))
theorem miX10_copies : ab_mI yX10_copies cX10_copies 5 none 3 := ⟨(ab_inT 1772 (by decide +kernel) (by decide +kernel)), (ab_inT 175 (by decide +kernel) (by decide +kernel)), ⟨by decide +kernel, by decide +kernel⟩, by decide +kernel, by decide⟩
theorem mvX10_copies : ab_mV yX10_copies := ⟨(ab_inT 1771 (by decide +kernel) (by decide +kernel)), (ab_inT 141 (by decide +kernel) (by decide +kernel))⟩
theorem miX10_starts : ab_mI yX10_starts cX10_starts 3 none 1 := ⟨(ab_inT 1468 (by decide +kernel) (by decide +kernel)), (ab_inT 175 (by decide +kernel) (by decide +kernel)), ⟨by decide +kernel, by decide +kernel⟩, by decide +kernel, by decide⟩
theorem mvX10_starts : ab_mV yX10_starts := ⟨(ab_inT 1467 (by decide +kernel) (by decide +kernel)), (ab_inT 102 (by decide +kernel) (by decide +kernel))⟩
theorem miX10_begins : ab_mI yX10_begins cX10_begins 2 none 0 := ⟨(ab_inT 1464 (by decide +kernel) (by decide +kernel)), (ab_inT 175 (by decide +kernel) (by decide +kernel)), ⟨by decide +kernel, by decide +kernel⟩, by decide +kernel, by decide⟩
theorem mvX10_begins : ab_mV yX10_begins := ⟨(ab_inT 1463 (by decide +kernel) (by decide +kernel)), (ab_inT 101 (by decide +kernel) (by decide +kernel))⟩
theorem miX10_keeps : ab_mI yX10_keeps cX10_keeps 2 none 0 := ⟨(ab_inT 1768 (by decide +kernel) (by decide +kernel)), (ab_inT 175 (by decide +kernel) (by decide +kernel)), ⟨by decide +kernel, by decide +kernel⟩, by decide +kernel, by decide⟩
theorem mvX10_keeps : ab_mV yX10_keeps := ⟨(ab_inT 1767 (by decide +kernel) (by decide +kernel)), (ab_inT 140 (by decide +kernel) (by decide +kernel))⟩
theorem miX10_persons : ab_mI yX10_persons cX10_persons 1 (some .int) 0 := ⟨(ab_inT 1472 (by decide +kernel) (by decide +kernel)), (ab_inT 175 (by decide +kernel) (by decide +kernel)), ⟨by decide +kernel, by decide +kernel⟩, by decide +kernel, by decide⟩
theorem mvX10_persons : ab_mV yX10_persons := ⟨(ab_inT 1471 (by decide +kernel) (by decide +kernel)), (ab_inT 103 (by decide +kernel) (by decide +kernel))⟩
theorem miX10_goods : ab_mI yX10_goods cX10_goods 1 (some .int) 0 := ⟨(ab_inT 1722 (by decide +kernel) (by decide +kernel)), (ab_inT 175 (by decide +kernel) (by decide +kernel)), ⟨by decide +kernel, by decide +kernel⟩, by decide +kernel, by decide⟩
theorem mvX10_goods : ab_mV yX10_goods := ⟨(ab_inT 1721 (by decide +kernel) (by decide +kernel)), (ab_inT 133 (by decide +kernel) (by decide +kernel))⟩
theorem miX10_personOf : ab_mI yX10_personOf cX10_personOf 3 (some .int) 2 := ⟨(ab_inT 1476 (by decide +kernel) (by decide +kernel)), (ab_inT 175 (by decide +kernel) (by decide +kernel)), ⟨by decide +kernel, by decide +kernel⟩, by decide +kernel, by decide⟩
theorem mvX10_personOf : ab_mV yX10_personOf := ⟨(ab_inT 1475 (by decide +kernel) (by decide +kernel)), (ab_inT 104 (by decide +kernel) (by decide +kernel))⟩
theorem miX10_goodOf : ab_mI yX10_goodOf cX10_goodOf 3 (some .int) 2 := ⟨(ab_inT 1734 (by decide +kernel) (by decide +kernel)), (ab_inT 175 (by decide +kernel) (by decide +kernel)), ⟨by decide +kernel, by decide +kernel⟩, by decide +kernel, by decide⟩
theorem mvX10_goodOf : ab_mV yX10_goodOf := ⟨(ab_inT 1733 (by decide +kernel) (by decide +kernel)), (ab_inT 135 (by decide +kernel) (by decide +kernel))⟩
theorem miX10_isPerson : ab_mI yX10_isPerson cX10_isPerson 2 (some .boolean) 1 := ⟨(ab_inT 1714 (by decide +kernel) (by decide +kernel)), (ab_inT 175 (by decide +kernel) (by decide +kernel)), ⟨by decide +kernel, by decide +kernel⟩, by decide +kernel, by decide⟩
theorem mvX10_isPerson : ab_mV yX10_isPerson := ⟨(ab_inT 1713 (by decide +kernel) (by decide +kernel)), (ab_inT 131 (by decide +kernel) (by decide +kernel))⟩
theorem miX10_isGood : ab_mI yX10_isGood cX10_isGood 2 (some .boolean) 1 := ⟨(ab_inT 1730 (by decide +kernel) (by decide +kernel)), (ab_inT 175 (by decide +kernel) (by decide +kernel)), ⟨by decide +kernel, by decide +kernel⟩, by decide +kernel, by decide⟩
theorem mvX10_isGood : ab_mV yX10_isGood := ⟨(ab_inT 1729 (by decide +kernel) (by decide +kernel)), (ab_inT 134 (by decide +kernel) (by decide +kernel))⟩
theorem miX10_bits : ab_mI yX10_bits cX10_bits 3 (some .int) 1 := ⟨(ab_inT 1745 (by decide +kernel) (by decide +kernel)), (ab_inT 175 (by decide +kernel) (by decide +kernel)), ⟨by decide +kernel, by decide +kernel⟩, by decide +kernel, by decide⟩
theorem msX10_bits : ab_mS yX10_bits := (ab_inT 1744 (by decide +kernel) (by decide +kernel))
theorem miX10_heldBy : ab_mI yX10_heldBy cX10_heldBy 5 (some .int) 2 := ⟨(ab_inT 1718 (by decide +kernel) (by decide +kernel)), (ab_inT 175 (by decide +kernel) (by decide +kernel)), ⟨by decide +kernel, by decide +kernel⟩, by decide +kernel, by decide⟩
theorem mvX10_heldBy : ab_mV yX10_heldBy := ⟨(ab_inT 1717 (by decide +kernel) (by decide +kernel)), (ab_inT 132 (by decide +kernel) (by decide +kernel))⟩
theorem miX10_fitBy : ab_mI yX10_fitBy cX10_fitBy 5 (some .int) 3 := ⟨(ab_inT 1749 (by decide +kernel) (by decide +kernel)), (ab_inT 175 (by decide +kernel) (by decide +kernel)), ⟨by decide +kernel, by decide +kernel⟩, by decide +kernel, by decide⟩
theorem mvX10_fitBy : ab_mV yX10_fitBy := ⟨(ab_inT 1748 (by decide +kernel) (by decide +kernel)), (ab_inT 137 (by decide +kernel) (by decide +kernel))⟩
theorem miX10_fitOf : ab_mI yX10_fitOf cX10_fitOf 4 (some .int) 3 := ⟨(ab_inT 1742 (by decide +kernel) (by decide +kernel)), (ab_inT 175 (by decide +kernel) (by decide +kernel)), ⟨by decide +kernel, by decide +kernel⟩, by decide +kernel, by decide⟩
theorem mvX10_fitOf : ab_mV yX10_fitOf := ⟨(ab_inT 1741 (by decide +kernel) (by decide +kernel)), (ab_inT 136 (by decide +kernel) (by decide +kernel))⟩
theorem miX10_fitOfAll : ab_mI yX10_fitOfAll cX10_fitOfAll 6 (some .int) 3 := ⟨(ab_inT 1888 (by decide +kernel) (by decide +kernel)), (ab_inT 175 (by decide +kernel) (by decide +kernel)), ⟨by decide +kernel, by decide +kernel⟩, by decide +kernel, by decide⟩
theorem mvX10_fitOfAll : ab_mV yX10_fitOfAll := ⟨(ab_inT 1887 (by decide +kernel) (by decide +kernel)), (ab_inT 154 (by decide +kernel) (by decide +kernel))⟩
theorem miX10_joyOf : ab_mI yX10_joyOf cX10_joyOf 4 (some .int) 2 := ⟨(ab_inT 1884 (by decide +kernel) (by decide +kernel)), (ab_inT 175 (by decide +kernel) (by decide +kernel)), ⟨by decide +kernel, by decide +kernel⟩, by decide +kernel, by decide⟩
theorem mvX10_joyOf : ab_mV yX10_joyOf := ⟨(ab_inT 1883 (by decide +kernel) (by decide +kernel)), (ab_inT 153 (by decide +kernel) (by decide +kernel))⟩
theorem miX10_joyOfAll : ab_mI yX10_joyOfAll cX10_joyOfAll 4 (some .int) 1 := ⟨(ab_inT 2029 (by decide +kernel) (by decide +kernel)), (ab_inT 175 (by decide +kernel) (by decide +kernel)), ⟨by decide +kernel, by decide +kernel⟩, by decide +kernel, by decide⟩
theorem mvX10_joyOfAll : ab_mV yX10_joyOfAll := ⟨(ab_inT 2028 (by decide +kernel) (by decide +kernel)), (ab_inT 164 (by decide +kernel) (by decide +kernel))⟩
theorem miX10_rightsOf : ab_mI yX10_rightsOf cX10_rightsOf 4 (some .int) 1 := ⟨(ab_inT 1836 (by decide +kernel) (by decide +kernel)), (ab_inT 175 (by decide +kernel) (by decide +kernel)), ⟨by decide +kernel, by decide +kernel⟩, by decide +kernel, by decide⟩
theorem mvX10_rightsOf : ab_mV yX10_rightsOf := ⟨(ab_inT 1835 (by decide +kernel) (by decide +kernel)), (ab_inT 151 (by decide +kernel) (by decide +kernel))⟩
theorem miX10_sumOf : ab_mI yX10_sumOf cX10_sumOf 4 (some .int) 1 := ⟨(ab_inT 1808 (by decide +kernel) (by decide +kernel)), (ab_inT 175 (by decide +kernel) (by decide +kernel)), ⟨by decide +kernel, by decide +kernel⟩, by decide +kernel, by decide⟩
theorem mvX10_sumOf : ab_mV yX10_sumOf := ⟨(ab_inT 1807 (by decide +kernel) (by decide +kernel)), (ab_inT 147 (by decide +kernel) (by decide +kernel))⟩
theorem miX10_mayBuy : ab_mI yX10_mayBuy cX10_mayBuy 3 (some .boolean) 2 := ⟨(ab_inT 1764 (by decide +kernel) (by decide +kernel)), (ab_inT 175 (by decide +kernel) (by decide +kernel)), ⟨by decide +kernel, by decide +kernel⟩, by decide +kernel, by decide⟩
theorem mvX10_mayBuy : ab_mV yX10_mayBuy := ⟨(ab_inT 1763 (by decide +kernel) (by decide +kernel)), (ab_inT 139 (by decide +kernel) (by decide +kernel))⟩
theorem miX10_buys : ab_mI yX10_buys cX10_buys 3 none 2 := ⟨(ab_inT 1776 (by decide +kernel) (by decide +kernel)), (ab_inT 175 (by decide +kernel) (by decide +kernel)), ⟨by decide +kernel, by decide +kernel⟩, by decide +kernel, by decide⟩
theorem mvX10_buys : ab_mV yX10_buys := ⟨(ab_inT 1775 (by decide +kernel) (by decide +kernel)), (ab_inT 142 (by decide +kernel) (by decide +kernel))⟩
theorem miX10_doesLike : ab_mI yX10_doesLike cX10_doesLike 6 (some .boolean) 4 := ⟨(ab_inT 1788 (by decide +kernel) (by decide +kernel)), (ab_inT 175 (by decide +kernel) (by decide +kernel)), ⟨by decide +kernel, by decide +kernel⟩, by decide +kernel, by decide⟩
theorem mvX10_doesLike : ab_mV yX10_doesLike := ⟨(ab_inT 1787 (by decide +kernel) (by decide +kernel)), (ab_inT 144 (by decide +kernel) (by decide +kernel))⟩
theorem miX10_maySwap : ab_mI yX10_maySwap cX10_maySwap 6 (some .boolean) 3 := ⟨(ab_inT 1784 (by decide +kernel) (by decide +kernel)), (ab_inT 175 (by decide +kernel) (by decide +kernel)), ⟨by decide +kernel, by decide +kernel⟩, by decide +kernel, by decide⟩
theorem mvX10_maySwap : ab_mV yX10_maySwap := ⟨(ab_inT 1783 (by decide +kernel) (by decide +kernel)), (ab_inT 143 (by decide +kernel) (by decide +kernel))⟩
theorem miX10_swaps : ab_mI yX10_swaps cX10_swaps 5 none 3 := ⟨(ab_inT 1792 (by decide +kernel) (by decide +kernel)), (ab_inT 175 (by decide +kernel) (by decide +kernel)), ⟨by decide +kernel, by decide +kernel⟩, by decide +kernel, by decide⟩
theorem mvX10_swaps : ab_mV yX10_swaps := ⟨(ab_inT 1791 (by decide +kernel) (by decide +kernel)), (ab_inT 145 (by decide +kernel) (by decide +kernel))⟩
theorem miX10_draw : ab_mI yX10_draw cX10_draw 5 (some .int) 2 := ⟨(ab_inT 1812 (by decide +kernel) (by decide +kernel)), (ab_inT 175 (by decide +kernel) (by decide +kernel)), ⟨by decide +kernel, by decide +kernel⟩, by decide +kernel, by decide⟩
theorem mvX10_draw : ab_mV yX10_draw := ⟨(ab_inT 1811 (by decide +kernel) (by decide +kernel)), (ab_inT 148 (by decide +kernel) (by decide +kernel))⟩
theorem miX10_ownerOf : ab_mI yX10_ownerOf cX10_ownerOf 5 (some .int) 2 := ⟨(ab_inT 1820 (by decide +kernel) (by decide +kernel)), (ab_inT 175 (by decide +kernel) (by decide +kernel)), ⟨by decide +kernel, by decide +kernel⟩, by decide +kernel, by decide⟩
theorem mvX10_ownerOf : ab_mV yX10_ownerOf := ⟨(ab_inT 1819 (by decide +kernel) (by decide +kernel)), (ab_inT 149 (by decide +kernel) (by decide +kernel))⟩
theorem miX10_settles : ab_mI yX10_settles cX10_settles 6 none 2 := ⟨(ab_inT 1824 (by decide +kernel) (by decide +kernel)), (ab_inT 175 (by decide +kernel) (by decide +kernel)), ⟨by decide +kernel, by decide +kernel⟩, by decide +kernel, by decide⟩
theorem mvX10_settles : ab_mV yX10_settles := ⟨(ab_inT 1823 (by decide +kernel) (by decide +kernel)), (ab_inT 150 (by decide +kernel) (by decide +kernel))⟩
theorem miX10_passes : ab_mI yX10_passes cX10_passes 8 (some .int) 1 := ⟨(ab_inT 1804 (by decide +kernel) (by decide +kernel)), (ab_inT 175 (by decide +kernel) (by decide +kernel)), ⟨by decide +kernel, by decide +kernel⟩, by decide +kernel, by decide⟩
theorem mvX10_passes : ab_mV yX10_passes := ⟨(ab_inT 1803 (by decide +kernel) (by decide +kernel)), (ab_inT 146 (by decide +kernel) (by decide +kernel))⟩
theorem miX10_person : ab_mI yX10_person cX10_person 3 (some .int) 2 := ⟨(ab_inT 1710 (by decide +kernel) (by decide +kernel)), (ab_inT 175 (by decide +kernel) (by decide +kernel)), ⟨by decide +kernel, by decide +kernel⟩, by decide +kernel, by decide⟩
theorem mvX10_person : ab_mV yX10_person := ⟨(ab_inT 1708 (by decide +kernel) (by decide +kernel)), (ab_inT 1709 (by decide +kernel) (by decide +kernel))⟩
theorem miX10_good : ab_mI yX10_good cX10_good 3 (some .int) 2 := ⟨(ab_inT 1726 (by decide +kernel) (by decide +kernel)), (ab_inT 175 (by decide +kernel) (by decide +kernel)), ⟨by decide +kernel, by decide +kernel⟩, by decide +kernel, by decide⟩
theorem mvX10_good : ab_mV yX10_good := ⟨(ab_inT 1724 (by decide +kernel) (by decide +kernel)), (ab_inT 1725 (by decide +kernel) (by decide +kernel))⟩
theorem miX10_fit : ab_mI yX10_fit cX10_fit 3 (some .int) 2 := ⟨(ab_inT 1738 (by decide +kernel) (by decide +kernel)), (ab_inT 175 (by decide +kernel) (by decide +kernel)), ⟨by decide +kernel, by decide +kernel⟩, by decide +kernel, by decide⟩
theorem mvX10_fit : ab_mV yX10_fit := ⟨(ab_inT 1736 (by decide +kernel) (by decide +kernel)), (ab_inT 1737 (by decide +kernel) (by decide +kernel))⟩
theorem miX10_buy : ab_mI yX10_buy cX10_buy 2 (some .int) 1 := ⟨(ab_inT 1760 (by decide +kernel) (by decide +kernel)), (ab_inT 175 (by decide +kernel) (by decide +kernel)), ⟨by decide +kernel, by decide +kernel⟩, by decide +kernel, by decide⟩
theorem mvX10_buy : ab_mV yX10_buy := ⟨(ab_inT 1758 (by decide +kernel) (by decide +kernel)), (ab_inT 1759 (by decide +kernel) (by decide +kernel))⟩
theorem miX10_swap : ab_mI yX10_swap cX10_swap 3 (some .boolean) 2 := ⟨(ab_inT 1780 (by decide +kernel) (by decide +kernel)), (ab_inT 175 (by decide +kernel) (by decide +kernel)), ⟨by decide +kernel, by decide +kernel⟩, by decide +kernel, by decide⟩
theorem mvX10_swap : ab_mV yX10_swap := ⟨(ab_inT 1778 (by decide +kernel) (by decide +kernel)), (ab_inT 1779 (by decide +kernel) (by decide +kernel))⟩
theorem miX10_bring : ab_mI yX10_bring cX10_bring 3 (some .int) 1 := ⟨(ab_inT 1796 (by decide +kernel) (by decide +kernel)), (ab_inT 175 (by decide +kernel) (by decide +kernel)), ⟨by decide +kernel, by decide +kernel⟩, by decide +kernel, by decide⟩
theorem mvX10_bring : ab_mV yX10_bring := ⟨(ab_inT 1794 (by decide +kernel) (by decide +kernel)), (ab_inT 1795 (by decide +kernel) (by decide +kernel))⟩
theorem miX10_quarter : ab_mI yX10_quarter cX10_quarter 1 (some .int) 0 := ⟨(ab_inT 1800 (by decide +kernel) (by decide +kernel)), (ab_inT 175 (by decide +kernel) (by decide +kernel)), ⟨by decide +kernel, by decide +kernel⟩, by decide +kernel, by decide⟩
theorem mvX10_quarter : ab_mV yX10_quarter := ⟨(ab_inT 1798 (by decide +kernel) (by decide +kernel)), (ab_inT 1799 (by decide +kernel) (by decide +kernel))⟩
theorem miX10_undo : ab_mI yX10_undo cX10_undo 1 (some .boolean) 0 := ⟨(ab_inT 1828 (by decide +kernel) (by decide +kernel)), (ab_inT 175 (by decide +kernel) (by decide +kernel)), ⟨by decide +kernel, by decide +kernel⟩, by decide +kernel, by decide⟩
theorem mvX10_undo : ab_mV yX10_undo := ⟨(ab_inT 1826 (by decide +kernel) (by decide +kernel)), (ab_inT 1827 (by decide +kernel) (by decide +kernel))⟩
theorem miX10_judged : ab_mI yX10_judged cX10_judged 9 (some .int) 1 := ⟨(ab_inT 1832 (by decide +kernel) (by decide +kernel)), (ab_inT 175 (by decide +kernel) (by decide +kernel)), ⟨by decide +kernel, by decide +kernel⟩, by decide +kernel, by decide⟩
theorem mvX10_judged : ab_mV yX10_judged := ⟨(ab_inT 1830 (by decide +kernel) (by decide +kernel)), (ab_inT 1831 (by decide +kernel) (by decide +kernel))⟩
theorem miX10_triesNow : ab_mI yX10_triesNow cX10_triesNow 1 none 0 := ⟨(ab_inT 1844 (by decide +kernel) (by decide +kernel)), (ab_inT 175 (by decide +kernel) (by decide +kernel)), ⟨by decide +kernel, by decide +kernel⟩, by decide +kernel, by decide⟩
theorem mvX10_triesNow : ab_mV yX10_triesNow := ⟨(ab_inT 1843 (by decide +kernel) (by decide +kernel)), (ab_inT 152 (by decide +kernel) (by decide +kernel))⟩
theorem miX10_winner : ab_mI yX10_winner cX10_winner 4 (some .int) 1 := ⟨(ab_inT 1840 (by decide +kernel) (by decide +kernel)), (ab_inT 175 (by decide +kernel) (by decide +kernel)), ⟨by decide +kernel, by decide +kernel⟩, by decide +kernel, by decide⟩
theorem mvX10_winner : ab_mV yX10_winner := ⟨(ab_inT 1838 (by decide +kernel) (by decide +kernel)), (ab_inT 1839 (by decide +kernel) (by decide +kernel))⟩
theorem miX10_where : ab_mI yX10_where cX10_where 4 (some .int) 2 := ⟨(ab_inT 1848 (by decide +kernel) (by decide +kernel)), (ab_inT 175 (by decide +kernel) (by decide +kernel)), ⟨by decide +kernel, by decide +kernel⟩, by decide +kernel, by decide⟩
theorem mvX10_where : ab_mV yX10_where := ⟨(ab_inT 1846 (by decide +kernel) (by decide +kernel)), (ab_inT 1847 (by decide +kernel) (by decide +kernel))⟩
theorem miX10_has : ab_mI yX10_has cX10_has 4 (some .int) 2 := ⟨(ab_inT 1852 (by decide +kernel) (by decide +kernel)), (ab_inT 175 (by decide +kernel) (by decide +kernel)), ⟨by decide +kernel, by decide +kernel⟩, by decide +kernel, by decide⟩
theorem mvX10_has : ab_mV yX10_has := ⟨(ab_inT 1850 (by decide +kernel) (by decide +kernel)), (ab_inT 1851 (by decide +kernel) (by decide +kernel))⟩
theorem miX10_home : ab_mI yX10_home cX10_home 2 (some .int) 0 := ⟨(ab_inT 1856 (by decide +kernel) (by decide +kernel)), (ab_inT 175 (by decide +kernel) (by decide +kernel)), ⟨by decide +kernel, by decide +kernel⟩, by decide +kernel, by decide⟩
theorem mvX10_home : ab_mV yX10_home := ⟨(ab_inT 1854 (by decide +kernel) (by decide +kernel)), (ab_inT 1855 (by decide +kernel) (by decide +kernel))⟩
theorem miX10_empty : ab_mI yX10_empty cX10_empty 2 (some .int) 0 := ⟨(ab_inT 1860 (by decide +kernel) (by decide +kernel)), (ab_inT 175 (by decide +kernel) (by decide +kernel)), ⟨by decide +kernel, by decide +kernel⟩, by decide +kernel, by decide⟩
theorem mvX10_empty : ab_mV yX10_empty := ⟨(ab_inT 1858 (by decide +kernel) (by decide +kernel)), (ab_inT 1859 (by decide +kernel) (by decide +kernel))⟩
theorem miX10_won : ab_mI yX10_won cX10_won 5 (some .int) 2 := ⟨(ab_inT 1864 (by decide +kernel) (by decide +kernel)), (ab_inT 175 (by decide +kernel) (by decide +kernel)), ⟨by decide +kernel, by decide +kernel⟩, by decide +kernel, by decide⟩
theorem mvX10_won : ab_mV yX10_won := ⟨(ab_inT 1862 (by decide +kernel) (by decide +kernel)), (ab_inT 1863 (by decide +kernel) (by decide +kernel))⟩
theorem miX10_streak : ab_mI yX10_streak cX10_streak 7 (some .int) 2 := ⟨(ab_inT 1868 (by decide +kernel) (by decide +kernel)), (ab_inT 175 (by decide +kernel) (by decide +kernel)), ⟨by decide +kernel, by decide +kernel⟩, by decide +kernel, by decide⟩
theorem mvX10_streak : ab_mV yX10_streak := ⟨(ab_inT 1866 (by decide +kernel) (by decide +kernel)), (ab_inT 1867 (by decide +kernel) (by decide +kernel))⟩
theorem miX10_moves : ab_mI yX10_moves cX10_moves 3 (some .int) 1 := ⟨(ab_inT 1872 (by decide +kernel) (by decide +kernel)), (ab_inT 175 (by decide +kernel) (by decide +kernel)), ⟨by decide +kernel, by decide +kernel⟩, by decide +kernel, by decide⟩
theorem mvX10_moves : ab_mV yX10_moves := ⟨(ab_inT 1870 (by decide +kernel) (by decide +kernel)), (ab_inT 1871 (by decide +kernel) (by decide +kernel))⟩
theorem miX10_rights : ab_mI yX10_rights cX10_rights 1 (some .int) 0 := ⟨(ab_inT 1876 (by decide +kernel) (by decide +kernel)), (ab_inT 175 (by decide +kernel) (by decide +kernel)), ⟨by decide +kernel, by decide +kernel⟩, by decide +kernel, by decide⟩
theorem mvX10_rights : ab_mV yX10_rights := ⟨(ab_inT 1874 (by decide +kernel) (by decide +kernel)), (ab_inT 1875 (by decide +kernel) (by decide +kernel))⟩
theorem miX10_joy : ab_mI yX10_joy cX10_joy 2 (some .int) 1 := ⟨(ab_inT 1880 (by decide +kernel) (by decide +kernel)), (ab_inT 175 (by decide +kernel) (by decide +kernel)), ⟨by decide +kernel, by decide +kernel⟩, by decide +kernel, by decide⟩
theorem mvX10_joy : ab_mV yX10_joy := ⟨(ab_inT 1878 (by decide +kernel) (by decide +kernel)), (ab_inT 1879 (by decide +kernel) (by decide +kernel))⟩
theorem miX10_envy : ab_mI yX10_envy cX10_envy 5 (some .int) 1 := ⟨(ab_inT 1892 (by decide +kernel) (by decide +kernel)), (ab_inT 175 (by decide +kernel) (by decide +kernel)), ⟨by decide +kernel, by decide +kernel⟩, by decide +kernel, by decide⟩
theorem mvX10_envy : ab_mV yX10_envy := ⟨(ab_inT 1890 (by decide +kernel) (by decide +kernel)), (ab_inT 1891 (by decide +kernel) (by decide +kernel))⟩
theorem miX10_offers : ab_mI yX10_offers cX10_offers 7 (some .int) 1 := ⟨(ab_inT 1896 (by decide +kernel) (by decide +kernel)), (ab_inT 175 (by decide +kernel) (by decide +kernel)), ⟨by decide +kernel, by decide +kernel⟩, by decide +kernel, by decide⟩
theorem mvX10_offers : ab_mV yX10_offers := ⟨(ab_inT 1894 (by decide +kernel) (by decide +kernel)), (ab_inT 1895 (by decide +kernel) (by decide +kernel))⟩
theorem miX10_wantOf : ab_mI yX10_wantOf cX10_wantOf 8 (some .int) 3 := ⟨(ab_inT 1908 (by decide +kernel) (by decide +kernel)), (ab_inT 175 (by decide +kernel) (by decide +kernel)), ⟨by decide +kernel, by decide +kernel⟩, by decide +kernel, by decide⟩
theorem mvX10_wantOf : ab_mV yX10_wantOf := ⟨(ab_inT 1907 (by decide +kernel) (by decide +kernel)), (ab_inT 156 (by decide +kernel) (by decide +kernel))⟩
theorem miX10_allGoods : ab_mI yX10_allGoods cX10_allGoods 1 (some .int) 0 := ⟨(ab_inT 1904 (by decide +kernel) (by decide +kernel)), (ab_inT 175 (by decide +kernel) (by decide +kernel)), ⟨by decide +kernel, by decide +kernel⟩, by decide +kernel, by decide⟩
theorem mvX10_allGoods : ab_mV yX10_allGoods := ⟨(ab_inT 1903 (by decide +kernel) (by decide +kernel)), (ab_inT 155 (by decide +kernel) (by decide +kernel))⟩
theorem miX10_want : ab_mI yX10_want cX10_want 2 (some .int) 1 := ⟨(ab_inT 1900 (by decide +kernel) (by decide +kernel)), (ab_inT 175 (by decide +kernel) (by decide +kernel)), ⟨by decide +kernel, by decide +kernel⟩, by decide +kernel, by decide⟩
theorem mvX10_want : ab_mV yX10_want := ⟨(ab_inT 1898 (by decide +kernel) (by decide +kernel)), (ab_inT 1899 (by decide +kernel) (by decide +kernel))⟩
theorem miX10_fansOf : ab_mI yX10_fansOf cX10_fansOf 4 (some .int) 1 := ⟨(ab_inT 1916 (by decide +kernel) (by decide +kernel)), (ab_inT 175 (by decide +kernel) (by decide +kernel)), ⟨by decide +kernel, by decide +kernel⟩, by decide +kernel, by decide⟩
theorem mvX10_fansOf : ab_mV yX10_fansOf := ⟨(ab_inT 1915 (by decide +kernel) (by decide +kernel)), (ab_inT 157 (by decide +kernel) (by decide +kernel))⟩
theorem miX10_fans : ab_mI yX10_fans cX10_fans 2 (some .int) 1 := ⟨(ab_inT 1912 (by decide +kernel) (by decide +kernel)), (ab_inT 175 (by decide +kernel) (by decide +kernel)), ⟨by decide +kernel, by decide +kernel⟩, by decide +kernel, by decide⟩
theorem mvX10_fans : ab_mV yX10_fans := ⟨(ab_inT 1910 (by decide +kernel) (by decide +kernel)), (ab_inT 1911 (by decide +kernel) (by decide +kernel))⟩
theorem miX10_dull : ab_mI yX10_dull cX10_dull 3 (some .int) 0 := ⟨(ab_inT 1920 (by decide +kernel) (by decide +kernel)), (ab_inT 175 (by decide +kernel) (by decide +kernel)), ⟨by decide +kernel, by decide +kernel⟩, by decide +kernel, by decide⟩
theorem mvX10_dull : ab_mV yX10_dull := ⟨(ab_inT 1918 (by decide +kernel) (by decide +kernel)), (ab_inT 1919 (by decide +kernel) (by decide +kernel))⟩
theorem miX10_least : ab_mI yX10_least cX10_least 6 (some .int) 0 := ⟨(ab_inT 1924 (by decide +kernel) (by decide +kernel)), (ab_inT 175 (by decide +kernel) (by decide +kernel)), ⟨by decide +kernel, by decide +kernel⟩, by decide +kernel, by decide⟩
theorem mvX10_least : ab_mV yX10_least := ⟨(ab_inT 1922 (by decide +kernel) (by decide +kernel)), (ab_inT 1923 (by decide +kernel) (by decide +kernel))⟩
theorem miX10_ownerIn : ab_mI yX10_ownerIn cX10_ownerIn 3 (some .int) 1 := ⟨(ab_inT 1936 (by decide +kernel) (by decide +kernel)), (ab_inT 175 (by decide +kernel) (by decide +kernel)), ⟨by decide +kernel, by decide +kernel⟩, by decide +kernel, by decide⟩
theorem mvX10_ownerIn : ab_mV yX10_ownerIn := ⟨(ab_inT 1935 (by decide +kernel) (by decide +kernel)), (ab_inT 159 (by decide +kernel) (by decide +kernel))⟩
theorem miX10_ringsNow : ab_mI yX10_ringsNow cX10_ringsNow 9 (some .int) 0 := ⟨(ab_inT 1932 (by decide +kernel) (by decide +kernel)), (ab_inT 175 (by decide +kernel) (by decide +kernel)), ⟨by decide +kernel, by decide +kernel⟩, by decide +kernel, by decide⟩
theorem mvX10_ringsNow : ab_mV yX10_ringsNow := ⟨(ab_inT 1931 (by decide +kernel) (by decide +kernel)), (ab_inT 158 (by decide +kernel) (by decide +kernel))⟩
theorem miX10_gets : ab_mI yX10_gets cX10_gets 2 (some .int) 1 := ⟨(ab_inT 1928 (by decide +kernel) (by decide +kernel)), (ab_inT 175 (by decide +kernel) (by decide +kernel)), ⟨by decide +kernel, by decide +kernel⟩, by decide +kernel, by decide⟩
theorem mvX10_gets : ab_mV yX10_gets := ⟨(ab_inT 1926 (by decide +kernel) (by decide +kernel)), (ab_inT 1927 (by decide +kernel) (by decide +kernel))⟩
theorem miX10_rounds : ab_mI yX10_rounds cX10_rounds 1 (some .int) 0 := ⟨(ab_inT 1940 (by decide +kernel) (by decide +kernel)), (ab_inT 175 (by decide +kernel) (by decide +kernel)), ⟨by decide +kernel, by decide +kernel⟩, by decide +kernel, by decide⟩
theorem mvX10_rounds : ab_mV yX10_rounds := ⟨(ab_inT 1938 (by decide +kernel) (by decide +kernel)), (ab_inT 1939 (by decide +kernel) (by decide +kernel))⟩
theorem miX10_givesFrom : ab_mI yX10_givesFrom cX10_givesFrom 6 none 4 := ⟨(ab_inT 1952 (by decide +kernel) (by decide +kernel)), (ab_inT 175 (by decide +kernel) (by decide +kernel)), ⟨by decide +kernel, by decide +kernel⟩, by decide +kernel, by decide⟩
theorem mvX10_givesFrom : ab_mV yX10_givesFrom := ⟨(ab_inT 1951 (by decide +kernel) (by decide +kernel)), (ab_inT 161 (by decide +kernel) (by decide +kernel))⟩
theorem miX10_givesOut : ab_mI yX10_givesOut cX10_givesOut 2 none 1 := ⟨(ab_inT 1948 (by decide +kernel) (by decide +kernel)), (ab_inT 175 (by decide +kernel) (by decide +kernel)), ⟨by decide +kernel, by decide +kernel⟩, by decide +kernel, by decide⟩
theorem mvX10_givesOut : ab_mV yX10_givesOut := ⟨(ab_inT 1947 (by decide +kernel) (by decide +kernel)), (ab_inT 160 (by decide +kernel) (by decide +kernel))⟩
theorem miX10_best : ab_mI yX10_best cX10_best 2 (some .int) 1 := ⟨(ab_inT 1944 (by decide +kernel) (by decide +kernel)), (ab_inT 175 (by decide +kernel) (by decide +kernel)), ⟨by decide +kernel, by decide +kernel⟩, by decide +kernel, by decide⟩
theorem mvX10_best : ab_mV yX10_best := ⟨(ab_inT 1942 (by decide +kernel) (by decide +kernel)), (ab_inT 1943 (by decide +kernel) (by decide +kernel))⟩
theorem miX10_owes : ab_mI yX10_owes cX10_owes 3 (some .int) 1 := ⟨(ab_inT 1956 (by decide +kernel) (by decide +kernel)), (ab_inT 175 (by decide +kernel) (by decide +kernel)), ⟨by decide +kernel, by decide +kernel⟩, by decide +kernel, by decide⟩
theorem mvX10_owes : ab_mV yX10_owes := ⟨(ab_inT 1954 (by decide +kernel) (by decide +kernel)), (ab_inT 1955 (by decide +kernel) (by decide +kernel))⟩
theorem miX10_spare : ab_mI yX10_spare cX10_spare 3 (some .int) 0 := ⟨(ab_inT 1960 (by decide +kernel) (by decide +kernel)), (ab_inT 175 (by decide +kernel) (by decide +kernel)), ⟨by decide +kernel, by decide +kernel⟩, by decide +kernel, by decide⟩
theorem mvX10_spare : ab_mV yX10_spare := ⟨(ab_inT 1958 (by decide +kernel) (by decide +kernel)), (ab_inT 1959 (by decide +kernel) (by decide +kernel))⟩
theorem miX10_odds : ab_mI yX10_odds cX10_odds 9 (some .int) 2 := ⟨(ab_inT 1964 (by decide +kernel) (by decide +kernel)), (ab_inT 175 (by decide +kernel) (by decide +kernel)), ⟨by decide +kernel, by decide +kernel⟩, by decide +kernel, by decide⟩
theorem mvX10_odds : ab_mV yX10_odds := ⟨(ab_inT 1962 (by decide +kernel) (by decide +kernel)), (ab_inT 1963 (by decide +kernel) (by decide +kernel))⟩
theorem miX10_enough : ab_mI yX10_enough cX10_enough 5 (some .int) 2 := ⟨(ab_inT 1969 (by decide +kernel) (by decide +kernel)), (ab_inT 175 (by decide +kernel) (by decide +kernel)), ⟨by decide +kernel, by decide +kernel⟩, by decide +kernel, by decide⟩
theorem mvX10_enough : ab_mV yX10_enough := ⟨(ab_inT 1967 (by decide +kernel) (by decide +kernel)), (ab_inT 1968 (by decide +kernel) (by decide +kernel))⟩
theorem miX10_run : ab_mI yX10_run cX10_run 6 (some .int) 1 := ⟨(ab_inT 1973 (by decide +kernel) (by decide +kernel)), (ab_inT 175 (by decide +kernel) (by decide +kernel)), ⟨by decide +kernel, by decide +kernel⟩, by decide +kernel, by decide⟩
theorem mvX10_run : ab_mV yX10_run := ⟨(ab_inT 1971 (by decide +kernel) (by decide +kernel)), (ab_inT 1972 (by decide +kernel) (by decide +kernel))⟩
theorem miX10_see : ab_mI yX10_see cX10_see 5 (some .boolean) 3 := ⟨(ab_inT 1978 (by decide +kernel) (by decide +kernel)), (ab_inT 175 (by decide +kernel) (by decide +kernel)), ⟨by decide +kernel, by decide +kernel⟩, by decide +kernel, by decide⟩
theorem mvX10_see : ab_mV yX10_see := ⟨(ab_inT 1976 (by decide +kernel) (by decide +kernel)), (ab_inT 1977 (by decide +kernel) (by decide +kernel))⟩
theorem miX10_whoNow : ab_mI yX10_whoNow cX10_whoNow 6 (some .int) 0 := ⟨(ab_inT 1986 (by decide +kernel) (by decide +kernel)), (ab_inT 175 (by decide +kernel) (by decide +kernel)), ⟨by decide +kernel, by decide +kernel⟩, by decide +kernel, by decide⟩
theorem mvX10_whoNow : ab_mV yX10_whoNow := ⟨(ab_inT 1985 (by decide +kernel) (by decide +kernel)), (ab_inT 162 (by decide +kernel) (by decide +kernel))⟩
theorem miX10_who : ab_mI yX10_who cX10_who 1 (some .int) 0 := ⟨(ab_inT 1982 (by decide +kernel) (by decide +kernel)), (ab_inT 175 (by decide +kernel) (by decide +kernel)), ⟨by decide +kernel, by decide +kernel⟩, by decide +kernel, by decide⟩
theorem mvX10_who : ab_mV yX10_who := ⟨(ab_inT 1980 (by decide +kernel) (by decide +kernel)), (ab_inT 1981 (by decide +kernel) (by decide +kernel))⟩
theorem miX10_ask : ab_mI yX10_ask cX10_ask 9 (some .int) 0 := ⟨(ab_inT 1990 (by decide +kernel) (by decide +kernel)), (ab_inT 175 (by decide +kernel) (by decide +kernel)), ⟨by decide +kernel, by decide +kernel⟩, by decide +kernel, by decide⟩
theorem mvX10_ask : ab_mV yX10_ask := ⟨(ab_inT 1988 (by decide +kernel) (by decide +kernel)), (ab_inT 1989 (by decide +kernel) (by decide +kernel))⟩
theorem miX10_rich : ab_mI yX10_rich cX10_rich 3 (some .int) 0 := ⟨(ab_inT 1994 (by decide +kernel) (by decide +kernel)), (ab_inT 175 (by decide +kernel) (by decide +kernel)), ⟨by decide +kernel, by decide +kernel⟩, by decide +kernel, by decide⟩
theorem mvX10_rich : ab_mV yX10_rich := ⟨(ab_inT 1992 (by decide +kernel) (by decide +kernel)), (ab_inT 1993 (by decide +kernel) (by decide +kernel))⟩
theorem miX10_sad : ab_mI yX10_sad cX10_sad 3 (some .int) 0 := ⟨(ab_inT 1998 (by decide +kernel) (by decide +kernel)), (ab_inT 175 (by decide +kernel) (by decide +kernel)), ⟨by decide +kernel, by decide +kernel⟩, by decide +kernel, by decide⟩
theorem mvX10_sad : ab_mV yX10_sad := ⟨(ab_inT 1996 (by decide +kernel) (by decide +kernel)), (ab_inT 1997 (by decide +kernel) (by decide +kernel))⟩
theorem miX10_lack : ab_mI yX10_lack cX10_lack 4 (some .int) 1 := ⟨(ab_inT 2002 (by decide +kernel) (by decide +kernel)), (ab_inT 175 (by decide +kernel) (by decide +kernel)), ⟨by decide +kernel, by decide +kernel⟩, by decide +kernel, by decide⟩
theorem mvX10_lack : ab_mV yX10_lack := ⟨(ab_inT 2000 (by decide +kernel) (by decide +kernel)), (ab_inT 2001 (by decide +kernel) (by decide +kernel))⟩
theorem miX10_debt : ab_mI yX10_debt cX10_debt 1 (some .int) 0 := ⟨(ab_inT 2006 (by decide +kernel) (by decide +kernel)), (ab_inT 175 (by decide +kernel) (by decide +kernel)), ⟨by decide +kernel, by decide +kernel⟩, by decide +kernel, by decide⟩
theorem mvX10_debt : ab_mV yX10_debt := ⟨(ab_inT 2004 (by decide +kernel) (by decide +kernel)), (ab_inT 2005 (by decide +kernel) (by decide +kernel))⟩
theorem miX10_poor : ab_mI yX10_poor cX10_poor 3 (some .int) 0 := ⟨(ab_inT 2010 (by decide +kernel) (by decide +kernel)), (ab_inT 175 (by decide +kernel) (by decide +kernel)), ⟨by decide +kernel, by decide +kernel⟩, by decide +kernel, by decide⟩
theorem mvX10_poor : ab_mV yX10_poor := ⟨(ab_inT 2008 (by decide +kernel) (by decide +kernel)), (ab_inT 2009 (by decide +kernel) (by decide +kernel))⟩
theorem miX10_getsBy : ab_mI yX10_getsBy cX10_getsBy 5 (some .int) 5 := ⟨(ab_inT 2017 (by decide +kernel) (by decide +kernel)), (ab_inT 175 (by decide +kernel) (by decide +kernel)), ⟨by decide +kernel, by decide +kernel⟩, by decide +kernel, by decide⟩
theorem msX10_getsBy : ab_mS yX10_getsBy := (ab_inT 2016 (by decide +kernel) (by decide +kernel))
theorem miX10_rests : ab_mI yX10_rests cX10_rests 12 (some .int) 4 := ⟨(ab_inT 2014 (by decide +kernel) (by decide +kernel)), (ab_inT 175 (by decide +kernel) (by decide +kernel)), ⟨by decide +kernel, by decide +kernel⟩, by decide +kernel, by decide⟩
theorem mvX10_rests : ab_mV yX10_rests := ⟨(ab_inT 2012 (by decide +kernel) (by decide +kernel)), (ab_inT 2013 (by decide +kernel) (by decide +kernel))⟩
theorem miX10_drawsDeed : ab_mI yX10_drawsDeed cX10_drawsDeed 4 none 0 := ⟨(ab_inT 2025 (by decide +kernel) (by decide +kernel)), (ab_inT 175 (by decide +kernel) (by decide +kernel)), ⟨by decide +kernel, by decide +kernel⟩, by decide +kernel, by decide⟩
theorem mvX10_drawsDeed : ab_mV yX10_drawsDeed := ⟨(ab_inT 2024 (by decide +kernel) (by decide +kernel)), (ab_inT 163 (by decide +kernel) (by decide +kernel))⟩
theorem miX10_luck : ab_mI yX10_luck cX10_luck 6 (some .int) 3 := ⟨(ab_inT 2021 (by decide +kernel) (by decide +kernel)), (ab_inT 175 (by decide +kernel) (by decide +kernel)), ⟨by decide +kernel, by decide +kernel⟩, by decide +kernel, by decide⟩
theorem mvX10_luck : ab_mV yX10_luck := ⟨(ab_inT 2019 (by decide +kernel) (by decide +kernel)), (ab_inT 2020 (by decide +kernel) (by decide +kernel))⟩
theorem miX10_mark : ab_mI yX10_mark cX10_mark 3 (some .boolean) 2 := ⟨(ab_inT 2033 (by decide +kernel) (by decide +kernel)), (ab_inT 175 (by decide +kernel) (by decide +kernel)), ⟨by decide +kernel, by decide +kernel⟩, by decide +kernel, by decide⟩
theorem mvX10_mark : ab_mV yX10_mark := ⟨(ab_inT 2031 (by decide +kernel) (by decide +kernel)), (ab_inT 2032 (by decide +kernel) (by decide +kernel))⟩
theorem miX10_count : ab_mI yX10_count cX10_count 2 (some .int) 1 := ⟨(ab_inT 2037 (by decide +kernel) (by decide +kernel)), (ab_inT 175 (by decide +kernel) (by decide +kernel)), ⟨by decide +kernel, by decide +kernel⟩, by decide +kernel, by decide⟩
theorem mvX10_count : ab_mV yX10_count := ⟨(ab_inT 2035 (by decide +kernel) (by decide +kernel)), (ab_inT 2036 (by decide +kernel) (by decide +kernel))⟩
theorem miX0_giveOut : ab_mI yX0_giveOut cX0_giveOut 5 none 1 := ⟨(ab_inT 1196 (by decide +kernel) (by decide +kernel)), (ab_inT 174 (by decide +kernel) (by decide +kernel)), ⟨by decide +kernel, by decide +kernel⟩, by decide +kernel, by decide⟩
theorem mvX0_giveOut : ab_mV yX0_giveOut := ⟨(ab_inT 1195 (by decide +kernel) (by decide +kernel)), (ab_inT 84 (by decide +kernel) (by decide +kernel))⟩
theorem miX0_firstBest : ab_mI yX0_firstBest cX0_firstBest 6 (some .int) 3 := ⟨(ab_inT 1218 (by decide +kernel) (by decide +kernel)), (ab_inT 174 (by decide +kernel) (by decide +kernel)), ⟨by decide +kernel, by decide +kernel⟩, by decide +kernel, by decide⟩
theorem mvX0_firstBest : ab_mV yX0_firstBest := ⟨(ab_inT 1217 (by decide +kernel) (by decide +kernel)), (ab_inT 88 (by decide +kernel) (by decide +kernel))⟩
theorem miX0_mostBy : ab_mI yX0_mostBy cX0_mostBy 5 (some .int) 4 := ⟨(ab_inT 1212 (by decide +kernel) (by decide +kernel)), (ab_inT 174 (by decide +kernel) (by decide +kernel)), ⟨by decide +kernel, by decide +kernel⟩, by decide +kernel, by decide⟩
theorem mvX0_mostBy : ab_mV yX0_mostBy := ⟨(ab_inT 1211 (by decide +kernel) (by decide +kernel)), (ab_inT 87 (by decide +kernel) (by decide +kernel))⟩
theorem miX0_mostWithout : ab_mI yX0_mostWithout cX0_mostWithout 5 (some .int) 2 := ⟨(ab_inT 1200 (by decide +kernel) (by decide +kernel)), (ab_inT 174 (by decide +kernel) (by decide +kernel)), ⟨by decide +kernel, by decide +kernel⟩, by decide +kernel, by decide⟩
theorem mvX0_mostWithout : ab_mV yX0_mostWithout := ⟨(ab_inT 1199 (by decide +kernel) (by decide +kernel)), (ab_inT 85 (by decide +kernel) (by decide +kernel))⟩
theorem miX0_mostFrom : ab_mI yX0_mostFrom cX0_mostFrom 7 (some .int) 4 := ⟨(ab_inT 1207 (by decide +kernel) (by decide +kernel)), (ab_inT 174 (by decide +kernel) (by decide +kernel)), ⟨by decide +kernel, by decide +kernel⟩, by decide +kernel, by decide⟩
theorem mvX0_mostFrom : ab_mV yX0_mostFrom := ⟨(ab_inT 1206 (by decide +kernel) (by decide +kernel)), (ab_inT 86 (by decide +kernel) (by decide +kernel))⟩
theorem miX0_givenTo : ab_mI yX0_givenTo cX0_givenTo 2 (some .int) 1 := ⟨(ab_inT 1222 (by decide +kernel) (by decide +kernel)), (ab_inT 174 (by decide +kernel) (by decide +kernel)), ⟨by decide +kernel, by decide +kernel⟩, by decide +kernel, by decide⟩
theorem mvX0_givenTo : ab_mV yX0_givenTo := ⟨(ab_inT 1221 (by decide +kernel) (by decide +kernel)), (ab_inT 89 (by decide +kernel) (by decide +kernel))⟩
theorem miX1_setUsual : ab_mI yX1_setUsual cX1_setUsual 1 none 0 := ⟨(ab_inT 640 (by decide +kernel) (by decide +kernel)), (ab_inT 169 (by decide +kernel) (by decide +kernel)), ⟨by decide +kernel, by decide +kernel⟩, by decide +kernel, by decide⟩
theorem mvX1_setUsual : ab_mV yX1_setUsual := ⟨(ab_inT 639 (by decide +kernel) (by decide +kernel)), (ab_inT 10 (by decide +kernel) (by decide +kernel))⟩
theorem miX1_add : ab_mI yX1_add cX1_add 2 none 1 := ⟨(ab_inT 644 (by decide +kernel) (by decide +kernel)), (ab_inT 169 (by decide +kernel) (by decide +kernel)), ⟨by decide +kernel, by decide +kernel⟩, by decide +kernel, by decide⟩
theorem mvX1_add : ab_mV yX1_add := ⟨(ab_inT 643 (by decide +kernel) (by decide +kernel)), (ab_inT 11 (by decide +kernel) (by decide +kernel))⟩
theorem miX1_readLevel : ab_mI yX1_readLevel cX1_readLevel 6 (some .boolean) 3 := ⟨(ab_inT 763 (by decide +kernel) (by decide +kernel)), (ab_inT 169 (by decide +kernel) (by decide +kernel)), ⟨by decide +kernel, by decide +kernel⟩, by decide +kernel, by decide⟩
theorem mvX1_readLevel : ab_mV yX1_readLevel := ⟨(ab_inT 762 (by decide +kernel) (by decide +kernel)), (ab_inT 30 (by decide +kernel) (by decide +kernel))⟩
theorem miX1_operatorAt : ab_mI yX1_operatorAt cX1_operatorAt 2 (some .int) 2 := ⟨(ab_inT 796 (by decide +kernel) (by decide +kernel)), (ab_inT 169 (by decide +kernel) (by decide +kernel)), ⟨by decide +kernel, by decide +kernel⟩, by decide +kernel, by decide⟩
theorem msX1_operatorAt : ab_mS yX1_operatorAt := (ab_inT 795 (by decide +kernel) (by decide +kernel))
theorem miX1_readPart : ab_mI yX1_readPart cX1_readPart 7 (some .boolean) 2 := ⟨(ab_inT 767 (by decide +kernel) (by decide +kernel)), (ab_inT 169 (by decide +kernel) (by decide +kernel)), ⟨by decide +kernel, by decide +kernel⟩, by decide +kernel, by decide⟩
theorem mvX1_readPart : ab_mV yX1_readPart := ⟨(ab_inT 766 (by decide +kernel) (by decide +kernel)), (ab_inT 31 (by decide +kernel) (by decide +kernel))⟩
theorem miX1_readNot : ab_mI yX1_readNot cX1_readNot 3 (some .boolean) 2 := ⟨(ab_inT 788 (by decide +kernel) (by decide +kernel)), (ab_inT 169 (by decide +kernel) (by decide +kernel)), ⟨by decide +kernel, by decide +kernel⟩, by decide +kernel, by decide⟩
theorem mvX1_readNot : ab_mV yX1_readNot := ⟨(ab_inT 787 (by decide +kernel) (by decide +kernel)), (ab_inT 32 (by decide +kernel) (by decide +kernel))⟩
theorem miX1_readBrackets : ab_mI yX1_readBrackets cX1_readBrackets 3 (some .boolean) 2 := ⟨(ab_inT 792 (by decide +kernel) (by decide +kernel)), (ab_inT 169 (by decide +kernel) (by decide +kernel)), ⟨by decide +kernel, by decide +kernel⟩, by decide +kernel, by decide⟩
theorem mvX1_readBrackets : ab_mV yX1_readBrackets := ⟨(ab_inT 791 (by decide +kernel) (by decide +kernel)), (ab_inT 33 (by decide +kernel) (by decide +kernel))⟩
theorem miX1_factAt : ab_mI yX1_factAt cX1_factAt 1 (some .int) 1 := ⟨(ab_inT 774 (by decide +kernel) (by decide +kernel)), (ab_inT 169 (by decide +kernel) (by decide +kernel)), ⟨by decide +kernel, by decide +kernel⟩, by decide +kernel, by decide⟩
theorem msX1_factAt : ab_mS yX1_factAt := (ab_inT 773 (by decide +kernel) (by decide +kernel))
theorem miX1_work : ab_mI yX1_work cX1_work 7 (some .int) 4 := ⟨(ab_inT 816 (by decide +kernel) (by decide +kernel)), (ab_inT 169 (by decide +kernel) (by decide +kernel)), ⟨by decide +kernel, by decide +kernel⟩, by decide +kernel, by decide⟩
theorem mvX1_work : ab_mV yX1_work := ⟨(ab_inT 815 (by decide +kernel) (by decide +kernel)), (ab_inT 37 (by decide +kernel) (by decide +kernel))⟩
theorem miX1_pushOrJoin : ab_mI yX1_pushOrJoin cX1_pushOrJoin 4 none 1 := ⟨(ab_inT 828 (by decide +kernel) (by decide +kernel)), (ab_inT 169 (by decide +kernel) (by decide +kernel)), ⟨by decide +kernel, by decide +kernel⟩, by decide +kernel, by decide⟩
theorem mvX1_pushOrJoin : ab_mV yX1_pushOrJoin := ⟨(ab_inT 827 (by decide +kernel) (by decide +kernel)), (ab_inT 40 (by decide +kernel) (by decide +kernel))⟩
theorem miX1_join : ab_mI yX1_join cX1_join 3 (some .int) 3 := ⟨(ab_inT 831 (by decide +kernel) (by decide +kernel)), (ab_inT 169 (by decide +kernel) (by decide +kernel)), ⟨by decide +kernel, by decide +kernel⟩, by decide +kernel, by decide⟩
theorem msX1_join : ab_mS yX1_join := (ab_inT 830 (by decide +kernel) (by decide +kernel))
theorem miX1_push : ab_mI yX1_push cX1_push 2 none 1 := ⟨(ab_inT 820 (by decide +kernel) (by decide +kernel)), (ab_inT 169 (by decide +kernel) (by decide +kernel)), ⟨by decide +kernel, by decide +kernel⟩, by decide +kernel, by decide⟩
theorem mvX1_push : ab_mV yX1_push := ⟨(ab_inT 819 (by decide +kernel) (by decide +kernel)), (ab_inT 38 (by decide +kernel) (by decide +kernel))⟩
theorem miX1_pop : ab_mI yX1_pop cX1_pop 1 (some .int) 0 := ⟨(ab_inT 824 (by decide +kernel) (by decide +kernel)), (ab_inT 169 (by decide +kernel) (by decide +kernel)), ⟨by decide +kernel, by decide +kernel⟩, by decide +kernel, by decide⟩
theorem mvX1_pop : ab_mV yX1_pop := ⟨(ab_inT 823 (by decide +kernel) (by decide +kernel)), (ab_inT 39 (by decide +kernel) (by decide +kernel))⟩
theorem miX2_readLines : ab_mI yX2_readLines cX2_readLines 3 (some .int) 1 := ⟨(ab_inT 632 (by decide +kernel) (by decide +kernel)), (ab_inT 168 (by decide +kernel) (by decide +kernel)), ⟨by decide +kernel, by decide +kernel⟩, by decide +kernel, by decide⟩
theorem mvX2_readLines : ab_mV yX2_readLines := ⟨(ab_inT 631 (by decide +kernel) (by decide +kernel)), (ab_inT 8 (by decide +kernel) (by decide +kernel))⟩
theorem miX2_clear : ab_mI yX2_clear cX2_clear 2 none 0 := ⟨(ab_inT 636 (by decide +kernel) (by decide +kernel)), (ab_inT 168 (by decide +kernel) (by decide +kernel)), ⟨by decide +kernel, by decide +kernel⟩, by decide +kernel, by decide⟩
theorem mvX2_clear : ab_mV yX2_clear := ⟨(ab_inT 635 (by decide +kernel) (by decide +kernel)), (ab_inT 9 (by decide +kernel) (by decide +kernel))⟩
theorem miX2_readLine : ab_mI yX2_readLine cX2_readLine 2 (some .boolean) 1 := ⟨(ab_inT 648 (by decide +kernel) (by decide +kernel)), (ab_inT 168 (by decide +kernel) (by decide +kernel)), ⟨by decide +kernel, by decide +kernel⟩, by decide +kernel, by decide⟩
theorem mvX2_readLine : ab_mV yX2_readLine := ⟨(ab_inT 647 (by decide +kernel) (by decide +kernel)), (ab_inT 12 (by decide +kernel) (by decide +kernel))⟩
theorem miX2_readPerson : ab_mI yX2_readPerson cX2_readPerson 6 (some .boolean) 1 := ⟨(ab_inT 658 (by decide +kernel) (by decide +kernel)), (ab_inT 168 (by decide +kernel) (by decide +kernel)), ⟨by decide +kernel, by decide +kernel⟩, by decide +kernel, by decide⟩
theorem mvX2_readPerson : ab_mV yX2_readPerson := ⟨(ab_inT 657 (by decide +kernel) (by decide +kernel)), (ab_inT 14 (by decide +kernel) (by decide +kernel))⟩
theorem miX2_addPerson : ab_mI yX2_addPerson cX2_addPerson 5 none 3 := ⟨(ab_inT 711 (by decide +kernel) (by decide +kernel)), (ab_inT 168 (by decide +kernel) (by decide +kernel)), ⟨by decide +kernel, by decide +kernel⟩, by decide +kernel, by decide⟩
theorem mvX2_addPerson : ab_mV yX2_addPerson := ⟨(ab_inT 710 (by decide +kernel) (by decide +kernel)), (ab_inT 22 (by decide +kernel) (by decide +kernel))⟩
theorem miX2_readGood : ab_mI yX2_readGood cX2_readGood 6 (some .boolean) 1 := ⟨(ab_inT 720 (by decide +kernel) (by decide +kernel)), (ab_inT 168 (by decide +kernel) (by decide +kernel)), ⟨by decide +kernel, by decide +kernel⟩, by decide +kernel, by decide⟩
theorem mvX2_readGood : ab_mV yX2_readGood := ⟨(ab_inT 719 (by decide +kernel) (by decide +kernel)), (ab_inT 23 (by decide +kernel) (by decide +kernel))⟩
theorem miX2_addGood : ab_mI yX2_addGood cX2_addGood 5 none 3 := ⟨(ab_inT 734 (by decide +kernel) (by decide +kernel)), (ab_inT 168 (by decide +kernel) (by decide +kernel)), ⟨by decide +kernel, by decide +kernel⟩, by decide +kernel, by decide⟩
theorem mvX2_addGood : ab_mV yX2_addGood := ⟨(ab_inT 733 (by decide +kernel) (by decide +kernel)), (ab_inT 25 (by decide +kernel) (by decide +kernel))⟩
theorem miX2_isNewName : ab_mI yX2_isNewName cX2_isNewName 4 (some .boolean) 1 := ⟨(ab_inT 667 (by decide +kernel) (by decide +kernel)), (ab_inT 168 (by decide +kernel) (by decide +kernel)), ⟨by decide +kernel, by decide +kernel⟩, by decide +kernel, by decide⟩
theorem mvX2_isNewName : ab_mV yX2_isNewName := ⟨(ab_inT 666 (by decide +kernel) (by decide +kernel)), (ab_inT 16 (by decide +kernel) (by decide +kernel))⟩
theorem miX2_kindAt : ab_mI yX2_kindAt cX2_kindAt 1 (some .int) 1 := ⟨(ab_inT 679 (by decide +kernel) (by decide +kernel)), (ab_inT 168 (by decide +kernel) (by decide +kernel)), ⟨by decide +kernel, by decide +kernel⟩, by decide +kernel, by decide⟩
theorem msX2_kindAt : ab_mS yX2_kindAt := (ab_inT 678 (by decide +kernel) (by decide +kernel))
theorem miX2_readLikes : ab_mI yX2_readLikes cX2_readLikes 6 (some .boolean) 1 := ⟨(ab_inT 740 (by decide +kernel) (by decide +kernel)), (ab_inT 168 (by decide +kernel) (by decide +kernel)), ⟨by decide +kernel, by decide +kernel⟩, by decide +kernel, by decide⟩
theorem mvX2_readLikes : ab_mV yX2_readLikes := ⟨(ab_inT 739 (by decide +kernel) (by decide +kernel)), (ab_inT 26 (by decide +kernel) (by decide +kernel))⟩
theorem miX2_readSeed : ab_mI yX2_readSeed cX2_readSeed 3 (some .boolean) 1 := ⟨(ab_inT 753 (by decide +kernel) (by decide +kernel)), (ab_inT 168 (by decide +kernel) (by decide +kernel)), ⟨by decide +kernel, by decide +kernel⟩, by decide +kernel, by decide⟩
theorem mvX2_readSeed : ab_mV yX2_readSeed := ⟨(ab_inT 752 (by decide +kernel) (by decide +kernel)), (ab_inT 28 (by decide +kernel) (by decide +kernel))⟩
theorem miX2_readFits : ab_mI yX2_readFits cX2_readFits 2 (some .boolean) 1 := ⟨(ab_inT 759 (by decide +kernel) (by decide +kernel)), (ab_inT 168 (by decide +kernel) (by decide +kernel)), ⟨by decide +kernel, by decide +kernel⟩, by decide +kernel, by decide⟩
theorem mvX2_readFits : ab_mV yX2_readFits := ⟨(ab_inT 758 (by decide +kernel) (by decide +kernel)), (ab_inT 29 (by decide +kernel) (by decide +kernel))⟩
theorem miX2_workOutFits : ab_mI yX2_workOutFits cX2_workOutFits 6 none 0 := ⟨(ab_inT 804 (by decide +kernel) (by decide +kernel)), (ab_inT 168 (by decide +kernel) (by decide +kernel)), ⟨by decide +kernel, by decide +kernel⟩, by decide +kernel, by decide⟩
theorem mvX2_workOutFits : ab_mV yX2_workOutFits := ⟨(ab_inT 803 (by decide +kernel) (by decide +kernel)), (ab_inT 34 (by decide +kernel) (by decide +kernel))⟩
theorem miX2_fitIndex : ab_mI yX2_fitIndex cX2_fitIndex 3 (some .int) 3 := ⟨(ab_inT 834 (by decide +kernel) (by decide +kernel)), (ab_inT 168 (by decide +kernel) (by decide +kernel)), ⟨by decide +kernel, by decide +kernel⟩, by decide +kernel, by decide⟩
theorem msX2_fitIndex : ab_mS yX2_fitIndex := (ab_inT 833 (by decide +kernel) (by decide +kernel))
theorem miX2_fitBy : ab_mI yX2_fitBy cX2_fitBy 4 (some .int) 3 := ⟨(ab_inT 939 (by decide +kernel) (by decide +kernel)), (ab_inT 168 (by decide +kernel) (by decide +kernel)), ⟨by decide +kernel, by decide +kernel⟩, by decide +kernel, by decide⟩
theorem mvX2_fitBy : ab_mV yX2_fitBy := ⟨(ab_inT 938 (by decide +kernel) (by decide +kernel)), (ab_inT 54 (by decide +kernel) (by decide +kernel))⟩
theorem miX2_likeOf : ab_mI yX2_likeOf cX2_likeOf 3 (some .int) 2 := ⟨(ab_inT 744 (by decide +kernel) (by decide +kernel)), (ab_inT 168 (by decide +kernel) (by decide +kernel)), ⟨by decide +kernel, by decide +kernel⟩, by decide +kernel, by decide⟩
theorem mvX2_likeOf : ab_mV yX2_likeOf := ⟨(ab_inT 743 (by decide +kernel) (by decide +kernel)), (ab_inT 27 (by decide +kernel) (by decide +kernel))⟩
theorem miX2_hasPerson : ab_mI yX2_hasPerson cX2_hasPerson 2 (some .boolean) 1 := ⟨(ab_inT 890 (by decide +kernel) (by decide +kernel)), (ab_inT 168 (by decide +kernel) (by decide +kernel)), ⟨by decide +kernel, by decide +kernel⟩, by decide +kernel, by decide⟩
theorem mvX2_hasPerson : ab_mV yX2_hasPerson := ⟨(ab_inT 889 (by decide +kernel) (by decide +kernel)), (ab_inT 46 (by decide +kernel) (by decide +kernel))⟩
theorem miX2_hasGood : ab_mI yX2_hasGood cX2_hasGood 2 (some .boolean) 1 := ⟨(ab_inT 914 (by decide +kernel) (by decide +kernel)), (ab_inT 168 (by decide +kernel) (by decide +kernel)), ⟨by decide +kernel, by decide +kernel⟩, by decide +kernel, by decide⟩
theorem mvX2_hasGood : ab_mV yX2_hasGood := ⟨(ab_inT 913 (by decide +kernel) (by decide +kernel)), (ab_inT 51 (by decide +kernel) (by decide +kernel))⟩
theorem miX2_kindOf : ab_mI yX2_kindOf cX2_kindOf 2 (some .int) 1 := ⟨(ab_inT 894 (by decide +kernel) (by decide +kernel)), (ab_inT 168 (by decide +kernel) (by decide +kernel)), ⟨by decide +kernel, by decide +kernel⟩, by decide +kernel, by decide⟩
theorem mvX2_kindOf : ab_mV yX2_kindOf := ⟨(ab_inT 893 (by decide +kernel) (by decide +kernel)), (ab_inT 47 (by decide +kernel) (by decide +kernel))⟩
theorem miX2_worthOf : ab_mI yX2_worthOf cX2_worthOf 2 (some .int) 1 := ⟨(ab_inT 812 (by decide +kernel) (by decide +kernel)), (ab_inT 168 (by decide +kernel) (by decide +kernel)), ⟨by decide +kernel, by decide +kernel⟩, by decide +kernel, by decide⟩
theorem mvX2_worthOf : ab_mV yX2_worthOf := ⟨(ab_inT 811 (by decide +kernel) (by decide +kernel)), (ab_inT 36 (by decide +kernel) (by decide +kernel))⟩
theorem miX2_ownerOf : ab_mI yX2_ownerOf cX2_ownerOf 2 (some .int) 1 := ⟨(ab_inT 808 (by decide +kernel) (by decide +kernel)), (ab_inT 168 (by decide +kernel) (by decide +kernel)), ⟨by decide +kernel, by decide +kernel⟩, by decide +kernel, by decide⟩
theorem mvX2_ownerOf : ab_mV yX2_ownerOf := ⟨(ab_inT 807 (by decide +kernel) (by decide +kernel)), (ab_inT 35 (by decide +kernel) (by decide +kernel))⟩
theorem miX2_allGoods : ab_mI yX2_allGoods cX2_allGoods 1 (some .int) 0 := ⟨(ab_inT 1007 (by decide +kernel) (by decide +kernel)), (ab_inT 168 (by decide +kernel) (by decide +kernel)), ⟨by decide +kernel, by decide +kernel⟩, by decide +kernel, by decide⟩
theorem mvX2_allGoods : ab_mV yX2_allGoods := ⟨(ab_inT 1006 (by decide +kernel) (by decide +kernel)), (ab_inT 65 (by decide +kernel) (by decide +kernel))⟩
theorem miX3_trade : ab_mI yX3_trade cX3_trade 6 none 2 := ⟨(ab_inT 1155 (by decide +kernel) (by decide +kernel)), (ab_inT 173 (by decide +kernel) (by decide +kernel)), ⟨by decide +kernel, by decide +kernel⟩, by decide +kernel, by decide⟩
theorem mvX3_trade : ab_mV yX3_trade := ⟨(ab_inT 1154 (by decide +kernel) (by decide +kernel)), (ab_inT 77 (by decide +kernel) (by decide +kernel))⟩
theorem miX3_putIn : ab_mI yX3_putIn cX3_putIn 6 (some .int) 2 := ⟨(ab_inT 1159 (by decide +kernel) (by decide +kernel)), (ab_inT 173 (by decide +kernel) (by decide +kernel)), ⟨by decide +kernel, by decide +kernel⟩, by decide +kernel, by decide⟩
theorem mvX3_putIn : ab_mV yX3_putIn := ⟨(ab_inT 1158 (by decide +kernel) (by decide +kernel)), (ab_inT 78 (by decide +kernel) (by decide +kernel))⟩
theorem miX3_pointsTo : ab_mI yX3_pointsTo cX3_pointsTo 11 (some .int) 4 := ⟨(ab_inT 1168 (by decide +kernel) (by decide +kernel)), (ab_inT 173 (by decide +kernel) (by decide +kernel)), ⟨by decide +kernel, by decide +kernel⟩, by decide +kernel, by decide⟩
theorem mvX3_pointsTo : ab_mV yX3_pointsTo := ⟨(ab_inT 1167 (by decide +kernel) (by decide +kernel)), (ab_inT 80 (by decide +kernel) (by decide +kernel))⟩
theorem miX3_handOut : ab_mI yX3_handOut cX3_handOut 5 (some .int) 2 := ⟨(ab_inT 1176 (by decide +kernel) (by decide +kernel)), (ab_inT 173 (by decide +kernel) (by decide +kernel)), ⟨by decide +kernel, by decide +kernel⟩, by decide +kernel, by decide⟩
theorem mvX3_handOut : ab_mV yX3_handOut := ⟨(ab_inT 1175 (by decide +kernel) (by decide +kernel)), (ab_inT 81 (by decide +kernel) (by decide +kernel))⟩
theorem miX3_comesRound : ab_mI yX3_comesRound cX3_comesRound 4 (some .boolean) 1 := ⟨(ab_inT 1180 (by decide +kernel) (by decide +kernel)), (ab_inT 173 (by decide +kernel) (by decide +kernel)), ⟨by decide +kernel, by decide +kernel⟩, by decide +kernel, by decide⟩
theorem mvX3_comesRound : ab_mV yX3_comesRound := ⟨(ab_inT 1179 (by decide +kernel) (by decide +kernel)), (ab_inT 82 (by decide +kernel) (by decide +kernel))⟩
theorem miX3_gotBy : ab_mI yX3_gotBy cX3_gotBy 2 (some .int) 1 := ⟨(ab_inT 1184 (by decide +kernel) (by decide +kernel)), (ab_inT 173 (by decide +kernel) (by decide +kernel)), ⟨by decide +kernel, by decide +kernel⟩, by decide +kernel, by decide⟩
theorem mvX3_gotBy : ab_mV yX3_gotBy := ⟨(ab_inT 1183 (by decide +kernel) (by decide +kernel)), (ab_inT 83 (by decide +kernel) (by decide +kernel))⟩
theorem miX4_add : ab_mI yX4_add cX4_add 4 (some .boolean) 3 := ⟨(ab_inT 1255 (by decide +kernel) (by decide +kernel)), (ab_inT 172 (by decide +kernel) (by decide +kernel)), ⟨by decide +kernel, by decide +kernel⟩, by decide +kernel, by decide⟩
theorem mvX4_add : ab_mV yX4_add := ⟨(ab_inT 1254 (by decide +kernel) (by decide +kernel)), (ab_inT 90 (by decide +kernel) (by decide +kernel))⟩
theorem miX4_copyOf : ab_mI yX4_copyOf cX4_copyOf 3 none 1 := ⟨(ab_inT 1323 (by decide +kernel) (by decide +kernel)), (ab_inT 172 (by decide +kernel) (by decide +kernel)), ⟨by decide +kernel, by decide +kernel⟩, by decide +kernel, by decide⟩
theorem mvX4_copyOf : ab_mV yX4_copyOf := ⟨(ab_inT 1322 (by decide +kernel) (by decide +kernel)), (ab_inT 96 (by decide +kernel) (by decide +kernel))⟩
theorem miX4_whoBits : ab_mI yX4_whoBits cX4_whoBits 4 (some .int) 1 := ⟨(ab_inT 1264 (by decide +kernel) (by decide +kernel)), (ab_inT 172 (by decide +kernel) (by decide +kernel)), ⟨by decide +kernel, by decide +kernel⟩, by decide +kernel, by decide⟩
theorem mvX4_whoBits : ab_mV yX4_whoBits := ⟨(ab_inT 1263 (by decide +kernel) (by decide +kernel)), (ab_inT 91 (by decide +kernel) (by decide +kernel))⟩
theorem miX4_allIsSo : ab_mI yX4_allIsSo cX4_allIsSo 5 (some .boolean) 2 := ⟨(ab_inT 1268 (by decide +kernel) (by decide +kernel)), (ab_inT 172 (by decide +kernel) (by decide +kernel)), ⟨by decide +kernel, by decide +kernel⟩, by decide +kernel, by decide⟩
theorem mvX4_allIsSo : ab_mV yX4_allIsSo := ⟨(ab_inT 1267 (by decide +kernel) (by decide +kernel)), (ab_inT 92 (by decide +kernel) (by decide +kernel))⟩
theorem miX5_startOf : ab_mI yX5_startOf cX5_startOf 3 none 1 := ⟨(ab_inT 844 (by decide +kernel) (by decide +kernel)), (ab_inT 171 (by decide +kernel) (by decide +kernel)), ⟨by decide +kernel, by decide +kernel⟩, by decide +kernel, by decide⟩
theorem mvX5_startOf : ab_mV yX5_startOf := ⟨(ab_inT 843 (by decide +kernel) (by decide +kernel)), (ab_inT 42 (by decide +kernel) (by decide +kernel))⟩
theorem miX5_copyOf : ab_mI yX5_copyOf cX5_copyOf 2 none 1 := ⟨(ab_inT 957 (by decide +kernel) (by decide +kernel)), (ab_inT 171 (by decide +kernel) (by decide +kernel)), ⟨by decide +kernel, by decide +kernel⟩, by decide +kernel, by decide⟩
theorem mvX5_copyOf : ab_mV yX5_copyOf := ⟨(ab_inT 956 (by decide +kernel) (by decide +kernel)), (ab_inT 57 (by decide +kernel) (by decide +kernel))⟩
theorem miX5_holderOf : ab_mI yX5_holderOf cX5_holderOf 2 (some .int) 1 := ⟨(ab_inT 920 (by decide +kernel) (by decide +kernel)), (ab_inT 171 (by decide +kernel) (by decide +kernel)), ⟨by decide +kernel, by decide +kernel⟩, by decide +kernel, by decide⟩
theorem mvX5_holderOf : ab_mV yX5_holderOf := ⟨(ab_inT 919 (by decide +kernel) (by decide +kernel)), (ab_inT 52 (by decide +kernel) (by decide +kernel))⟩
theorem miX5_place : ab_mI yX5_place cX5_place 3 none 2 := ⟨(ab_inT 986 (by decide +kernel) (by decide +kernel)), (ab_inT 171 (by decide +kernel) (by decide +kernel)), ⟨by decide +kernel, by decide +kernel⟩, by decide +kernel, by decide⟩
theorem mvX5_place : ab_mV yX5_place := ⟨(ab_inT 985 (by decide +kernel) (by decide +kernel)), (ab_inT 62 (by decide +kernel) (by decide +kernel))⟩
theorem miX5_shillingsOf : ab_mI yX5_shillingsOf cX5_shillingsOf 2 (some .int) 1 := ⟨(ab_inT 898 (by decide +kernel) (by decide +kernel)), (ab_inT 171 (by decide +kernel) (by decide +kernel)), ⟨by decide +kernel, by decide +kernel⟩, by decide +kernel, by decide⟩
theorem mvX5_shillingsOf : ab_mV yX5_shillingsOf := ⟨(ab_inT 897 (by decide +kernel) (by decide +kernel)), (ab_inT 48 (by decide +kernel) (by decide +kernel))⟩
theorem miX5_ticketsOf : ab_mI yX5_ticketsOf cX5_ticketsOf 2 (some .int) 1 := ⟨(ab_inT 902 (by decide +kernel) (by decide +kernel)), (ab_inT 171 (by decide +kernel) (by decide +kernel)), ⟨by decide +kernel, by decide +kernel⟩, by decide +kernel, by decide⟩
theorem mvX5_ticketsOf : ab_mV yX5_ticketsOf := ⟨(ab_inT 901 (by decide +kernel) (by decide +kernel)), (ab_inT 49 (by decide +kernel) (by decide +kernel))⟩
theorem miX5_allTickets : ab_mI yX5_allTickets cX5_allTickets 1 (some .int) 0 := ⟨(ab_inT 1015 (by decide +kernel) (by decide +kernel)), (ab_inT 171 (by decide +kernel) (by decide +kernel)), ⟨by decide +kernel, by decide +kernel⟩, by decide +kernel, by decide⟩
theorem mvX5_allTickets : ab_mV yX5_allTickets := ⟨(ab_inT 1014 (by decide +kernel) (by decide +kernel)), (ab_inT 67 (by decide +kernel) (by decide +kernel))⟩
theorem miX5_allShillings : ab_mI yX5_allShillings cX5_allShillings 1 (some .int) 0 := ⟨(ab_inT 1332 (by decide +kernel) (by decide +kernel)), (ab_inT 171 (by decide +kernel) (by decide +kernel)), ⟨by decide +kernel, by decide +kernel⟩, by decide +kernel, by decide⟩
theorem mvX5_allShillings : ab_mV yX5_allShillings := ⟨(ab_inT 1331 (by decide +kernel) (by decide +kernel)), (ab_inT 97 (by decide +kernel) (by decide +kernel))⟩
theorem miX5_bitsOf : ab_mI yX5_bitsOf cX5_bitsOf 4 (some .int) 1 := ⟨(ab_inT 906 (by decide +kernel) (by decide +kernel)), (ab_inT 171 (by decide +kernel) (by decide +kernel)), ⟨by decide +kernel, by decide +kernel⟩, by decide +kernel, by decide⟩
theorem mvX5_bitsOf : ab_mV yX5_bitsOf := ⟨(ab_inT 905 (by decide +kernel) (by decide +kernel)), (ab_inT 50 (by decide +kernel) (by decide +kernel))⟩
theorem miX5_firstOf : ab_mI yX5_firstOf cX5_firstOf 3 (some .int) 1 := ⟨(ab_inT 1163 (by decide +kernel) (by decide +kernel)), (ab_inT 171 (by decide +kernel) (by decide +kernel)), ⟨by decide +kernel, by decide +kernel⟩, by decide +kernel, by decide⟩
theorem mvX5_firstOf : ab_mV yX5_firstOf := ⟨(ab_inT 1162 (by decide +kernel) (by decide +kernel)), (ab_inT 79 (by decide +kernel) (by decide +kernel))⟩
theorem miX5_heldBits : ab_mI yX5_heldBits cX5_heldBits 2 (some .int) 1 := ⟨(ab_inT 1003 (by decide +kernel) (by decide +kernel)), (ab_inT 171 (by decide +kernel) (by decide +kernel)), ⟨by decide +kernel, by decide +kernel⟩, by decide +kernel, by decide⟩
theorem mvX5_heldBits : ab_mV yX5_heldBits := ⟨(ab_inT 1002 (by decide +kernel) (by decide +kernel)), (ab_inT 64 (by decide +kernel) (by decide +kernel))⟩
theorem miX5_rightBits : ab_mI yX5_rightBits cX5_rightBits 4 (some .int) 1 := ⟨(ab_inT 1062 (by decide +kernel) (by decide +kernel)), (ab_inT 171 (by decide +kernel) (by decide +kernel)), ⟨by decide +kernel, by decide +kernel⟩, by decide +kernel, by decide⟩
theorem mvX5_rightBits : ab_mV yX5_rightBits := ⟨(ab_inT 1061 (by decide +kernel) (by decide +kernel)), (ab_inT 72 (by decide +kernel) (by decide +kernel))⟩
theorem miX5_fitOf : ab_mI yX5_fitOf cX5_fitOf 5 (some .int) 3 := ⟨(ab_inT 928 (by decide +kernel) (by decide +kernel)), (ab_inT 171 (by decide +kernel) (by decide +kernel)), ⟨by decide +kernel, by decide +kernel⟩, by decide +kernel, by decide⟩
theorem mvX5_fitOf : ab_mV yX5_fitOf := ⟨(ab_inT 927 (by decide +kernel) (by decide +kernel)), (ab_inT 53 (by decide +kernel) (by decide +kernel))⟩
theorem miX5_joyOf : ab_mI yX5_joyOf cX5_joyOf 3 (some .int) 2 := ⟨(ab_inT 1114 (by decide +kernel) (by decide +kernel)), (ab_inT 171 (by decide +kernel) (by decide +kernel)), ⟨by decide +kernel, by decide +kernel⟩, by decide +kernel, by decide⟩
theorem mvX5_joyOf : ab_mV yX5_joyOf := ⟨(ab_inT 1113 (by decide +kernel) (by decide +kernel)), (ab_inT 73 (by decide +kernel) (by decide +kernel))⟩
theorem miX5_fitOfAll : ab_mI yX5_fitOfAll cX5_fitOfAll 8 (some .int) 3 := ⟨(ab_inT 1118 (by decide +kernel) (by decide +kernel)), (ab_inT 171 (by decide +kernel) (by decide +kernel)), ⟨by decide +kernel, by decide +kernel⟩, by decide +kernel, by decide⟩
theorem mvX5_fitOfAll : ab_mV yX5_fitOfAll := ⟨(ab_inT 1117 (by decide +kernel) (by decide +kernel)), (ab_inT 74 (by decide +kernel) (by decide +kernel))⟩
theorem miX5_joyOfAll : ab_mI yX5_joyOfAll cX5_joyOfAll 4 (some .int) 1 := ⟨(ab_inT 1314 (by decide +kernel) (by decide +kernel)), (ab_inT 171 (by decide +kernel) (by decide +kernel)), ⟨by decide +kernel, by decide +kernel⟩, by decide +kernel, by decide⟩
theorem mvX5_joyOfAll : ab_mV yX5_joyOfAll := ⟨(ab_inT 1313 (by decide +kernel) (by decide +kernel)), (ab_inT 95 (by decide +kernel) (by decide +kernel))⟩
theorem miX5_canBuy : ab_mI yX5_canBuy cX5_canBuy 2 (some .boolean) 1 := ⟨(ab_inT 947 (by decide +kernel) (by decide +kernel)), (ab_inT 171 (by decide +kernel) (by decide +kernel)), ⟨by decide +kernel, by decide +kernel⟩, by decide +kernel, by decide⟩
theorem mvX5_canBuy : ab_mV yX5_canBuy := ⟨(ab_inT 946 (by decide +kernel) (by decide +kernel)), (ab_inT 55 (by decide +kernel) (by decide +kernel))⟩
theorem miX5_takeTicket : ab_mI yX5_takeTicket cX5_takeTicket 2 none 1 := ⟨(ab_inT 965 (by decide +kernel) (by decide +kernel)), (ab_inT 171 (by decide +kernel) (by decide +kernel)), ⟨by decide +kernel, by decide +kernel⟩, by decide +kernel, by decide⟩
theorem mvX5_takeTicket : ab_mV yX5_takeTicket := ⟨(ab_inT 964 (by decide +kernel) (by decide +kernel)), (ab_inT 58 (by decide +kernel) (by decide +kernel))⟩
theorem miX5_canTrade : ab_mI yX5_canTrade cX5_canTrade 6 (some .boolean) 3 := ⟨(ab_inT 973 (by decide +kernel) (by decide +kernel)), (ab_inT 171 (by decide +kernel) (by decide +kernel)), ⟨by decide +kernel, by decide +kernel⟩, by decide +kernel, by decide⟩
theorem mvX5_canTrade : ab_mV yX5_canTrade := ⟨(ab_inT 972 (by decide +kernel) (by decide +kernel)), (ab_inT 59 (by decide +kernel) (by decide +kernel))⟩
theorem miX5_gainsBy : ab_mI yX5_gainsBy cX5_gainsBy 6 (some .boolean) 4 := ⟨(ab_inT 978 (by decide +kernel) (by decide +kernel)), (ab_inT 171 (by decide +kernel) (by decide +kernel)), ⟨by decide +kernel, by decide +kernel⟩, by decide +kernel, by decide⟩
theorem mvX5_gainsBy : ab_mV yX5_gainsBy := ⟨(ab_inT 977 (by decide +kernel) (by decide +kernel)), (ab_inT 60 (by decide +kernel) (by decide +kernel))⟩
theorem miX5_trade : ab_mI yX5_trade cX5_trade 4 none 2 := ⟨(ab_inT 982 (by decide +kernel) (by decide +kernel)), (ab_inT 171 (by decide +kernel) (by decide +kernel)), ⟨by decide +kernel, by decide +kernel⟩, by decide +kernel, by decide⟩
theorem mvX5_trade : ab_mV yX5_trade := ⟨(ab_inT 981 (by decide +kernel) (by decide +kernel)), (ab_inT 61 (by decide +kernel) (by decide +kernel))⟩
theorem miX5_draw : ab_mI yX5_draw cX5_draw 2 (some .int) 1 := ⟨(ab_inT 1022 (by decide +kernel) (by decide +kernel)), (ab_inT 171 (by decide +kernel) (by decide +kernel)), ⟨by decide +kernel, by decide +kernel⟩, by decide +kernel, by decide⟩
theorem mvX5_draw : ab_mV yX5_draw := ⟨(ab_inT 1021 (by decide +kernel) (by decide +kernel)), (ab_inT 68 (by decide +kernel) (by decide +kernel))⟩
theorem miX5_passQuarter : ab_mI yX5_passQuarter cX5_passQuarter 5 (some .int) 1 := ⟨(ab_inT 999 (by decide +kernel) (by decide +kernel)), (ab_inT 171 (by decide +kernel) (by decide +kernel)), ⟨by decide +kernel, by decide +kernel⟩, by decide +kernel, by decide⟩
theorem mvX5_passQuarter : ab_mV yX5_passQuarter := ⟨(ab_inT 998 (by decide +kernel) (by decide +kernel)), (ab_inT 63 (by decide +kernel) (by decide +kernel))⟩
theorem miX5_raffle : ab_mI yX5_raffle cX5_raffle 5 (some .int) 1 := ⟨(ab_inT 1011 (by decide +kernel) (by decide +kernel)), (ab_inT 171 (by decide +kernel) (by decide +kernel)), ⟨by decide +kernel, by decide +kernel⟩, by decide +kernel, by decide⟩
theorem mvX5_raffle : ab_mV yX5_raffle := ⟨(ab_inT 1010 (by decide +kernel) (by decide +kernel)), (ab_inT 66 (by decide +kernel) (by decide +kernel))⟩
theorem miX5_holderOfTicket : ab_mI yX5_holderOfTicket cX5_holderOfTicket 4 (some .int) 1 := ⟨(ab_inT 1030 (by decide +kernel) (by decide +kernel)), (ab_inT 171 (by decide +kernel) (by decide +kernel)), ⟨by decide +kernel, by decide +kernel⟩, by decide +kernel, by decide⟩
theorem mvX5_holderOfTicket : ab_mV yX5_holderOfTicket := ⟨(ab_inT 1029 (by decide +kernel) (by decide +kernel)), (ab_inT 69 (by decide +kernel) (by decide +kernel))⟩
theorem miX5_settle : ab_mI yX5_settle cX5_settle 5 none 2 := ⟨(ab_inT 1034 (by decide +kernel) (by decide +kernel)), (ab_inT 171 (by decide +kernel) (by decide +kernel)), ⟨by decide +kernel, by decide +kernel⟩, by decide +kernel, by decide⟩
theorem mvX5_settle : ab_mV yX5_settle := ⟨(ab_inT 1033 (by decide +kernel) (by decide +kernel)), (ab_inT 70 (by decide +kernel) (by decide +kernel))⟩
theorem miX5_tryLuck : ab_mI yX5_tryLuck cX5_tryLuck 4 none 1 := ⟨(ab_inT 1306 (by decide +kernel) (by decide +kernel)), (ab_inT 171 (by decide +kernel) (by decide +kernel)), ⟨by decide +kernel, by decide +kernel⟩, by decide +kernel, by decide⟩
theorem mvX5_tryLuck : ab_mV yX5_tryLuck := ⟨(ab_inT 1305 (by decide +kernel) (by decide +kernel)), (ab_inT 94 (by decide +kernel) (by decide +kernel))⟩
theorem miX6_takeBytes : ab_mI yX6_takeBytes cX6_takeBytes 6 none 1 := ⟨(ab_inT 496 (by decide +kernel) (by decide +kernel)), (ab_inT 167 (by decide +kernel) (by decide +kernel)), ⟨by decide +kernel, by decide +kernel⟩, by decide +kernel, by decide⟩
theorem mvX6_takeBytes : ab_mV yX6_takeBytes := ⟨(ab_inT 495 (by decide +kernel) (by decide +kernel)), (ab_inT 0 (by decide +kernel) (by decide +kernel))⟩
theorem miX6_split : ab_mI yX6_split cX6_split 4 none 0 := ⟨(ab_inT 505 (by decide +kernel) (by decide +kernel)), (ab_inT 167 (by decide +kernel) (by decide +kernel)), ⟨by decide +kernel, by decide +kernel⟩, by decide +kernel, by decide⟩
theorem mvX6_split : ab_mV yX6_split := ⟨(ab_inT 504 (by decide +kernel) (by decide +kernel)), (ab_inT 1 (by decide +kernel) (by decide +kernel))⟩
theorem miX6_scan : ab_mI yX6_scan cX6_scan 3 (some .int) 1 := ⟨(ab_inT 513 (by decide +kernel) (by decide +kernel)), (ab_inT 167 (by decide +kernel) (by decide +kernel)), ⟨by decide +kernel, by decide +kernel⟩, by decide +kernel, by decide⟩
theorem mvX6_scan : ab_mV yX6_scan := ⟨(ab_inT 512 (by decide +kernel) (by decide +kernel)), (ab_inT 3 (by decide +kernel) (by decide +kernel))⟩
theorem miX6_scanWord : ab_mI yX6_scanWord cX6_scanWord 5 (some .int) 1 := ⟨(ab_inT 520 (by decide +kernel) (by decide +kernel)), (ab_inT 167 (by decide +kernel) (by decide +kernel)), ⟨by decide +kernel, by decide +kernel⟩, by decide +kernel, by decide⟩
theorem mvX6_scanWord : ab_mV yX6_scanWord := ⟨(ab_inT 519 (by decide +kernel) (by decide +kernel)), (ab_inT 4 (by decide +kernel) (by decide +kernel))⟩
theorem miX6_scanNumber : ab_mI yX6_scanNumber cX6_scanNumber 5 (some .int) 1 := ⟨(ab_inT 535 (by decide +kernel) (by decide +kernel)), (ab_inT 167 (by decide +kernel) (by decide +kernel)), ⟨by decide +kernel, by decide +kernel⟩, by decide +kernel, by decide⟩
theorem mvX6_scanNumber : ab_mV yX6_scanNumber := ⟨(ab_inT 534 (by decide +kernel) (by decide +kernel)), (ab_inT 6 (by decide +kernel) (by decide +kernel))⟩
theorem miX6_add : ab_mI yX6_add cX6_add 5 none 3 := ⟨(ab_inT 528 (by decide +kernel) (by decide +kernel)), (ab_inT 167 (by decide +kernel) (by decide +kernel)), ⟨by decide +kernel, by decide +kernel⟩, by decide +kernel, by decide⟩
theorem mvX6_add : ab_mV yX6_add := ⟨(ab_inT 527 (by decide +kernel) (by decide +kernel)), (ab_inT 5 (by decide +kernel) (by decide +kernel))⟩
theorem miX6_signAt : ab_mI yX6_signAt cX6_signAt 2 (some .char) 1 := ⟨(ab_inT 509 (by decide +kernel) (by decide +kernel)), (ab_inT 167 (by decide +kernel) (by decide +kernel)), ⟨by decide +kernel, by decide +kernel⟩, by decide +kernel, by decide⟩
theorem mvX6_signAt : ab_mV yX6_signAt := ⟨(ab_inT 508 (by decide +kernel) (by decide +kernel)), (ab_inT 2 (by decide +kernel) (by decide +kernel))⟩
theorem miX6_isLetter : ab_mI yX6_isLetter cX6_isLetter 1 (some .boolean) 1 := ⟨(ab_inT 516 (by decide +kernel) (by decide +kernel)), (ab_inT 167 (by decide +kernel) (by decide +kernel)), ⟨by decide +kernel, by decide +kernel⟩, by decide +kernel, by decide⟩
theorem msX6_isLetter : ab_mS yX6_isLetter := (ab_inT 515 (by decide +kernel) (by decide +kernel))
theorem miX6_isDigit : ab_mI yX6_isDigit cX6_isDigit 1 (some .boolean) 1 := ⟨(ab_inT 531 (by decide +kernel) (by decide +kernel)), (ab_inT 167 (by decide +kernel) (by decide +kernel)), ⟨by decide +kernel, by decide +kernel⟩, by decide +kernel, by decide⟩
theorem msX6_isDigit : ab_mS yX6_isDigit := (ab_inT 530 (by decide +kernel) (by decide +kernel))
theorem miX6_step : ab_mI yX6_step cX6_step 2 none 0 := ⟨(ab_inT 628 (by decide +kernel) (by decide +kernel)), (ab_inT 167 (by decide +kernel) (by decide +kernel)), ⟨by decide +kernel, by decide +kernel⟩, by decide +kernel, by decide⟩
theorem mvX6_step : ab_mV yX6_step := ⟨(ab_inT 627 (by decide +kernel) (by decide +kernel)), (ab_inT 7 (by decide +kernel) (by decide +kernel))⟩
theorem miX6_isWord : ab_mI yX6_isWord cX6_isWord 2 (some .boolean) 1 := ⟨(ab_inT 654 (by decide +kernel) (by decide +kernel)), (ab_inT 167 (by decide +kernel) (by decide +kernel)), ⟨by decide +kernel, by decide +kernel⟩, by decide +kernel, by decide⟩
theorem mvX6_isWord : ab_mV yX6_isWord := ⟨(ab_inT 653 (by decide +kernel) (by decide +kernel)), (ab_inT 13 (by decide +kernel) (by decide +kernel))⟩
theorem miX6_isSign : ab_mI yX6_isSign cX6_isSign 2 (some .boolean) 1 := ⟨(ab_inT 707 (by decide +kernel) (by decide +kernel)), (ab_inT 167 (by decide +kernel) (by decide +kernel)), ⟨by decide +kernel, by decide +kernel⟩, by decide +kernel, by decide⟩
theorem mvX6_isSign : ab_mV yX6_isSign := ⟨(ab_inT 706 (by decide +kernel) (by decide +kernel)), (ab_inT 21 (by decide +kernel) (by decide +kernel))⟩
theorem miX6_isName : ab_mI yX6_isName cX6_isName 5 (some .boolean) 0 := ⟨(ab_inT 671 (by decide +kernel) (by decide +kernel)), (ab_inT 167 (by decide +kernel) (by decide +kernel)), ⟨by decide +kernel, by decide +kernel⟩, by decide +kernel, by decide⟩
theorem mvX6_isName : ab_mV yX6_isName := ⟨(ab_inT 670 (by decide +kernel) (by decide +kernel)), (ab_inT 17 (by decide +kernel) (by decide +kernel))⟩
theorem miX6_fail : ab_mI yX6_fail cX6_fail 2 (some .boolean) 1 := ⟨(ab_inT 662 (by decide +kernel) (by decide +kernel)), (ab_inT 167 (by decide +kernel) (by decide +kernel)), ⟨by decide +kernel, by decide +kernel⟩, by decide +kernel, by decide⟩
theorem mvX6_fail : ab_mV yX6_fail := ⟨(ab_inT 661 (by decide +kernel) (by decide +kernel)), (ab_inT 15 (by decide +kernel) (by decide +kernel))⟩
theorem miX6_takeWord : ab_mI yX6_takeWord cX6_takeWord 2 (some .boolean) 1 := ⟨(ab_inT 693 (by decide +kernel) (by decide +kernel)), (ab_inT 167 (by decide +kernel) (by decide +kernel)), ⟨by decide +kernel, by decide +kernel⟩, by decide +kernel, by decide⟩
theorem mvX6_takeWord : ab_mV yX6_takeWord := ⟨(ab_inT 692 (by decide +kernel) (by decide +kernel)), (ab_inT 18 (by decide +kernel) (by decide +kernel))⟩
theorem miX6_takeEnd : ab_mI yX6_takeEnd cX6_takeEnd 1 (some .boolean) 0 := ⟨(ab_inT 703 (by decide +kernel) (by decide +kernel)), (ab_inT 167 (by decide +kernel) (by decide +kernel)), ⟨by decide +kernel, by decide +kernel⟩, by decide +kernel, by decide⟩
theorem mvX6_takeEnd : ab_mV yX6_takeEnd := ⟨(ab_inT 702 (by decide +kernel) (by decide +kernel)), (ab_inT 20 (by decide +kernel) (by decide +kernel))⟩
theorem miX6_takeNumber : ab_mI yX6_takeNumber cX6_takeNumber 4 (some .int) 2 := ⟨(ab_inT 699 (by decide +kernel) (by decide +kernel)), (ab_inT 167 (by decide +kernel) (by decide +kernel)), ⟨by decide +kernel, by decide +kernel⟩, by decide +kernel, by decide⟩
theorem mvX6_takeNumber : ab_mV yX6_takeNumber := ⟨(ab_inT 698 (by decide +kernel) (by decide +kernel)), (ab_inT 19 (by decide +kernel) (by decide +kernel))⟩
theorem miX6_takeToldName : ab_mI yX6_takeToldName cX6_takeToldName 4 (some .int) 2 := ⟨(ab_inT 728 (by decide +kernel) (by decide +kernel)), (ab_inT 167 (by decide +kernel) (by decide +kernel)), ⟨by decide +kernel, by decide +kernel⟩, by decide +kernel, by decide⟩
theorem mvX6_takeToldName : ab_mV yX6_takeToldName := ⟨(ab_inT 727 (by decide +kernel) (by decide +kernel)), (ab_inT 24 (by decide +kernel) (by decide +kernel))⟩
theorem miX8_readLines : ab_mI yX8_readLines cX8_readLines 4 (some .int) 2 := ⟨(ab_inT 855 (by decide +kernel) (by decide +kernel)), (ab_inT 170 (by decide +kernel) (by decide +kernel)), ⟨by decide +kernel, by decide +kernel⟩, by decide +kernel, by decide⟩
theorem mvX8_readLines : ab_mV yX8_readLines := ⟨(ab_inT 854 (by decide +kernel) (by decide +kernel)), (ab_inT 43 (by decide +kernel) (by decide +kernel))⟩
theorem miX8_readLine : ab_mI yX8_readLine cX8_readLine 4 (some .boolean) 2 := ⟨(ab_inT 859 (by decide +kernel) (by decide +kernel)), (ab_inT 170 (by decide +kernel) (by decide +kernel)), ⟨by decide +kernel, by decide +kernel⟩, by decide +kernel, by decide⟩
theorem mvX8_readLine : ab_mV yX8_readLine := ⟨(ab_inT 858 (by decide +kernel) (by decide +kernel)), (ab_inT 44 (by decide +kernel) (by decide +kernel))⟩
theorem miX8_deedAt : ab_mI yX8_deedAt cX8_deedAt 1 (some .int) 1 := ⟨(ab_inT 862 (by decide +kernel) (by decide +kernel)), (ab_inT 170 (by decide +kernel) (by decide +kernel)), ⟨by decide +kernel, by decide +kernel⟩, by decide +kernel, by decide⟩
theorem msX8_deedAt : ab_mS yX8_deedAt := (ab_inT 861 (by decide +kernel) (by decide +kernel))
theorem miX8_readNames : ab_mI yX8_readNames cX8_readNames 7 (some .boolean) 3 := ⟨(ab_inT 878 (by decide +kernel) (by decide +kernel)), (ab_inT 170 (by decide +kernel) (by decide +kernel)), ⟨by decide +kernel, by decide +kernel⟩, by decide +kernel, by decide⟩
theorem mvX8_readNames : ab_mV yX8_readNames := ⟨(ab_inT 877 (by decide +kernel) (by decide +kernel)), (ab_inT 45 (by decide +kernel) (by decide +kernel))⟩
theorem miX8_doLine : ab_mI yX8_doLine cX8_doLine 7 (some .boolean) 3 := ⟨(ab_inT 1050 (by decide +kernel) (by decide +kernel)), (ab_inT 170 (by decide +kernel) (by decide +kernel)), ⟨by decide +kernel, by decide +kernel⟩, by decide +kernel, by decide⟩
theorem mvX8_doLine : ab_mV yX8_doLine := ⟨(ab_inT 1049 (by decide +kernel) (by decide +kernel)), (ab_inT 71 (by decide +kernel) (by decide +kernel))⟩
theorem miJ6_bitCount_0f7a4 : ab_mI yJ6_bitCount_0f7a4 cJ6_bitCount_0f7a4 1 (some .int) 1 := ⟨(ab_inT 932 (by decide +kernel) (by decide +kernel)), (ab_inT 184 (by decide +kernel) (by decide +kernel)), ⟨by decide +kernel, by decide +kernel⟩, by decide +kernel, by decide⟩
theorem msJ6_bitCount_0f7a4 : ab_mS yJ6_bitCount_0f7a4 := (ab_inT 931 (by decide +kernel) (by decide +kernel))
theorem miJ9_max_7cf53 : ab_mI yJ9_max_7cf53 cJ9_max_7cf53 2 (some .int) 2 := ⟨(ab_inT 568 (by decide +kernel) (by decide +kernel)), (ab_inT 178 (by decide +kernel) (by decide +kernel)), ⟨by decide +kernel, by decide +kernel⟩, by decide +kernel, by decide⟩
theorem msJ9_max_7cf53 : ab_mS yJ9_max_7cf53 := (ab_inT 567 (by decide +kernel) (by decide +kernel))
theorem miJ9_min_7cf53 : ab_mI yJ9_min_7cf53 cJ9_min_7cf53 2 (some .int) 2 := ⟨(ab_inT 571 (by decide +kernel) (by decide +kernel)), (ab_inT 178 (by decide +kernel) (by decide +kernel)), ⟨by decide +kernel, by decide +kernel⟩, by decide +kernel, by decide⟩
theorem msJ9_min_7cf53 : ab_mS yJ9_min_7cf53 := (ab_inT 570 (by decide +kernel) (by decide +kernel))
theorem miJ0_checkBoundsBeginEnd_23922 : ab_mI yJ0_checkBoundsBeginEnd_23922 cJ0_checkBoundsBeginEnd_23922 3 none 3 := ⟨(ab_inT 592 (by decide +kernel) (by decide +kernel)), (ab_inT 176 (by decide +kernel) (by decide +kernel)), ⟨by decide +kernel, by decide +kernel⟩, by decide +kernel, by decide⟩
theorem msJ0_checkBoundsBeginEnd_23922 : ab_mS yJ0_checkBoundsBeginEnd_23922 := (ab_inT 591 (by decide +kernel) (by decide +kernel))
theorem miJ0_coder_7d493 : ab_mI yJ0_coder_7d493 cJ0_coder_7d493 1 (some .byte) 0 := ⟨(ab_inT 559 (by decide +kernel) (by decide +kernel)), (ab_inT 176 (by decide +kernel) (by decide +kernel)), ⟨by decide +kernel, by decide +kernel⟩, by decide +kernel, by decide⟩
theorem mvJ0_coder_7d493 : ab_mV yJ0_coder_7d493 := ⟨(ab_inT 557 (by decide +kernel) (by decide +kernel)), (ab_inT 558 (by decide +kernel) (by decide +kernel))⟩
theorem miJ0_indexOf_0f7a4 : ab_mI yJ0_indexOf_0f7a4 cJ0_indexOf_0f7a4 2 (some .int) 1 := ⟨(ab_inT 541 (by decide +kernel) (by decide +kernel)), (ab_inT 176 (by decide +kernel) (by decide +kernel)), ⟨by decide +kernel, by decide +kernel⟩, by decide +kernel, by decide⟩
theorem mvJ0_indexOf_0f7a4 : ab_mV yJ0_indexOf_0f7a4 := ⟨(ab_inT 539 (by decide +kernel) (by decide +kernel)), (ab_inT 540 (by decide +kernel) (by decide +kernel))⟩
theorem miJ0_indexOf_7cf53 : ab_mI yJ0_indexOf_7cf53 cJ0_indexOf_7cf53 3 (some .int) 2 := ⟨(ab_inT 545 (by decide +kernel) (by decide +kernel)), (ab_inT 176 (by decide +kernel) (by decide +kernel)), ⟨by decide +kernel, by decide +kernel⟩, by decide +kernel, by decide⟩
theorem mvJ0_indexOf_7cf53 : ab_mV yJ0_indexOf_7cf53 := ⟨(ab_inT 543 (by decide +kernel) (by decide +kernel)), (ab_inT 544 (by decide +kernel) (by decide +kernel))⟩
theorem miJ0_isLatin1_aae02 : ab_mI yJ0_isLatin1_aae02 cJ0_isLatin1_aae02 1 (some .boolean) 0 := ⟨(ab_inT 549 (by decide +kernel) (by decide +kernel)), (ab_inT 176 (by decide +kernel) (by decide +kernel)), ⟨by decide +kernel, by decide +kernel⟩, by decide +kernel, by decide⟩
theorem mvJ0_isLatin1_aae02 : ab_mV yJ0_isLatin1_aae02 := ⟨(ab_inT 547 (by decide +kernel) (by decide +kernel)), (ab_inT 548 (by decide +kernel) (by decide +kernel))⟩
theorem miJ0_length_8abf5 : ab_mI yJ0_length_8abf5 cJ0_length_8abf5 1 (some .int) 0 := ⟨(ab_inT 555 (by decide +kernel) (by decide +kernel)), (ab_inT 176 (by decide +kernel) (by decide +kernel)), ⟨by decide +kernel, by decide +kernel⟩, by decide +kernel, by decide⟩
theorem mvJ0_length_8abf5 : ab_mV yJ0_length_8abf5 := ⟨(ab_inT 553 (by decide +kernel) (by decide +kernel)), (ab_inT 554 (by decide +kernel) (by decide +kernel))⟩
theorem miJ1_canEncode_9a6ad : ab_mI yJ1_canEncode_9a6ad cJ1_canEncode_9a6ad 1 (some .boolean) 1 := ⟨(ab_inT 565 (by decide +kernel) (by decide +kernel)), (ab_inT 177 (by decide +kernel) (by decide +kernel)), ⟨by decide +kernel, by decide +kernel⟩, by decide +kernel, by decide⟩
theorem msJ1_canEncode_9a6ad : ab_mS yJ1_canEncode_9a6ad := (ab_inT 564 (by decide +kernel) (by decide +kernel))
theorem miJ1_indexOf_4cfef : ab_mI yJ1_indexOf_4cfef cJ1_indexOf_4cfef 4 (some .int) 4 := ⟨(ab_inT 562 (by decide +kernel) (by decide +kernel)), (ab_inT 177 (by decide +kernel) (by decide +kernel)), ⟨by decide +kernel, by decide +kernel⟩, by decide +kernel, by decide⟩
theorem msJ1_indexOf_4cfef : ab_mS yJ1_indexOf_4cfef := (ab_inT 561 (by decide +kernel) (by decide +kernel))
theorem miJ1_indexOfChar_4cfef : ab_mI yJ1_indexOfChar_4cfef cJ1_indexOfChar_4cfef 6 (some .int) 4 := ⟨(ab_inT 574 (by decide +kernel) (by decide +kernel)), (ab_inT 177 (by decide +kernel) (by decide +kernel)), ⟨by decide +kernel, by decide +kernel⟩, by decide +kernel, by decide⟩
theorem msJ1_indexOfChar_4cfef : ab_mS yJ1_indexOfChar_4cfef := (ab_inT 573 (by decide +kernel) (by decide +kernel))
theorem lk10_21 : ab_lp 10 21 yX9_feed ∨ ab_ln' 10 21 yX9_feed := Or.inl (ab_inT 489 (by decide +kernel) (by decide +kernel))
theorem lk8_82 : ab_lp 8 82 yX6_takeBytes ∨ ab_ln' 8 82 yX6_takeBytes := Or.inr (List.mem_of_getElem? (i := 493) (by decide +kernel))
theorem lk10_26 : ab_lp 10 26 yX9_office ∨ ab_ln' 10 26 yX9_office := Or.inl (ab_inT 498 (by decide +kernel) (by decide +kernel))
theorem lk8_90 : ab_lp 8 90 yX6_split ∨ ab_ln' 8 90 yX6_split := Or.inr (List.mem_of_getElem? (i := 502) (by decide +kernel))
theorem lk6_38 : ab_lp 6 38 yX6_signAt ∨ ab_ln' 6 38 yX6_signAt := Or.inl (ab_inT 506 (by decide +kernel) (by decide +kernel))
theorem lk6_42 : ab_lp 6 42 yX6_scan ∨ ab_ln' 6 42 yX6_scan := Or.inl (ab_inT 510 (by decide +kernel) (by decide +kernel))
theorem lk6_62 : ab_lp 6 62 yX6_isLetter ∨ ab_ln' 6 62 yX6_isLetter := Or.inl (ab_inT 514 (by decide +kernel) (by decide +kernel))
theorem lk6_66 : ab_lp 6 66 yX6_scanWord ∨ ab_ln' 6 66 yX6_scanWord := Or.inl (ab_inT 517 (by decide +kernel) (by decide +kernel))
theorem lk6_82 : ab_lp 6 82 yX9_spell ∨ ab_ln' 6 82 yX9_spell := Or.inr (List.mem_of_getElem? (i := 521) (by decide +kernel))
theorem lk6_52 : ab_lp 6 52 yX6_add ∨ ab_ln' 6 52 yX6_add := Or.inl (ab_inT 525 (by decide +kernel) (by decide +kernel))
theorem lk6_69 : ab_lp 6 69 yX6_isDigit ∨ ab_ln' 6 69 yX6_isDigit := Or.inl (ab_inT 529 (by decide +kernel) (by decide +kernel))
theorem lk6_72 : ab_lp 6 72 yX6_scanNumber ∨ ab_ln' 6 72 yX6_scanNumber := Or.inl (ab_inT 532 (by decide +kernel) (by decide +kernel))
theorem lk6_77 : ab_lp 6 77 yJ0_indexOf_0f7a4 ∨ ab_ln' 6 77 yJ0_indexOf_0f7a4 := Or.inl (ab_inT 538 (by decide +kernel) (by decide +kernel))
theorem lk13_633 : ab_lp 13 633 yJ0_indexOf_7cf53 ∨ ab_ln' 13 633 yJ0_indexOf_7cf53 := Or.inl (ab_inT 542 (by decide +kernel) (by decide +kernel))
theorem lk13_492 : ab_lp 13 492 yJ0_isLatin1_aae02 ∨ ab_ln' 13 492 yJ0_isLatin1_aae02 := Or.inl (ab_inT 546 (by decide +kernel) (by decide +kernel))
theorem lk13_505 : ab_lp 13 505 yJ0_length_8abf5 ∨ ab_ln' 13 505 yJ0_length_8abf5 := Or.inl (ab_inT 552 (by decide +kernel) (by decide +kernel))
theorem lk13_335 : ab_lp 13 335 yJ0_coder_7d493 ∨ ab_ln' 13 335 yJ0_coder_7d493 := Or.inl (ab_inT 556 (by decide +kernel) (by decide +kernel))
theorem lk13_637 : ab_lp 13 637 yJ1_indexOf_4cfef ∨ ab_ln' 13 637 yJ1_indexOf_4cfef := Or.inl (ab_inT 560 (by decide +kernel) (by decide +kernel))
theorem lk14_88 : ab_lp 14 88 yJ1_canEncode_9a6ad ∨ ab_ln' 14 88 yJ1_canEncode_9a6ad := Or.inl (ab_inT 563 (by decide +kernel) (by decide +kernel))
theorem lk14_92 : ab_lp 14 92 yJ9_max_7cf53 ∨ ab_ln' 14 92 yJ9_max_7cf53 := Or.inl (ab_inT 566 (by decide +kernel) (by decide +kernel))
theorem lk14_38 : ab_lp 14 38 yJ9_min_7cf53 ∨ ab_ln' 14 38 yJ9_min_7cf53 := Or.inl (ab_inT 569 (by decide +kernel) (by decide +kernel))
theorem lk14_95 : ab_lp 14 95 yJ1_indexOfChar_4cfef ∨ ab_ln' 14 95 yJ1_indexOfChar_4cfef := Or.inl (ab_inT 572 (by decide +kernel) (by decide +kernel))
theorem lk13_640 : ab_lp 13 640 yJ2_indexOf_4cfef ∨ ab_ln' 13 640 yJ2_indexOf_4cfef := Or.inl (ab_inT 575 (by decide +kernel) (by decide +kernel))
theorem lk13_1062 : ab_lp 13 1062 yJ3_checkFromToIndex_8c36e ∨ ab_ln' 13 1062 yJ3_checkFromToIndex_8c36e := Or.inl (ab_inT 595 (by decide +kernel) (by decide +kernel))
theorem lk6_46 : ab_lp 6 46 yJ9_max_7cf53 ∨ ab_ln' 6 46 yJ9_max_7cf53 := Or.inl (ab_inT 624 (by decide +kernel) (by decide +kernel))
theorem lk6_59 : ab_lp 6 59 yX6_step ∨ ab_ln' 6 59 yX6_step := Or.inl (ab_inT 625 (by decide +kernel) (by decide +kernel))
theorem lk8_93 : ab_lp 8 93 yX2_readLines ∨ ab_ln' 8 93 yX2_readLines := Or.inr (List.mem_of_getElem? (i := 629) (by decide +kernel))
theorem lk2_44 : ab_lp 2 44 yX2_clear ∨ ab_ln' 2 44 yX2_clear := Or.inl (ab_inT 633 (by decide +kernel) (by decide +kernel))
theorem lk2_79 : ab_lp 2 79 yX1_setUsual ∨ ab_ln' 2 79 yX1_setUsual := Or.inr (List.mem_of_getElem? (i := 637) (by decide +kernel))
theorem lk1_22 : ab_lp 1 22 yX1_add ∨ ab_ln' 1 22 yX1_add := Or.inl (ab_inT 641 (by decide +kernel) (by decide +kernel))
theorem lk2_53 : ab_lp 2 53 yX2_readLine ∨ ab_ln' 2 53 yX2_readLine := Or.inl (ab_inT 645 (by decide +kernel) (by decide +kernel))
theorem lk2_88 : ab_lp 2 88 yX6_isWord ∨ ab_ln' 2 88 yX6_isWord := Or.inr (List.mem_of_getElem? (i := 651) (by decide +kernel))
theorem lk2_92 : ab_lp 2 92 yX2_readPerson ∨ ab_ln' 2 92 yX2_readPerson := Or.inl (ab_inT 655 (by decide +kernel) (by decide +kernel))
theorem lk2_119 : ab_lp 2 119 yX6_fail ∨ ab_ln' 2 119 yX6_fail := Or.inr (List.mem_of_getElem? (i := 659) (by decide +kernel))
theorem lk2_123 : ab_lp 2 123 yX6_step ∨ ab_ln' 2 123 yX6_step := Or.inr (List.mem_of_getElem? (i := 663) (by decide +kernel))
theorem lk2_126 : ab_lp 2 126 yX2_isNewName ∨ ab_ln' 2 126 yX2_isNewName := Or.inl (ab_inT 664 (by decide +kernel) (by decide +kernel))
theorem lk2_172 : ab_lp 2 172 yX6_isName ∨ ab_ln' 2 172 yX6_isName := Or.inr (List.mem_of_getElem? (i := 668) (by decide +kernel))
theorem lk2_175 : ab_lp 2 175 yX9_indexOf ∨ ab_ln' 2 175 yX9_indexOf := Or.inr (List.mem_of_getElem? (i := 674) (by decide +kernel))
theorem lk2_133 : ab_lp 2 133 yX2_kindAt ∨ ab_ln' 2 133 yX2_kindAt := Or.inl (ab_inT 677 (by decide +kernel) (by decide +kernel))
theorem lk2_140 : ab_lp 2 140 yX6_takeWord ∨ ab_ln' 2 140 yX6_takeWord := Or.inr (List.mem_of_getElem? (i := 690) (by decide +kernel))
theorem lk6_111 : ab_lp 6 111 yX6_isWord ∨ ab_ln' 6 111 yX6_isWord := Or.inl (ab_inT 694 (by decide +kernel) (by decide +kernel))
theorem lk6_115 : ab_lp 6 115 yX6_fail ∨ ab_ln' 6 115 yX6_fail := Or.inl (ab_inT 695 (by decide +kernel) (by decide +kernel))
theorem lk2_143 : ab_lp 2 143 yX6_takeNumber ∨ ab_ln' 2 143 yX6_takeNumber := Or.inr (List.mem_of_getElem? (i := 696) (by decide +kernel))
theorem lk2_147 : ab_lp 2 147 yX6_takeEnd ∨ ab_ln' 2 147 yX6_takeEnd := Or.inr (List.mem_of_getElem? (i := 700) (by decide +kernel))
theorem lk6_119 : ab_lp 6 119 yX6_isSign ∨ ab_ln' 6 119 yX6_isSign := Or.inl (ab_inT 704 (by decide +kernel) (by decide +kernel))
theorem lk2_151 : ab_lp 2 151 yX2_addPerson ∨ ab_ln' 2 151 yX2_addPerson := Or.inl (ab_inT 708 (by decide +kernel) (by decide +kernel))
theorem lk2_155 : ab_lp 2 155 yX9_put ∨ ab_ln' 2 155 yX9_put := Or.inr (List.mem_of_getElem? (i := 712) (by decide +kernel))
theorem lk2_98 : ab_lp 2 98 yX2_readGood ∨ ab_ln' 2 98 yX2_readGood := Or.inl (ab_inT 717 (by decide +kernel) (by decide +kernel))
theorem lk2_165 : ab_lp 2 165 yX6_takeToldName ∨ ab_ln' 2 165 yX6_takeToldName := Or.inr (List.mem_of_getElem? (i := 725) (by decide +kernel))
theorem lk6_122 : ab_lp 6 122 yX6_isName ∨ ab_ln' 6 122 yX6_isName := Or.inl (ab_inT 729 (by decide +kernel) (by decide +kernel))
theorem lk6_126 : ab_lp 6 126 yX9_indexOf ∨ ab_ln' 6 126 yX9_indexOf := Or.inr (List.mem_of_getElem? (i := 730) (by decide +kernel))
theorem lk2_169 : ab_lp 2 169 yX2_addGood ∨ ab_ln' 2 169 yX2_addGood := Or.inl (ab_inT 731 (by decide +kernel) (by decide +kernel))
theorem lk2_104 : ab_lp 2 104 yX2_readLikes ∨ ab_ln' 2 104 yX2_readLikes := Or.inl (ab_inT 737 (by decide +kernel) (by decide +kernel))
theorem lk2_191 : ab_lp 2 191 yX2_likeOf ∨ ab_ln' 2 191 yX2_likeOf := Or.inl (ab_inT 741 (by decide +kernel) (by decide +kernel))
theorem lk2_224 : ab_lp 2 224 yX9_at ∨ ab_ln' 2 224 yX9_at := Or.inr (List.mem_of_getElem? (i := 745) (by decide +kernel))
theorem lk2_110 : ab_lp 2 110 yX2_readSeed ∨ ab_ln' 2 110 yX2_readSeed := Or.inl (ab_inT 750 (by decide +kernel) (by decide +kernel))
theorem lk2_116 : ab_lp 2 116 yX2_readFits ∨ ab_ln' 2 116 yX2_readFits := Or.inl (ab_inT 756 (by decide +kernel) (by decide +kernel))
theorem lk2_197 : ab_lp 2 197 yX1_readLevel ∨ ab_ln' 2 197 yX1_readLevel := Or.inr (List.mem_of_getElem? (i := 760) (by decide +kernel))
theorem lk1_26 : ab_lp 1 26 yX1_readPart ∨ ab_ln' 1 26 yX1_readPart := Or.inl (ab_inT 764 (by decide +kernel) (by decide +kernel))
theorem lk1_49 : ab_lp 1 49 yX6_isWord ∨ ab_ln' 1 49 yX6_isWord := Or.inr (List.mem_of_getElem? (i := 770) (by decide +kernel))
theorem lk1_56 : ab_lp 1 56 yX6_isSign ∨ ab_ln' 1 56 yX6_isSign := Or.inr (List.mem_of_getElem? (i := 771) (by decide +kernel))
theorem lk1_66 : ab_lp 1 66 yX1_factAt ∨ ab_ln' 1 66 yX1_factAt := Or.inl (ab_inT 772 (by decide +kernel) (by decide +kernel))
theorem lk1_70 : ab_lp 1 70 yX6_fail ∨ ab_ln' 1 70 yX6_fail := Or.inr (List.mem_of_getElem? (i := 783) (by decide +kernel))
theorem lk1_38 : ab_lp 1 38 yX6_step ∨ ab_ln' 1 38 yX6_step := Or.inr (List.mem_of_getElem? (i := 784) (by decide +kernel))
theorem lk1_78 : ab_lp 1 78 yX1_readNot ∨ ab_ln' 1 78 yX1_readNot := Or.inl (ab_inT 785 (by decide +kernel) (by decide +kernel))
theorem lk1_81 : ab_lp 1 81 yX1_readBrackets ∨ ab_ln' 1 81 yX1_readBrackets := Or.inl (ab_inT 789 (by decide +kernel) (by decide +kernel))
theorem lk1_30 : ab_lp 1 30 yX1_readLevel ∨ ab_ln' 1 30 yX1_readLevel := Or.inl (ab_inT 793 (by decide +kernel) (by decide +kernel))
theorem lk1_34 : ab_lp 1 34 yX1_operatorAt ∨ ab_ln' 1 34 yX1_operatorAt := Or.inl (ab_inT 794 (by decide +kernel) (by decide +kernel))
theorem lk2_60 : ab_lp 2 60 yX2_workOutFits ∨ ab_ln' 2 60 yX2_workOutFits := Or.inl (ab_inT 801 (by decide +kernel) (by decide +kernel))
theorem lk2_201 : ab_lp 2 201 yX2_ownerOf ∨ ab_ln' 2 201 yX2_ownerOf := Or.inl (ab_inT 805 (by decide +kernel) (by decide +kernel))
theorem lk2_205 : ab_lp 2 205 yX2_worthOf ∨ ab_ln' 2 205 yX2_worthOf := Or.inl (ab_inT 809 (by decide +kernel) (by decide +kernel))
theorem lk2_208 : ab_lp 2 208 yX1_work ∨ ab_ln' 2 208 yX1_work := Or.inr (List.mem_of_getElem? (i := 813) (by decide +kernel))
theorem lk1_99 : ab_lp 1 99 yX1_push ∨ ab_ln' 1 99 yX1_push := Or.inl (ab_inT 817 (by decide +kernel) (by decide +kernel))
theorem lk1_102 : ab_lp 1 102 yX1_pop ∨ ab_ln' 1 102 yX1_pop := Or.inl (ab_inT 821 (by decide +kernel) (by decide +kernel))
theorem lk1_106 : ab_lp 1 106 yX1_pushOrJoin ∨ ab_ln' 1 106 yX1_pushOrJoin := Or.inl (ab_inT 825 (by decide +kernel) (by decide +kernel))
theorem lk1_109 : ab_lp 1 109 yX1_join ∨ ab_ln' 1 109 yX1_join := Or.inl (ab_inT 829 (by decide +kernel) (by decide +kernel))
theorem lk2_212 : ab_lp 2 212 yX2_fitIndex ∨ ab_ln' 2 212 yX2_fitIndex := Or.inl (ab_inT 832 (by decide +kernel) (by decide +kernel))
theorem lk2_216 : ab_lp 2 216 yJ9_min_7cf53 ∨ ab_ln' 2 216 yJ9_min_7cf53 := Or.inl (ab_inT 835 (by decide +kernel) (by decide +kernel))
theorem lk2_221 : ab_lp 2 221 yJ9_max_7cf53 ∨ ab_ln' 2 221 yJ9_max_7cf53 := Or.inl (ab_inT 836 (by decide +kernel) (by decide +kernel))
theorem lk8_97 : ab_lp 8 97 yX9_openOffice ∨ ab_ln' 8 97 yX9_openOffice := Or.inl (ab_inT 837 (by decide +kernel) (by decide +kernel))
theorem lk8_100 : ab_lp 8 100 yX5_startOf ∨ ab_ln' 8 100 yX5_startOf := Or.inr (List.mem_of_getElem? (i := 841) (by decide +kernel))
theorem lk5_21 : ab_lp 5 21 yX9_put ∨ ab_ln' 5 21 yX9_put := Or.inr (List.mem_of_getElem? (i := 845) (by decide +kernel))
theorem lk5_34 : ab_lp 5 34 yX9_at ∨ ab_ln' 5 34 yX9_at := Or.inr (List.mem_of_getElem? (i := 846) (by decide +kernel))
theorem lk10_31 : ab_lp 10 31 yX9_year ∨ ab_ln' 10 31 yX9_year := Or.inl (ab_inT 848 (by decide +kernel) (by decide +kernel))
theorem lk8_117 : ab_lp 8 117 yX8_readLines ∨ ab_ln' 8 117 yX8_readLines := Or.inr (List.mem_of_getElem? (i := 852) (by decide +kernel))
theorem lk7_30 : ab_lp 7 30 yX8_readLine ∨ ab_ln' 7 30 yX8_readLine := Or.inl (ab_inT 856 (by decide +kernel) (by decide +kernel))
theorem lk7_37 : ab_lp 7 37 yX8_deedAt ∨ ab_ln' 7 37 yX8_deedAt := Or.inl (ab_inT 860 (by decide +kernel) (by decide +kernel))
theorem lk7_66 : ab_lp 7 66 yX6_isWord ∨ ab_ln' 7 66 yX6_isWord := Or.inr (List.mem_of_getElem? (i := 865) (by decide +kernel))
theorem lk7_41 : ab_lp 7 41 yX6_fail ∨ ab_ln' 7 41 yX6_fail := Or.inr (List.mem_of_getElem? (i := 872) (by decide +kernel))
theorem lk7_45 : ab_lp 7 45 yX6_step ∨ ab_ln' 7 45 yX6_step := Or.inr (List.mem_of_getElem? (i := 873) (by decide +kernel))
theorem lk7_48 : ab_lp 7 48 yX9_put ∨ ab_ln' 7 48 yX9_put := Or.inr (List.mem_of_getElem? (i := 874) (by decide +kernel))
theorem lk7_52 : ab_lp 7 52 yX8_readNames ∨ ab_ln' 7 52 yX8_readNames := Or.inl (ab_inT 875 (by decide +kernel) (by decide +kernel))
theorem lk7_88 : ab_lp 7 88 yX6_takeToldName ∨ ab_ln' 7 88 yX6_takeToldName := Or.inr (List.mem_of_getElem? (i := 879) (by decide +kernel))
theorem lk7_98 : ab_lp 7 98 yX6_isName ∨ ab_ln' 7 98 yX6_isName := Or.inr (List.mem_of_getElem? (i := 880) (by decide +kernel))
theorem lk7_105 : ab_lp 7 105 yX9_indexOf ∨ ab_ln' 7 105 yX9_indexOf := Or.inr (List.mem_of_getElem? (i := 881) (by decide +kernel))
theorem lk7_56 : ab_lp 7 56 yX6_takeEnd ∨ ab_ln' 7 56 yX6_takeEnd := Or.inr (List.mem_of_getElem? (i := 882) (by decide +kernel))
theorem lk10_35 : ab_lp 10 35 yX9_person ∨ ab_ln' 10 35 yX9_person := Or.inl (ab_inT 883 (by decide +kernel) (by decide +kernel))
theorem lk8_120 : ab_lp 8 120 yX2_hasPerson ∨ ab_ln' 8 120 yX2_hasPerson := Or.inr (List.mem_of_getElem? (i := 887) (by decide +kernel))
theorem lk8_124 : ab_lp 8 124 yX2_kindOf ∨ ab_ln' 8 124 yX2_kindOf := Or.inr (List.mem_of_getElem? (i := 891) (by decide +kernel))
theorem lk8_128 : ab_lp 8 128 yX5_shillingsOf ∨ ab_ln' 8 128 yX5_shillingsOf := Or.inr (List.mem_of_getElem? (i := 895) (by decide +kernel))
theorem lk8_131 : ab_lp 8 131 yX5_ticketsOf ∨ ab_ln' 8 131 yX5_ticketsOf := Or.inr (List.mem_of_getElem? (i := 899) (by decide +kernel))
theorem lk8_134 : ab_lp 8 134 yX5_bitsOf ∨ ab_ln' 8 134 yX5_bitsOf := Or.inr (List.mem_of_getElem? (i := 903) (by decide +kernel))
theorem lk10_40 : ab_lp 10 40 yX9_good ∨ ab_ln' 10 40 yX9_good := Or.inl (ab_inT 907 (by decide +kernel) (by decide +kernel))
theorem lk8_137 : ab_lp 8 137 yX2_hasGood ∨ ab_ln' 8 137 yX2_hasGood := Or.inr (List.mem_of_getElem? (i := 911) (by decide +kernel))
theorem lk8_140 : ab_lp 8 140 yX2_worthOf ∨ ab_ln' 8 140 yX2_worthOf := Or.inr (List.mem_of_getElem? (i := 915) (by decide +kernel))
theorem lk8_143 : ab_lp 8 143 yX2_ownerOf ∨ ab_ln' 8 143 yX2_ownerOf := Or.inr (List.mem_of_getElem? (i := 916) (by decide +kernel))
theorem lk8_146 : ab_lp 8 146 yX5_holderOf ∨ ab_ln' 8 146 yX5_holderOf := Or.inr (List.mem_of_getElem? (i := 917) (by decide +kernel))
theorem lk10_44 : ab_lp 10 44 yX9_fit ∨ ab_ln' 10 44 yX9_fit := Or.inl (ab_inT 921 (by decide +kernel) (by decide +kernel))
theorem lk8_149 : ab_lp 8 149 yX5_fitOf ∨ ab_ln' 8 149 yX5_fitOf := Or.inr (List.mem_of_getElem? (i := 925) (by decide +kernel))
theorem lk5_60 : ab_lp 5 60 yX5_bitsOf ∨ ab_ln' 5 60 yX5_bitsOf := Or.inl (ab_inT 929 (by decide +kernel) (by decide +kernel))
theorem lk5_73 : ab_lp 5 73 yJ6_bitCount_0f7a4 ∨ ab_ln' 5 73 yJ6_bitCount_0f7a4 := Or.inl (ab_inT 930 (by decide +kernel) (by decide +kernel))
theorem lk5_78 : ab_lp 5 78 yX2_fitBy ∨ ab_ln' 5 78 yX2_fitBy := Or.inr (List.mem_of_getElem? (i := 936) (by decide +kernel))
theorem lk10_48 : ab_lp 10 48 yX9_buy ∨ ab_ln' 10 48 yX9_buy := Or.inl (ab_inT 940 (by decide +kernel) (by decide +kernel))
theorem lk8_153 : ab_lp 8 153 yX5_canBuy ∨ ab_ln' 8 153 yX5_canBuy := Or.inr (List.mem_of_getElem? (i := 944) (by decide +kernel))
theorem lk5_90 : ab_lp 5 90 yX5_shillingsOf ∨ ab_ln' 5 90 yX5_shillingsOf := Or.inl (ab_inT 948 (by decide +kernel) (by decide +kernel))
theorem lk5_93 : ab_lp 5 93 yX5_ticketsOf ∨ ab_ln' 5 93 yX5_ticketsOf := Or.inl (ab_inT 949 (by decide +kernel) (by decide +kernel))
theorem lk8_156 : ab_lp 8 156 yX9_remember ∨ ab_ln' 8 156 yX9_remember := Or.inl (ab_inT 950 (by decide +kernel) (by decide +kernel))
theorem lk8_181 : ab_lp 8 181 yX5_copyOf ∨ ab_ln' 8 181 yX5_copyOf := Or.inr (List.mem_of_getElem? (i := 954) (by decide +kernel))
theorem lk5_48 : ab_lp 5 48 yX9_copy ∨ ab_ln' 5 48 yX9_copy := Or.inr (List.mem_of_getElem? (i := 958) (by decide +kernel))
theorem lk8_185 : ab_lp 8 185 yJ9_min_7cf53 ∨ ab_ln' 8 185 yJ9_min_7cf53 := Or.inl (ab_inT 961 (by decide +kernel) (by decide +kernel))
theorem lk8_159 : ab_lp 8 159 yX5_takeTicket ∨ ab_ln' 8 159 yX5_takeTicket := Or.inr (List.mem_of_getElem? (i := 962) (by decide +kernel))
theorem lk10_53 : ab_lp 10 53 yX9_swap ∨ ab_ln' 10 53 yX9_swap := Or.inl (ab_inT 966 (by decide +kernel) (by decide +kernel))
theorem lk8_163 : ab_lp 8 163 yX5_canTrade ∨ ab_ln' 8 163 yX5_canTrade := Or.inr (List.mem_of_getElem? (i := 970) (by decide +kernel))
theorem lk5_67 : ab_lp 5 67 yX5_holderOf ∨ ab_ln' 5 67 yX5_holderOf := Or.inl (ab_inT 974 (by decide +kernel) (by decide +kernel))
theorem lk5_96 : ab_lp 5 96 yX5_gainsBy ∨ ab_ln' 5 96 yX5_gainsBy := Or.inl (ab_inT 975 (by decide +kernel) (by decide +kernel))
theorem lk8_167 : ab_lp 8 167 yX5_trade ∨ ab_ln' 8 167 yX5_trade := Or.inr (List.mem_of_getElem? (i := 979) (by decide +kernel))
theorem lk5_100 : ab_lp 5 100 yX5_place ∨ ab_ln' 5 100 yX5_place := Or.inl (ab_inT 983 (by decide +kernel) (by decide +kernel))
theorem lk10_58 : ab_lp 10 58 yX9_bring ∨ ab_ln' 10 58 yX9_bring := Or.inl (ab_inT 987 (by decide +kernel) (by decide +kernel))
theorem lk8_171 : ab_lp 8 171 yX5_place ∨ ab_ln' 8 171 yX5_place := Or.inr (List.mem_of_getElem? (i := 991) (by decide +kernel))
theorem lk10_62 : ab_lp 10 62 yX9_quarter ∨ ab_ln' 10 62 yX9_quarter := Or.inl (ab_inT 992 (by decide +kernel) (by decide +kernel))
theorem lk8_174 : ab_lp 8 174 yX5_passQuarter ∨ ab_ln' 8 174 yX5_passQuarter := Or.inr (List.mem_of_getElem? (i := 996) (by decide +kernel))
theorem lk5_112 : ab_lp 5 112 yX5_heldBits ∨ ab_ln' 5 112 yX5_heldBits := Or.inl (ab_inT 1000 (by decide +kernel) (by decide +kernel))
theorem lk5_56 : ab_lp 5 56 yX2_allGoods ∨ ab_ln' 5 56 yX2_allGoods := Or.inr (List.mem_of_getElem? (i := 1004) (by decide +kernel))
theorem lk5_116 : ab_lp 5 116 yX5_raffle ∨ ab_ln' 5 116 yX5_raffle := Or.inl (ab_inT 1008 (by decide +kernel) (by decide +kernel))
theorem lk5_129 : ab_lp 5 129 yX5_allTickets ∨ ab_ln' 5 129 yX5_allTickets := Or.inl (ab_inT 1012 (by decide +kernel) (by decide +kernel))
theorem lk5_52 : ab_lp 5 52 yX9_sum ∨ ab_ln' 5 52 yX9_sum := Or.inr (List.mem_of_getElem? (i := 1016) (by decide +kernel))
theorem lk5_132 : ab_lp 5 132 yX5_draw ∨ ab_ln' 5 132 yX5_draw := Or.inl (ab_inT 1019 (by decide +kernel) (by decide +kernel))
theorem lk5_135 : ab_lp 5 135 yX5_holderOfTicket ∨ ab_ln' 5 135 yX5_holderOfTicket := Or.inl (ab_inT 1027 (by decide +kernel) (by decide +kernel))
theorem lk5_119 : ab_lp 5 119 yX5_settle ∨ ab_ln' 5 119 yX5_settle := Or.inl (ab_inT 1031 (by decide +kernel) (by decide +kernel))
theorem lk5_70 : ab_lp 5 70 yX2_ownerOf ∨ ab_ln' 5 70 yX2_ownerOf := Or.inr (List.mem_of_getElem? (i := 1035) (by decide +kernel))
theorem lk5_138 : ab_lp 5 138 yX2_kindOf ∨ ab_ln' 5 138 yX2_kindOf := Or.inr (List.mem_of_getElem? (i := 1036) (by decide +kernel))
theorem lk5_141 : ab_lp 5 141 yX5_fitOf ∨ ab_ln' 5 141 yX5_fitOf := Or.inl (ab_inT 1037 (by decide +kernel) (by decide +kernel))
theorem lk5_123 : ab_lp 5 123 yJ9_min_7cf53 ∨ ab_ln' 5 123 yJ9_min_7cf53 := Or.inl (ab_inT 1038 (by decide +kernel) (by decide +kernel))
theorem lk10_66 : ab_lp 10 66 yX9_undo ∨ ab_ln' 10 66 yX9_undo := Or.inl (ab_inT 1039 (by decide +kernel) (by decide +kernel))
theorem lk10_71 : ab_lp 10 71 yX9_judged ∨ ab_ln' 10 71 yX9_judged := Or.inl (ab_inT 1043 (by decide +kernel) (by decide +kernel))
theorem lk8_191 : ab_lp 8 191 yX8_doLine ∨ ab_ln' 8 191 yX8_doLine := Or.inr (List.mem_of_getElem? (i := 1047) (by decide +kernel))
theorem lk7_109 : ab_lp 7 109 yX9_at ∨ ab_ln' 7 109 yX9_at := Or.inr (List.mem_of_getElem? (i := 1051) (by decide +kernel))
theorem lk7_113 : ab_lp 7 113 yX5_canBuy ∨ ab_ln' 7 113 yX5_canBuy := Or.inr (List.mem_of_getElem? (i := 1052) (by decide +kernel))
theorem lk7_118 : ab_lp 7 118 yX5_takeTicket ∨ ab_ln' 7 118 yX5_takeTicket := Or.inr (List.mem_of_getElem? (i := 1053) (by decide +kernel))
theorem lk7_122 : ab_lp 7 122 yX5_canTrade ∨ ab_ln' 7 122 yX5_canTrade := Or.inr (List.mem_of_getElem? (i := 1054) (by decide +kernel))
theorem lk7_126 : ab_lp 7 126 yX5_trade ∨ ab_ln' 7 126 yX5_trade := Or.inr (List.mem_of_getElem? (i := 1055) (by decide +kernel))
theorem lk7_130 : ab_lp 7 130 yX5_holderOf ∨ ab_ln' 7 130 yX5_holderOf := Or.inr (List.mem_of_getElem? (i := 1056) (by decide +kernel))
theorem lk7_134 : ab_lp 7 134 yX5_place ∨ ab_ln' 7 134 yX5_place := Or.inr (List.mem_of_getElem? (i := 1057) (by decide +kernel))
theorem lk7_137 : ab_lp 7 137 yX5_passQuarter ∨ ab_ln' 7 137 yX5_passQuarter := Or.inr (List.mem_of_getElem? (i := 1058) (by decide +kernel))
theorem lk8_195 : ab_lp 8 195 yX5_rightBits ∨ ab_ln' 8 195 yX5_rightBits := Or.inr (List.mem_of_getElem? (i := 1059) (by decide +kernel))
theorem lk8_198 : ab_lp 8 198 yJ6_bitCount_0f7a4 ∨ ab_ln' 8 198 yJ6_bitCount_0f7a4 := Or.inl (ab_inT 1063 (by decide +kernel) (by decide +kernel))
theorem lk10_75 : ab_lp 10 75 yX9_winner ∨ ab_ln' 10 75 yX9_winner := Or.inl (ab_inT 1064 (by decide +kernel) (by decide +kernel))
theorem lk10_79 : ab_lp 10 79 yX9_where ∨ ab_ln' 10 79 yX9_where := Or.inl (ab_inT 1068 (by decide +kernel) (by decide +kernel))
theorem lk10_83 : ab_lp 10 83 yX9_has ∨ ab_ln' 10 83 yX9_has := Or.inl (ab_inT 1072 (by decide +kernel) (by decide +kernel))
theorem lk10_87 : ab_lp 10 87 yX9_home ∨ ab_ln' 10 87 yX9_home := Or.inl (ab_inT 1076 (by decide +kernel) (by decide +kernel))
theorem lk8_203 : ab_lp 8 203 yX2_allGoods ∨ ab_ln' 8 203 yX2_allGoods := Or.inr (List.mem_of_getElem? (i := 1080) (by decide +kernel))
theorem lk10_91 : ab_lp 10 91 yX9_empty ∨ ab_ln' 10 91 yX9_empty := Or.inl (ab_inT 1081 (by decide +kernel) (by decide +kernel))
theorem lk8_207 : ab_lp 8 207 yX5_heldBits ∨ ab_ln' 8 207 yX5_heldBits := Or.inr (List.mem_of_getElem? (i := 1085) (by decide +kernel))
theorem lk10_95 : ab_lp 10 95 yX9_won ∨ ab_ln' 10 95 yX9_won := Or.inl (ab_inT 1086 (by decide +kernel) (by decide +kernel))
theorem lk10_99 : ab_lp 10 99 yX9_streak ∨ ab_ln' 10 99 yX9_streak := Or.inl (ab_inT 1090 (by decide +kernel) (by decide +kernel))
theorem lk8_210 : ab_lp 8 210 yJ9_max_7cf53 ∨ ab_ln' 8 210 yJ9_max_7cf53 := Or.inl (ab_inT 1094 (by decide +kernel) (by decide +kernel))
theorem lk10_103 : ab_lp 10 103 yX9_moves ∨ ab_ln' 10 103 yX9_moves := Or.inl (ab_inT 1095 (by decide +kernel) (by decide +kernel))
theorem lk10_107 : ab_lp 10 107 yX9_least ∨ ab_ln' 10 107 yX9_least := Or.inl (ab_inT 1099 (by decide +kernel) (by decide +kernel))
theorem lk10_111 : ab_lp 10 111 yX9_rights ∨ ab_ln' 10 111 yX9_rights := Or.inl (ab_inT 1103 (by decide +kernel) (by decide +kernel))
theorem lk10_115 : ab_lp 10 115 yX9_joy ∨ ab_ln' 10 115 yX9_joy := Or.inl (ab_inT 1107 (by decide +kernel) (by decide +kernel))
theorem lk8_219 : ab_lp 8 219 yX5_joyOf ∨ ab_ln' 8 219 yX5_joyOf := Or.inr (List.mem_of_getElem? (i := 1111) (by decide +kernel))
theorem lk5_82 : ab_lp 5 82 yX5_fitOfAll ∨ ab_ln' 5 82 yX5_fitOfAll := Or.inl (ab_inT 1115 (by decide +kernel) (by decide +kernel))
theorem lk10_119 : ab_lp 10 119 yX9_envy ∨ ab_ln' 10 119 yX9_envy := Or.inl (ab_inT 1119 (by decide +kernel) (by decide +kernel))
theorem lk8_223 : ab_lp 8 223 yX5_fitOfAll ∨ ab_ln' 8 223 yX5_fitOfAll := Or.inr (List.mem_of_getElem? (i := 1123) (by decide +kernel))
theorem lk10_123 : ab_lp 10 123 yX9_offers ∨ ab_ln' 10 123 yX9_offers := Or.inl (ab_inT 1124 (by decide +kernel) (by decide +kernel))
theorem lk10_127 : ab_lp 10 127 yX9_want ∨ ab_ln' 10 127 yX9_want := Or.inl (ab_inT 1128 (by decide +kernel) (by decide +kernel))
theorem lk10_131 : ab_lp 10 131 yX9_fans ∨ ab_ln' 10 131 yX9_fans := Or.inl (ab_inT 1132 (by decide +kernel) (by decide +kernel))
theorem lk8_226 : ab_lp 8 226 yX9_fanBits ∨ ab_ln' 8 226 yX9_fanBits := Or.inl (ab_inT 1136 (by decide +kernel) (by decide +kernel))
theorem lk8_229 : ab_lp 8 229 yX9_isFan ∨ ab_ln' 8 229 yX9_isFan := Or.inl (ab_inT 1140 (by decide +kernel) (by decide +kernel))
theorem lk10_135 : ab_lp 10 135 yX9_dull ∨ ab_ln' 10 135 yX9_dull := Or.inl (ab_inT 1144 (by decide +kernel) (by decide +kernel))
theorem lk10_139 : ab_lp 10 139 yX9_gets ∨ ab_ln' 10 139 yX9_gets := Or.inl (ab_inT 1148 (by decide +kernel) (by decide +kernel))
theorem lk8_233 : ab_lp 8 233 yX3_trade ∨ ab_ln' 8 233 yX3_trade := Or.inr (List.mem_of_getElem? (i := 1152) (by decide +kernel))
theorem lk3_25 : ab_lp 3 25 yX3_putIn ∨ ab_ln' 3 25 yX3_putIn := Or.inl (ab_inT 1156 (by decide +kernel) (by decide +kernel))
theorem lk3_46 : ab_lp 3 46 yX5_firstOf ∨ ab_ln' 3 46 yX5_firstOf := Or.inr (List.mem_of_getElem? (i := 1160) (by decide +kernel))
theorem lk3_38 : ab_lp 3 38 yX9_put ∨ ab_ln' 3 38 yX9_put := Or.inr (List.mem_of_getElem? (i := 1164) (by decide +kernel))
theorem lk3_34 : ab_lp 3 34 yX3_pointsTo ∨ ab_ln' 3 34 yX3_pointsTo := Or.inl (ab_inT 1165 (by decide +kernel) (by decide +kernel))
theorem lk3_52 : ab_lp 3 52 yX5_bitsOf ∨ ab_ln' 3 52 yX5_bitsOf := Or.inr (List.mem_of_getElem? (i := 1169) (by decide +kernel))
theorem lk3_55 : ab_lp 3 55 yJ6_bitCount_0f7a4 ∨ ab_ln' 3 55 yJ6_bitCount_0f7a4 := Or.inl (ab_inT 1170 (by decide +kernel) (by decide +kernel))
theorem lk3_60 : ab_lp 3 60 yX9_at ∨ ab_ln' 3 60 yX9_at := Or.inr (List.mem_of_getElem? (i := 1171) (by decide +kernel))
theorem lk3_64 : ab_lp 3 64 yX2_fitBy ∨ ab_ln' 3 64 yX2_fitBy := Or.inr (List.mem_of_getElem? (i := 1172) (by decide +kernel))
theorem lk3_42 : ab_lp 3 42 yX3_handOut ∨ ab_ln' 3 42 yX3_handOut := Or.inl (ab_inT 1173 (by decide +kernel) (by decide +kernel))
theorem lk3_68 : ab_lp 3 68 yX3_comesRound ∨ ab_ln' 3 68 yX3_comesRound := Or.inl (ab_inT 1177 (by decide +kernel) (by decide +kernel))
theorem lk8_236 : ab_lp 8 236 yX3_gotBy ∨ ab_ln' 8 236 yX3_gotBy := Or.inr (List.mem_of_getElem? (i := 1181) (by decide +kernel))
theorem lk10_143 : ab_lp 10 143 yX9_rounds ∨ ab_ln' 10 143 yX9_rounds := Or.inl (ab_inT 1185 (by decide +kernel) (by decide +kernel))
theorem lk10_147 : ab_lp 10 147 yX9_best ∨ ab_ln' 10 147 yX9_best := Or.inl (ab_inT 1189 (by decide +kernel) (by decide +kernel))
theorem lk8_242 : ab_lp 8 242 yX0_giveOut ∨ ab_ln' 8 242 yX0_giveOut := Or.inr (List.mem_of_getElem? (i := 1193) (by decide +kernel))
theorem lk0_22 : ab_lp 0 22 yX0_mostWithout ∨ ab_ln' 0 22 yX0_mostWithout := Or.inl (ab_inT 1197 (by decide +kernel) (by decide +kernel))
theorem lk0_39 : ab_lp 0 39 yX9_put ∨ ab_ln' 0 39 yX9_put := Or.inr (List.mem_of_getElem? (i := 1201) (by decide +kernel))
theorem lk0_58 : ab_lp 0 58 yX2_allGoods ∨ ab_ln' 0 58 yX2_allGoods := Or.inr (List.mem_of_getElem? (i := 1202) (by decide +kernel))
theorem lk0_62 : ab_lp 0 62 yJ6_bitCount_0f7a4 ∨ ab_ln' 0 62 yJ6_bitCount_0f7a4 := Or.inl (ab_inT 1203 (by decide +kernel) (by decide +kernel))
theorem lk0_68 : ab_lp 0 68 yX0_mostFrom ∨ ab_ln' 0 68 yX0_mostFrom := Or.inl (ab_inT 1204 (by decide +kernel) (by decide +kernel))
theorem lk0_43 : ab_lp 0 43 yX9_at ∨ ab_ln' 0 43 yX9_at := Or.inr (List.mem_of_getElem? (i := 1208) (by decide +kernel))
theorem lk0_50 : ab_lp 0 50 yX0_mostBy ∨ ab_ln' 0 50 yX0_mostBy := Or.inl (ab_inT 1209 (by decide +kernel) (by decide +kernel))
theorem lk0_54 : ab_lp 0 54 yX2_fitBy ∨ ab_ln' 0 54 yX2_fitBy := Or.inr (List.mem_of_getElem? (i := 1213) (by decide +kernel))
theorem lk0_72 : ab_lp 0 72 yJ9_max_7cf53 ∨ ab_ln' 0 72 yJ9_max_7cf53 := Or.inl (ab_inT 1214 (by decide +kernel) (by decide +kernel))
theorem lk0_35 : ab_lp 0 35 yX0_firstBest ∨ ab_ln' 0 35 yX0_firstBest := Or.inl (ab_inT 1215 (by decide +kernel) (by decide +kernel))
theorem lk8_248 : ab_lp 8 248 yX0_givenTo ∨ ab_ln' 8 248 yX0_givenTo := Or.inr (List.mem_of_getElem? (i := 1219) (by decide +kernel))
theorem lk10_151 : ab_lp 10 151 yX9_owes ∨ ab_ln' 10 151 yX9_owes := Or.inl (ab_inT 1223 (by decide +kernel) (by decide +kernel))
theorem lk8_251 : ab_lp 8 251 yX2_fitBy ∨ ab_ln' 8 251 yX2_fitBy := Or.inr (List.mem_of_getElem? (i := 1227) (by decide +kernel))
theorem lk8_255 : ab_lp 8 255 yX0_mostWithout ∨ ab_ln' 8 255 yX0_mostWithout := Or.inr (List.mem_of_getElem? (i := 1228) (by decide +kernel))
theorem lk10_155 : ab_lp 10 155 yX9_spare ∨ ab_ln' 10 155 yX9_spare := Or.inl (ab_inT 1229 (by decide +kernel) (by decide +kernel))
theorem lk10_159 : ab_lp 10 159 yX9_odds ∨ ab_ln' 10 159 yX9_odds := Or.inl (ab_inT 1233 (by decide +kernel) (by decide +kernel))
theorem lk8_258 : ab_lp 8 258 yX5_allTickets ∨ ab_ln' 8 258 yX5_allTickets := Or.inr (List.mem_of_getElem? (i := 1237) (by decide +kernel))
theorem lk10_163 : ab_lp 10 163 yX9_enough ∨ ab_ln' 10 163 yX9_enough := Or.inl (ab_inT 1239 (by decide +kernel) (by decide +kernel))
theorem lk10_167 : ab_lp 10 167 yX9_run ∨ ab_ln' 10 167 yX9_run := Or.inl (ab_inT 1243 (by decide +kernel) (by decide +kernel))
theorem lk10_171 : ab_lp 10 171 yX9_see ∨ ab_ln' 10 171 yX9_see := Or.inl (ab_inT 1248 (by decide +kernel) (by decide +kernel))
theorem lk8_265 : ab_lp 8 265 yX4_add ∨ ab_ln' 8 265 yX4_add := Or.inr (List.mem_of_getElem? (i := 1252) (by decide +kernel))
theorem lk4_26 : ab_lp 4 26 yX9_put ∨ ab_ln' 4 26 yX9_put := Or.inr (List.mem_of_getElem? (i := 1256) (by decide +kernel))
theorem lk10_176 : ab_lp 10 176 yX9_who ∨ ab_ln' 10 176 yX9_who := Or.inl (ab_inT 1257 (by decide +kernel) (by decide +kernel))
theorem lk8_269 : ab_lp 8 269 yX4_whoBits ∨ ab_ln' 8 269 yX4_whoBits := Or.inr (List.mem_of_getElem? (i := 1261) (by decide +kernel))
theorem lk4_39 : ab_lp 4 39 yX4_allIsSo ∨ ab_ln' 4 39 yX4_allIsSo := Or.inl (ab_inT 1265 (by decide +kernel) (by decide +kernel))
theorem lk4_43 : ab_lp 4 43 yX9_at ∨ ab_ln' 4 43 yX9_at := Or.inr (List.mem_of_getElem? (i := 1269) (by decide +kernel))
theorem lk4_47 : ab_lp 4 47 yX2_fitBy ∨ ab_ln' 4 47 yX2_fitBy := Or.inr (List.mem_of_getElem? (i := 1270) (by decide +kernel))
theorem lk10_180 : ab_lp 10 180 yX9_ask ∨ ab_ln' 10 180 yX9_ask := Or.inl (ab_inT 1271 (by decide +kernel) (by decide +kernel))
theorem lk8_272 : ab_lp 8 272 yX9_leftByAsking ∨ ab_ln' 8 272 yX9_leftByAsking := Or.inl (ab_inT 1275 (by decide +kernel) (by decide +kernel))
theorem lk10_184 : ab_lp 10 184 yX9_rich ∨ ab_ln' 10 184 yX9_rich := Or.inl (ab_inT 1279 (by decide +kernel) (by decide +kernel))
theorem lk10_188 : ab_lp 10 188 yX9_sad ∨ ab_ln' 10 188 yX9_sad := Or.inl (ab_inT 1283 (by decide +kernel) (by decide +kernel))
theorem lk10_192 : ab_lp 10 192 yX9_lack ∨ ab_ln' 10 192 yX9_lack := Or.inl (ab_inT 1287 (by decide +kernel) (by decide +kernel))
theorem lk10_196 : ab_lp 10 196 yX9_debt ∨ ab_ln' 10 196 yX9_debt := Or.inl (ab_inT 1291 (by decide +kernel) (by decide +kernel))
theorem lk10_200 : ab_lp 10 200 yX9_poor ∨ ab_ln' 10 200 yX9_poor := Or.inl (ab_inT 1295 (by decide +kernel) (by decide +kernel))
theorem lk10_213 : ab_lp 10 213 yX9_luck ∨ ab_ln' 10 213 yX9_luck := Or.inl (ab_inT 1299 (by decide +kernel) (by decide +kernel))
theorem lk8_299 : ab_lp 8 299 yX5_tryLuck ∨ ab_ln' 8 299 yX5_tryLuck := Or.inr (List.mem_of_getElem? (i := 1303) (by decide +kernel))
theorem lk5_144 : ab_lp 5 144 yX5_canBuy ∨ ab_ln' 5 144 yX5_canBuy := Or.inl (ab_inT 1307 (by decide +kernel) (by decide +kernel))
theorem lk5_148 : ab_lp 5 148 yX5_takeTicket ∨ ab_ln' 5 148 yX5_takeTicket := Or.inl (ab_inT 1308 (by decide +kernel) (by decide +kernel))
theorem lk5_152 : ab_lp 5 152 yX5_canTrade ∨ ab_ln' 5 152 yX5_canTrade := Or.inl (ab_inT 1309 (by decide +kernel) (by decide +kernel))
theorem lk5_156 : ab_lp 5 156 yX5_trade ∨ ab_ln' 5 156 yX5_trade := Or.inl (ab_inT 1310 (by decide +kernel) (by decide +kernel))
theorem lk8_302 : ab_lp 8 302 yX5_joyOfAll ∨ ab_ln' 8 302 yX5_joyOfAll := Or.inr (List.mem_of_getElem? (i := 1311) (by decide +kernel))
theorem lk5_86 : ab_lp 5 86 yX5_joyOf ∨ ab_ln' 5 86 yX5_joyOf := Or.inl (ab_inT 1315 (by decide +kernel) (by decide +kernel))
theorem lk10_218 : ab_lp 10 218 yX9_mark ∨ ab_ln' 10 218 yX9_mark := Or.inl (ab_inT 1316 (by decide +kernel) (by decide +kernel))
theorem lk8_305 : ab_lp 8 305 yX4_copyOf ∨ ab_ln' 8 305 yX4_copyOf := Or.inr (List.mem_of_getElem? (i := 1320) (by decide +kernel))
theorem lk4_30 : ab_lp 4 30 yX9_copy ∨ ab_ln' 4 30 yX9_copy := Or.inr (List.mem_of_getElem? (i := 1324) (by decide +kernel))
theorem lk10_223 : ab_lp 10 223 yX9_count ∨ ab_ln' 10 223 yX9_count := Or.inl (ab_inT 1325 (by decide +kernel) (by decide +kernel))
theorem lk8_311 : ab_lp 8 311 yX5_allShillings ∨ ab_ln' 8 311 yX5_allShillings := Or.inr (List.mem_of_getElem? (i := 1329) (by decide +kernel))
theorem lk10_204 : ab_lp 10 204 yL_rests ∨ ab_ln' 10 204 yL_rests := Or.inl (ab_inT 1333 (by decide +kernel) (by decide +kernel))
theorem lk10_7 : ab_lp 10 7 yX9_rests ∨ ab_ln' 10 7 yX9_rests := Or.inl (ab_inT 1337 (by decide +kernel) (by decide +kernel))
theorem lk8_275 : ab_lp 8 275 yX9_isBargain ∨ ab_ln' 8 275 yX9_isBargain := Or.inl (ab_inT 1341 (by decide +kernel) (by decide +kernel))
theorem lk8_285 : ab_lp 8 285 yX9_isRest ∨ ab_ln' 8 285 yX9_isRest := Or.inl (ab_inT 1409 (by decide +kernel) (by decide +kernel))
theorem lk8_291 : ab_lp 8 291 yX9_bargained ∨ ab_ln' 8 291 yX9_bargained := Or.inl (ab_inT 1412 (by decide +kernel) (by decide +kernel))
theorem lk10_210 : ab_lp 10 210 yX10_thrown ∨ ab_ln' 10 210 yX10_thrown := Or.inl (ab_inT 1416 (by decide +kernel) (by decide +kernel))
theorem lk10_25 : ab_lp 10 25 yX10_feed ∨ ab_ln' 10 25 yX10_feed := Or.inl (ab_inT 1420 (by decide +kernel) (by decide +kernel))
theorem lk9_7 : ab_lp 9 7 yX10_lay ∨ ab_ln' 9 7 yX10_lay := Or.inl (ab_inT 1424 (by decide +kernel) (by decide +kernel))
theorem lk9_135 : ab_lp 9 135 yX10_standsAsAlways ∨ ab_ln' 9 135 yX10_standsAsAlways := Or.inl (ab_inT 1457 (by decide +kernel) (by decide +kernel))
theorem lk9_139 : ab_lp 9 139 yX10_begins ∨ ab_ln' 9 139 yX10_begins := Or.inl (ab_inT 1461 (by decide +kernel) (by decide +kernel))
theorem lk9_282 : ab_lp 9 282 yX10_starts ∨ ab_ln' 9 282 yX10_starts := Or.inl (ab_inT 1465 (by decide +kernel) (by decide +kernel))
theorem lk9_275 : ab_lp 9 275 yX10_persons ∨ ab_ln' 9 275 yX10_persons := Or.inl (ab_inT 1469 (by decide +kernel) (by decide +kernel))
theorem lk9_279 : ab_lp 9 279 yX10_personOf ∨ ab_ln' 9 279 yX10_personOf := Or.inl (ab_inT 1473 (by decide +kernel) (by decide +kernel))
theorem lk10_30 : ab_lp 10 30 yX10_office ∨ ab_ln' 10 30 yX10_office := Or.inl (ab_inT 1577 (by decide +kernel) (by decide +kernel))
theorem lk9_211 : ab_lp 9 211 yX10_cutAll ∨ ab_ln' 9 211 yX10_cutAll := Or.inl (ab_inT 1581 (by decide +kernel) (by decide +kernel))
theorem lk9_142 : ab_lp 9 142 yX10_isLetter ∨ ab_ln' 9 142 yX10_isLetter := Or.inl (ab_inT 1585 (by decide +kernel) (by decide +kernel))
theorem lk9_151 : ab_lp 9 151 yX10_rank ∨ ab_ln' 9 151 yX10_rank := Or.inl (ab_inT 1589 (by decide +kernel) (by decide +kernel))
theorem lk9_155 : ab_lp 9 155 yX10_isDigit ∨ ab_ln' 9 155 yX10_isDigit := Or.inl (ab_inT 1592 (by decide +kernel) (by decide +kernel))
theorem lk9_162 : ab_lp 9 162 yX10_isSignOf ∨ ab_ln' 9 162 yX10_isSignOf := Or.inl (ab_inT 1597 (by decide +kernel) (by decide +kernel))
theorem lk9_220 : ab_lp 9 220 yX10_readLine ∨ ab_ln' 9 220 yX10_readLine := Or.inl (ab_inT 1600 (by decide +kernel) (by decide +kernel))
theorem lk9_177 : ab_lp 9 177 yX10_isWord ∨ ab_ln' 9 177 yX10_isWord := Or.inl (ab_inT 1604 (by decide +kernel) (by decide +kernel))
theorem lk9_226 : ab_lp 9 226 yX10_readName ∨ ab_ln' 9 226 yX10_readName := Or.inl (ab_inT 1608 (by decide +kernel) (by decide +kernel))
theorem lk9_174 : ab_lp 9 174 yX10_wrong ∨ ab_ln' 9 174 yX10_wrong := Or.inl (ab_inT 1612 (by decide +kernel) (by decide +kernel))
theorem lk9_199 : ab_lp 9 199 yX10_isName ∨ ab_ln' 9 199 yX10_isName := Or.inl (ab_inT 1616 (by decide +kernel) (by decide +kernel))
theorem lk9_190 : ab_lp 9 190 yX10_wordHere ∨ ab_ln' 9 190 yX10_wordHere := Or.inl (ab_inT 1620 (by decide +kernel) (by decide +kernel))
theorem lk9_203 : ab_lp 9 203 yX10_nameAt ∨ ab_ln' 9 203 yX10_nameAt := Or.inl (ab_inT 1624 (by decide +kernel) (by decide +kernel))
theorem lk9_230 : ab_lp 9 230 yX10_takeOne ∨ ab_ln' 9 230 yX10_takeOne := Or.inl (ab_inT 1628 (by decide +kernel) (by decide +kernel))
theorem lk9_233 : ab_lp 9 233 yX10_takeAfter ∨ ab_ln' 9 233 yX10_takeAfter := Or.inl (ab_inT 1632 (by decide +kernel) (by decide +kernel))
theorem lk9_183 : ab_lp 9 183 yX10_takeWord ∨ ab_ln' 9 183 yX10_takeWord := Or.inl (ab_inT 1636 (by decide +kernel) (by decide +kernel))
theorem lk9_180 : ab_lp 9 180 yX10_hasWord ∨ ab_ln' 9 180 yX10_hasWord := Or.inl (ab_inT 1640 (by decide +kernel) (by decide +kernel))
theorem lk9_186 : ab_lp 9 186 yX10_takeNumber ∨ ab_ln' 9 186 yX10_takeNumber := Or.inl (ab_inT 1644 (by decide +kernel) (by decide +kernel))
theorem lk9_237 : ab_lp 9 237 yX10_takeTold ∨ ab_ln' 9 237 yX10_takeTold := Or.inl (ab_inT 1648 (by decide +kernel) (by decide +kernel))
theorem lk9_207 : ab_lp 9 207 yX10_within ∨ ab_ln' 9 207 yX10_within := Or.inl (ab_inT 1652 (by decide +kernel) (by decide +kernel))
theorem lk9_241 : ab_lp 9 241 yX10_readLike ∨ ab_ln' 9 241 yX10_readLike := Or.inl (ab_inT 1655 (by decide +kernel) (by decide +kernel))
theorem lk9_244 : ab_lp 9 244 yX10_readOnce ∨ ab_ln' 9 244 yX10_readOnce := Or.inl (ab_inT 1659 (by decide +kernel) (by decide +kernel))
theorem lk9_247 : ab_lp 9 247 yX10_whole ∨ ab_ln' 9 247 yX10_whole := Or.inl (ab_inT 1663 (by decide +kernel) (by decide +kernel))
theorem lk9_257 : ab_lp 9 257 yX10_test ∨ ab_ln' 9 257 yX10_test := Or.inl (ab_inT 1667 (by decide +kernel) (by decide +kernel))
theorem lk9_260 : ab_lp 9 260 yX10_sums ∨ ab_ln' 9 260 yX10_sums := Or.inl (ab_inT 1671 (by decide +kernel) (by decide +kernel))
theorem lk9_266 : ab_lp 9 266 yX10_products ∨ ab_ln' 9 266 yX10_products := Or.inl (ab_inT 1675 (by decide +kernel) (by decide +kernel))
theorem lk9_269 : ab_lp 9 269 yX10_takePart ∨ ab_ln' 9 269 yX10_takePart := Or.inl (ab_inT 1679 (by decide +kernel) (by decide +kernel))
theorem lk9_171 : ab_lp 9 171 yX10_isSign ∨ ab_ln' 9 171 yX10_isSign := Or.inl (ab_inT 1683 (by decide +kernel) (by decide +kernel))
theorem lk9_250 : ab_lp 9 250 yX10_emit ∨ ab_ln' 9 250 yX10_emit := Or.inl (ab_inT 1687 (by decide +kernel) (by decide +kernel))
theorem lk9_263 : ab_lp 9 263 yX10_hasSign ∨ ab_ln' 9 263 yX10_hasSign := Or.inl (ab_inT 1691 (by decide +kernel) (by decide +kernel))
theorem lk9_223 : ab_lp 9 223 yX10_takeSign ∨ ab_ln' 9 223 yX10_takeSign := Or.inl (ab_inT 1695 (by decide +kernel) (by decide +kernel))
theorem lk10_34 : ab_lp 10 34 yX10_year ∨ ab_ln' 10 34 yX10_year := Or.inl (ab_inT 1699 (by decide +kernel) (by decide +kernel))
theorem lk9_254 : ab_lp 9 254 yX10_readYear ∨ ab_ln' 9 254 yX10_readYear := Or.inl (ab_inT 1703 (by decide +kernel) (by decide +kernel))
theorem lk10_39 : ab_lp 10 39 yX10_person ∨ ab_ln' 10 39 yX10_person := Or.inl (ab_inT 1707 (by decide +kernel) (by decide +kernel))
theorem lk9_342 : ab_lp 9 342 yX10_isPerson ∨ ab_ln' 9 342 yX10_isPerson := Or.inl (ab_inT 1711 (by decide +kernel) (by decide +kernel))
theorem lk9_300 : ab_lp 9 300 yX10_heldBy ∨ ab_ln' 9 300 yX10_heldBy := Or.inl (ab_inT 1715 (by decide +kernel) (by decide +kernel))
theorem lk9_291 : ab_lp 9 291 yX10_goods ∨ ab_ln' 9 291 yX10_goods := Or.inl (ab_inT 1719 (by decide +kernel) (by decide +kernel))
theorem lk10_43 : ab_lp 10 43 yX10_good ∨ ab_ln' 10 43 yX10_good := Or.inl (ab_inT 1723 (by decide +kernel) (by decide +kernel))
theorem lk9_345 : ab_lp 9 345 yX10_isGood ∨ ab_ln' 9 345 yX10_isGood := Or.inl (ab_inT 1727 (by decide +kernel) (by decide +kernel))
theorem lk9_294 : ab_lp 9 294 yX10_goodOf ∨ ab_ln' 9 294 yX10_goodOf := Or.inl (ab_inT 1731 (by decide +kernel) (by decide +kernel))
theorem lk10_47 : ab_lp 10 47 yX10_fit ∨ ab_ln' 10 47 yX10_fit := Or.inl (ab_inT 1735 (by decide +kernel) (by decide +kernel))
theorem lk9_327 : ab_lp 9 327 yX10_fitOf ∨ ab_ln' 9 327 yX10_fitOf := Or.inl (ab_inT 1739 (by decide +kernel) (by decide +kernel))
theorem lk9_303 : ab_lp 9 303 yX10_bits ∨ ab_ln' 9 303 yX10_bits := Or.inl (ab_inT 1743 (by decide +kernel) (by decide +kernel))
theorem lk9_306 : ab_lp 9 306 yX10_fitBy ∨ ab_ln' 9 306 yX10_fitBy := Or.inl (ab_inT 1746 (by decide +kernel) (by decide +kernel))
theorem lk9_297 : ab_lp 9 297 yX10_worthAt ∨ ab_ln' 9 297 yX10_worthAt := Or.inl (ab_inT 1750 (by decide +kernel) (by decide +kernel))
theorem lk9_272 : ab_lp 9 272 yX10_both ∨ ab_ln' 9 272 yX10_both := Or.inl (ab_inT 1754 (by decide +kernel) (by decide +kernel))
theorem lk10_52 : ab_lp 10 52 yX10_buy ∨ ab_ln' 10 52 yX10_buy := Or.inl (ab_inT 1757 (by decide +kernel) (by decide +kernel))
theorem lk9_348 : ab_lp 9 348 yX10_mayBuy ∨ ab_ln' 9 348 yX10_mayBuy := Or.inl (ab_inT 1761 (by decide +kernel) (by decide +kernel))
theorem lk9_352 : ab_lp 9 352 yX10_keeps ∨ ab_ln' 9 352 yX10_keeps := Or.inl (ab_inT 1765 (by decide +kernel) (by decide +kernel))
theorem lk9_288 : ab_lp 9 288 yX10_copies ∨ ab_ln' 9 288 yX10_copies := Or.inl (ab_inT 1769 (by decide +kernel) (by decide +kernel))
theorem lk9_355 : ab_lp 9 355 yX10_buys ∨ ab_ln' 9 355 yX10_buys := Or.inl (ab_inT 1773 (by decide +kernel) (by decide +kernel))
theorem lk10_57 : ab_lp 10 57 yX10_swap ∨ ab_ln' 10 57 yX10_swap := Or.inl (ab_inT 1777 (by decide +kernel) (by decide +kernel))
theorem lk9_358 : ab_lp 9 358 yX10_maySwap ∨ ab_ln' 9 358 yX10_maySwap := Or.inl (ab_inT 1781 (by decide +kernel) (by decide +kernel))
theorem lk9_315 : ab_lp 9 315 yX10_doesLike ∨ ab_ln' 9 315 yX10_doesLike := Or.inl (ab_inT 1785 (by decide +kernel) (by decide +kernel))
theorem lk9_361 : ab_lp 9 361 yX10_swaps ∨ ab_ln' 9 361 yX10_swaps := Or.inl (ab_inT 1789 (by decide +kernel) (by decide +kernel))
theorem lk10_61 : ab_lp 10 61 yX10_bring ∨ ab_ln' 10 61 yX10_bring := Or.inl (ab_inT 1793 (by decide +kernel) (by decide +kernel))
theorem lk10_65 : ab_lp 10 65 yX10_quarter ∨ ab_ln' 10 65 yX10_quarter := Or.inl (ab_inT 1797 (by decide +kernel) (by decide +kernel))
theorem lk9_364 : ab_lp 9 364 yX10_passes ∨ ab_ln' 9 364 yX10_passes := Or.inl (ab_inT 1801 (by decide +kernel) (by decide +kernel))
theorem lk9_330 : ab_lp 9 330 yX10_sumOf ∨ ab_ln' 9 330 yX10_sumOf := Or.inl (ab_inT 1805 (by decide +kernel) (by decide +kernel))
theorem lk9_333 : ab_lp 9 333 yX10_draw ∨ ab_ln' 9 333 yX10_draw := Or.inl (ab_inT 1809 (by decide +kernel) (by decide +kernel))
theorem lk9_336 : ab_lp 9 336 yX10_ownerOf ∨ ab_ln' 9 336 yX10_ownerOf := Or.inl (ab_inT 1817 (by decide +kernel) (by decide +kernel))
theorem lk9_339 : ab_lp 9 339 yX10_settles ∨ ab_ln' 9 339 yX10_settles := Or.inl (ab_inT 1821 (by decide +kernel) (by decide +kernel))
theorem lk10_70 : ab_lp 10 70 yX10_undo ∨ ab_ln' 10 70 yX10_undo := Or.inl (ab_inT 1825 (by decide +kernel) (by decide +kernel))
theorem lk10_74 : ab_lp 10 74 yX10_judged ∨ ab_ln' 10 74 yX10_judged := Or.inl (ab_inT 1829 (by decide +kernel) (by decide +kernel))
theorem lk9_367 : ab_lp 9 367 yX10_rightsOf ∨ ab_ln' 9 367 yX10_rightsOf := Or.inl (ab_inT 1833 (by decide +kernel) (by decide +kernel))
theorem lk10_78 : ab_lp 10 78 yX10_winner ∨ ab_ln' 10 78 yX10_winner := Or.inl (ab_inT 1837 (by decide +kernel) (by decide +kernel))
theorem lk9_370 : ab_lp 9 370 yX10_triesNow ∨ ab_ln' 9 370 yX10_triesNow := Or.inl (ab_inT 1841 (by decide +kernel) (by decide +kernel))
theorem lk10_82 : ab_lp 10 82 yX10_where ∨ ab_ln' 10 82 yX10_where := Or.inl (ab_inT 1845 (by decide +kernel) (by decide +kernel))
theorem lk10_86 : ab_lp 10 86 yX10_has ∨ ab_ln' 10 86 yX10_has := Or.inl (ab_inT 1849 (by decide +kernel) (by decide +kernel))
theorem lk10_90 : ab_lp 10 90 yX10_home ∨ ab_ln' 10 90 yX10_home := Or.inl (ab_inT 1853 (by decide +kernel) (by decide +kernel))
theorem lk10_94 : ab_lp 10 94 yX10_empty ∨ ab_ln' 10 94 yX10_empty := Or.inl (ab_inT 1857 (by decide +kernel) (by decide +kernel))
theorem lk10_98 : ab_lp 10 98 yX10_won ∨ ab_ln' 10 98 yX10_won := Or.inl (ab_inT 1861 (by decide +kernel) (by decide +kernel))
theorem lk10_102 : ab_lp 10 102 yX10_streak ∨ ab_ln' 10 102 yX10_streak := Or.inl (ab_inT 1865 (by decide +kernel) (by decide +kernel))
theorem lk10_106 : ab_lp 10 106 yX10_moves ∨ ab_ln' 10 106 yX10_moves := Or.inl (ab_inT 1869 (by decide +kernel) (by decide +kernel))
theorem lk10_114 : ab_lp 10 114 yX10_rights ∨ ab_ln' 10 114 yX10_rights := Or.inl (ab_inT 1873 (by decide +kernel) (by decide +kernel))
theorem lk10_118 : ab_lp 10 118 yX10_joy ∨ ab_ln' 10 118 yX10_joy := Or.inl (ab_inT 1877 (by decide +kernel) (by decide +kernel))
theorem lk9_312 : ab_lp 9 312 yX10_joyOf ∨ ab_ln' 9 312 yX10_joyOf := Or.inl (ab_inT 1881 (by decide +kernel) (by decide +kernel))
theorem lk9_309 : ab_lp 9 309 yX10_fitOfAll ∨ ab_ln' 9 309 yX10_fitOfAll := Or.inl (ab_inT 1885 (by decide +kernel) (by decide +kernel))
theorem lk10_122 : ab_lp 10 122 yX10_envy ∨ ab_ln' 10 122 yX10_envy := Or.inl (ab_inT 1889 (by decide +kernel) (by decide +kernel))
theorem lk10_126 : ab_lp 10 126 yX10_offers ∨ ab_ln' 10 126 yX10_offers := Or.inl (ab_inT 1893 (by decide +kernel) (by decide +kernel))
theorem lk10_130 : ab_lp 10 130 yX10_want ∨ ab_ln' 10 130 yX10_want := Or.inl (ab_inT 1897 (by decide +kernel) (by decide +kernel))
theorem lk9_373 : ab_lp 9 373 yX10_allGoods ∨ ab_ln' 9 373 yX10_allGoods := Or.inl (ab_inT 1901 (by decide +kernel) (by decide +kernel))
theorem lk9_376 : ab_lp 9 376 yX10_wantOf ∨ ab_ln' 9 376 yX10_wantOf := Or.inl (ab_inT 1905 (by decide +kernel) (by decide +kernel))
theorem lk10_134 : ab_lp 10 134 yX10_fans ∨ ab_ln' 10 134 yX10_fans := Or.inl (ab_inT 1909 (by decide +kernel) (by decide +kernel))
theorem lk9_379 : ab_lp 9 379 yX10_fansOf ∨ ab_ln' 9 379 yX10_fansOf := Or.inl (ab_inT 1913 (by decide +kernel) (by decide +kernel))
theorem lk10_138 : ab_lp 10 138 yX10_dull ∨ ab_ln' 10 138 yX10_dull := Or.inl (ab_inT 1917 (by decide +kernel) (by decide +kernel))
theorem lk10_110 : ab_lp 10 110 yX10_least ∨ ab_ln' 10 110 yX10_least := Or.inl (ab_inT 1921 (by decide +kernel) (by decide +kernel))
theorem lk10_142 : ab_lp 10 142 yX10_gets ∨ ab_ln' 10 142 yX10_gets := Or.inl (ab_inT 1925 (by decide +kernel) (by decide +kernel))
theorem lk9_385 : ab_lp 9 385 yX10_ringsNow ∨ ab_ln' 9 385 yX10_ringsNow := Or.inl (ab_inT 1929 (by decide +kernel) (by decide +kernel))
theorem lk9_382 : ab_lp 9 382 yX10_ownerIn ∨ ab_ln' 9 382 yX10_ownerIn := Or.inl (ab_inT 1933 (by decide +kernel) (by decide +kernel))
theorem lk10_146 : ab_lp 10 146 yX10_rounds ∨ ab_ln' 10 146 yX10_rounds := Or.inl (ab_inT 1937 (by decide +kernel) (by decide +kernel))
theorem lk10_150 : ab_lp 10 150 yX10_best ∨ ab_ln' 10 150 yX10_best := Or.inl (ab_inT 1941 (by decide +kernel) (by decide +kernel))
theorem lk9_395 : ab_lp 9 395 yX10_givesOut ∨ ab_ln' 9 395 yX10_givesOut := Or.inl (ab_inT 1945 (by decide +kernel) (by decide +kernel))
theorem lk9_391 : ab_lp 9 391 yX10_givesFrom ∨ ab_ln' 9 391 yX10_givesFrom := Or.inl (ab_inT 1949 (by decide +kernel) (by decide +kernel))
theorem lk10_154 : ab_lp 10 154 yX10_owes ∨ ab_ln' 10 154 yX10_owes := Or.inl (ab_inT 1953 (by decide +kernel) (by decide +kernel))
theorem lk10_158 : ab_lp 10 158 yX10_spare ∨ ab_ln' 10 158 yX10_spare := Or.inl (ab_inT 1957 (by decide +kernel) (by decide +kernel))
theorem lk10_162 : ab_lp 10 162 yX10_odds ∨ ab_ln' 10 162 yX10_odds := Or.inl (ab_inT 1961 (by decide +kernel) (by decide +kernel))
theorem lk10_166 : ab_lp 10 166 yX10_enough ∨ ab_ln' 10 166 yX10_enough := Or.inl (ab_inT 1966 (by decide +kernel) (by decide +kernel))
theorem lk10_170 : ab_lp 10 170 yX10_run ∨ ab_ln' 10 170 yX10_run := Or.inl (ab_inT 1970 (by decide +kernel) (by decide +kernel))
theorem lk10_175 : ab_lp 10 175 yX10_see ∨ ab_ln' 10 175 yX10_see := Or.inl (ab_inT 1975 (by decide +kernel) (by decide +kernel))
theorem lk10_179 : ab_lp 10 179 yX10_who ∨ ab_ln' 10 179 yX10_who := Or.inl (ab_inT 1979 (by decide +kernel) (by decide +kernel))
theorem lk9_402 : ab_lp 9 402 yX10_whoNow ∨ ab_ln' 9 402 yX10_whoNow := Or.inl (ab_inT 1983 (by decide +kernel) (by decide +kernel))
theorem lk10_183 : ab_lp 10 183 yX10_ask ∨ ab_ln' 10 183 yX10_ask := Or.inl (ab_inT 1987 (by decide +kernel) (by decide +kernel))
theorem lk10_187 : ab_lp 10 187 yX10_rich ∨ ab_ln' 10 187 yX10_rich := Or.inl (ab_inT 1991 (by decide +kernel) (by decide +kernel))
theorem lk10_191 : ab_lp 10 191 yX10_sad ∨ ab_ln' 10 191 yX10_sad := Or.inl (ab_inT 1995 (by decide +kernel) (by decide +kernel))
theorem lk10_195 : ab_lp 10 195 yX10_lack ∨ ab_ln' 10 195 yX10_lack := Or.inl (ab_inT 1999 (by decide +kernel) (by decide +kernel))
theorem lk10_199 : ab_lp 10 199 yX10_debt ∨ ab_ln' 10 199 yX10_debt := Or.inl (ab_inT 2003 (by decide +kernel) (by decide +kernel))
theorem lk10_203 : ab_lp 10 203 yX10_poor ∨ ab_ln' 10 203 yX10_poor := Or.inl (ab_inT 2007 (by decide +kernel) (by decide +kernel))
theorem lk10_209 : ab_lp 10 209 yX10_rests ∨ ab_ln' 10 209 yX10_rests := Or.inl (ab_inT 2011 (by decide +kernel) (by decide +kernel))
theorem lk9_405 : ab_lp 9 405 yX10_getsBy ∨ ab_ln' 9 405 yX10_getsBy := Or.inl (ab_inT 2015 (by decide +kernel) (by decide +kernel))
theorem lk10_217 : ab_lp 10 217 yX10_luck ∨ ab_ln' 10 217 yX10_luck := Or.inl (ab_inT 2018 (by decide +kernel) (by decide +kernel))
theorem lk9_409 : ab_lp 9 409 yX10_drawsDeed ∨ ab_ln' 9 409 yX10_drawsDeed := Or.inl (ab_inT 2022 (by decide +kernel) (by decide +kernel))
theorem lk9_412 : ab_lp 9 412 yX10_joyOfAll ∨ ab_ln' 9 412 yX10_joyOfAll := Or.inl (ab_inT 2026 (by decide +kernel) (by decide +kernel))
theorem lk10_222 : ab_lp 10 222 yX10_mark ∨ ab_ln' 10 222 yX10_mark := Or.inl (ab_inT 2030 (by decide +kernel) (by decide +kernel))
theorem lk10_226 : ab_lp 10 226 yX10_count ∨ ab_ln' 10 226 yX10_count := Or.inl (ab_inT 2034 (by decide +kernel) (by decide +kernel))
end
section
/-! a call upon the one text -/
section ABK
variable {τ τ' : Type} {own : Nat} {b : ByteArray} {rt : Option FieldType} {d pc pc2 : Nat} {L : List (Option ab_V)} {st st0 : List ab_V} {u : ab_S} {w : τ → Option ab_V} {w' : τ' → Option ab_V} {r0 : Option (τ' × ab_S)} {r1 : τ' × ab_S → Option (τ × ab_S)} {y : MethodName} {b' : ByteArray} {nL' : Nat} {rt' : Option FieldType} {d' k : Nat}
theorem g_callK {bs : List ab_V} (hM : ab_C 0 y b' nL' rt' d' (vR (kO 21) 0 :: bs) u w' r0) (hI : ab_mI y b' nL' rt' bs.length) (hV : ab_mV y) (hlk : ab_lp own k y ∨ ab_ln' own k y) (hw : ab_wok w') (hd : decode b pc = .ok (.invokevirtual k, 3)) (hst : st0 = bs.reverse ++ vR (kO 21) 0 :: st) (hcat : (st.map ab_cat).sum ≤ 8) (hdep : d' + 1 ≤ d) (hp : pc + 3 = pc2)
    (kk : ∀ q : τ' × ab_S, r0 = some q → ab_G 0 own b rt d pc2 L ((w' q.1).toList ++ st) q.2 w (r1 q)) (hcls : y.cls = "java/lang/String" := by rfl) : ab_G 0 own b rt d pc L st0 u w (r0.bind r1) := by
  intro x u' hx p l e s m args below meth c H locs ls E hfl F hret hlk2 hml X hl hL hok
  subst hp
  subst hst
  obtain ⟨q, hq, hx⟩ := ab_bind hx
  obtain ⟨z, uz⟩ := q
  obtain ⟨hex, hb, hown, hts, hNW, hK, hSF, ho, hs⟩ := id F
  have hoka : ab_oks 0 (vR (kO 21) 0 :: bs) := fun v hv => hok v (by
    rcases List.mem_cons.mp hv with h | h
    · rw [h]; exact List.mem_append_right _ List.mem_cons_self
    · exact List.mem_append_left _ (List.mem_reverse.mpr h))
  have hokr : ab_oks 0 st := fun v hv => hok v (List.mem_append_right _ (List.mem_cons_of_mem _ hv))
  have hM2 := hM z uz hq hoka l E hfl
  have hrec : ∃ cellB : Cell, H[ab_re E (kO 21) 0]? = some cellB ∧ cellB.vm.isStatics = false ∧ s.vm.findClass y.cls = some cellB.cls := by
    rw [hcls]
    have h9 := vk_recv (N := 1) (adK := fun _ => ab_sa E 21 0) (i := 0) hSF.2.2.2.1 (by omega) X.2.2.1
    exact h9
  have hpv : PreV s H y.cls (ab_re E (kO 21) 0) (va_Pc ((vR (kO 21) 0 :: bs).map (ab_vm E)) (ab_B E 0 u)) (bs.map (ab_vm E)) := ⟨ab_B_blind E 0 u _, hrec, fun U hU hW => ab_pre (as := vR (kO 21) 0 :: bs) F X U hU hW⟩
  have hstack : (List.map (ab_vm E) (bs.reverse ++ vR (kO 21) 0 :: st)) = (bs.map (ab_vm E)).reverse ++ .ref (ab_re E (kO 21) 0) :: st.map (ab_vm E) := by
    rw [List.map_append, List.map_reverse]
    rfl
  have hfix : CallFix p m c b L.length s args ab_W0 (ab_cn own) := ⟨hex, hb, hml, hown, hts⟩
  have hmon : 2 * (F0 m pc ls (List.map (ab_vm E) (bs.reverse ++ vR (kO 21) 0 :: st))).monitorRoom + ((st.map (ab_vm E)).map fun v => v.category).sum ≤ 8 := lv_room (by rw [ab_cats]; exact hcat)
  have hrun : va_Run p l e (ab_rm d) s m args below meth c H locs 0 0 0 0 (F0 m pc ls (List.map (ab_vm E) (bs.reverse ++ vR (kO 21) 0 :: st))) (st.map (ab_vm E)) (ab_Q E 0 w' z uz (Value.ref (ab_re E (kO 21) 0) :: bs.map (ab_vm E)).toArray) (ab_A E 0) := by
    rcases hlk with hlk | hlk
    · exact va_runV hfix hM2 ⟨ab_CB hts hI hdep (hts _ hlk), hts _ hV.1, hts _ hV.2⟩ hpv rfl (by simp) hl.1 hstack hmon hd ⟨Nat.zero_le _, Nat.zero_le _⟩
    · exact va_runVN hfix hM2 ⟨ab_CBN hts hI hdep (va_Nw.use rfl (hNW _ hlk rfl)), hts _ hV.1, hts _ hV.2⟩ hpv rfl (by simp) hl.1 hstack hmon hd ⟨Nat.zero_le _, Nat.zero_le _⟩
  refine ab_aft hrun X (fun H1 locs1 X1 => ?_)
  have k1 := kk (z, uz) hq x u' hx p l e s m args below meth c H1 locs1 ls E hfl F hret hlk2 hml X1 hl hL (fun v hv => by
    rcases List.mem_append.mp hv with h | h
    · exact hw z v (by simpa using h) 0
    · exact hokr v h)
  rw [List.map_append] at k1
  rw [show Option.toList (Option.map (ab_vm E) (w' z)) = List.map (ab_vm E) (Option.toList (w' z)) by cases w' z <;> rfl]
  exact k1
end ABK
-- the JDK's Math.max and Math.min, a byte's return, a table with its rows apart
theorem ab_maxW : Cond.static Lib.Math.max.name ∈ ab_W0 ∧ Cond.initialized "java/lang/Math" ∈ ab_W0 ∧ Cond.code Lib.Math.max.name Lib.Math.max.code 2 (some .int) ∈ ab_W0 := ⟨msJ9_max_7cf53, miJ9_max_7cf53.2.1, miJ9_max_7cf53.1⟩
theorem ab_minW : Cond.static Lib.Math.min.name ∈ ab_W0 ∧ Cond.initialized "java/lang/Math" ∈ ab_W0 ∧ Cond.code Lib.Math.min.name Lib.Math.min.code 2 (some .int) ∈ ab_W0 := ⟨msJ9_min_7cf53, miJ9_min_7cf53.2.1, miJ9_min_7cf53.1⟩
def ab_y1 (x : Int32) : Bool := vp_nar .byte x == x
section ABM
variable {τ : Type} {sy own : Nat} {b : ByteArray} {rt : Option FieldType} {d pc pc2 k : Nat} {L : List (Option ab_V)} {st : List ab_V} {u : ab_S} {w : τ → Option ab_V} {r : Option (τ × ab_S)}
theorem g_max {x y : Int32} (hlk : ab_lp own k Lib.Math.max.name) (hd : decode b pc = .ok (.invokestatic k, 3)) (hcat : (st.map ab_cat).sum ≤ 8) (hdep : 1 ≤ d) (hp : pc + 3 = pc2) (kk : ab_G sy own b rt d pc2 L (.inl (if x < y then y else x) :: st) u w r) : ab_G sy own b rt d pc L (.inl y :: .inl x :: st) u w r := by
  intro z u' hx p l e s m args below meth c H locs ls E hfl F hret hlk2 hml X hl hL hok
  subst hp
  obtain ⟨hex, hb, hown, hts, -⟩ := id F
  obtain ⟨w1, w2, w3⟩ := ab_maxW
  exact va_mmax hex hb (by rw [hml]; exact hl.1.symm) hown (hts _ hlk) (hts _ w1) (hts _ w2) (hts _ w3) hdep (by rw [ab_cats]; simp only [ab_rm]; omega) (Nat.zero_le _) (Nat.zero_le _) hd (kk z u' hx p l e s m args below meth c H locs ls E hfl F hret hlk2 hml X hl hL (hok.tl.tl.cons trivial))
theorem g_min {x y : Int32} (hlk : ab_lp own k Lib.Math.min.name) (hd : decode b pc = .ok (.invokestatic k, 3)) (hcat : (st.map ab_cat).sum ≤ 8) (hdep : 1 ≤ d) (hp : pc + 3 = pc2) (kk : ab_G sy own b rt d pc2 L (.inl (if y < x then y else x) :: st) u w r) : ab_G sy own b rt d pc L (.inl y :: .inl x :: st) u w r := by
  intro z u' hx p l e s m args below meth c H locs ls E hfl F hret hlk2 hml X hl hL hok
  subst hp
  obtain ⟨hex, hb, hown, hts, -⟩ := id F
  obtain ⟨w1, w2, w3⟩ := ab_minW
  exact va_mmin hex hb (by rw [hml]; exact hl.1.symm) hown (hts _ hlk) (hts _ w1) (hts _ w2) (hts _ w3) hdep (by rw [ab_cats]; simp only [ab_rm]; omega) (Nat.zero_le _) (Nat.zero_le _) hd (kk z u' hx p l e s m args below meth c H locs ls E hfl F hret hlk2 hml X hl hL (hok.tl.tl.cons trivial))
theorem g_bret {v : Int32} (hd : decode b pc = .ok (.ireturn, 1)) (hr : rt = some .byte) : ab_G sy own b rt d pc L [.inl v] u wI (ab_gd [ab_y1 v] (some (v, u))) := by
  intro x u' hx p l e s m args below meth c H locs ls E hfl F hret hlk hml X hl hL hst
  obtain ⟨h1, hx⟩ := ab_gd_some hx
  cases hx
  have h2 : vp_nar .byte v = v := by simpa [ab_y1] using h1
  have h3 : narrow .byte (.int v) = .int v := by
    unfold vp_nar at h2
    cases hq : narrow .byte (.int v) with
    | int y => rw [hq] at h2; exact congrArg Value.int h2
    | _ => simp [narrow] at hq
  exact W.zret (ty := .byte) F.1 F.2.1 (by rw [hret, hr]) h3 (fun t ht _ => ⟨rfl, by rw [ht]; exact X.1, X.2.2.2, X.2.2.1.F ht⟩) X.2.2.1.2.2 hd hlk
def ab_GS {τ : Type} (sy own : Nat) (b : ByteArray) (rt : Option FieldType) (d pc : Nat) (L : List (Option ab_V)) (x : Int32) (st : List ab_V) (u : ab_S) (w : τ → Option ab_V) (ks : List Int32) (r : Option (τ × ab_S)) : Prop :=
  (∀ k ∈ ks, x ≠ k) → ab_G sy own b rt d pc L (.inl x :: st) u w r
def ab_swk (pc : Nat) (lo hi : Int) (offs : Array Int) (k : Int32) (t : Nat) : Bool := decide (lo ≤ k.toInt) && (decide (k.toInt ≤ hi) && (match offs[(k.toInt - lo).toNat]? with
  | some o => decide ((pc : Int) + o = (t : Int))
  | none => false))
def ab_swc (lo hi : Int) (ks : List Int32) : Bool := (List.range (hi - lo + 1).toNat).all fun i => ks.any fun k => decide (k.toInt = lo + (i : Int))
theorem g_sw0 {x : Int32} (k : ab_GS sy own b rt d pc L x st u w [] r) : ab_G sy own b rt d pc L (.inl x :: st) u w r := k (fun k h => absurd h List.not_mem_nil)
theorem g_sw1 {x k : Int32} {dflt lo hi : Int} {offs : Array Int} {len t : Nat} {ks : List Int32} {r0 rd : Option (τ × ab_S)} {l : List (Int32 × Option (τ × ab_S))} (hd : decode b pc = .ok (.tableswitch dflt lo hi offs, len)) (hk : ab_swk pc lo hi offs k t = true) (k1 : ab_G sy own b rt d t L st u w r0) (k2 : ab_GS sy own b rt d pc L x st u w (k :: ks) (ab_sw x l rd)) : ab_GS sy own b rt d pc L x st u w ks (ab_sw x ((k, r0) :: l) rd) := by
  intro hks z u' hx p l e s m args below meth c H locs ls E hfl F hret hlk hml X hl hL hst
  obtain ⟨h1, h2⟩ := ab_cnd (show (bif decide (x = k) then r0 else ab_sw x _ rd) = some (z, u') from hx)
  by_cases e1 : x = k
  · subst e1
    simp only [ab_swk, Bool.and_eq_true, decide_eq_true_eq] at hk
    obtain ⟨a1, a2, a3⟩ := hk
    split at a3
    · rename_i o ho
      exact lv_tableIn F.1 F.2.1 hd (by omega) (by omega) ho (by simpa using a3) (k1 z u' (h1 rfl) p l e s m args below meth c H locs ls E hfl F hret hlk hml X hl hL hst.tl)
    · cases a3
  · exact k2 (fun q hq => (List.mem_cons.mp hq).elim (fun e => by rw [e]; exact e1) (hks q)) z u' (h2 e1) p l e s m args below meth c H locs ls E hfl F hret hlk hml X hl hL hst
theorem g_swd {x : Int32} {dflt lo hi : Int} {offs : Array Int} {len tgd : Nat} {ks : List Int32} {rd : Option (τ × ab_S)} (hd : decode b pc = .ok (.tableswitch dflt lo hi offs, len)) (ht : (pc : Int) + dflt = (tgd : Int)) (hc : ab_swc lo hi ks = true) (kd : ab_G sy own b rt d tgd L st u w rd) : ab_GS sy own b rt d pc L x st u w ks (ab_sw x [] rd) := by
  intro hks z u' hx p l e s m args below meth c H locs ls E hfl F hret hlk hml X hl hL hst
  refine lv_tableOut F.1 F.2.1 hd ?_ ht (kd z u' hx p l e s m args below meth c H locs ls E hfl F hret hlk hml X hl hL hst.tl)
  by_cases q1 : x.toInt < lo
  · exact Or.inl q1
  · refine Or.inr (Int.not_le.mp fun q2 => ?_)
    have h1 := List.all_eq_true.mp hc (x.toInt - lo).toNat (List.mem_range.mpr (by omega))
    obtain ⟨k, h2, h3⟩ := List.any_eq_true.mp h1
    rw [decide_eq_true_eq] at h3
    exact hks k h2 (Int32.toInt_inj.mp (by rw [h3]; omega))
end ABM
-- links to Math
theorem lm14_92 : ab_lp 14 92 Lib.Math.max.name := (ab_inT 566 (by decide +kernel) (by decide +kernel))
theorem lm14_38 : ab_lp 14 38 Lib.Math.min.name := (ab_inT 569 (by decide +kernel) (by decide +kernel))
theorem lm6_46 : ab_lp 6 46 Lib.Math.max.name := (ab_inT 624 (by decide +kernel) (by decide +kernel))
theorem lm2_216 : ab_lp 2 216 Lib.Math.min.name := (ab_inT 835 (by decide +kernel) (by decide +kernel))
theorem lm2_221 : ab_lp 2 221 Lib.Math.max.name := (ab_inT 836 (by decide +kernel) (by decide +kernel))
theorem lm8_185 : ab_lp 8 185 Lib.Math.min.name := (ab_inT 961 (by decide +kernel) (by decide +kernel))
theorem lm5_123 : ab_lp 5 123 Lib.Math.min.name := (ab_inT 1038 (by decide +kernel) (by decide +kernel))
theorem lm8_210 : ab_lp 8 210 Lib.Math.max.name := (ab_inT 1094 (by decide +kernel) (by decide +kernel))
theorem lm0_72 : ab_lp 0 72 Lib.Math.max.name := (ab_inT 1214 (by decide +kernel) (by decide +kernel))
end
section
/-! methods, printed by program out of the listing: function, walk, contract -/
def fX6_takeBytes_43 (k3 : Int64 → Int32 → ab_S → Option (Unit × ab_S)) (v1 : Int64) (v3 : Int32) (v4 : Int32) (s0 : Int32) (u : ab_S) : Option (Unit × ab_S) :=
  bif decide (s0 = 0) then (
    k3 v1 (v3 + (-8)) u)
  else (
    bif decide ((u.1 1 1) < 0) then (
      k3 v1 (v3 + (-8)) u)
    else (
      bif decide ((u.1 1 1) < 1000) then (
        ab_gd [ab_ix (u.1 1 1) 1000, ab_c1 ((Int32.toUInt32 v4 % 65536).toInt32)] (
          k3 v1 (v3 + (-8)) (sI (sI u 2 (nc (u.1 1 1)) ((Int32.toUInt32 v4 % 65536).toInt32)) 1 1 (((sI u 2 (nc (u.1 1 1)) ((Int32.toUInt32 v4 % 65536).toInt32)).1 1 1) + 1))))
      else (
        k3 v1 (v3 + (-8)) u)))
theorem tX6_takeBytes_43 (k3 : Int64 → Int32 → ab_S → Option (Unit × ab_S)) (hk3 : ∀ (v1 : Int64) (v3 : Int32) (u : ab_S), ab_G 0 6 cX6_takeBytes none 0 3 [some (vR (kO 6) 1), some (vL v1), none, some (vI v3), none, none] [] u wV (k3 v1 v3 u)) (v1 : Int64) (v3 : Int32) (v4 : Int32) (s0 : Int32) (u : ab_S) : ab_G 0 6 cX6_takeBytes none 0 43 [some (vR (kO 6) 1), some (vL v1), none, some (vI v3), some (vI v4), none] [vI s0] u wV (fX6_takeBytes_43 k3 v1 v3 v4 s0 u) := by
  rw [fX6_takeBytes_43]
  refine g_seg0 (pc' := 47) (L' := [some (vR (kO 6) 1), some (vL v1), none, some (vI v3), some (vI v4), some (vI s0)]) (st' := [vI s0]) (u1 := u) [(oL 3 5, 2), (oL 0 5, 2)] (by decide +kernel) rfl rfl ?_
  refine g_zeq (off := 44) (tgt := 91) (pc2 := 50) (by decide +kernel) (by decide) rfl ?_ ?_
  · refine g_seg0 (pc' := 94) (L' := [some (vR (kO 6) 1), some (vL v1), none, some (vI (v3 + (-8))), some (vI v4), some (vI s0)]) (st' := []) (u1 := u) [(oN 3 (-8), 3)] (by decide +kernel) rfl rfl ?_
    refine g_goto (off := (-91)) (tgt := 3) (by decide +kernel) (by decide) ?_
    exact g_jump [true, true, false, true, false, false] rfl (hk3 v1 (v3 + (-8)) u)
  · refine g_seg0 (pc' := 54) (L' := [some (vR (kO 6) 1), some (vL v1), none, some (vI v3), some (vI v4), some (vI s0)]) (st' := [vI (u.1 1 1)]) (u1 := u) [(oL 2 0, 1), (oP (.getfield 28), 3)] (by decide +kernel) rfl rfl ?_
    refine g_zlt (off := 37) (tgt := 91) (pc2 := 57) (by decide +kernel) (by decide) rfl ?_ ?_
    · refine g_seg0 (pc' := 94) (L' := [some (vR (kO 6) 1), some (vL v1), none, some (vI (v3 + (-8))), some (vI v4), some (vI s0)]) (st' := []) (u1 := u) [(oN 3 (-8), 3)] (by decide +kernel) rfl rfl ?_
      refine g_goto (off := (-91)) (tgt := 3) (by decide +kernel) (by decide) ?_
      exact g_jump [true, true, false, true, false, false] rfl (hk3 v1 (v3 + (-8)) u)
    · refine g_seg0 (pc' := 66) (L' := [some (vR (kO 6) 1), some (vL v1), none, some (vI v3), some (vI v4), some (vI s0)]) (st' := [vI 1000, vI (u.1 1 1)]) (u1 := u) [(oL 2 0, 1), (oP (.getfield 28), 3), (oL 2 0, 1), (oP (.getfield 9), 3), (oP .arraylength, 1)] (by decide +kernel) rfl rfl ?_
      refine g_ige (off := 25) (tgt := 91) (pc2 := 69) (by decide +kernel) (by decide) rfl ?_ ?_
      · refine g_seg0 (pc' := 94) (L' := [some (vR (kO 6) 1), some (vL v1), none, some (vI (v3 + (-8))), some (vI v4), some (vI s0)]) (st' := []) (u1 := u) [(oN 3 (-8), 3)] (by decide +kernel) rfl rfl ?_
        refine g_goto (off := (-91)) (tgt := 3) (by decide +kernel) (by decide) ?_
        exact g_jump [true, true, false, true, false, false] rfl (hk3 v1 (v3 + (-8)) u)
      · refine g_seg (pc' := 94) (L' := [some (vR (kO 6) 1), some (vL v1), none, some (vI (v3 + (-8))), some (vI v4), some (vI s0)]) (st' := []) (u1 := (sI (sI u 2 (nc (u.1 1 1)) ((Int32.toUInt32 v4 % 65536).toInt32)) 1 1 (((sI u 2 (nc (u.1 1 1)) ((Int32.toUInt32 v4 % 65536).toInt32)).1 1 1) + 1))) [(oL 2 0, 1), (oP (.getfield 9), 3), (oL 2 0, 1), (oP (.getfield 28), 3), (oL 0 4, 2), (oP .i2c, 1), (oP .castore, 1), (oL 2 0, 1), (oP .dup, 1), (oP (.getfield 28), 3), (oC 1, 1), (oP .iadd, 1), (oP (.putfield 28), 3), (oN 3 (-8), 3)] (by decide +kernel) rfl rfl ?_
        refine g_goto (off := (-91)) (tgt := 3) (by decide +kernel) (by decide) ?_
        exact g_jump [true, true, false, true, false, false] rfl (hk3 v1 (v3 + (-8)) (sI (sI u 2 (nc (u.1 1 1)) ((Int32.toUInt32 v4 % 65536).toInt32)) 1 1 (((sI u 2 (nc (u.1 1 1)) ((Int32.toUInt32 v4 % 65536).toInt32)).1 1 1) + 1)))
def fX6_takeBytes_3 : Nat → Int64 → Int32 → ab_S → Option (Unit × ab_S)
  | 0, _, _, _ => none
  | n + 1, v1, v3, u =>
  bif decide (v3 < 0) then (
    some ((), u))
  else (
    bif decide ((Int64.toInt32 (((Int64.toUInt64 v1 >>> ((Int32.toInt64 v3).toUInt64 &&& Int64.toUInt64 63)).toInt64) &&& 255)) = 10) then (
      fX6_takeBytes_43 (fX6_takeBytes_3 n) v1 v3 (Int64.toInt32 (((Int64.toUInt64 v1 >>> ((Int32.toInt64 v3).toUInt64 &&& Int64.toUInt64 63)).toInt64) &&& 255)) 1 u)
    else (
      bif decide ((Int64.toInt32 (((Int64.toUInt64 v1 >>> ((Int32.toInt64 v3).toUInt64 &&& Int64.toUInt64 63)).toInt64) &&& 255)) < 32) then (
        fX6_takeBytes_43 (fX6_takeBytes_3 n) v1 v3 (Int64.toInt32 (((Int64.toUInt64 v1 >>> ((Int32.toInt64 v3).toUInt64 &&& Int64.toUInt64 63)).toInt64) &&& 255)) 0 u)
      else (
        bif decide ((Int64.toInt32 (((Int64.toUInt64 v1 >>> ((Int32.toInt64 v3).toUInt64 &&& Int64.toUInt64 63)).toInt64) &&& 255)) ≤ 126) then (
          fX6_takeBytes_43 (fX6_takeBytes_3 n) v1 v3 (Int64.toInt32 (((Int64.toUInt64 v1 >>> ((Int32.toInt64 v3).toUInt64 &&& Int64.toUInt64 63)).toInt64) &&& 255)) 1 u)
        else (
          fX6_takeBytes_43 (fX6_takeBytes_3 n) v1 v3 (Int64.toInt32 (((Int64.toUInt64 v1 >>> ((Int32.toInt64 v3).toUInt64 &&& Int64.toUInt64 63)).toInt64) &&& 255)) 0 u))))
theorem tX6_takeBytes_3 : ∀ (n : Nat) (v1 : Int64) (v3 : Int32) (u : ab_S), ab_G 0 6 cX6_takeBytes none 0 3 [some (vR (kO 6) 1), some (vL v1), none, some (vI v3), none, none] [] u wV (fX6_takeBytes_3 n v1 v3 u) := by
  intro n
  induction n with
  | zero => intros; exact g_none
  | succ n ih =>
    intro v1 v3 u
    rw [fX6_takeBytes_3]
    refine g_seg0 (pc' := 4) (L' := [some (vR (kO 6) 1), some (vL v1), none, some (vI v3), none, none]) (st' := [vI v3]) (u1 := u) [(oL 0 3, 1)] (by decide +kernel) rfl rfl ?_
    refine g_zlt (off := 93) (tgt := 97) (pc2 := 7) (by decide +kernel) (by decide) rfl ?_ ?_
    · exact g_vret (by decide +kernel) rfl
    · refine g_seg0 (pc' := 21) (L' := [some (vR (kO 6) 1), some (vL v1), none, some (vI v3), some (vI (Int64.toInt32 (((Int64.toUInt64 v1 >>> ((Int32.toInt64 v3).toUInt64 &&& Int64.toUInt64 63)).toInt64) &&& 255))), none]) (st' := [vI 10, vI (Int64.toInt32 (((Int64.toUInt64 v1 >>> ((Int32.toInt64 v3).toUInt64 &&& Int64.toUInt64 63)).toInt64) &&& 255))]) (u1 := u) [(oL 1 1, 1), (oL 0 3, 1), (oP .lushr, 1), (oD 255, 3), (oP .land, 1), (oP .l2i, 1), (oL 3 4, 2), (oL 0 4, 2), (oC 10, 2)] (by decide +kernel) rfl rfl ?_
      refine g_ieq (off := 17) (tgt := 38) (pc2 := 24) (by decide +kernel) (by decide) rfl ?_ ?_
      · refine g_seg0 (pc' := 39) (L' := [some (vR (kO 6) 1), some (vL v1), none, some (vI v3), some (vI (Int64.toInt32 (((Int64.toUInt64 v1 >>> ((Int32.toInt64 v3).toUInt64 &&& Int64.toUInt64 63)).toInt64) &&& 255))), none]) (st' := [vI 1]) (u1 := u) [(oC 1, 1)] (by decide +kernel) rfl rfl ?_
        refine g_goto (off := 4) (tgt := 43) (by decide +kernel) (by decide) ?_
        exact tX6_takeBytes_43 (fX6_takeBytes_3 n) ih v1 v3 (Int64.toInt32 (((Int64.toUInt64 v1 >>> ((Int32.toInt64 v3).toUInt64 &&& Int64.toUInt64 63)).toInt64) &&& 255)) 1 u
      · refine g_seg0 (pc' := 28) (L' := [some (vR (kO 6) 1), some (vL v1), none, some (vI v3), some (vI (Int64.toInt32 (((Int64.toUInt64 v1 >>> ((Int32.toInt64 v3).toUInt64 &&& Int64.toUInt64 63)).toInt64) &&& 255))), none]) (st' := [vI 32, vI (Int64.toInt32 (((Int64.toUInt64 v1 >>> ((Int32.toInt64 v3).toUInt64 &&& Int64.toUInt64 63)).toInt64) &&& 255))]) (u1 := u) [(oL 0 4, 2), (oC 32, 2)] (by decide +kernel) rfl rfl ?_
        refine g_ilt (off := 14) (tgt := 42) (pc2 := 31) (by decide +kernel) (by decide) rfl ?_ ?_
        · refine g_seg0 (pc' := 43) (L' := [some (vR (kO 6) 1), some (vL v1), none, some (vI v3), some (vI (Int64.toInt32 (((Int64.toUInt64 v1 >>> ((Int32.toInt64 v3).toUInt64 &&& Int64.toUInt64 63)).toInt64) &&& 255))), none]) (st' := [vI 0]) (u1 := u) [(oC 0, 1)] (by decide +kernel) rfl rfl ?_
          exact tX6_takeBytes_43 (fX6_takeBytes_3 n) ih v1 v3 (Int64.toInt32 (((Int64.toUInt64 v1 >>> ((Int32.toInt64 v3).toUInt64 &&& Int64.toUInt64 63)).toInt64) &&& 255)) 0 u
        · refine g_seg0 (pc' := 35) (L' := [some (vR (kO 6) 1), some (vL v1), none, some (vI v3), some (vI (Int64.toInt32 (((Int64.toUInt64 v1 >>> ((Int32.toInt64 v3).toUInt64 &&& Int64.toUInt64 63)).toInt64) &&& 255))), none]) (st' := [vI 126, vI (Int64.toInt32 (((Int64.toUInt64 v1 >>> ((Int32.toInt64 v3).toUInt64 &&& Int64.toUInt64 63)).toInt64) &&& 255))]) (u1 := u) [(oL 0 4, 2), (oC 126, 2)] (by decide +kernel) rfl rfl ?_
          refine g_igt (off := 7) (tgt := 42) (pc2 := 38) (by decide +kernel) (by decide) rfl ?_ ?_
          · refine g_seg0 (pc' := 43) (L' := [some (vR (kO 6) 1), some (vL v1), none, some (vI v3), some (vI (Int64.toInt32 (((Int64.toUInt64 v1 >>> ((Int32.toInt64 v3).toUInt64 &&& Int64.toUInt64 63)).toInt64) &&& 255))), none]) (st' := [vI 0]) (u1 := u) [(oC 0, 1)] (by decide +kernel) rfl rfl ?_
            exact tX6_takeBytes_43 (fX6_takeBytes_3 n) ih v1 v3 (Int64.toInt32 (((Int64.toUInt64 v1 >>> ((Int32.toInt64 v3).toUInt64 &&& Int64.toUInt64 63)).toInt64) &&& 255)) 0 u
          · refine g_seg0 (pc' := 39) (L' := [some (vR (kO 6) 1), some (vL v1), none, some (vI v3), some (vI (Int64.toInt32 (((Int64.toUInt64 v1 >>> ((Int32.toInt64 v3).toUInt64 &&& Int64.toUInt64 63)).toInt64) &&& 255))), none]) (st' := [vI 1]) (u1 := u) [(oC 1, 1)] (by decide +kernel) rfl rfl ?_
            refine g_goto (off := 4) (tgt := 43) (by decide +kernel) (by decide) ?_
            exact tX6_takeBytes_43 (fX6_takeBytes_3 n) ih v1 v3 (Int64.toInt32 (((Int64.toUInt64 v1 >>> ((Int32.toInt64 v3).toUInt64 &&& Int64.toUInt64 63)).toInt64) &&& 255)) 1 u
def fX6_takeBytes (v1 : Int64) (u : ab_S) : Option (Unit × ab_S) :=
  fX6_takeBytes_3 fu v1 56 u
theorem tX6_takeBytes (v1 : Int64) (u : ab_S) : ab_G 0 6 cX6_takeBytes none 0 0 [some (vR (kO 6) 1), some (vL v1), none, none, none, none] [] u wV (fX6_takeBytes v1 u) := by
  rw [fX6_takeBytes]
  refine g_seg0 (pc' := 3) (L' := [some (vR (kO 6) 1), some (vL v1), none, some (vI 56), none, none]) (st' := []) (u1 := u) [(oC 56, 2), (oL 3 3, 1)] (by decide +kernel) rfl rfl ?_
  exact tX6_takeBytes_3 fu v1 56 u
theorem CX6_takeBytes (v1 : Int64) (u : ab_S) : ab_C 0 yX6_takeBytes cX6_takeBytes 6 none 0 [vR (kO 6) 1, vL v1] u wV (fX6_takeBytes v1 u) := ab_entry (by decide +kernel) rfl (by decide) (by decide) (fun _ => Nat.le_of_ble_eq_true rfl) rfl (tX6_takeBytes v1 u)
def fX9_feed (v1 : Int64) (v3 : Int64) (v5 : Int64) (u : ab_S) : Option (Int32 × ab_S) :=
  (fX6_takeBytes v1 u).bind fun q1 =>
    (fX6_takeBytes v3 q1.2).bind fun q2 =>
      (fX6_takeBytes v5 q2.2).bind fun q3 =>
        some ((q3.2.1 1 1), q3.2)
theorem tX9_feed (v1 : Int64) (v3 : Int64) (v5 : Int64) (u : ab_S) : ab_G 0 8 cX9_feed (some .int) 1 0 [some (vR (kO 8) 0), some (vL v1), none, some (vL v3), none, some (vL v5), none] [] u wI (fX9_feed v1 v3 v5 u) := by
  rw [fX9_feed]
  refine g_seg0 (pc' := 5) (L' := [some (vR (kO 8) 0), some (vL v1), none, some (vL v3), none, some (vL v5), none]) (st' := [vL v1, vR (kO 6) 1]) (u1 := u) [(oL 2 0, 1), (oP (.getfield 10), 3), (oL 1 1, 1)] (by decide +kernel) rfl rfl ?_
  refine g_callV (k := 82) (pc2 := 8) (st := []) (CX6_takeBytes v1 u) miX6_takeBytes mvX6_takeBytes rfl (by decide) lk8_82 wV_ok (by decide +kernel) rfl (Nat.le_of_ble_eq_true rfl) (by decide) rfl (fun q1 hq1 => ?_)
  refine g_seg0 (pc' := 13) (L' := [some (vR (kO 8) 0), some (vL v1), none, some (vL v3), none, some (vL v5), none]) (st' := [vL v3, vR (kO 6) 1]) (u1 := q1.2) [(oL 2 0, 1), (oP (.getfield 10), 3), (oL 1 3, 1)] (by decide +kernel) rfl rfl ?_
  refine g_callV (k := 82) (pc2 := 16) (st := []) (CX6_takeBytes v3 q1.2) miX6_takeBytes mvX6_takeBytes rfl (by decide) lk8_82 wV_ok (by decide +kernel) rfl (Nat.le_of_ble_eq_true rfl) (by decide) rfl (fun q2 hq2 => ?_)
  refine g_seg0 (pc' := 22) (L' := [some (vR (kO 8) 0), some (vL v1), none, some (vL v3), none, some (vL v5), none]) (st' := [vL v5, vR (kO 6) 1]) (u1 := q2.2) [(oL 2 0, 1), (oP (.getfield 10), 3), (oL 1 5, 2)] (by decide +kernel) rfl rfl ?_
  refine g_callV (k := 82) (pc2 := 25) (st := []) (CX6_takeBytes v5 q2.2) miX6_takeBytes mvX6_takeBytes rfl (by decide) lk8_82 wV_ok (by decide +kernel) rfl (Nat.le_of_ble_eq_true rfl) (by decide) rfl (fun q3 hq3 => ?_)
  refine g_seg0 (pc' := 32) (L' := [some (vR (kO 8) 0), some (vL v1), none, some (vL v3), none, some (vL v5), none]) (st' := [vI (q3.2.1 1 1)]) (u1 := q3.2) [(oL 2 0, 1), (oP (.getfield 10), 3), (oP (.getfield 86), 3)] (by decide +kernel) rfl rfl ?_
  exact g_iret (by decide +kernel) rfl
theorem CX9_feed (v1 : Int64) (v3 : Int64) (v5 : Int64) (u : ab_S) : ab_C 0 yX9_feed cX9_feed 7 (some .int) 1 [vR (kO 8) 0, vL v1, vL v3, vL v5] u wI (fX9_feed v1 v3 v5 u) := ab_entry (by decide +kernel) rfl (by decide) (by decide) (fun _ => Nat.le_of_ble_eq_true rfl) rfl (tX9_feed v1 v3 v5 u)
def fX6_signAt (v1 : Int32) (u : ab_S) : Option (Int32 × ab_S) :=
  bif decide (v1 < 0) then (
    ab_gd [ab_c1 0] (some (0, u)))
  else (
    bif decide (v1 < 1000) then (
      ab_gd [ab_ix v1 1000] (
        ab_gd [ab_c1 (u.1 2 (nc v1))] (some ((u.1 2 (nc v1)), u))))
    else (
      ab_gd [ab_c1 0] (some (0, u))))
theorem tX6_signAt (v1 : Int32) (u : ab_S) : ab_G 0 6 cX6_signAt (some .char) 0 0 [some (vR (kO 6) 1), some (vI v1)] [] u wI (fX6_signAt v1 u) := by
  rw [fX6_signAt]
  refine g_seg0 (pc' := 1) (L' := [some (vR (kO 6) 1), some (vI v1)]) (st' := [vI v1]) (u1 := u) [(oL 0 1, 1)] (by decide +kernel) rfl rfl ?_
  refine g_zlt (off := 21) (tgt := 22) (pc2 := 4) (by decide +kernel) (by decide) rfl ?_ ?_
  · refine g_seg0 (pc' := 23) (L' := [some (vR (kO 6) 1), some (vI v1)]) (st' := [vI 0]) (u1 := u) [(oC 0, 1)] (by decide +kernel) rfl rfl ?_
    exact g_cret (by decide +kernel) rfl
  · refine g_seg0 (pc' := 10) (L' := [some (vR (kO 6) 1), some (vI v1)]) (st' := [vI 1000, vI v1]) (u1 := u) [(oL 0 1, 1), (oL 2 0, 1), (oP (.getfield 9), 3), (oP .arraylength, 1)] (by decide +kernel) rfl rfl ?_
    refine g_ige (off := 12) (tgt := 22) (pc2 := 13) (by decide +kernel) (by decide) rfl ?_ ?_
    · refine g_seg0 (pc' := 23) (L' := [some (vR (kO 6) 1), some (vI v1)]) (st' := [vI 0]) (u1 := u) [(oC 0, 1)] (by decide +kernel) rfl rfl ?_
      exact g_cret (by decide +kernel) rfl
    · refine g_seg (pc' := 19) (L' := [some (vR (kO 6) 1), some (vI v1)]) (st' := [vI (u.1 2 (nc v1))]) (u1 := u) [(oL 2 0, 1), (oP (.getfield 9), 3), (oL 0 1, 1), (oP .caload, 1)] (by decide +kernel) rfl rfl ?_
      refine g_goto (off := 4) (tgt := 23) (by decide +kernel) (by decide) ?_
      exact g_cret (by decide +kernel) rfl
theorem CX6_signAt (v1 : Int32) (u : ab_S) : ab_C 0 yX6_signAt cX6_signAt 2 (some .char) 0 [vR (kO 6) 1, vI v1] u wI (fX6_signAt v1 u) := ab_entry (by decide +kernel) rfl (by decide) (by decide) (fun _ => Nat.le_of_ble_eq_true rfl) rfl (tX6_signAt v1 u)
def fX6_add (v1 : Int32) (v2 : Int32) (v3 : Int64) (u : ab_S) : Option (Unit × ab_S) :=
  bif decide ((u.1 1 5) < 0) then (
    some ((), u))
  else (
    bif decide ((u.1 1 5) < 1001) then (
      bif decide ((u.1 1 5) < 1001) then (
        bif decide ((u.1 1 5) < 1001) then (
          ab_gd [ab_ix (u.1 1 5) 1001, ab_ix ((sI u 3 (nc (u.1 1 5)) v1).1 1 5) 1001, ab_ix ((sI (sI u 3 (nc (u.1 1 5)) v1) 4 (nc ((sI u 3 (nc (u.1 1 5)) v1).1 1 5)) v2).1 1 5) 1001] (
            some ((), (sI (sJ (sI (sI u 3 (nc (u.1 1 5)) v1) 4 (nc ((sI u 3 (nc (u.1 1 5)) v1).1 1 5)) v2) 5 (nc ((sI (sI u 3 (nc (u.1 1 5)) v1) 4 (nc ((sI u 3 (nc (u.1 1 5)) v1).1 1 5)) v2).1 1 5)) v3) 1 5 (((sJ (sI (sI u 3 (nc (u.1 1 5)) v1) 4 (nc ((sI u 3 (nc (u.1 1 5)) v1).1 1 5)) v2) 5 (nc ((sI (sI u 3 (nc (u.1 1 5)) v1) 4 (nc ((sI u 3 (nc (u.1 1 5)) v1).1 1 5)) v2).1 1 5)) v3).1 1 5) + 1)))))
        else (
          some ((), u)))
      else (
        some ((), u)))
    else (
      some ((), u)))
theorem tX6_add (v1 : Int32) (v2 : Int32) (v3 : Int64) (u : ab_S) : ab_G 0 6 cX6_add none 0 0 [some (vR (kO 6) 1), some (vI v1), some (vI v2), some (vL v3), none] [] u wV (fX6_add v1 v2 v3 u) := by
  rw [fX6_add]
  refine g_seg0 (pc' := 4) (L' := [some (vR (kO 6) 1), some (vI v1), some (vI v2), some (vL v3), none]) (st' := [vI (u.1 1 5)]) (u1 := u) [(oL 2 0, 1), (oP (.getfield 32), 3)] (by decide +kernel) rfl rfl ?_
  refine g_zlt (off := 79) (tgt := 83) (pc2 := 7) (by decide +kernel) (by decide) rfl ?_ ?_
  · exact g_vret (by decide +kernel) rfl
  · refine g_seg0 (pc' := 16) (L' := [some (vR (kO 6) 1), some (vI v1), some (vI v2), some (vL v3), none]) (st' := [vI 1001, vI (u.1 1 5)]) (u1 := u) [(oL 2 0, 1), (oP (.getfield 32), 3), (oL 2 0, 1), (oP (.getfield 15), 3), (oP .arraylength, 1)] (by decide +kernel) rfl rfl ?_
    refine g_ige (off := 67) (tgt := 83) (pc2 := 19) (by decide +kernel) (by decide) rfl ?_ ?_
    · exact g_vret (by decide +kernel) rfl
    · refine g_seg0 (pc' := 28) (L' := [some (vR (kO 6) 1), some (vI v1), some (vI v2), some (vL v3), none]) (st' := [vI 1001, vI (u.1 1 5)]) (u1 := u) [(oL 2 0, 1), (oP (.getfield 32), 3), (oL 2 0, 1), (oP (.getfield 19), 3), (oP .arraylength, 1)] (by decide +kernel) rfl rfl ?_
      refine g_ige (off := 55) (tgt := 83) (pc2 := 31) (by decide +kernel) (by decide) rfl ?_ ?_
      · exact g_vret (by decide +kernel) rfl
      · refine g_seg0 (pc' := 40) (L' := [some (vR (kO 6) 1), some (vI v1), some (vI v2), some (vL v3), none]) (st' := [vI 1001, vI (u.1 1 5)]) (u1 := u) [(oL 2 0, 1), (oP (.getfield 32), 3), (oL 2 0, 1), (oP (.getfield 22), 3), (oP .arraylength, 1)] (by decide +kernel) rfl rfl ?_
        refine g_ige (off := 43) (tgt := 83) (pc2 := 43) (by decide +kernel) (by decide) rfl ?_ ?_
        · exact g_vret (by decide +kernel) rfl
        · refine g_seg (pc' := 83) (L' := [some (vR (kO 6) 1), some (vI v1), some (vI v2), some (vL v3), none]) (st' := []) (u1 := (sI (sJ (sI (sI u 3 (nc (u.1 1 5)) v1) 4 (nc ((sI u 3 (nc (u.1 1 5)) v1).1 1 5)) v2) 5 (nc ((sI (sI u 3 (nc (u.1 1 5)) v1) 4 (nc ((sI u 3 (nc (u.1 1 5)) v1).1 1 5)) v2).1 1 5)) v3) 1 5 (((sJ (sI (sI u 3 (nc (u.1 1 5)) v1) 4 (nc ((sI u 3 (nc (u.1 1 5)) v1).1 1 5)) v2) 5 (nc ((sI (sI u 3 (nc (u.1 1 5)) v1) 4 (nc ((sI u 3 (nc (u.1 1 5)) v1).1 1 5)) v2).1 1 5)) v3).1 1 5) + 1))) [(oL 2 0, 1), (oP (.getfield 15), 3), (oL 2 0, 1), (oP (.getfield 32), 3), (oL 0 1, 1), (oP .iastore, 1), (oL 2 0, 1), (oP (.getfield 19), 3), (oL 2 0, 1), (oP (.getfield 32), 3), (oL 0 2, 1), (oP .iastore, 1), (oL 2 0, 1), (oP (.getfield 22), 3), (oL 2 0, 1), (oP (.getfield 32), 3), (oL 1 3, 1), (oP .lastore, 1), (oL 2 0, 1), (oP .dup, 1), (oP (.getfield 32), 3), (oC 1, 1), (oP .iadd, 1), (oP (.putfield 32), 3)] (by decide +kernel) rfl rfl ?_
          exact g_vret (by decide +kernel) rfl
theorem CX6_add (v1 : Int32) (v2 : Int32) (v3 : Int64) (u : ab_S) : ab_C 0 yX6_add cX6_add 5 none 0 [vR (kO 6) 1, vI v1, vI v2, vL v3] u wV (fX6_add v1 v2 v3 u) := ab_entry (by decide +kernel) rfl (by decide) (by decide) (fun _ => Nat.le_of_ble_eq_true rfl) rfl (tX6_add v1 v2 v3 u)
def fX9_spell (v0 : Int64) (v2 : Int32) (u : ab_S) : Option (Int64 × ab_S) :=
  some (((v0 * 27) + (Int32.toInt64 ((v2 - 97) + 1))), u)
theorem tX9_spell (v0 : Int64) (v2 : Int32) (u : ab_S) : ab_G 0 8 cX9_spell (some .long) 0 0 [some (vL v0), none, some (vI v2)] [] u wJ (fX9_spell v0 v2 u) := by
  rw [fX9_spell]
  refine g_seg0 (pc' := 13) (L' := [some (vL v0), none, some (vI v2)]) (st' := [vL ((v0 * 27) + (Int32.toInt64 ((v2 - 97) + 1)))]) (u1 := u) [(oL 1 0, 1), (oD 27, 3), (oP .lmul, 1), (oL 0 2, 1), (oC 97, 2), (oP .isub, 1), (oC 1, 1), (oP .iadd, 1), (oP .i2l, 1), (oP .ladd, 1)] (by decide +kernel) rfl rfl ?_
  exact g_lret (by decide +kernel) rfl
theorem CX9_spell (v0 : Int64) (v2 : Int32) (u : ab_S) : ab_C 0 yX9_spell cX9_spell 3 (some .long) 0 [vL v0, vI v2] u wJ (fX9_spell v0 v2 u) := ab_entry (by decide +kernel) rfl (by decide) (by decide) (fun _ => Nat.le_of_ble_eq_true rfl) rfl (tX9_spell v0 v2 u)
def fX6_isLetter (v0 : Int32) (u : ab_S) : Option (Int32 × ab_S) :=
  bif decide (v0 < 97) then (
    ab_gd [ab_b1 0] (some (0, u)))
  else (
    bif decide (v0 ≤ 122) then (
      ab_gd [ab_b1 1] (some (1, u)))
    else (
      ab_gd [ab_b1 0] (some (0, u))))
theorem tX6_isLetter (v0 : Int32) (u : ab_S) : ab_G 0 6 cX6_isLetter (some .boolean) 0 0 [some (vI v0)] [] u wI (fX6_isLetter v0 u) := by
  rw [fX6_isLetter]
  refine g_seg0 (pc' := 3) (L' := [some (vI v0)]) (st' := [vI 97, vI v0]) (u1 := u) [(oL 0 0, 1), (oC 97, 2)] (by decide +kernel) rfl rfl ?_
  refine g_ilt (off := 13) (tgt := 16) (pc2 := 6) (by decide +kernel) (by decide) rfl ?_ ?_
  · refine g_seg0 (pc' := 17) (L' := [some (vI v0)]) (st' := [vI 0]) (u1 := u) [(oC 0, 1)] (by decide +kernel) rfl rfl ?_
    exact g_zret (by decide +kernel) rfl
  · refine g_seg0 (pc' := 9) (L' := [some (vI v0)]) (st' := [vI 122, vI v0]) (u1 := u) [(oL 0 0, 1), (oC 122, 2)] (by decide +kernel) rfl rfl ?_
    refine g_igt (off := 7) (tgt := 16) (pc2 := 12) (by decide +kernel) (by decide) rfl ?_ ?_
    · refine g_seg0 (pc' := 17) (L' := [some (vI v0)]) (st' := [vI 0]) (u1 := u) [(oC 0, 1)] (by decide +kernel) rfl rfl ?_
      exact g_zret (by decide +kernel) rfl
    · refine g_seg0 (pc' := 13) (L' := [some (vI v0)]) (st' := [vI 1]) (u1 := u) [(oC 1, 1)] (by decide +kernel) rfl rfl ?_
      refine g_goto (off := 4) (tgt := 17) (by decide +kernel) (by decide) ?_
      exact g_zret (by decide +kernel) rfl
theorem CX6_isLetter (v0 : Int32) (u : ab_S) : ab_C 0 yX6_isLetter cX6_isLetter 1 (some .boolean) 0 [vI v0] u wI (fX6_isLetter v0 u) := ab_entry (by decide +kernel) rfl (by decide) (by decide) (fun _ => Nat.le_of_ble_eq_true rfl) rfl (tX6_isLetter v0 u)
def fX6_scanWord_53 (v1 : Int32) (v2 : Int32) (v3 : Int64) (s1 : Int32) (u : ab_S) : Option (Int32 × ab_S) :=
  (fX6_add s1 v1 v3 u).bind fun q1 =>
    some (v2, q1.2)
theorem tX6_scanWord_53 (v1 : Int32) (v2 : Int32) (v3 : Int64) (s1 : Int32) (u : ab_S) : ab_G 0 6 cX6_scanWord (some .int) 1 53 [none, some (vI v1), some (vI v2), some (vL v3), none] [vI s1, vR (kO 6) 1] u wI (fX6_scanWord_53 v1 v2 v3 s1 u) := by
  rw [fX6_scanWord_53]
  refine g_seg0 (pc' := 55) (L' := [none, some (vI v1), some (vI v2), some (vL v3), none]) (st' := [vL v3, vI v1, vI s1, vR (kO 6) 1]) (u1 := u) [(oL 0 1, 1), (oL 1 3, 1)] (by decide +kernel) rfl rfl ?_
  refine g_callV (k := 52) (pc2 := 58) (st := []) (CX6_add s1 v1 v3 u) miX6_add mvX6_add rfl (by decide) lk6_52 wV_ok (by decide +kernel) rfl (Nat.le_of_ble_eq_true rfl) (by decide) rfl (fun q1 hq1 => ?_)
  refine g_seg0 (pc' := 59) (L' := [none, some (vI v1), some (vI v2), some (vL v3), none]) (st' := [vI v2]) (u1 := q1.2) [(oL 0 2, 1)] (by decide +kernel) rfl rfl ?_
  exact g_iret (by decide +kernel) rfl
def fX6_scanWord_39 (v1 : Int32) (v2 : Int32) (v3 : Int64) (u : ab_S) : Option (Int32 × ab_S) :=
  bif decide ((v2 - v1) ≤ 8) then (
    fX6_scanWord_53 v1 v2 v3 2 u)
  else (
    fX6_scanWord_53 v1 v2 v3 1 u)
theorem tX6_scanWord_39 (v1 : Int32) (v2 : Int32) (v3 : Int64) (u : ab_S) : ab_G 0 6 cX6_scanWord (some .int) 1 39 [some (vR (kO 6) 1), some (vI v1), some (vI v2), some (vL v3), none] [] u wI (fX6_scanWord_39 v1 v2 v3 u) := by
  rw [fX6_scanWord_39]
  refine g_seg0 (pc' := 45) (L' := [some (vR (kO 6) 1), some (vI v1), some (vI v2), some (vL v3), none]) (st' := [vI 8, vI (v2 - v1), vR (kO 6) 1]) (u1 := u) [(oL 2 0, 1), (oL 0 2, 1), (oL 0 1, 1), (oP .isub, 1), (oC 8, 2)] (by decide +kernel) rfl rfl ?_
  refine g_igt (off := 7) (tgt := 52) (pc2 := 48) (by decide +kernel) (by decide) rfl ?_ ?_
  · refine g_seg0 (pc' := 53) (L' := [some (vR (kO 6) 1), some (vI v1), some (vI v2), some (vL v3), none]) (st' := [vI 1, vR (kO 6) 1]) (u1 := u) [(oC 1, 1)] (by decide +kernel) rfl rfl ?_
    exact g_jump [false, true, true, true, false] rfl (tX6_scanWord_53 v1 v2 v3 1 u)
  · refine g_seg0 (pc' := 49) (L' := [some (vR (kO 6) 1), some (vI v1), some (vI v2), some (vL v3), none]) (st' := [vI 2, vR (kO 6) 1]) (u1 := u) [(oC 2, 1)] (by decide +kernel) rfl rfl ?_
    refine g_goto (off := 4) (tgt := 53) (by decide +kernel) (by decide) ?_
    exact g_jump [false, true, true, true, false] rfl (tX6_scanWord_53 v1 v2 v3 2 u)
def fX6_scanWord_4 : Nat → Int32 → Int32 → Int64 → ab_S → Option (Int32 × ab_S)
  | 0, _, _, _, _ => none
  | n + 1, v1, v2, v3, u =>
  bif decide (v2 < (u.1 1 1)) then (
    (fX6_signAt v2 u).bind fun q2 =>
      (fX6_isLetter q2.1 q2.2).bind fun q3 =>
        bif decide (q3.1 = 0) then (
          fX6_scanWord_39 v1 v2 v3 q3.2)
        else (
          (fX6_signAt v2 q3.2).bind fun q4 =>
            (fX9_spell v3 q4.1 q4.2).bind fun q5 =>
              (fX6_scanWord_4 n) v1 (v2 + 1) q5.1 q5.2))
  else (
    fX6_scanWord_39 v1 v2 v3 u)
theorem tX6_scanWord_4 : ∀ (n : Nat) (v1 : Int32) (v2 : Int32) (v3 : Int64) (u : ab_S), ab_G 0 6 cX6_scanWord (some .int) 1 4 [some (vR (kO 6) 1), some (vI v1), some (vI v2), some (vL v3), none] [] u wI (fX6_scanWord_4 n v1 v2 v3 u) := by
  intro n
  induction n with
  | zero => intros; exact g_none
  | succ n ih =>
    intro v1 v2 v3 u
    rw [fX6_scanWord_4]
    refine g_seg0 (pc' := 9) (L' := [some (vR (kO 6) 1), some (vI v1), some (vI v2), some (vL v3), none]) (st' := [vI (u.1 1 1), vI v2]) (u1 := u) [(oL 0 2, 1), (oL 2 0, 1), (oP (.getfield 28), 3)] (by decide +kernel) rfl rfl ?_
    refine g_ige (off := 30) (tgt := 39) (pc2 := 12) (by decide +kernel) (by decide) rfl ?_ ?_
    · exact tX6_scanWord_39 v1 v2 v3 u
    · refine g_seg0 (pc' := 14) (L' := [some (vR (kO 6) 1), some (vI v1), some (vI v2), some (vL v3), none]) (st' := [vI v2, vR (kO 6) 1]) (u1 := u) [(oL 2 0, 1), (oL 0 2, 1)] (by decide +kernel) rfl rfl ?_
      refine g_callV (k := 38) (pc2 := 17) (st := []) (CX6_signAt v2 u) miX6_signAt mvX6_signAt rfl (by decide) lk6_38 wI_ok (by decide +kernel) rfl (Nat.le_of_ble_eq_true rfl) (by decide) rfl (fun q2 hq2 => ?_)
      refine g_callS (k := 62) (pc2 := 20) (st := []) (CX6_isLetter q2.1 q2.2) miX6_isLetter msX6_isLetter lk6_62 wI_ok (by decide +kernel) rfl (Nat.le_of_ble_eq_true rfl) (by decide) rfl (fun q3 hq3 => ?_)
      refine g_zeq (off := 19) (tgt := 39) (pc2 := 23) (by decide +kernel) (by decide) rfl ?_ ?_
      · exact tX6_scanWord_39 v1 v2 v3 q3.2
      · refine g_seg0 (pc' := 26) (L' := [some (vR (kO 6) 1), some (vI v1), some (vI v2), some (vL v3), none]) (st' := [vI v2, vR (kO 6) 1, vL v3]) (u1 := q3.2) [(oL 1 3, 1), (oL 2 0, 1), (oL 0 2, 1)] (by decide +kernel) rfl rfl ?_
        refine g_callV (k := 38) (pc2 := 29) (st := [vL v3]) (CX6_signAt v2 q3.2) miX6_signAt mvX6_signAt rfl (by decide) lk6_38 wI_ok (by decide +kernel) rfl (Nat.le_of_ble_eq_true rfl) (by decide) rfl (fun q4 hq4 => ?_)
        refine g_callS (k := 82) (pc2 := 32) (st := []) (CX9_spell v3 q4.1 q4.2) miX9_spell msX9_spell lk6_82 wJ_ok (by decide +kernel) rfl (Nat.le_of_ble_eq_true rfl) (by decide) rfl (fun q5 hq5 => ?_)
        refine g_seg0 (pc' := 36) (L' := [some (vR (kO 6) 1), some (vI v1), some (vI (v2 + 1)), some (vL (q5.1)), none]) (st' := []) (u1 := q5.2) [(oL 4 3, 1), (oN 2 1, 3)] (by decide +kernel) rfl rfl ?_
        refine g_goto (off := (-32)) (tgt := 4) (by decide +kernel) (by decide) ?_
        exact ih v1 (v2 + 1) q5.1 q5.2
def fX6_scanWord (v1 : Int32) (u : ab_S) : Option (Int32 × ab_S) :=
  fX6_scanWord_4 fu v1 v1 0 u
theorem tX6_scanWord (v1 : Int32) (u : ab_S) : ab_G 0 6 cX6_scanWord (some .int) 1 0 [some (vR (kO 6) 1), some (vI v1), none, none, none] [] u wI (fX6_scanWord v1 u) := by
  rw [fX6_scanWord]
  refine g_seg0 (pc' := 4) (L' := [some (vR (kO 6) 1), some (vI v1), some (vI v1), some (vL 0), none]) (st' := []) (u1 := u) [(oL 0 1, 1), (oL 3 2, 1), (oD 0, 1), (oL 4 3, 1)] (by decide +kernel) rfl rfl ?_
  exact tX6_scanWord_4 fu v1 v1 0 u
theorem CX6_scanWord (v1 : Int32) (u : ab_S) : ab_C 0 yX6_scanWord cX6_scanWord 5 (some .int) 1 [vR (kO 6) 1, vI v1] u wI (fX6_scanWord v1 u) := ab_entry (by decide +kernel) rfl (by decide) (by decide) (fun _ => Nat.le_of_ble_eq_true rfl) rfl (tX6_scanWord v1 u)
def fX6_isDigit (v0 : Int32) (u : ab_S) : Option (Int32 × ab_S) :=
  bif decide (v0 < 48) then (
    ab_gd [ab_b1 0] (some (0, u)))
  else (
    bif decide (v0 ≤ 57) then (
      ab_gd [ab_b1 1] (some (1, u)))
    else (
      ab_gd [ab_b1 0] (some (0, u))))
theorem tX6_isDigit (v0 : Int32) (u : ab_S) : ab_G 0 6 cX6_isDigit (some .boolean) 0 0 [some (vI v0)] [] u wI (fX6_isDigit v0 u) := by
  rw [fX6_isDigit]
  refine g_seg0 (pc' := 3) (L' := [some (vI v0)]) (st' := [vI 48, vI v0]) (u1 := u) [(oL 0 0, 1), (oC 48, 2)] (by decide +kernel) rfl rfl ?_
  refine g_ilt (off := 13) (tgt := 16) (pc2 := 6) (by decide +kernel) (by decide) rfl ?_ ?_
  · refine g_seg0 (pc' := 17) (L' := [some (vI v0)]) (st' := [vI 0]) (u1 := u) [(oC 0, 1)] (by decide +kernel) rfl rfl ?_
    exact g_zret (by decide +kernel) rfl
  · refine g_seg0 (pc' := 9) (L' := [some (vI v0)]) (st' := [vI 57, vI v0]) (u1 := u) [(oL 0 0, 1), (oC 57, 2)] (by decide +kernel) rfl rfl ?_
    refine g_igt (off := 7) (tgt := 16) (pc2 := 12) (by decide +kernel) (by decide) rfl ?_ ?_
    · refine g_seg0 (pc' := 17) (L' := [some (vI v0)]) (st' := [vI 0]) (u1 := u) [(oC 0, 1)] (by decide +kernel) rfl rfl ?_
      exact g_zret (by decide +kernel) rfl
    · refine g_seg0 (pc' := 13) (L' := [some (vI v0)]) (st' := [vI 1]) (u1 := u) [(oC 1, 1)] (by decide +kernel) rfl rfl ?_
      refine g_goto (off := 4) (tgt := 17) (by decide +kernel) (by decide) ?_
      exact g_zret (by decide +kernel) rfl
theorem CX6_isDigit (v0 : Int32) (u : ab_S) : ab_C 0 yX6_isDigit cX6_isDigit 1 (some .boolean) 0 [vI v0] u wI (fX6_isDigit v0 u) := ab_entry (by decide +kernel) rfl (by decide) (by decide) (fun _ => Nat.le_of_ble_eq_true rfl) rfl (tX6_isDigit v0 u)
def fJ0_coder_7d493 (u : ab_S) : Option (Int32 × ab_S) :=
  bif decide (1 = 0) then (
    ab_gd [ab_y1 1] (some (1, u)))
  else (
    ab_gd [ab_y1 0] (some (0, u)))
theorem tJ0_coder_7d493 (u : ab_S) : ab_G 0 13 cJ0_coder_7d493 (some .byte) 0 0 [some (vR (kO 21) 0)] [] u wI (fJ0_coder_7d493 u) := by
  rw [fJ0_coder_7d493]
  refine g_seg0 (pc' := 3) (L' := [some (vR (kO 21) 0)]) (st' := [vI 1]) (u1 := u) [(oP (.getstatic 38), 3)] (by decide +kernel) rfl rfl ?_
  refine g_zeq (off := 10) (tgt := 13) (pc2 := 6) (by decide +kernel) (by decide) rfl ?_ ?_
  · refine g_seg0 (pc' := 14) (L' := [some (vR (kO 21) 0)]) (st' := [vI 1]) (u1 := u) [(oC 1, 1)] (by decide +kernel) rfl rfl ?_
    exact g_bret (by decide +kernel) rfl
  · refine g_seg0 (pc' := 10) (L' := [some (vR (kO 21) 0)]) (st' := [vI 0]) (u1 := u) [(oL 2 0, 1), (oP (.getfield 15), 3)] (by decide +kernel) rfl rfl ?_
    refine g_goto (off := 4) (tgt := 14) (by decide +kernel) (by decide) ?_
    exact g_bret (by decide +kernel) rfl
theorem CJ0_coder_7d493 (u : ab_S) : ab_C 0 yJ0_coder_7d493 cJ0_coder_7d493 1 (some .byte) 0 [vR (kO 21) 0] u wI (fJ0_coder_7d493 u) := ab_entry (by decide +kernel) rfl (by decide) (by decide) (fun _ => Nat.le_of_ble_eq_true rfl) rfl (tJ0_coder_7d493 u)
def fJ0_length_8abf5 (u : ab_S) : Option (Int32 × ab_S) :=
  (fJ0_coder_7d493 u).bind fun q1 =>
    some ((8 >>> (q1.1 &&& 31)), q1.2)
theorem tJ0_length_8abf5 (u : ab_S) : ab_G 0 13 cJ0_length_8abf5 (some .int) 1 0 [some (vR (kO 21) 0)] [] u wI (fJ0_length_8abf5 u) := by
  rw [fJ0_length_8abf5]
  refine g_seg0 (pc' := 6) (L' := [some (vR (kO 21) 0)]) (st' := [vR (kO 21) 0, vI 8]) (u1 := u) [(oL 2 0, 1), (oP (.getfield 9), 3), (oP .arraylength, 1), (oL 2 0, 1)] (by decide +kernel) rfl rfl ?_
  refine g_callK (k := 335) (pc2 := 9) (st := [vI 8]) (CJ0_coder_7d493 u) miJ0_coder_7d493 mvJ0_coder_7d493 lk13_335 wI_ok (by decide +kernel) rfl (Nat.le_of_ble_eq_true rfl) (by decide) rfl (fun q1 hq1 => ?_)
  refine g_seg0 (pc' := 10) (L' := [some (vR (kO 21) 0)]) (st' := [vI (8 >>> (q1.1 &&& 31))]) (u1 := q1.2) [(oP .ishr, 1)] (by decide +kernel) rfl rfl ?_
  exact g_iret (by decide +kernel) rfl
theorem CJ0_length_8abf5 (u : ab_S) : ab_C 0 yJ0_length_8abf5 cJ0_length_8abf5 1 (some .int) 1 [vR (kO 21) 0] u wI (fJ0_length_8abf5 u) := ab_entry (by decide +kernel) rfl (by decide) (by decide) (fun _ => Nat.le_of_ble_eq_true rfl) rfl (tJ0_length_8abf5 u)
def fJ0_isLatin1_aae02 (u : ab_S) : Option (Int32 × ab_S) :=
  bif decide (1 = 0) then (
    ab_gd [ab_b1 0] (some (0, u)))
  else (
    bif decide (0 = 0) then (
      ab_gd [ab_b1 1] (some (1, u)))
    else (
      ab_gd [ab_b1 0] (some (0, u))))
theorem tJ0_isLatin1_aae02 (u : ab_S) : ab_G 0 13 cJ0_isLatin1_aae02 (some .boolean) 0 0 [some (vR (kO 21) 0)] [] u wI (fJ0_isLatin1_aae02 u) := by
  rw [fJ0_isLatin1_aae02]
  refine g_seg0 (pc' := 3) (L' := [some (vR (kO 21) 0)]) (st' := [vI 1]) (u1 := u) [(oP (.getstatic 38), 3)] (by decide +kernel) rfl rfl ?_
  refine g_zeq (off := 14) (tgt := 17) (pc2 := 6) (by decide +kernel) (by decide) rfl ?_ ?_
  · refine g_seg0 (pc' := 18) (L' := [some (vR (kO 21) 0)]) (st' := [vI 0]) (u1 := u) [(oC 0, 1)] (by decide +kernel) rfl rfl ?_
    exact g_zret (by decide +kernel) rfl
  · refine g_seg0 (pc' := 10) (L' := [some (vR (kO 21) 0)]) (st' := [vI 0]) (u1 := u) [(oL 2 0, 1), (oP (.getfield 15), 3)] (by decide +kernel) rfl rfl ?_
    refine g_zne (off := 7) (tgt := 17) (pc2 := 13) (by decide +kernel) (by decide) rfl ?_ ?_
    · refine g_seg0 (pc' := 18) (L' := [some (vR (kO 21) 0)]) (st' := [vI 0]) (u1 := u) [(oC 0, 1)] (by decide +kernel) rfl rfl ?_
      exact g_zret (by decide +kernel) rfl
    · refine g_seg0 (pc' := 14) (L' := [some (vR (kO 21) 0)]) (st' := [vI 1]) (u1 := u) [(oC 1, 1)] (by decide +kernel) rfl rfl ?_
      refine g_goto (off := 4) (tgt := 18) (by decide +kernel) (by decide) ?_
      exact g_zret (by decide +kernel) rfl
theorem CJ0_isLatin1_aae02 (u : ab_S) : ab_C 0 yJ0_isLatin1_aae02 cJ0_isLatin1_aae02 1 (some .boolean) 0 [vR (kO 21) 0] u wI (fJ0_isLatin1_aae02 u) := ab_entry (by decide +kernel) rfl (by decide) (by decide) (fun _ => Nat.le_of_ble_eq_true rfl) rfl (tJ0_isLatin1_aae02 u)
def fJ1_indexOfChar_4cfef_7 : Nat → Int32 → Int32 → Int32 → ab_S → Option (Int32 × ab_S)
  | 0, _, _, _, _ => none
  | n + 1, v3, v4, v5, u =>
  bif decide (v5 < v3) then (
    ab_gd [ab_ix v5 8] (
      bif decide ((ab_by.getD (nc v5) 0) = v4) then (
        some (v5, u))
      else (
        (fJ1_indexOfChar_4cfef_7 n) v3 v4 (v5 + 1) u)))
  else (
    some ((-1), u))
theorem tJ1_indexOfChar_4cfef_7 : ∀ (n : Nat) (v3 : Int32) (v4 : Int32) (v5 : Int32) (u : ab_S), ab_G 0 14 cJ1_indexOfChar_4cfef (some .int) 0 7 [some (vR (kA 7 8) 0), none, none, some (vI v3), some (vI v4), some (vI v5)] [] u wI (fJ1_indexOfChar_4cfef_7 n v3 v4 v5 u) := by
  intro n
  induction n with
  | zero => intros; exact g_none
  | succ n ih =>
    intro v3 v4 v5 u
    rw [fJ1_indexOfChar_4cfef_7]
    refine g_seg0 (pc' := 10) (L' := [some (vR (kA 7 8) 0), none, none, some (vI v3), some (vI v4), some (vI v5)]) (st' := [vI v3, vI v5]) (u1 := u) [(oL 0 5, 2), (oL 0 3, 1)] (by decide +kernel) rfl rfl ?_
    refine g_ige (off := 21) (tgt := 31) (pc2 := 13) (by decide +kernel) (by decide) rfl ?_ ?_
    · refine g_seg0 (pc' := 32) (L' := [some (vR (kA 7 8) 0), none, none, some (vI v3), some (vI v4), some (vI v5)]) (st' := [vI (-1)]) (u1 := u) [(oC (-1), 1)] (by decide +kernel) rfl rfl ?_
      exact g_iret (by decide +kernel) rfl
    · refine g_seg (pc' := 19) (L' := [some (vR (kA 7 8) 0), none, none, some (vI v3), some (vI v4), some (vI v5)]) (st' := [vI v4, vI (ab_by.getD (nc v5) 0)]) (u1 := u) [(oL 2 0, 1), (oL 0 5, 2), (oP .baload, 1), (oL 0 4, 2)] (by decide +kernel) rfl rfl ?_
      refine g_ine (off := 6) (tgt := 25) (pc2 := 22) (by decide +kernel) (by decide) rfl ?_ ?_
      · refine g_seg0 (pc' := 28) (L' := [some (vR (kA 7 8) 0), none, none, some (vI v3), some (vI v4), some (vI (v5 + 1))]) (st' := []) (u1 := u) [(oN 5 1, 3)] (by decide +kernel) rfl rfl ?_
        refine g_goto (off := (-21)) (tgt := 7) (by decide +kernel) (by decide) ?_
        exact ih v3 v4 (v5 + 1) u
      · refine g_seg0 (pc' := 24) (L' := [some (vR (kA 7 8) 0), none, none, some (vI v3), some (vI v4), some (vI v5)]) (st' := [vI v5]) (u1 := u) [(oL 0 5, 2)] (by decide +kernel) rfl rfl ?_
        exact g_iret (by decide +kernel) rfl
def fJ1_indexOfChar_4cfef (v1 : Int32) (v2 : Int32) (v3 : Int32) (u : ab_S) : Option (Int32 × ab_S) :=
  fJ1_indexOfChar_4cfef_7 fu v3 ((Int32.toInt8 v1).toInt32) v2 u
theorem tJ1_indexOfChar_4cfef (v1 : Int32) (v2 : Int32) (v3 : Int32) (u : ab_S) : ab_G 0 14 cJ1_indexOfChar_4cfef (some .int) 0 0 [some (vR (kA 7 8) 0), some (vI v1), some (vI v2), some (vI v3), none, none] [] u wI (fJ1_indexOfChar_4cfef v1 v2 v3 u) := by
  rw [fJ1_indexOfChar_4cfef]
  refine g_seg0 (pc' := 7) (L' := [some (vR (kA 7 8) 0), some (vI v1), some (vI v2), some (vI v3), some (vI ((Int32.toInt8 v1).toInt32)), some (vI v2)]) (st' := []) (u1 := u) [(oL 0 1, 1), (oP .i2b, 1), (oL 3 4, 2), (oL 0 2, 1), (oL 3 5, 2)] (by decide +kernel) rfl rfl ?_
  exact g_jump [true, false, false, true, true, true] rfl (tJ1_indexOfChar_4cfef_7 fu v3 ((Int32.toInt8 v1).toInt32) v2 u)
theorem CJ1_indexOfChar_4cfef (v1 : Int32) (v2 : Int32) (v3 : Int32) (u : ab_S) : ab_C 0 yJ1_indexOfChar_4cfef cJ1_indexOfChar_4cfef 6 (some .int) 0 [vR (kA 7 8) 0, vI v1, vI v2, vI v3] u wI (fJ1_indexOfChar_4cfef v1 v2 v3 u) := ab_entry (by decide +kernel) rfl (by decide) (by decide) (fun _ => Nat.le_of_ble_eq_true rfl) rfl (tJ1_indexOfChar_4cfef v1 v2 v3 u)
def fJ1_canEncode_9a6ad (v0 : Int32) (u : ab_S) : Option (Int32 × ab_S) :=
  bif decide (v0 < 0) then (
    ab_gd [ab_b1 0] (some (0, u)))
  else (
    bif decide (v0 ≤ 255) then (
      ab_gd [ab_b1 1] (some (1, u)))
    else (
      ab_gd [ab_b1 0] (some (0, u))))
theorem tJ1_canEncode_9a6ad (v0 : Int32) (u : ab_S) : ab_G 0 14 cJ1_canEncode_9a6ad (some .boolean) 0 0 [some (vI v0)] [] u wI (fJ1_canEncode_9a6ad v0 u) := by
  rw [fJ1_canEncode_9a6ad]
  refine g_seg0 (pc' := 1) (L' := [some (vI v0)]) (st' := [vI v0]) (u1 := u) [(oL 0 0, 1)] (by decide +kernel) rfl rfl ?_
  refine g_zlt (off := 14) (tgt := 15) (pc2 := 4) (by decide +kernel) (by decide) rfl ?_ ?_
  · refine g_seg0 (pc' := 16) (L' := [some (vI v0)]) (st' := [vI 0]) (u1 := u) [(oC 0, 1)] (by decide +kernel) rfl rfl ?_
    exact g_zret (by decide +kernel) rfl
  · refine g_seg0 (pc' := 8) (L' := [some (vI v0)]) (st' := [vI 255, vI v0]) (u1 := u) [(oL 0 0, 1), (oC 255, 3)] (by decide +kernel) rfl rfl ?_
    refine g_igt (off := 7) (tgt := 15) (pc2 := 11) (by decide +kernel) (by decide) rfl ?_ ?_
    · refine g_seg0 (pc' := 16) (L' := [some (vI v0)]) (st' := [vI 0]) (u1 := u) [(oC 0, 1)] (by decide +kernel) rfl rfl ?_
      exact g_zret (by decide +kernel) rfl
    · refine g_seg0 (pc' := 12) (L' := [some (vI v0)]) (st' := [vI 1]) (u1 := u) [(oC 1, 1)] (by decide +kernel) rfl rfl ?_
      refine g_goto (off := 4) (tgt := 16) (by decide +kernel) (by decide) ?_
      exact g_zret (by decide +kernel) rfl
theorem CJ1_canEncode_9a6ad (v0 : Int32) (u : ab_S) : ab_C 0 yJ1_canEncode_9a6ad cJ1_canEncode_9a6ad 1 (some .boolean) 0 [vI v0] u wI (fJ1_canEncode_9a6ad v0 u) := ab_entry (by decide +kernel) rfl (by decide) (by decide) (fun _ => Nat.le_of_ble_eq_true rfl) rfl (tJ1_canEncode_9a6ad v0 u)
def fJ1_indexOf_4cfef (v1 : Int32) (v2 : Int32) (v3 : Int32) (u : ab_S) : Option (Int32 × ab_S) :=
  (fJ1_canEncode_9a6ad v1 u).bind fun q1 =>
    bif decide (q1.1 = 0) then (
      some ((-1), q1.2))
    else (
      bif decide ((if v2 < 0 then 0 else v2) < (if 8 < v3 then 8 else v3)) then (
        (fJ1_indexOfChar_4cfef v1 (if v2 < 0 then 0 else v2) (if 8 < v3 then 8 else v3) q1.2).bind fun q2 =>
          some (q2.1, q2.2))
      else (
        some ((-1), q1.2)))
theorem tJ1_indexOf_4cfef (v1 : Int32) (v2 : Int32) (v3 : Int32) (u : ab_S) : ab_G 0 14 cJ1_indexOf_4cfef (some .int) 1 0 [some (vR (kA 7 8) 0), some (vI v1), some (vI v2), some (vI v3)] [] u wI (fJ1_indexOf_4cfef v1 v2 v3 u) := by
  rw [fJ1_indexOf_4cfef]
  refine g_seg0 (pc' := 1) (L' := [some (vR (kA 7 8) 0), some (vI v1), some (vI v2), some (vI v3)]) (st' := [vI v1]) (u1 := u) [(oL 0 1, 1)] (by decide +kernel) rfl rfl ?_
  refine g_callS (k := 88) (pc2 := 4) (st := []) (CJ1_canEncode_9a6ad v1 u) miJ1_canEncode_9a6ad msJ1_canEncode_9a6ad lk14_88 wI_ok (by decide +kernel) rfl (Nat.le_of_ble_eq_true rfl) (by decide) rfl (fun q1 hq1 => ?_)
  refine g_zne (off := 5) (tgt := 9) (pc2 := 7) (by decide +kernel) (by decide) rfl ?_ ?_
  · refine g_seg0 (pc' := 11) (L' := [some (vR (kA 7 8) 0), some (vI v1), some (vI v2), some (vI v3)]) (st' := [vI 0, vI v2]) (u1 := q1.2) [(oL 0 2, 1), (oC 0, 1)] (by decide +kernel) rfl rfl ?_
    refine g_max (k := 92) (pc2 := 14) (st := []) lm14_92 (by decide +kernel) (Nat.le_of_ble_eq_true rfl) (by decide) rfl ?_
    refine g_seg0 (pc' := 18) (L' := [some (vR (kA 7 8) 0), some (vI v1), some (vI (if v2 < 0 then 0 else v2)), some (vI v3)]) (st' := [vI 8, vI v3]) (u1 := q1.2) [(oL 3 2, 1), (oL 0 3, 1), (oL 2 0, 1), (oP .arraylength, 1)] (by decide +kernel) rfl rfl ?_
    refine g_min (k := 38) (pc2 := 21) (st := []) lm14_38 (by decide +kernel) (Nat.le_of_ble_eq_true rfl) (by decide) rfl ?_
    refine g_seg0 (pc' := 24) (L' := [some (vR (kA 7 8) 0), some (vI v1), some (vI (if v2 < 0 then 0 else v2)), some (vI (if 8 < v3 then 8 else v3))]) (st' := [vI (if 8 < v3 then 8 else v3), vI (if v2 < 0 then 0 else v2)]) (u1 := q1.2) [(oL 3 3, 1), (oL 0 2, 1), (oL 0 3, 1)] (by decide +kernel) rfl rfl ?_
    refine g_ilt (off := 5) (tgt := 29) (pc2 := 27) (by decide +kernel) (by decide) rfl ?_ ?_
    · refine g_seg0 (pc' := 33) (L' := [some (vR (kA 7 8) 0), some (vI v1), some (vI (if v2 < 0 then 0 else v2)), some (vI (if 8 < v3 then 8 else v3))]) (st' := [vI (if 8 < v3 then 8 else v3), vI (if v2 < 0 then 0 else v2), vI v1, vR (kA 7 8) 0]) (u1 := q1.2) [(oL 2 0, 1), (oL 0 1, 1), (oL 0 2, 1), (oL 0 3, 1)] (by decide +kernel) rfl rfl ?_
      refine g_callS (k := 95) (pc2 := 36) (st := []) (CJ1_indexOfChar_4cfef v1 (if v2 < 0 then 0 else v2) (if 8 < v3 then 8 else v3) q1.2) miJ1_indexOfChar_4cfef msJ1_indexOfChar_4cfef lk14_95 wI_ok (by decide +kernel) rfl (Nat.le_of_ble_eq_true rfl) (by decide) rfl (fun q2 hq2 => ?_)
      exact g_iret (by decide +kernel) rfl
    · refine g_seg0 (pc' := 28) (L' := [some (vR (kA 7 8) 0), some (vI v1), some (vI (if v2 < 0 then 0 else v2)), some (vI (if 8 < v3 then 8 else v3))]) (st' := [vI (-1)]) (u1 := q1.2) [(oC (-1), 1)] (by decide +kernel) rfl rfl ?_
      exact g_iret (by decide +kernel) rfl
  · refine g_seg0 (pc' := 8) (L' := [some (vR (kA 7 8) 0), some (vI v1), some (vI v2), some (vI v3)]) (st' := [vI (-1)]) (u1 := q1.2) [(oC (-1), 1)] (by decide +kernel) rfl rfl ?_
    exact g_iret (by decide +kernel) rfl
theorem CJ1_indexOf_4cfef (v1 : Int32) (v2 : Int32) (v3 : Int32) (u : ab_S) : ab_C 0 yJ1_indexOf_4cfef cJ1_indexOf_4cfef 4 (some .int) 1 [vR (kA 7 8) 0, vI v1, vI v2, vI v3] u wI (fJ1_indexOf_4cfef v1 v2 v3 u) := ab_entry (by decide +kernel) rfl (by decide) (by decide) (fun _ => Nat.le_of_ble_eq_true rfl) rfl (tJ1_indexOf_4cfef v1 v2 v3 u)
def fJ0_indexOf_7cf53 (v1 : Int32) (v2 : Int32) (u : ab_S) : Option (Int32 × ab_S) :=
  (fJ0_isLatin1_aae02 u).bind fun q1 =>
    bif decide (q1.1 = 0) then (
      (fJ0_length_8abf5 q1.2).bind fun q2 =>
        none)
    else (
      (fJ0_length_8abf5 q1.2).bind fun q3 =>
        (fJ1_indexOf_4cfef v1 v2 q3.1 q3.2).bind fun q4 =>
          some (q4.1, q4.2))
theorem tJ0_indexOf_7cf53 (v1 : Int32) (v2 : Int32) (u : ab_S) : ab_G 0 13 cJ0_indexOf_7cf53 (some .int) 2 0 [some (vR (kO 21) 0), some (vI v1), some (vI v2)] [] u wI (fJ0_indexOf_7cf53 v1 v2 u) := by
  rw [fJ0_indexOf_7cf53]
  refine g_seg0 (pc' := 1) (L' := [some (vR (kO 21) 0), some (vI v1), some (vI v2)]) (st' := [vR (kO 21) 0]) (u1 := u) [(oL 2 0, 1)] (by decide +kernel) rfl rfl ?_
  refine g_callK (k := 492) (pc2 := 4) (st := []) (CJ0_isLatin1_aae02 u) miJ0_isLatin1_aae02 mvJ0_isLatin1_aae02 lk13_492 wI_ok (by decide +kernel) rfl (Nat.le_of_ble_eq_true rfl) (by decide) rfl (fun q1 hq1 => ?_)
  refine g_zeq (off := 19) (tgt := 23) (pc2 := 7) (by decide +kernel) (by decide) rfl ?_ ?_
  · refine g_seg0 (pc' := 30) (L' := [some (vR (kO 21) 0), some (vI v1), some (vI v2)]) (st' := [vR (kO 21) 0, vI v2, vI v1, vR (kA 7 8) 0]) (u1 := q1.2) [(oL 2 0, 1), (oP (.getfield 9), 3), (oL 0 1, 1), (oL 0 2, 1), (oL 2 0, 1)] (by decide +kernel) rfl rfl ?_
    refine g_callK (k := 505) (pc2 := 33) (st := [vI v2, vI v1, vR (kA 7 8) 0]) (CJ0_length_8abf5 q1.2) miJ0_length_8abf5 mvJ0_length_8abf5 lk13_505 wI_ok (by decide +kernel) rfl (Nat.le_of_ble_eq_true rfl) (by decide) rfl (fun q2 hq2 => ?_)
    exact g_none
  · refine g_seg0 (pc' := 14) (L' := [some (vR (kO 21) 0), some (vI v1), some (vI v2)]) (st' := [vR (kO 21) 0, vI v2, vI v1, vR (kA 7 8) 0]) (u1 := q1.2) [(oL 2 0, 1), (oP (.getfield 9), 3), (oL 0 1, 1), (oL 0 2, 1), (oL 2 0, 1)] (by decide +kernel) rfl rfl ?_
    refine g_callK (k := 505) (pc2 := 17) (st := [vI v2, vI v1, vR (kA 7 8) 0]) (CJ0_length_8abf5 q1.2) miJ0_length_8abf5 mvJ0_length_8abf5 lk13_505 wI_ok (by decide +kernel) rfl (Nat.le_of_ble_eq_true rfl) (by decide) rfl (fun q3 hq3 => ?_)
    refine g_callS (k := 637) (pc2 := 20) (st := []) (CJ1_indexOf_4cfef v1 v2 q3.1 q3.2) miJ1_indexOf_4cfef msJ1_indexOf_4cfef lk13_637 wI_ok (by decide +kernel) rfl (Nat.le_of_ble_eq_true rfl) (by decide) rfl (fun q4 hq4 => ?_)
    refine g_goto (off := 16) (tgt := 36) (by decide +kernel) (by decide) ?_
    exact g_iret (by decide +kernel) rfl
theorem CJ0_indexOf_7cf53 (v1 : Int32) (v2 : Int32) (u : ab_S) : ab_C 0 yJ0_indexOf_7cf53 cJ0_indexOf_7cf53 3 (some .int) 2 [vR (kO 21) 0, vI v1, vI v2] u wI (fJ0_indexOf_7cf53 v1 v2 u) := ab_entry (by decide +kernel) rfl (by decide) (by decide) (fun _ => Nat.le_of_ble_eq_true rfl) rfl (tJ0_indexOf_7cf53 v1 v2 u)
def fJ0_indexOf_0f7a4 (v1 : Int32) (u : ab_S) : Option (Int32 × ab_S) :=
  (fJ0_indexOf_7cf53 v1 0 u).bind fun q1 =>
    some (q1.1, q1.2)
theorem tJ0_indexOf_0f7a4 (v1 : Int32) (u : ab_S) : ab_G 0 13 cJ0_indexOf_0f7a4 (some .int) 3 0 [some (vR (kO 21) 0), some (vI v1)] [] u wI (fJ0_indexOf_0f7a4 v1 u) := by
  rw [fJ0_indexOf_0f7a4]
  refine g_seg0 (pc' := 3) (L' := [some (vR (kO 21) 0), some (vI v1)]) (st' := [vI 0, vI v1, vR (kO 21) 0]) (u1 := u) [(oL 2 0, 1), (oL 0 1, 1), (oC 0, 1)] (by decide +kernel) rfl rfl ?_
  refine g_callK (k := 633) (pc2 := 6) (st := []) (CJ0_indexOf_7cf53 v1 0 u) miJ0_indexOf_7cf53 mvJ0_indexOf_7cf53 lk13_633 wI_ok (by decide +kernel) rfl (Nat.le_of_ble_eq_true rfl) (by decide) rfl (fun q1 hq1 => ?_)
  exact g_iret (by decide +kernel) rfl
theorem CJ0_indexOf_0f7a4 (v1 : Int32) (u : ab_S) : ab_C 0 yJ0_indexOf_0f7a4 cJ0_indexOf_0f7a4 2 (some .int) 3 [vR (kO 21) 0, vI v1] u wI (fJ0_indexOf_0f7a4 v1 u) := ab_entry (by decide +kernel) rfl (by decide) (by decide) (fun _ => Nat.le_of_ble_eq_true rfl) rfl (tJ0_indexOf_0f7a4 v1 u)
def fX6_scanNumber_58 (v1 : Int32) (v2 : Int32) (v3 : Int64) (s1 : Int32) (u : ab_S) : Option (Int32 × ab_S) :=
  (fX6_add s1 v1 v3 u).bind fun q1 =>
    some (v2, q1.2)
theorem tX6_scanNumber_58 (v1 : Int32) (v2 : Int32) (v3 : Int64) (s1 : Int32) (u : ab_S) : ab_G 0 6 cX6_scanNumber (some .int) 1 58 [none, some (vI v1), some (vI v2), some (vL v3), none] [vI s1, vR (kO 6) 1] u wI (fX6_scanNumber_58 v1 v2 v3 s1 u) := by
  rw [fX6_scanNumber_58]
  refine g_seg0 (pc' := 60) (L' := [none, some (vI v1), some (vI v2), some (vL v3), none]) (st' := [vL v3, vI v1, vI s1, vR (kO 6) 1]) (u1 := u) [(oL 0 1, 1), (oL 1 3, 1)] (by decide +kernel) rfl rfl ?_
  refine g_callV (k := 52) (pc2 := 63) (st := []) (CX6_add s1 v1 v3 u) miX6_add mvX6_add rfl (by decide) lk6_52 wV_ok (by decide +kernel) rfl (Nat.le_of_ble_eq_true rfl) (by decide) rfl (fun q1 hq1 => ?_)
  refine g_seg0 (pc' := 64) (L' := [none, some (vI v1), some (vI v2), some (vL v3), none]) (st' := [vI v2]) (u1 := q1.2) [(oL 0 2, 1)] (by decide +kernel) rfl rfl ?_
  exact g_iret (by decide +kernel) rfl
def fX6_scanNumber_45 (v1 : Int32) (v2 : Int32) (v3 : Int64) (u : ab_S) : Option (Int32 × ab_S) :=
  bif decide ((v2 - v1) ≤ 4) then (
    fX6_scanNumber_58 v1 v2 v3 3 u)
  else (
    fX6_scanNumber_58 v1 v2 v3 1 u)
theorem tX6_scanNumber_45 (v1 : Int32) (v2 : Int32) (v3 : Int64) (u : ab_S) : ab_G 0 6 cX6_scanNumber (some .int) 1 45 [some (vR (kO 6) 1), some (vI v1), some (vI v2), some (vL v3), none] [] u wI (fX6_scanNumber_45 v1 v2 v3 u) := by
  rw [fX6_scanNumber_45]
  refine g_seg0 (pc' := 50) (L' := [some (vR (kO 6) 1), some (vI v1), some (vI v2), some (vL v3), none]) (st' := [vI 4, vI (v2 - v1), vR (kO 6) 1]) (u1 := u) [(oL 2 0, 1), (oL 0 2, 1), (oL 0 1, 1), (oP .isub, 1), (oC 4, 1)] (by decide +kernel) rfl rfl ?_
  refine g_igt (off := 7) (tgt := 57) (pc2 := 53) (by decide +kernel) (by decide) rfl ?_ ?_
  · refine g_seg0 (pc' := 58) (L' := [some (vR (kO 6) 1), some (vI v1), some (vI v2), some (vL v3), none]) (st' := [vI 1, vR (kO 6) 1]) (u1 := u) [(oC 1, 1)] (by decide +kernel) rfl rfl ?_
    exact g_jump [false, true, true, true, false] rfl (tX6_scanNumber_58 v1 v2 v3 1 u)
  · refine g_seg0 (pc' := 54) (L' := [some (vR (kO 6) 1), some (vI v1), some (vI v2), some (vL v3), none]) (st' := [vI 3, vR (kO 6) 1]) (u1 := u) [(oC 3, 1)] (by decide +kernel) rfl rfl ?_
    refine g_goto (off := 4) (tgt := 58) (by decide +kernel) (by decide) ?_
    exact g_jump [false, true, true, true, false] rfl (tX6_scanNumber_58 v1 v2 v3 3 u)
def fX6_scanNumber_4 : Nat → Int32 → Int32 → Int64 → ab_S → Option (Int32 × ab_S)
  | 0, _, _, _, _ => none
  | n + 1, v1, v2, v3, u =>
  bif decide (v2 < (u.1 1 1)) then (
    (fX6_signAt v2 u).bind fun q2 =>
      (fX6_isDigit q2.1 q2.2).bind fun q3 =>
        bif decide (q3.1 = 0) then (
          fX6_scanNumber_45 v1 v2 v3 q3.2)
        else (
          (fX6_signAt v2 q3.2).bind fun q4 =>
            (fX6_scanNumber_4 n) v1 (v2 + 1) ((v3 * 10) + (Int32.toInt64 (q4.1 - 48))) q4.2))
  else (
    fX6_scanNumber_45 v1 v2 v3 u)
theorem tX6_scanNumber_4 : ∀ (n : Nat) (v1 : Int32) (v2 : Int32) (v3 : Int64) (u : ab_S), ab_G 0 6 cX6_scanNumber (some .int) 1 4 [some (vR (kO 6) 1), some (vI v1), some (vI v2), some (vL v3), none] [] u wI (fX6_scanNumber_4 n v1 v2 v3 u) := by
  intro n
  induction n with
  | zero => intros; exact g_none
  | succ n ih =>
    intro v1 v2 v3 u
    rw [fX6_scanNumber_4]
    refine g_seg0 (pc' := 9) (L' := [some (vR (kO 6) 1), some (vI v1), some (vI v2), some (vL v3), none]) (st' := [vI (u.1 1 1), vI v2]) (u1 := u) [(oL 0 2, 1), (oL 2 0, 1), (oP (.getfield 28), 3)] (by decide +kernel) rfl rfl ?_
    refine g_ige (off := 36) (tgt := 45) (pc2 := 12) (by decide +kernel) (by decide) rfl ?_ ?_
    · exact tX6_scanNumber_45 v1 v2 v3 u
    · refine g_seg0 (pc' := 14) (L' := [some (vR (kO 6) 1), some (vI v1), some (vI v2), some (vL v3), none]) (st' := [vI v2, vR (kO 6) 1]) (u1 := u) [(oL 2 0, 1), (oL 0 2, 1)] (by decide +kernel) rfl rfl ?_
      refine g_callV (k := 38) (pc2 := 17) (st := []) (CX6_signAt v2 u) miX6_signAt mvX6_signAt rfl (by decide) lk6_38 wI_ok (by decide +kernel) rfl (Nat.le_of_ble_eq_true rfl) (by decide) rfl (fun q2 hq2 => ?_)
      refine g_callS (k := 69) (pc2 := 20) (st := []) (CX6_isDigit q2.1 q2.2) miX6_isDigit msX6_isDigit lk6_69 wI_ok (by decide +kernel) rfl (Nat.le_of_ble_eq_true rfl) (by decide) rfl (fun q3 hq3 => ?_)
      refine g_zeq (off := 25) (tgt := 45) (pc2 := 23) (by decide +kernel) (by decide) rfl ?_ ?_
      · exact tX6_scanNumber_45 v1 v2 v3 q3.2
      · refine g_seg0 (pc' := 30) (L' := [some (vR (kO 6) 1), some (vI v1), some (vI v2), some (vL v3), none]) (st' := [vI v2, vR (kO 6) 1, vL (v3 * 10)]) (u1 := q3.2) [(oL 1 3, 1), (oD 10, 3), (oP .lmul, 1), (oL 2 0, 1), (oL 0 2, 1)] (by decide +kernel) rfl rfl ?_
        refine g_callV (k := 38) (pc2 := 33) (st := [vL (v3 * 10)]) (CX6_signAt v2 q3.2) miX6_signAt mvX6_signAt rfl (by decide) lk6_38 wI_ok (by decide +kernel) rfl (Nat.le_of_ble_eq_true rfl) (by decide) rfl (fun q4 hq4 => ?_)
        refine g_seg0 (pc' := 42) (L' := [some (vR (kO 6) 1), some (vI v1), some (vI (v2 + 1)), some (vL ((v3 * 10) + (Int32.toInt64 (q4.1 - 48)))), none]) (st' := []) (u1 := q4.2) [(oC 48, 2), (oP .isub, 1), (oP .i2l, 1), (oP .ladd, 1), (oL 4 3, 1), (oN 2 1, 3)] (by decide +kernel) rfl rfl ?_
        refine g_goto (off := (-38)) (tgt := 4) (by decide +kernel) (by decide) ?_
        exact ih v1 (v2 + 1) ((v3 * 10) + (Int32.toInt64 (q4.1 - 48))) q4.2
def fX6_scanNumber (v1 : Int32) (u : ab_S) : Option (Int32 × ab_S) :=
  fX6_scanNumber_4 fu v1 v1 0 u
theorem tX6_scanNumber (v1 : Int32) (u : ab_S) : ab_G 0 6 cX6_scanNumber (some .int) 1 0 [some (vR (kO 6) 1), some (vI v1), none, none, none] [] u wI (fX6_scanNumber v1 u) := by
  rw [fX6_scanNumber]
  refine g_seg0 (pc' := 4) (L' := [some (vR (kO 6) 1), some (vI v1), some (vI v1), some (vL 0), none]) (st' := []) (u1 := u) [(oL 0 1, 1), (oL 3 2, 1), (oD 0, 1), (oL 4 3, 1)] (by decide +kernel) rfl rfl ?_
  exact tX6_scanNumber_4 fu v1 v1 0 u
theorem CX6_scanNumber (v1 : Int32) (u : ab_S) : ab_C 0 yX6_scanNumber cX6_scanNumber 5 (some .int) 1 [vR (kO 6) 1, vI v1] u wI (fX6_scanNumber v1 u) := ab_entry (by decide +kernel) rfl (by decide) (by decide) (fun _ => Nat.le_of_ble_eq_true rfl) rfl (tX6_scanNumber v1 u)
def fX6_scan_47 (v1 : Int32) (v2 : Int32) (s1 : Int32) (u : ab_S) : Option (Int32 × ab_S) :=
  (fX6_add s1 v1 (Int32.toInt64 v2) u).bind fun q1 =>
    some ((v1 + 1), q1.2)
theorem tX6_scan_47 (v1 : Int32) (v2 : Int32) (s1 : Int32) (u : ab_S) : ab_G 0 6 cX6_scan (some .int) 4 47 [none, some (vI v1), some (vI v2)] [vI s1, vR (kO 6) 1] u wI (fX6_scan_47 v1 v2 s1 u) := by
  rw [fX6_scan_47]
  refine g_seg0 (pc' := 50) (L' := [none, some (vI v1), some (vI v2)]) (st' := [vL (Int32.toInt64 v2), vI v1, vI s1, vR (kO 6) 1]) (u1 := u) [(oL 0 1, 1), (oL 0 2, 1), (oP .i2l, 1)] (by decide +kernel) rfl rfl ?_
  refine g_callV (k := 52) (pc2 := 53) (st := []) (CX6_add s1 v1 (Int32.toInt64 v2) u) miX6_add mvX6_add rfl (by decide) lk6_52 wV_ok (by decide +kernel) rfl (Nat.le_of_ble_eq_true rfl) (by decide) rfl (fun q1 hq1 => ?_)
  refine g_seg0 (pc' := 56) (L' := [none, some (vI v1), some (vI v2)]) (st' := [vI (v1 + 1)]) (u1 := q1.2) [(oL 0 1, 1), (oC 1, 1), (oP .iadd, 1)] (by decide +kernel) rfl rfl ?_
  exact g_iret (by decide +kernel) rfl
def fX6_scan (v1 : Int32) (u : ab_S) : Option (Int32 × ab_S) :=
  (fX6_signAt v1 u).bind fun q2 =>
    (fX6_isLetter q2.1 q2.2).bind fun q3 =>
      bif decide (q3.1 = 0) then (
        (fX6_isDigit q2.1 q3.2).bind fun q4 =>
          bif decide (q4.1 = 0) then (
            (fJ0_indexOf_0f7a4 q2.1 q4.2).bind fun q5 =>
              bif decide (q5.1 < 0) then (
                fX6_scan_47 v1 q2.1 1 q5.2)
              else (
                fX6_scan_47 v1 q2.1 4 q5.2))
          else (
            (fX6_scanNumber v1 q4.2).bind fun q6 =>
              some (q6.1, q6.2)))
      else (
        (fX6_scanWord v1 q3.2).bind fun q7 =>
          some (q7.1, q7.2))
theorem tX6_scan (v1 : Int32) (u : ab_S) : ab_G 0 6 cX6_scan (some .int) 4 0 [some (vR (kO 6) 1), some (vI v1), none] [] u wI (fX6_scan v1 u) := by
  rw [fX6_scan]
  refine g_seg0 (pc' := 2) (L' := [some (vR (kO 6) 1), some (vI v1), none]) (st' := [vI v1, vR (kO 6) 1]) (u1 := u) [(oL 2 0, 1), (oL 0 1, 1)] (by decide +kernel) rfl rfl ?_
  refine g_callV (k := 38) (pc2 := 5) (st := []) (CX6_signAt v1 u) miX6_signAt mvX6_signAt rfl (by decide) lk6_38 wI_ok (by decide +kernel) rfl (Nat.le_of_ble_eq_true rfl) (by decide) rfl (fun q2 hq2 => ?_)
  refine g_seg0 (pc' := 7) (L' := [some (vR (kO 6) 1), some (vI v1), some (vI (q2.1))]) (st' := [vI (q2.1)]) (u1 := q2.2) [(oL 3 2, 1), (oL 0 2, 1)] (by decide +kernel) rfl rfl ?_
  refine g_callS (k := 62) (pc2 := 10) (st := []) (CX6_isLetter q2.1 q2.2) miX6_isLetter msX6_isLetter lk6_62 wI_ok (by decide +kernel) rfl (Nat.le_of_ble_eq_true rfl) (by decide) rfl (fun q3 hq3 => ?_)
  refine g_zeq (off := 9) (tgt := 19) (pc2 := 13) (by decide +kernel) (by decide) rfl ?_ ?_
  · refine g_seg0 (pc' := 20) (L' := [some (vR (kO 6) 1), some (vI v1), some (vI (q2.1))]) (st' := [vI (q2.1)]) (u1 := q3.2) [(oL 0 2, 1)] (by decide +kernel) rfl rfl ?_
    refine g_callS (k := 69) (pc2 := 23) (st := []) (CX6_isDigit q2.1 q3.2) miX6_isDigit msX6_isDigit lk6_69 wI_ok (by decide +kernel) rfl (Nat.le_of_ble_eq_true rfl) (by decide) rfl (fun q4 hq4 => ?_)
    refine g_zeq (off := 9) (tgt := 32) (pc2 := 26) (by decide +kernel) (by decide) rfl ?_ ?_
    · refine g_seg0 (pc' := 36) (L' := [some (vR (kO 6) 1), some (vI v1), some (vI (q2.1))]) (st' := [vI (q2.1), vR (kO 21) 0, vR (kO 6) 1]) (u1 := q4.2) [(oL 2 0, 1), (oP (.ldc 75), 2), (oL 0 2, 1)] (by decide +kernel) rfl rfl ?_
      refine g_callK (k := 77) (pc2 := 39) (st := [vR (kO 6) 1]) (CJ0_indexOf_0f7a4 q2.1 q4.2) miJ0_indexOf_0f7a4 mvJ0_indexOf_0f7a4 lk6_77 wI_ok (by decide +kernel) rfl (Nat.le_of_ble_eq_true rfl) (by decide) rfl (fun q5 hq5 => ?_)
      refine g_zlt (off := 7) (tgt := 46) (pc2 := 42) (by decide +kernel) (by decide) rfl ?_ ?_
      · refine g_seg0 (pc' := 47) (L' := [some (vR (kO 6) 1), some (vI v1), some (vI (q2.1))]) (st' := [vI 1, vR (kO 6) 1]) (u1 := q5.2) [(oC 1, 1)] (by decide +kernel) rfl rfl ?_
        exact g_jump [false, true, true] rfl (tX6_scan_47 v1 q2.1 1 q5.2)
      · refine g_seg0 (pc' := 43) (L' := [some (vR (kO 6) 1), some (vI v1), some (vI (q2.1))]) (st' := [vI 4, vR (kO 6) 1]) (u1 := q5.2) [(oC 4, 1)] (by decide +kernel) rfl rfl ?_
        refine g_goto (off := 4) (tgt := 47) (by decide +kernel) (by decide) ?_
        exact g_jump [false, true, true] rfl (tX6_scan_47 v1 q2.1 4 q5.2)
    · refine g_seg0 (pc' := 28) (L' := [some (vR (kO 6) 1), some (vI v1), some (vI (q2.1))]) (st' := [vI v1, vR (kO 6) 1]) (u1 := q4.2) [(oL 2 0, 1), (oL 0 1, 1)] (by decide +kernel) rfl rfl ?_
      refine g_callV (k := 72) (pc2 := 31) (st := []) (CX6_scanNumber v1 q4.2) miX6_scanNumber mvX6_scanNumber rfl (by decide) lk6_72 wI_ok (by decide +kernel) rfl (Nat.le_of_ble_eq_true rfl) (by decide) rfl (fun q6 hq6 => ?_)
      exact g_iret (by decide +kernel) rfl
  · refine g_seg0 (pc' := 15) (L' := [some (vR (kO 6) 1), some (vI v1), some (vI (q2.1))]) (st' := [vI v1, vR (kO 6) 1]) (u1 := q3.2) [(oL 2 0, 1), (oL 0 1, 1)] (by decide +kernel) rfl rfl ?_
    refine g_callV (k := 66) (pc2 := 18) (st := []) (CX6_scanWord v1 q3.2) miX6_scanWord mvX6_scanWord rfl (by decide) lk6_66 wI_ok (by decide +kernel) rfl (Nat.le_of_ble_eq_true rfl) (by decide) rfl (fun q7 hq7 => ?_)
    exact g_iret (by decide +kernel) rfl
theorem CX6_scan (v1 : Int32) (u : ab_S) : ab_C 0 yX6_scan cX6_scan 3 (some .int) 4 [vR (kO 6) 1, vI v1] u wI (fX6_scan v1 u) := ab_entry (by decide +kernel) rfl (by decide) (by decide) (fun _ => Nat.le_of_ble_eq_true rfl) rfl (tX6_scan v1 u)
def fX6_step (u : ab_S) : Option (Unit × ab_S) :=
  bif decide (((u.1 1 6) + 1) < 0) then (
    some ((), u))
  else (
    bif decide (((u.1 1 6) + 1) < (u.1 1 5)) then (
      bif decide (((u.1 1 6) + 1) < 1001) then (
        bif decide (((u.1 1 6) + 1) < 1001) then (
          bif decide (((u.1 1 6) + 1) < 1001) then (
            ab_gd [ab_ix ((u.1 1 6) + 1) 1001, ab_ix ((u.1 1 6) + 1) 1001, ab_ix ((u.1 1 6) + 1) 1001] (
              some ((), (sJ (sI (sI (sI u 1 6 ((u.1 1 6) + 1)) 1 7 ((sI u 1 6 ((u.1 1 6) + 1)).1 3 (nc ((u.1 1 6) + 1)))) 1 8 ((sI (sI u 1 6 ((u.1 1 6) + 1)) 1 7 ((sI u 1 6 ((u.1 1 6) + 1)).1 3 (nc ((u.1 1 6) + 1)))).1 4 (nc ((u.1 1 6) + 1)))) 1 9 ((sI (sI (sI u 1 6 ((u.1 1 6) + 1)) 1 7 ((sI u 1 6 ((u.1 1 6) + 1)).1 3 (nc ((u.1 1 6) + 1)))) 1 8 ((sI (sI u 1 6 ((u.1 1 6) + 1)) 1 7 ((sI u 1 6 ((u.1 1 6) + 1)).1 3 (nc ((u.1 1 6) + 1)))).1 4 (nc ((u.1 1 6) + 1)))).2.1 5 (nc ((u.1 1 6) + 1)))))))
          else (
            some ((), u)))
        else (
          some ((), u)))
      else (
        some ((), u)))
    else (
      some ((), u)))
theorem tX6_step (u : ab_S) : ab_G 0 6 cX6_step none 0 0 [some (vR (kO 6) 1), none] [] u wV (fX6_step u) := by
  rw [fX6_step]
  refine g_seg0 (pc' := 8) (L' := [some (vR (kO 6) 1), some (vI ((u.1 1 6) + 1))]) (st' := [vI ((u.1 1 6) + 1)]) (u1 := u) [(oL 2 0, 1), (oP (.getfield 56), 3), (oC 1, 1), (oP .iadd, 1), (oL 3 1, 1), (oL 0 1, 1)] (by decide +kernel) rfl rfl ?_
  refine g_zlt (off := 73) (tgt := 81) (pc2 := 11) (by decide +kernel) (by decide) rfl ?_ ?_
  · exact g_vret (by decide +kernel) rfl
  · refine g_seg0 (pc' := 16) (L' := [some (vR (kO 6) 1), some (vI ((u.1 1 6) + 1))]) (st' := [vI (u.1 1 5), vI ((u.1 1 6) + 1)]) (u1 := u) [(oL 0 1, 1), (oL 2 0, 1), (oP (.getfield 32), 3)] (by decide +kernel) rfl rfl ?_
    refine g_ige (off := 65) (tgt := 81) (pc2 := 19) (by decide +kernel) (by decide) rfl ?_ ?_
    · exact g_vret (by decide +kernel) rfl
    · refine g_seg0 (pc' := 25) (L' := [some (vR (kO 6) 1), some (vI ((u.1 1 6) + 1))]) (st' := [vI 1001, vI ((u.1 1 6) + 1)]) (u1 := u) [(oL 0 1, 1), (oL 2 0, 1), (oP (.getfield 15), 3), (oP .arraylength, 1)] (by decide +kernel) rfl rfl ?_
      refine g_ige (off := 56) (tgt := 81) (pc2 := 28) (by decide +kernel) (by decide) rfl ?_ ?_
      · exact g_vret (by decide +kernel) rfl
      · refine g_seg0 (pc' := 34) (L' := [some (vR (kO 6) 1), some (vI ((u.1 1 6) + 1))]) (st' := [vI 1001, vI ((u.1 1 6) + 1)]) (u1 := u) [(oL 0 1, 1), (oL 2 0, 1), (oP (.getfield 19), 3), (oP .arraylength, 1)] (by decide +kernel) rfl rfl ?_
        refine g_ige (off := 47) (tgt := 81) (pc2 := 37) (by decide +kernel) (by decide) rfl ?_ ?_
        · exact g_vret (by decide +kernel) rfl
        · refine g_seg0 (pc' := 43) (L' := [some (vR (kO 6) 1), some (vI ((u.1 1 6) + 1))]) (st' := [vI 1001, vI ((u.1 1 6) + 1)]) (u1 := u) [(oL 0 1, 1), (oL 2 0, 1), (oP (.getfield 22), 3), (oP .arraylength, 1)] (by decide +kernel) rfl rfl ?_
          refine g_ige (off := 38) (tgt := 81) (pc2 := 46) (by decide +kernel) (by decide) rfl ?_ ?_
          · exact g_vret (by decide +kernel) rfl
          · refine g_seg (pc' := 81) (L' := [some (vR (kO 6) 1), some (vI ((u.1 1 6) + 1))]) (st' := []) (u1 := (sJ (sI (sI (sI u 1 6 ((u.1 1 6) + 1)) 1 7 ((sI u 1 6 ((u.1 1 6) + 1)).1 3 (nc ((u.1 1 6) + 1)))) 1 8 ((sI (sI u 1 6 ((u.1 1 6) + 1)) 1 7 ((sI u 1 6 ((u.1 1 6) + 1)).1 3 (nc ((u.1 1 6) + 1)))).1 4 (nc ((u.1 1 6) + 1)))) 1 9 ((sI (sI (sI u 1 6 ((u.1 1 6) + 1)) 1 7 ((sI u 1 6 ((u.1 1 6) + 1)).1 3 (nc ((u.1 1 6) + 1)))) 1 8 ((sI (sI u 1 6 ((u.1 1 6) + 1)) 1 7 ((sI u 1 6 ((u.1 1 6) + 1)).1 3 (nc ((u.1 1 6) + 1)))).1 4 (nc ((u.1 1 6) + 1)))).2.1 5 (nc ((u.1 1 6) + 1))))) [(oL 2 0, 1), (oL 0 1, 1), (oP (.putfield 56), 3), (oL 2 0, 1), (oL 2 0, 1), (oP (.getfield 15), 3), (oL 0 1, 1), (oP .iaload, 1), (oP (.putfield 88), 3), (oL 2 0, 1), (oL 2 0, 1), (oP (.getfield 19), 3), (oL 0 1, 1), (oP .iaload, 1), (oP (.putfield 91), 3), (oL 2 0, 1), (oL 2 0, 1), (oP (.getfield 22), 3), (oL 0 1, 1), (oP .laload, 1), (oP (.putfield 94), 3)] (by decide +kernel) rfl rfl ?_
            exact g_vret (by decide +kernel) rfl
theorem CX6_step (u : ab_S) : ab_C 0 yX6_step cX6_step 2 none 0 [vR (kO 6) 1] u wV (fX6_step u) := ab_entry (by decide +kernel) rfl (by decide) (by decide) (fun _ => Nat.le_of_ble_eq_true rfl) rfl (tX6_step u)
def fX6_split_43 (k12 : Int32 → ab_S → Option (Unit × ab_S)) (v1 : Int32) (s0 : Int32) (u : ab_S) : Option (Unit × ab_S) :=
  bif decide (s0 = 0) then (
    (fX6_scan v1 u).bind fun q1 =>
      k12 (if q1.1 < (v1 + 1) then (v1 + 1) else q1.1) q1.2)
  else (
    k12 (v1 + 1) u)
theorem tX6_split_43 (k12 : Int32 → ab_S → Option (Unit × ab_S)) (hk12 : ∀ (v1 : Int32) (u : ab_S), ab_G 0 6 cX6_split none 5 12 [some (vR (kO 6) 1), some (vI v1), none, none] [] u wV (k12 v1 u)) (v1 : Int32) (s0 : Int32) (u : ab_S) : ab_G 0 6 cX6_split none 5 43 [some (vR (kO 6) 1), some (vI v1), none, none] [vI s0] u wV (fX6_split_43 k12 v1 s0 u) := by
  rw [fX6_split_43]
  refine g_seg0 (pc' := 45) (L' := [some (vR (kO 6) 1), some (vI v1), none, some (vI s0)]) (st' := [vI s0]) (u1 := u) [(oL 3 3, 1), (oL 0 3, 1)] (by decide +kernel) rfl rfl ?_
  refine g_zeq (off := 9) (tgt := 54) (pc2 := 48) (by decide +kernel) (by decide) rfl ?_ ?_
  · refine g_seg0 (pc' := 56) (L' := [some (vR (kO 6) 1), some (vI v1), none, some (vI s0)]) (st' := [vI v1, vR (kO 6) 1]) (u1 := u) [(oL 2 0, 1), (oL 0 1, 1)] (by decide +kernel) rfl rfl ?_
    refine g_callV (k := 42) (pc2 := 59) (st := []) (CX6_scan v1 u) miX6_scan mvX6_scan rfl (by decide) lk6_42 wI_ok (by decide +kernel) rfl (Nat.le_of_ble_eq_true rfl) (by decide) rfl (fun q1 hq1 => ?_)
    refine g_seg0 (pc' := 62) (L' := [some (vR (kO 6) 1), some (vI v1), none, some (vI s0)]) (st' := [vI (v1 + 1), vI (q1.1)]) (u1 := q1.2) [(oL 0 1, 1), (oC 1, 1), (oP .iadd, 1)] (by decide +kernel) rfl rfl ?_
    refine g_max (k := 46) (pc2 := 65) (st := []) lm6_46 (by decide +kernel) (Nat.le_of_ble_eq_true rfl) (by decide) rfl ?_
    refine g_seg0 (pc' := 66) (L' := [some (vR (kO 6) 1), some (vI (if q1.1 < (v1 + 1) then (v1 + 1) else q1.1)), none, some (vI s0)]) (st' := []) (u1 := q1.2) [(oL 3 1, 1)] (by decide +kernel) rfl rfl ?_
    refine g_goto (off := (-54)) (tgt := 12) (by decide +kernel) (by decide) ?_
    exact g_jump [true, true, false, false] rfl (hk12 (if q1.1 < (v1 + 1) then (v1 + 1) else q1.1) q1.2)
  · refine g_seg0 (pc' := 51) (L' := [some (vR (kO 6) 1), some (vI v1), none, some (vI s0)]) (st' := [vI (v1 + 1)]) (u1 := u) [(oL 0 1, 1), (oC 1, 1), (oP .iadd, 1)] (by decide +kernel) rfl rfl ?_
    refine g_goto (off := 14) (tgt := 65) (by decide +kernel) (by decide) ?_
    refine g_seg0 (pc' := 66) (L' := [some (vR (kO 6) 1), some (vI (v1 + 1)), none, some (vI s0)]) (st' := []) (u1 := u) [(oL 3 1, 1)] (by decide +kernel) rfl rfl ?_
    refine g_goto (off := (-54)) (tgt := 12) (by decide +kernel) (by decide) ?_
    exact g_jump [true, true, false, false] rfl (hk12 (v1 + 1) u)
def fX6_split_12 : Nat → Int32 → ab_S → Option (Unit × ab_S)
  | 0, _, _ => none
  | n + 1, v1, u =>
  bif decide (v1 < (u.1 1 1)) then (
    (fX6_signAt v1 u).bind fun q4 =>
      bif decide (q4.1 = 10) then (
        fX6_split_43 (fX6_split_12 n) v1 1 q4.2)
      else (
        bif decide (q4.1 = 32) then (
          fX6_split_43 (fX6_split_12 n) v1 1 q4.2)
        else (
          fX6_split_43 (fX6_split_12 n) v1 0 q4.2)))
  else (
    (fX6_add 0 (u.1 1 1) 0 u).bind fun q2 =>
      (fX6_step (sI (sI q2.2 1 1 0) 1 6 (-1))).bind fun q3 =>
        some ((), q3.2))
theorem tX6_split_12 : ∀ (n : Nat) (v1 : Int32) (u : ab_S), ab_G 0 6 cX6_split none 5 12 [some (vR (kO 6) 1), some (vI v1), none, none] [] u wV (fX6_split_12 n v1 u) := by
  intro n
  induction n with
  | zero => intros; exact g_none
  | succ n ih =>
    intro v1 u
    rw [fX6_split_12]
    refine g_seg0 (pc' := 17) (L' := [some (vR (kO 6) 1), some (vI v1), none, none]) (st' := [vI (u.1 1 1), vI v1]) (u1 := u) [(oL 0 1, 1), (oL 2 0, 1), (oP (.getfield 28), 3)] (by decide +kernel) rfl rfl ?_
    refine g_ige (off := 52) (tgt := 69) (pc2 := 20) (by decide +kernel) (by decide) rfl ?_ ?_
    · refine g_seg0 (pc' := 76) (L' := [some (vR (kO 6) 1), some (vI v1), none, none]) (st' := [vL 0, vI (u.1 1 1), vI 0, vR (kO 6) 1]) (u1 := u) [(oL 2 0, 1), (oC 0, 1), (oL 2 0, 1), (oP (.getfield 28), 3), (oD 0, 1)] (by decide +kernel) rfl rfl ?_
      refine g_callV (k := 52) (pc2 := 79) (st := []) (CX6_add 0 (u.1 1 1) 0 u) miX6_add mvX6_add rfl (by decide) lk6_52 wV_ok (by decide +kernel) rfl (Nat.le_of_ble_eq_true rfl) (by decide) rfl (fun q2 hq2 => ?_)
      refine g_seg0 (pc' := 90) (L' := [some (vR (kO 6) 1), some (vI v1), none, none]) (st' := [vR (kO 6) 1]) (u1 := (sI (sI q2.2 1 1 0) 1 6 (-1))) [(oL 2 0, 1), (oC 0, 1), (oP (.putfield 28), 3), (oL 2 0, 1), (oC (-1), 1), (oP (.putfield 56), 3), (oL 2 0, 1)] (by decide +kernel) rfl rfl ?_
      refine g_callV (k := 59) (pc2 := 93) (st := []) (CX6_step (sI (sI q2.2 1 1 0) 1 6 (-1))) miX6_step mvX6_step rfl (by decide) lk6_59 wV_ok (by decide +kernel) rfl (Nat.le_of_ble_eq_true rfl) (by decide) rfl (fun q3 hq3 => ?_)
      exact g_vret (by decide +kernel) rfl
    · refine g_seg0 (pc' := 22) (L' := [some (vR (kO 6) 1), some (vI v1), none, none]) (st' := [vI v1, vR (kO 6) 1]) (u1 := u) [(oL 2 0, 1), (oL 0 1, 1)] (by decide +kernel) rfl rfl ?_
      refine g_callV (k := 38) (pc2 := 25) (st := []) (CX6_signAt v1 u) miX6_signAt mvX6_signAt rfl (by decide) lk6_38 wI_ok (by decide +kernel) rfl (Nat.le_of_ble_eq_true rfl) (by decide) rfl (fun q4 hq4 => ?_)
      refine g_seg0 (pc' := 29) (L' := [some (vR (kO 6) 1), some (vI v1), some (vI (q4.1)), none]) (st' := [vI 10, vI (q4.1)]) (u1 := q4.2) [(oL 3 2, 1), (oL 0 2, 1), (oC 10, 2)] (by decide +kernel) rfl rfl ?_
      refine g_ieq (off := 9) (tgt := 38) (pc2 := 32) (by decide +kernel) (by decide) rfl ?_ ?_
      · refine g_seg0 (pc' := 39) (L' := [some (vR (kO 6) 1), some (vI v1), some (vI (q4.1)), none]) (st' := [vI 1]) (u1 := q4.2) [(oC 1, 1)] (by decide +kernel) rfl rfl ?_
        refine g_goto (off := 4) (tgt := 43) (by decide +kernel) (by decide) ?_
        exact g_jump [true, true, false, false] rfl (tX6_split_43 (fX6_split_12 n) ih v1 1 q4.2)
      · refine g_seg0 (pc' := 35) (L' := [some (vR (kO 6) 1), some (vI v1), some (vI (q4.1)), none]) (st' := [vI 32, vI (q4.1)]) (u1 := q4.2) [(oL 0 2, 1), (oC 32, 2)] (by decide +kernel) rfl rfl ?_
        refine g_ine (off := 7) (tgt := 42) (pc2 := 38) (by decide +kernel) (by decide) rfl ?_ ?_
        · refine g_seg0 (pc' := 43) (L' := [some (vR (kO 6) 1), some (vI v1), some (vI (q4.1)), none]) (st' := [vI 0]) (u1 := q4.2) [(oC 0, 1)] (by decide +kernel) rfl rfl ?_
          exact g_jump [true, true, false, false] rfl (tX6_split_43 (fX6_split_12 n) ih v1 0 q4.2)
        · refine g_seg0 (pc' := 39) (L' := [some (vR (kO 6) 1), some (vI v1), some (vI (q4.1)), none]) (st' := [vI 1]) (u1 := q4.2) [(oC 1, 1)] (by decide +kernel) rfl rfl ?_
          refine g_goto (off := 4) (tgt := 43) (by decide +kernel) (by decide) ?_
          exact g_jump [true, true, false, false] rfl (tX6_split_43 (fX6_split_12 n) ih v1 1 q4.2)
def fX6_split (u : ab_S) : Option (Unit × ab_S) :=
  fX6_split_12 fu 0 (sI (sI u 1 5 0) 1 10 0)
theorem tX6_split (u : ab_S) : ab_G 0 6 cX6_split none 5 0 [some (vR (kO 6) 1), none, none, none] [] u wV (fX6_split u) := by
  rw [fX6_split]
  refine g_seg0 (pc' := 12) (L' := [some (vR (kO 6) 1), some (vI 0), none, none]) (st' := []) (u1 := (sI (sI u 1 5 0) 1 10 0)) [(oL 2 0, 1), (oC 0, 1), (oP (.putfield 32), 3), (oL 2 0, 1), (oC 0, 1), (oP (.putfield 35), 3), (oC 0, 1), (oL 3 1, 1)] (by decide +kernel) rfl rfl ?_
  exact tX6_split_12 fu 0 (sI (sI u 1 5 0) 1 10 0)
theorem CX6_split (u : ab_S) : ab_C 0 yX6_split cX6_split 4 none 5 [vR (kO 6) 1] u wV (fX6_split u) := ab_entry (by decide +kernel) rfl (by decide) (by decide) (fun _ => Nat.le_of_ble_eq_true rfl) rfl (tX6_split u)
def fX6_isName_19 : Nat → Int32 → Int32 → ab_S → Option (Int32 × ab_S)
  | 0, _, _, _ => none
  | n + 1, v2, v3, u =>
  bif decide (v3 < v2) then (
    ab_gd [ab_ix v3 23] (
      bif decide ((ab_wr.getD (nc v3) 0) = 0) then (
        (fX6_isName_19 n) v2 (v3 + 1) u)
      else (
        bif decide ((ab_wl.getD (nc v3) 0) = (u.2.1 1 9)) then (
          ab_gd [ab_b1 0] (some (0, u)))
        else (
          (fX6_isName_19 n) v2 (v3 + 1) u))))
  else (
    ab_gd [ab_b1 1] (some (1, u)))
theorem tX6_isName_19 : ∀ (n : Nat) (v2 : Int32) (v3 : Int32) (u : ab_S), ab_G 0 6 cX6_isName (some .boolean) 0 19 [some (vR (kO 6) 1), some (vR (kA 6 23) 0), some (vI v2), some (vI v3), none] [] u wI (fX6_isName_19 n v2 v3 u) := by
  intro n
  induction n with
  | zero => intros; exact g_none
  | succ n ih =>
    intro v2 v3 u
    rw [fX6_isName_19]
    refine g_seg0 (pc' := 21) (L' := [some (vR (kO 6) 1), some (vR (kA 6 23) 0), some (vI v2), some (vI v3), none]) (st' := [vI v2, vI v3]) (u1 := u) [(oL 0 3, 1), (oL 0 2, 1)] (by decide +kernel) rfl rfl ?_
    refine g_ige (off := 37) (tgt := 58) (pc2 := 24) (by decide +kernel) (by decide) rfl ?_ ?_
    · refine g_seg0 (pc' := 59) (L' := [some (vR (kO 6) 1), some (vR (kA 6 23) 0), some (vI v2), some (vI v3), none]) (st' := [vI 1]) (u1 := u) [(oC 1, 1)] (by decide +kernel) rfl rfl ?_
      exact g_zret (by decide +kernel) rfl
    · refine g_seg (pc' := 34) (L' := [some (vR (kO 6) 1), some (vR (kA 6 23) 0), some (vI v2), some (vI v3), some (vR (kO 20) (nc v3))]) (st' := [vI (ab_wr.getD (nc v3) 0)]) (u1 := u) [(oL 2 1, 1), (oL 0 3, 1), (oP .aaload, 1), (oL 5 4, 2), (oL 2 4, 2), (oP (.getfield 107), 3)] (by decide +kernel) rfl rfl ?_
      refine g_zeq (off := 18) (tgt := 52) (pc2 := 37) (by decide +kernel) (by decide) rfl ?_ ?_
      · refine g_seg0 (pc' := 55) (L' := [some (vR (kO 6) 1), some (vR (kA 6 23) 0), some (vI v2), some (vI (v3 + 1)), some (vR (kO 20) (nc v3))]) (st' := []) (u1 := u) [(oN 3 1, 3)] (by decide +kernel) rfl rfl ?_
        refine g_goto (off := (-36)) (tgt := 19) (by decide +kernel) (by decide) ?_
        exact g_jump [true, true, true, true, false] rfl (ih v2 (v3 + 1) u)
      · refine g_seg0 (pc' := 46) (L' := [some (vR (kO 6) 1), some (vR (kA 6 23) 0), some (vI v2), some (vI v3), some (vR (kO 20) (nc v3))]) (st' := [vL (u.2.1 1 9), vL (ab_wl.getD (nc v3) 0)]) (u1 := u) [(oL 2 4, 2), (oP (.getfield 98), 3), (oL 2 0, 1), (oP (.getfield 94), 3)] (by decide +kernel) rfl rfl ?_
        refine g_lne (off := 5) (tgt := 52) (pc1 := 47) (pc2 := 50) (by decide +kernel) rfl (by decide +kernel) (by decide) rfl ?_ ?_
        · refine g_seg0 (pc' := 55) (L' := [some (vR (kO 6) 1), some (vR (kA 6 23) 0), some (vI v2), some (vI (v3 + 1)), some (vR (kO 20) (nc v3))]) (st' := []) (u1 := u) [(oN 3 1, 3)] (by decide +kernel) rfl rfl ?_
          refine g_goto (off := (-36)) (tgt := 19) (by decide +kernel) (by decide) ?_
          exact g_jump [true, true, true, true, false] rfl (ih v2 (v3 + 1) u)
        · refine g_seg0 (pc' := 51) (L' := [some (vR (kO 6) 1), some (vR (kA 6 23) 0), some (vI v2), some (vI v3), some (vR (kO 20) (nc v3))]) (st' := [vI 0]) (u1 := u) [(oC 0, 1)] (by decide +kernel) rfl rfl ?_
          exact g_zret (by decide +kernel) rfl
def fX6_isName (u : ab_S) : Option (Int32 × ab_S) :=
  bif decide ((u.1 1 7) = 2) then (
    fX6_isName_19 fu 23 0 u)
  else (
    ab_gd [ab_b1 0] (some (0, u)))
theorem tX6_isName (u : ab_S) : ab_G 0 6 cX6_isName (some .boolean) 0 0 [some (vR (kO 6) 1), none, none, none, none] [] u wI (fX6_isName u) := by
  rw [fX6_isName]
  refine g_seg0 (pc' := 5) (L' := [some (vR (kO 6) 1), none, none, none, none]) (st' := [vI 2, vI (u.1 1 7)]) (u1 := u) [(oL 2 0, 1), (oP (.getfield 88), 3), (oC 2, 1)] (by decide +kernel) rfl rfl ?_
  refine g_ieq (off := 5) (tgt := 10) (pc2 := 8) (by decide +kernel) (by decide) rfl ?_ ?_
  · refine g_seg0 (pc' := 19) (L' := [some (vR (kO 6) 1), some (vR (kA 6 23) 0), some (vI 23), some (vI 0), none]) (st' := []) (u1 := u) [(oP (.getstatic 103), 3), (oL 5 1, 1), (oL 2 1, 1), (oP .arraylength, 1), (oL 3 2, 1), (oC 0, 1), (oL 3 3, 1)] (by decide +kernel) rfl rfl ?_
    exact tX6_isName_19 fu 23 0 u
  · refine g_seg0 (pc' := 9) (L' := [some (vR (kO 6) 1), none, none, none, none]) (st' := [vI 0]) (u1 := u) [(oC 0, 1)] (by decide +kernel) rfl rfl ?_
    exact g_zret (by decide +kernel) rfl
theorem CX6_isName (u : ab_S) : ab_C 0 yX6_isName cX6_isName 5 (some .boolean) 0 [vR (kO 6) 1] u wI (fX6_isName u) := ab_entry (by decide +kernel) rfl (by decide) (by decide) (fun _ => Nat.le_of_ble_eq_true rfl) rfl (tX6_isName u)
def fX6_fail (v1 : Int32) (u : ab_S) : Option (Int32 × ab_S) :=
  ab_gd [ab_b1 0] (some (0, (sI u 1 10 (v1 + (16 * (u.1 1 8))))))
theorem tX6_fail (v1 : Int32) (u : ab_S) : ab_G 0 6 cX6_fail (some .boolean) 0 0 [some (vR (kO 6) 1), some (vI v1)] [] u wI (fX6_fail v1 u) := by
  rw [fX6_fail]
  refine g_seg0 (pc' := 14) (L' := [some (vR (kO 6) 1), some (vI v1)]) (st' := [vI 0]) (u1 := (sI u 1 10 (v1 + (16 * (u.1 1 8))))) [(oL 2 0, 1), (oL 0 1, 1), (oC 16, 2), (oL 2 0, 1), (oP (.getfield 91), 3), (oP .imul, 1), (oP .iadd, 1), (oP (.putfield 35), 3), (oC 0, 1)] (by decide +kernel) rfl rfl ?_
  exact g_zret (by decide +kernel) rfl
theorem CX6_fail (v1 : Int32) (u : ab_S) : ab_C 0 yX6_fail cX6_fail 2 (some .boolean) 0 [vR (kO 6) 1, vI v1] u wI (fX6_fail v1 u) := ab_entry (by decide +kernel) rfl (by decide) (by decide) (fun _ => Nat.le_of_ble_eq_true rfl) rfl (tX6_fail v1 u)
def fX9_indexOf_3 (n0 : Nat) (o0 : Nat) : Nat → Int32 → Int64 → Int32 → ab_S → Option (Int32 × ab_S)
  | 0, _, _, _, _ => none
  | n + 1, v1, v2, v4, u =>
  bif decide (v4 < v1) then (
    bif decide (v4 < (Int32.ofNat n0)) then (
      ab_gd [ab_ix v4 n0] (
        bif decide ((u.2.1 o0 (nc v4)) = v2) then (
          some (v4, u))
        else (
          (fX9_indexOf_3 n0 o0 n) v1 v2 (v4 + 1) u)))
    else (
      some ((-1), u)))
  else (
    some ((-1), u))
theorem tX9_indexOf_3 (n0 : Nat) (o0 : Nat) : ∀ (n : Nat) (v1 : Int32) (v2 : Int64) (v4 : Int32) (u : ab_S), ab_G 0 8 cX9_indexOf (some .int) 0 3 [some (vR (kA 1 n0) o0), some (vI v1), some (vL v2), none, some (vI v4)] [] u wI (fX9_indexOf_3 n0 o0 n v1 v2 v4 u) := by
  intro n
  induction n with
  | zero => intros; exact g_none
  | succ n ih =>
    intro v1 v2 v4 u
    rw [fX9_indexOf_3]
    refine g_seg0 (pc' := 6) (L' := [some (vR (kA 1 n0) o0), some (vI v1), some (vL v2), none, some (vI v4)]) (st' := [vI v1, vI v4]) (u1 := u) [(oL 0 4, 2), (oL 0 1, 1)] (by decide +kernel) rfl rfl ?_
    refine g_ige (off := 28) (tgt := 34) (pc2 := 9) (by decide +kernel) (by decide) rfl ?_ ?_
    · refine g_seg0 (pc' := 35) (L' := [some (vR (kA 1 n0) o0), some (vI v1), some (vL v2), none, some (vI v4)]) (st' := [vI (-1)]) (u1 := u) [(oC (-1), 1)] (by decide +kernel) rfl rfl ?_
      exact g_iret (by decide +kernel) rfl
    · refine g_seg0 (pc' := 13) (L' := [some (vR (kA 1 n0) o0), some (vI v1), some (vL v2), none, some (vI v4)]) (st' := [vI (Int32.ofNat n0), vI v4]) (u1 := u) [(oL 0 4, 2), (oL 2 0, 1), (oP .arraylength, 1)] (by decide +kernel) rfl rfl ?_
      refine g_ige (off := 21) (tgt := 34) (pc2 := 16) (by decide +kernel) (by decide) rfl ?_ ?_
      · refine g_seg0 (pc' := 35) (L' := [some (vR (kA 1 n0) o0), some (vI v1), some (vL v2), none, some (vI v4)]) (st' := [vI (-1)]) (u1 := u) [(oC (-1), 1)] (by decide +kernel) rfl rfl ?_
        exact g_iret (by decide +kernel) rfl
      · refine g_seg (pc' := 21) (L' := [some (vR (kA 1 n0) o0), some (vI v1), some (vL v2), none, some (vI v4)]) (st' := [vL v2, vL (u.2.1 o0 (nc v4))]) (u1 := u) [(oL 2 0, 1), (oL 0 4, 2), (oP .laload, 1), (oL 1 2, 1)] (by decide +kernel) rfl rfl ?_
        refine g_lne (off := 6) (tgt := 28) (pc1 := 22) (pc2 := 25) (by decide +kernel) rfl (by decide +kernel) (by decide) rfl ?_ ?_
        · refine g_seg0 (pc' := 31) (L' := [some (vR (kA 1 n0) o0), some (vI v1), some (vL v2), none, some (vI (v4 + 1))]) (st' := []) (u1 := u) [(oN 4 1, 3)] (by decide +kernel) rfl rfl ?_
          refine g_goto (off := (-28)) (tgt := 3) (by decide +kernel) (by decide) ?_
          exact ih v1 v2 (v4 + 1) u
        · refine g_seg0 (pc' := 27) (L' := [some (vR (kA 1 n0) o0), some (vI v1), some (vL v2), none, some (vI v4)]) (st' := [vI v4]) (u1 := u) [(oL 0 4, 2)] (by decide +kernel) rfl rfl ?_
          exact g_iret (by decide +kernel) rfl
def fX9_indexOf (n0 : Nat) (o0 : Nat) (v1 : Int32) (v2 : Int64) (u : ab_S) : Option (Int32 × ab_S) :=
  fX9_indexOf_3 n0 o0 fu v1 v2 0 u
theorem tX9_indexOf (n0 : Nat) (o0 : Nat) (v1 : Int32) (v2 : Int64) (u : ab_S) : ab_G 0 8 cX9_indexOf (some .int) 0 0 [some (vR (kA 1 n0) o0), some (vI v1), some (vL v2), none, none] [] u wI (fX9_indexOf n0 o0 v1 v2 u) := by
  rw [fX9_indexOf]
  refine g_seg0 (pc' := 3) (L' := [some (vR (kA 1 n0) o0), some (vI v1), some (vL v2), none, some (vI 0)]) (st' := []) (u1 := u) [(oC 0, 1), (oL 3 4, 2)] (by decide +kernel) rfl rfl ?_
  exact tX9_indexOf_3 n0 o0 fu v1 v2 0 u
theorem CX9_indexOf (n0 : Nat) (o0 : Nat) (v1 : Int32) (v2 : Int64) (u : ab_S) : ab_C 0 yX9_indexOf cX9_indexOf 5 (some .int) 0 [vR (kA 1 n0) o0, vI v1, vL v2] u wI (fX9_indexOf n0 o0 v1 v2 u) := ab_entry (by decide +kernel) rfl (by decide) (by decide) (fun _ => Nat.le_of_ble_eq_true rfl) rfl (tX9_indexOf n0 o0 v1 v2 u)
def fX2_isNewName_50 (o0 : Nat) (u : ab_S) : Option (Int32 × ab_S) :=
  (fX6_fail 3 u).bind fun q1 =>
    ab_gd [ab_b1 q1.1] (some (q1.1, q1.2))
theorem tX2_isNewName_50 (o0 : Nat) (u : ab_S) : ab_G 0 2 cX2_isNewName (some .boolean) 1 50 [none, some (vR (kO 6) 1), none, none] [] u wI (fX2_isNewName_50 o0 u) := by
  rw [fX2_isNewName_50]
  refine g_seg0 (pc' := 52) (L' := [none, some (vR (kO 6) 1), none, none]) (st' := [vI 3, vR (kO 6) 1]) (u1 := u) [(oL 2 1, 1), (oC 3, 1)] (by decide +kernel) rfl rfl ?_
  refine g_callV (k := 119) (pc2 := 55) (st := []) (CX6_fail 3 u) miX6_fail mvX6_fail rfl (by decide) lk2_119 wI_ok (by decide +kernel) rfl (Nat.le_of_ble_eq_true rfl) (by decide) rfl (fun q1 hq1 => ?_)
  exact g_zret (by decide +kernel) rfl
def fX2_isNewName (o0 : Nat) (u : ab_S) : Option (Int32 × ab_S) :=
  (fX6_isName u).bind fun q2 =>
    bif decide (q2.1 = 0) then (
      (fX6_fail 1 q2.2).bind fun q5 =>
        ab_gd [ab_b1 q5.1] (some (q5.1, q5.2)))
    else (
      (fX9_indexOf 6 (o0 + 1) (q2.2.1 o0 0) (q2.2.2.1 1 9) q2.2).bind fun q3 =>
        bif decide (q3.1 = (-1)) then (
          (fX9_indexOf 8 (o0 + 2) (q3.2.1 o0 1) (q2.2.2.1 1 9) q3.2).bind fun q4 =>
            bif decide (q4.1 = (-1)) then (
              ab_gd [ab_b1 1] (some (1, q4.2)))
            else (
              fX2_isNewName_50 o0 q4.2))
        else (
          fX2_isNewName_50 o0 q3.2))
theorem tX2_isNewName (o0 : Nat) (u : ab_S) : ab_G 0 2 cX2_isNewName (some .boolean) 1 0 [some (vR (kO 2) o0), some (vR (kO 6) 1), none, none] [] u wI (fX2_isNewName o0 u) := by
  rw [fX2_isNewName]
  refine g_seg0 (pc' := 1) (L' := [some (vR (kO 2) o0), some (vR (kO 6) 1), none, none]) (st' := [vR (kO 6) 1]) (u1 := u) [(oL 2 1, 1)] (by decide +kernel) rfl rfl ?_
  refine g_callV (k := 172) (pc2 := 4) (st := []) (CX6_isName u) miX6_isName mvX6_isName rfl (by decide) lk2_172 wI_ok (by decide +kernel) rfl (Nat.le_of_ble_eq_true rfl) (by decide) rfl (fun q2 hq2 => ?_)
  refine g_zne (off := 9) (tgt := 13) (pc2 := 7) (by decide +kernel) (by decide) rfl ?_ ?_
  · refine g_seg0 (pc' := 27) (L' := [some (vR (kO 2) o0), some (vR (kO 6) 1), some (vL (q2.2.2.1 1 9)), none]) (st' := [vL (q2.2.2.1 1 9), vI (q2.2.1 o0 0), vR (kA 1 6) (o0 + 1)]) (u1 := q2.2) [(oL 2 1, 1), (oP (.getfield 129), 3), (oL 4 2, 1), (oL 2 0, 1), (oP (.getfield 9), 3), (oL 2 0, 1), (oP (.getfield 63), 3), (oL 1 2, 1)] (by decide +kernel) rfl rfl ?_
    refine g_callS (k := 175) (pc2 := 30) (st := []) (CX9_indexOf 6 (o0 + 1) (q2.2.1 o0 0) (q2.2.2.1 1 9) q2.2) miX9_indexOf msX9_indexOf lk2_175 wI_ok (by decide +kernel) rfl (Nat.le_of_ble_eq_true rfl) (by decide) rfl (fun q3 hq3 => ?_)
    refine g_seg0 (pc' := 31) (L' := [some (vR (kO 2) o0), some (vR (kO 6) 1), some (vL (q2.2.2.1 1 9)), none]) (st' := [vI (-1), vI (q3.1)]) (u1 := q3.2) [(oC (-1), 1)] (by decide +kernel) rfl rfl ?_
    refine g_ine (off := 19) (tgt := 50) (pc2 := 34) (by decide +kernel) (by decide) rfl ?_ ?_
    · exact g_jump [false, true, false, false] rfl (tX2_isNewName_50 o0 q3.2)
    · refine g_seg0 (pc' := 43) (L' := [some (vR (kO 2) o0), some (vR (kO 6) 1), some (vL (q2.2.2.1 1 9)), none]) (st' := [vL (q2.2.2.1 1 9), vI (q3.2.1 o0 1), vR (kA 1 8) (o0 + 2)]) (u1 := q3.2) [(oL 2 0, 1), (oP (.getfield 15), 3), (oL 2 0, 1), (oP (.getfield 66), 3), (oL 1 2, 1)] (by decide +kernel) rfl rfl ?_
      refine g_callS (k := 175) (pc2 := 46) (st := []) (CX9_indexOf 8 (o0 + 2) (q3.2.1 o0 1) (q2.2.2.1 1 9) q3.2) miX9_indexOf msX9_indexOf lk2_175 wI_ok (by decide +kernel) rfl (Nat.le_of_ble_eq_true rfl) (by decide) rfl (fun q4 hq4 => ?_)
      refine g_seg0 (pc' := 47) (L' := [some (vR (kO 2) o0), some (vR (kO 6) 1), some (vL (q2.2.2.1 1 9)), none]) (st' := [vI (-1), vI (q4.1)]) (u1 := q4.2) [(oC (-1), 1)] (by decide +kernel) rfl rfl ?_
      refine g_ieq (off := 9) (tgt := 56) (pc2 := 50) (by decide +kernel) (by decide) rfl ?_ ?_
      · refine g_seg0 (pc' := 57) (L' := [some (vR (kO 2) o0), some (vR (kO 6) 1), some (vL (q2.2.2.1 1 9)), none]) (st' := [vI 1]) (u1 := q4.2) [(oC 1, 1)] (by decide +kernel) rfl rfl ?_
        exact g_zret (by decide +kernel) rfl
      · exact g_jump [false, true, false, false] rfl (tX2_isNewName_50 o0 q4.2)
  · refine g_seg0 (pc' := 9) (L' := [some (vR (kO 2) o0), some (vR (kO 6) 1), none, none]) (st' := [vI 1, vR (kO 6) 1]) (u1 := q2.2) [(oL 2 1, 1), (oC 1, 1)] (by decide +kernel) rfl rfl ?_
    refine g_callV (k := 119) (pc2 := 12) (st := []) (CX6_fail 1 q2.2) miX6_fail mvX6_fail rfl (by decide) lk2_119 wI_ok (by decide +kernel) rfl (Nat.le_of_ble_eq_true rfl) (by decide) rfl (fun q5 hq5 => ?_)
    exact g_zret (by decide +kernel) rfl
theorem CX2_isNewName (o0 : Nat) (u : ab_S) : ab_C 0 yX2_isNewName cX2_isNewName 4 (some .boolean) 1 [vR (kO 2) o0, vR (kO 6) 1] u wI (fX2_isNewName o0 u) := ab_entry (by decide +kernel) rfl (by decide) (by decide) (fun _ => Nat.le_of_ble_eq_true rfl) rfl (tX2_isNewName o0 u)
def fX6_isWord (o1 : Nat) (u : ab_S) : Option (Int32 × ab_S) :=
  bif decide ((u.1 1 7) = 2) then (
    bif decide ((u.2.1 1 9) = (ab_wl.getD o1 0)) then (
      ab_gd [ab_b1 1] (some (1, u)))
    else (
      ab_gd [ab_b1 0] (some (0, u))))
  else (
    ab_gd [ab_b1 0] (some (0, u)))
theorem tX6_isWord (o1 : Nat) (u : ab_S) : ab_G 0 6 cX6_isWord (some .boolean) 0 0 [some (vR (kO 6) 1), some (vR (kO 20) o1)] [] u wI (fX6_isWord o1 u) := by
  rw [fX6_isWord]
  refine g_seg0 (pc' := 5) (L' := [some (vR (kO 6) 1), some (vR (kO 20) o1)]) (st' := [vI 2, vI (u.1 1 7)]) (u1 := u) [(oL 2 0, 1), (oP (.getfield 88), 3), (oC 2, 1)] (by decide +kernel) rfl rfl ?_
  refine g_ine (off := 19) (tgt := 24) (pc2 := 8) (by decide +kernel) (by decide) rfl ?_ ?_
  · refine g_seg0 (pc' := 25) (L' := [some (vR (kO 6) 1), some (vR (kO 20) o1)]) (st' := [vI 0]) (u1 := u) [(oC 0, 1)] (by decide +kernel) rfl rfl ?_
    exact g_zret (by decide +kernel) rfl
  · refine g_seg0 (pc' := 16) (L' := [some (vR (kO 6) 1), some (vR (kO 20) o1)]) (st' := [vL (ab_wl.getD o1 0), vL (u.2.1 1 9)]) (u1 := u) [(oL 2 0, 1), (oP (.getfield 94), 3), (oL 2 1, 1), (oP (.getfield 98), 3)] (by decide +kernel) rfl rfl ?_
    refine g_lne (off := 7) (tgt := 24) (pc1 := 17) (pc2 := 20) (by decide +kernel) rfl (by decide +kernel) (by decide) rfl ?_ ?_
    · refine g_seg0 (pc' := 25) (L' := [some (vR (kO 6) 1), some (vR (kO 20) o1)]) (st' := [vI 0]) (u1 := u) [(oC 0, 1)] (by decide +kernel) rfl rfl ?_
      exact g_zret (by decide +kernel) rfl
    · refine g_seg0 (pc' := 21) (L' := [some (vR (kO 6) 1), some (vR (kO 20) o1)]) (st' := [vI 1]) (u1 := u) [(oC 1, 1)] (by decide +kernel) rfl rfl ?_
      refine g_goto (off := 4) (tgt := 25) (by decide +kernel) (by decide) ?_
      exact g_zret (by decide +kernel) rfl
theorem CX6_isWord (o1 : Nat) (u : ab_S) : ab_C 0 yX6_isWord cX6_isWord 2 (some .boolean) 0 [vR (kO 6) 1, vR (kO 20) o1] u wI (fX6_isWord o1 u) := ab_entry (by decide +kernel) rfl (by decide) (by decide) (fun _ => Nat.le_of_ble_eq_true rfl) rfl (tX6_isWord o1 u)
def fX6_takeWord (o1 : Nat) (u : ab_S) : Option (Int32 × ab_S) :=
  (fX6_isWord o1 u).bind fun q1 =>
    bif decide (q1.1 = 0) then (
      (fX6_fail 1 q1.2).bind fun q3 =>
        ab_gd [ab_b1 q3.1] (some (q3.1, q3.2)))
    else (
      (fX6_step q1.2).bind fun q2 =>
        ab_gd [ab_b1 1] (some (1, q2.2)))
theorem tX6_takeWord (o1 : Nat) (u : ab_S) : ab_G 0 6 cX6_takeWord (some .boolean) 1 0 [some (vR (kO 6) 1), some (vR (kO 20) o1)] [] u wI (fX6_takeWord o1 u) := by
  rw [fX6_takeWord]
  refine g_seg0 (pc' := 2) (L' := [some (vR (kO 6) 1), some (vR (kO 20) o1)]) (st' := [vR (kO 20) o1, vR (kO 6) 1]) (u1 := u) [(oL 2 0, 1), (oL 2 1, 1)] (by decide +kernel) rfl rfl ?_
  refine g_callV (k := 111) (pc2 := 5) (st := []) (CX6_isWord o1 u) miX6_isWord mvX6_isWord rfl (by decide) lk6_111 wI_ok (by decide +kernel) rfl (Nat.le_of_ble_eq_true rfl) (by decide) rfl (fun q1 hq1 => ?_)
  refine g_zne (off := 9) (tgt := 14) (pc2 := 8) (by decide +kernel) (by decide) rfl ?_ ?_
  · refine g_seg0 (pc' := 15) (L' := [some (vR (kO 6) 1), some (vR (kO 20) o1)]) (st' := [vR (kO 6) 1]) (u1 := q1.2) [(oL 2 0, 1)] (by decide +kernel) rfl rfl ?_
    refine g_callV (k := 59) (pc2 := 18) (st := []) (CX6_step q1.2) miX6_step mvX6_step rfl (by decide) lk6_59 wV_ok (by decide +kernel) rfl (Nat.le_of_ble_eq_true rfl) (by decide) rfl (fun q2 hq2 => ?_)
    refine g_seg0 (pc' := 19) (L' := [some (vR (kO 6) 1), some (vR (kO 20) o1)]) (st' := [vI 1]) (u1 := q2.2) [(oC 1, 1)] (by decide +kernel) rfl rfl ?_
    exact g_zret (by decide +kernel) rfl
  · refine g_seg0 (pc' := 10) (L' := [some (vR (kO 6) 1), some (vR (kO 20) o1)]) (st' := [vI 1, vR (kO 6) 1]) (u1 := q1.2) [(oL 2 0, 1), (oC 1, 1)] (by decide +kernel) rfl rfl ?_
    refine g_callV (k := 115) (pc2 := 13) (st := []) (CX6_fail 1 q1.2) miX6_fail mvX6_fail rfl (by decide) lk6_115 wI_ok (by decide +kernel) rfl (Nat.le_of_ble_eq_true rfl) (by decide) rfl (fun q3 hq3 => ?_)
    exact g_zret (by decide +kernel) rfl
theorem CX6_takeWord (o1 : Nat) (u : ab_S) : ab_C 0 yX6_takeWord cX6_takeWord 2 (some .boolean) 1 [vR (kO 6) 1, vR (kO 20) o1] u wI (fX6_takeWord o1 u) := ab_entry (by decide +kernel) rfl (by decide) (by decide) (fun _ => Nat.le_of_ble_eq_true rfl) rfl (tX6_takeWord o1 u)
def fX9_put (n0 : Nat) (o0 : Nat) (v1 : Int32) (v2 : Int32) (u : ab_S) : Option (Unit × ab_S) :=
  bif decide (v1 < 0) then (
    some ((), u))
  else (
    bif decide (v1 < (Int32.ofNat n0)) then (
      ab_gd [ab_ix v1 n0] (
        some ((), (sI u o0 (nc v1) v2))))
    else (
      some ((), u)))
theorem tX9_put (n0 : Nat) (o0 : Nat) (v1 : Int32) (v2 : Int32) (u : ab_S) : ab_G 0 8 cX9_put none 0 0 [some (vR (kA 0 n0) o0), some (vI v1), some (vI v2)] [] u wV (fX9_put n0 o0 v1 v2 u) := by
  rw [fX9_put]
  refine g_seg0 (pc' := 1) (L' := [some (vR (kA 0 n0) o0), some (vI v1), some (vI v2)]) (st' := [vI v1]) (u1 := u) [(oL 0 1, 1)] (by decide +kernel) rfl rfl ?_
  refine g_zlt (off := 13) (tgt := 14) (pc2 := 4) (by decide +kernel) (by decide) rfl ?_ ?_
  · exact g_vret (by decide +kernel) rfl
  · refine g_seg0 (pc' := 7) (L' := [some (vR (kA 0 n0) o0), some (vI v1), some (vI v2)]) (st' := [vI (Int32.ofNat n0), vI v1]) (u1 := u) [(oL 0 1, 1), (oL 2 0, 1), (oP .arraylength, 1)] (by decide +kernel) rfl rfl ?_
    refine g_ige (off := 7) (tgt := 14) (pc2 := 10) (by decide +kernel) (by decide) rfl ?_ ?_
    · exact g_vret (by decide +kernel) rfl
    · refine g_seg (pc' := 14) (L' := [some (vR (kA 0 n0) o0), some (vI v1), some (vI v2)]) (st' := []) (u1 := (sI u o0 (nc v1) v2)) [(oL 2 0, 1), (oL 0 1, 1), (oL 0 2, 1), (oP .iastore, 1)] (by decide +kernel) rfl rfl ?_
      exact g_vret (by decide +kernel) rfl
theorem CX9_put (n0 : Nat) (o0 : Nat) (v1 : Int32) (v2 : Int32) (u : ab_S) : ab_C 0 yX9_put cX9_put 3 none 0 [vR (kA 0 n0) o0, vI v1, vI v2] u wV (fX9_put n0 o0 v1 v2 u) := ab_entry (by decide +kernel) rfl (by decide) (by decide) (fun _ => Nat.le_of_ble_eq_true rfl) rfl (tX9_put n0 o0 v1 v2 u)
def fX2_addGood (o0 : Nat) (v1 : Int64) (v3 : Int32) (v4 : Int32) (u : ab_S) : Option (Unit × ab_S) :=
  bif decide ((u.1 o0 1) < 0) then (
    some ((), u))
  else (
    bif decide ((u.1 o0 1) < 8) then (
      ab_gd [ab_ix (u.1 o0 1) 8] (
        (fX9_put 8 (o0 + 5) ((sJ u (o0 + 2) (nc (u.1 o0 1)) v1).1 o0 1) v3 (sJ u (o0 + 2) (nc (u.1 o0 1)) v1)).bind fun q1 =>
          (fX9_put 8 (o0 + 6) (q1.2.1 o0 1) v4 q1.2).bind fun q2 =>
            some ((), (sI q2.2 o0 1 ((q2.2.1 o0 1) + 1)))))
    else (
      some ((), u)))
theorem tX2_addGood (o0 : Nat) (v1 : Int64) (v3 : Int32) (v4 : Int32) (u : ab_S) : ab_G 0 2 cX2_addGood none 1 0 [some (vR (kO 2) o0), some (vL v1), none, some (vI v3), some (vI v4)] [] u wV (fX2_addGood o0 v1 v3 v4 u) := by
  rw [fX2_addGood]
  refine g_seg0 (pc' := 4) (L' := [some (vR (kO 2) o0), some (vL v1), none, some (vI v3), some (vI v4)]) (st' := [vI (u.1 o0 1)]) (u1 := u) [(oL 2 0, 1), (oP (.getfield 66), 3)] (by decide +kernel) rfl rfl ?_
  refine g_zlt (off := 60) (tgt := 64) (pc2 := 7) (by decide +kernel) (by decide) rfl ?_ ?_
  · exact g_vret (by decide +kernel) rfl
  · refine g_seg0 (pc' := 16) (L' := [some (vR (kO 2) o0), some (vL v1), none, some (vI v3), some (vI v4)]) (st' := [vI 8, vI (u.1 o0 1)]) (u1 := u) [(oL 2 0, 1), (oP (.getfield 66), 3), (oL 2 0, 1), (oP (.getfield 15), 3), (oP .arraylength, 1)] (by decide +kernel) rfl rfl ?_
    refine g_ige (off := 48) (tgt := 64) (pc2 := 19) (by decide +kernel) (by decide) rfl ?_ ?_
    · exact g_vret (by decide +kernel) rfl
    · refine g_seg (pc' := 38) (L' := [some (vR (kO 2) o0), some (vL v1), none, some (vI v3), some (vI v4)]) (st' := [vI v3, vI ((sJ u (o0 + 2) (nc (u.1 o0 1)) v1).1 o0 1), vR (kA 0 8) (o0 + 5)]) (u1 := (sJ u (o0 + 2) (nc (u.1 o0 1)) v1)) [(oL 2 0, 1), (oP (.getfield 15), 3), (oL 2 0, 1), (oP (.getfield 66), 3), (oL 1 1, 1), (oP .lastore, 1), (oL 2 0, 1), (oP (.getfield 25), 3), (oL 2 0, 1), (oP (.getfield 66), 3), (oL 0 3, 1)] (by decide +kernel) rfl rfl ?_
      refine g_callS (k := 155) (pc2 := 41) (st := []) (CX9_put 8 (o0 + 5) ((sJ u (o0 + 2) (nc (u.1 o0 1)) v1).1 o0 1) v3 (sJ u (o0 + 2) (nc (u.1 o0 1)) v1)) miX9_put msX9_put lk2_155 wV_ok (by decide +kernel) rfl (Nat.le_of_ble_eq_true rfl) (by decide) rfl (fun q1 hq1 => ?_)
      refine g_seg0 (pc' := 51) (L' := [some (vR (kO 2) o0), some (vL v1), none, some (vI v3), some (vI v4)]) (st' := [vI v4, vI (q1.2.1 o0 1), vR (kA 0 8) (o0 + 6)]) (u1 := q1.2) [(oL 2 0, 1), (oP (.getfield 28), 3), (oL 2 0, 1), (oP (.getfield 66), 3), (oL 0 4, 2)] (by decide +kernel) rfl rfl ?_
      refine g_callS (k := 155) (pc2 := 54) (st := []) (CX9_put 8 (o0 + 6) (q1.2.1 o0 1) v4 q1.2) miX9_put msX9_put lk2_155 wV_ok (by decide +kernel) rfl (Nat.le_of_ble_eq_true rfl) (by decide) rfl (fun q2 hq2 => ?_)
      refine g_seg0 (pc' := 64) (L' := [some (vR (kO 2) o0), some (vL v1), none, some (vI v3), some (vI v4)]) (st' := []) (u1 := (sI q2.2 o0 1 ((q2.2.1 o0 1) + 1))) [(oL 2 0, 1), (oP .dup, 1), (oP (.getfield 66), 3), (oC 1, 1), (oP .iadd, 1), (oP (.putfield 66), 3)] (by decide +kernel) rfl rfl ?_
      exact g_vret (by decide +kernel) rfl
theorem CX2_addGood (o0 : Nat) (v1 : Int64) (v3 : Int32) (v4 : Int32) (u : ab_S) : ab_C 0 yX2_addGood cX2_addGood 5 none 1 [vR (kO 2) o0, vL v1, vI v3, vI v4] u wV (fX2_addGood o0 v1 v3 v4 u) := ab_entry (by decide +kernel) rfl (by decide) (by decide) (fun _ => Nat.le_of_ble_eq_true rfl) rfl (tX2_addGood o0 v1 v3 v4 u)
def fX6_isSign (v1 : Int32) (u : ab_S) : Option (Int32 × ab_S) :=
  bif decide ((u.1 1 7) = 4) then (
    bif decide ((u.2.1 1 9) = (Int32.toInt64 v1)) then (
      ab_gd [ab_b1 1] (some (1, u)))
    else (
      ab_gd [ab_b1 0] (some (0, u))))
  else (
    ab_gd [ab_b1 0] (some (0, u)))
theorem tX6_isSign (v1 : Int32) (u : ab_S) : ab_G 0 6 cX6_isSign (some .boolean) 0 0 [some (vR (kO 6) 1), some (vI v1)] [] u wI (fX6_isSign v1 u) := by
  rw [fX6_isSign]
  refine g_seg0 (pc' := 5) (L' := [some (vR (kO 6) 1), some (vI v1)]) (st' := [vI 4, vI (u.1 1 7)]) (u1 := u) [(oL 2 0, 1), (oP (.getfield 88), 3), (oC 4, 1)] (by decide +kernel) rfl rfl ?_
  refine g_ine (off := 17) (tgt := 22) (pc2 := 8) (by decide +kernel) (by decide) rfl ?_ ?_
  · refine g_seg0 (pc' := 23) (L' := [some (vR (kO 6) 1), some (vI v1)]) (st' := [vI 0]) (u1 := u) [(oC 0, 1)] (by decide +kernel) rfl rfl ?_
    exact g_zret (by decide +kernel) rfl
  · refine g_seg0 (pc' := 14) (L' := [some (vR (kO 6) 1), some (vI v1)]) (st' := [vL (Int32.toInt64 v1), vL (u.2.1 1 9)]) (u1 := u) [(oL 2 0, 1), (oP (.getfield 94), 3), (oL 0 1, 1), (oP .i2l, 1)] (by decide +kernel) rfl rfl ?_
    refine g_lne (off := 7) (tgt := 22) (pc1 := 15) (pc2 := 18) (by decide +kernel) rfl (by decide +kernel) (by decide) rfl ?_ ?_
    · refine g_seg0 (pc' := 23) (L' := [some (vR (kO 6) 1), some (vI v1)]) (st' := [vI 0]) (u1 := u) [(oC 0, 1)] (by decide +kernel) rfl rfl ?_
      exact g_zret (by decide +kernel) rfl
    · refine g_seg0 (pc' := 19) (L' := [some (vR (kO 6) 1), some (vI v1)]) (st' := [vI 1]) (u1 := u) [(oC 1, 1)] (by decide +kernel) rfl rfl ?_
      refine g_goto (off := 4) (tgt := 23) (by decide +kernel) (by decide) ?_
      exact g_zret (by decide +kernel) rfl
theorem CX6_isSign (v1 : Int32) (u : ab_S) : ab_C 0 yX6_isSign cX6_isSign 2 (some .boolean) 0 [vR (kO 6) 1, vI v1] u wI (fX6_isSign v1 u) := ab_entry (by decide +kernel) rfl (by decide) (by decide) (fun _ => Nat.le_of_ble_eq_true rfl) rfl (tX6_isSign v1 u)
def fX6_takeEnd (u : ab_S) : Option (Int32 × ab_S) :=
  (fX6_isSign 59 u).bind fun q1 =>
    bif decide (q1.1 = 0) then (
      (fX6_fail 1 q1.2).bind fun q3 =>
        ab_gd [ab_b1 q3.1] (some (q3.1, q3.2)))
    else (
      (fX6_step q1.2).bind fun q2 =>
        ab_gd [ab_b1 1] (some (1, q2.2)))
theorem tX6_takeEnd (u : ab_S) : ab_G 0 6 cX6_takeEnd (some .boolean) 1 0 [some (vR (kO 6) 1)] [] u wI (fX6_takeEnd u) := by
  rw [fX6_takeEnd]
  refine g_seg0 (pc' := 3) (L' := [some (vR (kO 6) 1)]) (st' := [vI 59, vR (kO 6) 1]) (u1 := u) [(oL 2 0, 1), (oC 59, 2)] (by decide +kernel) rfl rfl ?_
  refine g_callV (k := 119) (pc2 := 6) (st := []) (CX6_isSign 59 u) miX6_isSign mvX6_isSign rfl (by decide) lk6_119 wI_ok (by decide +kernel) rfl (Nat.le_of_ble_eq_true rfl) (by decide) rfl (fun q1 hq1 => ?_)
  refine g_zne (off := 9) (tgt := 15) (pc2 := 9) (by decide +kernel) (by decide) rfl ?_ ?_
  · refine g_seg0 (pc' := 16) (L' := [some (vR (kO 6) 1)]) (st' := [vR (kO 6) 1]) (u1 := q1.2) [(oL 2 0, 1)] (by decide +kernel) rfl rfl ?_
    refine g_callV (k := 59) (pc2 := 19) (st := []) (CX6_step q1.2) miX6_step mvX6_step rfl (by decide) lk6_59 wV_ok (by decide +kernel) rfl (Nat.le_of_ble_eq_true rfl) (by decide) rfl (fun q2 hq2 => ?_)
    refine g_seg0 (pc' := 20) (L' := [some (vR (kO 6) 1)]) (st' := [vI 1]) (u1 := q2.2) [(oC 1, 1)] (by decide +kernel) rfl rfl ?_
    exact g_zret (by decide +kernel) rfl
  · refine g_seg0 (pc' := 11) (L' := [some (vR (kO 6) 1)]) (st' := [vI 1, vR (kO 6) 1]) (u1 := q1.2) [(oL 2 0, 1), (oC 1, 1)] (by decide +kernel) rfl rfl ?_
    refine g_callV (k := 115) (pc2 := 14) (st := []) (CX6_fail 1 q1.2) miX6_fail mvX6_fail rfl (by decide) lk6_115 wI_ok (by decide +kernel) rfl (Nat.le_of_ble_eq_true rfl) (by decide) rfl (fun q3 hq3 => ?_)
    exact g_zret (by decide +kernel) rfl
theorem CX6_takeEnd (u : ab_S) : ab_C 0 yX6_takeEnd cX6_takeEnd 1 (some .boolean) 1 [vR (kO 6) 1] u wI (fX6_takeEnd u) := ab_entry (by decide +kernel) rfl (by decide) (by decide) (fun _ => Nat.le_of_ble_eq_true rfl) rfl (tX6_takeEnd u)
def fX6_takeToldName (n1 : Nat) (o1 : Nat) (v2 : Int32) (u : ab_S) : Option (Int32 × ab_S) :=
  (fX6_isName u).bind fun q1 =>
    bif decide (q1.1 = 0) then (
      (fX6_fail 1 q1.2).bind fun q5 =>
        some ((-1), q5.2))
    else (
      (fX9_indexOf n1 o1 v2 (q1.2.2.1 1 9) q1.2).bind fun q2 =>
        bif decide (q2.1 = (-1)) then (
          (fX6_fail 2 q2.2).bind fun q4 =>
            some ((-1), q4.2))
        else (
          (fX6_step q2.2).bind fun q3 =>
            some (q2.1, q3.2)))
theorem tX6_takeToldName (n1 : Nat) (o1 : Nat) (v2 : Int32) (u : ab_S) : ab_G 0 6 cX6_takeToldName (some .int) 1 0 [some (vR (kO 6) 1), some (vR (kA 1 n1) o1), some (vI v2), none] [] u wI (fX6_takeToldName n1 o1 v2 u) := by
  rw [fX6_takeToldName]
  refine g_seg0 (pc' := 1) (L' := [some (vR (kO 6) 1), some (vR (kA 1 n1) o1), some (vI v2), none]) (st' := [vR (kO 6) 1]) (u1 := u) [(oL 2 0, 1)] (by decide +kernel) rfl rfl ?_
  refine g_callV (k := 122) (pc2 := 4) (st := []) (CX6_isName u) miX6_isName mvX6_isName rfl (by decide) lk6_122 wI_ok (by decide +kernel) rfl (Nat.le_of_ble_eq_true rfl) (by decide) rfl (fun q1 hq1 => ?_)
  refine g_zne (off := 11) (tgt := 15) (pc2 := 7) (by decide +kernel) (by decide) rfl ?_ ?_
  · refine g_seg0 (pc' := 21) (L' := [some (vR (kO 6) 1), some (vR (kA 1 n1) o1), some (vI v2), none]) (st' := [vL (q1.2.2.1 1 9), vI v2, vR (kA 1 n1) o1]) (u1 := q1.2) [(oL 2 1, 1), (oL 0 2, 1), (oL 2 0, 1), (oP (.getfield 94), 3)] (by decide +kernel) rfl rfl ?_
    refine g_callS (k := 126) (pc2 := 24) (st := []) (CX9_indexOf n1 o1 v2 (q1.2.2.1 1 9) q1.2) miX9_indexOf msX9_indexOf lk6_126 wI_ok (by decide +kernel) rfl (Nat.le_of_ble_eq_true rfl) (by decide) rfl (fun q2 hq2 => ?_)
    refine g_seg0 (pc' := 27) (L' := [some (vR (kO 6) 1), some (vR (kA 1 n1) o1), some (vI v2), some (vI (q2.1))]) (st' := [vI (-1), vI (q2.1)]) (u1 := q2.2) [(oL 3 3, 1), (oL 0 3, 1), (oC (-1), 1)] (by decide +kernel) rfl rfl ?_
    refine g_ine (off := 11) (tgt := 38) (pc2 := 30) (by decide +kernel) (by decide) rfl ?_ ?_
    · refine g_seg0 (pc' := 39) (L' := [some (vR (kO 6) 1), some (vR (kA 1 n1) o1), some (vI v2), some (vI (q2.1))]) (st' := [vR (kO 6) 1]) (u1 := q2.2) [(oL 2 0, 1)] (by decide +kernel) rfl rfl ?_
      refine g_callV (k := 59) (pc2 := 42) (st := []) (CX6_step q2.2) miX6_step mvX6_step rfl (by decide) lk6_59 wV_ok (by decide +kernel) rfl (Nat.le_of_ble_eq_true rfl) (by decide) rfl (fun q3 hq3 => ?_)
      refine g_seg0 (pc' := 43) (L' := [some (vR (kO 6) 1), some (vR (kA 1 n1) o1), some (vI v2), some (vI (q2.1))]) (st' := [vI (q2.1)]) (u1 := q3.2) [(oL 0 3, 1)] (by decide +kernel) rfl rfl ?_
      exact g_iret (by decide +kernel) rfl
    · refine g_seg0 (pc' := 32) (L' := [some (vR (kO 6) 1), some (vR (kA 1 n1) o1), some (vI v2), some (vI (q2.1))]) (st' := [vI 2, vR (kO 6) 1]) (u1 := q2.2) [(oL 2 0, 1), (oC 2, 1)] (by decide +kernel) rfl rfl ?_
      refine g_callV (k := 115) (pc2 := 35) (st := []) (CX6_fail 2 q2.2) miX6_fail mvX6_fail rfl (by decide) lk6_115 wI_ok (by decide +kernel) rfl (Nat.le_of_ble_eq_true rfl) (by decide) rfl (fun q4 hq4 => ?_)
      refine g_seg0 (pc' := 37) (L' := [some (vR (kO 6) 1), some (vR (kA 1 n1) o1), some (vI v2), some (vI (q2.1))]) (st' := [vI (-1)]) (u1 := q4.2) [(oP .pop, 1), (oC (-1), 1)] (by decide +kernel) rfl rfl ?_
      exact g_iret (by decide +kernel) rfl
  · refine g_seg0 (pc' := 9) (L' := [some (vR (kO 6) 1), some (vR (kA 1 n1) o1), some (vI v2), none]) (st' := [vI 1, vR (kO 6) 1]) (u1 := q1.2) [(oL 2 0, 1), (oC 1, 1)] (by decide +kernel) rfl rfl ?_
    refine g_callV (k := 115) (pc2 := 12) (st := []) (CX6_fail 1 q1.2) miX6_fail mvX6_fail rfl (by decide) lk6_115 wI_ok (by decide +kernel) rfl (Nat.le_of_ble_eq_true rfl) (by decide) rfl (fun q5 hq5 => ?_)
    refine g_seg0 (pc' := 14) (L' := [some (vR (kO 6) 1), some (vR (kA 1 n1) o1), some (vI v2), none]) (st' := [vI (-1)]) (u1 := q5.2) [(oP .pop, 1), (oC (-1), 1)] (by decide +kernel) rfl rfl ?_
    exact g_iret (by decide +kernel) rfl
theorem CX6_takeToldName (n1 : Nat) (o1 : Nat) (v2 : Int32) (u : ab_S) : ab_C 0 yX6_takeToldName cX6_takeToldName 4 (some .int) 1 [vR (kO 6) 1, vR (kA 1 n1) o1, vI v2] u wI (fX6_takeToldName n1 o1 v2 u) := ab_entry (by decide +kernel) rfl (by decide) (by decide) (fun _ => Nat.le_of_ble_eq_true rfl) rfl (tX6_takeToldName n1 o1 v2 u)
end
