-- ===== PART A: goes FIRST, ahead of the names: the tables' words, and 'selects' of the private methods out of them =====
/-- a private method of a class that the tables say can be made, by its rows of tables_1 -/
def lw_okq (q : MethodName × Nat) : Prop := (q.1.cls ≠ "java/lang/invoke/MethodHandle" ∧ q.1.cls ≠ "java/lang/invoke/VarHandle") ∧ Cond.instantiable q.1.cls q.2 ∈ tables_1 ∧ Cond.privateMethod q.1 ∈ tables_1 ∧ Cond.instanceMethod q.1 ∈ tables_1
theorem lw_p0 : lw_okq (⟨"SoulRaffle$Tokens", "takeBytes", "(J)V"⟩, 11) := ⟨⟨by decide +kernel, by decide +kernel⟩, List.mem_of_getElem? (i := 33) (by decide +kernel), List.mem_of_getElem? (i := 329) (by decide +kernel), List.mem_of_getElem? (i := 330) (by decide +kernel)⟩
theorem lw_p1 : lw_okq (⟨"SoulRaffle$Tokens", "split", "()V"⟩, 11) := ⟨⟨by decide +kernel, by decide +kernel⟩, List.mem_of_getElem? (i := 33) (by decide +kernel), List.mem_of_getElem? (i := 338) (by decide +kernel), List.mem_of_getElem? (i := 339) (by decide +kernel)⟩
theorem lw_p2 : lw_okq (⟨"SoulRaffle$Tokens", "signAt", "(I)C"⟩, 11) := ⟨⟨by decide +kernel, by decide +kernel⟩, List.mem_of_getElem? (i := 33) (by decide +kernel), List.mem_of_getElem? (i := 342) (by decide +kernel), List.mem_of_getElem? (i := 343) (by decide +kernel)⟩
theorem lw_p3 : lw_okq (⟨"SoulRaffle$Tokens", "scan", "(I)I"⟩, 11) := ⟨⟨by decide +kernel, by decide +kernel⟩, List.mem_of_getElem? (i := 33) (by decide +kernel), List.mem_of_getElem? (i := 346) (by decide +kernel), List.mem_of_getElem? (i := 347) (by decide +kernel)⟩
theorem lw_p4 : lw_okq (⟨"SoulRaffle$Tokens", "scanWord", "(I)I"⟩, 11) := ⟨⟨by decide +kernel, by decide +kernel⟩, List.mem_of_getElem? (i := 33) (by decide +kernel), List.mem_of_getElem? (i := 353) (by decide +kernel), List.mem_of_getElem? (i := 354) (by decide +kernel)⟩
theorem lw_p5 : lw_okq (⟨"SoulRaffle$Tokens", "add", "(IIJ)V"⟩, 11) := ⟨⟨by decide +kernel, by decide +kernel⟩, List.mem_of_getElem? (i := 33) (by decide +kernel), List.mem_of_getElem? (i := 361) (by decide +kernel), List.mem_of_getElem? (i := 362) (by decide +kernel)⟩
theorem lw_p6 : lw_okq (⟨"SoulRaffle$Tokens", "scanNumber", "(I)I"⟩, 11) := ⟨⟨by decide +kernel, by decide +kernel⟩, List.mem_of_getElem? (i := 33) (by decide +kernel), List.mem_of_getElem? (i := 368) (by decide +kernel), List.mem_of_getElem? (i := 369) (by decide +kernel)⟩
theorem lw_p7 : lw_okq (⟨"SoulRaffle$Tokens", "step", "()V"⟩, 11) := ⟨⟨by decide +kernel, by decide +kernel⟩, List.mem_of_getElem? (i := 33) (by decide +kernel), List.mem_of_getElem? (i := 461) (by decide +kernel), List.mem_of_getElem? (i := 462) (by decide +kernel)⟩
theorem lw_p8 : lw_okq (⟨"SoulRaffle$Office", "readLines", "(LSoulRaffle$Tokens;)I"⟩, 14) := ⟨⟨by decide +kernel, by decide +kernel⟩, List.mem_of_getElem? (i := 85) (by decide +kernel), List.mem_of_getElem? (i := 465) (by decide +kernel), List.mem_of_getElem? (i := 466) (by decide +kernel)⟩
theorem lw_p9 : lw_okq (⟨"SoulRaffle$Office", "clear", "()V"⟩, 14) := ⟨⟨by decide +kernel, by decide +kernel⟩, List.mem_of_getElem? (i := 85) (by decide +kernel), List.mem_of_getElem? (i := 469) (by decide +kernel), List.mem_of_getElem? (i := 470) (by decide +kernel)⟩
theorem lw_p10 : lw_okq (⟨"SoulRaffle$Law", "setUsual", "()V"⟩, 4) := ⟨⟨by decide +kernel, by decide +kernel⟩, List.mem_of_getElem? (i := 91) (by decide +kernel), List.mem_of_getElem? (i := 473) (by decide +kernel), List.mem_of_getElem? (i := 474) (by decide +kernel)⟩
theorem lw_p11 : lw_okq (⟨"SoulRaffle$Law", "add", "(I)V"⟩, 4) := ⟨⟨by decide +kernel, by decide +kernel⟩, List.mem_of_getElem? (i := 91) (by decide +kernel), List.mem_of_getElem? (i := 477) (by decide +kernel), List.mem_of_getElem? (i := 478) (by decide +kernel)⟩
theorem lw_p12 : lw_okq (⟨"SoulRaffle$Office", "readLine", "(LSoulRaffle$Tokens;)Z"⟩, 14) := ⟨⟨by decide +kernel, by decide +kernel⟩, List.mem_of_getElem? (i := 85) (by decide +kernel), List.mem_of_getElem? (i := 481) (by decide +kernel), List.mem_of_getElem? (i := 482) (by decide +kernel)⟩
theorem lw_p13 : lw_okq (⟨"SoulRaffle$Tokens", "isWord", "(LSoulRaffle$Word;)Z"⟩, 11) := ⟨⟨by decide +kernel, by decide +kernel⟩, List.mem_of_getElem? (i := 33) (by decide +kernel), List.mem_of_getElem? (i := 487) (by decide +kernel), List.mem_of_getElem? (i := 488) (by decide +kernel)⟩
theorem lw_p14 : lw_okq (⟨"SoulRaffle$Office", "readPerson", "(LSoulRaffle$Tokens;)Z"⟩, 14) := ⟨⟨by decide +kernel, by decide +kernel⟩, List.mem_of_getElem? (i := 85) (by decide +kernel), List.mem_of_getElem? (i := 491) (by decide +kernel), List.mem_of_getElem? (i := 492) (by decide +kernel)⟩
theorem lw_p15 : lw_okq (⟨"SoulRaffle$Tokens", "fail", "(I)Z"⟩, 11) := ⟨⟨by decide +kernel, by decide +kernel⟩, List.mem_of_getElem? (i := 33) (by decide +kernel), List.mem_of_getElem? (i := 495) (by decide +kernel), List.mem_of_getElem? (i := 496) (by decide +kernel)⟩
def lw_privs_1 : List (MethodName × Nat) := [(⟨"SoulRaffle$Tokens", "takeBytes", "(J)V"⟩, 11), (⟨"SoulRaffle$Tokens", "split", "()V"⟩, 11), (⟨"SoulRaffle$Tokens", "signAt", "(I)C"⟩, 11), (⟨"SoulRaffle$Tokens", "scan", "(I)I"⟩, 11), (⟨"SoulRaffle$Tokens", "scanWord", "(I)I"⟩, 11), (⟨"SoulRaffle$Tokens", "add", "(IIJ)V"⟩, 11), (⟨"SoulRaffle$Tokens", "scanNumber", "(I)I"⟩, 11), (⟨"SoulRaffle$Tokens", "step", "()V"⟩, 11), (⟨"SoulRaffle$Office", "readLines", "(LSoulRaffle$Tokens;)I"⟩, 14), (⟨"SoulRaffle$Office", "clear", "()V"⟩, 14), (⟨"SoulRaffle$Law", "setUsual", "()V"⟩, 4), (⟨"SoulRaffle$Law", "add", "(I)V"⟩, 4), (⟨"SoulRaffle$Office", "readLine", "(LSoulRaffle$Tokens;)Z"⟩, 14), (⟨"SoulRaffle$Tokens", "isWord", "(LSoulRaffle$Word;)Z"⟩, 11), (⟨"SoulRaffle$Office", "readPerson", "(LSoulRaffle$Tokens;)Z"⟩, 14), (⟨"SoulRaffle$Tokens", "fail", "(I)Z"⟩, 11)]
theorem lw_r1 : ∀ q ∈ lw_privs_1, lw_okq q := List.forall_mem_cons.mpr ⟨lw_p0, List.forall_mem_cons.mpr ⟨lw_p1, List.forall_mem_cons.mpr ⟨lw_p2, List.forall_mem_cons.mpr ⟨lw_p3, List.forall_mem_cons.mpr ⟨lw_p4, List.forall_mem_cons.mpr ⟨lw_p5, List.forall_mem_cons.mpr ⟨lw_p6, List.forall_mem_cons.mpr ⟨lw_p7, List.forall_mem_cons.mpr ⟨lw_p8, List.forall_mem_cons.mpr ⟨lw_p9, List.forall_mem_cons.mpr ⟨lw_p10, List.forall_mem_cons.mpr ⟨lw_p11, List.forall_mem_cons.mpr ⟨lw_p12, List.forall_mem_cons.mpr ⟨lw_p13, List.forall_mem_cons.mpr ⟨lw_p14, List.forall_mem_cons.mpr ⟨lw_p15, fun _ h => absurd h List.not_mem_nil⟩⟩⟩⟩⟩⟩⟩⟩⟩⟩⟩⟩⟩⟩⟩⟩
theorem lw_p16 : lw_okq (⟨"SoulRaffle$Office", "isNewName", "(LSoulRaffle$Tokens;)Z"⟩, 14) := ⟨⟨by decide +kernel, by decide +kernel⟩, List.mem_of_getElem? (i := 85) (by decide +kernel), List.mem_of_getElem? (i := 500) (by decide +kernel), List.mem_of_getElem? (i := 501) (by decide +kernel)⟩
theorem lw_p17 : lw_okq (⟨"SoulRaffle$Tokens", "isName", "()Z"⟩, 11) := ⟨⟨by decide +kernel, by decide +kernel⟩, List.mem_of_getElem? (i := 33) (by decide +kernel), List.mem_of_getElem? (i := 504) (by decide +kernel), List.mem_of_getElem? (i := 505) (by decide +kernel)⟩
theorem lw_p18 : lw_okq (⟨"SoulRaffle$Tokens", "takeWord", "(LSoulRaffle$Word;)Z"⟩, 11) := ⟨⟨by decide +kernel, by decide +kernel⟩, List.mem_of_getElem? (i := 33) (by decide +kernel), List.mem_of_getElem? (i := 526) (by decide +kernel), List.mem_of_getElem? (i := 527) (by decide +kernel)⟩
theorem lw_p19 : lw_okq (⟨"SoulRaffle$Tokens", "takeNumber", "(II)I"⟩, 11) := ⟨⟨by decide +kernel, by decide +kernel⟩, List.mem_of_getElem? (i := 33) (by decide +kernel), List.mem_of_getElem? (i := 532) (by decide +kernel), List.mem_of_getElem? (i := 533) (by decide +kernel)⟩
theorem lw_p20 : lw_okq (⟨"SoulRaffle$Tokens", "takeEnd", "()Z"⟩, 11) := ⟨⟨by decide +kernel, by decide +kernel⟩, List.mem_of_getElem? (i := 33) (by decide +kernel), List.mem_of_getElem? (i := 536) (by decide +kernel), List.mem_of_getElem? (i := 537) (by decide +kernel)⟩
theorem lw_p21 : lw_okq (⟨"SoulRaffle$Tokens", "isSign", "(C)Z"⟩, 11) := ⟨⟨by decide +kernel, by decide +kernel⟩, List.mem_of_getElem? (i := 33) (by decide +kernel), List.mem_of_getElem? (i := 540) (by decide +kernel), List.mem_of_getElem? (i := 541) (by decide +kernel)⟩
theorem lw_p22 : lw_okq (⟨"SoulRaffle$Office", "addPerson", "(JII)V"⟩, 14) := ⟨⟨by decide +kernel, by decide +kernel⟩, List.mem_of_getElem? (i := 85) (by decide +kernel), List.mem_of_getElem? (i := 544) (by decide +kernel), List.mem_of_getElem? (i := 545) (by decide +kernel)⟩
theorem lw_p23 : lw_okq (⟨"SoulRaffle$Office", "readGood", "(LSoulRaffle$Tokens;)Z"⟩, 14) := ⟨⟨by decide +kernel, by decide +kernel⟩, List.mem_of_getElem? (i := 85) (by decide +kernel), List.mem_of_getElem? (i := 553) (by decide +kernel), List.mem_of_getElem? (i := 554) (by decide +kernel)⟩
theorem lw_p24 : lw_okq (⟨"SoulRaffle$Tokens", "takeToldName", "([JI)I"⟩, 11) := ⟨⟨by decide +kernel, by decide +kernel⟩, List.mem_of_getElem? (i := 33) (by decide +kernel), List.mem_of_getElem? (i := 561) (by decide +kernel), List.mem_of_getElem? (i := 562) (by decide +kernel)⟩
theorem lw_p25 : lw_okq (⟨"SoulRaffle$Office", "addGood", "(JII)V"⟩, 14) := ⟨⟨by decide +kernel, by decide +kernel⟩, List.mem_of_getElem? (i := 85) (by decide +kernel), List.mem_of_getElem? (i := 567) (by decide +kernel), List.mem_of_getElem? (i := 568) (by decide +kernel)⟩
theorem lw_p26 : lw_okq (⟨"SoulRaffle$Office", "readLikes", "(LSoulRaffle$Tokens;)Z"⟩, 14) := ⟨⟨by decide +kernel, by decide +kernel⟩, List.mem_of_getElem? (i := 85) (by decide +kernel), List.mem_of_getElem? (i := 573) (by decide +kernel), List.mem_of_getElem? (i := 574) (by decide +kernel)⟩
theorem lw_p27 : lw_okq (⟨"SoulRaffle$Office", "likeOf", "(II)I"⟩, 14) := ⟨⟨by decide +kernel, by decide +kernel⟩, List.mem_of_getElem? (i := 85) (by decide +kernel), List.mem_of_getElem? (i := 577) (by decide +kernel), List.mem_of_getElem? (i := 578) (by decide +kernel)⟩
theorem lw_p28 : lw_okq (⟨"SoulRaffle$Office", "readSeed", "(LSoulRaffle$Tokens;)Z"⟩, 14) := ⟨⟨by decide +kernel, by decide +kernel⟩, List.mem_of_getElem? (i := 85) (by decide +kernel), List.mem_of_getElem? (i := 586) (by decide +kernel), List.mem_of_getElem? (i := 587) (by decide +kernel)⟩
theorem lw_p29 : lw_okq (⟨"SoulRaffle$Office", "readFits", "(LSoulRaffle$Tokens;)Z"⟩, 14) := ⟨⟨by decide +kernel, by decide +kernel⟩, List.mem_of_getElem? (i := 85) (by decide +kernel), List.mem_of_getElem? (i := 592) (by decide +kernel), List.mem_of_getElem? (i := 593) (by decide +kernel)⟩
theorem lw_p30 : lw_okq (⟨"SoulRaffle$Law", "readLevel", "(LSoulRaffle$Tokens;II)Z"⟩, 4) := ⟨⟨by decide +kernel, by decide +kernel⟩, List.mem_of_getElem? (i := 91) (by decide +kernel), List.mem_of_getElem? (i := 596) (by decide +kernel), List.mem_of_getElem? (i := 597) (by decide +kernel)⟩
theorem lw_p31 : lw_okq (⟨"SoulRaffle$Law", "readPart", "(LSoulRaffle$Tokens;I)Z"⟩, 4) := ⟨⟨by decide +kernel, by decide +kernel⟩, List.mem_of_getElem? (i := 91) (by decide +kernel), List.mem_of_getElem? (i := 600) (by decide +kernel), List.mem_of_getElem? (i := 601) (by decide +kernel)⟩
def lw_privs_2 : List (MethodName × Nat) := [(⟨"SoulRaffle$Office", "isNewName", "(LSoulRaffle$Tokens;)Z"⟩, 14), (⟨"SoulRaffle$Tokens", "isName", "()Z"⟩, 11), (⟨"SoulRaffle$Tokens", "takeWord", "(LSoulRaffle$Word;)Z"⟩, 11), (⟨"SoulRaffle$Tokens", "takeNumber", "(II)I"⟩, 11), (⟨"SoulRaffle$Tokens", "takeEnd", "()Z"⟩, 11), (⟨"SoulRaffle$Tokens", "isSign", "(C)Z"⟩, 11), (⟨"SoulRaffle$Office", "addPerson", "(JII)V"⟩, 14), (⟨"SoulRaffle$Office", "readGood", "(LSoulRaffle$Tokens;)Z"⟩, 14), (⟨"SoulRaffle$Tokens", "takeToldName", "([JI)I"⟩, 11), (⟨"SoulRaffle$Office", "addGood", "(JII)V"⟩, 14), (⟨"SoulRaffle$Office", "readLikes", "(LSoulRaffle$Tokens;)Z"⟩, 14), (⟨"SoulRaffle$Office", "likeOf", "(II)I"⟩, 14), (⟨"SoulRaffle$Office", "readSeed", "(LSoulRaffle$Tokens;)Z"⟩, 14), (⟨"SoulRaffle$Office", "readFits", "(LSoulRaffle$Tokens;)Z"⟩, 14), (⟨"SoulRaffle$Law", "readLevel", "(LSoulRaffle$Tokens;II)Z"⟩, 4), (⟨"SoulRaffle$Law", "readPart", "(LSoulRaffle$Tokens;I)Z"⟩, 4)]
theorem lw_r2 : ∀ q ∈ lw_privs_2, lw_okq q := List.forall_mem_cons.mpr ⟨lw_p16, List.forall_mem_cons.mpr ⟨lw_p17, List.forall_mem_cons.mpr ⟨lw_p18, List.forall_mem_cons.mpr ⟨lw_p19, List.forall_mem_cons.mpr ⟨lw_p20, List.forall_mem_cons.mpr ⟨lw_p21, List.forall_mem_cons.mpr ⟨lw_p22, List.forall_mem_cons.mpr ⟨lw_p23, List.forall_mem_cons.mpr ⟨lw_p24, List.forall_mem_cons.mpr ⟨lw_p25, List.forall_mem_cons.mpr ⟨lw_p26, List.forall_mem_cons.mpr ⟨lw_p27, List.forall_mem_cons.mpr ⟨lw_p28, List.forall_mem_cons.mpr ⟨lw_p29, List.forall_mem_cons.mpr ⟨lw_p30, List.forall_mem_cons.mpr ⟨lw_p31, fun _ h => absurd h List.not_mem_nil⟩⟩⟩⟩⟩⟩⟩⟩⟩⟩⟩⟩⟩⟩⟩⟩
theorem lw_p32 : lw_okq (⟨"SoulRaffle$Law", "readNot", "(LSoulRaffle$Tokens;I)Z"⟩, 4) := ⟨⟨by decide +kernel, by decide +kernel⟩, List.mem_of_getElem? (i := 91) (by decide +kernel), List.mem_of_getElem? (i := 621) (by decide +kernel), List.mem_of_getElem? (i := 622) (by decide +kernel)⟩
theorem lw_p33 : lw_okq (⟨"SoulRaffle$Law", "readBrackets", "(LSoulRaffle$Tokens;I)Z"⟩, 4) := ⟨⟨by decide +kernel, by decide +kernel⟩, List.mem_of_getElem? (i := 91) (by decide +kernel), List.mem_of_getElem? (i := 625) (by decide +kernel), List.mem_of_getElem? (i := 626) (by decide +kernel)⟩
theorem lw_p34 : lw_okq (⟨"SoulRaffle$Office", "workOutFits", "()V"⟩, 14) := ⟨⟨by decide +kernel, by decide +kernel⟩, List.mem_of_getElem? (i := 85) (by decide +kernel), List.mem_of_getElem? (i := 637) (by decide +kernel), List.mem_of_getElem? (i := 638) (by decide +kernel)⟩
theorem lw_p35 : lw_okq (⟨"SoulRaffle$Office", "ownerOf", "(I)I"⟩, 14) := ⟨⟨by decide +kernel, by decide +kernel⟩, List.mem_of_getElem? (i := 85) (by decide +kernel), List.mem_of_getElem? (i := 641) (by decide +kernel), List.mem_of_getElem? (i := 642) (by decide +kernel)⟩
theorem lw_p36 : lw_okq (⟨"SoulRaffle$Office", "worthOf", "(I)I"⟩, 14) := ⟨⟨by decide +kernel, by decide +kernel⟩, List.mem_of_getElem? (i := 85) (by decide +kernel), List.mem_of_getElem? (i := 645) (by decide +kernel), List.mem_of_getElem? (i := 646) (by decide +kernel)⟩
theorem lw_p37 : lw_okq (⟨"SoulRaffle$Law", "work", "(IIII)I"⟩, 4) := ⟨⟨by decide +kernel, by decide +kernel⟩, List.mem_of_getElem? (i := 91) (by decide +kernel), List.mem_of_getElem? (i := 649) (by decide +kernel), List.mem_of_getElem? (i := 650) (by decide +kernel)⟩
theorem lw_p38 : lw_okq (⟨"SoulRaffle$Law", "push", "(I)V"⟩, 4) := ⟨⟨by decide +kernel, by decide +kernel⟩, List.mem_of_getElem? (i := 91) (by decide +kernel), List.mem_of_getElem? (i := 653) (by decide +kernel), List.mem_of_getElem? (i := 654) (by decide +kernel)⟩
theorem lw_p39 : lw_okq (⟨"SoulRaffle$Law", "pop", "()I"⟩, 4) := ⟨⟨by decide +kernel, by decide +kernel⟩, List.mem_of_getElem? (i := 91) (by decide +kernel), List.mem_of_getElem? (i := 657) (by decide +kernel), List.mem_of_getElem? (i := 658) (by decide +kernel)⟩
theorem lw_p40 : lw_okq (⟨"SoulRaffle$Law", "pushOrJoin", "(I)V"⟩, 4) := ⟨⟨by decide +kernel, by decide +kernel⟩, List.mem_of_getElem? (i := 91) (by decide +kernel), List.mem_of_getElem? (i := 661) (by decide +kernel), List.mem_of_getElem? (i := 662) (by decide +kernel)⟩
theorem lw_p41 : lw_okq (⟨"SoulRaffle", "openOffice", "()V"⟩, 16) := ⟨⟨by decide +kernel, by decide +kernel⟩, List.mem_of_getElem? (i := 25) (by decide +kernel), List.mem_of_getElem? (i := 673) (by decide +kernel), List.mem_of_getElem? (i := 674) (by decide +kernel)⟩
theorem lw_p42 : lw_okq (⟨"SoulRaffle$Standing", "startOf", "(LSoulRaffle$Office;)V"⟩, 5) := ⟨⟨by decide +kernel, by decide +kernel⟩, List.mem_of_getElem? (i := 188) (by decide +kernel), List.mem_of_getElem? (i := 677) (by decide +kernel), List.mem_of_getElem? (i := 678) (by decide +kernel)⟩
theorem lw_p43 : lw_okq (⟨"SoulRaffle$Year", "readLines", "(LSoulRaffle$Tokens;LSoulRaffle$Office;)I"⟩, 4) := ⟨⟨by decide +kernel, by decide +kernel⟩, List.mem_of_getElem? (i := 168) (by decide +kernel), List.mem_of_getElem? (i := 688) (by decide +kernel), List.mem_of_getElem? (i := 689) (by decide +kernel)⟩
theorem lw_p44 : lw_okq (⟨"SoulRaffle$Year", "readLine", "(LSoulRaffle$Tokens;LSoulRaffle$Office;)Z"⟩, 4) := ⟨⟨by decide +kernel, by decide +kernel⟩, List.mem_of_getElem? (i := 168) (by decide +kernel), List.mem_of_getElem? (i := 692) (by decide +kernel), List.mem_of_getElem? (i := 693) (by decide +kernel)⟩
theorem lw_p45 : lw_okq (⟨"SoulRaffle$Year", "readNames", "(LSoulRaffle$Tokens;LSoulRaffle$Office;I)Z"⟩, 4) := ⟨⟨by decide +kernel, by decide +kernel⟩, List.mem_of_getElem? (i := 168) (by decide +kernel), List.mem_of_getElem? (i := 711) (by decide +kernel), List.mem_of_getElem? (i := 712) (by decide +kernel)⟩
theorem lw_p46 : lw_okq (⟨"SoulRaffle$Office", "hasPerson", "(I)Z"⟩, 14) := ⟨⟨by decide +kernel, by decide +kernel⟩, List.mem_of_getElem? (i := 85) (by decide +kernel), List.mem_of_getElem? (i := 723) (by decide +kernel), List.mem_of_getElem? (i := 724) (by decide +kernel)⟩
theorem lw_p47 : lw_okq (⟨"SoulRaffle$Office", "kindOf", "(I)I"⟩, 14) := ⟨⟨by decide +kernel, by decide +kernel⟩, List.mem_of_getElem? (i := 85) (by decide +kernel), List.mem_of_getElem? (i := 727) (by decide +kernel), List.mem_of_getElem? (i := 728) (by decide +kernel)⟩
def lw_privs_3 : List (MethodName × Nat) := [(⟨"SoulRaffle$Law", "readNot", "(LSoulRaffle$Tokens;I)Z"⟩, 4), (⟨"SoulRaffle$Law", "readBrackets", "(LSoulRaffle$Tokens;I)Z"⟩, 4), (⟨"SoulRaffle$Office", "workOutFits", "()V"⟩, 14), (⟨"SoulRaffle$Office", "ownerOf", "(I)I"⟩, 14), (⟨"SoulRaffle$Office", "worthOf", "(I)I"⟩, 14), (⟨"SoulRaffle$Law", "work", "(IIII)I"⟩, 4), (⟨"SoulRaffle$Law", "push", "(I)V"⟩, 4), (⟨"SoulRaffle$Law", "pop", "()I"⟩, 4), (⟨"SoulRaffle$Law", "pushOrJoin", "(I)V"⟩, 4), (⟨"SoulRaffle", "openOffice", "()V"⟩, 16), (⟨"SoulRaffle$Standing", "startOf", "(LSoulRaffle$Office;)V"⟩, 5), (⟨"SoulRaffle$Year", "readLines", "(LSoulRaffle$Tokens;LSoulRaffle$Office;)I"⟩, 4), (⟨"SoulRaffle$Year", "readLine", "(LSoulRaffle$Tokens;LSoulRaffle$Office;)Z"⟩, 4), (⟨"SoulRaffle$Year", "readNames", "(LSoulRaffle$Tokens;LSoulRaffle$Office;I)Z"⟩, 4), (⟨"SoulRaffle$Office", "hasPerson", "(I)Z"⟩, 14), (⟨"SoulRaffle$Office", "kindOf", "(I)I"⟩, 14)]
theorem lw_r3 : ∀ q ∈ lw_privs_3, lw_okq q := List.forall_mem_cons.mpr ⟨lw_p32, List.forall_mem_cons.mpr ⟨lw_p33, List.forall_mem_cons.mpr ⟨lw_p34, List.forall_mem_cons.mpr ⟨lw_p35, List.forall_mem_cons.mpr ⟨lw_p36, List.forall_mem_cons.mpr ⟨lw_p37, List.forall_mem_cons.mpr ⟨lw_p38, List.forall_mem_cons.mpr ⟨lw_p39, List.forall_mem_cons.mpr ⟨lw_p40, List.forall_mem_cons.mpr ⟨lw_p41, List.forall_mem_cons.mpr ⟨lw_p42, List.forall_mem_cons.mpr ⟨lw_p43, List.forall_mem_cons.mpr ⟨lw_p44, List.forall_mem_cons.mpr ⟨lw_p45, List.forall_mem_cons.mpr ⟨lw_p46, List.forall_mem_cons.mpr ⟨lw_p47, fun _ h => absurd h List.not_mem_nil⟩⟩⟩⟩⟩⟩⟩⟩⟩⟩⟩⟩⟩⟩⟩⟩
theorem lw_p48 : lw_okq (⟨"SoulRaffle$Standing", "shillingsOf", "(I)I"⟩, 5) := ⟨⟨by decide +kernel, by decide +kernel⟩, List.mem_of_getElem? (i := 188) (by decide +kernel), List.mem_of_getElem? (i := 731) (by decide +kernel), List.mem_of_getElem? (i := 732) (by decide +kernel)⟩
theorem lw_p49 : lw_okq (⟨"SoulRaffle$Standing", "ticketsOf", "(I)I"⟩, 5) := ⟨⟨by decide +kernel, by decide +kernel⟩, List.mem_of_getElem? (i := 188) (by decide +kernel), List.mem_of_getElem? (i := 735) (by decide +kernel), List.mem_of_getElem? (i := 736) (by decide +kernel)⟩
theorem lw_p50 : lw_okq (⟨"SoulRaffle$Standing", "bitsOf", "(I)I"⟩, 5) := ⟨⟨by decide +kernel, by decide +kernel⟩, List.mem_of_getElem? (i := 188) (by decide +kernel), List.mem_of_getElem? (i := 739) (by decide +kernel), List.mem_of_getElem? (i := 740) (by decide +kernel)⟩
theorem lw_p51 : lw_okq (⟨"SoulRaffle$Office", "hasGood", "(I)Z"⟩, 14) := ⟨⟨by decide +kernel, by decide +kernel⟩, List.mem_of_getElem? (i := 85) (by decide +kernel), List.mem_of_getElem? (i := 747) (by decide +kernel), List.mem_of_getElem? (i := 748) (by decide +kernel)⟩
theorem lw_p52 : lw_okq (⟨"SoulRaffle$Standing", "holderOf", "(I)I"⟩, 5) := ⟨⟨by decide +kernel, by decide +kernel⟩, List.mem_of_getElem? (i := 188) (by decide +kernel), List.mem_of_getElem? (i := 753) (by decide +kernel), List.mem_of_getElem? (i := 754) (by decide +kernel)⟩
theorem lw_p53 : lw_okq (⟨"SoulRaffle$Standing", "fitOf", "(LSoulRaffle$Office;II)I"⟩, 5) := ⟨⟨by decide +kernel, by decide +kernel⟩, List.mem_of_getElem? (i := 188) (by decide +kernel), List.mem_of_getElem? (i := 761) (by decide +kernel), List.mem_of_getElem? (i := 762) (by decide +kernel)⟩
theorem lw_p54 : lw_okq (⟨"SoulRaffle$Office", "fitBy", "(III)I"⟩, 14) := ⟨⟨by decide +kernel, by decide +kernel⟩, List.mem_of_getElem? (i := 85) (by decide +kernel), List.mem_of_getElem? (i := 772) (by decide +kernel), List.mem_of_getElem? (i := 773) (by decide +kernel)⟩
theorem lw_p55 : lw_okq (⟨"SoulRaffle$Standing", "canBuy", "(I)Z"⟩, 5) := ⟨⟨by decide +kernel, by decide +kernel⟩, List.mem_of_getElem? (i := 188) (by decide +kernel), List.mem_of_getElem? (i := 780) (by decide +kernel), List.mem_of_getElem? (i := 781) (by decide +kernel)⟩
theorem lw_p56 : lw_okq (⟨"SoulRaffle", "remember", "()V"⟩, 16) := ⟨⟨by decide +kernel, by decide +kernel⟩, List.mem_of_getElem? (i := 25) (by decide +kernel), List.mem_of_getElem? (i := 786) (by decide +kernel), List.mem_of_getElem? (i := 787) (by decide +kernel)⟩
theorem lw_p57 : lw_okq (⟨"SoulRaffle$Standing", "copyOf", "(LSoulRaffle$Standing;)V"⟩, 5) := ⟨⟨by decide +kernel, by decide +kernel⟩, List.mem_of_getElem? (i := 188) (by decide +kernel), List.mem_of_getElem? (i := 790) (by decide +kernel), List.mem_of_getElem? (i := 791) (by decide +kernel)⟩
theorem lw_p58 : lw_okq (⟨"SoulRaffle$Standing", "takeTicket", "(I)V"⟩, 5) := ⟨⟨by decide +kernel, by decide +kernel⟩, List.mem_of_getElem? (i := 188) (by decide +kernel), List.mem_of_getElem? (i := 798) (by decide +kernel), List.mem_of_getElem? (i := 799) (by decide +kernel)⟩
theorem lw_p59 : lw_okq (⟨"SoulRaffle$Standing", "canTrade", "(LSoulRaffle$Office;II)Z"⟩, 5) := ⟨⟨by decide +kernel, by decide +kernel⟩, List.mem_of_getElem? (i := 188) (by decide +kernel), List.mem_of_getElem? (i := 806) (by decide +kernel), List.mem_of_getElem? (i := 807) (by decide +kernel)⟩
theorem lw_p60 : lw_okq (⟨"SoulRaffle$Standing", "gainsBy", "(LSoulRaffle$Office;III)Z"⟩, 5) := ⟨⟨by decide +kernel, by decide +kernel⟩, List.mem_of_getElem? (i := 188) (by decide +kernel), List.mem_of_getElem? (i := 811) (by decide +kernel), List.mem_of_getElem? (i := 812) (by decide +kernel)⟩
theorem lw_p61 : lw_okq (⟨"SoulRaffle$Standing", "trade", "(II)V"⟩, 5) := ⟨⟨by decide +kernel, by decide +kernel⟩, List.mem_of_getElem? (i := 188) (by decide +kernel), List.mem_of_getElem? (i := 815) (by decide +kernel), List.mem_of_getElem? (i := 816) (by decide +kernel)⟩
theorem lw_p62 : lw_okq (⟨"SoulRaffle$Standing", "place", "(II)V"⟩, 5) := ⟨⟨by decide +kernel, by decide +kernel⟩, List.mem_of_getElem? (i := 188) (by decide +kernel), List.mem_of_getElem? (i := 819) (by decide +kernel), List.mem_of_getElem? (i := 820) (by decide +kernel)⟩
theorem lw_p63 : lw_okq (⟨"SoulRaffle$Standing", "passQuarter", "(LSoulRaffle$Office;)I"⟩, 5) := ⟨⟨by decide +kernel, by decide +kernel⟩, List.mem_of_getElem? (i := 188) (by decide +kernel), List.mem_of_getElem? (i := 832) (by decide +kernel), List.mem_of_getElem? (i := 833) (by decide +kernel)⟩
def lw_privs_4 : List (MethodName × Nat) := [(⟨"SoulRaffle$Standing", "shillingsOf", "(I)I"⟩, 5), (⟨"SoulRaffle$Standing", "ticketsOf", "(I)I"⟩, 5), (⟨"SoulRaffle$Standing", "bitsOf", "(I)I"⟩, 5), (⟨"SoulRaffle$Office", "hasGood", "(I)Z"⟩, 14), (⟨"SoulRaffle$Standing", "holderOf", "(I)I"⟩, 5), (⟨"SoulRaffle$Standing", "fitOf", "(LSoulRaffle$Office;II)I"⟩, 5), (⟨"SoulRaffle$Office", "fitBy", "(III)I"⟩, 14), (⟨"SoulRaffle$Standing", "canBuy", "(I)Z"⟩, 5), (⟨"SoulRaffle", "remember", "()V"⟩, 16), (⟨"SoulRaffle$Standing", "copyOf", "(LSoulRaffle$Standing;)V"⟩, 5), (⟨"SoulRaffle$Standing", "takeTicket", "(I)V"⟩, 5), (⟨"SoulRaffle$Standing", "canTrade", "(LSoulRaffle$Office;II)Z"⟩, 5), (⟨"SoulRaffle$Standing", "gainsBy", "(LSoulRaffle$Office;III)Z"⟩, 5), (⟨"SoulRaffle$Standing", "trade", "(II)V"⟩, 5), (⟨"SoulRaffle$Standing", "place", "(II)V"⟩, 5), (⟨"SoulRaffle$Standing", "passQuarter", "(LSoulRaffle$Office;)I"⟩, 5)]
theorem lw_r4 : ∀ q ∈ lw_privs_4, lw_okq q := List.forall_mem_cons.mpr ⟨lw_p48, List.forall_mem_cons.mpr ⟨lw_p49, List.forall_mem_cons.mpr ⟨lw_p50, List.forall_mem_cons.mpr ⟨lw_p51, List.forall_mem_cons.mpr ⟨lw_p52, List.forall_mem_cons.mpr ⟨lw_p53, List.forall_mem_cons.mpr ⟨lw_p54, List.forall_mem_cons.mpr ⟨lw_p55, List.forall_mem_cons.mpr ⟨lw_p56, List.forall_mem_cons.mpr ⟨lw_p57, List.forall_mem_cons.mpr ⟨lw_p58, List.forall_mem_cons.mpr ⟨lw_p59, List.forall_mem_cons.mpr ⟨lw_p60, List.forall_mem_cons.mpr ⟨lw_p61, List.forall_mem_cons.mpr ⟨lw_p62, List.forall_mem_cons.mpr ⟨lw_p63, fun _ h => absurd h List.not_mem_nil⟩⟩⟩⟩⟩⟩⟩⟩⟩⟩⟩⟩⟩⟩⟩⟩
theorem lw_p64 : lw_okq (⟨"SoulRaffle$Standing", "heldBits", "(LSoulRaffle$Office;)I"⟩, 5) := ⟨⟨by decide +kernel, by decide +kernel⟩, List.mem_of_getElem? (i := 188) (by decide +kernel), List.mem_of_getElem? (i := 836) (by decide +kernel), List.mem_of_getElem? (i := 837) (by decide +kernel)⟩
theorem lw_p65 : lw_okq (⟨"SoulRaffle$Office", "allGoods", "()I"⟩, 14) := ⟨⟨by decide +kernel, by decide +kernel⟩, List.mem_of_getElem? (i := 85) (by decide +kernel), List.mem_of_getElem? (i := 840) (by decide +kernel), List.mem_of_getElem? (i := 841) (by decide +kernel)⟩
theorem lw_p66 : lw_okq (⟨"SoulRaffle$Standing", "raffle", "(LSoulRaffle$Office;)I"⟩, 5) := ⟨⟨by decide +kernel, by decide +kernel⟩, List.mem_of_getElem? (i := 188) (by decide +kernel), List.mem_of_getElem? (i := 844) (by decide +kernel), List.mem_of_getElem? (i := 845) (by decide +kernel)⟩
theorem lw_p67 : lw_okq (⟨"SoulRaffle$Standing", "allTickets", "()I"⟩, 5) := ⟨⟨by decide +kernel, by decide +kernel⟩, List.mem_of_getElem? (i := 188) (by decide +kernel), List.mem_of_getElem? (i := 848) (by decide +kernel), List.mem_of_getElem? (i := 849) (by decide +kernel)⟩
theorem lw_p68 : lw_okq (⟨"SoulRaffle$Standing", "draw", "(I)I"⟩, 5) := ⟨⟨by decide +kernel, by decide +kernel⟩, List.mem_of_getElem? (i := 188) (by decide +kernel), List.mem_of_getElem? (i := 855) (by decide +kernel), List.mem_of_getElem? (i := 856) (by decide +kernel)⟩
theorem lw_p69 : lw_okq (⟨"SoulRaffle$Standing", "holderOfTicket", "(I)I"⟩, 5) := ⟨⟨by decide +kernel, by decide +kernel⟩, List.mem_of_getElem? (i := 188) (by decide +kernel), List.mem_of_getElem? (i := 863) (by decide +kernel), List.mem_of_getElem? (i := 864) (by decide +kernel)⟩
theorem lw_p70 : lw_okq (⟨"SoulRaffle$Standing", "settle", "(LSoulRaffle$Office;I)V"⟩, 5) := ⟨⟨by decide +kernel, by decide +kernel⟩, List.mem_of_getElem? (i := 188) (by decide +kernel), List.mem_of_getElem? (i := 867) (by decide +kernel), List.mem_of_getElem? (i := 868) (by decide +kernel)⟩
theorem lw_p71 : lw_okq (⟨"SoulRaffle$Year", "doLine", "(ILSoulRaffle$Office;LSoulRaffle$Standing;)Z"⟩, 4) := ⟨⟨by decide +kernel, by decide +kernel⟩, List.mem_of_getElem? (i := 168) (by decide +kernel), List.mem_of_getElem? (i := 883) (by decide +kernel), List.mem_of_getElem? (i := 884) (by decide +kernel)⟩
theorem lw_p72 : lw_okq (⟨"SoulRaffle$Standing", "rightBits", "(LSoulRaffle$Office;)I"⟩, 5) := ⟨⟨by decide +kernel, by decide +kernel⟩, List.mem_of_getElem? (i := 188) (by decide +kernel), List.mem_of_getElem? (i := 895) (by decide +kernel), List.mem_of_getElem? (i := 896) (by decide +kernel)⟩
theorem lw_p73 : lw_okq (⟨"SoulRaffle$Standing", "joyOf", "(LSoulRaffle$Office;I)I"⟩, 5) := ⟨⟨by decide +kernel, by decide +kernel⟩, List.mem_of_getElem? (i := 188) (by decide +kernel), List.mem_of_getElem? (i := 947) (by decide +kernel), List.mem_of_getElem? (i := 948) (by decide +kernel)⟩
theorem lw_p74 : lw_okq (⟨"SoulRaffle$Standing", "fitOfAll", "(LSoulRaffle$Office;II)I"⟩, 5) := ⟨⟨by decide +kernel, by decide +kernel⟩, List.mem_of_getElem? (i := 188) (by decide +kernel), List.mem_of_getElem? (i := 951) (by decide +kernel), List.mem_of_getElem? (i := 952) (by decide +kernel)⟩
theorem lw_p75 : lw_okq (⟨"SoulRaffle", "fanBits", "(I)I"⟩, 16) := ⟨⟨by decide +kernel, by decide +kernel⟩, List.mem_of_getElem? (i := 25) (by decide +kernel), List.mem_of_getElem? (i := 972) (by decide +kernel), List.mem_of_getElem? (i := 973) (by decide +kernel)⟩
theorem lw_p76 : lw_okq (⟨"SoulRaffle", "isFan", "(II)Z"⟩, 16) := ⟨⟨by decide +kernel, by decide +kernel⟩, List.mem_of_getElem? (i := 25) (by decide +kernel), List.mem_of_getElem? (i := 976) (by decide +kernel), List.mem_of_getElem? (i := 977) (by decide +kernel)⟩
theorem lw_p77 : lw_okq (⟨"SoulRaffle$Rings", "trade", "(LSoulRaffle$Office;LSoulRaffle$Standing;)V"⟩, 4) := ⟨⟨by decide +kernel, by decide +kernel⟩, List.mem_of_getElem? (i := 235) (by decide +kernel), List.mem_of_getElem? (i := 988) (by decide +kernel), List.mem_of_getElem? (i := 989) (by decide +kernel)⟩
theorem lw_p78 : lw_okq (⟨"SoulRaffle$Rings", "putIn", "(LSoulRaffle$Office;LSoulRaffle$Standing;)I"⟩, 4) := ⟨⟨by decide +kernel, by decide +kernel⟩, List.mem_of_getElem? (i := 235) (by decide +kernel), List.mem_of_getElem? (i := 992) (by decide +kernel), List.mem_of_getElem? (i := 993) (by decide +kernel)⟩
theorem lw_p79 : lw_okq (⟨"SoulRaffle$Standing", "firstOf", "(I)I"⟩, 5) := ⟨⟨by decide +kernel, by decide +kernel⟩, List.mem_of_getElem? (i := 188) (by decide +kernel), List.mem_of_getElem? (i := 996) (by decide +kernel), List.mem_of_getElem? (i := 997) (by decide +kernel)⟩
def lw_privs_5 : List (MethodName × Nat) := [(⟨"SoulRaffle$Standing", "heldBits", "(LSoulRaffle$Office;)I"⟩, 5), (⟨"SoulRaffle$Office", "allGoods", "()I"⟩, 14), (⟨"SoulRaffle$Standing", "raffle", "(LSoulRaffle$Office;)I"⟩, 5), (⟨"SoulRaffle$Standing", "allTickets", "()I"⟩, 5), (⟨"SoulRaffle$Standing", "draw", "(I)I"⟩, 5), (⟨"SoulRaffle$Standing", "holderOfTicket", "(I)I"⟩, 5), (⟨"SoulRaffle$Standing", "settle", "(LSoulRaffle$Office;I)V"⟩, 5), (⟨"SoulRaffle$Year", "doLine", "(ILSoulRaffle$Office;LSoulRaffle$Standing;)Z"⟩, 4), (⟨"SoulRaffle$Standing", "rightBits", "(LSoulRaffle$Office;)I"⟩, 5), (⟨"SoulRaffle$Standing", "joyOf", "(LSoulRaffle$Office;I)I"⟩, 5), (⟨"SoulRaffle$Standing", "fitOfAll", "(LSoulRaffle$Office;II)I"⟩, 5), (⟨"SoulRaffle", "fanBits", "(I)I"⟩, 16), (⟨"SoulRaffle", "isFan", "(II)Z"⟩, 16), (⟨"SoulRaffle$Rings", "trade", "(LSoulRaffle$Office;LSoulRaffle$Standing;)V"⟩, 4), (⟨"SoulRaffle$Rings", "putIn", "(LSoulRaffle$Office;LSoulRaffle$Standing;)I"⟩, 4), (⟨"SoulRaffle$Standing", "firstOf", "(I)I"⟩, 5)]
theorem lw_r5 : ∀ q ∈ lw_privs_5, lw_okq q := List.forall_mem_cons.mpr ⟨lw_p64, List.forall_mem_cons.mpr ⟨lw_p65, List.forall_mem_cons.mpr ⟨lw_p66, List.forall_mem_cons.mpr ⟨lw_p67, List.forall_mem_cons.mpr ⟨lw_p68, List.forall_mem_cons.mpr ⟨lw_p69, List.forall_mem_cons.mpr ⟨lw_p70, List.forall_mem_cons.mpr ⟨lw_p71, List.forall_mem_cons.mpr ⟨lw_p72, List.forall_mem_cons.mpr ⟨lw_p73, List.forall_mem_cons.mpr ⟨lw_p74, List.forall_mem_cons.mpr ⟨lw_p75, List.forall_mem_cons.mpr ⟨lw_p76, List.forall_mem_cons.mpr ⟨lw_p77, List.forall_mem_cons.mpr ⟨lw_p78, List.forall_mem_cons.mpr ⟨lw_p79, fun _ h => absurd h List.not_mem_nil⟩⟩⟩⟩⟩⟩⟩⟩⟩⟩⟩⟩⟩⟩⟩⟩
theorem lw_p80 : lw_okq (⟨"SoulRaffle$Rings", "pointsTo", "(LSoulRaffle$Office;LSoulRaffle$Standing;II)I"⟩, 4) := ⟨⟨by decide +kernel, by decide +kernel⟩, List.mem_of_getElem? (i := 235) (by decide +kernel), List.mem_of_getElem? (i := 1001) (by decide +kernel), List.mem_of_getElem? (i := 1002) (by decide +kernel)⟩
theorem lw_p81 : lw_okq (⟨"SoulRaffle$Rings", "handOut", "(LSoulRaffle$Office;I)I"⟩, 4) := ⟨⟨by decide +kernel, by decide +kernel⟩, List.mem_of_getElem? (i := 235) (by decide +kernel), List.mem_of_getElem? (i := 1009) (by decide +kernel), List.mem_of_getElem? (i := 1010) (by decide +kernel)⟩
theorem lw_p82 : lw_okq (⟨"SoulRaffle$Rings", "comesRound", "(I)Z"⟩, 4) := ⟨⟨by decide +kernel, by decide +kernel⟩, List.mem_of_getElem? (i := 235) (by decide +kernel), List.mem_of_getElem? (i := 1013) (by decide +kernel), List.mem_of_getElem? (i := 1014) (by decide +kernel)⟩
theorem lw_p83 : lw_okq (⟨"SoulRaffle$Rings", "gotBy", "(I)I"⟩, 4) := ⟨⟨by decide +kernel, by decide +kernel⟩, List.mem_of_getElem? (i := 235) (by decide +kernel), List.mem_of_getElem? (i := 1017) (by decide +kernel), List.mem_of_getElem? (i := 1018) (by decide +kernel)⟩
theorem lw_p84 : lw_okq (⟨"SoulRaffle$Gifts", "giveOut", "(LSoulRaffle$Office;)V"⟩, 4) := ⟨⟨by decide +kernel, by decide +kernel⟩, List.mem_of_getElem? (i := 255) (by decide +kernel), List.mem_of_getElem? (i := 1029) (by decide +kernel), List.mem_of_getElem? (i := 1030) (by decide +kernel)⟩
theorem lw_p85 : lw_okq (⟨"SoulRaffle$Gifts", "mostWithout", "(LSoulRaffle$Office;I)I"⟩, 4) := ⟨⟨by decide +kernel, by decide +kernel⟩, List.mem_of_getElem? (i := 255) (by decide +kernel), List.mem_of_getElem? (i := 1033) (by decide +kernel), List.mem_of_getElem? (i := 1034) (by decide +kernel)⟩
theorem lw_p86 : lw_okq (⟨"SoulRaffle$Gifts", "mostFrom", "(LSoulRaffle$Office;IIZ)I"⟩, 4) := ⟨⟨by decide +kernel, by decide +kernel⟩, List.mem_of_getElem? (i := 255) (by decide +kernel), List.mem_of_getElem? (i := 1040) (by decide +kernel), List.mem_of_getElem? (i := 1041) (by decide +kernel)⟩
theorem lw_p87 : lw_okq (⟨"SoulRaffle$Gifts", "mostBy", "(LSoulRaffle$Office;III)I"⟩, 4) := ⟨⟨by decide +kernel, by decide +kernel⟩, List.mem_of_getElem? (i := 255) (by decide +kernel), List.mem_of_getElem? (i := 1045) (by decide +kernel), List.mem_of_getElem? (i := 1046) (by decide +kernel)⟩
theorem lw_p88 : lw_okq (⟨"SoulRaffle$Gifts", "firstBest", "(LSoulRaffle$Office;II)I"⟩, 4) := ⟨⟨by decide +kernel, by decide +kernel⟩, List.mem_of_getElem? (i := 255) (by decide +kernel), List.mem_of_getElem? (i := 1051) (by decide +kernel), List.mem_of_getElem? (i := 1052) (by decide +kernel)⟩
theorem lw_p89 : lw_okq (⟨"SoulRaffle$Gifts", "givenTo", "(I)I"⟩, 4) := ⟨⟨by decide +kernel, by decide +kernel⟩, List.mem_of_getElem? (i := 255) (by decide +kernel), List.mem_of_getElem? (i := 1055) (by decide +kernel), List.mem_of_getElem? (i := 1056) (by decide +kernel)⟩
theorem lw_p90 : lw_okq (⟨"SoulRaffle$Seen", "add", "(IIZ)Z"⟩, 4) := ⟨⟨by decide +kernel, by decide +kernel⟩, List.mem_of_getElem? (i := 212) (by decide +kernel), List.mem_of_getElem? (i := 1088) (by decide +kernel), List.mem_of_getElem? (i := 1089) (by decide +kernel)⟩
theorem lw_p91 : lw_okq (⟨"SoulRaffle$Seen", "whoBits", "(LSoulRaffle$Office;)I"⟩, 4) := ⟨⟨by decide +kernel, by decide +kernel⟩, List.mem_of_getElem? (i := 212) (by decide +kernel), List.mem_of_getElem? (i := 1097) (by decide +kernel), List.mem_of_getElem? (i := 1098) (by decide +kernel)⟩
theorem lw_p92 : lw_okq (⟨"SoulRaffle$Seen", "allIsSo", "(LSoulRaffle$Office;I)Z"⟩, 4) := ⟨⟨by decide +kernel, by decide +kernel⟩, List.mem_of_getElem? (i := 212) (by decide +kernel), List.mem_of_getElem? (i := 1101) (by decide +kernel), List.mem_of_getElem? (i := 1102) (by decide +kernel)⟩
theorem lw_p93 : lw_okq (⟨"SoulRaffle", "leftByAsking", "(III)I"⟩, 16) := ⟨⟨by decide +kernel, by decide +kernel⟩, List.mem_of_getElem? (i := 25) (by decide +kernel), List.mem_of_getElem? (i := 1111) (by decide +kernel), List.mem_of_getElem? (i := 1112) (by decide +kernel)⟩
theorem lw_p94 : lw_okq (⟨"SoulRaffle$Standing", "tryLuck", "(LSoulRaffle$Office;)V"⟩, 5) := ⟨⟨by decide +kernel, by decide +kernel⟩, List.mem_of_getElem? (i := 188) (by decide +kernel), List.mem_of_getElem? (i := 1139) (by decide +kernel), List.mem_of_getElem? (i := 1140) (by decide +kernel)⟩
theorem lw_p95 : lw_okq (⟨"SoulRaffle$Standing", "joyOfAll", "(LSoulRaffle$Office;)I"⟩, 5) := ⟨⟨by decide +kernel, by decide +kernel⟩, List.mem_of_getElem? (i := 188) (by decide +kernel), List.mem_of_getElem? (i := 1147) (by decide +kernel), List.mem_of_getElem? (i := 1148) (by decide +kernel)⟩
def lw_privs_6 : List (MethodName × Nat) := [(⟨"SoulRaffle$Rings", "pointsTo", "(LSoulRaffle$Office;LSoulRaffle$Standing;II)I"⟩, 4), (⟨"SoulRaffle$Rings", "handOut", "(LSoulRaffle$Office;I)I"⟩, 4), (⟨"SoulRaffle$Rings", "comesRound", "(I)Z"⟩, 4), (⟨"SoulRaffle$Rings", "gotBy", "(I)I"⟩, 4), (⟨"SoulRaffle$Gifts", "giveOut", "(LSoulRaffle$Office;)V"⟩, 4), (⟨"SoulRaffle$Gifts", "mostWithout", "(LSoulRaffle$Office;I)I"⟩, 4), (⟨"SoulRaffle$Gifts", "mostFrom", "(LSoulRaffle$Office;IIZ)I"⟩, 4), (⟨"SoulRaffle$Gifts", "mostBy", "(LSoulRaffle$Office;III)I"⟩, 4), (⟨"SoulRaffle$Gifts", "firstBest", "(LSoulRaffle$Office;II)I"⟩, 4), (⟨"SoulRaffle$Gifts", "givenTo", "(I)I"⟩, 4), (⟨"SoulRaffle$Seen", "add", "(IIZ)Z"⟩, 4), (⟨"SoulRaffle$Seen", "whoBits", "(LSoulRaffle$Office;)I"⟩, 4), (⟨"SoulRaffle$Seen", "allIsSo", "(LSoulRaffle$Office;I)Z"⟩, 4), (⟨"SoulRaffle", "leftByAsking", "(III)I"⟩, 16), (⟨"SoulRaffle$Standing", "tryLuck", "(LSoulRaffle$Office;)V"⟩, 5), (⟨"SoulRaffle$Standing", "joyOfAll", "(LSoulRaffle$Office;)I"⟩, 5)]
theorem lw_r6 : ∀ q ∈ lw_privs_6, lw_okq q := List.forall_mem_cons.mpr ⟨lw_p80, List.forall_mem_cons.mpr ⟨lw_p81, List.forall_mem_cons.mpr ⟨lw_p82, List.forall_mem_cons.mpr ⟨lw_p83, List.forall_mem_cons.mpr ⟨lw_p84, List.forall_mem_cons.mpr ⟨lw_p85, List.forall_mem_cons.mpr ⟨lw_p86, List.forall_mem_cons.mpr ⟨lw_p87, List.forall_mem_cons.mpr ⟨lw_p88, List.forall_mem_cons.mpr ⟨lw_p89, List.forall_mem_cons.mpr ⟨lw_p90, List.forall_mem_cons.mpr ⟨lw_p91, List.forall_mem_cons.mpr ⟨lw_p92, List.forall_mem_cons.mpr ⟨lw_p93, List.forall_mem_cons.mpr ⟨lw_p94, List.forall_mem_cons.mpr ⟨lw_p95, fun _ h => absurd h List.not_mem_nil⟩⟩⟩⟩⟩⟩⟩⟩⟩⟩⟩⟩⟩⟩⟩⟩
theorem lw_p96 : lw_okq (⟨"SoulRaffle$Seen", "copyOf", "(LSoulRaffle$Seen;)V"⟩, 4) := ⟨⟨by decide +kernel, by decide +kernel⟩, List.mem_of_getElem? (i := 212) (by decide +kernel), List.mem_of_getElem? (i := 1156) (by decide +kernel), List.mem_of_getElem? (i := 1157) (by decide +kernel)⟩
theorem lw_p97 : lw_okq (⟨"SoulRaffle$Standing", "allShillings", "()I"⟩, 5) := ⟨⟨by decide +kernel, by decide +kernel⟩, List.mem_of_getElem? (i := 188) (by decide +kernel), List.mem_of_getElem? (i := 1165) (by decide +kernel), List.mem_of_getElem? (i := 1166) (by decide +kernel)⟩
theorem lw_p98 : lw_okq (⟨"java/lang/Throwable", "fillInStackTrace", "(I)Ljava/lang/Throwable;"⟩, 6) := ⟨⟨by decide +kernel, by decide +kernel⟩, List.mem_of_getElem? (i := 1216) (by decide +kernel), List.mem_of_getElem? (i := 1214) (by decide +kernel), List.mem_of_getElem? (i := 1215) (by decide +kernel)⟩
theorem lw_p99 : lw_okq (⟨"SoulRaffleModel", "lay", "(J)V"⟩, 33) := ⟨⟨by decide +kernel, by decide +kernel⟩, List.mem_of_getElem? (i := 1262) (by decide +kernel), List.mem_of_getElem? (i := 1260) (by decide +kernel), List.mem_of_getElem? (i := 1261) (by decide +kernel)⟩
theorem lw_p100 : lw_okq (⟨"SoulRaffleModel", "standsAsAlways", "(I)V"⟩, 33) := ⟨⟨by decide +kernel, by decide +kernel⟩, List.mem_of_getElem? (i := 1262) (by decide +kernel), List.mem_of_getElem? (i := 1293) (by decide +kernel), List.mem_of_getElem? (i := 1294) (by decide +kernel)⟩
theorem lw_p101 : lw_okq (⟨"SoulRaffleModel", "begins", "()V"⟩, 33) := ⟨⟨by decide +kernel, by decide +kernel⟩, List.mem_of_getElem? (i := 1262) (by decide +kernel), List.mem_of_getElem? (i := 1297) (by decide +kernel), List.mem_of_getElem? (i := 1298) (by decide +kernel)⟩
theorem lw_p102 : lw_okq (⟨"SoulRaffleModel", "starts", "(I)V"⟩, 33) := ⟨⟨by decide +kernel, by decide +kernel⟩, List.mem_of_getElem? (i := 1262) (by decide +kernel), List.mem_of_getElem? (i := 1301) (by decide +kernel), List.mem_of_getElem? (i := 1302) (by decide +kernel)⟩
theorem lw_p103 : lw_okq (⟨"SoulRaffleModel", "persons", "()I"⟩, 33) := ⟨⟨by decide +kernel, by decide +kernel⟩, List.mem_of_getElem? (i := 1262) (by decide +kernel), List.mem_of_getElem? (i := 1305) (by decide +kernel), List.mem_of_getElem? (i := 1306) (by decide +kernel)⟩
theorem lw_p104 : lw_okq (⟨"SoulRaffleModel", "personOf", "(II)I"⟩, 33) := ⟨⟨by decide +kernel, by decide +kernel⟩, List.mem_of_getElem? (i := 1262) (by decide +kernel), List.mem_of_getElem? (i := 1309) (by decide +kernel), List.mem_of_getElem? (i := 1310) (by decide +kernel)⟩
theorem lw_p105 : lw_okq (⟨"SoulRaffleModel", "cutAll", "()V"⟩, 33) := ⟨⟨by decide +kernel, by decide +kernel⟩, List.mem_of_getElem? (i := 1262) (by decide +kernel), List.mem_of_getElem? (i := 1417) (by decide +kernel), List.mem_of_getElem? (i := 1418) (by decide +kernel)⟩
theorem lw_p106 : lw_okq (⟨"SoulRaffleModel", "readLine", "()V"⟩, 33) := ⟨⟨by decide +kernel, by decide +kernel⟩, List.mem_of_getElem? (i := 1262) (by decide +kernel), List.mem_of_getElem? (i := 1436) (by decide +kernel), List.mem_of_getElem? (i := 1437) (by decide +kernel)⟩
theorem lw_p107 : lw_okq (⟨"SoulRaffleModel", "isWord", "(I)Z"⟩, 33) := ⟨⟨by decide +kernel, by decide +kernel⟩, List.mem_of_getElem? (i := 1262) (by decide +kernel), List.mem_of_getElem? (i := 1440) (by decide +kernel), List.mem_of_getElem? (i := 1441) (by decide +kernel)⟩
theorem lw_p108 : lw_okq (⟨"SoulRaffleModel", "readName", "(III)V"⟩, 33) := ⟨⟨by decide +kernel, by decide +kernel⟩, List.mem_of_getElem? (i := 1262) (by decide +kernel), List.mem_of_getElem? (i := 1444) (by decide +kernel), List.mem_of_getElem? (i := 1445) (by decide +kernel)⟩
theorem lw_p109 : lw_okq (⟨"SoulRaffleModel", "wrong", "(I)V"⟩, 33) := ⟨⟨by decide +kernel, by decide +kernel⟩, List.mem_of_getElem? (i := 1262) (by decide +kernel), List.mem_of_getElem? (i := 1448) (by decide +kernel), List.mem_of_getElem? (i := 1449) (by decide +kernel)⟩
theorem lw_p110 : lw_okq (⟨"SoulRaffleModel", "isName", "()Z"⟩, 33) := ⟨⟨by decide +kernel, by decide +kernel⟩, List.mem_of_getElem? (i := 1262) (by decide +kernel), List.mem_of_getElem? (i := 1452) (by decide +kernel), List.mem_of_getElem? (i := 1453) (by decide +kernel)⟩
theorem lw_p111 : lw_okq (⟨"SoulRaffleModel", "wordHere", "(II)I"⟩, 33) := ⟨⟨by decide +kernel, by decide +kernel⟩, List.mem_of_getElem? (i := 1262) (by decide +kernel), List.mem_of_getElem? (i := 1456) (by decide +kernel), List.mem_of_getElem? (i := 1457) (by decide +kernel)⟩
def lw_privs_7 : List (MethodName × Nat) := [(⟨"SoulRaffle$Seen", "copyOf", "(LSoulRaffle$Seen;)V"⟩, 4), (⟨"SoulRaffle$Standing", "allShillings", "()I"⟩, 5), (⟨"java/lang/Throwable", "fillInStackTrace", "(I)Ljava/lang/Throwable;"⟩, 6), (⟨"SoulRaffleModel", "lay", "(J)V"⟩, 33), (⟨"SoulRaffleModel", "standsAsAlways", "(I)V"⟩, 33), (⟨"SoulRaffleModel", "begins", "()V"⟩, 33), (⟨"SoulRaffleModel", "starts", "(I)V"⟩, 33), (⟨"SoulRaffleModel", "persons", "()I"⟩, 33), (⟨"SoulRaffleModel", "personOf", "(II)I"⟩, 33), (⟨"SoulRaffleModel", "cutAll", "()V"⟩, 33), (⟨"SoulRaffleModel", "readLine", "()V"⟩, 33), (⟨"SoulRaffleModel", "isWord", "(I)Z"⟩, 33), (⟨"SoulRaffleModel", "readName", "(III)V"⟩, 33), (⟨"SoulRaffleModel", "wrong", "(I)V"⟩, 33), (⟨"SoulRaffleModel", "isName", "()Z"⟩, 33), (⟨"SoulRaffleModel", "wordHere", "(II)I"⟩, 33)]
theorem lw_r7 : ∀ q ∈ lw_privs_7, lw_okq q := List.forall_mem_cons.mpr ⟨lw_p96, List.forall_mem_cons.mpr ⟨lw_p97, List.forall_mem_cons.mpr ⟨lw_p98, List.forall_mem_cons.mpr ⟨lw_p99, List.forall_mem_cons.mpr ⟨lw_p100, List.forall_mem_cons.mpr ⟨lw_p101, List.forall_mem_cons.mpr ⟨lw_p102, List.forall_mem_cons.mpr ⟨lw_p103, List.forall_mem_cons.mpr ⟨lw_p104, List.forall_mem_cons.mpr ⟨lw_p105, List.forall_mem_cons.mpr ⟨lw_p106, List.forall_mem_cons.mpr ⟨lw_p107, List.forall_mem_cons.mpr ⟨lw_p108, List.forall_mem_cons.mpr ⟨lw_p109, List.forall_mem_cons.mpr ⟨lw_p110, List.forall_mem_cons.mpr ⟨lw_p111, fun _ h => absurd h List.not_mem_nil⟩⟩⟩⟩⟩⟩⟩⟩⟩⟩⟩⟩⟩⟩⟩⟩
theorem lw_p112 : lw_okq (⟨"SoulRaffleModel", "nameAt", "(Z)I"⟩, 33) := ⟨⟨by decide +kernel, by decide +kernel⟩, List.mem_of_getElem? (i := 1262) (by decide +kernel), List.mem_of_getElem? (i := 1460) (by decide +kernel), List.mem_of_getElem? (i := 1461) (by decide +kernel)⟩
theorem lw_p113 : lw_okq (⟨"SoulRaffleModel", "takeOne", "(II)I"⟩, 33) := ⟨⟨by decide +kernel, by decide +kernel⟩, List.mem_of_getElem? (i := 1262) (by decide +kernel), List.mem_of_getElem? (i := 1464) (by decide +kernel), List.mem_of_getElem? (i := 1465) (by decide +kernel)⟩
theorem lw_p114 : lw_okq (⟨"SoulRaffleModel", "takeAfter", "(III)I"⟩, 33) := ⟨⟨by decide +kernel, by decide +kernel⟩, List.mem_of_getElem? (i := 1262) (by decide +kernel), List.mem_of_getElem? (i := 1468) (by decide +kernel), List.mem_of_getElem? (i := 1469) (by decide +kernel)⟩
theorem lw_p115 : lw_okq (⟨"SoulRaffleModel", "takeWord", "(I)V"⟩, 33) := ⟨⟨by decide +kernel, by decide +kernel⟩, List.mem_of_getElem? (i := 1262) (by decide +kernel), List.mem_of_getElem? (i := 1472) (by decide +kernel), List.mem_of_getElem? (i := 1473) (by decide +kernel)⟩
theorem lw_p116 : lw_okq (⟨"SoulRaffleModel", "hasWord", "(I)Z"⟩, 33) := ⟨⟨by decide +kernel, by decide +kernel⟩, List.mem_of_getElem? (i := 1262) (by decide +kernel), List.mem_of_getElem? (i := 1476) (by decide +kernel), List.mem_of_getElem? (i := 1477) (by decide +kernel)⟩
theorem lw_p117 : lw_okq (⟨"SoulRaffleModel", "takeNumber", "(II)I"⟩, 33) := ⟨⟨by decide +kernel, by decide +kernel⟩, List.mem_of_getElem? (i := 1262) (by decide +kernel), List.mem_of_getElem? (i := 1480) (by decide +kernel), List.mem_of_getElem? (i := 1481) (by decide +kernel)⟩
theorem lw_p118 : lw_okq (⟨"SoulRaffleModel", "takeTold", "(ZII)I"⟩, 33) := ⟨⟨by decide +kernel, by decide +kernel⟩, List.mem_of_getElem? (i := 1262) (by decide +kernel), List.mem_of_getElem? (i := 1484) (by decide +kernel), List.mem_of_getElem? (i := 1485) (by decide +kernel)⟩
theorem lw_p119 : lw_okq (⟨"SoulRaffleModel", "readLike", "()V"⟩, 33) := ⟨⟨by decide +kernel, by decide +kernel⟩, List.mem_of_getElem? (i := 1262) (by decide +kernel), List.mem_of_getElem? (i := 1491) (by decide +kernel), List.mem_of_getElem? (i := 1492) (by decide +kernel)⟩
theorem lw_p120 : lw_okq (⟨"SoulRaffleModel", "readOnce", "()V"⟩, 33) := ⟨⟨by decide +kernel, by decide +kernel⟩, List.mem_of_getElem? (i := 1262) (by decide +kernel), List.mem_of_getElem? (i := 1495) (by decide +kernel), List.mem_of_getElem? (i := 1496) (by decide +kernel)⟩
theorem lw_p121 : lw_okq (⟨"SoulRaffleModel", "whole", "(I)V"⟩, 33) := ⟨⟨by decide +kernel, by decide +kernel⟩, List.mem_of_getElem? (i := 1262) (by decide +kernel), List.mem_of_getElem? (i := 1499) (by decide +kernel), List.mem_of_getElem? (i := 1500) (by decide +kernel)⟩
theorem lw_p122 : lw_okq (⟨"SoulRaffleModel", "test", "(I)V"⟩, 33) := ⟨⟨by decide +kernel, by decide +kernel⟩, List.mem_of_getElem? (i := 1262) (by decide +kernel), List.mem_of_getElem? (i := 1503) (by decide +kernel), List.mem_of_getElem? (i := 1504) (by decide +kernel)⟩
theorem lw_p123 : lw_okq (⟨"SoulRaffleModel", "sums", "(I)V"⟩, 33) := ⟨⟨by decide +kernel, by decide +kernel⟩, List.mem_of_getElem? (i := 1262) (by decide +kernel), List.mem_of_getElem? (i := 1507) (by decide +kernel), List.mem_of_getElem? (i := 1508) (by decide +kernel)⟩
theorem lw_p124 : lw_okq (⟨"SoulRaffleModel", "products", "(I)V"⟩, 33) := ⟨⟨by decide +kernel, by decide +kernel⟩, List.mem_of_getElem? (i := 1262) (by decide +kernel), List.mem_of_getElem? (i := 1511) (by decide +kernel), List.mem_of_getElem? (i := 1512) (by decide +kernel)⟩
theorem lw_p125 : lw_okq (⟨"SoulRaffleModel", "takePart", "(I)V"⟩, 33) := ⟨⟨by decide +kernel, by decide +kernel⟩, List.mem_of_getElem? (i := 1262) (by decide +kernel), List.mem_of_getElem? (i := 1515) (by decide +kernel), List.mem_of_getElem? (i := 1516) (by decide +kernel)⟩
theorem lw_p126 : lw_okq (⟨"SoulRaffleModel", "isSign", "(I)Z"⟩, 33) := ⟨⟨by decide +kernel, by decide +kernel⟩, List.mem_of_getElem? (i := 1262) (by decide +kernel), List.mem_of_getElem? (i := 1519) (by decide +kernel), List.mem_of_getElem? (i := 1520) (by decide +kernel)⟩
theorem lw_p127 : lw_okq (⟨"SoulRaffleModel", "emit", "(II)V"⟩, 33) := ⟨⟨by decide +kernel, by decide +kernel⟩, List.mem_of_getElem? (i := 1262) (by decide +kernel), List.mem_of_getElem? (i := 1523) (by decide +kernel), List.mem_of_getElem? (i := 1524) (by decide +kernel)⟩
def lw_privs_8 : List (MethodName × Nat) := [(⟨"SoulRaffleModel", "nameAt", "(Z)I"⟩, 33), (⟨"SoulRaffleModel", "takeOne", "(II)I"⟩, 33), (⟨"SoulRaffleModel", "takeAfter", "(III)I"⟩, 33), (⟨"SoulRaffleModel", "takeWord", "(I)V"⟩, 33), (⟨"SoulRaffleModel", "hasWord", "(I)Z"⟩, 33), (⟨"SoulRaffleModel", "takeNumber", "(II)I"⟩, 33), (⟨"SoulRaffleModel", "takeTold", "(ZII)I"⟩, 33), (⟨"SoulRaffleModel", "readLike", "()V"⟩, 33), (⟨"SoulRaffleModel", "readOnce", "()V"⟩, 33), (⟨"SoulRaffleModel", "whole", "(I)V"⟩, 33), (⟨"SoulRaffleModel", "test", "(I)V"⟩, 33), (⟨"SoulRaffleModel", "sums", "(I)V"⟩, 33), (⟨"SoulRaffleModel", "products", "(I)V"⟩, 33), (⟨"SoulRaffleModel", "takePart", "(I)V"⟩, 33), (⟨"SoulRaffleModel", "isSign", "(I)Z"⟩, 33), (⟨"SoulRaffleModel", "emit", "(II)V"⟩, 33)]
theorem lw_r8 : ∀ q ∈ lw_privs_8, lw_okq q := List.forall_mem_cons.mpr ⟨lw_p112, List.forall_mem_cons.mpr ⟨lw_p113, List.forall_mem_cons.mpr ⟨lw_p114, List.forall_mem_cons.mpr ⟨lw_p115, List.forall_mem_cons.mpr ⟨lw_p116, List.forall_mem_cons.mpr ⟨lw_p117, List.forall_mem_cons.mpr ⟨lw_p118, List.forall_mem_cons.mpr ⟨lw_p119, List.forall_mem_cons.mpr ⟨lw_p120, List.forall_mem_cons.mpr ⟨lw_p121, List.forall_mem_cons.mpr ⟨lw_p122, List.forall_mem_cons.mpr ⟨lw_p123, List.forall_mem_cons.mpr ⟨lw_p124, List.forall_mem_cons.mpr ⟨lw_p125, List.forall_mem_cons.mpr ⟨lw_p126, List.forall_mem_cons.mpr ⟨lw_p127, fun _ h => absurd h List.not_mem_nil⟩⟩⟩⟩⟩⟩⟩⟩⟩⟩⟩⟩⟩⟩⟩⟩
theorem lw_p128 : lw_okq (⟨"SoulRaffleModel", "hasSign", "(I)Z"⟩, 33) := ⟨⟨by decide +kernel, by decide +kernel⟩, List.mem_of_getElem? (i := 1262) (by decide +kernel), List.mem_of_getElem? (i := 1527) (by decide +kernel), List.mem_of_getElem? (i := 1528) (by decide +kernel)⟩
theorem lw_p129 : lw_okq (⟨"SoulRaffleModel", "takeSign", "(I)V"⟩, 33) := ⟨⟨by decide +kernel, by decide +kernel⟩, List.mem_of_getElem? (i := 1262) (by decide +kernel), List.mem_of_getElem? (i := 1531) (by decide +kernel), List.mem_of_getElem? (i := 1532) (by decide +kernel)⟩
theorem lw_p130 : lw_okq (⟨"SoulRaffleModel", "readYear", "(II)V"⟩, 33) := ⟨⟨by decide +kernel, by decide +kernel⟩, List.mem_of_getElem? (i := 1262) (by decide +kernel), List.mem_of_getElem? (i := 1539) (by decide +kernel), List.mem_of_getElem? (i := 1540) (by decide +kernel)⟩
theorem lw_p131 : lw_okq (⟨"SoulRaffleModel", "isPerson", "(I)Z"⟩, 33) := ⟨⟨by decide +kernel, by decide +kernel⟩, List.mem_of_getElem? (i := 1262) (by decide +kernel), List.mem_of_getElem? (i := 1547) (by decide +kernel), List.mem_of_getElem? (i := 1548) (by decide +kernel)⟩
theorem lw_p132 : lw_okq (⟨"SoulRaffleModel", "heldBy", "(II)I"⟩, 33) := ⟨⟨by decide +kernel, by decide +kernel⟩, List.mem_of_getElem? (i := 1262) (by decide +kernel), List.mem_of_getElem? (i := 1551) (by decide +kernel), List.mem_of_getElem? (i := 1552) (by decide +kernel)⟩
theorem lw_p133 : lw_okq (⟨"SoulRaffleModel", "goods", "()I"⟩, 33) := ⟨⟨by decide +kernel, by decide +kernel⟩, List.mem_of_getElem? (i := 1262) (by decide +kernel), List.mem_of_getElem? (i := 1555) (by decide +kernel), List.mem_of_getElem? (i := 1556) (by decide +kernel)⟩
theorem lw_p134 : lw_okq (⟨"SoulRaffleModel", "isGood", "(I)Z"⟩, 33) := ⟨⟨by decide +kernel, by decide +kernel⟩, List.mem_of_getElem? (i := 1262) (by decide +kernel), List.mem_of_getElem? (i := 1563) (by decide +kernel), List.mem_of_getElem? (i := 1564) (by decide +kernel)⟩
theorem lw_p135 : lw_okq (⟨"SoulRaffleModel", "goodOf", "(II)I"⟩, 33) := ⟨⟨by decide +kernel, by decide +kernel⟩, List.mem_of_getElem? (i := 1262) (by decide +kernel), List.mem_of_getElem? (i := 1567) (by decide +kernel), List.mem_of_getElem? (i := 1568) (by decide +kernel)⟩
theorem lw_p136 : lw_okq (⟨"SoulRaffleModel", "fitOf", "(III)I"⟩, 33) := ⟨⟨by decide +kernel, by decide +kernel⟩, List.mem_of_getElem? (i := 1262) (by decide +kernel), List.mem_of_getElem? (i := 1575) (by decide +kernel), List.mem_of_getElem? (i := 1576) (by decide +kernel)⟩
theorem lw_p137 : lw_okq (⟨"SoulRaffleModel", "fitBy", "(III)I"⟩, 33) := ⟨⟨by decide +kernel, by decide +kernel⟩, List.mem_of_getElem? (i := 1262) (by decide +kernel), List.mem_of_getElem? (i := 1582) (by decide +kernel), List.mem_of_getElem? (i := 1583) (by decide +kernel)⟩
theorem lw_p138 : lw_okq (⟨"SoulRaffleModel", "worthAt", "(I)I"⟩, 33) := ⟨⟨by decide +kernel, by decide +kernel⟩, List.mem_of_getElem? (i := 1262) (by decide +kernel), List.mem_of_getElem? (i := 1586) (by decide +kernel), List.mem_of_getElem? (i := 1587) (by decide +kernel)⟩
theorem lw_p139 : lw_okq (⟨"SoulRaffleModel", "mayBuy", "(II)Z"⟩, 33) := ⟨⟨by decide +kernel, by decide +kernel⟩, List.mem_of_getElem? (i := 1262) (by decide +kernel), List.mem_of_getElem? (i := 1597) (by decide +kernel), List.mem_of_getElem? (i := 1598) (by decide +kernel)⟩
theorem lw_p140 : lw_okq (⟨"SoulRaffleModel", "keeps", "()V"⟩, 33) := ⟨⟨by decide +kernel, by decide +kernel⟩, List.mem_of_getElem? (i := 1262) (by decide +kernel), List.mem_of_getElem? (i := 1601) (by decide +kernel), List.mem_of_getElem? (i := 1602) (by decide +kernel)⟩
theorem lw_p141 : lw_okq (⟨"SoulRaffleModel", "copies", "(III)V"⟩, 33) := ⟨⟨by decide +kernel, by decide +kernel⟩, List.mem_of_getElem? (i := 1262) (by decide +kernel), List.mem_of_getElem? (i := 1605) (by decide +kernel), List.mem_of_getElem? (i := 1606) (by decide +kernel)⟩
theorem lw_p142 : lw_okq (⟨"SoulRaffleModel", "buys", "(II)V"⟩, 33) := ⟨⟨by decide +kernel, by decide +kernel⟩, List.mem_of_getElem? (i := 1262) (by decide +kernel), List.mem_of_getElem? (i := 1609) (by decide +kernel), List.mem_of_getElem? (i := 1610) (by decide +kernel)⟩
theorem lw_p143 : lw_okq (⟨"SoulRaffleModel", "maySwap", "(III)Z"⟩, 33) := ⟨⟨by decide +kernel, by decide +kernel⟩, List.mem_of_getElem? (i := 1262) (by decide +kernel), List.mem_of_getElem? (i := 1617) (by decide +kernel), List.mem_of_getElem? (i := 1618) (by decide +kernel)⟩
def lw_privs_9 : List (MethodName × Nat) := [(⟨"SoulRaffleModel", "hasSign", "(I)Z"⟩, 33), (⟨"SoulRaffleModel", "takeSign", "(I)V"⟩, 33), (⟨"SoulRaffleModel", "readYear", "(II)V"⟩, 33), (⟨"SoulRaffleModel", "isPerson", "(I)Z"⟩, 33), (⟨"SoulRaffleModel", "heldBy", "(II)I"⟩, 33), (⟨"SoulRaffleModel", "goods", "()I"⟩, 33), (⟨"SoulRaffleModel", "isGood", "(I)Z"⟩, 33), (⟨"SoulRaffleModel", "goodOf", "(II)I"⟩, 33), (⟨"SoulRaffleModel", "fitOf", "(III)I"⟩, 33), (⟨"SoulRaffleModel", "fitBy", "(III)I"⟩, 33), (⟨"SoulRaffleModel", "worthAt", "(I)I"⟩, 33), (⟨"SoulRaffleModel", "mayBuy", "(II)Z"⟩, 33), (⟨"SoulRaffleModel", "keeps", "()V"⟩, 33), (⟨"SoulRaffleModel", "copies", "(III)V"⟩, 33), (⟨"SoulRaffleModel", "buys", "(II)V"⟩, 33), (⟨"SoulRaffleModel", "maySwap", "(III)Z"⟩, 33)]
theorem lw_r9 : ∀ q ∈ lw_privs_9, lw_okq q := List.forall_mem_cons.mpr ⟨lw_p128, List.forall_mem_cons.mpr ⟨lw_p129, List.forall_mem_cons.mpr ⟨lw_p130, List.forall_mem_cons.mpr ⟨lw_p131, List.forall_mem_cons.mpr ⟨lw_p132, List.forall_mem_cons.mpr ⟨lw_p133, List.forall_mem_cons.mpr ⟨lw_p134, List.forall_mem_cons.mpr ⟨lw_p135, List.forall_mem_cons.mpr ⟨lw_p136, List.forall_mem_cons.mpr ⟨lw_p137, List.forall_mem_cons.mpr ⟨lw_p138, List.forall_mem_cons.mpr ⟨lw_p139, List.forall_mem_cons.mpr ⟨lw_p140, List.forall_mem_cons.mpr ⟨lw_p141, List.forall_mem_cons.mpr ⟨lw_p142, List.forall_mem_cons.mpr ⟨lw_p143, fun _ h => absurd h List.not_mem_nil⟩⟩⟩⟩⟩⟩⟩⟩⟩⟩⟩⟩⟩⟩⟩⟩
theorem lw_p144 : lw_okq (⟨"SoulRaffleModel", "doesLike", "(IIII)Z"⟩, 33) := ⟨⟨by decide +kernel, by decide +kernel⟩, List.mem_of_getElem? (i := 1262) (by decide +kernel), List.mem_of_getElem? (i := 1621) (by decide +kernel), List.mem_of_getElem? (i := 1622) (by decide +kernel)⟩
theorem lw_p145 : lw_okq (⟨"SoulRaffleModel", "swaps", "(III)V"⟩, 33) := ⟨⟨by decide +kernel, by decide +kernel⟩, List.mem_of_getElem? (i := 1262) (by decide +kernel), List.mem_of_getElem? (i := 1625) (by decide +kernel), List.mem_of_getElem? (i := 1626) (by decide +kernel)⟩
theorem lw_p146 : lw_okq (⟨"SoulRaffleModel", "passes", "(I)I"⟩, 33) := ⟨⟨by decide +kernel, by decide +kernel⟩, List.mem_of_getElem? (i := 1262) (by decide +kernel), List.mem_of_getElem? (i := 1637) (by decide +kernel), List.mem_of_getElem? (i := 1638) (by decide +kernel)⟩
theorem lw_p147 : lw_okq (⟨"SoulRaffleModel", "sumOf", "(I)I"⟩, 33) := ⟨⟨by decide +kernel, by decide +kernel⟩, List.mem_of_getElem? (i := 1262) (by decide +kernel), List.mem_of_getElem? (i := 1641) (by decide +kernel), List.mem_of_getElem? (i := 1642) (by decide +kernel)⟩
theorem lw_p148 : lw_okq (⟨"SoulRaffleModel", "draw", "(II)I"⟩, 33) := ⟨⟨by decide +kernel, by decide +kernel⟩, List.mem_of_getElem? (i := 1262) (by decide +kernel), List.mem_of_getElem? (i := 1645) (by decide +kernel), List.mem_of_getElem? (i := 1646) (by decide +kernel)⟩
theorem lw_p149 : lw_okq (⟨"SoulRaffleModel", "ownerOf", "(II)I"⟩, 33) := ⟨⟨by decide +kernel, by decide +kernel⟩, List.mem_of_getElem? (i := 1262) (by decide +kernel), List.mem_of_getElem? (i := 1653) (by decide +kernel), List.mem_of_getElem? (i := 1654) (by decide +kernel)⟩
theorem lw_p150 : lw_okq (⟨"SoulRaffleModel", "settles", "(II)V"⟩, 33) := ⟨⟨by decide +kernel, by decide +kernel⟩, List.mem_of_getElem? (i := 1262) (by decide +kernel), List.mem_of_getElem? (i := 1657) (by decide +kernel), List.mem_of_getElem? (i := 1658) (by decide +kernel)⟩
theorem lw_p151 : lw_okq (⟨"SoulRaffleModel", "rightsOf", "(I)I"⟩, 33) := ⟨⟨by decide +kernel, by decide +kernel⟩, List.mem_of_getElem? (i := 1262) (by decide +kernel), List.mem_of_getElem? (i := 1669) (by decide +kernel), List.mem_of_getElem? (i := 1670) (by decide +kernel)⟩
theorem lw_p152 : lw_okq (⟨"SoulRaffleModel", "triesNow", "()V"⟩, 33) := ⟨⟨by decide +kernel, by decide +kernel⟩, List.mem_of_getElem? (i := 1262) (by decide +kernel), List.mem_of_getElem? (i := 1677) (by decide +kernel), List.mem_of_getElem? (i := 1678) (by decide +kernel)⟩
theorem lw_p153 : lw_okq (⟨"SoulRaffleModel", "joyOf", "(II)I"⟩, 33) := ⟨⟨by decide +kernel, by decide +kernel⟩, List.mem_of_getElem? (i := 1262) (by decide +kernel), List.mem_of_getElem? (i := 1717) (by decide +kernel), List.mem_of_getElem? (i := 1718) (by decide +kernel)⟩
theorem lw_p154 : lw_okq (⟨"SoulRaffleModel", "fitOfAll", "(III)I"⟩, 33) := ⟨⟨by decide +kernel, by decide +kernel⟩, List.mem_of_getElem? (i := 1262) (by decide +kernel), List.mem_of_getElem? (i := 1721) (by decide +kernel), List.mem_of_getElem? (i := 1722) (by decide +kernel)⟩
theorem lw_p155 : lw_okq (⟨"SoulRaffleModel", "allGoods", "()I"⟩, 33) := ⟨⟨by decide +kernel, by decide +kernel⟩, List.mem_of_getElem? (i := 1262) (by decide +kernel), List.mem_of_getElem? (i := 1737) (by decide +kernel), List.mem_of_getElem? (i := 1738) (by decide +kernel)⟩
theorem lw_p156 : lw_okq (⟨"SoulRaffleModel", "wantOf", "(III)I"⟩, 33) := ⟨⟨by decide +kernel, by decide +kernel⟩, List.mem_of_getElem? (i := 1262) (by decide +kernel), List.mem_of_getElem? (i := 1741) (by decide +kernel), List.mem_of_getElem? (i := 1742) (by decide +kernel)⟩
theorem lw_p157 : lw_okq (⟨"SoulRaffleModel", "fansOf", "(I)I"⟩, 33) := ⟨⟨by decide +kernel, by decide +kernel⟩, List.mem_of_getElem? (i := 1262) (by decide +kernel), List.mem_of_getElem? (i := 1749) (by decide +kernel), List.mem_of_getElem? (i := 1750) (by decide +kernel)⟩
theorem lw_p158 : lw_okq (⟨"SoulRaffleModel", "ringsNow", "()I"⟩, 33) := ⟨⟨by decide +kernel, by decide +kernel⟩, List.mem_of_getElem? (i := 1262) (by decide +kernel), List.mem_of_getElem? (i := 1765) (by decide +kernel), List.mem_of_getElem? (i := 1766) (by decide +kernel)⟩
theorem lw_p159 : lw_okq (⟨"SoulRaffleModel", "ownerIn", "(I)I"⟩, 33) := ⟨⟨by decide +kernel, by decide +kernel⟩, List.mem_of_getElem? (i := 1262) (by decide +kernel), List.mem_of_getElem? (i := 1769) (by decide +kernel), List.mem_of_getElem? (i := 1770) (by decide +kernel)⟩
def lw_privs_10 : List (MethodName × Nat) := [(⟨"SoulRaffleModel", "doesLike", "(IIII)Z"⟩, 33), (⟨"SoulRaffleModel", "swaps", "(III)V"⟩, 33), (⟨"SoulRaffleModel", "passes", "(I)I"⟩, 33), (⟨"SoulRaffleModel", "sumOf", "(I)I"⟩, 33), (⟨"SoulRaffleModel", "draw", "(II)I"⟩, 33), (⟨"SoulRaffleModel", "ownerOf", "(II)I"⟩, 33), (⟨"SoulRaffleModel", "settles", "(II)V"⟩, 33), (⟨"SoulRaffleModel", "rightsOf", "(I)I"⟩, 33), (⟨"SoulRaffleModel", "triesNow", "()V"⟩, 33), (⟨"SoulRaffleModel", "joyOf", "(II)I"⟩, 33), (⟨"SoulRaffleModel", "fitOfAll", "(III)I"⟩, 33), (⟨"SoulRaffleModel", "allGoods", "()I"⟩, 33), (⟨"SoulRaffleModel", "wantOf", "(III)I"⟩, 33), (⟨"SoulRaffleModel", "fansOf", "(I)I"⟩, 33), (⟨"SoulRaffleModel", "ringsNow", "()I"⟩, 33), (⟨"SoulRaffleModel", "ownerIn", "(I)I"⟩, 33)]
theorem lw_r10 : ∀ q ∈ lw_privs_10, lw_okq q := List.forall_mem_cons.mpr ⟨lw_p144, List.forall_mem_cons.mpr ⟨lw_p145, List.forall_mem_cons.mpr ⟨lw_p146, List.forall_mem_cons.mpr ⟨lw_p147, List.forall_mem_cons.mpr ⟨lw_p148, List.forall_mem_cons.mpr ⟨lw_p149, List.forall_mem_cons.mpr ⟨lw_p150, List.forall_mem_cons.mpr ⟨lw_p151, List.forall_mem_cons.mpr ⟨lw_p152, List.forall_mem_cons.mpr ⟨lw_p153, List.forall_mem_cons.mpr ⟨lw_p154, List.forall_mem_cons.mpr ⟨lw_p155, List.forall_mem_cons.mpr ⟨lw_p156, List.forall_mem_cons.mpr ⟨lw_p157, List.forall_mem_cons.mpr ⟨lw_p158, List.forall_mem_cons.mpr ⟨lw_p159, fun _ h => absurd h List.not_mem_nil⟩⟩⟩⟩⟩⟩⟩⟩⟩⟩⟩⟩⟩⟩⟩⟩
theorem lw_p160 : lw_okq (⟨"SoulRaffleModel", "givesOut", "(I)V"⟩, 33) := ⟨⟨by decide +kernel, by decide +kernel⟩, List.mem_of_getElem? (i := 1262) (by decide +kernel), List.mem_of_getElem? (i := 1781) (by decide +kernel), List.mem_of_getElem? (i := 1782) (by decide +kernel)⟩
theorem lw_p161 : lw_okq (⟨"SoulRaffleModel", "givesFrom", "(IIII)V"⟩, 33) := ⟨⟨by decide +kernel, by decide +kernel⟩, List.mem_of_getElem? (i := 1262) (by decide +kernel), List.mem_of_getElem? (i := 1785) (by decide +kernel), List.mem_of_getElem? (i := 1786) (by decide +kernel)⟩
theorem lw_p162 : lw_okq (⟨"SoulRaffleModel", "whoNow", "()I"⟩, 33) := ⟨⟨by decide +kernel, by decide +kernel⟩, List.mem_of_getElem? (i := 1262) (by decide +kernel), List.mem_of_getElem? (i := 1819) (by decide +kernel), List.mem_of_getElem? (i := 1820) (by decide +kernel)⟩
theorem lw_p163 : lw_okq (⟨"SoulRaffleModel", "drawsDeed", "()V"⟩, 33) := ⟨⟨by decide +kernel, by decide +kernel⟩, List.mem_of_getElem? (i := 1262) (by decide +kernel), List.mem_of_getElem? (i := 1858) (by decide +kernel), List.mem_of_getElem? (i := 1859) (by decide +kernel)⟩
theorem lw_p164 : lw_okq (⟨"SoulRaffleModel", "joyOfAll", "(I)I"⟩, 33) := ⟨⟨by decide +kernel, by decide +kernel⟩, List.mem_of_getElem? (i := 1262) (by decide +kernel), List.mem_of_getElem? (i := 1862) (by decide +kernel), List.mem_of_getElem? (i := 1863) (by decide +kernel)⟩
def lw_privs_11 : List (MethodName × Nat) := [(⟨"SoulRaffleModel", "givesOut", "(I)V"⟩, 33), (⟨"SoulRaffleModel", "givesFrom", "(IIII)V"⟩, 33), (⟨"SoulRaffleModel", "whoNow", "()I"⟩, 33), (⟨"SoulRaffleModel", "drawsDeed", "()V"⟩, 33), (⟨"SoulRaffleModel", "joyOfAll", "(I)I"⟩, 33)]
theorem lw_r11 : ∀ q ∈ lw_privs_11, lw_okq q := List.forall_mem_cons.mpr ⟨lw_p160, List.forall_mem_cons.mpr ⟨lw_p161, List.forall_mem_cons.mpr ⟨lw_p162, List.forall_mem_cons.mpr ⟨lw_p163, List.forall_mem_cons.mpr ⟨lw_p164, fun _ h => absurd h List.not_mem_nil⟩⟩⟩⟩⟩
def lw_privs : List (MethodName × Nat) := lw_privs_1 ++ (lw_privs_2 ++ (lw_privs_3 ++ (lw_privs_4 ++ (lw_privs_5 ++ (lw_privs_6 ++ (lw_privs_7 ++ (lw_privs_8 ++ (lw_privs_9 ++ (lw_privs_10 ++ (lw_privs_11))))))))))
def lw_tbl : List Cond := k2_sels lw_privs ++ tables_1
theorem lw_privs_ok : ∀ q ∈ lw_privs, lw_okq q := by
  show ∀ q ∈ lw_privs_1 ++ (lw_privs_2 ++ (lw_privs_3 ++ (lw_privs_4 ++ (lw_privs_5 ++ (lw_privs_6 ++ (lw_privs_7 ++ (lw_privs_8 ++ (lw_privs_9 ++ (lw_privs_10 ++ (lw_privs_11)))))))))), lw_okq q
  exact List.forall_mem_append.mpr ⟨lw_r1, List.forall_mem_append.mpr ⟨lw_r2, List.forall_mem_append.mpr ⟨lw_r3, List.forall_mem_append.mpr ⟨lw_r4, List.forall_mem_append.mpr ⟨lw_r5, List.forall_mem_append.mpr ⟨lw_r6, List.forall_mem_append.mpr ⟨lw_r7, List.forall_mem_append.mpr ⟨lw_r8, List.forall_mem_append.mpr ⟨lw_r9, List.forall_mem_append.mpr ⟨lw_r10, lw_r11⟩⟩⟩⟩⟩⟩⟩⟩⟩⟩
def RX0 : String := "SoulRaffle$Gifts"
def TX0 : u_T := fun k => match k with
  | 0 => ("SoulRaffle$Gifts", "known", "Z", false)
  | 1 => ("SoulRaffle$Gifts", "total", "I", false)
  | 2 => ("SoulRaffle$Gifts", "row", "[I", true)
  | _ => ("SoulRaffle$Gifts", "mosts", "[I", true)
def tyX0 : Nat → FieldType := fun k => match k with
  | 0 => .boolean
  | 1 => .int
  | 2 => .array .int
  | _ => .array .int
abbrev wsX00 : List Cond := u_ws RX0 TX0 4
theorem nmX0 : ∀ a, a < 4 → ∀ b, b < 4 → a ≠ b → (TX0 a).2.1 ≠ (TX0 b).2.1 := by decide +kernel
theorem tyX0_ok : ∀ k, k < 4 → parseFieldDescriptor (TX0 k).2.2.1 = some (tyX0 k) := by decide +kernel
abbrev cX0_init : ByteArray := prog_2_method_1_code
def yX0_init : MethodName := ⟨RX0, "<init>", "()V"⟩
abbrev cX0_giveOut : ByteArray := prog_2_method_2_code
def yX0_giveOut : MethodName := ⟨RX0, "giveOut", "(LSoulRaffle$Office;)V"⟩
abbrev cX0_firstBest : ByteArray := prog_2_method_3_code
def yX0_firstBest : MethodName := ⟨RX0, "firstBest", "(LSoulRaffle$Office;II)I"⟩
abbrev cX0_mostBy : ByteArray := prog_2_method_4_code
def yX0_mostBy : MethodName := ⟨RX0, "mostBy", "(LSoulRaffle$Office;III)I"⟩
abbrev cX0_mostWithout : ByteArray := prog_2_method_5_code
def yX0_mostWithout : MethodName := ⟨RX0, "mostWithout", "(LSoulRaffle$Office;I)I"⟩
abbrev cX0_mostFrom : ByteArray := prog_2_method_6_code
def yX0_mostFrom : MethodName := ⟨RX0, "mostFrom", "(LSoulRaffle$Office;IIZ)I"⟩
abbrev cX0_givenTo : ByteArray := prog_2_method_7_code
def yX0_givenTo : MethodName := ⟨RX0, "givenTo", "(I)I"⟩
def RX1 : String := "SoulRaffle$Law"
def TX1 : u_T := fun k => match k with
  | 0 => ("SoulRaffle$Law", "parts", "[I", true)
  | 1 => ("SoulRaffle$Law", "size", "I", false)
  | 2 => ("SoulRaffle$Law", "stack", "[I", true)
  | _ => ("SoulRaffle$Law", "height", "I", false)
def tyX1 : Nat → FieldType := fun k => match k with
  | 0 => .array .int
  | 1 => .int
  | 2 => .array .int
  | _ => .int
abbrev wsX10 : List Cond := u_ws RX1 TX1 4
theorem nmX1 : ∀ a, a < 4 → ∀ b, b < 4 → a ≠ b → (TX1 a).2.1 ≠ (TX1 b).2.1 := by decide +kernel
theorem tyX1_ok : ∀ k, k < 4 → parseFieldDescriptor (TX1 k).2.2.1 = some (tyX1 k) := by decide +kernel
abbrev cX1_init : ByteArray := prog_3_method_1_code
def yX1_init : MethodName := ⟨RX1, "<init>", "()V"⟩
abbrev cX1_setUsual : ByteArray := prog_3_method_2_code
def yX1_setUsual : MethodName := ⟨RX1, "setUsual", "()V"⟩
abbrev cX1_add : ByteArray := prog_3_method_3_code
def yX1_add : MethodName := ⟨RX1, "add", "(I)V"⟩
abbrev cX1_readLevel : ByteArray := prog_3_method_4_code
def yX1_readLevel : MethodName := ⟨RX1, "readLevel", "(LSoulRaffle$Tokens;II)Z"⟩
abbrev cX1_operatorAt : ByteArray := prog_3_method_5_code
def yX1_operatorAt : MethodName := ⟨RX1, "operatorAt", "(LSoulRaffle$Tokens;I)I"⟩
abbrev cX1_readPart : ByteArray := prog_3_method_6_code
def yX1_readPart : MethodName := ⟨RX1, "readPart", "(LSoulRaffle$Tokens;I)Z"⟩
abbrev cX1_readNot : ByteArray := prog_3_method_7_code
def yX1_readNot : MethodName := ⟨RX1, "readNot", "(LSoulRaffle$Tokens;I)Z"⟩
abbrev cX1_readBrackets : ByteArray := prog_3_method_8_code
def yX1_readBrackets : MethodName := ⟨RX1, "readBrackets", "(LSoulRaffle$Tokens;I)Z"⟩
abbrev cX1_factAt : ByteArray := prog_3_method_9_code
def yX1_factAt : MethodName := ⟨RX1, "factAt", "(LSoulRaffle$Tokens;)I"⟩
abbrev cX1_work : ByteArray := prog_3_method_10_code
def yX1_work : MethodName := ⟨RX1, "work", "(IIII)I"⟩
abbrev cX1_pushOrJoin : ByteArray := prog_3_method_11_code
def yX1_pushOrJoin : MethodName := ⟨RX1, "pushOrJoin", "(I)V"⟩
abbrev cX1_join : ByteArray := prog_3_method_12_code
def yX1_join : MethodName := ⟨RX1, "join", "(III)I"⟩
abbrev cX1_push : ByteArray := prog_3_method_13_code
def yX1_push : MethodName := ⟨RX1, "push", "(I)V"⟩
abbrev cX1_pop : ByteArray := prog_3_method_14_code
def yX1_pop : MethodName := ⟨RX1, "pop", "()I"⟩
def RX2 : String := "SoulRaffle$Office"
def TX2 : u_T := fun k => match k with
  | 0 => ("SoulRaffle$Office", "persons", "I", false)
  | 1 => ("SoulRaffle$Office", "goods", "I", false)
  | 2 => ("SoulRaffle$Office", "personNames", "[J", true)
  | 3 => ("SoulRaffle$Office", "goodNames", "[J", true)
  | 4 => ("SoulRaffle$Office", "kinds", "[I", true)
  | 5 => ("SoulRaffle$Office", "coins", "[I", true)
  | 6 => ("SoulRaffle$Office", "worths", "[I", true)
  | 7 => ("SoulRaffle$Office", "owners", "[I", true)
  | 8 => ("SoulRaffle$Office", "likes", "[I", true)
  | 9 => ("SoulRaffle$Office", "seed", "I", false)
  | 10 => ("SoulRaffle$Office", "seedTold", "Z", false)
  | 11 => ("SoulRaffle$Office", "lawTold", "Z", false)
  | 12 => ("SoulRaffle$Office", "law", "LSoulRaffle$Law;", true)
  | _ => ("SoulRaffle$Office", "fits", "[I", true)
def tyX2 : Nat → FieldType := fun k => match k with
  | 0 => .int
  | 1 => .int
  | 2 => .array .long
  | 3 => .array .long
  | 4 => .array .int
  | 5 => .array .int
  | 6 => .array .int
  | 7 => .array .int
  | 8 => .array .int
  | 9 => .int
  | 10 => .boolean
  | 11 => .boolean
  | 12 => .object "SoulRaffle$Law"
  | _ => .array .int
abbrev wsX20 : List Cond := u_ws RX2 TX2 14
theorem nmX2 : ∀ a, a < 14 → ∀ b, b < 14 → a ≠ b → (TX2 a).2.1 ≠ (TX2 b).2.1 := by decide +kernel
theorem tyX2_ok : ∀ k, k < 14 → parseFieldDescriptor (TX2 k).2.2.1 = some (tyX2 k) := by decide +kernel
abbrev cX2_init : ByteArray := prog_4_method_1_code
def yX2_init : MethodName := ⟨RX2, "<init>", "()V"⟩
abbrev cX2_readLines : ByteArray := prog_4_method_2_code
def yX2_readLines : MethodName := ⟨RX2, "readLines", "(LSoulRaffle$Tokens;)I"⟩
abbrev cX2_clear : ByteArray := prog_4_method_3_code
def yX2_clear : MethodName := ⟨RX2, "clear", "()V"⟩
abbrev cX2_readLine : ByteArray := prog_4_method_4_code
def yX2_readLine : MethodName := ⟨RX2, "readLine", "(LSoulRaffle$Tokens;)Z"⟩
abbrev cX2_readPerson : ByteArray := prog_4_method_5_code
def yX2_readPerson : MethodName := ⟨RX2, "readPerson", "(LSoulRaffle$Tokens;)Z"⟩
abbrev cX2_addPerson : ByteArray := prog_4_method_6_code
def yX2_addPerson : MethodName := ⟨RX2, "addPerson", "(JII)V"⟩
abbrev cX2_readGood : ByteArray := prog_4_method_7_code
def yX2_readGood : MethodName := ⟨RX2, "readGood", "(LSoulRaffle$Tokens;)Z"⟩
abbrev cX2_addGood : ByteArray := prog_4_method_8_code
def yX2_addGood : MethodName := ⟨RX2, "addGood", "(JII)V"⟩
abbrev cX2_isNewName : ByteArray := prog_4_method_9_code
def yX2_isNewName : MethodName := ⟨RX2, "isNewName", "(LSoulRaffle$Tokens;)Z"⟩
abbrev cX2_kindAt : ByteArray := prog_4_method_10_code
def yX2_kindAt : MethodName := ⟨RX2, "kindAt", "(LSoulRaffle$Tokens;)I"⟩
abbrev cX2_readLikes : ByteArray := prog_4_method_11_code
def yX2_readLikes : MethodName := ⟨RX2, "readLikes", "(LSoulRaffle$Tokens;)Z"⟩
abbrev cX2_readSeed : ByteArray := prog_4_method_12_code
def yX2_readSeed : MethodName := ⟨RX2, "readSeed", "(LSoulRaffle$Tokens;)Z"⟩
abbrev cX2_readFits : ByteArray := prog_4_method_13_code
def yX2_readFits : MethodName := ⟨RX2, "readFits", "(LSoulRaffle$Tokens;)Z"⟩
abbrev cX2_workOutFits : ByteArray := prog_4_method_14_code
def yX2_workOutFits : MethodName := ⟨RX2, "workOutFits", "()V"⟩
abbrev cX2_fitIndex : ByteArray := prog_4_method_15_code
def yX2_fitIndex : MethodName := ⟨RX2, "fitIndex", "(III)I"⟩
abbrev cX2_fitBy : ByteArray := prog_4_method_16_code
def yX2_fitBy : MethodName := ⟨RX2, "fitBy", "(III)I"⟩
abbrev cX2_likeOf : ByteArray := prog_4_method_17_code
def yX2_likeOf : MethodName := ⟨RX2, "likeOf", "(II)I"⟩
abbrev cX2_hasPerson : ByteArray := prog_4_method_18_code
def yX2_hasPerson : MethodName := ⟨RX2, "hasPerson", "(I)Z"⟩
abbrev cX2_hasGood : ByteArray := prog_4_method_19_code
def yX2_hasGood : MethodName := ⟨RX2, "hasGood", "(I)Z"⟩
abbrev cX2_kindOf : ByteArray := prog_4_method_20_code
def yX2_kindOf : MethodName := ⟨RX2, "kindOf", "(I)I"⟩
abbrev cX2_worthOf : ByteArray := prog_4_method_21_code
def yX2_worthOf : MethodName := ⟨RX2, "worthOf", "(I)I"⟩
abbrev cX2_ownerOf : ByteArray := prog_4_method_22_code
def yX2_ownerOf : MethodName := ⟨RX2, "ownerOf", "(I)I"⟩
abbrev cX2_allGoods : ByteArray := prog_4_method_23_code
def yX2_allGoods : MethodName := ⟨RX2, "allGoods", "()I"⟩
def RX3 : String := "SoulRaffle$Rings"
def TX3 : u_T := fun k => match k with
  | 0 => ("SoulRaffle$Rings", "puts", "[I", true)
  | 1 => ("SoulRaffle$Rings", "pointed", "[I", true)
  | 2 => ("SoulRaffle$Rings", "got", "[I", true)
  | _ => ("SoulRaffle$Rings", "passed", "I", false)
def tyX3 : Nat → FieldType := fun k => match k with
  | 0 => .array .int
  | 1 => .array .int
  | 2 => .array .int
  | _ => .int
abbrev wsX30 : List Cond := u_ws RX3 TX3 4
theorem nmX3 : ∀ a, a < 4 → ∀ b, b < 4 → a ≠ b → (TX3 a).2.1 ≠ (TX3 b).2.1 := by decide +kernel
theorem tyX3_ok : ∀ k, k < 4 → parseFieldDescriptor (TX3 k).2.2.1 = some (tyX3 k) := by decide +kernel
abbrev cX3_init : ByteArray := prog_5_method_1_code
def yX3_init : MethodName := ⟨RX3, "<init>", "()V"⟩
abbrev cX3_trade : ByteArray := prog_5_method_2_code
def yX3_trade : MethodName := ⟨RX3, "trade", "(LSoulRaffle$Office;LSoulRaffle$Standing;)V"⟩
abbrev cX3_putIn : ByteArray := prog_5_method_3_code
def yX3_putIn : MethodName := ⟨RX3, "putIn", "(LSoulRaffle$Office;LSoulRaffle$Standing;)I"⟩
abbrev cX3_pointsTo : ByteArray := prog_5_method_4_code
def yX3_pointsTo : MethodName := ⟨RX3, "pointsTo", "(LSoulRaffle$Office;LSoulRaffle$Standing;II)I"⟩
abbrev cX3_handOut : ByteArray := prog_5_method_5_code
def yX3_handOut : MethodName := ⟨RX3, "handOut", "(LSoulRaffle$Office;I)I"⟩
abbrev cX3_comesRound : ByteArray := prog_5_method_6_code
def yX3_comesRound : MethodName := ⟨RX3, "comesRound", "(I)Z"⟩
abbrev cX3_gotBy : ByteArray := prog_5_method_7_code
def yX3_gotBy : MethodName := ⟨RX3, "gotBy", "(I)I"⟩
def RX4 : String := "SoulRaffle$Seen"
def TX4 : u_T := fun k => match k with
  | 0 => ("SoulRaffle$Seen", "goods", "[I", true)
  | 1 => ("SoulRaffle$Seen", "muches", "[I", true)
  | 2 => ("SoulRaffle$Seen", "sos", "[Z", true)
  | _ => ("SoulRaffle$Seen", "size", "I", false)
def tyX4 : Nat → FieldType := fun k => match k with
  | 0 => .array .int
  | 1 => .array .int
  | 2 => .array .boolean
  | _ => .int
abbrev wsX40 : List Cond := u_ws RX4 TX4 4
theorem nmX4 : ∀ a, a < 4 → ∀ b, b < 4 → a ≠ b → (TX4 a).2.1 ≠ (TX4 b).2.1 := by decide +kernel
theorem tyX4_ok : ∀ k, k < 4 → parseFieldDescriptor (TX4 k).2.2.1 = some (tyX4 k) := by decide +kernel
abbrev cX4_init : ByteArray := prog_6_method_1_code
def yX4_init : MethodName := ⟨RX4, "<init>", "()V"⟩
abbrev cX4_add : ByteArray := prog_6_method_2_code
def yX4_add : MethodName := ⟨RX4, "add", "(IIZ)Z"⟩
abbrev cX4_copyOf : ByteArray := prog_6_method_3_code
def yX4_copyOf : MethodName := ⟨RX4, "copyOf", "(LSoulRaffle$Seen;)V"⟩
abbrev cX4_whoBits : ByteArray := prog_6_method_4_code
def yX4_whoBits : MethodName := ⟨RX4, "whoBits", "(LSoulRaffle$Office;)I"⟩
abbrev cX4_allIsSo : ByteArray := prog_6_method_5_code
def yX4_allIsSo : MethodName := ⟨RX4, "allIsSo", "(LSoulRaffle$Office;I)Z"⟩
def RX5 : String := "SoulRaffle$Standing"
def TX5 : u_T := fun k => match k with
  | 0 => ("SoulRaffle$Standing", "holders", "[I", true)
  | 1 => ("SoulRaffle$Standing", "shillings", "[I", true)
  | 2 => ("SoulRaffle$Standing", "tickets", "[I", true)
  | 3 => ("SoulRaffle$Standing", "drawn", "J", false)
  | _ => ("SoulRaffle$Standing", "quarters", "I", false)
def tyX5 : Nat → FieldType := fun k => match k with
  | 0 => .array .int
  | 1 => .array .int
  | 2 => .array .int
  | 3 => .long
  | _ => .int
abbrev wsX50 : List Cond := u_ws RX5 TX5 5
theorem nmX5 : ∀ a, a < 5 → ∀ b, b < 5 → a ≠ b → (TX5 a).2.1 ≠ (TX5 b).2.1 := by decide +kernel
theorem tyX5_ok : ∀ k, k < 5 → parseFieldDescriptor (TX5 k).2.2.1 = some (tyX5 k) := by decide +kernel
abbrev cX5_init : ByteArray := prog_7_method_1_code
def yX5_init : MethodName := ⟨RX5, "<init>", "()V"⟩
abbrev cX5_startOf : ByteArray := prog_7_method_2_code
def yX5_startOf : MethodName := ⟨RX5, "startOf", "(LSoulRaffle$Office;)V"⟩
abbrev cX5_copyOf : ByteArray := prog_7_method_3_code
def yX5_copyOf : MethodName := ⟨RX5, "copyOf", "(LSoulRaffle$Standing;)V"⟩
abbrev cX5_holderOf : ByteArray := prog_7_method_4_code
def yX5_holderOf : MethodName := ⟨RX5, "holderOf", "(I)I"⟩
abbrev cX5_place : ByteArray := prog_7_method_5_code
def yX5_place : MethodName := ⟨RX5, "place", "(II)V"⟩
abbrev cX5_shillingsOf : ByteArray := prog_7_method_6_code
def yX5_shillingsOf : MethodName := ⟨RX5, "shillingsOf", "(I)I"⟩
abbrev cX5_ticketsOf : ByteArray := prog_7_method_7_code
def yX5_ticketsOf : MethodName := ⟨RX5, "ticketsOf", "(I)I"⟩
abbrev cX5_allTickets : ByteArray := prog_7_method_8_code
def yX5_allTickets : MethodName := ⟨RX5, "allTickets", "()I"⟩
abbrev cX5_allShillings : ByteArray := prog_7_method_9_code
def yX5_allShillings : MethodName := ⟨RX5, "allShillings", "()I"⟩
abbrev cX5_bitsOf : ByteArray := prog_7_method_10_code
def yX5_bitsOf : MethodName := ⟨RX5, "bitsOf", "(I)I"⟩
abbrev cX5_firstOf : ByteArray := prog_7_method_11_code
def yX5_firstOf : MethodName := ⟨RX5, "firstOf", "(I)I"⟩
abbrev cX5_heldBits : ByteArray := prog_7_method_12_code
def yX5_heldBits : MethodName := ⟨RX5, "heldBits", "(LSoulRaffle$Office;)I"⟩
abbrev cX5_rightBits : ByteArray := prog_7_method_13_code
def yX5_rightBits : MethodName := ⟨RX5, "rightBits", "(LSoulRaffle$Office;)I"⟩
abbrev cX5_fitOf : ByteArray := prog_7_method_14_code
def yX5_fitOf : MethodName := ⟨RX5, "fitOf", "(LSoulRaffle$Office;II)I"⟩
abbrev cX5_joyOf : ByteArray := prog_7_method_15_code
def yX5_joyOf : MethodName := ⟨RX5, "joyOf", "(LSoulRaffle$Office;I)I"⟩
abbrev cX5_fitOfAll : ByteArray := prog_7_method_16_code
def yX5_fitOfAll : MethodName := ⟨RX5, "fitOfAll", "(LSoulRaffle$Office;II)I"⟩
abbrev cX5_joyOfAll : ByteArray := prog_7_method_17_code
def yX5_joyOfAll : MethodName := ⟨RX5, "joyOfAll", "(LSoulRaffle$Office;)I"⟩
abbrev cX5_canBuy : ByteArray := prog_7_method_18_code
def yX5_canBuy : MethodName := ⟨RX5, "canBuy", "(I)Z"⟩
abbrev cX5_takeTicket : ByteArray := prog_7_method_19_code
def yX5_takeTicket : MethodName := ⟨RX5, "takeTicket", "(I)V"⟩
abbrev cX5_canTrade : ByteArray := prog_7_method_20_code
def yX5_canTrade : MethodName := ⟨RX5, "canTrade", "(LSoulRaffle$Office;II)Z"⟩
abbrev cX5_gainsBy : ByteArray := prog_7_method_21_code
def yX5_gainsBy : MethodName := ⟨RX5, "gainsBy", "(LSoulRaffle$Office;III)Z"⟩
abbrev cX5_trade : ByteArray := prog_7_method_22_code
def yX5_trade : MethodName := ⟨RX5, "trade", "(II)V"⟩
abbrev cX5_draw : ByteArray := prog_7_method_23_code
def yX5_draw : MethodName := ⟨RX5, "draw", "(I)I"⟩
abbrev cX5_passQuarter : ByteArray := prog_7_method_24_code
def yX5_passQuarter : MethodName := ⟨RX5, "passQuarter", "(LSoulRaffle$Office;)I"⟩
abbrev cX5_raffle : ByteArray := prog_7_method_25_code
def yX5_raffle : MethodName := ⟨RX5, "raffle", "(LSoulRaffle$Office;)I"⟩
abbrev cX5_holderOfTicket : ByteArray := prog_7_method_26_code
def yX5_holderOfTicket : MethodName := ⟨RX5, "holderOfTicket", "(I)I"⟩
abbrev cX5_settle : ByteArray := prog_7_method_27_code
def yX5_settle : MethodName := ⟨RX5, "settle", "(LSoulRaffle$Office;I)V"⟩
abbrev cX5_tryLuck : ByteArray := prog_7_method_28_code
def yX5_tryLuck : MethodName := ⟨RX5, "tryLuck", "(LSoulRaffle$Office;)V"⟩
def RX6 : String := "SoulRaffle$Tokens"
def TX6 : u_T := fun k => match k with
  | 0 => ("SoulRaffle$Tokens", "tape", "[C", true)
  | 1 => ("SoulRaffle$Tokens", "signs", "I", false)
  | 2 => ("SoulRaffle$Tokens", "kinds", "[I", true)
  | 3 => ("SoulRaffle$Tokens", "places", "[I", true)
  | 4 => ("SoulRaffle$Tokens", "values", "[J", true)
  | 5 => ("SoulRaffle$Tokens", "size", "I", false)
  | 6 => ("SoulRaffle$Tokens", "current", "I", false)
  | 7 => ("SoulRaffle$Tokens", "kind", "I", false)
  | 8 => ("SoulRaffle$Tokens", "place", "I", false)
  | 9 => ("SoulRaffle$Tokens", "value", "J", false)
  | _ => ("SoulRaffle$Tokens", "fault", "I", false)
def tyX6 : Nat → FieldType := fun k => match k with
  | 0 => .array .char
  | 1 => .int
  | 2 => .array .int
  | 3 => .array .int
  | 4 => .array .long
  | 5 => .int
  | 6 => .int
  | 7 => .int
  | 8 => .int
  | 9 => .long
  | _ => .int
abbrev wsX60 : List Cond := u_ws RX6 TX6 11
theorem nmX6 : ∀ a, a < 11 → ∀ b, b < 11 → a ≠ b → (TX6 a).2.1 ≠ (TX6 b).2.1 := by decide +kernel
theorem tyX6_ok : ∀ k, k < 11 → parseFieldDescriptor (TX6 k).2.2.1 = some (tyX6 k) := by decide +kernel
abbrev cX6_init : ByteArray := prog_8_method_1_code
def yX6_init : MethodName := ⟨RX6, "<init>", "()V"⟩
abbrev cX6_takeBytes : ByteArray := prog_8_method_2_code
def yX6_takeBytes : MethodName := ⟨RX6, "takeBytes", "(J)V"⟩
abbrev cX6_split : ByteArray := prog_8_method_3_code
def yX6_split : MethodName := ⟨RX6, "split", "()V"⟩
abbrev cX6_scan : ByteArray := prog_8_method_4_code
def yX6_scan : MethodName := ⟨RX6, "scan", "(I)I"⟩
abbrev cX6_scanWord : ByteArray := prog_8_method_5_code
def yX6_scanWord : MethodName := ⟨RX6, "scanWord", "(I)I"⟩
abbrev cX6_scanNumber : ByteArray := prog_8_method_6_code
def yX6_scanNumber : MethodName := ⟨RX6, "scanNumber", "(I)I"⟩
abbrev cX6_add : ByteArray := prog_8_method_7_code
def yX6_add : MethodName := ⟨RX6, "add", "(IIJ)V"⟩
abbrev cX6_signAt : ByteArray := prog_8_method_8_code
def yX6_signAt : MethodName := ⟨RX6, "signAt", "(I)C"⟩
abbrev cX6_isLetter : ByteArray := prog_8_method_9_code
def yX6_isLetter : MethodName := ⟨RX6, "isLetter", "(C)Z"⟩
abbrev cX6_isDigit : ByteArray := prog_8_method_10_code
def yX6_isDigit : MethodName := ⟨RX6, "isDigit", "(C)Z"⟩
abbrev cX6_step : ByteArray := prog_8_method_11_code
def yX6_step : MethodName := ⟨RX6, "step", "()V"⟩
abbrev cX6_isWord : ByteArray := prog_8_method_12_code
def yX6_isWord : MethodName := ⟨RX6, "isWord", "(LSoulRaffle$Word;)Z"⟩
abbrev cX6_isSign : ByteArray := prog_8_method_13_code
def yX6_isSign : MethodName := ⟨RX6, "isSign", "(C)Z"⟩
abbrev cX6_isName : ByteArray := prog_8_method_14_code
def yX6_isName : MethodName := ⟨RX6, "isName", "()Z"⟩
abbrev cX6_fail : ByteArray := prog_8_method_15_code
def yX6_fail : MethodName := ⟨RX6, "fail", "(I)Z"⟩
abbrev cX6_takeWord : ByteArray := prog_8_method_16_code
def yX6_takeWord : MethodName := ⟨RX6, "takeWord", "(LSoulRaffle$Word;)Z"⟩
abbrev cX6_takeEnd : ByteArray := prog_8_method_17_code
def yX6_takeEnd : MethodName := ⟨RX6, "takeEnd", "()Z"⟩
abbrev cX6_takeNumber : ByteArray := prog_8_method_18_code
def yX6_takeNumber : MethodName := ⟨RX6, "takeNumber", "(II)I"⟩
abbrev cX6_takeToldName : ByteArray := prog_8_method_19_code
def yX6_takeToldName : MethodName := ⟨RX6, "takeToldName", "([JI)I"⟩
def RX7 : String := "SoulRaffle$Word"
def TX7 : u_T := fun k => match k with
  | _ => ("", "", "", false)
def tyX7 : Nat → FieldType := fun k => match k with
  | _ => .int
abbrev wsX70 : List Cond := u_ws RX7 TX7 0
theorem nmX7 : ∀ a, a < 0 → ∀ b, b < 0 → a ≠ b → (TX7 a).2.1 ≠ (TX7 b).2.1 := by decide +kernel
theorem tyX7_ok : ∀ k, k < 0 → parseFieldDescriptor (TX7 k).2.2.1 = some (tyX7 k) := by decide +kernel
def RX8 : String := "SoulRaffle$Year"
def TX8 : u_T := fun k => match k with
  | 0 => ("SoulRaffle$Year", "lines", "I", false)
  | 1 => ("SoulRaffle$Year", "deeds", "[I", true)
  | 2 => ("SoulRaffle$Year", "firsts", "[I", true)
  | _ => ("SoulRaffle$Year", "seconds", "[I", true)
def tyX8 : Nat → FieldType := fun k => match k with
  | 0 => .int
  | 1 => .array .int
  | 2 => .array .int
  | _ => .array .int
abbrev wsX80 : List Cond := u_ws RX8 TX8 4
theorem nmX8 : ∀ a, a < 4 → ∀ b, b < 4 → a ≠ b → (TX8 a).2.1 ≠ (TX8 b).2.1 := by decide +kernel
theorem tyX8_ok : ∀ k, k < 4 → parseFieldDescriptor (TX8 k).2.2.1 = some (tyX8 k) := by decide +kernel
abbrev cX8_init : ByteArray := prog_10_method_1_code
def yX8_init : MethodName := ⟨RX8, "<init>", "()V"⟩
abbrev cX8_readLines : ByteArray := prog_10_method_2_code
def yX8_readLines : MethodName := ⟨RX8, "readLines", "(LSoulRaffle$Tokens;LSoulRaffle$Office;)I"⟩
abbrev cX8_readLine : ByteArray := prog_10_method_3_code
def yX8_readLine : MethodName := ⟨RX8, "readLine", "(LSoulRaffle$Tokens;LSoulRaffle$Office;)Z"⟩
abbrev cX8_deedAt : ByteArray := prog_10_method_4_code
def yX8_deedAt : MethodName := ⟨RX8, "deedAt", "(LSoulRaffle$Tokens;)I"⟩
abbrev cX8_readNames : ByteArray := prog_10_method_5_code
def yX8_readNames : MethodName := ⟨RX8, "readNames", "(LSoulRaffle$Tokens;LSoulRaffle$Office;I)Z"⟩
abbrev cX8_doLine : ByteArray := prog_10_method_6_code
def yX8_doLine : MethodName := ⟨RX8, "doLine", "(ILSoulRaffle$Office;LSoulRaffle$Standing;)Z"⟩
def RX9 : String := "SoulRaffle"
def TX9 : u_T := fun k => match k with
  | 0 => ("SoulRaffle", "tokens", "LSoulRaffle$Tokens;", true)
  | 1 => ("SoulRaffle", "told", "LSoulRaffle$Office;", false)
  | 2 => ("SoulRaffle", "spareOffice", "LSoulRaffle$Office;", false)
  | 3 => ("SoulRaffle", "toldYear", "LSoulRaffle$Year;", false)
  | 4 => ("SoulRaffle", "spareYear", "LSoulRaffle$Year;", false)
  | 5 => ("SoulRaffle", "now", "LSoulRaffle$Standing;", true)
  | 6 => ("SoulRaffle", "trial", "LSoulRaffle$Standing;", true)
  | 7 => ("SoulRaffle", "seen", "LSoulRaffle$Seen;", true)
  | 8 => ("SoulRaffle", "past", "[LSoulRaffle$Standing;", true)
  | 9 => ("SoulRaffle", "newest", "I", false)
  | 10 => ("SoulRaffle", "undoable", "I", false)
  | 11 => ("SoulRaffle", "markStandings", "[LSoulRaffle$Standing;", true)
  | 12 => ("SoulRaffle", "markSeens", "[LSoulRaffle$Seen;", true)
  | 13 => ("SoulRaffle", "markLaid", "[Z", true)
  | 14 => ("SoulRaffle", "rings", "LSoulRaffle$Rings;", true)
  | _ => ("SoulRaffle", "gifts", "LSoulRaffle$Gifts;", true)
def tyX9 : Nat → FieldType := fun k => match k with
  | 0 => .object "SoulRaffle$Tokens"
  | 1 => .object "SoulRaffle$Office"
  | 2 => .object "SoulRaffle$Office"
  | 3 => .object "SoulRaffle$Year"
  | 4 => .object "SoulRaffle$Year"
  | 5 => .object "SoulRaffle$Standing"
  | 6 => .object "SoulRaffle$Standing"
  | 7 => .object "SoulRaffle$Seen"
  | 8 => .array (.object "SoulRaffle$Standing")
  | 9 => .int
  | 10 => .int
  | 11 => .array (.object "SoulRaffle$Standing")
  | 12 => .array (.object "SoulRaffle$Seen")
  | 13 => .array .boolean
  | 14 => .object "SoulRaffle$Rings"
  | _ => .object "SoulRaffle$Gifts"
abbrev wsX90 : List Cond := u_ws RX9 TX9 16
theorem nmX9 : ∀ a, a < 16 → ∀ b, b < 16 → a ≠ b → (TX9 a).2.1 ≠ (TX9 b).2.1 := by decide +kernel
theorem tyX9_ok : ∀ k, k < 16 → parseFieldDescriptor (TX9 k).2.2.1 = some (tyX9 k) := by decide +kernel
abbrev cX9_init : ByteArray := prog_1_method_1_code
def yX9_init : MethodName := ⟨RX9, "<init>", "()V"⟩
abbrev cX9_feed : ByteArray := prog_1_method_2_code
def yX9_feed : MethodName := ⟨RX9, "feed", "(JJJ)I"⟩
abbrev cX9_office : ByteArray := prog_1_method_3_code
def yX9_office : MethodName := ⟨RX9, "office", "()I"⟩
abbrev cX9_openOffice : ByteArray := prog_1_method_4_code
def yX9_openOffice : MethodName := ⟨RX9, "openOffice", "()V"⟩
abbrev cX9_year : ByteArray := prog_1_method_5_code
def yX9_year : MethodName := ⟨RX9, "year", "()I"⟩
abbrev cX9_person : ByteArray := prog_1_method_6_code
def yX9_person : MethodName := ⟨RX9, "person", "(II)I"⟩
abbrev cX9_good : ByteArray := prog_1_method_7_code
def yX9_good : MethodName := ⟨RX9, "good", "(II)I"⟩
abbrev cX9_fit : ByteArray := prog_1_method_8_code
def yX9_fit : MethodName := ⟨RX9, "fit", "(II)I"⟩
abbrev cX9_buy : ByteArray := prog_1_method_9_code
def yX9_buy : MethodName := ⟨RX9, "buy", "(I)I"⟩
abbrev cX9_swap : ByteArray := prog_1_method_10_code
def yX9_swap : MethodName := ⟨RX9, "swap", "(II)Z"⟩
abbrev cX9_bring : ByteArray := prog_1_method_11_code
def yX9_bring : MethodName := ⟨RX9, "bring", "(I)I"⟩
abbrev cX9_quarter : ByteArray := prog_1_method_12_code
def yX9_quarter : MethodName := ⟨RX9, "quarter", "()I"⟩
abbrev cX9_remember : ByteArray := prog_1_method_13_code
def yX9_remember : MethodName := ⟨RX9, "remember", "()V"⟩
abbrev cX9_undo : ByteArray := prog_1_method_14_code
def yX9_undo : MethodName := ⟨RX9, "undo", "()Z"⟩
abbrev cX9_judged : ByteArray := prog_1_method_15_code
def yX9_judged : MethodName := ⟨RX9, "judged", "(I)I"⟩
abbrev cX9_winner : ByteArray := prog_1_method_16_code
def yX9_winner : MethodName := ⟨RX9, "winner", "(I)I"⟩
abbrev cX9_where : ByteArray := prog_1_method_17_code
def yX9_where : MethodName := ⟨RX9, "where", "(II)I"⟩
abbrev cX9_has : ByteArray := prog_1_method_18_code
def yX9_has : MethodName := ⟨RX9, "has", "(II)I"⟩
abbrev cX9_home : ByteArray := prog_1_method_19_code
def yX9_home : MethodName := ⟨RX9, "home", "()I"⟩
abbrev cX9_empty : ByteArray := prog_1_method_20_code
def yX9_empty : MethodName := ⟨RX9, "empty", "()I"⟩
abbrev cX9_won : ByteArray := prog_1_method_21_code
def yX9_won : MethodName := ⟨RX9, "won", "(II)I"⟩
abbrev cX9_streak : ByteArray := prog_1_method_22_code
def yX9_streak : MethodName := ⟨RX9, "streak", "(II)I"⟩
abbrev cX9_moves : ByteArray := prog_1_method_23_code
def yX9_moves : MethodName := ⟨RX9, "moves", "(I)I"⟩
abbrev cX9_least : ByteArray := prog_1_method_24_code
def yX9_least : MethodName := ⟨RX9, "least", "()I"⟩
abbrev cX9_rights : ByteArray := prog_1_method_25_code
def yX9_rights : MethodName := ⟨RX9, "rights", "()I"⟩
abbrev cX9_joy : ByteArray := prog_1_method_26_code
def yX9_joy : MethodName := ⟨RX9, "joy", "(I)I"⟩
abbrev cX9_envy : ByteArray := prog_1_method_27_code
def yX9_envy : MethodName := ⟨RX9, "envy", "(I)I"⟩
abbrev cX9_offers : ByteArray := prog_1_method_28_code
def yX9_offers : MethodName := ⟨RX9, "offers", "(I)I"⟩
abbrev cX9_want : ByteArray := prog_1_method_29_code
def yX9_want : MethodName := ⟨RX9, "want", "(I)I"⟩
abbrev cX9_fans : ByteArray := prog_1_method_30_code
def yX9_fans : MethodName := ⟨RX9, "fans", "(I)I"⟩
abbrev cX9_dull : ByteArray := prog_1_method_31_code
def yX9_dull : MethodName := ⟨RX9, "dull", "()I"⟩
abbrev cX9_fanBits : ByteArray := prog_1_method_32_code
def yX9_fanBits : MethodName := ⟨RX9, "fanBits", "(I)I"⟩
abbrev cX9_isFan : ByteArray := prog_1_method_33_code
def yX9_isFan : MethodName := ⟨RX9, "isFan", "(II)Z"⟩
abbrev cX9_gets : ByteArray := prog_1_method_34_code
def yX9_gets : MethodName := ⟨RX9, "gets", "(I)I"⟩
abbrev cX9_rounds : ByteArray := prog_1_method_35_code
def yX9_rounds : MethodName := ⟨RX9, "rounds", "()I"⟩
abbrev cX9_best : ByteArray := prog_1_method_36_code
def yX9_best : MethodName := ⟨RX9, "best", "(I)I"⟩
abbrev cX9_owes : ByteArray := prog_1_method_37_code
def yX9_owes : MethodName := ⟨RX9, "owes", "(I)I"⟩
abbrev cX9_spare : ByteArray := prog_1_method_38_code
def yX9_spare : MethodName := ⟨RX9, "spare", "()I"⟩
abbrev cX9_odds : ByteArray := prog_1_method_39_code
def yX9_odds : MethodName := ⟨RX9, "odds", "(II)I"⟩
abbrev cX9_enough : ByteArray := prog_1_method_40_code
def yX9_enough : MethodName := ⟨RX9, "enough", "(II)I"⟩
abbrev cX9_run : ByteArray := prog_1_method_41_code
def yX9_run : MethodName := ⟨RX9, "run", "(I)I"⟩
abbrev cX9_see : ByteArray := prog_1_method_42_code
def yX9_see : MethodName := ⟨RX9, "see", "(IIZ)Z"⟩
abbrev cX9_who : ByteArray := prog_1_method_43_code
def yX9_who : MethodName := ⟨RX9, "who", "()I"⟩
abbrev cX9_ask : ByteArray := prog_1_method_44_code
def yX9_ask : MethodName := ⟨RX9, "ask", "()I"⟩
abbrev cX9_leftByAsking : ByteArray := prog_1_method_45_code
def yX9_leftByAsking : MethodName := ⟨RX9, "leftByAsking", "(III)I"⟩
abbrev cX9_rich : ByteArray := prog_1_method_46_code
def yX9_rich : MethodName := ⟨RX9, "rich", "()I"⟩
abbrev cX9_sad : ByteArray := prog_1_method_47_code
def yX9_sad : MethodName := ⟨RX9, "sad", "()I"⟩
abbrev cX9_lack : ByteArray := prog_1_method_48_code
def yX9_lack : MethodName := ⟨RX9, "lack", "(I)I"⟩
abbrev cX9_debt : ByteArray := prog_1_method_49_code
def yX9_debt : MethodName := ⟨RX9, "debt", "()I"⟩
abbrev cX9_poor : ByteArray := prog_1_method_50_code
def yX9_poor : MethodName := ⟨RX9, "poor", "()I"⟩
abbrev cX9_rests : ByteArray := prog_1_method_51_code
def yX9_rests : MethodName := ⟨RX9, "rests", "(IIII)I"⟩
abbrev cX9_isBargain : ByteArray := prog_1_method_52_code
def yX9_isBargain : MethodName := ⟨RX9, "isBargain", "(I)Z"⟩
abbrev cX9_isRest : ByteArray := prog_1_method_53_code
def yX9_isRest : MethodName := ⟨RX9, "isRest", "(IIII)Z"⟩
abbrev cX9_bargained : ByteArray := prog_1_method_54_code
def yX9_bargained : MethodName := ⟨RX9, "bargained", "(IIIII)I"⟩
abbrev cX9_luck : ByteArray := prog_1_method_55_code
def yX9_luck : MethodName := ⟨RX9, "luck", "(III)I"⟩
abbrev cX9_mark : ByteArray := prog_1_method_56_code
def yX9_mark : MethodName := ⟨RX9, "mark", "(IZ)Z"⟩
abbrev cX9_count : ByteArray := prog_1_method_57_code
def yX9_count : MethodName := ⟨RX9, "count", "(I)I"⟩
abbrev cX9_at : ByteArray := prog_1_method_58_code
def yX9_at : MethodName := ⟨RX9, "at", "([II)I"⟩
abbrev cX9_put : ByteArray := prog_1_method_59_code
def yX9_put : MethodName := ⟨RX9, "put", "([III)V"⟩
abbrev cX9_copy : ByteArray := prog_1_method_60_code
def yX9_copy : MethodName := ⟨RX9, "copy", "([I[I)V"⟩
abbrev cX9_sum : ByteArray := prog_1_method_61_code
def yX9_sum : MethodName := ⟨RX9, "sum", "([I)I"⟩
abbrev cX9_indexOf : ByteArray := prog_1_method_62_code
def yX9_indexOf : MethodName := ⟨RX9, "indexOf", "([JIJ)I"⟩
abbrev cX9_spell : ByteArray := prog_1_method_63_code
def yX9_spell : MethodName := ⟨RX9, "spell", "(JC)J"⟩
def RX10 : String := "SoulRaffleModel"
def TX10 : u_T := fun k => match k with
  | 0 => ("SoulRaffleModel", "thrown", "I", false)
  | 1 => ("SoulRaffleModel", "tape", "[I", true)
  | 2 => ("SoulRaffleModel", "taped", "I", false)
  | 3 => ("SoulRaffleModel", "size", "I", false)
  | 4 => ("SoulRaffleModel", "sort", "[I", true)
  | 5 => ("SoulRaffleModel", "place", "[I", true)
  | 6 => ("SoulRaffleModel", "value", "[J", true)
  | 7 => ("SoulRaffleModel", "at", "I", false)
  | 8 => ("SoulRaffleModel", "fault", "I", false)
  | 9 => ("SoulRaffleModel", "words", "[J", true)
  | 10 => ("SoulRaffleModel", "offices", "[I", true)
  | 11 => ("SoulRaffleModel", "op", "[I", true)
  | 12 => ("SoulRaffleModel", "arg", "[I", true)
  | 13 => ("SoulRaffleModel", "codes", "I", false)
  | 14 => ("SoulRaffleModel", "names", "[J", true)
  | 15 => ("SoulRaffleModel", "readNames", "[J", true)
  | 16 => ("SoulRaffleModel", "nameOf", "[I", true)
  | 17 => ("SoulRaffleModel", "readNameOf", "[I", true)
  | 18 => ("SoulRaffleModel", "namesMany", "I", false)
  | 19 => ("SoulRaffleModel", "readMany", "I", false)
  | 20 => ("SoulRaffleModel", "once", "I", false)
  | 21 => ("SoulRaffleModel", "lines", "[I", true)
  | 22 => ("SoulRaffleModel", "facts", "[I", true)
  | 23 => ("SoulRaffleModel", "pile", "[I", true)
  | 24 => ("SoulRaffleModel", "state", "[I", true)
  | 25 => ("SoulRaffleModel", "undos", "I", false)
  | 26 => ("SoulRaffleModel", "isMarked", "[Z", true)
  | 27 => ("SoulRaffleModel", "puts", "[I", true)
  | 28 => ("SoulRaffleModel", "points", "[I", true)
  | 29 => ("SoulRaffleModel", "gains", "[I", true)
  | 30 => ("SoulRaffleModel", "row", "[I", true)
  | 31 => ("SoulRaffleModel", "bestRow", "[I", true)
  | _ => ("SoulRaffleModel", "mostFit", "I", false)
def tyX10 : Nat → FieldType := fun k => match k with
  | 0 => .int
  | 1 => .array .int
  | 2 => .int
  | 3 => .int
  | 4 => .array .int
  | 5 => .array .int
  | 6 => .array .long
  | 7 => .int
  | 8 => .int
  | 9 => .array .long
  | 10 => .array .int
  | 11 => .array .int
  | 12 => .array .int
  | 13 => .int
  | 14 => .array .long
  | 15 => .array .long
  | 16 => .array .int
  | 17 => .array .int
  | 18 => .int
  | 19 => .int
  | 20 => .int
  | 21 => .array .int
  | 22 => .array .int
  | 23 => .array .int
  | 24 => .array .int
  | 25 => .int
  | 26 => .array .boolean
  | 27 => .array .int
  | 28 => .array .int
  | 29 => .array .int
  | 30 => .array .int
  | 31 => .array .int
  | _ => .int
abbrev wsX100 : List Cond := u_ws RX10 TX10 33
theorem nmX10 : ∀ a, a < 33 → ∀ b, b < 33 → a ≠ b → (TX10 a).2.1 ≠ (TX10 b).2.1 := by decide +kernel
theorem tyX10_ok : ∀ k, k < 33 → parseFieldDescriptor (TX10 k).2.2.1 = some (tyX10 k) := by decide +kernel
abbrev cX10_thrown : ByteArray := prog_12_method_1_code
def yX10_thrown : MethodName := ⟨RX10, "thrown", "()I"⟩
abbrev cX10_feed : ByteArray := prog_12_method_2_code
def yX10_feed : MethodName := ⟨RX10, "feed", "(JJJ)I"⟩
abbrev cX10_lay : ByteArray := prog_12_method_3_code
def yX10_lay : MethodName := ⟨RX10, "lay", "(J)V"⟩
abbrev cX10_init : ByteArray := prog_12_method_4_code
def yX10_init : MethodName := ⟨RX10, "<init>", "()V"⟩
abbrev cX10_isLetter : ByteArray := prog_12_method_5_code
def yX10_isLetter : MethodName := ⟨RX10, "isLetter", "(I)Z"⟩
abbrev cX10_isDigit : ByteArray := prog_12_method_6_code
def yX10_isDigit : MethodName := ⟨RX10, "isDigit", "(I)Z"⟩
abbrev cX10_rank : ByteArray := prog_12_method_7_code
def yX10_rank : MethodName := ⟨RX10, "rank", "(I)I"⟩
abbrev cX10_isSignOf : ByteArray := prog_12_method_8_code
def yX10_isSignOf : MethodName := ⟨RX10, "isSignOf", "(I)Z"⟩
abbrev cX10_cutAll : ByteArray := prog_12_method_9_code
def yX10_cutAll : MethodName := ⟨RX10, "cutAll", "()V"⟩
abbrev cX10_wrong : ByteArray := prog_12_method_10_code
def yX10_wrong : MethodName := ⟨RX10, "wrong", "(I)V"⟩
abbrev cX10_isSign : ByteArray := prog_12_method_11_code
def yX10_isSign : MethodName := ⟨RX10, "isSign", "(I)Z"⟩
abbrev cX10_isWord : ByteArray := prog_12_method_12_code
def yX10_isWord : MethodName := ⟨RX10, "isWord", "(I)Z"⟩
abbrev cX10_takeSign : ByteArray := prog_12_method_13_code
def yX10_takeSign : MethodName := ⟨RX10, "takeSign", "(I)V"⟩
abbrev cX10_hasSign : ByteArray := prog_12_method_14_code
def yX10_hasSign : MethodName := ⟨RX10, "hasSign", "(I)Z"⟩
abbrev cX10_hasWord : ByteArray := prog_12_method_15_code
def yX10_hasWord : MethodName := ⟨RX10, "hasWord", "(I)Z"⟩
abbrev cX10_takeWord : ByteArray := prog_12_method_16_code
def yX10_takeWord : MethodName := ⟨RX10, "takeWord", "(I)V"⟩
abbrev cX10_within : ByteArray := prog_12_method_17_code
def yX10_within : MethodName := ⟨RX10, "within", "(III)Z"⟩
abbrev cX10_standsAsAlways : ByteArray := prog_12_method_18_code
def yX10_standsAsAlways : MethodName := ⟨RX10, "standsAsAlways", "(I)V"⟩
abbrev cX10_takeNumber : ByteArray := prog_12_method_19_code
def yX10_takeNumber : MethodName := ⟨RX10, "takeNumber", "(II)I"⟩
abbrev cX10_takeAfter : ByteArray := prog_12_method_20_code
def yX10_takeAfter : MethodName := ⟨RX10, "takeAfter", "(III)I"⟩
abbrev cX10_wordHere : ByteArray := prog_12_method_21_code
def yX10_wordHere : MethodName := ⟨RX10, "wordHere", "(II)I"⟩
abbrev cX10_takeOne : ByteArray := prog_12_method_22_code
def yX10_takeOne : MethodName := ⟨RX10, "takeOne", "(II)I"⟩
abbrev cX10_isName : ByteArray := prog_12_method_23_code
def yX10_isName : MethodName := ⟨RX10, "isName", "()Z"⟩
abbrev cX10_nameAt : ByteArray := prog_12_method_24_code
def yX10_nameAt : MethodName := ⟨RX10, "nameAt", "(Z)I"⟩
abbrev cX10_takeTold : ByteArray := prog_12_method_25_code
def yX10_takeTold : MethodName := ⟨RX10, "takeTold", "(ZII)I"⟩
abbrev cX10_office : ByteArray := prog_12_method_26_code
def yX10_office : MethodName := ⟨RX10, "office", "()I"⟩
abbrev cX10_readLine : ByteArray := prog_12_method_27_code
def yX10_readLine : MethodName := ⟨RX10, "readLine", "()V"⟩
abbrev cX10_readName : ByteArray := prog_12_method_28_code
def yX10_readName : MethodName := ⟨RX10, "readName", "(III)V"⟩
abbrev cX10_readLike : ByteArray := prog_12_method_29_code
def yX10_readLike : MethodName := ⟨RX10, "readLike", "()V"⟩
abbrev cX10_readOnce : ByteArray := prog_12_method_30_code
def yX10_readOnce : MethodName := ⟨RX10, "readOnce", "()V"⟩
abbrev cX10_year : ByteArray := prog_12_method_31_code
def yX10_year : MethodName := ⟨RX10, "year", "()I"⟩
abbrev cX10_readYear : ByteArray := prog_12_method_32_code
def yX10_readYear : MethodName := ⟨RX10, "readYear", "(II)V"⟩
abbrev cX10_emit : ByteArray := prog_12_method_33_code
def yX10_emit : MethodName := ⟨RX10, "emit", "(II)V"⟩
abbrev cX10_whole : ByteArray := prog_12_method_34_code
def yX10_whole : MethodName := ⟨RX10, "whole", "(I)V"⟩
abbrev cX10_test : ByteArray := prog_12_method_35_code
def yX10_test : MethodName := ⟨RX10, "test", "(I)V"⟩
abbrev cX10_sums : ByteArray := prog_12_method_36_code
def yX10_sums : MethodName := ⟨RX10, "sums", "(I)V"⟩
abbrev cX10_products : ByteArray := prog_12_method_37_code
def yX10_products : MethodName := ⟨RX10, "products", "(I)V"⟩
abbrev cX10_takePart : ByteArray := prog_12_method_38_code
def yX10_takePart : MethodName := ⟨RX10, "takePart", "(I)V"⟩
abbrev cX10_worthAt : ByteArray := prog_12_method_39_code
def yX10_worthAt : MethodName := ⟨RX10, "worthAt", "(I)I"⟩
abbrev cX10_both : ByteArray := prog_12_method_40_code
def yX10_both : MethodName := ⟨RX10, "both", "(III)I"⟩
abbrev cX10_copies : ByteArray := prog_12_method_41_code
def yX10_copies : MethodName := ⟨RX10, "copies", "(III)V"⟩
abbrev cX10_starts : ByteArray := prog_12_method_42_code
def yX10_starts : MethodName := ⟨RX10, "starts", "(I)V"⟩
abbrev cX10_begins : ByteArray := prog_12_method_43_code
def yX10_begins : MethodName := ⟨RX10, "begins", "()V"⟩
abbrev cX10_keeps : ByteArray := prog_12_method_44_code
def yX10_keeps : MethodName := ⟨RX10, "keeps", "()V"⟩
abbrev cX10_persons : ByteArray := prog_12_method_45_code
def yX10_persons : MethodName := ⟨RX10, "persons", "()I"⟩
abbrev cX10_goods : ByteArray := prog_12_method_46_code
def yX10_goods : MethodName := ⟨RX10, "goods", "()I"⟩
abbrev cX10_personOf : ByteArray := prog_12_method_47_code
def yX10_personOf : MethodName := ⟨RX10, "personOf", "(II)I"⟩
abbrev cX10_goodOf : ByteArray := prog_12_method_48_code
def yX10_goodOf : MethodName := ⟨RX10, "goodOf", "(II)I"⟩
abbrev cX10_isPerson : ByteArray := prog_12_method_49_code
def yX10_isPerson : MethodName := ⟨RX10, "isPerson", "(I)Z"⟩
abbrev cX10_isGood : ByteArray := prog_12_method_50_code
def yX10_isGood : MethodName := ⟨RX10, "isGood", "(I)Z"⟩
abbrev cX10_bits : ByteArray := prog_12_method_51_code
def yX10_bits : MethodName := ⟨RX10, "bits", "(I)I"⟩
abbrev cX10_heldBy : ByteArray := prog_12_method_52_code
def yX10_heldBy : MethodName := ⟨RX10, "heldBy", "(II)I"⟩
abbrev cX10_fitBy : ByteArray := prog_12_method_53_code
def yX10_fitBy : MethodName := ⟨RX10, "fitBy", "(III)I"⟩
abbrev cX10_fitOf : ByteArray := prog_12_method_54_code
def yX10_fitOf : MethodName := ⟨RX10, "fitOf", "(III)I"⟩
abbrev cX10_fitOfAll : ByteArray := prog_12_method_55_code
def yX10_fitOfAll : MethodName := ⟨RX10, "fitOfAll", "(III)I"⟩
abbrev cX10_joyOf : ByteArray := prog_12_method_56_code
def yX10_joyOf : MethodName := ⟨RX10, "joyOf", "(II)I"⟩
abbrev cX10_joyOfAll : ByteArray := prog_12_method_57_code
def yX10_joyOfAll : MethodName := ⟨RX10, "joyOfAll", "(I)I"⟩
abbrev cX10_rightsOf : ByteArray := prog_12_method_58_code
def yX10_rightsOf : MethodName := ⟨RX10, "rightsOf", "(I)I"⟩
abbrev cX10_sumOf : ByteArray := prog_12_method_59_code
def yX10_sumOf : MethodName := ⟨RX10, "sumOf", "(I)I"⟩
abbrev cX10_mayBuy : ByteArray := prog_12_method_60_code
def yX10_mayBuy : MethodName := ⟨RX10, "mayBuy", "(II)Z"⟩
abbrev cX10_buys : ByteArray := prog_12_method_61_code
def yX10_buys : MethodName := ⟨RX10, "buys", "(II)V"⟩
abbrev cX10_doesLike : ByteArray := prog_12_method_62_code
def yX10_doesLike : MethodName := ⟨RX10, "doesLike", "(IIII)Z"⟩
abbrev cX10_maySwap : ByteArray := prog_12_method_63_code
def yX10_maySwap : MethodName := ⟨RX10, "maySwap", "(III)Z"⟩
abbrev cX10_swaps : ByteArray := prog_12_method_64_code
def yX10_swaps : MethodName := ⟨RX10, "swaps", "(III)V"⟩
abbrev cX10_draw : ByteArray := prog_12_method_65_code
def yX10_draw : MethodName := ⟨RX10, "draw", "(II)I"⟩
abbrev cX10_ownerOf : ByteArray := prog_12_method_66_code
def yX10_ownerOf : MethodName := ⟨RX10, "ownerOf", "(II)I"⟩
abbrev cX10_settles : ByteArray := prog_12_method_67_code
def yX10_settles : MethodName := ⟨RX10, "settles", "(II)V"⟩
abbrev cX10_passes : ByteArray := prog_12_method_68_code
def yX10_passes : MethodName := ⟨RX10, "passes", "(I)I"⟩
abbrev cX10_person : ByteArray := prog_12_method_69_code
def yX10_person : MethodName := ⟨RX10, "person", "(II)I"⟩
abbrev cX10_good : ByteArray := prog_12_method_70_code
def yX10_good : MethodName := ⟨RX10, "good", "(II)I"⟩
abbrev cX10_fit : ByteArray := prog_12_method_71_code
def yX10_fit : MethodName := ⟨RX10, "fit", "(II)I"⟩
abbrev cX10_buy : ByteArray := prog_12_method_72_code
def yX10_buy : MethodName := ⟨RX10, "buy", "(I)I"⟩
abbrev cX10_swap : ByteArray := prog_12_method_73_code
def yX10_swap : MethodName := ⟨RX10, "swap", "(II)Z"⟩
abbrev cX10_bring : ByteArray := prog_12_method_74_code
def yX10_bring : MethodName := ⟨RX10, "bring", "(I)I"⟩
abbrev cX10_quarter : ByteArray := prog_12_method_75_code
def yX10_quarter : MethodName := ⟨RX10, "quarter", "()I"⟩
abbrev cX10_undo : ByteArray := prog_12_method_76_code
def yX10_undo : MethodName := ⟨RX10, "undo", "()Z"⟩
abbrev cX10_judged : ByteArray := prog_12_method_77_code
def yX10_judged : MethodName := ⟨RX10, "judged", "(I)I"⟩
abbrev cX10_triesNow : ByteArray := prog_12_method_78_code
def yX10_triesNow : MethodName := ⟨RX10, "triesNow", "()V"⟩
abbrev cX10_winner : ByteArray := prog_12_method_79_code
def yX10_winner : MethodName := ⟨RX10, "winner", "(I)I"⟩
abbrev cX10_where : ByteArray := prog_12_method_80_code
def yX10_where : MethodName := ⟨RX10, "where", "(II)I"⟩
abbrev cX10_has : ByteArray := prog_12_method_81_code
def yX10_has : MethodName := ⟨RX10, "has", "(II)I"⟩
abbrev cX10_home : ByteArray := prog_12_method_82_code
def yX10_home : MethodName := ⟨RX10, "home", "()I"⟩
abbrev cX10_empty : ByteArray := prog_12_method_83_code
def yX10_empty : MethodName := ⟨RX10, "empty", "()I"⟩
abbrev cX10_won : ByteArray := prog_12_method_84_code
def yX10_won : MethodName := ⟨RX10, "won", "(II)I"⟩
abbrev cX10_streak : ByteArray := prog_12_method_85_code
def yX10_streak : MethodName := ⟨RX10, "streak", "(II)I"⟩
abbrev cX10_moves : ByteArray := prog_12_method_86_code
def yX10_moves : MethodName := ⟨RX10, "moves", "(I)I"⟩
abbrev cX10_rights : ByteArray := prog_12_method_87_code
def yX10_rights : MethodName := ⟨RX10, "rights", "()I"⟩
abbrev cX10_joy : ByteArray := prog_12_method_88_code
def yX10_joy : MethodName := ⟨RX10, "joy", "(I)I"⟩
abbrev cX10_envy : ByteArray := prog_12_method_89_code
def yX10_envy : MethodName := ⟨RX10, "envy", "(I)I"⟩
abbrev cX10_offers : ByteArray := prog_12_method_90_code
def yX10_offers : MethodName := ⟨RX10, "offers", "(I)I"⟩
abbrev cX10_wantOf : ByteArray := prog_12_method_91_code
def yX10_wantOf : MethodName := ⟨RX10, "wantOf", "(III)I"⟩
abbrev cX10_allGoods : ByteArray := prog_12_method_92_code
def yX10_allGoods : MethodName := ⟨RX10, "allGoods", "()I"⟩
abbrev cX10_want : ByteArray := prog_12_method_93_code
def yX10_want : MethodName := ⟨RX10, "want", "(I)I"⟩
abbrev cX10_fansOf : ByteArray := prog_12_method_94_code
def yX10_fansOf : MethodName := ⟨RX10, "fansOf", "(I)I"⟩
abbrev cX10_fans : ByteArray := prog_12_method_95_code
def yX10_fans : MethodName := ⟨RX10, "fans", "(I)I"⟩
abbrev cX10_dull : ByteArray := prog_12_method_96_code
def yX10_dull : MethodName := ⟨RX10, "dull", "()I"⟩
abbrev cX10_least : ByteArray := prog_12_method_97_code
def yX10_least : MethodName := ⟨RX10, "least", "()I"⟩
abbrev cX10_ownerIn : ByteArray := prog_12_method_98_code
def yX10_ownerIn : MethodName := ⟨RX10, "ownerIn", "(I)I"⟩
abbrev cX10_ringsNow : ByteArray := prog_12_method_99_code
def yX10_ringsNow : MethodName := ⟨RX10, "ringsNow", "()I"⟩
abbrev cX10_gets : ByteArray := prog_12_method_100_code
def yX10_gets : MethodName := ⟨RX10, "gets", "(I)I"⟩
abbrev cX10_rounds : ByteArray := prog_12_method_101_code
def yX10_rounds : MethodName := ⟨RX10, "rounds", "()I"⟩
abbrev cX10_givesFrom : ByteArray := prog_12_method_102_code
def yX10_givesFrom : MethodName := ⟨RX10, "givesFrom", "(IIII)V"⟩
abbrev cX10_givesOut : ByteArray := prog_12_method_103_code
def yX10_givesOut : MethodName := ⟨RX10, "givesOut", "(I)V"⟩
abbrev cX10_best : ByteArray := prog_12_method_104_code
def yX10_best : MethodName := ⟨RX10, "best", "(I)I"⟩
abbrev cX10_owes : ByteArray := prog_12_method_105_code
def yX10_owes : MethodName := ⟨RX10, "owes", "(I)I"⟩
abbrev cX10_spare : ByteArray := prog_12_method_106_code
def yX10_spare : MethodName := ⟨RX10, "spare", "()I"⟩
abbrev cX10_odds : ByteArray := prog_12_method_107_code
def yX10_odds : MethodName := ⟨RX10, "odds", "(II)I"⟩
abbrev cX10_enough : ByteArray := prog_12_method_108_code
def yX10_enough : MethodName := ⟨RX10, "enough", "(II)I"⟩
abbrev cX10_run : ByteArray := prog_12_method_109_code
def yX10_run : MethodName := ⟨RX10, "run", "(I)I"⟩
abbrev cX10_see : ByteArray := prog_12_method_110_code
def yX10_see : MethodName := ⟨RX10, "see", "(IIZ)Z"⟩
abbrev cX10_whoNow : ByteArray := prog_12_method_111_code
def yX10_whoNow : MethodName := ⟨RX10, "whoNow", "()I"⟩
abbrev cX10_who : ByteArray := prog_12_method_112_code
def yX10_who : MethodName := ⟨RX10, "who", "()I"⟩
abbrev cX10_ask : ByteArray := prog_12_method_113_code
def yX10_ask : MethodName := ⟨RX10, "ask", "()I"⟩
abbrev cX10_rich : ByteArray := prog_12_method_114_code
def yX10_rich : MethodName := ⟨RX10, "rich", "()I"⟩
abbrev cX10_sad : ByteArray := prog_12_method_115_code
def yX10_sad : MethodName := ⟨RX10, "sad", "()I"⟩
abbrev cX10_lack : ByteArray := prog_12_method_116_code
def yX10_lack : MethodName := ⟨RX10, "lack", "(I)I"⟩
abbrev cX10_debt : ByteArray := prog_12_method_117_code
def yX10_debt : MethodName := ⟨RX10, "debt", "()I"⟩
abbrev cX10_poor : ByteArray := prog_12_method_118_code
def yX10_poor : MethodName := ⟨RX10, "poor", "()I"⟩
abbrev cX10_getsBy : ByteArray := prog_12_method_119_code
def yX10_getsBy : MethodName := ⟨RX10, "getsBy", "(IIIII)I"⟩
abbrev cX10_rests : ByteArray := prog_12_method_120_code
def yX10_rests : MethodName := ⟨RX10, "rests", "(IIII)I"⟩
abbrev cX10_drawsDeed : ByteArray := prog_12_method_121_code
def yX10_drawsDeed : MethodName := ⟨RX10, "drawsDeed", "()V"⟩
abbrev cX10_luck : ByteArray := prog_12_method_122_code
def yX10_luck : MethodName := ⟨RX10, "luck", "(III)I"⟩
abbrev cX10_mark : ByteArray := prog_12_method_123_code
def yX10_mark : MethodName := ⟨RX10, "mark", "(IZ)Z"⟩
abbrev cX10_count : ByteArray := prog_12_method_124_code
def yX10_count : MethodName := ⟨RX10, "count", "(I)I"⟩
def RJ11 : String := "java/lang/Character"
def TJ11 : u_T := fun k => match k with
  | _ => ("", "", "", false)
def tyJ11 : Nat → FieldType := fun k => match k with
  | _ => .int
theorem nmJ11 : ∀ a, a < 0 → ∀ b, b < 0 → a ≠ b → (TJ11 a).2.1 ≠ (TJ11 b).2.1 := by decide +kernel
theorem tyJ11_ok : ∀ k, k < 0 → parseFieldDescriptor (TJ11 k).2.2.1 = some (tyJ11 k) := by decide +kernel
abbrev cJ11_isValidCodePoint_9a6ad : ByteArray := prog_15_method_11_code
def yJ11_isValidCodePoint_9a6ad : MethodName := ⟨RJ11, "isValidCodePoint", "(I)Z"⟩
abbrev cJ11_highSurrogate_5068e : ByteArray := prog_15_method_28_code
def yJ11_highSurrogate_5068e : MethodName := ⟨RJ11, "highSurrogate", "(I)C"⟩
abbrev cJ11_lowSurrogate_5068e : ByteArray := prog_15_method_29_code
def yJ11_lowSurrogate_5068e : MethodName := ⟨RJ11, "lowSurrogate", "(I)C"⟩
def RJ6 : String := "java/lang/Integer"
def TJ6 : u_T := fun k => match k with
  | _ => ("", "", "", false)
def tyJ6 : Nat → FieldType := fun k => match k with
  | _ => .int
theorem nmJ6 : ∀ a, a < 0 → ∀ b, b < 0 → a ≠ b → (TJ6 a).2.1 ≠ (TJ6 b).2.1 := by decide +kernel
theorem tyJ6_ok : ∀ k, k < 0 → parseFieldDescriptor (TJ6 k).2.2.1 = some (tyJ6 k) := by decide +kernel
abbrev cJ6_bitCount_0f7a4 : ByteArray := prog_19_method_49_code
def yJ6_bitCount_0f7a4 : MethodName := ⟨RJ6, "bitCount", "(I)I"⟩
def RJ9 : String := "java/lang/Math"
def TJ9 : u_T := fun k => match k with
  | _ => ("", "", "", false)
def tyJ9 : Nat → FieldType := fun k => match k with
  | _ => .int
theorem nmJ9 : ∀ a, a < 0 → ∀ b, b < 0 → a ≠ b → (TJ9 a).2.1 ≠ (TJ9 b).2.1 := by decide +kernel
theorem tyJ9_ok : ∀ k, k < 0 → parseFieldDescriptor (TJ9 k).2.2.1 = some (tyJ9 k) := by decide +kernel
abbrev cJ9_max_7cf53 : ByteArray := prog_20_method_65_code
def yJ9_max_7cf53 : MethodName := ⟨RJ9, "max", "(II)I"⟩
abbrev cJ9_min_7cf53 : ByteArray := prog_20_method_69_code
def yJ9_min_7cf53 : MethodName := ⟨RJ9, "min", "(II)I"⟩
def RJ0 : String := "java/lang/String"
def TJ0 : u_T := fun k => match k with
  | _ => ("", "", "", false)
def tyJ0 : Nat → FieldType := fun k => match k with
  | _ => .int
theorem nmJ0 : ∀ a, a < 0 → ∀ b, b < 0 → a ≠ b → (TJ0 a).2.1 ≠ (TJ0 b).2.1 := by decide +kernel
theorem tyJ0_ok : ∀ k, k < 0 → parseFieldDescriptor (TJ0 k).2.2.1 = some (tyJ0 k) := by decide +kernel
abbrev cJ0_length_8abf5 : ByteArray := prog_22_method_54_code
def yJ0_length_8abf5 : MethodName := ⟨RJ0, "length", "()I"⟩
abbrev cJ0_indexOf_0f7a4 : ByteArray := prog_22_method_79_code
def yJ0_indexOf_0f7a4 : MethodName := ⟨RJ0, "indexOf", "(I)I"⟩
abbrev cJ0_indexOf_7cf53 : ByteArray := prog_22_method_80_code
def yJ0_indexOf_7cf53 : MethodName := ⟨RJ0, "indexOf", "(II)I"⟩
abbrev cJ0_coder_7d493 : ByteArray := prog_22_method_152_code
def yJ0_coder_7d493 : MethodName := ⟨RJ0, "coder", "()B"⟩
abbrev cJ0_isLatin1_aae02 : ByteArray := prog_22_method_154_code
def yJ0_isLatin1_aae02 : MethodName := ⟨RJ0, "isLatin1", "()Z"⟩
abbrev cJ0_checkBoundsBeginEnd_23922 : ByteArray := prog_22_method_158_code
def yJ0_checkBoundsBeginEnd_23922 : MethodName := ⟨RJ0, "checkBoundsBeginEnd", "(III)V"⟩
def RJ1 : String := "java/lang/StringLatin1"
def TJ1 : u_T := fun k => match k with
  | _ => ("", "", "", false)
def tyJ1 : Nat → FieldType := fun k => match k with
  | _ => .int
theorem nmJ1 : ∀ a, a < 0 → ∀ b, b < 0 → a ≠ b → (TJ1 a).2.1 ≠ (TJ1 b).2.1 := by decide +kernel
theorem tyJ1_ok : ∀ k, k < 0 → parseFieldDescriptor (TJ1 k).2.2.1 = some (tyJ1 k) := by decide +kernel
abbrev cJ1_canEncode_9a6ad : ByteArray := prog_23_method_4_code
def yJ1_canEncode_9a6ad : MethodName := ⟨RJ1, "canEncode", "(I)Z"⟩
abbrev cJ1_indexOf_4cfef : ByteArray := prog_23_method_22_code
def yJ1_indexOf_4cfef : MethodName := ⟨RJ1, "indexOf", "([BIII)I"⟩
abbrev cJ1_indexOfChar_4cfef : ByteArray := prog_23_method_23_code
def yJ1_indexOfChar_4cfef : MethodName := ⟨RJ1, "indexOfChar", "([BIII)I"⟩
def RJ2 : String := "java/lang/StringUTF16"
def TJ2 : u_T := fun k => match k with
  | _ => ("", "", "", false)
def tyJ2 : Nat → FieldType := fun k => match k with
  | _ => .int
theorem nmJ2 : ∀ a, a < 0 → ∀ b, b < 0 → a ≠ b → (TJ2 a).2.1 ≠ (TJ2 b).2.1 := by decide +kernel
theorem tyJ2_ok : ∀ k, k < 0 → parseFieldDescriptor (TJ2 k).2.2.1 = some (tyJ2 k) := by decide +kernel
abbrev cJ2_getChar_3b067 : ByteArray := prog_24_method_5_code
def yJ2_getChar_3b067 : MethodName := ⟨RJ2, "getChar", "([BI)C"⟩
abbrev cJ2_length_9d52b : ByteArray := prog_24_method_6_code
def yJ2_length_9d52b : MethodName := ⟨RJ2, "length", "([B)I"⟩
abbrev cJ2_indexOf_4cfef : ByteArray := prog_24_method_40_code
def yJ2_indexOf_4cfef : MethodName := ⟨RJ2, "indexOf", "([BIII)I"⟩
abbrev cJ2_indexOfChar_4cfef : ByteArray := prog_24_method_47_code
def yJ2_indexOfChar_4cfef : MethodName := ⟨RJ2, "indexOfChar", "([BIII)I"⟩
abbrev cJ2_indexOfCharUnsafe_4cfef : ByteArray := prog_24_method_48_code
def yJ2_indexOfCharUnsafe_4cfef : MethodName := ⟨RJ2, "indexOfCharUnsafe", "([BIII)I"⟩
abbrev cJ2_indexOfSupplementary_4cfef : ByteArray := prog_24_method_49_code
def yJ2_indexOfSupplementary_4cfef : MethodName := ⟨RJ2, "indexOfSupplementary", "([BIII)I"⟩
abbrev cJ2_checkBoundsBeginEnd_d044e : ByteArray := prog_24_method_93_code
def yJ2_checkBoundsBeginEnd_d044e : MethodName := ⟨RJ2, "checkBoundsBeginEnd", "(II[B)V"⟩
def RJ3 : String := "jdk/internal/util/Preconditions"
def TJ3 : u_T := fun k => match k with
  | _ => ("", "", "", false)
def tyJ3 : Nat → FieldType := fun k => match k with
  | _ => .int
theorem nmJ3 : ∀ a, a < 0 → ∀ b, b < 0 → a ≠ b → (TJ3 a).2.1 ≠ (TJ3 b).2.1 := by decide +kernel
theorem tyJ3_ok : ∀ k, k < 0 → parseFieldDescriptor (TJ3 k).2.2.1 = some (tyJ3 k) := by decide +kernel
abbrev cJ3_checkFromToIndex_8c36e : ByteArray := prog_29_method_12_code
def yJ3_checkFromToIndex_8c36e : MethodName := ⟨RJ3, "checkFromToIndex", "(IIILjava/util/function/BiFunction;)I"⟩
def RL : String := "SoulRaffleLaw"
abbrev cL_rests : ByteArray := method_3_code
def yL_rests : MethodName := ⟨RL, "rests", "(LSoulRaffle;IIII[J)I"⟩
abbrev cL_law : ByteArray := code
def yL_law : MethodName := ⟨RL, "law", "([I)Z"⟩
abbrev vwCl : List vw_C := [(RX0, TX0, 4), (RX1, TX1, 4), (RX2, TX2, 14), (RX3, TX3, 4), (RX4, TX4, 4), (RX5, TX5, 5), (RX6, TX6, 11), (RX8, TX8, 4), (RX9, TX9, 16), (RX10, TX10, 33)]
