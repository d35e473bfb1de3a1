-- ===== PART A: goes FIRST, ahead of the names: the tables' words, and 'selects' of the private methods out of them =====
/-- a private method of a class that the tables say can be made, by its rows of tables_1 -/
def lw_okq (q : MethodName × Nat) : Prop := (q.1.cls ≠ "java/lang/invoke/MethodHandle" ∧ q.1.cls ≠ "java/lang/invoke/VarHandle") ∧ Cond.instantiable q.1.cls q.2 ∈ tables_1 ∧ Cond.privateMethod q.1 ∈ tables_1 ∧ Cond.instanceMethod q.1 ∈ tables_1
theorem lw_p0 : lw_okq (⟨"AuthorityBook$Lexer", "findToken", "()V"⟩, 6) := ⟨⟨by decide +kernel, by decide +kernel⟩, List.mem_of_getElem? (i := 59) (by decide +kernel), List.mem_of_getElem? (i := 428) (by decide +kernel), List.mem_of_getElem? (i := 429) (by decide +kernel)⟩
theorem lw_p1 : lw_okq (⟨"AuthorityBook$Lexer", "sortOut", "(I)LAuthorityBook$Token;"⟩, 6) := ⟨⟨by decide +kernel, by decide +kernel⟩, List.mem_of_getElem? (i := 59) (by decide +kernel), List.mem_of_getElem? (i := 448) (by decide +kernel), List.mem_of_getElem? (i := 449) (by decide +kernel)⟩
theorem lw_p2 : lw_okq (⟨"AuthorityBook$Lexer", "wordFrom", "(I)LAuthorityBook$Token;"⟩, 6) := ⟨⟨by decide +kernel, by decide +kernel⟩, List.mem_of_getElem? (i := 59) (by decide +kernel), List.mem_of_getElem? (i := 452) (by decide +kernel), List.mem_of_getElem? (i := 453) (by decide +kernel)⟩
theorem lw_p3 : lw_okq (⟨"AuthorityBook$Lexer", "isWord", "(Ljava/lang/String;I)Z"⟩, 6) := ⟨⟨by decide +kernel, by decide +kernel⟩, List.mem_of_getElem? (i := 59) (by decide +kernel), List.mem_of_getElem? (i := 458) (by decide +kernel), List.mem_of_getElem? (i := 459) (by decide +kernel)⟩
theorem lw_p4 : lw_okq (⟨"AuthorityBook$TextReader", "goTo", "(I)V"⟩, 7) := ⟨⟨by decide +kernel, by decide +kernel⟩, List.mem_of_getElem? (i := 51) (by decide +kernel), List.mem_of_getElem? (i := 512) (by decide +kernel), List.mem_of_getElem? (i := 513) (by decide +kernel)⟩
theorem lw_p5 : lw_okq (⟨"AuthorityBook$TextReader", "readLine", "()Z"⟩, 7) := ⟨⟨by decide +kernel, by decide +kernel⟩, List.mem_of_getElem? (i := 51) (by decide +kernel), List.mem_of_getElem? (i := 517) (by decide +kernel), List.mem_of_getElem? (i := 518) (by decide +kernel)⟩
theorem lw_p6 : lw_okq (⟨"AuthorityBook$TextReader", "readParty", "()Z"⟩, 7) := ⟨⟨by decide +kernel, by decide +kernel⟩, List.mem_of_getElem? (i := 51) (by decide +kernel), List.mem_of_getElem? (i := 525) (by decide +kernel), List.mem_of_getElem? (i := 526) (by decide +kernel)⟩
theorem lw_p7 : lw_okq (⟨"AuthorityBook$TextReader", "refuse", "(I)Z"⟩, 7) := ⟨⟨by decide +kernel, by decide +kernel⟩, List.mem_of_getElem? (i := 51) (by decide +kernel), List.mem_of_getElem? (i := 529) (by decide +kernel), List.mem_of_getElem? (i := 530) (by decide +kernel)⟩
theorem lw_p8 : lw_okq (⟨"AuthorityBook$TextReader", "take", "(LAuthorityBook$Token;)Z"⟩, 7) := ⟨⟨by decide +kernel, by decide +kernel⟩, List.mem_of_getElem? (i := 51) (by decide +kernel), List.mem_of_getElem? (i := 533) (by decide +kernel), List.mem_of_getElem? (i := 534) (by decide +kernel)⟩
theorem lw_p9 : lw_okq (⟨"AuthorityBook$TextReader", "readPower", "()Z"⟩, 7) := ⟨⟨by decide +kernel, by decide +kernel⟩, List.mem_of_getElem? (i := 51) (by decide +kernel), List.mem_of_getElem? (i := 542) (by decide +kernel), List.mem_of_getElem? (i := 543) (by decide +kernel)⟩
theorem lw_p10 : lw_okq (⟨"AuthorityBook$TextReader", "readUpper", "(LAuthorityBook$Power;)Z"⟩, 7) := ⟨⟨by decide +kernel, by decide +kernel⟩, List.mem_of_getElem? (i := 51) (by decide +kernel), List.mem_of_getElem? (i := 550) (by decide +kernel), List.mem_of_getElem? (i := 551) (by decide +kernel)⟩
theorem lw_p11 : lw_okq (⟨"AuthorityBook$TextReader", "readGiver", "(LAuthorityBook$Power;)Z"⟩, 7) := ⟨⟨by decide +kernel, by decide +kernel⟩, List.mem_of_getElem? (i := 51) (by decide +kernel), List.mem_of_getElem? (i := 555) (by decide +kernel), List.mem_of_getElem? (i := 556) (by decide +kernel)⟩
theorem lw_p12 : lw_okq (⟨"AuthorityBook$TextReader", "readHolders", "(LAuthorityBook$Power;)Z"⟩, 7) := ⟨⟨by decide +kernel, by decide +kernel⟩, List.mem_of_getElem? (i := 51) (by decide +kernel), List.mem_of_getElem? (i := 559) (by decide +kernel), List.mem_of_getElem? (i := 560) (by decide +kernel)⟩
theorem lw_p13 : lw_okq (⟨"AuthorityBook$TextReader", "readTogether", "(LAuthorityBook$Power;)Z"⟩, 7) := ⟨⟨by decide +kernel, by decide +kernel⟩, List.mem_of_getElem? (i := 51) (by decide +kernel), List.mem_of_getElem? (i := 568) (by decide +kernel), List.mem_of_getElem? (i := 569) (by decide +kernel)⟩
theorem lw_p14 : lw_okq (⟨"AuthorityBook$TextReader", "readKinds", "(LAuthorityBook$Power;)Z"⟩, 7) := ⟨⟨by decide +kernel, by decide +kernel⟩, List.mem_of_getElem? (i := 51) (by decide +kernel), List.mem_of_getElem? (i := 580) (by decide +kernel), List.mem_of_getElem? (i := 581) (by decide +kernel)⟩
theorem lw_p15 : lw_okq (⟨"AuthorityBook$TextReader", "readRest", "(LAuthorityBook$Power;)Z"⟩, 7) := ⟨⟨by decide +kernel, by decide +kernel⟩, List.mem_of_getElem? (i := 51) (by decide +kernel), List.mem_of_getElem? (i := 586) (by decide +kernel), List.mem_of_getElem? (i := 587) (by decide +kernel)⟩
def lw_privs_1 : List (MethodName × Nat) := [(⟨"AuthorityBook$Lexer", "findToken", "()V"⟩, 6), (⟨"AuthorityBook$Lexer", "sortOut", "(I)LAuthorityBook$Token;"⟩, 6), (⟨"AuthorityBook$Lexer", "wordFrom", "(I)LAuthorityBook$Token;"⟩, 6), (⟨"AuthorityBook$Lexer", "isWord", "(Ljava/lang/String;I)Z"⟩, 6), (⟨"AuthorityBook$TextReader", "goTo", "(I)V"⟩, 7), (⟨"AuthorityBook$TextReader", "readLine", "()Z"⟩, 7), (⟨"AuthorityBook$TextReader", "readParty", "()Z"⟩, 7), (⟨"AuthorityBook$TextReader", "refuse", "(I)Z"⟩, 7), (⟨"AuthorityBook$TextReader", "take", "(LAuthorityBook$Token;)Z"⟩, 7), (⟨"AuthorityBook$TextReader", "readPower", "()Z"⟩, 7), (⟨"AuthorityBook$TextReader", "readUpper", "(LAuthorityBook$Power;)Z"⟩, 7), (⟨"AuthorityBook$TextReader", "readGiver", "(LAuthorityBook$Power;)Z"⟩, 7), (⟨"AuthorityBook$TextReader", "readHolders", "(LAuthorityBook$Power;)Z"⟩, 7), (⟨"AuthorityBook$TextReader", "readTogether", "(LAuthorityBook$Power;)Z"⟩, 7), (⟨"AuthorityBook$TextReader", "readKinds", "(LAuthorityBook$Power;)Z"⟩, 7), (⟨"AuthorityBook$TextReader", "readRest", "(LAuthorityBook$Power;)Z"⟩, 7)]
theorem lw_r1 : ∀ q ∈ lw_privs_1, lw_okq q := List.forall_mem_cons.mpr ⟨lw_p0, List.forall_mem_cons.mpr ⟨lw_p1, List.forall_mem_cons.mpr ⟨lw_p2, List.forall_mem_cons.mpr ⟨lw_p3, List.forall_mem_cons.mpr ⟨lw_p4, List.forall_mem_cons.mpr ⟨lw_p5, List.forall_mem_cons.mpr ⟨lw_p6, List.forall_mem_cons.mpr ⟨lw_p7, List.forall_mem_cons.mpr ⟨lw_p8, List.forall_mem_cons.mpr ⟨lw_p9, List.forall_mem_cons.mpr ⟨lw_p10, List.forall_mem_cons.mpr ⟨lw_p11, List.forall_mem_cons.mpr ⟨lw_p12, List.forall_mem_cons.mpr ⟨lw_p13, List.forall_mem_cons.mpr ⟨lw_p14, List.forall_mem_cons.mpr ⟨lw_p15, fun _ h => absurd h List.not_mem_nil⟩⟩⟩⟩⟩⟩⟩⟩⟩⟩⟩⟩⟩⟩⟩⟩
theorem lw_p16 : lw_okq (⟨"AuthorityBook", "isPower", "(I)Z"⟩, 10) := ⟨⟨by decide +kernel, by decide +kernel⟩, List.mem_of_getElem? (i := 26) (by decide +kernel), List.mem_of_getElem? (i := 616) (by decide +kernel), List.mem_of_getElem? (i := 617) (by decide +kernel)⟩
theorem lw_p17 : lw_okq (⟨"AuthorityBook", "isMoment", "(I)Z"⟩, 10) := ⟨⟨by decide +kernel, by decide +kernel⟩, List.mem_of_getElem? (i := 26) (by decide +kernel), List.mem_of_getElem? (i := 620) (by decide +kernel), List.mem_of_getElem? (i := 621) (by decide +kernel)⟩
theorem lw_p18 : lw_okq (⟨"AuthorityBook", "wasLive", "(II)Z"⟩, 10) := ⟨⟨by decide +kernel, by decide +kernel⟩, List.mem_of_getElem? (i := 26) (by decide +kernel), List.mem_of_getElem? (i := 624) (by decide +kernel), List.mem_of_getElem? (i := 625) (by decide +kernel)⟩
theorem lw_p19 : lw_okq (⟨"AuthorityBook", "liveAt", "(III)Z"⟩, 10) := ⟨⟨by decide +kernel, by decide +kernel⟩, List.mem_of_getElem? (i := 26) (by decide +kernel), List.mem_of_getElem? (i := 628) (by decide +kernel), List.mem_of_getElem? (i := 629) (by decide +kernel)⟩
theorem lw_p20 : lw_okq (⟨"AuthorityBook", "reasonAt", "(LAuthorityBook$Power;II)I"⟩, 10) := ⟨⟨by decide +kernel, by decide +kernel⟩, List.mem_of_getElem? (i := 26) (by decide +kernel), List.mem_of_getElem? (i := 633) (by decide +kernel), List.mem_of_getElem? (i := 634) (by decide +kernel)⟩
theorem lw_p21 : lw_okq (⟨"AuthorityBook", "kindsAt", "(II)I"⟩, 10) := ⟨⟨by decide +kernel, by decide +kernel⟩, List.mem_of_getElem? (i := 26) (by decide +kernel), List.mem_of_getElem? (i := 641) (by decide +kernel), List.mem_of_getElem? (i := 642) (by decide +kernel)⟩
theorem lw_p22 : lw_okq (⟨"AuthorityBook", "mostAt", "(II)I"⟩, 10) := ⟨⟨by decide +kernel, by decide +kernel⟩, List.mem_of_getElem? (i := 26) (by decide +kernel), List.mem_of_getElem? (i := 650) (by decide +kernel), List.mem_of_getElem? (i := 651) (by decide +kernel)⟩
theorem lw_p23 : lw_okq (⟨"AuthorityBook$LineWriter", "write", "(Ljava/lang/String;)V"⟩, 2) := ⟨⟨by decide +kernel, by decide +kernel⟩, List.mem_of_getElem? (i := 186) (by decide +kernel), List.mem_of_getElem? (i := 673) (by decide +kernel), List.mem_of_getElem? (i := 674) (by decide +kernel)⟩
theorem lw_p24 : lw_okq (⟨"AuthorityBook$LineWriter", "writeByte", "(I)V"⟩, 2) := ⟨⟨by decide +kernel, by decide +kernel⟩, List.mem_of_getElem? (i := 186) (by decide +kernel), List.mem_of_getElem? (i := 679) (by decide +kernel), List.mem_of_getElem? (i := 680) (by decide +kernel)⟩
theorem lw_p25 : lw_okq (⟨"AuthorityBook$LineWriter", "writeNumber", "(I)V"⟩, 2) := ⟨⟨by decide +kernel, by decide +kernel⟩, List.mem_of_getElem? (i := 186) (by decide +kernel), List.mem_of_getElem? (i := 683) (by decide +kernel), List.mem_of_getElem? (i := 684) (by decide +kernel)⟩
theorem lw_p26 : lw_okq (⟨"AuthorityBook$LineWriter", "writeBits", "(I)V"⟩, 2) := ⟨⟨by decide +kernel, by decide +kernel⟩, List.mem_of_getElem? (i := 186) (by decide +kernel), List.mem_of_getElem? (i := 688) (by decide +kernel), List.mem_of_getElem? (i := 689) (by decide +kernel)⟩
theorem lw_p27 : lw_okq (⟨"AuthorityBook", "isAct", "(I)Z"⟩, 10) := ⟨⟨by decide +kernel, by decide +kernel⟩, List.mem_of_getElem? (i := 26) (by decide +kernel), List.mem_of_getElem? (i := 703) (by decide +kernel), List.mem_of_getElem? (i := 704) (by decide +kernel)⟩
theorem lw_p28 : lw_okq (⟨"AuthorityBook$Judge", "weighFirms", "()V"⟩, 8) := ⟨⟨by decide +kernel, by decide +kernel⟩, List.mem_of_getElem? (i := 153) (by decide +kernel), List.mem_of_getElem? (i := 728) (by decide +kernel), List.mem_of_getElem? (i := 729) (by decide +kernel)⟩
theorem lw_p29 : lw_okq (⟨"AuthorityBook$Judge", "usedBy", "(I)I"⟩, 8) := ⟨⟨by decide +kernel, by decide +kernel⟩, List.mem_of_getElem? (i := 153) (by decide +kernel), List.mem_of_getElem? (i := 734) (by decide +kernel), List.mem_of_getElem? (i := 735) (by decide +kernel)⟩
theorem lw_p30 : lw_okq (⟨"AuthorityBook$Judge", "takeNext", "()Z"⟩, 8) := ⟨⟨by decide +kernel, by decide +kernel⟩, List.mem_of_getElem? (i := 153) (by decide +kernel), List.mem_of_getElem? (i := 739) (by decide +kernel), List.mem_of_getElem? (i := 740) (by decide +kernel)⟩
theorem lw_p31 : lw_okq (⟨"AuthorityBook", "isParty", "(I)Z"⟩, 10) := ⟨⟨by decide +kernel, by decide +kernel⟩, List.mem_of_getElem? (i := 26) (by decide +kernel), List.mem_of_getElem? (i := 747) (by decide +kernel), List.mem_of_getElem? (i := 748) (by decide +kernel)⟩
def lw_privs_2 : List (MethodName × Nat) := [(⟨"AuthorityBook", "isPower", "(I)Z"⟩, 10), (⟨"AuthorityBook", "isMoment", "(I)Z"⟩, 10), (⟨"AuthorityBook", "wasLive", "(II)Z"⟩, 10), (⟨"AuthorityBook", "liveAt", "(III)Z"⟩, 10), (⟨"AuthorityBook", "reasonAt", "(LAuthorityBook$Power;II)I"⟩, 10), (⟨"AuthorityBook", "kindsAt", "(II)I"⟩, 10), (⟨"AuthorityBook", "mostAt", "(II)I"⟩, 10), (⟨"AuthorityBook$LineWriter", "write", "(Ljava/lang/String;)V"⟩, 2), (⟨"AuthorityBook$LineWriter", "writeByte", "(I)V"⟩, 2), (⟨"AuthorityBook$LineWriter", "writeNumber", "(I)V"⟩, 2), (⟨"AuthorityBook$LineWriter", "writeBits", "(I)V"⟩, 2), (⟨"AuthorityBook", "isAct", "(I)Z"⟩, 10), (⟨"AuthorityBook$Judge", "weighFirms", "()V"⟩, 8), (⟨"AuthorityBook$Judge", "usedBy", "(I)I"⟩, 8), (⟨"AuthorityBook$Judge", "takeNext", "()Z"⟩, 8), (⟨"AuthorityBook", "isParty", "(I)Z"⟩, 10)]
theorem lw_r2 : ∀ q ∈ lw_privs_2, lw_okq q := List.forall_mem_cons.mpr ⟨lw_p16, List.forall_mem_cons.mpr ⟨lw_p17, List.forall_mem_cons.mpr ⟨lw_p18, List.forall_mem_cons.mpr ⟨lw_p19, List.forall_mem_cons.mpr ⟨lw_p20, List.forall_mem_cons.mpr ⟨lw_p21, List.forall_mem_cons.mpr ⟨lw_p22, List.forall_mem_cons.mpr ⟨lw_p23, List.forall_mem_cons.mpr ⟨lw_p24, List.forall_mem_cons.mpr ⟨lw_p25, List.forall_mem_cons.mpr ⟨lw_p26, List.forall_mem_cons.mpr ⟨lw_p27, List.forall_mem_cons.mpr ⟨lw_p28, List.forall_mem_cons.mpr ⟨lw_p29, List.forall_mem_cons.mpr ⟨lw_p30, List.forall_mem_cons.mpr ⟨lw_p31, fun _ h => absurd h List.not_mem_nil⟩⟩⟩⟩⟩⟩⟩⟩⟩⟩⟩⟩⟩⟩⟩⟩
theorem lw_p32 : lw_okq (⟨"AuthorityBook", "mayActFor", "(II)Z"⟩, 10) := ⟨⟨by decide +kernel, by decide +kernel⟩, List.mem_of_getElem? (i := 26) (by decide +kernel), List.mem_of_getElem? (i := 755) (by decide +kernel), List.mem_of_getElem? (i := 756) (by decide +kernel)⟩
theorem lw_p33 : lw_okq (⟨"AuthorityBook", "openPowers", "(III)I"⟩, 10) := ⟨⟨by decide +kernel, by decide +kernel⟩, List.mem_of_getElem? (i := 26) (by decide +kernel), List.mem_of_getElem? (i := 765) (by decide +kernel), List.mem_of_getElem? (i := 766) (by decide +kernel)⟩
theorem lw_p34 : lw_okq (⟨"AuthorityBook", "weighNow", "(III)V"⟩, 10) := ⟨⟨by decide +kernel, by decide +kernel⟩, List.mem_of_getElem? (i := 26) (by decide +kernel), List.mem_of_getElem? (i := 778) (by decide +kernel), List.mem_of_getElem? (i := 779) (by decide +kernel)⟩
theorem lw_p35 : lw_okq (⟨"AuthorityBook", "actorsFor", "(I)I"⟩, 10) := ⟨⟨by decide +kernel, by decide +kernel⟩, List.mem_of_getElem? (i := 26) (by decide +kernel), List.mem_of_getElem? (i := 790) (by decide +kernel), List.mem_of_getElem? (i := 791) (by decide +kernel)⟩
theorem lw_p36 : lw_okq (⟨"AuthorityBook", "enterEnd", "(LAuthorityBook$Power;)I"⟩, 10) := ⟨⟨by decide +kernel, by decide +kernel⟩, List.mem_of_getElem? (i := 26) (by decide +kernel), List.mem_of_getElem? (i := 824) (by decide +kernel), List.mem_of_getElem? (i := 825) (by decide +kernel)⟩
theorem lw_p37 : lw_okq (⟨"AuthorityBook", "enterStart", "(LAuthorityBook$Power;)I"⟩, 10) := ⟨⟨by decide +kernel, by decide +kernel⟩, List.mem_of_getElem? (i := 26) (by decide +kernel), List.mem_of_getElem? (i := 828) (by decide +kernel), List.mem_of_getElem? (i := 829) (by decide +kernel)⟩
theorem lw_p38 : lw_okq (⟨"AuthorityBook", "judgeNow", "(LAuthorityBook$Act;)V"⟩, 10) := ⟨⟨by decide +kernel, by decide +kernel⟩, List.mem_of_getElem? (i := 26) (by decide +kernel), List.mem_of_getElem? (i := 844) (by decide +kernel), List.mem_of_getElem? (i := 845) (by decide +kernel)⟩
theorem lw_p39 : lw_okq (⟨"java/lang/Throwable", "fillInStackTrace", "(I)Ljava/lang/Throwable;"⟩, 6) := ⟨⟨by decide +kernel, by decide +kernel⟩, List.mem_of_getElem? (i := 904) (by decide +kernel), List.mem_of_getElem? (i := 902) (by decide +kernel), List.mem_of_getElem? (i := 903) (by decide +kernel)⟩
theorem lw_p40 : lw_okq (⟨"AuthorityBookModel", "lays", "(I)V"⟩, 43) := ⟨⟨by decide +kernel, by decide +kernel⟩, List.mem_of_getElem? (i := 953) (by decide +kernel), List.mem_of_getElem? (i := 951) (by decide +kernel), List.mem_of_getElem? (i := 952) (by decide +kernel)⟩
theorem lw_p41 : lw_okq (⟨"AuthorityBookModel", "begins", "()V"⟩, 43) := ⟨⟨by decide +kernel, by decide +kernel⟩, List.mem_of_getElem? (i := 953) (by decide +kernel), List.mem_of_getElem? (i := 965) (by decide +kernel), List.mem_of_getElem? (i := 966) (by decide +kernel)⟩
theorem lw_p42 : lw_okq (⟨"AuthorityBookModel", "go", "()V"⟩, 43) := ⟨⟨by decide +kernel, by decide +kernel⟩, List.mem_of_getElem? (i := 953) (by decide +kernel), List.mem_of_getElem? (i := 1103) (by decide +kernel), List.mem_of_getElem? (i := 1104) (by decide +kernel)⟩
theorem lw_p43 : lw_okq (⟨"AuthorityBookModel", "tapeAt", "(I)I"⟩, 43) := ⟨⟨by decide +kernel, by decide +kernel⟩, List.mem_of_getElem? (i := 953) (by decide +kernel), List.mem_of_getElem? (i := 1113) (by decide +kernel), List.mem_of_getElem? (i := 1114) (by decide +kernel)⟩
theorem lw_p44 : lw_okq (⟨"AuthorityBookModel", "readLine", "()Z"⟩, 43) := ⟨⟨by decide +kernel, by decide +kernel⟩, List.mem_of_getElem? (i := 953) (by decide +kernel), List.mem_of_getElem? (i := 1119) (by decide +kernel), List.mem_of_getElem? (i := 1120) (by decide +kernel)⟩
theorem lw_p45 : lw_okq (⟨"AuthorityBookModel", "is", "(I)Z"⟩, 43) := ⟨⟨by decide +kernel, by decide +kernel⟩, List.mem_of_getElem? (i := 953) (by decide +kernel), List.mem_of_getElem? (i := 1123) (by decide +kernel), List.mem_of_getElem? (i := 1124) (by decide +kernel)⟩
theorem lw_p46 : lw_okq (⟨"AuthorityBookModel", "readParty", "()Z"⟩, 43) := ⟨⟨by decide +kernel, by decide +kernel⟩, List.mem_of_getElem? (i := 953) (by decide +kernel), List.mem_of_getElem? (i := 1130) (by decide +kernel), List.mem_of_getElem? (i := 1131) (by decide +kernel)⟩
theorem lw_p47 : lw_okq (⟨"AuthorityBookModel", "bad", "(I)Z"⟩, 43) := ⟨⟨by decide +kernel, by decide +kernel⟩, List.mem_of_getElem? (i := 953) (by decide +kernel), List.mem_of_getElem? (i := 1134) (by decide +kernel), List.mem_of_getElem? (i := 1135) (by decide +kernel)⟩
def lw_privs_3 : List (MethodName × Nat) := [(⟨"AuthorityBook", "mayActFor", "(II)Z"⟩, 10), (⟨"AuthorityBook", "openPowers", "(III)I"⟩, 10), (⟨"AuthorityBook", "weighNow", "(III)V"⟩, 10), (⟨"AuthorityBook", "actorsFor", "(I)I"⟩, 10), (⟨"AuthorityBook", "enterEnd", "(LAuthorityBook$Power;)I"⟩, 10), (⟨"AuthorityBook", "enterStart", "(LAuthorityBook$Power;)I"⟩, 10), (⟨"AuthorityBook", "judgeNow", "(LAuthorityBook$Act;)V"⟩, 10), (⟨"java/lang/Throwable", "fillInStackTrace", "(I)Ljava/lang/Throwable;"⟩, 6), (⟨"AuthorityBookModel", "lays", "(I)V"⟩, 43), (⟨"AuthorityBookModel", "begins", "()V"⟩, 43), (⟨"AuthorityBookModel", "go", "()V"⟩, 43), (⟨"AuthorityBookModel", "tapeAt", "(I)I"⟩, 43), (⟨"AuthorityBookModel", "readLine", "()Z"⟩, 43), (⟨"AuthorityBookModel", "is", "(I)Z"⟩, 43), (⟨"AuthorityBookModel", "readParty", "()Z"⟩, 43), (⟨"AuthorityBookModel", "bad", "(I)Z"⟩, 43)]
theorem lw_r3 : ∀ q ∈ lw_privs_3, lw_okq q := List.forall_mem_cons.mpr ⟨lw_p32, List.forall_mem_cons.mpr ⟨lw_p33, List.forall_mem_cons.mpr ⟨lw_p34, List.forall_mem_cons.mpr ⟨lw_p35, List.forall_mem_cons.mpr ⟨lw_p36, List.forall_mem_cons.mpr ⟨lw_p37, List.forall_mem_cons.mpr ⟨lw_p38, List.forall_mem_cons.mpr ⟨lw_p39, List.forall_mem_cons.mpr ⟨lw_p40, List.forall_mem_cons.mpr ⟨lw_p41, List.forall_mem_cons.mpr ⟨lw_p42, List.forall_mem_cons.mpr ⟨lw_p43, List.forall_mem_cons.mpr ⟨lw_p44, List.forall_mem_cons.mpr ⟨lw_p45, List.forall_mem_cons.mpr ⟨lw_p46, List.forall_mem_cons.mpr ⟨lw_p47, fun _ h => absurd h List.not_mem_nil⟩⟩⟩⟩⟩⟩⟩⟩⟩⟩⟩⟩⟩⟩⟩⟩
theorem lw_p48 : lw_okq (⟨"AuthorityBookModel", "readPower", "()Z"⟩, 43) := ⟨⟨by decide +kernel, by decide +kernel⟩, List.mem_of_getElem? (i := 953) (by decide +kernel), List.mem_of_getElem? (i := 1138) (by decide +kernel), List.mem_of_getElem? (i := 1139) (by decide +kernel)⟩
theorem lw_p49 : lw_okq (⟨"AuthorityBookModel", "readGiver", "(I)Z"⟩, 43) := ⟨⟨by decide +kernel, by decide +kernel⟩, List.mem_of_getElem? (i := 953) (by decide +kernel), List.mem_of_getElem? (i := 1142) (by decide +kernel), List.mem_of_getElem? (i := 1143) (by decide +kernel)⟩
theorem lw_p50 : lw_okq (⟨"AuthorityBookModel", "readWord", "(I)Z"⟩, 43) := ⟨⟨by decide +kernel, by decide +kernel⟩, List.mem_of_getElem? (i := 953) (by decide +kernel), List.mem_of_getElem? (i := 1146) (by decide +kernel), List.mem_of_getElem? (i := 1147) (by decide +kernel)⟩
theorem lw_p51 : lw_okq (⟨"AuthorityBookModel", "readHolders", "(I)Z"⟩, 43) := ⟨⟨by decide +kernel, by decide +kernel⟩, List.mem_of_getElem? (i := 953) (by decide +kernel), List.mem_of_getElem? (i := 1150) (by decide +kernel), List.mem_of_getElem? (i := 1151) (by decide +kernel)⟩
theorem lw_p52 : lw_okq (⟨"AuthorityBookModel", "readNumber", "(III)Z"⟩, 43) := ⟨⟨by decide +kernel, by decide +kernel⟩, List.mem_of_getElem? (i := 953) (by decide +kernel), List.mem_of_getElem? (i := 1160) (by decide +kernel), List.mem_of_getElem? (i := 1161) (by decide +kernel)⟩
theorem lw_p53 : lw_okq (⟨"AuthorityBookModel", "readKinds", "(I)Z"⟩, 43) := ⟨⟨by decide +kernel, by decide +kernel⟩, List.mem_of_getElem? (i := 953) (by decide +kernel), List.mem_of_getElem? (i := 1167) (by decide +kernel), List.mem_of_getElem? (i := 1168) (by decide +kernel)⟩
theorem lw_p54 : lw_okq (⟨"AuthorityBookModel", "readEnd", "()Z"⟩, 43) := ⟨⟨by decide +kernel, by decide +kernel⟩, List.mem_of_getElem? (i := 953) (by decide +kernel), List.mem_of_getElem? (i := 1171) (by decide +kernel), List.mem_of_getElem? (i := 1172) (by decide +kernel)⟩
theorem lw_p55 : lw_okq (⟨"AuthorityBookModel", "dead", "(I)I"⟩, 43) := ⟨⟨by decide +kernel, by decide +kernel⟩, List.mem_of_getElem? (i := 953) (by decide +kernel), List.mem_of_getElem? (i := 1183) (by decide +kernel), List.mem_of_getElem? (i := 1184) (by decide +kernel)⟩
theorem lw_p56 : lw_okq (⟨"AuthorityBookModel", "hasDied", "(II)Z"⟩, 43) := ⟨⟨by decide +kernel, by decide +kernel⟩, List.mem_of_getElem? (i := 953) (by decide +kernel), List.mem_of_getElem? (i := 1187) (by decide +kernel), List.mem_of_getElem? (i := 1188) (by decide +kernel)⟩
theorem lw_p57 : lw_okq (⟨"AuthorityBookModel", "isPower", "(I)Z"⟩, 43) := ⟨⟨by decide +kernel, by decide +kernel⟩, List.mem_of_getElem? (i := 953) (by decide +kernel), List.mem_of_getElem? (i := 1198) (by decide +kernel), List.mem_of_getElem? (i := 1199) (by decide +kernel)⟩
theorem lw_p58 : lw_okq (⟨"AuthorityBookModel", "refuse", "()I"⟩, 43) := ⟨⟨by decide +kernel, by decide +kernel⟩, List.mem_of_getElem? (i := 953) (by decide +kernel), List.mem_of_getElem? (i := 1202) (by decide +kernel), List.mem_of_getElem? (i := 1203) (by decide +kernel)⟩
theorem lw_p59 : lw_okq (⟨"AuthorityBookModel", "isMoment", "(I)Z"⟩, 43) := ⟨⟨by decide +kernel, by decide +kernel⟩, List.mem_of_getElem? (i := 953) (by decide +kernel), List.mem_of_getElem? (i := 1210) (by decide +kernel), List.mem_of_getElem? (i := 1211) (by decide +kernel)⟩
theorem lw_p60 : lw_okq (⟨"AuthorityBookModel", "sees", "(II)V"⟩, 43) := ⟨⟨by decide +kernel, by decide +kernel⟩, List.mem_of_getElem? (i := 953) (by decide +kernel), List.mem_of_getElem? (i := 1214) (by decide +kernel), List.mem_of_getElem? (i := 1215) (by decide +kernel)⟩
theorem lw_p61 : lw_okq (⟨"AuthorityBookModel", "laysView", "()V"⟩, 43) := ⟨⟨by decide +kernel, by decide +kernel⟩, List.mem_of_getElem? (i := 953) (by decide +kernel), List.mem_of_getElem? (i := 1218) (by decide +kernel), List.mem_of_getElem? (i := 1219) (by decide +kernel)⟩
theorem lw_p62 : lw_okq (⟨"AuthorityBookModel", "whyOver", "(I)I"⟩, 43) := ⟨⟨by decide +kernel, by decide +kernel⟩, List.mem_of_getElem? (i := 953) (by decide +kernel), List.mem_of_getElem? (i := 1222) (by decide +kernel), List.mem_of_getElem? (i := 1223) (by decide +kernel)⟩
theorem lw_p63 : lw_okq (⟨"AuthorityBookModel", "isEnded", "(I)Z"⟩, 43) := ⟨⟨by decide +kernel, by decide +kernel⟩, List.mem_of_getElem? (i := 953) (by decide +kernel), List.mem_of_getElem? (i := 1226) (by decide +kernel), List.mem_of_getElem? (i := 1227) (by decide +kernel)⟩
def lw_privs_4 : List (MethodName × Nat) := [(⟨"AuthorityBookModel", "readPower", "()Z"⟩, 43), (⟨"AuthorityBookModel", "readGiver", "(I)Z"⟩, 43), (⟨"AuthorityBookModel", "readWord", "(I)Z"⟩, 43), (⟨"AuthorityBookModel", "readHolders", "(I)Z"⟩, 43), (⟨"AuthorityBookModel", "readNumber", "(III)Z"⟩, 43), (⟨"AuthorityBookModel", "readKinds", "(I)Z"⟩, 43), (⟨"AuthorityBookModel", "readEnd", "()Z"⟩, 43), (⟨"AuthorityBookModel", "dead", "(I)I"⟩, 43), (⟨"AuthorityBookModel", "hasDied", "(II)Z"⟩, 43), (⟨"AuthorityBookModel", "isPower", "(I)Z"⟩, 43), (⟨"AuthorityBookModel", "refuse", "()I"⟩, 43), (⟨"AuthorityBookModel", "isMoment", "(I)Z"⟩, 43), (⟨"AuthorityBookModel", "sees", "(II)V"⟩, 43), (⟨"AuthorityBookModel", "laysView", "()V"⟩, 43), (⟨"AuthorityBookModel", "whyOver", "(I)I"⟩, 43), (⟨"AuthorityBookModel", "isEnded", "(I)Z"⟩, 43)]
theorem lw_r4 : ∀ q ∈ lw_privs_4, lw_okq q := List.forall_mem_cons.mpr ⟨lw_p48, List.forall_mem_cons.mpr ⟨lw_p49, List.forall_mem_cons.mpr ⟨lw_p50, List.forall_mem_cons.mpr ⟨lw_p51, List.forall_mem_cons.mpr ⟨lw_p52, List.forall_mem_cons.mpr ⟨lw_p53, List.forall_mem_cons.mpr ⟨lw_p54, List.forall_mem_cons.mpr ⟨lw_p55, List.forall_mem_cons.mpr ⟨lw_p56, List.forall_mem_cons.mpr ⟨lw_p57, List.forall_mem_cons.mpr ⟨lw_p58, List.forall_mem_cons.mpr ⟨lw_p59, List.forall_mem_cons.mpr ⟨lw_p60, List.forall_mem_cons.mpr ⟨lw_p61, List.forall_mem_cons.mpr ⟨lw_p62, List.forall_mem_cons.mpr ⟨lw_p63, fun _ h => absurd h List.not_mem_nil⟩⟩⟩⟩⟩⟩⟩⟩⟩⟩⟩⟩⟩⟩⟩⟩
theorem lw_p64 : lw_okq (⟨"AuthorityBookModel", "isLive", "(I)Z"⟩, 43) := ⟨⟨by decide +kernel, by decide +kernel⟩, List.mem_of_getElem? (i := 953) (by decide +kernel), List.mem_of_getElem? (i := 1230) (by decide +kernel), List.mem_of_getElem? (i := 1231) (by decide +kernel)⟩
theorem lw_p65 : lw_okq (⟨"AuthorityBookModel", "seesNow", "()V"⟩, 43) := ⟨⟨by decide +kernel, by decide +kernel⟩, List.mem_of_getElem? (i := 953) (by decide +kernel), List.mem_of_getElem? (i := 1238) (by decide +kernel), List.mem_of_getElem? (i := 1239) (by decide +kernel)⟩
theorem lw_p66 : lw_okq (⟨"AuthorityBookModel", "isAsked", "(IIII)Z"⟩, 43) := ⟨⟨by decide +kernel, by decide +kernel⟩, List.mem_of_getElem? (i := 953) (by decide +kernel), List.mem_of_getElem? (i := 1250) (by decide +kernel), List.mem_of_getElem? (i := 1251) (by decide +kernel)⟩
theorem lw_p67 : lw_okq (⟨"AuthorityBookModel", "isParty", "(I)Z"⟩, 43) := ⟨⟨by decide +kernel, by decide +kernel⟩, List.mem_of_getElem? (i := 953) (by decide +kernel), List.mem_of_getElem? (i := 1254) (by decide +kernel), List.mem_of_getElem? (i := 1255) (by decide +kernel)⟩
theorem lw_p68 : lw_okq (⟨"AuthorityBookModel", "can0", "(IIII)I"⟩, 43) := ⟨⟨by decide +kernel, by decide +kernel⟩, List.mem_of_getElem? (i := 953) (by decide +kernel), List.mem_of_getElem? (i := 1258) (by decide +kernel), List.mem_of_getElem? (i := 1259) (by decide +kernel)⟩
theorem lw_p69 : lw_okq (⟨"AuthorityBookModel", "asks", "(III)V"⟩, 43) := ⟨⟨by decide +kernel, by decide +kernel⟩, List.mem_of_getElem? (i := 953) (by decide +kernel), List.mem_of_getElem? (i := 1262) (by decide +kernel), List.mem_of_getElem? (i := 1263) (by decide +kernel)⟩
theorem lw_p70 : lw_okq (⟨"AuthorityBookModel", "canBy", "(II)I"⟩, 43) := ⟨⟨by decide +kernel, by decide +kernel⟩, List.mem_of_getElem? (i := 953) (by decide +kernel), List.mem_of_getElem? (i := 1266) (by decide +kernel), List.mem_of_getElem? (i := 1267) (by decide +kernel)⟩
theorem lw_p71 : lw_okq (⟨"AuthorityBookModel", "takesPart", "(II)Z"⟩, 43) := ⟨⟨by decide +kernel, by decide +kernel⟩, List.mem_of_getElem? (i := 953) (by decide +kernel), List.mem_of_getElem? (i := 1270) (by decide +kernel), List.mem_of_getElem? (i := 1271) (by decide +kernel)⟩
theorem lw_p72 : lw_okq (⟨"AuthorityBookModel", "isKindAsked", "(III)Z"⟩, 43) := ⟨⟨by decide +kernel, by decide +kernel⟩, List.mem_of_getElem? (i := 953) (by decide +kernel), List.mem_of_getElem? (i := 1282) (by decide +kernel), List.mem_of_getElem? (i := 1283) (by decide +kernel)⟩
theorem lw_p73 : lw_okq (⟨"AuthorityBookModel", "isAct", "(I)Z"⟩, 43) := ⟨⟨by decide +kernel, by decide +kernel⟩, List.mem_of_getElem? (i := 953) (by decide +kernel), List.mem_of_getElem? (i := 1294) (by decide +kernel), List.mem_of_getElem? (i := 1295) (by decide +kernel)⟩
theorem lw_p74 : lw_okq (⟨"AuthorityBookModel", "its", "(II)I"⟩, 43) := ⟨⟨by decide +kernel, by decide +kernel⟩, List.mem_of_getElem? (i := 953) (by decide +kernel), List.mem_of_getElem? (i := 1298) (by decide +kernel), List.mem_of_getElem? (i := 1299) (by decide +kernel)⟩
theorem lw_p75 : lw_okq (⟨"AuthorityBookModel", "bindsAt", "(II)I"⟩, 43) := ⟨⟨by decide +kernel, by decide +kernel⟩, List.mem_of_getElem? (i := 953) (by decide +kernel), List.mem_of_getElem? (i := 1306) (by decide +kernel), List.mem_of_getElem? (i := 1307) (by decide +kernel)⟩
theorem lw_p76 : lw_okq (⟨"AuthorityBookModel", "bindsThen", "(I)I"⟩, 43) := ⟨⟨by decide +kernel, by decide +kernel⟩, List.mem_of_getElem? (i := 953) (by decide +kernel), List.mem_of_getElem? (i := 1310) (by decide +kernel), List.mem_of_getElem? (i := 1311) (by decide +kernel)⟩
theorem lw_p77 : lw_okq (⟨"AuthorityBookModel", "couldThen", "(I)Z"⟩, 43) := ⟨⟨by decide +kernel, by decide +kernel⟩, List.mem_of_getElem? (i := 953) (by decide +kernel), List.mem_of_getElem? (i := 1314) (by decide +kernel), List.mem_of_getElem? (i := 1315) (by decide +kernel)⟩
theorem lw_p78 : lw_okq (⟨"AuthorityBookModel", "usedBy", "(II)I"⟩, 43) := ⟨⟨by decide +kernel, by decide +kernel⟩, List.mem_of_getElem? (i := 953) (by decide +kernel), List.mem_of_getElem? (i := 1322) (by decide +kernel), List.mem_of_getElem? (i := 1323) (by decide +kernel)⟩
theorem lw_p79 : lw_okq (⟨"AuthorityBookModel", "laysLine", "(I)V"⟩, 43) := ⟨⟨by decide +kernel, by decide +kernel⟩, List.mem_of_getElem? (i := 953) (by decide +kernel), List.mem_of_getElem? (i := 1338) (by decide +kernel), List.mem_of_getElem? (i := 1339) (by decide +kernel)⟩
def lw_privs_5 : List (MethodName × Nat) := [(⟨"AuthorityBookModel", "isLive", "(I)Z"⟩, 43), (⟨"AuthorityBookModel", "seesNow", "()V"⟩, 43), (⟨"AuthorityBookModel", "isAsked", "(IIII)Z"⟩, 43), (⟨"AuthorityBookModel", "isParty", "(I)Z"⟩, 43), (⟨"AuthorityBookModel", "can0", "(IIII)I"⟩, 43), (⟨"AuthorityBookModel", "asks", "(III)V"⟩, 43), (⟨"AuthorityBookModel", "canBy", "(II)I"⟩, 43), (⟨"AuthorityBookModel", "takesPart", "(II)Z"⟩, 43), (⟨"AuthorityBookModel", "isKindAsked", "(III)Z"⟩, 43), (⟨"AuthorityBookModel", "isAct", "(I)Z"⟩, 43), (⟨"AuthorityBookModel", "its", "(II)I"⟩, 43), (⟨"AuthorityBookModel", "bindsAt", "(II)I"⟩, 43), (⟨"AuthorityBookModel", "bindsThen", "(I)I"⟩, 43), (⟨"AuthorityBookModel", "couldThen", "(I)Z"⟩, 43), (⟨"AuthorityBookModel", "usedBy", "(II)I"⟩, 43), (⟨"AuthorityBookModel", "laysLine", "(I)V"⟩, 43)]
theorem lw_r5 : ∀ q ∈ lw_privs_5, lw_okq q := List.forall_mem_cons.mpr ⟨lw_p64, List.forall_mem_cons.mpr ⟨lw_p65, List.forall_mem_cons.mpr ⟨lw_p66, List.forall_mem_cons.mpr ⟨lw_p67, List.forall_mem_cons.mpr ⟨lw_p68, List.forall_mem_cons.mpr ⟨lw_p69, List.forall_mem_cons.mpr ⟨lw_p70, List.forall_mem_cons.mpr ⟨lw_p71, List.forall_mem_cons.mpr ⟨lw_p72, List.forall_mem_cons.mpr ⟨lw_p73, List.forall_mem_cons.mpr ⟨lw_p74, List.forall_mem_cons.mpr ⟨lw_p75, List.forall_mem_cons.mpr ⟨lw_p76, List.forall_mem_cons.mpr ⟨lw_p77, List.forall_mem_cons.mpr ⟨lw_p78, List.forall_mem_cons.mpr ⟨lw_p79, fun _ h => absurd h List.not_mem_nil⟩⟩⟩⟩⟩⟩⟩⟩⟩⟩⟩⟩⟩⟩⟩⟩
theorem lw_p80 : lw_okq (⟨"AuthorityBookModel", "writesWord", "(I)V"⟩, 43) := ⟨⟨by decide +kernel, by decide +kernel⟩, List.mem_of_getElem? (i := 953) (by decide +kernel), List.mem_of_getElem? (i := 1342) (by decide +kernel), List.mem_of_getElem? (i := 1343) (by decide +kernel)⟩
theorem lw_p81 : lw_okq (⟨"AuthorityBookModel", "writes", "(I)V"⟩, 43) := ⟨⟨by decide +kernel, by decide +kernel⟩, List.mem_of_getElem? (i := 953) (by decide +kernel), List.mem_of_getElem? (i := 1346) (by decide +kernel), List.mem_of_getElem? (i := 1347) (by decide +kernel)⟩
theorem lw_p82 : lw_okq (⟨"AuthorityBookModel", "writesNumber", "(I)V"⟩, 43) := ⟨⟨by decide +kernel, by decide +kernel⟩, List.mem_of_getElem? (i := 953) (by decide +kernel), List.mem_of_getElem? (i := 1350) (by decide +kernel), List.mem_of_getElem? (i := 1351) (by decide +kernel)⟩
theorem lw_p83 : lw_okq (⟨"AuthorityBookModel", "writesSet", "(I)V"⟩, 43) := ⟨⟨by decide +kernel, by decide +kernel⟩, List.mem_of_getElem? (i := 953) (by decide +kernel), List.mem_of_getElem? (i := 1354) (by decide +kernel), List.mem_of_getElem? (i := 1355) (by decide +kernel)⟩
theorem lw_p84 : lw_okq (⟨"AuthorityBookModel", "isFull", "()Z"⟩, 43) := ⟨⟨by decide +kernel, by decide +kernel⟩, List.mem_of_getElem? (i := 953) (by decide +kernel), List.mem_of_getElem? (i := 1362) (by decide +kernel), List.mem_of_getElem? (i := 1363) (by decide +kernel)⟩
theorem lw_p85 : lw_okq (⟨"AuthorityBookModel", "puts", "()I"⟩, 43) := ⟨⟨by decide +kernel, by decide +kernel⟩, List.mem_of_getElem? (i := 953) (by decide +kernel), List.mem_of_getElem? (i := 1366) (by decide +kernel), List.mem_of_getElem? (i := 1367) (by decide +kernel)⟩
def lw_privs_6 : List (MethodName × Nat) := [(⟨"AuthorityBookModel", "writesWord", "(I)V"⟩, 43), (⟨"AuthorityBookModel", "writes", "(I)V"⟩, 43), (⟨"AuthorityBookModel", "writesNumber", "(I)V"⟩, 43), (⟨"AuthorityBookModel", "writesSet", "(I)V"⟩, 43), (⟨"AuthorityBookModel", "isFull", "()Z"⟩, 43), (⟨"AuthorityBookModel", "puts", "()I"⟩, 43)]
theorem lw_r6 : ∀ q ∈ lw_privs_6, lw_okq q := List.forall_mem_cons.mpr ⟨lw_p80, List.forall_mem_cons.mpr ⟨lw_p81, List.forall_mem_cons.mpr ⟨lw_p82, List.forall_mem_cons.mpr ⟨lw_p83, List.forall_mem_cons.mpr ⟨lw_p84, List.forall_mem_cons.mpr ⟨lw_p85, fun _ h => absurd h List.not_mem_nil⟩⟩⟩⟩⟩⟩
def lw_privs : List (MethodName × Nat) := lw_privs_1 ++ (lw_privs_2 ++ (lw_privs_3 ++ (lw_privs_4 ++ (lw_privs_5 ++ (lw_privs_6)))))
def lw_tbl : List Cond := k2_sels lw_privs ++ tables_1
theorem lw_privs_ok : ∀ q ∈ lw_privs, lw_okq q := by
  show ∀ q ∈ lw_privs_1 ++ (lw_privs_2 ++ (lw_privs_3 ++ (lw_privs_4 ++ (lw_privs_5 ++ (lw_privs_6))))), lw_okq q
  exact List.forall_mem_append.mpr ⟨lw_r1, List.forall_mem_append.mpr ⟨lw_r2, List.forall_mem_append.mpr ⟨lw_r3, List.forall_mem_append.mpr ⟨lw_r4, List.forall_mem_append.mpr ⟨lw_r5, lw_r6⟩⟩⟩⟩⟩

def RX0 : String := "AuthorityBook$Act"
def TX0 : u_T := fun k => match k with
  | 0 => ("AuthorityBook$Act", "persons", "I", false)
  | 1 => ("AuthorityBook$Act", "party", "I", false)
  | 2 => ("AuthorityBook$Act", "third", "I", false)
  | 3 => ("AuthorityBook$Act", "kind", "I", false)
  | 4 => ("AuthorityBook$Act", "amount", "I", false)
  | 5 => ("AuthorityBook$Act", "moment", "I", false)
  | 6 => ("AuthorityBook$Act", "day", "I", false)
  | 7 => ("AuthorityBook$Act", "approvedAt", "I", false)
  | 8 => ("AuthorityBook$Act", "givenUpAt", "I", false)
  | 9 => ("AuthorityBook$Act", "how", "I", false)
  | 10 => ("AuthorityBook$Act", "usedPowers", "I", false)
  | _ => ("AuthorityBook$Act", "openPowers", "I", false)
def tyX0 : Nat → FieldType := fun k => match k with
  | 0 => .int
  | 1 => .int
  | 2 => .int
  | 3 => .int
  | 4 => .int
  | 5 => .int
  | 6 => .int
  | 7 => .int
  | 8 => .int
  | 9 => .int
  | 10 => .int
  | _ => .int
abbrev wsX00 : List Cond := u_ws RX0 TX0 12
theorem nmX0 : ∀ a, a < 12 → ∀ b, b < 12 → a ≠ b → (TX0 a).2.1 ≠ (TX0 b).2.1 := by decide +kernel
theorem tyX0_ok : ∀ k, k < 12 → parseFieldDescriptor (TX0 k).2.2.1 = some (tyX0 k) := by decide +kernel
abbrev cX0_init : ByteArray := prog_2_method_1_code
def yX0_init : MethodName := ⟨RX0, "<init>", "()V"⟩
abbrev cX0_howKnownAt : ByteArray := prog_2_method_2_code
def yX0_howKnownAt : MethodName := ⟨RX0, "howKnownAt", "(I)I"⟩
def RX1 : String := "AuthorityBook$Judge"
def TX1 : u_T := fun k => match k with
  | 0 => ("AuthorityBook$Judge", "within", "[I", true)
  | 1 => ("AuthorityBook$Judge", "next", "[I", true)
  | 2 => ("AuthorityBook$Judge", "told", "LAuthorityBook$Told;", false)
  | 3 => ("AuthorityBook$Judge", "open", "I", false)
  | 4 => ("AuthorityBook$Judge", "living", "I", false)
  | 5 => ("AuthorityBook$Judge", "persons", "I", false)
  | 6 => ("AuthorityBook$Judge", "first", "I", false)
  | _ => ("AuthorityBook$Judge", "used", "I", false)
def tyX1 : Nat → FieldType := fun k => match k with
  | 0 => .array .int
  | 1 => .array .int
  | 2 => .object "AuthorityBook$Told"
  | 3 => .int
  | 4 => .int
  | 5 => .int
  | 6 => .int
  | _ => .int
abbrev wsX10 : List Cond := u_ws RX1 TX1 8
theorem nmX1 : ∀ a, a < 8 → ∀ b, b < 8 → a ≠ b → (TX1 a).2.1 ≠ (TX1 b).2.1 := by decide +kernel
theorem tyX1_ok : ∀ k, k < 8 → parseFieldDescriptor (TX1 k).2.2.1 = some (tyX1 k) := by decide +kernel
abbrev cX1_init : ByteArray := prog_3_method_1_code
def yX1_init : MethodName := ⟨RX1, "<init>", "()V"⟩
abbrev cX1_weigh : ByteArray := prog_3_method_2_code
def yX1_weigh : MethodName := ⟨RX1, "weigh", "(LAuthorityBook$Told;IIII)V"⟩
abbrev cX1_weighFirms : ByteArray := prog_3_method_3_code
def yX1_weighFirms : MethodName := ⟨RX1, "weighFirms", "()V"⟩
abbrev cX1_takeNext : ByteArray := prog_3_method_4_code
def yX1_takeNext : MethodName := ⟨RX1, "takeNext", "()Z"⟩
abbrev cX1_usedBy : ByteArray := prog_3_method_5_code
def yX1_usedBy : MethodName := ⟨RX1, "usedBy", "(I)I"⟩
def RX2 : String := "AuthorityBook$Lexer"
def TX2 : u_T := fun k => match k with
  | 0 => ("AuthorityBook$Lexer", "tape", "LAuthorityBook$Tape;", true)
  | 1 => ("AuthorityBook$Lexer", "place", "I", false)
  | 2 => ("AuthorityBook$Lexer", "tokens", "[LAuthorityBook$Token;", true)
  | 3 => ("AuthorityBook$Lexer", "starts", "[I", true)
  | 4 => ("AuthorityBook$Lexer", "numbers", "[I", true)
  | _ => ("AuthorityBook$Lexer", "last", "I", false)
def tyX2 : Nat → FieldType := fun k => match k with
  | 0 => .object "AuthorityBook$Tape"
  | 1 => .int
  | 2 => .array (.object "AuthorityBook$Token")
  | 3 => .array .int
  | 4 => .array .int
  | _ => .int
abbrev wsX20 : List Cond := u_ws RX2 TX2 6
theorem nmX2 : ∀ a, a < 6 → ∀ b, b < 6 → a ≠ b → (TX2 a).2.1 ≠ (TX2 b).2.1 := by decide +kernel
theorem tyX2_ok : ∀ k, k < 6 → parseFieldDescriptor (TX2 k).2.2.1 = some (tyX2 k) := by decide +kernel
abbrev cX2_init : ByteArray := prog_4_method_1_code
def yX2_init : MethodName := ⟨RX2, "<init>", "(LAuthorityBook$Tape;)V"⟩
abbrev cX2_scan : ByteArray := prog_4_method_2_code
def yX2_scan : MethodName := ⟨RX2, "scan", "()V"⟩
abbrev cX2_findToken : ByteArray := prog_4_method_3_code
def yX2_findToken : MethodName := ⟨RX2, "findToken", "()V"⟩
abbrev cX2_sortOut : ByteArray := prog_4_method_4_code
def yX2_sortOut : MethodName := ⟨RX2, "sortOut", "(I)LAuthorityBook$Token;"⟩
abbrev cX2_wordFrom : ByteArray := prog_4_method_5_code
def yX2_wordFrom : MethodName := ⟨RX2, "wordFrom", "(I)LAuthorityBook$Token;"⟩
abbrev cX2_isWord : ByteArray := prog_4_method_6_code
def yX2_isWord : MethodName := ⟨RX2, "isWord", "(Ljava/lang/String;I)Z"⟩
abbrev cX2_isBlank : ByteArray := prog_4_method_7_code
def yX2_isBlank : MethodName := ⟨RX2, "isBlank", "(I)Z"⟩
abbrev cX2_isLetter : ByteArray := prog_4_method_8_code
def yX2_isLetter : MethodName := ⟨RX2, "isLetter", "(I)Z"⟩
abbrev cX2_isDigit : ByteArray := prog_4_method_9_code
def yX2_isDigit : MethodName := ⟨RX2, "isDigit", "(I)Z"⟩
def RX3 : String := "AuthorityBook$LineWriter"
def TX3 : u_T := fun k => match k with
  | 0 => ("AuthorityBook$LineWriter", "bytes", "[B", true)
  | _ => ("AuthorityBook$LineWriter", "length", "I", false)
def tyX3 : Nat → FieldType := fun k => match k with
  | 0 => .array .byte
  | _ => .int
abbrev wsX30 : List Cond := u_ws RX3 TX3 2
theorem nmX3 : ∀ a, a < 2 → ∀ b, b < 2 → a ≠ b → (TX3 a).2.1 ≠ (TX3 b).2.1 := by decide +kernel
theorem tyX3_ok : ∀ k, k < 2 → parseFieldDescriptor (TX3 k).2.2.1 = some (tyX3 k) := by decide +kernel
abbrev cX3_init : ByteArray := prog_5_method_1_code
def yX3_init : MethodName := ⟨RX3, "<init>", "()V"⟩
abbrev cX3_writeLine : ByteArray := prog_5_method_2_code
def yX3_writeLine : MethodName := ⟨RX3, "writeLine", "(LAuthorityBook$Power;)V"⟩
abbrev cX3_write : ByteArray := prog_5_method_3_code
def yX3_write : MethodName := ⟨RX3, "write", "(Ljava/lang/String;)V"⟩
abbrev cX3_writeBits : ByteArray := prog_5_method_4_code
def yX3_writeBits : MethodName := ⟨RX3, "writeBits", "(I)V"⟩
abbrev cX3_writeNumber : ByteArray := prog_5_method_5_code
def yX3_writeNumber : MethodName := ⟨RX3, "writeNumber", "(I)V"⟩
abbrev cX3_writeByte : ByteArray := prog_5_method_6_code
def yX3_writeByte : MethodName := ⟨RX3, "writeByte", "(I)V"⟩
def RX4 : String := "AuthorityBook$Log"
def TX4 : u_T := fun k => match k with
  | 0 => ("AuthorityBook$Log", "dayAt", "[I", true)
  | 1 => ("AuthorityBook$Log", "narrowed", "[I", true)
  | 2 => ("AuthorityBook$Log", "kindsTo", "[I", true)
  | 3 => ("AuthorityBook$Log", "mostTo", "[I", true)
  | 4 => ("AuthorityBook$Log", "diedAt", "[I", true)
  | 5 => ("AuthorityBook$Log", "moment", "I", false)
  | _ => ("AuthorityBook$Log", "day", "I", false)
def tyX4 : Nat → FieldType := fun k => match k with
  | 0 => .array .int
  | 1 => .array .int
  | 2 => .array .int
  | 3 => .array .int
  | 4 => .array .int
  | 5 => .int
  | _ => .int
abbrev wsX40 : List Cond := u_ws RX4 TX4 7
theorem nmX4 : ∀ a, a < 7 → ∀ b, b < 7 → a ≠ b → (TX4 a).2.1 ≠ (TX4 b).2.1 := by decide +kernel
theorem tyX4_ok : ∀ k, k < 7 → parseFieldDescriptor (TX4 k).2.2.1 = some (tyX4 k) := by decide +kernel
abbrev cX4_init : ByteArray := prog_6_method_1_code
def yX4_init : MethodName := ⟨RX4, "<init>", "()V"⟩
abbrev cX4_startAnew : ByteArray := prog_6_method_2_code
def yX4_startAnew : MethodName := ⟨RX4, "startAnew", "()V"⟩
abbrev cX4_isFull : ByteArray := prog_6_method_3_code
def yX4_isFull : MethodName := ⟨RX4, "isFull", "()Z"⟩
abbrev cX4_putDown : ByteArray := prog_6_method_4_code
def yX4_putDown : MethodName := ⟨RX4, "putDown", "()I"⟩
abbrev cX4_putNarrowing : ByteArray := prog_6_method_5_code
def yX4_putNarrowing : MethodName := ⟨RX4, "putNarrowing", "(III)I"⟩
abbrev cX4_narrowsOneOf : ByteArray := prog_6_method_6_code
def yX4_narrowsOneOf : MethodName := ⟨RX4, "narrowsOneOf", "(II)Z"⟩
abbrev cX4_deadBy : ByteArray := prog_6_method_7_code
def yX4_deadBy : MethodName := ⟨RX4, "deadBy", "(I)I"⟩
def RX5 : String := "AuthorityBook$Power"
def TX5 : u_T := fun k => match k with
  | 0 => ("AuthorityBook$Power", "giver", "I", false)
  | 1 => ("AuthorityBook$Power", "holders", "I", false)
  | 2 => ("AuthorityBook$Power", "together", "I", false)
  | 3 => ("AuthorityBook$Power", "kinds", "I", false)
  | 4 => ("AuthorityBook$Power", "most", "I", false)
  | 5 => ("AuthorityBook$Power", "till", "I", false)
  | 6 => ("AuthorityBook$Power", "sub", "Z", false)
  | 7 => ("AuthorityBook$Power", "under", "I", false)
  | 8 => ("AuthorityBook$Power", "upward", "I", false)
  | 9 => ("AuthorityBook$Power", "kindsLeft", "I", false)
  | 10 => ("AuthorityBook$Power", "mostLeft", "I", false)
  | 11 => ("AuthorityBook$Power", "endedAt", "I", false)
  | 12 => ("AuthorityBook$Power", "enteredAt", "I", false)
  | 13 => ("AuthorityBook$Power", "endEnteredAt", "I", false)
  | _ => ("AuthorityBook$Power", "noticed", "I", false)
def tyX5 : Nat → FieldType := fun k => match k with
  | 0 => .int
  | 1 => .int
  | 2 => .int
  | 3 => .int
  | 4 => .int
  | 5 => .int
  | 6 => .boolean
  | 7 => .int
  | 8 => .int
  | 9 => .int
  | 10 => .int
  | 11 => .int
  | 12 => .int
  | 13 => .int
  | _ => .int
abbrev wsX50 : List Cond := u_ws RX5 TX5 15
theorem nmX5 : ∀ a, a < 15 → ∀ b, b < 15 → a ≠ b → (TX5 a).2.1 ≠ (TX5 b).2.1 := by decide +kernel
theorem tyX5_ok : ∀ k, k < 15 → parseFieldDescriptor (TX5 k).2.2.1 = some (tyX5 k) := by decide +kernel
abbrev cX5_init : ByteArray := prog_7_method_1_code
def yX5_init : MethodName := ⟨RX5, "<init>", "()V"⟩
abbrev cX5_clear : ByteArray := prog_7_method_2_code
def yX5_clear : MethodName := ⟨RX5, "clear", "()V"⟩
abbrev cX5_permits : ByteArray := prog_7_method_3_code
def yX5_permits : MethodName := ⟨RX5, "permits", "(II)Z"⟩
abbrev cX5_seemsNotEnded : ByteArray := prog_7_method_4_code
def yX5_seemsNotEnded : MethodName := ⟨RX5, "seemsNotEnded", "(I)Z"⟩
def RX6 : String := "AuthorityBook$Tape"
def TX6 : u_T := fun k => match k with
  | 0 => ("AuthorityBook$Tape", "bytes", "[B", true)
  | _ => ("AuthorityBook$Tape", "length", "I", false)
def tyX6 : Nat → FieldType := fun k => match k with
  | 0 => .array .byte
  | _ => .int
abbrev wsX60 : List Cond := u_ws RX6 TX6 2
theorem nmX6 : ∀ a, a < 2 → ∀ b, b < 2 → a ≠ b → (TX6 a).2.1 ≠ (TX6 b).2.1 := by decide +kernel
theorem tyX6_ok : ∀ k, k < 2 → parseFieldDescriptor (TX6 k).2.2.1 = some (tyX6 k) := by decide +kernel
abbrev cX6_init : ByteArray := prog_8_method_1_code
def yX6_init : MethodName := ⟨RX6, "<init>", "()V"⟩
abbrev cX6_takesTwenty : ByteArray := prog_8_method_2_code
def yX6_takesTwenty : MethodName := ⟨RX6, "takesTwenty", "()Z"⟩
abbrev cX6_append : ByteArray := prog_8_method_3_code
def yX6_append : MethodName := ⟨RX6, "append", "(I)V"⟩
def RX7 : String := "AuthorityBook$TextReader"
def TX7 : u_T := fun k => match k with
  | 0 => ("AuthorityBook$TextReader", "lexer", "LAuthorityBook$Lexer;", true)
  | 1 => ("AuthorityBook$TextReader", "told", "LAuthorityBook$Told;", false)
  | 2 => ("AuthorityBook$TextReader", "at", "I", false)
  | 3 => ("AuthorityBook$TextReader", "token", "LAuthorityBook$Token;", false)
  | 4 => ("AuthorityBook$TextReader", "number", "I", false)
  | 5 => ("AuthorityBook$TextReader", "faultKind", "I", false)
  | _ => ("AuthorityBook$TextReader", "faultPlace", "I", false)
def tyX7 : Nat → FieldType := fun k => match k with
  | 0 => .object "AuthorityBook$Lexer"
  | 1 => .object "AuthorityBook$Told"
  | 2 => .int
  | 3 => .object "AuthorityBook$Token"
  | 4 => .int
  | 5 => .int
  | _ => .int
abbrev wsX70 : List Cond := u_ws RX7 TX7 7
theorem nmX7 : ∀ a, a < 7 → ∀ b, b < 7 → a ≠ b → (TX7 a).2.1 ≠ (TX7 b).2.1 := by decide +kernel
theorem tyX7_ok : ∀ k, k < 7 → parseFieldDescriptor (TX7 k).2.2.1 = some (tyX7 k) := by decide +kernel
abbrev cX7_init : ByteArray := prog_9_method_1_code
def yX7_init : MethodName := ⟨RX7, "<init>", "(LAuthorityBook$Tape;)V"⟩
abbrev cX7_readText : ByteArray := prog_9_method_2_code
def yX7_readText : MethodName := ⟨RX7, "readText", "(LAuthorityBook$Told;)Z"⟩
abbrev cX7_readLine : ByteArray := prog_9_method_3_code
def yX7_readLine : MethodName := ⟨RX7, "readLine", "()Z"⟩
abbrev cX7_readParty : ByteArray := prog_9_method_4_code
def yX7_readParty : MethodName := ⟨RX7, "readParty", "()Z"⟩
abbrev cX7_readPower : ByteArray := prog_9_method_5_code
def yX7_readPower : MethodName := ⟨RX7, "readPower", "()Z"⟩
abbrev cX7_readGiver : ByteArray := prog_9_method_6_code
def yX7_readGiver : MethodName := ⟨RX7, "readGiver", "(LAuthorityBook$Power;)Z"⟩
abbrev cX7_readUpper : ByteArray := prog_9_method_7_code
def yX7_readUpper : MethodName := ⟨RX7, "readUpper", "(LAuthorityBook$Power;)Z"⟩
abbrev cX7_readHolders : ByteArray := prog_9_method_8_code
def yX7_readHolders : MethodName := ⟨RX7, "readHolders", "(LAuthorityBook$Power;)Z"⟩
abbrev cX7_readTogether : ByteArray := prog_9_method_9_code
def yX7_readTogether : MethodName := ⟨RX7, "readTogether", "(LAuthorityBook$Power;)Z"⟩
abbrev cX7_readKinds : ByteArray := prog_9_method_10_code
def yX7_readKinds : MethodName := ⟨RX7, "readKinds", "(LAuthorityBook$Power;)Z"⟩
abbrev cX7_readRest : ByteArray := prog_9_method_11_code
def yX7_readRest : MethodName := ⟨RX7, "readRest", "(LAuthorityBook$Power;)Z"⟩
abbrev cX7_take : ByteArray := prog_9_method_12_code
def yX7_take : MethodName := ⟨RX7, "take", "(LAuthorityBook$Token;)Z"⟩
abbrev cX7_refuse : ByteArray := prog_9_method_13_code
def yX7_refuse : MethodName := ⟨RX7, "refuse", "(I)Z"⟩
abbrev cX7_goTo : ByteArray := prog_9_method_14_code
def yX7_goTo : MethodName := ⟨RX7, "goTo", "(I)V"⟩
def RX8 : String := "AuthorityBook$Token"
def TX8 : u_T := fun k => match k with
  | _ => ("", "", "", false)
def tyX8 : Nat → FieldType := fun k => match k with
  | _ => .int
abbrev wsX80 : List Cond := u_ws RX8 TX8 0
theorem nmX8 : ∀ a, a < 0 → ∀ b, b < 0 → a ≠ b → (TX8 a).2.1 ≠ (TX8 b).2.1 := by decide +kernel
theorem tyX8_ok : ∀ k, k < 0 → parseFieldDescriptor (TX8 k).2.2.1 = some (tyX8 k) := by decide +kernel
def RX9 : String := "AuthorityBook$Told"
def TX9 : u_T := fun k => match k with
  | 0 => ("AuthorityBook$Told", "powers", "[LAuthorityBook$Power;", true)
  | 1 => ("AuthorityBook$Told", "partyCount", "I", false)
  | 2 => ("AuthorityBook$Told", "powerCount", "I", false)
  | _ => ("AuthorityBook$Told", "firms", "I", false)
def tyX9 : Nat → FieldType := fun k => match k with
  | 0 => .array (.object "AuthorityBook$Power")
  | 1 => .int
  | 2 => .int
  | _ => .int
abbrev wsX90 : List Cond := u_ws RX9 TX9 4
theorem nmX9 : ∀ a, a < 4 → ∀ b, b < 4 → a ≠ b → (TX9 a).2.1 ≠ (TX9 b).2.1 := by decide +kernel
theorem tyX9_ok : ∀ k, k < 4 → parseFieldDescriptor (TX9 k).2.2.1 = some (tyX9 k) := by decide +kernel
abbrev cX9_init : ByteArray := prog_11_method_1_code
def yX9_init : MethodName := ⟨RX9, "<init>", "()V"⟩
abbrev cX9_clear : ByteArray := prog_11_method_2_code
def yX9_clear : MethodName := ⟨RX9, "clear", "()V"⟩
abbrev cX9_withAllUnder : ByteArray := prog_11_method_3_code
def yX9_withAllUnder : MethodName := ⟨RX9, "withAllUnder", "(I)I"⟩
def RX10 : String := "AuthorityBook"
def TX10 : u_T := fun k => match k with
  | 0 => ("AuthorityBook", "tape", "LAuthorityBook$Tape;", true)
  | 1 => ("AuthorityBook", "reader", "LAuthorityBook$TextReader;", true)
  | 2 => ("AuthorityBook", "log", "LAuthorityBook$Log;", true)
  | 3 => ("AuthorityBook", "judge", "LAuthorityBook$Judge;", true)
  | 4 => ("AuthorityBook", "writer", "LAuthorityBook$LineWriter;", true)
  | 5 => ("AuthorityBook", "acts", "[LAuthorityBook$Act;", true)
  | 6 => ("AuthorityBook", "actCount", "I", false)
  | 7 => ("AuthorityBook", "faultKind", "I", false)
  | 8 => ("AuthorityBook", "told", "LAuthorityBook$Told;", false)
  | _ => ("AuthorityBook", "spare", "LAuthorityBook$Told;", false)
def tyX10 : Nat → FieldType := fun k => match k with
  | 0 => .object "AuthorityBook$Tape"
  | 1 => .object "AuthorityBook$TextReader"
  | 2 => .object "AuthorityBook$Log"
  | 3 => .object "AuthorityBook$Judge"
  | 4 => .object "AuthorityBook$LineWriter"
  | 5 => .array (.object "AuthorityBook$Act")
  | 6 => .int
  | 7 => .int
  | 8 => .object "AuthorityBook$Told"
  | _ => .object "AuthorityBook$Told"
abbrev wsX100 : List Cond := u_ws RX10 TX10 10
theorem nmX10 : ∀ a, a < 10 → ∀ b, b < 10 → a ≠ b → (TX10 a).2.1 ≠ (TX10 b).2.1 := by decide +kernel
theorem tyX10_ok : ∀ k, k < 10 → parseFieldDescriptor (TX10 k).2.2.1 = some (tyX10 k) := by decide +kernel
abbrev cX10_init : ByteArray := prog_1_method_1_code
def yX10_init : MethodName := ⟨RX10, "<init>", "()V"⟩
abbrev cX10_feed : ByteArray := prog_1_method_2_code
def yX10_feed : MethodName := ⟨RX10, "feed", "(IIIII)I"⟩
abbrev cX10_end : ByteArray := prog_1_method_3_code
def yX10_end : MethodName := ⟨RX10, "end", "(I)Z"⟩
abbrev cX10_text : ByteArray := prog_1_method_4_code
def yX10_text : MethodName := ⟨RX10, "text", "()I"⟩
abbrev cX10_fault : ByteArray := prog_1_method_5_code
def yX10_fault : MethodName := ⟨RX10, "fault", "()I"⟩
abbrev cX10_now : ByteArray := prog_1_method_6_code
def yX10_now : MethodName := ⟨RX10, "now", "(I)I"⟩
abbrev cX10_power : ByteArray := prog_1_method_7_code
def yX10_power : MethodName := ⟨RX10, "power", "(II)I"⟩
abbrev cX10_scope : ByteArray := prog_1_method_8_code
def yX10_scope : MethodName := ⟨RX10, "scope", "(III)I"⟩
abbrev cX10_over : ByteArray := prog_1_method_9_code
def yX10_over : MethodName := ⟨RX10, "over", "(I)I"⟩
abbrev cX10_entry : ByteArray := prog_1_method_10_code
def yX10_entry : MethodName := ⟨RX10, "entry", "(II)I"⟩
abbrev cX10_letter : ByteArray := prog_1_method_11_code
def yX10_letter : MethodName := ⟨RX10, "letter", "(II)I"⟩
abbrev cX10_act : ByteArray := prog_1_method_12_code
def yX10_act : MethodName := ⟨RX10, "act", "(II)I"⟩
abbrev cX10_binds : ByteArray := prog_1_method_13_code
def yX10_binds : MethodName := ⟨RX10, "binds", "(II)I"⟩
abbrev cX10_used : ByteArray := prog_1_method_14_code
def yX10_used : MethodName := ⟨RX10, "used", "(I)I"⟩
abbrev cX10_hang : ByteArray := prog_1_method_15_code
def yX10_hang : MethodName := ⟨RX10, "hang", "(I)I"⟩
abbrev cX10_bound : ByteArray := prog_1_method_16_code
def yX10_bound : MethodName := ⟨RX10, "bound", "(II)I"⟩
abbrev cX10_can : ByteArray := prog_1_method_17_code
def yX10_can : MethodName := ⟨RX10, "can", "(IIII)I"⟩
abbrev cX10_upTo : ByteArray := prog_1_method_18_code
def yX10_upTo : MethodName := ⟨RX10, "upTo", "(III)I"⟩
abbrev cX10_alone : ByteArray := prog_1_method_19_code
def yX10_alone : MethodName := ⟨RX10, "alone", "(III)I"⟩
abbrev cX10_fewest : ByteArray := prog_1_method_20_code
def yX10_fewest : MethodName := ⟨RX10, "fewest", "(III)I"⟩
abbrev cX10_narrow : ByteArray := prog_1_method_21_code
def yX10_narrow : MethodName := ⟨RX10, "narrow", "(III)I"⟩
abbrev cX10_finish : ByteArray := prog_1_method_22_code
def yX10_finish : MethodName := ⟨RX10, "finish", "(I)I"⟩
abbrev cX10_enter : ByteArray := prog_1_method_23_code
def yX10_enter : MethodName := ⟨RX10, "enter", "(IZ)I"⟩
abbrev cX10_enterStart : ByteArray := prog_1_method_24_code
def yX10_enterStart : MethodName := ⟨RX10, "enterStart", "(LAuthorityBook$Power;)I"⟩
abbrev cX10_enterEnd : ByteArray := prog_1_method_25_code
def yX10_enterEnd : MethodName := ⟨RX10, "enterEnd", "(LAuthorityBook$Power;)I"⟩
abbrev cX10_notice : ByteArray := prog_1_method_26_code
def yX10_notice : MethodName := ⟨RX10, "notice", "(II)I"⟩
abbrev cX10_die : ByteArray := prog_1_method_27_code
def yX10_die : MethodName := ⟨RX10, "die", "(I)I"⟩
abbrev cX10_does : ByteArray := prog_1_method_28_code
def yX10_does : MethodName := ⟨RX10, "does", "(IIIII)I"⟩
abbrev cX10_approve : ByteArray := prog_1_method_29_code
def yX10_approve : MethodName := ⟨RX10, "approve", "(I)I"⟩
abbrev cX10_giveUp : ByteArray := prog_1_method_30_code
def yX10_giveUp : MethodName := ⟨RX10, "giveUp", "(I)I"⟩
abbrev cX10_days : ByteArray := prog_1_method_31_code
def yX10_days : MethodName := ⟨RX10, "days", "(I)I"⟩
abbrev cX10_isParty : ByteArray := prog_1_method_32_code
def yX10_isParty : MethodName := ⟨RX10, "isParty", "(I)Z"⟩
abbrev cX10_isPower : ByteArray := prog_1_method_33_code
def yX10_isPower : MethodName := ⟨RX10, "isPower", "(I)Z"⟩
abbrev cX10_isAct : ByteArray := prog_1_method_34_code
def yX10_isAct : MethodName := ⟨RX10, "isAct", "(I)Z"⟩
abbrev cX10_isMoment : ByteArray := prog_1_method_35_code
def yX10_isMoment : MethodName := ⟨RX10, "isMoment", "(I)Z"⟩
abbrev cX10_isKind : ByteArray := prog_1_method_36_code
def yX10_isKind : MethodName := ⟨RX10, "isKind", "(I)Z"⟩
abbrev cX10_isAmount : ByteArray := prog_1_method_37_code
def yX10_isAmount : MethodName := ⟨RX10, "isAmount", "(I)Z"⟩
abbrev cX10_mayActFor : ByteArray := prog_1_method_38_code
def yX10_mayActFor : MethodName := ⟨RX10, "mayActFor", "(II)Z"⟩
abbrev cX10_actorsFor : ByteArray := prog_1_method_39_code
def yX10_actorsFor : MethodName := ⟨RX10, "actorsFor", "(I)I"⟩
abbrev cX10_has : ByteArray := prog_1_method_40_code
def yX10_has : MethodName := ⟨RX10, "has", "(II)Z"⟩
abbrev cX10_reason : ByteArray := prog_1_method_41_code
def yX10_reason : MethodName := ⟨RX10, "reason", "(LAuthorityBook$Power;ZII)I"⟩
abbrev cX10_reasonAt : ByteArray := prog_1_method_42_code
def yX10_reasonAt : MethodName := ⟨RX10, "reasonAt", "(LAuthorityBook$Power;II)I"⟩
abbrev cX10_liveAt : ByteArray := prog_1_method_43_code
def yX10_liveAt : MethodName := ⟨RX10, "liveAt", "(III)Z"⟩
abbrev cX10_wasLive : ByteArray := prog_1_method_44_code
def yX10_wasLive : MethodName := ⟨RX10, "wasLive", "(II)Z"⟩
abbrev cX10_kindsAt : ByteArray := prog_1_method_45_code
def yX10_kindsAt : MethodName := ⟨RX10, "kindsAt", "(II)I"⟩
abbrev cX10_mostAt : ByteArray := prog_1_method_46_code
def yX10_mostAt : MethodName := ⟨RX10, "mostAt", "(II)I"⟩
abbrev cX10_openPowers : ByteArray := prog_1_method_47_code
def yX10_openPowers : MethodName := ⟨RX10, "openPowers", "(III)I"⟩
abbrev cX10_weighNow : ByteArray := prog_1_method_48_code
def yX10_weighNow : MethodName := ⟨RX10, "weighNow", "(III)V"⟩
abbrev cX10_judgeNow : ByteArray := prog_1_method_49_code
def yX10_judgeNow : MethodName := ⟨RX10, "judgeNow", "(LAuthorityBook$Act;)V"⟩
def RX11 : String := "AuthorityBookModel"
def TX11 : u_T := fun k => match k with
  | 0 => ("AuthorityBookModel", "thrown", "I", false)
  | 1 => ("AuthorityBookModel", "tape", "[I", true)
  | 2 => ("AuthorityBookModel", "taped", "I", false)
  | 3 => ("AuthorityBookModel", "size", "I", false)
  | 4 => ("AuthorityBookModel", "to", "I", false)
  | 5 => ("AuthorityBookModel", "from", "I", false)
  | 6 => ("AuthorityBookModel", "sort", "I", false)
  | 7 => ("AuthorityBookModel", "number", "I", false)
  | 8 => ("AuthorityBookModel", "fault", "I", false)
  | 9 => ("AuthorityBookModel", "place", "I", false)
  | 10 => ("AuthorityBookModel", "word", "J", false)
  | 11 => ("AuthorityBookModel", "powers", "[I", true)
  | 12 => ("AuthorityBookModel", "powersRead", "[I", true)
  | 13 => ("AuthorityBookModel", "partyMany", "I", false)
  | 14 => ("AuthorityBookModel", "firms", "I", false)
  | 15 => ("AuthorityBookModel", "powerMany", "I", false)
  | 16 => ("AuthorityBookModel", "partiesRead", "I", false)
  | 17 => ("AuthorityBookModel", "firmsRead", "I", false)
  | 18 => ("AuthorityBookModel", "powerRead", "I", false)
  | 19 => ("AuthorityBookModel", "dayOf", "[I", true)
  | 20 => ("AuthorityBookModel", "entries", "[I", true)
  | 21 => ("AuthorityBookModel", "notices", "[I", true)
  | 22 => ("AuthorityBookModel", "diedAt", "[I", true)
  | 23 => ("AuthorityBookModel", "narrowPower", "[I", true)
  | 24 => ("AuthorityBookModel", "narrowKinds", "[I", true)
  | 25 => ("AuthorityBookModel", "narrowMost", "[I", true)
  | 26 => ("AuthorityBookModel", "acts", "[I", true)
  | 27 => ("AuthorityBookModel", "moment", "I", false)
  | 28 => ("AuthorityBookModel", "day", "I", false)
  | 29 => ("AuthorityBookModel", "actMany", "I", false)
  | 30 => ("AuthorityBookModel", "asOf", "I", false)
  | 31 => ("AuthorityBookModel", "onDay", "I", false)
  | 32 => ("AuthorityBookModel", "without", "I", false)
  | 33 => ("AuthorityBookModel", "third", "I", false)
  | 34 => ("AuthorityBookModel", "whyNow", "[I", true)
  | 35 => ("AuthorityBookModel", "kindsNow", "[I", true)
  | 36 => ("AuthorityBookModel", "mostNow", "[I", true)
  | 37 => ("AuthorityBookModel", "askPersons", "I", false)
  | 38 => ("AuthorityBookModel", "askKind", "I", false)
  | 39 => ("AuthorityBookModel", "askMuch", "I", false)
  | 40 => ("AuthorityBookModel", "answers", "[I", true)
  | 41 => ("AuthorityBookModel", "line", "[I", true)
  | _ => ("AuthorityBookModel", "lined", "I", false)
def tyX11 : Nat → FieldType := fun k => match k with
  | 0 => .int
  | 1 => .array .int
  | 2 => .int
  | 3 => .int
  | 4 => .int
  | 5 => .int
  | 6 => .int
  | 7 => .int
  | 8 => .int
  | 9 => .int
  | 10 => .long
  | 11 => .array .int
  | 12 => .array .int
  | 13 => .int
  | 14 => .int
  | 15 => .int
  | 16 => .int
  | 17 => .int
  | 18 => .int
  | 19 => .array .int
  | 20 => .array .int
  | 21 => .array .int
  | 22 => .array .int
  | 23 => .array .int
  | 24 => .array .int
  | 25 => .array .int
  | 26 => .array .int
  | 27 => .int
  | 28 => .int
  | 29 => .int
  | 30 => .int
  | 31 => .int
  | 32 => .int
  | 33 => .int
  | 34 => .array .int
  | 35 => .array .int
  | 36 => .array .int
  | 37 => .int
  | 38 => .int
  | 39 => .int
  | 40 => .array .int
  | 41 => .array .int
  | _ => .int
abbrev wsX110 : List Cond := u_ws RX11 TX11 43
theorem nmX11 : ∀ a, a < 43 → ∀ b, b < 43 → a ≠ b → (TX11 a).2.1 ≠ (TX11 b).2.1 := by decide +kernel
theorem tyX11_ok : ∀ k, k < 43 → parseFieldDescriptor (TX11 k).2.2.1 = some (tyX11 k) := by decide +kernel
abbrev cX11_thrown : ByteArray := prog_13_method_1_code
def yX11_thrown : MethodName := ⟨RX11, "thrown", "()I"⟩
abbrev cX11_refuse : ByteArray := prog_13_method_2_code
def yX11_refuse : MethodName := ⟨RX11, "refuse", "()I"⟩
abbrev cX11_isIn : ByteArray := prog_13_method_3_code
def yX11_isIn : MethodName := ⟨RX11, "isIn", "(III)Z"⟩
abbrev cX11_has : ByteArray := prog_13_method_4_code
def yX11_has : MethodName := ⟨RX11, "has", "(II)Z"⟩
abbrev cX11_bits : ByteArray := prog_13_method_5_code
def yX11_bits : MethodName := ⟨RX11, "bits", "(I)I"⟩
abbrev cX11_lays : ByteArray := prog_13_method_6_code
def yX11_lays : MethodName := ⟨RX11, "lays", "(I)V"⟩
abbrev cX11_feed : ByteArray := prog_13_method_7_code
def yX11_feed : MethodName := ⟨RX11, "feed", "(IIIII)I"⟩
abbrev cX11_end : ByteArray := prog_13_method_8_code
def yX11_end : MethodName := ⟨RX11, "end", "(I)Z"⟩
abbrev cX11_tapeAt : ByteArray := prog_13_method_9_code
def yX11_tapeAt : MethodName := ⟨RX11, "tapeAt", "(I)I"⟩
abbrev cX11_isDigit : ByteArray := prog_13_method_10_code
def yX11_isDigit : MethodName := ⟨RX11, "isDigit", "(I)Z"⟩
abbrev cX11_isLetter : ByteArray := prog_13_method_11_code
def yX11_isLetter : MethodName := ⟨RX11, "isLetter", "(I)Z"⟩
abbrev cX11_go : ByteArray := prog_13_method_12_code
def yX11_go : MethodName := ⟨RX11, "go", "()V"⟩
abbrev cX11_letterOf : ByteArray := prog_13_method_13_code
def yX11_letterOf : MethodName := ⟨RX11, "letterOf", "(II)I"⟩
abbrev cX11_is : ByteArray := prog_13_method_14_code
def yX11_is : MethodName := ⟨RX11, "is", "(I)Z"⟩
abbrev cX11_bad : ByteArray := prog_13_method_15_code
def yX11_bad : MethodName := ⟨RX11, "bad", "(I)Z"⟩
abbrev cX11_init : ByteArray := prog_13_method_16_code
def yX11_init : MethodName := ⟨RX11, "<init>", "()V"⟩
abbrev cX11_readParty : ByteArray := prog_13_method_17_code
def yX11_readParty : MethodName := ⟨RX11, "readParty", "()Z"⟩
abbrev cX11_readWord : ByteArray := prog_13_method_18_code
def yX11_readWord : MethodName := ⟨RX11, "readWord", "(I)Z"⟩
abbrev cX11_readGiver : ByteArray := prog_13_method_19_code
def yX11_readGiver : MethodName := ⟨RX11, "readGiver", "(I)Z"⟩
abbrev cX11_readHolders : ByteArray := prog_13_method_20_code
def yX11_readHolders : MethodName := ⟨RX11, "readHolders", "(I)Z"⟩
abbrev cX11_readKinds : ByteArray := prog_13_method_21_code
def yX11_readKinds : MethodName := ⟨RX11, "readKinds", "(I)Z"⟩
abbrev cX11_readNumber : ByteArray := prog_13_method_22_code
def yX11_readNumber : MethodName := ⟨RX11, "readNumber", "(III)Z"⟩
abbrev cX11_readPower : ByteArray := prog_13_method_23_code
def yX11_readPower : MethodName := ⟨RX11, "readPower", "()Z"⟩
abbrev cX11_readLine : ByteArray := prog_13_method_24_code
def yX11_readLine : MethodName := ⟨RX11, "readLine", "()Z"⟩
abbrev cX11_readEnd : ByteArray := prog_13_method_25_code
def yX11_readEnd : MethodName := ⟨RX11, "readEnd", "()Z"⟩
abbrev cX11_text : ByteArray := prog_13_method_26_code
def yX11_text : MethodName := ⟨RX11, "text", "()I"⟩
abbrev cX11_fault : ByteArray := prog_13_method_27_code
def yX11_fault : MethodName := ⟨RX11, "fault", "()I"⟩
abbrev cX11_begins : ByteArray := prog_13_method_28_code
def yX11_begins : MethodName := ⟨RX11, "begins", "()V"⟩
abbrev cX11_puts : ByteArray := prog_13_method_29_code
def yX11_puts : MethodName := ⟨RX11, "puts", "()I"⟩
abbrev cX11_isPower : ByteArray := prog_13_method_30_code
def yX11_isPower : MethodName := ⟨RX11, "isPower", "(I)Z"⟩
abbrev cX11_isParty : ByteArray := prog_13_method_31_code
def yX11_isParty : MethodName := ⟨RX11, "isParty", "(I)Z"⟩
abbrev cX11_isMoment : ByteArray := prog_13_method_32_code
def yX11_isMoment : MethodName := ⟨RX11, "isMoment", "(I)Z"⟩
abbrev cX11_isAct : ByteArray := prog_13_method_33_code
def yX11_isAct : MethodName := ⟨RX11, "isAct", "(I)Z"⟩
abbrev cX11_isBy : ByteArray := prog_13_method_34_code
def yX11_isBy : MethodName := ⟨RX11, "isBy", "(II)Z"⟩
abbrev cX11_hasDied : ByteArray := prog_13_method_35_code
def yX11_hasDied : MethodName := ⟨RX11, "hasDied", "(II)Z"⟩
abbrev cX11_dead : ByteArray := prog_13_method_36_code
def yX11_dead : MethodName := ⟨RX11, "dead", "(I)I"⟩
abbrev cX11_now : ByteArray := prog_13_method_37_code
def yX11_now : MethodName := ⟨RX11, "now", "(I)I"⟩
abbrev cX11_power : ByteArray := prog_13_method_38_code
def yX11_power : MethodName := ⟨RX11, "power", "(II)I"⟩
abbrev cX11_sees : ByteArray := prog_13_method_39_code
def yX11_sees : MethodName := ⟨RX11, "sees", "(II)V"⟩
abbrev cX11_seesNow : ByteArray := prog_13_method_40_code
def yX11_seesNow : MethodName := ⟨RX11, "seesNow", "()V"⟩
abbrev cX11_isEnded : ByteArray := prog_13_method_41_code
def yX11_isEnded : MethodName := ⟨RX11, "isEnded", "(I)Z"⟩
abbrev cX11_whyOver : ByteArray := prog_13_method_42_code
def yX11_whyOver : MethodName := ⟨RX11, "whyOver", "(I)I"⟩
abbrev cX11_isLive : ByteArray := prog_13_method_43_code
def yX11_isLive : MethodName := ⟨RX11, "isLive", "(I)Z"⟩
abbrev cX11_laysView : ByteArray := prog_13_method_44_code
def yX11_laysView : MethodName := ⟨RX11, "laysView", "()V"⟩
abbrev cX11_scope : ByteArray := prog_13_method_45_code
def yX11_scope : MethodName := ⟨RX11, "scope", "(III)I"⟩
abbrev cX11_over : ByteArray := prog_13_method_46_code
def yX11_over : MethodName := ⟨RX11, "over", "(I)I"⟩
abbrev cX11_entry : ByteArray := prog_13_method_47_code
def yX11_entry : MethodName := ⟨RX11, "entry", "(II)I"⟩
abbrev cX11_asks : ByteArray := prog_13_method_48_code
def yX11_asks : MethodName := ⟨RX11, "asks", "(III)V"⟩
abbrev cX11_canBy : ByteArray := prog_13_method_49_code
def yX11_canBy : MethodName := ⟨RX11, "canBy", "(II)I"⟩
abbrev cX11_takesPart : ByteArray := prog_13_method_50_code
def yX11_takesPart : MethodName := ⟨RX11, "takesPart", "(II)Z"⟩
abbrev cX11_usedBy : ByteArray := prog_13_method_51_code
def yX11_usedBy : MethodName := ⟨RX11, "usedBy", "(II)I"⟩
abbrev cX11_can0 : ByteArray := prog_13_method_52_code
def yX11_can0 : MethodName := ⟨RX11, "can0", "(IIII)I"⟩
abbrev cX11_isAsked : ByteArray := prog_13_method_53_code
def yX11_isAsked : MethodName := ⟨RX11, "isAsked", "(IIII)Z"⟩
abbrev cX11_can : ByteArray := prog_13_method_54_code
def yX11_can : MethodName := ⟨RX11, "can", "(IIII)I"⟩
abbrev cX11_upTo : ByteArray := prog_13_method_55_code
def yX11_upTo : MethodName := ⟨RX11, "upTo", "(III)I"⟩
abbrev cX11_isKindAsked : ByteArray := prog_13_method_56_code
def yX11_isKindAsked : MethodName := ⟨RX11, "isKindAsked", "(III)Z"⟩
abbrev cX11_alone : ByteArray := prog_13_method_57_code
def yX11_alone : MethodName := ⟨RX11, "alone", "(III)I"⟩
abbrev cX11_fewest : ByteArray := prog_13_method_58_code
def yX11_fewest : MethodName := ⟨RX11, "fewest", "(III)I"⟩
abbrev cX11_its : ByteArray := prog_13_method_59_code
def yX11_its : MethodName := ⟨RX11, "its", "(II)I"⟩
abbrev cX11_act : ByteArray := prog_13_method_60_code
def yX11_act : MethodName := ⟨RX11, "act", "(II)I"⟩
abbrev cX11_couldThen : ByteArray := prog_13_method_61_code
def yX11_couldThen : MethodName := ⟨RX11, "couldThen", "(I)Z"⟩
abbrev cX11_bindsThen : ByteArray := prog_13_method_62_code
def yX11_bindsThen : MethodName := ⟨RX11, "bindsThen", "(I)I"⟩
abbrev cX11_bindsAt : ByteArray := prog_13_method_63_code
def yX11_bindsAt : MethodName := ⟨RX11, "bindsAt", "(II)I"⟩
abbrev cX11_binds : ByteArray := prog_13_method_64_code
def yX11_binds : MethodName := ⟨RX11, "binds", "(II)I"⟩
abbrev cX11_used : ByteArray := prog_13_method_65_code
def yX11_used : MethodName := ⟨RX11, "used", "(I)I"⟩
abbrev cX11_hang : ByteArray := prog_13_method_66_code
def yX11_hang : MethodName := ⟨RX11, "hang", "(I)I"⟩
abbrev cX11_bound : ByteArray := prog_13_method_67_code
def yX11_bound : MethodName := ⟨RX11, "bound", "(II)I"⟩
abbrev cX11_writes : ByteArray := prog_13_method_68_code
def yX11_writes : MethodName := ⟨RX11, "writes", "(I)V"⟩
abbrev cX11_writesWord : ByteArray := prog_13_method_69_code
def yX11_writesWord : MethodName := ⟨RX11, "writesWord", "(I)V"⟩
abbrev cX11_writesNumber : ByteArray := prog_13_method_70_code
def yX11_writesNumber : MethodName := ⟨RX11, "writesNumber", "(I)V"⟩
abbrev cX11_writesSet : ByteArray := prog_13_method_71_code
def yX11_writesSet : MethodName := ⟨RX11, "writesSet", "(I)V"⟩
abbrev cX11_laysLine : ByteArray := prog_13_method_72_code
def yX11_laysLine : MethodName := ⟨RX11, "laysLine", "(I)V"⟩
abbrev cX11_letter : ByteArray := prog_13_method_73_code
def yX11_letter : MethodName := ⟨RX11, "letter", "(II)I"⟩
abbrev cX11_isFull : ByteArray := prog_13_method_74_code
def yX11_isFull : MethodName := ⟨RX11, "isFull", "()Z"⟩
abbrev cX11_narrow : ByteArray := prog_13_method_75_code
def yX11_narrow : MethodName := ⟨RX11, "narrow", "(III)I"⟩
abbrev cX11_finish : ByteArray := prog_13_method_76_code
def yX11_finish : MethodName := ⟨RX11, "finish", "(I)I"⟩
abbrev cX11_enter : ByteArray := prog_13_method_77_code
def yX11_enter : MethodName := ⟨RX11, "enter", "(IZ)I"⟩
abbrev cX11_notice : ByteArray := prog_13_method_78_code
def yX11_notice : MethodName := ⟨RX11, "notice", "(II)I"⟩
abbrev cX11_die : ByteArray := prog_13_method_79_code
def yX11_die : MethodName := ⟨RX11, "die", "(I)I"⟩
abbrev cX11_does : ByteArray := prog_13_method_80_code
def yX11_does : MethodName := ⟨RX11, "does", "(IIIII)I"⟩
abbrev cX11_approve : ByteArray := prog_13_method_81_code
def yX11_approve : MethodName := ⟨RX11, "approve", "(I)I"⟩
abbrev cX11_giveUp : ByteArray := prog_13_method_82_code
def yX11_giveUp : MethodName := ⟨RX11, "giveUp", "(I)I"⟩
abbrev cX11_days : ByteArray := prog_13_method_83_code
def yX11_days : MethodName := ⟨RX11, "days", "(I)I"⟩
def RJx145de : String := "java/io/Serializable"
def RJx9f9b0 : String := "java/lang/CharSequence"
def RJxb160c : String := "java/lang/Comparable"
def RJx29ce0 : String := "java/lang/Enum"
def RJ6 : String := "java/lang/Integer"
abbrev cJ6_bitCount_0f7a4 : ByteArray := prog_19_method_49_code
def yJ6_bitCount_0f7a4 : MethodName := ⟨RJ6, "bitCount", "(I)I"⟩
def RJ9 : String := "java/lang/Math"
abbrev cJ9_min_7cf53 : ByteArray := prog_20_method_69_code
def yJ9_min_7cf53 : MethodName := ⟨RJ9, "min", "(II)I"⟩
def RJ0 : String := "java/lang/String"
abbrev cJ0_length_8abf5 : ByteArray := prog_22_method_54_code
def yJ0_length_8abf5 : MethodName := ⟨RJ0, "length", "()I"⟩
abbrev cJ0_charAt_5068e : ByteArray := prog_22_method_56_code
def yJ0_charAt_5068e : MethodName := ⟨RJ0, "charAt", "(I)C"⟩
abbrev cJ0_coder_7d493 : ByteArray := prog_22_method_152_code
def yJ0_coder_7d493 : MethodName := ⟨RJ0, "coder", "()B"⟩
abbrev cJ0_isLatin1_aae02 : ByteArray := prog_22_method_154_code
def yJ0_isLatin1_aae02 : MethodName := ⟨RJ0, "isLatin1", "()Z"⟩
abbrev cJ0_checkIndex_df160 : ByteArray := prog_22_method_155_code
def yJ0_checkIndex_df160 : MethodName := ⟨RJ0, "checkIndex", "(II)V"⟩
def RJ1 : String := "java/lang/StringLatin1"
abbrev cJ1_charAt_3b067 : ByteArray := prog_23_method_2_code
def yJ1_charAt_3b067 : MethodName := ⟨RJ1, "charAt", "([BI)C"⟩
def RJ2 : String := "java/lang/StringUTF16"
abbrev cJ2_getChar_3b067 : ByteArray := prog_24_method_5_code
def yJ2_getChar_3b067 : MethodName := ⟨RJ2, "getChar", "([BI)C"⟩
abbrev cJ2_length_9d52b : ByteArray := prog_24_method_6_code
def yJ2_length_9d52b : MethodName := ⟨RJ2, "length", "([B)I"⟩
abbrev cJ2_charAt_3b067 : ByteArray := prog_24_method_83_code
def yJ2_charAt_3b067 : MethodName := ⟨RJ2, "charAt", "([BI)C"⟩
abbrev cJ2_checkIndex_2214a : ByteArray := prog_24_method_91_code
def yJ2_checkIndex_2214a : MethodName := ⟨RJ2, "checkIndex", "(I[B)V"⟩
def RJxfd54e : String := "java/lang/constant/Constable"
def RJx3cf43 : String := "java/lang/constant/ConstantDesc"
def RJ7 : String := "java/util/Arrays"
abbrev cJ7_fill_53178 : ByteArray := prog_28_method_103_code
def yJ7_fill_53178 : MethodName := ⟨RJ7, "fill", "([II)V"⟩
def RJ3 : String := "jdk/internal/util/Preconditions"
abbrev cJ3_checkIndex_8e157 : ByteArray := prog_30_method_11_code
def yJ3_checkIndex_8e157 : MethodName := ⟨RJ3, "checkIndex", "(IILjava/util/function/BiFunction;)I"⟩
def RL : String := "AuthorityBookLaw"
abbrev cL_power : ByteArray := method_3_code
def yL_power : MethodName := ⟨RL, "power", "(LAuthorityBook;II[J)I"⟩
abbrev cL_act : ByteArray := method_4_code
def yL_act : MethodName := ⟨RL, "act", "(LAuthorityBook;II[J)I"⟩
abbrev cL_law : ByteArray := code
def yL_law : MethodName := ⟨RL, "law", "([I)Z"⟩
