-- ===== PART A: goes FIRST, ahead of the names: the tables' words, and 'selects' of the private methods out of them =====
/-- a private method of a class that the tables say can be made, by its rows of tables_1 -/
def lw_okq (q : MethodName × Nat) : Prop := (q.1.cls ≠ "java/lang/invoke/MethodHandle" ∧ q.1.cls ≠ "java/lang/invoke/VarHandle") ∧ Cond.instantiable q.1.cls q.2 ∈ tables_1 ∧ Cond.privateMethod q.1 ∈ tables_1 ∧ Cond.instanceMethod q.1 ∈ tables_1
theorem lw_p0 : lw_okq (⟨"TableCatalog", "putBytes", "(I)V"⟩, 16) := ⟨⟨by decide +kernel, by decide +kernel⟩, List.mem_of_getElem? (i := 20) (by decide +kernel), List.mem_of_getElem? (i := 289) (by decide +kernel), List.mem_of_getElem? (i := 290) (by decide +kernel)⟩
theorem lw_p1 : lw_okq (⟨"TableCatalog$Tokens", "readOne", "(I)I"⟩, 6) := ⟨⟨by decide +kernel, by decide +kernel⟩, List.mem_of_getElem? (i := 57) (by decide +kernel), List.mem_of_getElem? (i := 332) (by decide +kernel), List.mem_of_getElem? (i := 333) (by decide +kernel)⟩
theorem lw_p2 : lw_okq (⟨"TableCatalog$Tokens", "readWord", "(I)I"⟩, 6) := ⟨⟨by decide +kernel, by decide +kernel⟩, List.mem_of_getElem? (i := 57) (by decide +kernel), List.mem_of_getElem? (i := 339) (by decide +kernel), List.mem_of_getElem? (i := 340) (by decide +kernel)⟩
theorem lw_p3 : lw_okq (⟨"TableCatalog$Tokens", "kindOfWord", "(II)I"⟩, 6) := ⟨⟨by decide +kernel, by decide +kernel⟩, List.mem_of_getElem? (i := 57) (by decide +kernel), List.mem_of_getElem? (i := 344) (by decide +kernel), List.mem_of_getElem? (i := 345) (by decide +kernel)⟩
theorem lw_p4 : lw_okq (⟨"TableCatalog$Tokens", "isWord", "(Ljava/lang/String;II)Z"⟩, 6) := ⟨⟨by decide +kernel, by decide +kernel⟩, List.mem_of_getElem? (i := 57) (by decide +kernel), List.mem_of_getElem? (i := 349) (by decide +kernel), List.mem_of_getElem? (i := 350) (by decide +kernel)⟩
theorem lw_p5 : lw_okq (⟨"TableCatalog$Tokens", "put", "(III)I"⟩, 6) := ⟨⟨by decide +kernel, by decide +kernel⟩, List.mem_of_getElem? (i := 57) (by decide +kernel), List.mem_of_getElem? (i := 407) (by decide +kernel), List.mem_of_getElem? (i := 408) (by decide +kernel)⟩
theorem lw_p6 : lw_okq (⟨"TableCatalog$Tokens", "readQuote", "(I)I"⟩, 6) := ⟨⟨by decide +kernel, by decide +kernel⟩, List.mem_of_getElem? (i := 57) (by decide +kernel), List.mem_of_getElem? (i := 415) (by decide +kernel), List.mem_of_getElem? (i := 416) (by decide +kernel)⟩
theorem lw_p7 : lw_okq (⟨"TableCatalog$Parser", "readHead", "()Z"⟩, 3) := ⟨⟨by decide +kernel, by decide +kernel⟩, List.mem_of_getElem? (i := 45) (by decide +kernel), List.mem_of_getElem? (i := 434) (by decide +kernel), List.mem_of_getElem? (i := 435) (by decide +kernel)⟩
theorem lw_p8 : lw_okq (⟨"TableCatalog$Parser", "takeName", "()Z"⟩, 3) := ⟨⟨by decide +kernel, by decide +kernel⟩, List.mem_of_getElem? (i := 45) (by decide +kernel), List.mem_of_getElem? (i := 439) (by decide +kernel), List.mem_of_getElem? (i := 440) (by decide +kernel)⟩
theorem lw_p9 : lw_okq (⟨"TableCatalog$Parser", "readSource", "()Z"⟩, 3) := ⟨⟨by decide +kernel, by decide +kernel⟩, List.mem_of_getElem? (i := 45) (by decide +kernel), List.mem_of_getElem? (i := 443) (by decide +kernel), List.mem_of_getElem? (i := 444) (by decide +kernel)⟩
theorem lw_p10 : lw_okq (⟨"TableCatalog$Parser", "take", "(I)Z"⟩, 3) := ⟨⟨by decide +kernel, by decide +kernel⟩, List.mem_of_getElem? (i := 45) (by decide +kernel), List.mem_of_getElem? (i := 447) (by decide +kernel), List.mem_of_getElem? (i := 448) (by decide +kernel)⟩
theorem lw_p11 : lw_okq (⟨"TableCatalog$Parser", "takeType", "()Z"⟩, 3) := ⟨⟨by decide +kernel, by decide +kernel⟩, List.mem_of_getElem? (i := 45) (by decide +kernel), List.mem_of_getElem? (i := 452) (by decide +kernel), List.mem_of_getElem? (i := 453) (by decide +kernel)⟩
theorem lw_p12 : lw_okq (⟨"TableCatalog$Parser", "readResults", "()Z"⟩, 3) := ⟨⟨by decide +kernel, by decide +kernel⟩, List.mem_of_getElem? (i := 45) (by decide +kernel), List.mem_of_getElem? (i := 463) (by decide +kernel), List.mem_of_getElem? (i := 464) (by decide +kernel)⟩
theorem lw_p13 : lw_okq (⟨"TableCatalog$Parser", "readFormula", "(I)Z"⟩, 3) := ⟨⟨by decide +kernel, by decide +kernel⟩, List.mem_of_getElem? (i := 45) (by decide +kernel), List.mem_of_getElem? (i := 467) (by decide +kernel), List.mem_of_getElem? (i := 468) (by decide +kernel)⟩
theorem lw_p14 : lw_okq (⟨"TableCatalog$Parser", "readTerm", "(I)Z"⟩, 3) := ⟨⟨by decide +kernel, by decide +kernel⟩, List.mem_of_getElem? (i := 45) (by decide +kernel), List.mem_of_getElem? (i := 471) (by decide +kernel), List.mem_of_getElem? (i := 472) (by decide +kernel)⟩
theorem lw_p15 : lw_okq (⟨"TableCatalog$Parser", "takeConstant", "(I)Z"⟩, 3) := ⟨⟨by decide +kernel, by decide +kernel⟩, List.mem_of_getElem? (i := 45) (by decide +kernel), List.mem_of_getElem? (i := 480) (by decide +kernel), List.mem_of_getElem? (i := 481) (by decide +kernel)⟩
def lw_privs_1 : List (MethodName × Nat) := [(⟨"TableCatalog", "putBytes", "(I)V"⟩, 16), (⟨"TableCatalog$Tokens", "readOne", "(I)I"⟩, 6), (⟨"TableCatalog$Tokens", "readWord", "(I)I"⟩, 6), (⟨"TableCatalog$Tokens", "kindOfWord", "(II)I"⟩, 6), (⟨"TableCatalog$Tokens", "isWord", "(Ljava/lang/String;II)Z"⟩, 6), (⟨"TableCatalog$Tokens", "put", "(III)I"⟩, 6), (⟨"TableCatalog$Tokens", "readQuote", "(I)I"⟩, 6), (⟨"TableCatalog$Parser", "readHead", "()Z"⟩, 3), (⟨"TableCatalog$Parser", "takeName", "()Z"⟩, 3), (⟨"TableCatalog$Parser", "readSource", "()Z"⟩, 3), (⟨"TableCatalog$Parser", "take", "(I)Z"⟩, 3), (⟨"TableCatalog$Parser", "takeType", "()Z"⟩, 3), (⟨"TableCatalog$Parser", "readResults", "()Z"⟩, 3), (⟨"TableCatalog$Parser", "readFormula", "(I)Z"⟩, 3), (⟨"TableCatalog$Parser", "readTerm", "(I)Z"⟩, 3), (⟨"TableCatalog$Parser", "takeConstant", "(I)Z"⟩, 3)]
theorem lw_r1 : ∀ q ∈ lw_privs_1, lw_okq q := List.forall_mem_cons.mpr ⟨lw_p0, List.forall_mem_cons.mpr ⟨lw_p1, List.forall_mem_cons.mpr ⟨lw_p2, List.forall_mem_cons.mpr ⟨lw_p3, List.forall_mem_cons.mpr ⟨lw_p4, List.forall_mem_cons.mpr ⟨lw_p5, List.forall_mem_cons.mpr ⟨lw_p6, List.forall_mem_cons.mpr ⟨lw_p7, List.forall_mem_cons.mpr ⟨lw_p8, List.forall_mem_cons.mpr ⟨lw_p9, List.forall_mem_cons.mpr ⟨lw_p10, List.forall_mem_cons.mpr ⟨lw_p11, List.forall_mem_cons.mpr ⟨lw_p12, List.forall_mem_cons.mpr ⟨lw_p13, List.forall_mem_cons.mpr ⟨lw_p14, List.forall_mem_cons.mpr ⟨lw_p15, fun _ h => absurd h List.not_mem_nil⟩⟩⟩⟩⟩⟩⟩⟩⟩⟩⟩⟩⟩⟩⟩⟩
theorem lw_p16 : lw_okq (⟨"TableCatalog$Parser", "readBehind", "()Z"⟩, 3) := ⟨⟨by decide +kernel, by decide +kernel⟩, List.mem_of_getElem? (i := 45) (by decide +kernel), List.mem_of_getElem? (i := 492) (by decide +kernel), List.mem_of_getElem? (i := 493) (by decide +kernel)⟩
theorem lw_p17 : lw_okq (⟨"TableCatalog$Parser", "readWhere", "()Z"⟩, 3) := ⟨⟨by decide +kernel, by decide +kernel⟩, List.mem_of_getElem? (i := 45) (by decide +kernel), List.mem_of_getElem? (i := 496) (by decide +kernel), List.mem_of_getElem? (i := 497) (by decide +kernel)⟩
theorem lw_p18 : lw_okq (⟨"TableCatalog", "refuse", "(II)I"⟩, 16) := ⟨⟨by decide +kernel, by decide +kernel⟩, List.mem_of_getElem? (i := 20) (by decide +kernel), List.mem_of_getElem? (i := 504) (by decide +kernel), List.mem_of_getElem? (i := 505) (by decide +kernel)⟩
theorem lw_p19 : lw_okq (⟨"TableCatalog$Checker", "note", "(II)V"⟩, 3) := ⟨⟨by decide +kernel, by decide +kernel⟩, List.mem_of_getElem? (i := 180) (by decide +kernel), List.mem_of_getElem? (i := 517) (by decide +kernel), List.mem_of_getElem? (i := 518) (by decide +kernel)⟩
theorem lw_p20 : lw_okq (⟨"TableCatalog$Checker", "noteRepeats", "(LTableCatalog$Row;LTableCatalog$Tokens;)V"⟩, 3) := ⟨⟨by decide +kernel, by decide +kernel⟩, List.mem_of_getElem? (i := 180) (by decide +kernel), List.mem_of_getElem? (i := 521) (by decide +kernel), List.mem_of_getElem? (i := 522) (by decide +kernel)⟩
theorem lw_p21 : lw_okq (⟨"TableCatalog$Checker", "lookBehind", "(LTableCatalog$Draft;[LTableCatalog$Table;)V"⟩, 3) := ⟨⟨by decide +kernel, by decide +kernel⟩, List.mem_of_getElem? (i := 180) (by decide +kernel), List.mem_of_getElem? (i := 526) (by decide +kernel), List.mem_of_getElem? (i := 527) (by decide +kernel)⟩
theorem lw_p22 : lw_okq (⟨"TableCatalog$Checker", "columnItem", "(ILTableCatalog$Draft;[LTableCatalog$Table;)I"⟩, 3) := ⟨⟨by decide +kernel, by decide +kernel⟩, List.mem_of_getElem? (i := 180) (by decide +kernel), List.mem_of_getElem? (i := 531) (by decide +kernel), List.mem_of_getElem? (i := 532) (by decide +kernel)⟩
theorem lw_p23 : lw_okq (⟨"TableCatalog$Checker", "noteTypes", "(LTableCatalog$Draft;[I)V"⟩, 3) := ⟨⟨by decide +kernel, by decide +kernel⟩, List.mem_of_getElem? (i := 180) (by decide +kernel), List.mem_of_getElem? (i := 543) (by decide +kernel), List.mem_of_getElem? (i := 544) (by decide +kernel)⟩
theorem lw_p24 : lw_okq (⟨"TableCatalog$Typing", "push", "(I)V"⟩, 3) := ⟨⟨by decide +kernel, by decide +kernel⟩, List.mem_of_getElem? (i := 186) (by decide +kernel), List.mem_of_getElem? (i := 560) (by decide +kernel), List.mem_of_getElem? (i := 561) (by decide +kernel)⟩
theorem lw_p25 : lw_okq (⟨"TableCatalog$Typing", "resultOf", "(II)I"⟩, 3) := ⟨⟨by decide +kernel, by decide +kernel⟩, List.mem_of_getElem? (i := 186) (by decide +kernel), List.mem_of_getElem? (i := 564) (by decide +kernel), List.mem_of_getElem? (i := 565) (by decide +kernel)⟩
theorem lw_p26 : lw_okq (⟨"TableCatalog$Typing", "pop", "()I"⟩, 3) := ⟨⟨by decide +kernel, by decide +kernel⟩, List.mem_of_getElem? (i := 186) (by decide +kernel), List.mem_of_getElem? (i := 568) (by decide +kernel), List.mem_of_getElem? (i := 569) (by decide +kernel)⟩
theorem lw_p27 : lw_okq (⟨"TableCatalog$Typing", "noteUnlike", "(III)V"⟩, 3) := ⟨⟨by decide +kernel, by decide +kernel⟩, List.mem_of_getElem? (i := 186) (by decide +kernel), List.mem_of_getElem? (i := 572) (by decide +kernel), List.mem_of_getElem? (i := 573) (by decide +kernel)⟩
theorem lw_p28 : lw_okq (⟨"TableCatalog$Typing", "noteBad", "(I)V"⟩, 3) := ⟨⟨by decide +kernel, by decide +kernel⟩, List.mem_of_getElem? (i := 186) (by decide +kernel), List.mem_of_getElem? (i := 576) (by decide +kernel), List.mem_of_getElem? (i := 577) (by decide +kernel)⟩
theorem lw_p29 : lw_okq (⟨"TableCatalog$Typing", "operated", "(IIII)I"⟩, 3) := ⟨⟨by decide +kernel, by decide +kernel⟩, List.mem_of_getElem? (i := 186) (by decide +kernel), List.mem_of_getElem? (i := 580) (by decide +kernel), List.mem_of_getElem? (i := 581) (by decide +kernel)⟩
theorem lw_p30 : lw_okq (⟨"TableCatalog", "addTable", "(LTableCatalog$Draft;)I"⟩, 16) := ⟨⟨by decide +kernel, by decide +kernel⟩, List.mem_of_getElem? (i := 20) (by decide +kernel), List.mem_of_getElem? (i := 584) (by decide +kernel), List.mem_of_getElem? (i := 585) (by decide +kernel)⟩
theorem lw_p31 : lw_okq (⟨"TableCatalog", "settleViews", "()V"⟩, 16) := ⟨⟨by decide +kernel, by decide +kernel⟩, List.mem_of_getElem? (i := 20) (by decide +kernel), List.mem_of_getElem? (i := 672) (by decide +kernel), List.mem_of_getElem? (i := 673) (by decide +kernel)⟩
def lw_privs_2 : List (MethodName × Nat) := [(⟨"TableCatalog$Parser", "readBehind", "()Z"⟩, 3), (⟨"TableCatalog$Parser", "readWhere", "()Z"⟩, 3), (⟨"TableCatalog", "refuse", "(II)I"⟩, 16), (⟨"TableCatalog$Checker", "note", "(II)V"⟩, 3), (⟨"TableCatalog$Checker", "noteRepeats", "(LTableCatalog$Row;LTableCatalog$Tokens;)V"⟩, 3), (⟨"TableCatalog$Checker", "lookBehind", "(LTableCatalog$Draft;[LTableCatalog$Table;)V"⟩, 3), (⟨"TableCatalog$Checker", "columnItem", "(ILTableCatalog$Draft;[LTableCatalog$Table;)I"⟩, 3), (⟨"TableCatalog$Checker", "noteTypes", "(LTableCatalog$Draft;[I)V"⟩, 3), (⟨"TableCatalog$Typing", "push", "(I)V"⟩, 3), (⟨"TableCatalog$Typing", "resultOf", "(II)I"⟩, 3), (⟨"TableCatalog$Typing", "pop", "()I"⟩, 3), (⟨"TableCatalog$Typing", "noteUnlike", "(III)V"⟩, 3), (⟨"TableCatalog$Typing", "noteBad", "(I)V"⟩, 3), (⟨"TableCatalog$Typing", "operated", "(IIII)I"⟩, 3), (⟨"TableCatalog", "addTable", "(LTableCatalog$Draft;)I"⟩, 16), (⟨"TableCatalog", "settleViews", "()V"⟩, 16)]
theorem lw_r2 : ∀ q ∈ lw_privs_2, lw_okq q := List.forall_mem_cons.mpr ⟨lw_p16, List.forall_mem_cons.mpr ⟨lw_p17, List.forall_mem_cons.mpr ⟨lw_p18, List.forall_mem_cons.mpr ⟨lw_p19, List.forall_mem_cons.mpr ⟨lw_p20, List.forall_mem_cons.mpr ⟨lw_p21, List.forall_mem_cons.mpr ⟨lw_p22, List.forall_mem_cons.mpr ⟨lw_p23, List.forall_mem_cons.mpr ⟨lw_p24, List.forall_mem_cons.mpr ⟨lw_p25, List.forall_mem_cons.mpr ⟨lw_p26, List.forall_mem_cons.mpr ⟨lw_p27, List.forall_mem_cons.mpr ⟨lw_p28, List.forall_mem_cons.mpr ⟨lw_p29, List.forall_mem_cons.mpr ⟨lw_p30, List.forall_mem_cons.mpr ⟨lw_p31, fun _ h => absurd h List.not_mem_nil⟩⟩⟩⟩⟩⟩⟩⟩⟩⟩⟩⟩⟩⟩⟩⟩
theorem lw_p32 : lw_okq (⟨"TableCatalog", "takeAgeFromBehind", "(LTableCatalog$Table;)Z"⟩, 16) := ⟨⟨by decide +kernel, by decide +kernel⟩, List.mem_of_getElem? (i := 20) (by decide +kernel), List.mem_of_getElem? (i := 676) (by decide +kernel), List.mem_of_getElem? (i := 677) (by decide +kernel)⟩
theorem lw_p33 : lw_okq (⟨"TableCatalog", "tableAt", "(I)LTableCatalog$Table;"⟩, 16) := ⟨⟨by decide +kernel, by decide +kernel⟩, List.mem_of_getElem? (i := 20) (by decide +kernel), List.mem_of_getElem? (i := 680) (by decide +kernel), List.mem_of_getElem? (i := 681) (by decide +kernel)⟩
theorem lw_p34 : lw_okq (⟨"TableCatalog", "ownerOf", "(I)I"⟩, 16) := ⟨⟨by decide +kernel, by decide +kernel⟩, List.mem_of_getElem? (i := 20) (by decide +kernel), List.mem_of_getElem? (i := 704) (by decide +kernel), List.mem_of_getElem? (i := 705) (by decide +kernel)⟩
theorem lw_p35 : lw_okq (⟨"TableCatalog", "hasColumn", "(II)Z"⟩, 16) := ⟨⟨by decide +kernel, by decide +kernel⟩, List.mem_of_getElem? (i := 20) (by decide +kernel), List.mem_of_getElem? (i := 712) (by decide +kernel), List.mem_of_getElem? (i := 713) (by decide +kernel)⟩
theorem lw_p36 : lw_okq (⟨"TableCatalog", "markEarlierSteps", "(I)V"⟩, 16) := ⟨⟨by decide +kernel, by decide +kernel⟩, List.mem_of_getElem? (i := 20) (by decide +kernel), List.mem_of_getElem? (i := 735) (by decide +kernel), List.mem_of_getElem? (i := 736) (by decide +kernel)⟩
theorem lw_p37 : lw_okq (⟨"TableCatalog", "findMarked", "(Z)I"⟩, 16) := ⟨⟨by decide +kernel, by decide +kernel⟩, List.mem_of_getElem? (i := 20) (by decide +kernel), List.mem_of_getElem? (i := 747) (by decide +kernel), List.mem_of_getElem? (i := 748) (by decide +kernel)⟩
theorem lw_p38 : lw_okq (⟨"TableCatalog", "markTouched", "(II)V"⟩, 16) := ⟨⟨by decide +kernel, by decide +kernel⟩, List.mem_of_getElem? (i := 20) (by decide +kernel), List.mem_of_getElem? (i := 755) (by decide +kernel), List.mem_of_getElem? (i := 756) (by decide +kernel)⟩
theorem lw_p39 : lw_okq (⟨"TableCatalog", "tryTypes", "(I)V"⟩, 16) := ⟨⟨by decide +kernel, by decide +kernel⟩, List.mem_of_getElem? (i := 20) (by decide +kernel), List.mem_of_getElem? (i := 784) (by decide +kernel), List.mem_of_getElem? (i := 785) (by decide +kernel)⟩
theorem lw_p40 : lw_okq (⟨"TableCatalog", "countRetypedBeside", "(I)I"⟩, 16) := ⟨⟨by decide +kernel, by decide +kernel⟩, List.mem_of_getElem? (i := 20) (by decide +kernel), List.mem_of_getElem? (i := 794) (by decide +kernel), List.mem_of_getElem? (i := 795) (by decide +kernel)⟩
theorem lw_p41 : lw_okq (⟨"TableCatalog", "dropAsksOf", "(I)I"⟩, 16) := ⟨⟨by decide +kernel, by decide +kernel⟩, List.mem_of_getElem? (i := 20) (by decide +kernel), List.mem_of_getElem? (i := 806) (by decide +kernel), List.mem_of_getElem? (i := 807) (by decide +kernel)⟩
theorem lw_p42 : lw_okq (⟨"TableCatalog", "isBroken", "(LTableCatalog$Table;)Z"⟩, 16) := ⟨⟨by decide +kernel, by decide +kernel⟩, List.mem_of_getElem? (i := 20) (by decide +kernel), List.mem_of_getElem? (i := 835) (by decide +kernel), List.mem_of_getElem? (i := 836) (by decide +kernel)⟩
theorem lw_p43 : lw_okq (⟨"TableCatalog", "firstLateBehind", "(II)I"⟩, 16) := ⟨⟨by decide +kernel, by decide +kernel⟩, List.mem_of_getElem? (i := 20) (by decide +kernel), List.mem_of_getElem? (i := 846) (by decide +kernel), List.mem_of_getElem? (i := 847) (by decide +kernel)⟩
theorem lw_p44 : lw_okq (⟨"TableCatalog", "usedTables", "(I)I"⟩, 16) := ⟨⟨by decide +kernel, by decide +kernel⟩, List.mem_of_getElem? (i := 20) (by decide +kernel), List.mem_of_getElem? (i := 880) (by decide +kernel), List.mem_of_getElem? (i := 881) (by decide +kernel)⟩
theorem lw_p45 : lw_okq (⟨"TableCatalogModel", "next", "()V"⟩, 67) := ⟨⟨by decide +kernel, by decide +kernel⟩, List.mem_of_getElem? (i := 893) (by decide +kernel), List.mem_of_getElem? (i := 1119) (by decide +kernel), List.mem_of_getElem? (i := 1120) (by decide +kernel)⟩
theorem lw_p46 : lw_okq (⟨"TableCatalogModel", "wordFrom", "(II)J"⟩, 67) := ⟨⟨by decide +kernel, by decide +kernel⟩, List.mem_of_getElem? (i := 893) (by decide +kernel), List.mem_of_getElem? (i := 1129) (by decide +kernel), List.mem_of_getElem? (i := 1130) (by decide +kernel)⟩
theorem lw_p47 : lw_okq (⟨"TableCatalogModel", "isWord", "(J)Z"⟩, 67) := ⟨⟨by decide +kernel, by decide +kernel⟩, List.mem_of_getElem? (i := 893) (by decide +kernel), List.mem_of_getElem? (i := 1136) (by decide +kernel), List.mem_of_getElem? (i := 1137) (by decide +kernel)⟩
def lw_privs_3 : List (MethodName × Nat) := [(⟨"TableCatalog", "takeAgeFromBehind", "(LTableCatalog$Table;)Z"⟩, 16), (⟨"TableCatalog", "tableAt", "(I)LTableCatalog$Table;"⟩, 16), (⟨"TableCatalog", "ownerOf", "(I)I"⟩, 16), (⟨"TableCatalog", "hasColumn", "(II)Z"⟩, 16), (⟨"TableCatalog", "markEarlierSteps", "(I)V"⟩, 16), (⟨"TableCatalog", "findMarked", "(Z)I"⟩, 16), (⟨"TableCatalog", "markTouched", "(II)V"⟩, 16), (⟨"TableCatalog", "tryTypes", "(I)V"⟩, 16), (⟨"TableCatalog", "countRetypedBeside", "(I)I"⟩, 16), (⟨"TableCatalog", "dropAsksOf", "(I)I"⟩, 16), (⟨"TableCatalog", "isBroken", "(LTableCatalog$Table;)Z"⟩, 16), (⟨"TableCatalog", "firstLateBehind", "(II)I"⟩, 16), (⟨"TableCatalog", "usedTables", "(I)I"⟩, 16), (⟨"TableCatalogModel", "next", "()V"⟩, 67), (⟨"TableCatalogModel", "wordFrom", "(II)J"⟩, 67), (⟨"TableCatalogModel", "isWord", "(J)Z"⟩, 67)]
theorem lw_r3 : ∀ q ∈ lw_privs_3, lw_okq q := List.forall_mem_cons.mpr ⟨lw_p32, List.forall_mem_cons.mpr ⟨lw_p33, List.forall_mem_cons.mpr ⟨lw_p34, List.forall_mem_cons.mpr ⟨lw_p35, List.forall_mem_cons.mpr ⟨lw_p36, List.forall_mem_cons.mpr ⟨lw_p37, List.forall_mem_cons.mpr ⟨lw_p38, List.forall_mem_cons.mpr ⟨lw_p39, List.forall_mem_cons.mpr ⟨lw_p40, List.forall_mem_cons.mpr ⟨lw_p41, List.forall_mem_cons.mpr ⟨lw_p42, List.forall_mem_cons.mpr ⟨lw_p43, List.forall_mem_cons.mpr ⟨lw_p44, List.forall_mem_cons.mpr ⟨lw_p45, List.forall_mem_cons.mpr ⟨lw_p46, List.forall_mem_cons.mpr ⟨lw_p47, fun _ h => absurd h List.not_mem_nil⟩⟩⟩⟩⟩⟩⟩⟩⟩⟩⟩⟩⟩⟩⟩⟩
theorem lw_p48 : lw_okq (⟨"TableCatalogModel", "fail", "(II)V"⟩, 67) := ⟨⟨by decide +kernel, by decide +kernel⟩, List.mem_of_getElem? (i := 893) (by decide +kernel), List.mem_of_getElem? (i := 1140) (by decide +kernel), List.mem_of_getElem? (i := 1141) (by decide +kernel)⟩
theorem lw_p49 : lw_okq (⟨"TableCatalogModel", "keeps", "()V"⟩, 67) := ⟨⟨by decide +kernel, by decide +kernel⟩, List.mem_of_getElem? (i := 893) (by decide +kernel), List.mem_of_getElem? (i := 1144) (by decide +kernel), List.mem_of_getElem? (i := 1145) (by decide +kernel)⟩
theorem lw_p50 : lw_okq (⟨"TableCatalogModel", "name", "()V"⟩, 67) := ⟨⟨by decide +kernel, by decide +kernel⟩, List.mem_of_getElem? (i := 893) (by decide +kernel), List.mem_of_getElem? (i := 1148) (by decide +kernel), List.mem_of_getElem? (i := 1149) (by decide +kernel)⟩
theorem lw_p51 : lw_okq (⟨"TableCatalogModel", "isName", "()Z"⟩, 67) := ⟨⟨by decide +kernel, by decide +kernel⟩, List.mem_of_getElem? (i := 893) (by decide +kernel), List.mem_of_getElem? (i := 1152) (by decide +kernel), List.mem_of_getElem? (i := 1153) (by decide +kernel)⟩
theorem lw_p52 : lw_okq (⟨"TableCatalogModel", "source", "()V"⟩, 67) := ⟨⟨by decide +kernel, by decide +kernel⟩, List.mem_of_getElem? (i := 893) (by decide +kernel), List.mem_of_getElem? (i := 1156) (by decide +kernel), List.mem_of_getElem? (i := 1157) (by decide +kernel)⟩
theorem lw_p53 : lw_okq (⟨"TableCatalogModel", "sign", "(I)V"⟩, 67) := ⟨⟨by decide +kernel, by decide +kernel⟩, List.mem_of_getElem? (i := 893) (by decide +kernel), List.mem_of_getElem? (i := 1160) (by decide +kernel), List.mem_of_getElem? (i := 1161) (by decide +kernel)⟩
theorem lw_p54 : lw_okq (⟨"TableCatalogModel", "select", "()V"⟩, 67) := ⟨⟨by decide +kernel, by decide +kernel⟩, List.mem_of_getElem? (i := 893) (by decide +kernel), List.mem_of_getElem? (i := 1167) (by decide +kernel), List.mem_of_getElem? (i := 1168) (by decide +kernel)⟩
theorem lw_p55 : lw_okq (⟨"TableCatalogModel", "formula", "(I)V"⟩, 67) := ⟨⟨by decide +kernel, by decide +kernel⟩, List.mem_of_getElem? (i := 893) (by decide +kernel), List.mem_of_getElem? (i := 1171) (by decide +kernel), List.mem_of_getElem? (i := 1172) (by decide +kernel)⟩
theorem lw_p56 : lw_okq (⟨"TableCatalogModel", "isMore", "()Z"⟩, 67) := ⟨⟨by decide +kernel, by decide +kernel⟩, List.mem_of_getElem? (i := 893) (by decide +kernel), List.mem_of_getElem? (i := 1175) (by decide +kernel), List.mem_of_getElem? (i := 1176) (by decide +kernel)⟩
theorem lw_p57 : lw_okq (⟨"TableCatalogModel", "term", "()V"⟩, 67) := ⟨⟨by decide +kernel, by decide +kernel⟩, List.mem_of_getElem? (i := 893) (by decide +kernel), List.mem_of_getElem? (i := 1179) (by decide +kernel), List.mem_of_getElem? (i := 1180) (by decide +kernel)⟩
theorem lw_p58 : lw_okq (⟨"TableCatalogModel", "meant", "()V"⟩, 67) := ⟨⟨by decide +kernel, by decide +kernel⟩, List.mem_of_getElem? (i := 893) (by decide +kernel), List.mem_of_getElem? (i := 1183) (by decide +kernel), List.mem_of_getElem? (i := 1184) (by decide +kernel)⟩
theorem lw_p59 : lw_okq (⟨"TableCatalogModel", "tableNamed", "(J)I"⟩, 67) := ⟨⟨by decide +kernel, by decide +kernel⟩, List.mem_of_getElem? (i := 893) (by decide +kernel), List.mem_of_getElem? (i := 1187) (by decide +kernel), List.mem_of_getElem? (i := 1188) (by decide +kernel)⟩
theorem lw_p60 : lw_okq (⟨"TableCatalogModel", "means", "(II)V"⟩, 67) := ⟨⟨by decide +kernel, by decide +kernel⟩, List.mem_of_getElem? (i := 893) (by decide +kernel), List.mem_of_getElem? (i := 1191) (by decide +kernel), List.mem_of_getElem? (i := 1192) (by decide +kernel)⟩
theorem lw_p61 : lw_okq (⟨"TableCatalogModel", "typeOf", "(II)I"⟩, 67) := ⟨⟨by decide +kernel, by decide +kernel⟩, List.mem_of_getElem? (i := 893) (by decide +kernel), List.mem_of_getElem? (i := 1195) (by decide +kernel), List.mem_of_getElem? (i := 1196) (by decide +kernel)⟩
theorem lw_p62 : lw_okq (⟨"TableCatalogModel", "comes", "(I)V"⟩, 67) := ⟨⟨by decide +kernel, by decide +kernel⟩, List.mem_of_getElem? (i := 893) (by decide +kernel), List.mem_of_getElem? (i := 1199) (by decide +kernel), List.mem_of_getElem? (i := 1200) (by decide +kernel)⟩
theorem lw_p63 : lw_okq (⟨"TableCatalogModel", "wrong", "(I)V"⟩, 67) := ⟨⟨by decide +kernel, by decide +kernel⟩, List.mem_of_getElem? (i := 893) (by decide +kernel), List.mem_of_getElem? (i := 1203) (by decide +kernel), List.mem_of_getElem? (i := 1204) (by decide +kernel)⟩
def lw_privs_4 : List (MethodName × Nat) := [(⟨"TableCatalogModel", "fail", "(II)V"⟩, 67), (⟨"TableCatalogModel", "keeps", "()V"⟩, 67), (⟨"TableCatalogModel", "name", "()V"⟩, 67), (⟨"TableCatalogModel", "isName", "()Z"⟩, 67), (⟨"TableCatalogModel", "source", "()V"⟩, 67), (⟨"TableCatalogModel", "sign", "(I)V"⟩, 67), (⟨"TableCatalogModel", "select", "()V"⟩, 67), (⟨"TableCatalogModel", "formula", "(I)V"⟩, 67), (⟨"TableCatalogModel", "isMore", "()Z"⟩, 67), (⟨"TableCatalogModel", "term", "()V"⟩, 67), (⟨"TableCatalogModel", "meant", "()V"⟩, 67), (⟨"TableCatalogModel", "tableNamed", "(J)I"⟩, 67), (⟨"TableCatalogModel", "means", "(II)V"⟩, 67), (⟨"TableCatalogModel", "typeOf", "(II)I"⟩, 67), (⟨"TableCatalogModel", "comes", "(I)V"⟩, 67), (⟨"TableCatalogModel", "wrong", "(I)V"⟩, 67)]
theorem lw_r4 : ∀ q ∈ lw_privs_4, lw_okq q := List.forall_mem_cons.mpr ⟨lw_p48, List.forall_mem_cons.mpr ⟨lw_p49, List.forall_mem_cons.mpr ⟨lw_p50, List.forall_mem_cons.mpr ⟨lw_p51, List.forall_mem_cons.mpr ⟨lw_p52, List.forall_mem_cons.mpr ⟨lw_p53, List.forall_mem_cons.mpr ⟨lw_p54, List.forall_mem_cons.mpr ⟨lw_p55, List.forall_mem_cons.mpr ⟨lw_p56, List.forall_mem_cons.mpr ⟨lw_p57, List.forall_mem_cons.mpr ⟨lw_p58, List.forall_mem_cons.mpr ⟨lw_p59, List.forall_mem_cons.mpr ⟨lw_p60, List.forall_mem_cons.mpr ⟨lw_p61, List.forall_mem_cons.mpr ⟨lw_p62, List.forall_mem_cons.mpr ⟨lw_p63, fun _ h => absurd h List.not_mem_nil⟩⟩⟩⟩⟩⟩⟩⟩⟩⟩⟩⟩⟩⟩⟩⟩
theorem lw_p64 : lw_okq (⟨"TableCatalogModel", "wordOf", "(II)J"⟩, 67) := ⟨⟨by decide +kernel, by decide +kernel⟩, List.mem_of_getElem? (i := 893) (by decide +kernel), List.mem_of_getElem? (i := 1207) (by decide +kernel), List.mem_of_getElem? (i := 1208) (by decide +kernel)⟩
theorem lw_p65 : lw_okq (⟨"TableCatalogModel", "typeOfName", "(II)I"⟩, 67) := ⟨⟨by decide +kernel, by decide +kernel⟩, List.mem_of_getElem? (i := 893) (by decide +kernel), List.mem_of_getElem? (i := 1211) (by decide +kernel), List.mem_of_getElem? (i := 1212) (by decide +kernel)⟩
theorem lw_p66 : lw_okq (⟨"TableCatalogModel", "behindNamed", "(IJ)I"⟩, 67) := ⟨⟨by decide +kernel, by decide +kernel⟩, List.mem_of_getElem? (i := 893) (by decide +kernel), List.mem_of_getElem? (i := 1215) (by decide +kernel), List.mem_of_getElem? (i := 1216) (by decide +kernel)⟩
theorem lw_p67 : lw_okq (⟨"TableCatalogModel", "columnNamed", "(IJ)I"⟩, 67) := ⟨⟨by decide +kernel, by decide +kernel⟩, List.mem_of_getElem? (i := 893) (by decide +kernel), List.mem_of_getElem? (i := 1219) (by decide +kernel), List.mem_of_getElem? (i := 1220) (by decide +kernel)⟩
theorem lw_p68 : lw_okq (⟨"TableCatalogModel", "hasWhere", "(I)Z"⟩, 67) := ⟨⟨by decide +kernel, by decide +kernel⟩, List.mem_of_getElem? (i := 893) (by decide +kernel), List.mem_of_getElem? (i := 1223) (by decide +kernel), List.mem_of_getElem? (i := 1224) (by decide +kernel)⟩
theorem lw_p69 : lw_okq (⟨"TableCatalogModel", "isTable", "(I)Z"⟩, 67) := ⟨⟨by decide +kernel, by decide +kernel⟩, List.mem_of_getElem? (i := 893) (by decide +kernel), List.mem_of_getElem? (i := 1239) (by decide +kernel), List.mem_of_getElem? (i := 1240) (by decide +kernel)⟩
theorem lw_p70 : lw_okq (⟨"TableCatalogModel", "ages", "()V"⟩, 67) := ⟨⟨by decide +kernel, by decide +kernel⟩, List.mem_of_getElem? (i := 893) (by decide +kernel), List.mem_of_getElem? (i := 1243) (by decide +kernel), List.mem_of_getElem? (i := 1244) (by decide +kernel)⟩
theorem lw_p71 : lw_okq (⟨"TableCatalogModel", "agesBehind", "(I)V"⟩, 67) := ⟨⟨by decide +kernel, by decide +kernel⟩, List.mem_of_getElem? (i := 893) (by decide +kernel), List.mem_of_getElem? (i := 1247) (by decide +kernel), List.mem_of_getElem? (i := 1248) (by decide +kernel)⟩
theorem lw_p72 : lw_okq (⟨"TableCatalogModel", "ownerOf", "(I)I"⟩, 67) := ⟨⟨by decide +kernel, by decide +kernel⟩, List.mem_of_getElem? (i := 893) (by decide +kernel), List.mem_of_getElem? (i := 1251) (by decide +kernel), List.mem_of_getElem? (i := 1252) (by decide +kernel)⟩
theorem lw_p73 : lw_okq (⟨"TableCatalogModel", "isColumn", "(II)Z"⟩, 67) := ⟨⟨by decide +kernel, by decide +kernel⟩, List.mem_of_getElem? (i := 893) (by decide +kernel), List.mem_of_getElem? (i := 1259) (by decide +kernel), List.mem_of_getElem? (i := 1260) (by decide +kernel)⟩
theorem lw_p74 : lw_okq (⟨"TableCatalogModel", "clears", "()V"⟩, 67) := ⟨⟨by decide +kernel, by decide +kernel⟩, List.mem_of_getElem? (i := 893) (by decide +kernel), List.mem_of_getElem? (i := 1271) (by decide +kernel), List.mem_of_getElem? (i := 1272) (by decide +kernel)⟩
theorem lw_p75 : lw_okq (⟨"TableCatalogModel", "marksUsed", "(II)V"⟩, 67) := ⟨⟨by decide +kernel, by decide +kernel⟩, List.mem_of_getElem? (i := 893) (by decide +kernel), List.mem_of_getElem? (i := 1275) (by decide +kernel), List.mem_of_getElem? (i := 1276) (by decide +kernel)⟩
theorem lw_p76 : lw_okq (⟨"TableCatalogModel", "isNameAt", "(II)Z"⟩, 67) := ⟨⟨by decide +kernel, by decide +kernel⟩, List.mem_of_getElem? (i := 893) (by decide +kernel), List.mem_of_getElem? (i := 1279) (by decide +kernel), List.mem_of_getElem? (i := 1280) (by decide +kernel)⟩
theorem lw_p77 : lw_okq (⟨"TableCatalogModel", "usedAt", "(II)I"⟩, 67) := ⟨⟨by decide +kernel, by decide +kernel⟩, List.mem_of_getElem? (i := 893) (by decide +kernel), List.mem_of_getElem? (i := 1283) (by decide +kernel), List.mem_of_getElem? (i := 1284) (by decide +kernel)⟩
theorem lw_p78 : lw_okq (⟨"TableCatalogModel", "finds", "(I)V"⟩, 67) := ⟨⟨by decide +kernel, by decide +kernel⟩, List.mem_of_getElem? (i := 893) (by decide +kernel), List.mem_of_getElem? (i := 1287) (by decide +kernel), List.mem_of_getElem? (i := 1288) (by decide +kernel)⟩
theorem lw_p79 : lw_okq (⟨"TableCatalogModel", "touches", "(II)V"⟩, 67) := ⟨⟨by decide +kernel, by decide +kernel⟩, List.mem_of_getElem? (i := 893) (by decide +kernel), List.mem_of_getElem? (i := 1295) (by decide +kernel), List.mem_of_getElem? (i := 1296) (by decide +kernel)⟩
def lw_privs_5 : List (MethodName × Nat) := [(⟨"TableCatalogModel", "wordOf", "(II)J"⟩, 67), (⟨"TableCatalogModel", "typeOfName", "(II)I"⟩, 67), (⟨"TableCatalogModel", "behindNamed", "(IJ)I"⟩, 67), (⟨"TableCatalogModel", "columnNamed", "(IJ)I"⟩, 67), (⟨"TableCatalogModel", "hasWhere", "(I)Z"⟩, 67), (⟨"TableCatalogModel", "isTable", "(I)Z"⟩, 67), (⟨"TableCatalogModel", "ages", "()V"⟩, 67), (⟨"TableCatalogModel", "agesBehind", "(I)V"⟩, 67), (⟨"TableCatalogModel", "ownerOf", "(I)I"⟩, 67), (⟨"TableCatalogModel", "isColumn", "(II)Z"⟩, 67), (⟨"TableCatalogModel", "clears", "()V"⟩, 67), (⟨"TableCatalogModel", "marksUsed", "(II)V"⟩, 67), (⟨"TableCatalogModel", "isNameAt", "(II)Z"⟩, 67), (⟨"TableCatalogModel", "usedAt", "(II)I"⟩, 67), (⟨"TableCatalogModel", "finds", "(I)V"⟩, 67), (⟨"TableCatalogModel", "touches", "(II)V"⟩, 67)]
theorem lw_r5 : ∀ q ∈ lw_privs_5, lw_okq q := List.forall_mem_cons.mpr ⟨lw_p64, List.forall_mem_cons.mpr ⟨lw_p65, List.forall_mem_cons.mpr ⟨lw_p66, List.forall_mem_cons.mpr ⟨lw_p67, List.forall_mem_cons.mpr ⟨lw_p68, List.forall_mem_cons.mpr ⟨lw_p69, List.forall_mem_cons.mpr ⟨lw_p70, List.forall_mem_cons.mpr ⟨lw_p71, List.forall_mem_cons.mpr ⟨lw_p72, List.forall_mem_cons.mpr ⟨lw_p73, List.forall_mem_cons.mpr ⟨lw_p74, List.forall_mem_cons.mpr ⟨lw_p75, List.forall_mem_cons.mpr ⟨lw_p76, List.forall_mem_cons.mpr ⟨lw_p77, List.forall_mem_cons.mpr ⟨lw_p78, List.forall_mem_cons.mpr ⟨lw_p79, fun _ h => absurd h List.not_mem_nil⟩⟩⟩⟩⟩⟩⟩⟩⟩⟩⟩⟩⟩⟩⟩⟩
theorem lw_p80 : lw_okq (⟨"TableCatalogModel", "usesMarked", "(II)Z"⟩, 67) := ⟨⟨by decide +kernel, by decide +kernel⟩, List.mem_of_getElem? (i := 893) (by decide +kernel), List.mem_of_getElem? (i := 1299) (by decide +kernel), List.mem_of_getElem? (i := 1300) (by decide +kernel)⟩
theorem lw_p81 : lw_okq (⟨"TableCatalogModel", "looks", "(I)V"⟩, 67) := ⟨⟨by decide +kernel, by decide +kernel⟩, List.mem_of_getElem? (i := 893) (by decide +kernel), List.mem_of_getElem? (i := 1315) (by decide +kernel), List.mem_of_getElem? (i := 1316) (by decide +kernel)⟩
theorem lw_p82 : lw_okq (⟨"TableCatalogModel", "hasBehind", "(II)Z"⟩, 67) := ⟨⟨by decide +kernel, by decide +kernel⟩, List.mem_of_getElem? (i := 893) (by decide +kernel), List.mem_of_getElem? (i := 1323) (by decide +kernel), List.mem_of_getElem? (i := 1324) (by decide +kernel)⟩
theorem lw_p83 : lw_okq (⟨"TableCatalogModel", "isBroken", "(I)Z"⟩, 67) := ⟨⟨by decide +kernel, by decide +kernel⟩, List.mem_of_getElem? (i := 893) (by decide +kernel), List.mem_of_getElem? (i := 1351) (by decide +kernel), List.mem_of_getElem? (i := 1352) (by decide +kernel)⟩
theorem lw_p84 : lw_okq (⟨"TableCatalogModel", "isSelect", "(I)Z"⟩, 67) := ⟨⟨by decide +kernel, by decide +kernel⟩, List.mem_of_getElem? (i := 893) (by decide +kernel), List.mem_of_getElem? (i := 1371) (by decide +kernel), List.mem_of_getElem? (i := 1372) (by decide +kernel)⟩
def lw_privs_6 : List (MethodName × Nat) := [(⟨"TableCatalogModel", "usesMarked", "(II)Z"⟩, 67), (⟨"TableCatalogModel", "looks", "(I)V"⟩, 67), (⟨"TableCatalogModel", "hasBehind", "(II)Z"⟩, 67), (⟨"TableCatalogModel", "isBroken", "(I)Z"⟩, 67), (⟨"TableCatalogModel", "isSelect", "(I)Z"⟩, 67)]
theorem lw_r6 : ∀ q ∈ lw_privs_6, lw_okq q := List.forall_mem_cons.mpr ⟨lw_p80, List.forall_mem_cons.mpr ⟨lw_p81, List.forall_mem_cons.mpr ⟨lw_p82, List.forall_mem_cons.mpr ⟨lw_p83, List.forall_mem_cons.mpr ⟨lw_p84, fun _ h => absurd h List.not_mem_nil⟩⟩⟩⟩⟩
def lw_privs : List (MethodName × Nat) := lw_privs_1 ++ (lw_privs_2 ++ (lw_privs_3 ++ (lw_privs_4 ++ (lw_privs_5 ++ (lw_privs_6)))))
def lw_tbl : List Cond := k2_sels lw_privs ++ tables_1
theorem lw_privs_ok : ∀ q ∈ lw_privs, lw_okq q := by
  show ∀ q ∈ lw_privs_1 ++ (lw_privs_2 ++ (lw_privs_3 ++ (lw_privs_4 ++ (lw_privs_5 ++ (lw_privs_6))))), lw_okq q
  exact List.forall_mem_append.mpr ⟨lw_r1, List.forall_mem_append.mpr ⟨lw_r2, List.forall_mem_append.mpr ⟨lw_r3, List.forall_mem_append.mpr ⟨lw_r4, List.forall_mem_append.mpr ⟨lw_r5, lw_r6⟩⟩⟩⟩⟩
-- ===== end of PART A; then your names; then what follows =====
def RX0 : String := "TableCatalog$Ask"
def TX0 : u_T := fun k => match k with
  | 0 => ("TableCatalog$Ask", "of", "I", true)
  | 1 => ("TableCatalog$Ask", "bits", "I", true)
  | _ => ("TableCatalog$Ask", "day", "I", true)
def tyX0 : Nat → FieldType := fun k => match k with
  | 0 => .int
  | 1 => .int
  | _ => .int
abbrev wsX00 : List Cond := u_ws RX0 TX0 3
theorem nmX0 : ∀ a, a < 3 → ∀ b, b < 3 → a ≠ b → (TX0 a).2.1 ≠ (TX0 b).2.1 := by decide +kernel
theorem tyX0_ok : ∀ k, k < 3 → parseFieldDescriptor (TX0 k).2.2.1 = some (tyX0 k) := by decide +kernel
abbrev cX0_init : ByteArray := prog_2_method_1_code
def yX0_init : MethodName := ⟨RX0, "<init>", "(III)V"⟩
def RX1 : String := "TableCatalog$Checker"
def TX1 : u_T := fun k => match k with
  | 0 => ("TableCatalog$Checker", "typing", "LTableCatalog$Typing;", true)
  | 1 => ("TableCatalog$Checker", "faultKind", "I", false)
  | _ => ("TableCatalog$Checker", "faultPlace", "I", false)
def tyX1 : Nat → FieldType := fun k => match k with
  | 0 => .object "TableCatalog$Typing"
  | 1 => .int
  | _ => .int
abbrev wsX10 : List Cond := u_ws RX1 TX1 3
theorem nmX1 : ∀ a, a < 3 → ∀ b, b < 3 → a ≠ b → (TX1 a).2.1 ≠ (TX1 b).2.1 := by decide +kernel
theorem tyX1_ok : ∀ k, k < 3 → parseFieldDescriptor (TX1 k).2.2.1 = some (tyX1 k) := by decide +kernel
abbrev cX1_init : ByteArray := prog_3_method_1_code
def yX1_init : MethodName := ⟨RX1, "<init>", "()V"⟩
abbrev cX1_check : ByteArray := prog_3_method_2_code
def yX1_check : MethodName := ⟨RX1, "check", "(LTableCatalog$Draft;[LTableCatalog$Table;[I)V"⟩
abbrev cX1_note : ByteArray := prog_3_method_3_code
def yX1_note : MethodName := ⟨RX1, "note", "(II)V"⟩
abbrev cX1_noteRepeats : ByteArray := prog_3_method_4_code
def yX1_noteRepeats : MethodName := ⟨RX1, "noteRepeats", "(LTableCatalog$Row;LTableCatalog$Tokens;)V"⟩
abbrev cX1_lookBehind : ByteArray := prog_3_method_5_code
def yX1_lookBehind : MethodName := ⟨RX1, "lookBehind", "(LTableCatalog$Draft;[LTableCatalog$Table;)V"⟩
abbrev cX1_columnItem : ByteArray := prog_3_method_6_code
def yX1_columnItem : MethodName := ⟨RX1, "columnItem", "(ILTableCatalog$Draft;[LTableCatalog$Table;)I"⟩
abbrev cX1_noteTypes : ByteArray := prog_3_method_7_code
def yX1_noteTypes : MethodName := ⟨RX1, "noteTypes", "(LTableCatalog$Draft;[I)V"⟩
def RX2 : String := "TableCatalog$ColumnSet"
def TX2 : u_T := fun k => match k with
  | _ => ("TableCatalog$ColumnSet", "bits", "[I", true)
def tyX2 : Nat → FieldType := fun k => match k with
  | _ => .array .int
abbrev wsX20 : List Cond := u_ws RX2 TX2 1
theorem nmX2 : ∀ a, a < 1 → ∀ b, b < 1 → a ≠ b → (TX2 a).2.1 ≠ (TX2 b).2.1 := by decide +kernel
theorem tyX2_ok : ∀ k, k < 1 → parseFieldDescriptor (TX2 k).2.2.1 = some (tyX2 k) := by decide +kernel
abbrev cX2_init : ByteArray := prog_4_method_1_code
def yX2_init : MethodName := ⟨RX2, "<init>", "()V"⟩
abbrev cX2_clear : ByteArray := prog_4_method_2_code
def yX2_clear : MethodName := ⟨RX2, "clear", "()V"⟩
abbrev cX2_bitsOf : ByteArray := prog_4_method_3_code
def yX2_bitsOf : MethodName := ⟨RX2, "bitsOf", "(I)I"⟩
abbrev cX2_has : ByteArray := prog_4_method_4_code
def yX2_has : MethodName := ⟨RX2, "has", "(I)Z"⟩
abbrev cX2_add : ByteArray := prog_4_method_5_code
def yX2_add : MethodName := ⟨RX2, "add", "(I)V"⟩
abbrev cX2_remove : ByteArray := prog_4_method_6_code
def yX2_remove : MethodName := ⟨RX2, "remove", "(I)V"⟩
def RX3 : String := "TableCatalog$Draft"
def TX3 : u_T := fun k => match k with
  | 0 => ("TableCatalog$Draft", "tokens", "LTableCatalog$Tokens;", true)
  | 1 => ("TableCatalog$Draft", "columns", "LTableCatalog$Row;", true)
  | 2 => ("TableCatalog$Draft", "columnTypes", "LTableCatalog$Row;", true)
  | 3 => ("TableCatalog$Draft", "behind", "LTableCatalog$Row;", true)
  | 4 => ("TableCatalog$Draft", "behindTables", "LTableCatalog$Row;", true)
  | 5 => ("TableCatalog$Draft", "program", "LTableCatalog$Program;", true)
  | 6 => ("TableCatalog$Draft", "kind", "I", false)
  | 7 => ("TableCatalog$Draft", "nameToken", "I", false)
  | _ => ("TableCatalog$Draft", "selectToken", "I", false)
def tyX3 : Nat → FieldType := fun k => match k with
  | 0 => .object "TableCatalog$Tokens"
  | 1 => .object "TableCatalog$Row"
  | 2 => .object "TableCatalog$Row"
  | 3 => .object "TableCatalog$Row"
  | 4 => .object "TableCatalog$Row"
  | 5 => .object "TableCatalog$Program"
  | 6 => .int
  | 7 => .int
  | _ => .int
abbrev wsX30 : List Cond := u_ws RX3 TX3 9
theorem nmX3 : ∀ a, a < 9 → ∀ b, b < 9 → a ≠ b → (TX3 a).2.1 ≠ (TX3 b).2.1 := by decide +kernel
theorem tyX3_ok : ∀ k, k < 9 → parseFieldDescriptor (TX3 k).2.2.1 = some (tyX3 k) := by decide +kernel
abbrev cX3_init : ByteArray := prog_5_method_1_code
def yX3_init : MethodName := ⟨RX3, "<init>", "()V"⟩
abbrev cX3_clear : ByteArray := prog_5_method_2_code
def yX3_clear : MethodName := ⟨RX3, "clear", "()V"⟩
abbrev cX3_columnNames : ByteArray := prog_5_method_3_code
def yX3_columnNames : MethodName := ⟨RX3, "columnNames", "()[J"⟩
abbrev cX3_wording : ByteArray := prog_5_method_4_code
def yX3_wording : MethodName := ⟨RX3, "wording", "()LTableCatalog$Row;"⟩
def RX4 : String := "TableCatalog$Parser"
def TX4 : u_T := fun k => match k with
  | 0 => ("TableCatalog$Parser", "draft", "LTableCatalog$Draft;", true)
  | 1 => ("TableCatalog$Parser", "at", "I", false)
  | _ => ("TableCatalog$Parser", "beyond", "I", false)
def tyX4 : Nat → FieldType := fun k => match k with
  | 0 => .object "TableCatalog$Draft"
  | 1 => .int
  | _ => .int
abbrev wsX40 : List Cond := u_ws RX4 TX4 3
theorem nmX4 : ∀ a, a < 3 → ∀ b, b < 3 → a ≠ b → (TX4 a).2.1 ≠ (TX4 b).2.1 := by decide +kernel
theorem tyX4_ok : ∀ k, k < 3 → parseFieldDescriptor (TX4 k).2.2.1 = some (tyX4 k) := by decide +kernel
abbrev cX4_init : ByteArray := prog_6_method_1_code
def yX4_init : MethodName := ⟨RX4, "<init>", "()V"⟩
abbrev cX4_readStatement : ByteArray := prog_6_method_2_code
def yX4_readStatement : MethodName := ⟨RX4, "readStatement", "()Z"⟩
abbrev cX4_stopPlace : ByteArray := prog_6_method_3_code
def yX4_stopPlace : MethodName := ⟨RX4, "stopPlace", "()I"⟩
abbrev cX4_readHead : ByteArray := prog_6_method_4_code
def yX4_readHead : MethodName := ⟨RX4, "readHead", "()Z"⟩
abbrev cX4_readSource : ByteArray := prog_6_method_5_code
def yX4_readSource : MethodName := ⟨RX4, "readSource", "()Z"⟩
abbrev cX4_readResults : ByteArray := prog_6_method_6_code
def yX4_readResults : MethodName := ⟨RX4, "readResults", "()Z"⟩
abbrev cX4_readBehind : ByteArray := prog_6_method_7_code
def yX4_readBehind : MethodName := ⟨RX4, "readBehind", "()Z"⟩
abbrev cX4_readWhere : ByteArray := prog_6_method_8_code
def yX4_readWhere : MethodName := ⟨RX4, "readWhere", "()Z"⟩
abbrev cX4_readFormula : ByteArray := prog_6_method_9_code
def yX4_readFormula : MethodName := ⟨RX4, "readFormula", "(I)Z"⟩
abbrev cX4_readTerm : ByteArray := prog_6_method_10_code
def yX4_readTerm : MethodName := ⟨RX4, "readTerm", "(I)Z"⟩
abbrev cX4_isOperator : ByteArray := prog_6_method_11_code
def yX4_isOperator : MethodName := ⟨RX4, "isOperator", "(I)Z"⟩
abbrev cX4_take : ByteArray := prog_6_method_12_code
def yX4_take : MethodName := ⟨RX4, "take", "(I)Z"⟩
abbrev cX4_takeName : ByteArray := prog_6_method_13_code
def yX4_takeName : MethodName := ⟨RX4, "takeName", "()Z"⟩
abbrev cX4_takeType : ByteArray := prog_6_method_14_code
def yX4_takeType : MethodName := ⟨RX4, "takeType", "()Z"⟩
abbrev cX4_takeConstant : ByteArray := prog_6_method_15_code
def yX4_takeConstant : MethodName := ⟨RX4, "takeConstant", "(I)Z"⟩
def RX5 : String := "TableCatalog$Program"
def TX5 : u_T := fun k => match k with
  | 0 => ("TableCatalog$Program", "items", "LTableCatalog$Row;", true)
  | 1 => ("TableCatalog$Program", "places", "LTableCatalog$Row;", true)
  | 2 => ("TableCatalog$Program", "starts", "[I", true)
  | 3 => ("TableCatalog$Program", "ends", "[I", true)
  | _ => ("TableCatalog$Program", "closed", "I", false)
def tyX5 : Nat → FieldType := fun k => match k with
  | 0 => .object "TableCatalog$Row"
  | 1 => .object "TableCatalog$Row"
  | 2 => .array .int
  | 3 => .array .int
  | _ => .int
abbrev wsX50 : List Cond := u_ws RX5 TX5 5
theorem nmX5 : ∀ a, a < 5 → ∀ b, b < 5 → a ≠ b → (TX5 a).2.1 ≠ (TX5 b).2.1 := by decide +kernel
theorem tyX5_ok : ∀ k, k < 5 → parseFieldDescriptor (TX5 k).2.2.1 = some (tyX5 k) := by decide +kernel
abbrev cX5_init : ByteArray := prog_7_method_1_code
def yX5_init : MethodName := ⟨RX5, "<init>", "(I)V"⟩
abbrev cX5_clear : ByteArray := prog_7_method_2_code
def yX5_clear : MethodName := ⟨RX5, "clear", "()V"⟩
abbrev cX5_add : ByteArray := prog_7_method_3_code
def yX5_add : MethodName := ⟨RX5, "add", "(II)V"⟩
abbrev cX5_closePart : ByteArray := prog_7_method_4_code
def yX5_closePart : MethodName := ⟨RX5, "closePart", "(I)V"⟩
abbrev cX5_startOf : ByteArray := prog_7_method_5_code
def yX5_startOf : MethodName := ⟨RX5, "startOf", "(I)I"⟩
abbrev cX5_stopOf : ByteArray := prog_7_method_6_code
def yX5_stopOf : MethodName := ⟨RX5, "stopOf", "(I)I"⟩
abbrev cX5_markUsed : ByteArray := prog_7_method_7_code
def yX5_markUsed : MethodName := ⟨RX5, "markUsed", "(ILTableCatalog$ColumnSet;)V"⟩
abbrev cX5_usesMarked : ByteArray := prog_7_method_8_code
def yX5_usesMarked : MethodName := ⟨RX5, "usesMarked", "(ILTableCatalog$ColumnSet;)Z"⟩
abbrev cX5_copy : ByteArray := prog_7_method_9_code
def yX5_copy : MethodName := ⟨RX5, "copy", "()LTableCatalog$Program;"⟩
def RX6 : String := "TableCatalog$Row"
def TX6 : u_T := fun k => match k with
  | 0 => ("TableCatalog$Row", "cells", "[I", true)
  | _ => ("TableCatalog$Row", "size", "I", false)
def tyX6 : Nat → FieldType := fun k => match k with
  | 0 => .array .int
  | _ => .int
abbrev wsX60 : List Cond := u_ws RX6 TX6 2
theorem nmX6 : ∀ a, a < 2 → ∀ b, b < 2 → a ≠ b → (TX6 a).2.1 ≠ (TX6 b).2.1 := by decide +kernel
theorem tyX6_ok : ∀ k, k < 2 → parseFieldDescriptor (TX6 k).2.2.1 = some (tyX6 k) := by decide +kernel
abbrev cX6_init : ByteArray := prog_8_method_1_code
def yX6_init : MethodName := ⟨RX6, "<init>", "(I)V"⟩
abbrev cX6_size : ByteArray := prog_8_method_2_code
def yX6_size : MethodName := ⟨RX6, "size", "()I"⟩
abbrev cX6_get : ByteArray := prog_8_method_3_code
def yX6_get : MethodName := ⟨RX6, "get", "(I)I"⟩
abbrev cX6_set : ByteArray := prog_8_method_4_code
def yX6_set : MethodName := ⟨RX6, "set", "(II)V"⟩
abbrev cX6_add : ByteArray := prog_8_method_5_code
def yX6_add : MethodName := ⟨RX6, "add", "(I)V"⟩
abbrev cX6_addAll : ByteArray := prog_8_method_6_code
def yX6_addAll : MethodName := ⟨RX6, "addAll", "(LTableCatalog$Row;)V"⟩
abbrev cX6_cutTo : ByteArray := prog_8_method_7_code
def yX6_cutTo : MethodName := ⟨RX6, "cutTo", "(I)V"⟩
abbrev cX6_has : ByteArray := prog_8_method_8_code
def yX6_has : MethodName := ⟨RX6, "has", "(I)Z"⟩
abbrev cX6_isSame : ByteArray := prog_8_method_9_code
def yX6_isSame : MethodName := ⟨RX6, "isSame", "(LTableCatalog$Row;)Z"⟩
abbrev cX6_copy : ByteArray := prog_8_method_10_code
def yX6_copy : MethodName := ⟨RX6, "copy", "()LTableCatalog$Row;"⟩
def RX7 : String := "TableCatalog$Table"
def TX7 : u_T := fun k => match k with
  | 0 => ("TableCatalog$Table", "name", "J", true)
  | 1 => ("TableCatalog$Table", "columnNames", "[J", true)
  | 2 => ("TableCatalog$Table", "behind", "LTableCatalog$Row;", true)
  | 3 => ("TableCatalog$Table", "program", "LTableCatalog$Program;", true)
  | 4 => ("TableCatalog$Table", "wording", "LTableCatalog$Row;", true)
  | 5 => ("TableCatalog$Table", "kind", "I", false)
  | 6 => ("TableCatalog$Table", "oldest", "I", false)
  | 7 => ("TableCatalog$Table", "newest", "I", false)
  | 8 => ("TableCatalog$Table", "owner", "I", false)
  | _ => ("TableCatalog$Table", "lag", "I", false)
def tyX7 : Nat → FieldType := fun k => match k with
  | 0 => .long
  | 1 => .array .long
  | 2 => .object "TableCatalog$Row"
  | 3 => .object "TableCatalog$Program"
  | 4 => .object "TableCatalog$Row"
  | 5 => .int
  | 6 => .int
  | 7 => .int
  | 8 => .int
  | _ => .int
abbrev wsX70 : List Cond := u_ws RX7 TX7 10
theorem nmX7 : ∀ a, a < 10 → ∀ b, b < 10 → a ≠ b → (TX7 a).2.1 ≠ (TX7 b).2.1 := by decide +kernel
theorem tyX7_ok : ∀ k, k < 10 → parseFieldDescriptor (TX7 k).2.2.1 = some (tyX7 k) := by decide +kernel
abbrev cX7_init : ByteArray := prog_9_method_1_code
def yX7_init : MethodName := ⟨RX7, "<init>", "(LTableCatalog$Draft;)V"⟩
abbrev cX7_columnCount : ByteArray := prog_9_method_2_code
def yX7_columnCount : MethodName := ⟨RX7, "columnCount", "()I"⟩
abbrev cX7_columnOfName : ByteArray := prog_9_method_3_code
def yX7_columnOfName : MethodName := ⟨RX7, "columnOfName", "(J)I"⟩
abbrev cX7_hasSelect : ByteArray := prog_9_method_4_code
def yX7_hasSelect : MethodName := ⟨RX7, "hasSelect", "()Z"⟩
def RX8 : String := "TableCatalog$Tokens"
def TX8 : u_T := fun k => match k with
  | 0 => ("TableCatalog$Tokens", "kinds", "LTableCatalog$Row;", true)
  | 1 => ("TableCatalog$Tokens", "starts", "LTableCatalog$Row;", true)
  | 2 => ("TableCatalog$Tokens", "lengths", "LTableCatalog$Row;", true)
  | 3 => ("TableCatalog$Tokens", "names", "[J", true)
  | 4 => ("TableCatalog$Tokens", "bytes", "LTableCatalog$Row;", true)
  | _ => ("TableCatalog$Tokens", "wording", "LTableCatalog$Row;", true)
def tyX8 : Nat → FieldType := fun k => match k with
  | 0 => .object "TableCatalog$Row"
  | 1 => .object "TableCatalog$Row"
  | 2 => .object "TableCatalog$Row"
  | 3 => .array .long
  | 4 => .object "TableCatalog$Row"
  | _ => .object "TableCatalog$Row"
abbrev wsX80 : List Cond := u_ws RX8 TX8 6
theorem nmX8 : ∀ a, a < 6 → ∀ b, b < 6 → a ≠ b → (TX8 a).2.1 ≠ (TX8 b).2.1 := by decide +kernel
theorem tyX8_ok : ∀ k, k < 6 → parseFieldDescriptor (TX8 k).2.2.1 = some (tyX8 k) := by decide +kernel
abbrev cX8_init : ByteArray := prog_10_method_1_code
def yX8_init : MethodName := ⟨RX8, "<init>", "()V"⟩
abbrev cX8_readAll : ByteArray := prog_10_method_2_code
def yX8_readAll : MethodName := ⟨RX8, "readAll", "(LTableCatalog$Row;)V"⟩
abbrev cX8_isOneName : ByteArray := prog_10_method_3_code
def yX8_isOneName : MethodName := ⟨RX8, "isOneName", "()Z"⟩
abbrev cX8_nameOf : ByteArray := prog_10_method_4_code
def yX8_nameOf : MethodName := ⟨RX8, "nameOf", "(I)J"⟩
abbrev cX8_readOne : ByteArray := prog_10_method_5_code
def yX8_readOne : MethodName := ⟨RX8, "readOne", "(I)I"⟩
abbrev cX8_readWord : ByteArray := prog_10_method_6_code
def yX8_readWord : MethodName := ⟨RX8, "readWord", "(I)I"⟩
abbrev cX8_readQuote : ByteArray := prog_10_method_7_code
def yX8_readQuote : MethodName := ⟨RX8, "readQuote", "(I)I"⟩
abbrev cX8_put : ByteArray := prog_10_method_8_code
def yX8_put : MethodName := ⟨RX8, "put", "(III)I"⟩
abbrev cX8_kindOfWord : ByteArray := prog_10_method_9_code
def yX8_kindOfWord : MethodName := ⟨RX8, "kindOfWord", "(II)I"⟩
abbrev cX8_isWord : ByteArray := prog_10_method_10_code
def yX8_isWord : MethodName := ⟨RX8, "isWord", "(Ljava/lang/String;II)Z"⟩
abbrev cX8_wordingFrom : ByteArray := prog_10_method_11_code
def yX8_wordingFrom : MethodName := ⟨RX8, "wordingFrom", "(I)LTableCatalog$Row;"⟩
abbrev cX8_isBlank : ByteArray := prog_10_method_12_code
def yX8_isBlank : MethodName := ⟨RX8, "isBlank", "(I)Z"⟩
abbrev cX8_isLetter : ByteArray := prog_10_method_13_code
def yX8_isLetter : MethodName := ⟨RX8, "isLetter", "(I)Z"⟩
abbrev cX8_isDigit : ByteArray := prog_10_method_14_code
def yX8_isDigit : MethodName := ⟨RX8, "isDigit", "(I)Z"⟩
def RX9 : String := "TableCatalog$Typing"
def TX9 : u_T := fun k => match k with
  | 0 => ("TableCatalog$Typing", "stack", "[I", true)
  | 1 => ("TableCatalog$Typing", "height", "I", false)
  | _ => ("TableCatalog$Typing", "badPlace", "I", false)
def tyX9 : Nat → FieldType := fun k => match k with
  | 0 => .array .int
  | 1 => .int
  | _ => .int
abbrev wsX90 : List Cond := u_ws RX9 TX9 3
theorem nmX9 : ∀ a, a < 3 → ∀ b, b < 3 → a ≠ b → (TX9 a).2.1 ≠ (TX9 b).2.1 := by decide +kernel
theorem tyX9_ok : ∀ k, k < 3 → parseFieldDescriptor (TX9 k).2.2.1 = some (tyX9 k) := by decide +kernel
abbrev cX9_init : ByteArray := prog_11_method_1_code
def yX9_init : MethodName := ⟨RX9, "<init>", "()V"⟩
abbrev cX9_typeOfPart : ByteArray := prog_11_method_2_code
def yX9_typeOfPart : MethodName := ⟨RX9, "typeOfPart", "(LTableCatalog$Program;I[I)I"⟩
abbrev cX9_resultOf : ByteArray := prog_11_method_3_code
def yX9_resultOf : MethodName := ⟨RX9, "resultOf", "(II)I"⟩
abbrev cX9_operated : ByteArray := prog_11_method_4_code
def yX9_operated : MethodName := ⟨RX9, "operated", "(IIII)I"⟩
abbrev cX9_noteUnlike : ByteArray := prog_11_method_5_code
def yX9_noteUnlike : MethodName := ⟨RX9, "noteUnlike", "(III)V"⟩
abbrev cX9_noteBad : ByteArray := prog_11_method_6_code
def yX9_noteBad : MethodName := ⟨RX9, "noteBad", "(I)V"⟩
abbrev cX9_push : ByteArray := prog_11_method_7_code
def yX9_push : MethodName := ⟨RX9, "push", "(I)V"⟩
abbrev cX9_pop : ByteArray := prog_11_method_8_code
def yX9_pop : MethodName := ⟨RX9, "pop", "()I"⟩
def RX10 : String := "TableCatalog"
def TX10 : u_T := fun k => match k with
  | 0 => ("TableCatalog", "tape", "LTableCatalog$Row;", true)
  | 1 => ("TableCatalog", "parser", "LTableCatalog$Parser;", true)
  | 2 => ("TableCatalog", "checker", "LTableCatalog$Checker;", true)
  | 3 => ("TableCatalog", "typing", "LTableCatalog$Typing;", true)
  | 4 => ("TableCatalog", "tables", "[LTableCatalog$Table;", true)
  | 5 => ("TableCatalog", "types", "[I", true)
  | 6 => ("TableCatalog", "trialTypes", "[I", true)
  | 7 => ("TableCatalog", "asks", "[LTableCatalog$Ask;", true)
  | 8 => ("TableCatalog", "marks", "LTableCatalog$ColumnSet;", true)
  | 9 => ("TableCatalog", "foundRow", "LTableCatalog$Row;", true)
  | 10 => ("TableCatalog", "troubles", "LTableCatalog$Row;", true)
  | 11 => ("TableCatalog", "tableCount", "I", false)
  | 12 => ("TableCatalog", "askCount", "I", false)
  | 13 => ("TableCatalog", "presentDay", "I", false)
  | 14 => ("TableCatalog", "latestFault", "I", false)
  | _ => ("TableCatalog", "latestPlace", "I", false)
def tyX10 : Nat → FieldType := fun k => match k with
  | 0 => .object "TableCatalog$Row"
  | 1 => .object "TableCatalog$Parser"
  | 2 => .object "TableCatalog$Checker"
  | 3 => .object "TableCatalog$Typing"
  | 4 => .array (.object "TableCatalog$Table")
  | 5 => .array .int
  | 6 => .array .int
  | 7 => .array (.object "TableCatalog$Ask")
  | 8 => .object "TableCatalog$ColumnSet"
  | 9 => .object "TableCatalog$Row"
  | 10 => .object "TableCatalog$Row"
  | 11 => .int
  | 12 => .int
  | 13 => .int
  | 14 => .int
  | _ => .int
abbrev wsX100 : List Cond := u_ws RX10 TX10 16
theorem nmX10 : ∀ a, a < 16 → ∀ b, b < 16 → a ≠ b → (TX10 a).2.1 ≠ (TX10 b).2.1 := by decide +kernel
theorem tyX10_ok : ∀ k, k < 16 → parseFieldDescriptor (TX10 k).2.2.1 = some (tyX10 k) := by decide +kernel
abbrev cX10_init : ByteArray := prog_1_method_1_code
def yX10_init : MethodName := ⟨RX10, "<init>", "()V"⟩
abbrev cX10_feed : ByteArray := prog_1_method_2_code
def yX10_feed : MethodName := ⟨RX10, "feed", "(IIIII)I"⟩
abbrev cX10_end : ByteArray := prog_1_method_3_code
def yX10_end : MethodName := ⟨RX10, "end", "(I)Z"⟩
abbrev cX10_act : ByteArray := prog_1_method_4_code
def yX10_act : MethodName := ⟨RX10, "act", "()I"⟩
abbrev cX10_fault : ByteArray := prog_1_method_5_code
def yX10_fault : MethodName := ⟨RX10, "fault", "(I)I"⟩
abbrev cX10_named : ByteArray := prog_1_method_6_code
def yX10_named : MethodName := ⟨RX10, "named", "()I"⟩
abbrev cX10_table : ByteArray := prog_1_method_7_code
def yX10_table : MethodName := ⟨RX10, "table", "(II)I"⟩
abbrev cX10_type : ByteArray := prog_1_method_8_code
def yX10_type : MethodName := ⟨RX10, "type", "(II)I"⟩
abbrev cX10_from : ByteArray := prog_1_method_9_code
def yX10_from : MethodName := ⟨RX10, "from", "(III)I"⟩
abbrev cX10_touch : ByteArray := prog_1_method_10_code
def yX10_touch : MethodName := ⟨RX10, "touch", "(II)I"⟩
abbrev cX10_asked : ByteArray := prog_1_method_11_code
def yX10_asked : MethodName := ⟨RX10, "asked", "(II)I"⟩
abbrev cX10_found : ByteArray := prog_1_method_12_code
def yX10_found : MethodName := ⟨RX10, "found", "(I)I"⟩
abbrev cX10_retype : ByteArray := prog_1_method_13_code
def yX10_retype : MethodName := ⟨RX10, "retype", "(III)I"⟩
abbrev cX10_drop : ByteArray := prog_1_method_14_code
def yX10_drop : MethodName := ⟨RX10, "drop", "(I)I"⟩
abbrev cX10_freeze : ByteArray := prog_1_method_15_code
def yX10_freeze : MethodName := ⟨RX10, "freeze", "(I)Z"⟩
abbrev cX10_today : ByteArray := prog_1_method_16_code
def yX10_today : MethodName := ⟨RX10, "today", "(I)Z"⟩
abbrev cX10_fed : ByteArray := prog_1_method_17_code
def yX10_fed : MethodName := ⟨RX10, "fed", "(III)Z"⟩
abbrev cX10_run : ByteArray := prog_1_method_18_code
def yX10_run : MethodName := ⟨RX10, "run", "(I)Z"⟩
abbrev cX10_promise : ByteArray := prog_1_method_19_code
def yX10_promise : MethodName := ⟨RX10, "promise", "(II)Z"⟩
abbrev cX10_broken : ByteArray := prog_1_method_20_code
def yX10_broken : MethodName := ⟨RX10, "broken", "()I"⟩
abbrev cX10_late : ByteArray := prog_1_method_21_code
def yX10_late : MethodName := ⟨RX10, "late", "(I)I"⟩
abbrev cX10_own : ByteArray := prog_1_method_22_code
def yX10_own : MethodName := ⟨RX10, "own", "(II)Z"⟩
abbrev cX10_ask : ByteArray := prog_1_method_23_code
def yX10_ask : MethodName := ⟨RX10, "ask", "(III)I"⟩
abbrev cX10_unused : ByteArray := prog_1_method_24_code
def yX10_unused : MethodName := ⟨RX10, "unused", "(I)I"⟩
abbrev cX10_alike : ByteArray := prog_1_method_25_code
def yX10_alike : MethodName := ⟨RX10, "alike", "(II)I"⟩
abbrev cX10_putBytes : ByteArray := prog_1_method_26_code
def yX10_putBytes : MethodName := ⟨RX10, "putBytes", "(I)V"⟩
abbrev cX10_refuse : ByteArray := prog_1_method_27_code
def yX10_refuse : MethodName := ⟨RX10, "refuse", "(II)I"⟩
abbrev cX10_addTable : ByteArray := prog_1_method_28_code
def yX10_addTable : MethodName := ⟨RX10, "addTable", "(LTableCatalog$Draft;)I"⟩
abbrev cX10_tableAt : ByteArray := prog_1_method_29_code
def yX10_tableAt : MethodName := ⟨RX10, "tableAt", "(I)LTableCatalog$Table;"⟩
abbrev cX10_hasColumn : ByteArray := prog_1_method_30_code
def yX10_hasColumn : MethodName := ⟨RX10, "hasColumn", "(II)Z"⟩
abbrev cX10_indexOfName : ByteArray := prog_1_method_31_code
def yX10_indexOfName : MethodName := ⟨RX10, "indexOfName", "([LTableCatalog$Table;J)I"⟩
abbrev cX10_isType : ByteArray := prog_1_method_32_code
def yX10_isType : MethodName := ⟨RX10, "isType", "(I)Z"⟩
abbrev cX10_markEarlierSteps : ByteArray := prog_1_method_33_code
def yX10_markEarlierSteps : MethodName := ⟨RX10, "markEarlierSteps", "(I)V"⟩
abbrev cX10_markTouched : ByteArray := prog_1_method_34_code
def yX10_markTouched : MethodName := ⟨RX10, "markTouched", "(II)V"⟩
abbrev cX10_findMarked : ByteArray := prog_1_method_35_code
def yX10_findMarked : MethodName := ⟨RX10, "findMarked", "(Z)I"⟩
abbrev cX10_tryTypes : ByteArray := prog_1_method_36_code
def yX10_tryTypes : MethodName := ⟨RX10, "tryTypes", "(I)V"⟩
abbrev cX10_countRetypedBeside : ByteArray := prog_1_method_37_code
def yX10_countRetypedBeside : MethodName := ⟨RX10, "countRetypedBeside", "(I)I"⟩
abbrev cX10_dropAsksOf : ByteArray := prog_1_method_38_code
def yX10_dropAsksOf : MethodName := ⟨RX10, "dropAsksOf", "(I)I"⟩
abbrev cX10_takeAgeFromBehind : ByteArray := prog_1_method_39_code
def yX10_takeAgeFromBehind : MethodName := ⟨RX10, "takeAgeFromBehind", "(LTableCatalog$Table;)Z"⟩
abbrev cX10_settleViews : ByteArray := prog_1_method_40_code
def yX10_settleViews : MethodName := ⟨RX10, "settleViews", "()V"⟩
abbrev cX10_isBroken : ByteArray := prog_1_method_41_code
def yX10_isBroken : MethodName := ⟨RX10, "isBroken", "(LTableCatalog$Table;)Z"⟩
abbrev cX10_isBelow : ByteArray := prog_1_method_42_code
def yX10_isBelow : MethodName := ⟨RX10, "isBelow", "(LTableCatalog$Table;I)Z"⟩
abbrev cX10_firstLateBehind : ByteArray := prog_1_method_43_code
def yX10_firstLateBehind : MethodName := ⟨RX10, "firstLateBehind", "(II)I"⟩
abbrev cX10_ownerOf : ByteArray := prog_1_method_44_code
def yX10_ownerOf : MethodName := ⟨RX10, "ownerOf", "(I)I"⟩
abbrev cX10_usedTables : ByteArray := prog_1_method_45_code
def yX10_usedTables : MethodName := ⟨RX10, "usedTables", "(I)I"⟩
def RX11 : String := "TableCatalogModel"
def TX11 : u_T := fun k => match k with
  | 0 => ("TableCatalogModel", "tables", "I", false)
  | 1 => ("TableCatalogModel", "isThere", "[Z", true)
  | 2 => ("TableCatalogModel", "name", "[J", true)
  | 3 => ("TableCatalogModel", "sort", "[I", true)
  | 4 => ("TableCatalogModel", "columns", "[I", true)
  | 5 => ("TableCatalogModel", "columnName", "[J", true)
  | 6 => ("TableCatalogModel", "type", "[I", true)
  | 7 => ("TableCatalogModel", "behind", "[I", true)
  | 8 => ("TableCatalogModel", "from", "[I", true)
  | 9 => ("TableCatalogModel", "owner", "[I", true)
  | 10 => ("TableCatalogModel", "lag", "[I", true)
  | 11 => ("TableCatalogModel", "oldest", "[I", true)
  | 12 => ("TableCatalogModel", "newest", "[I", true)
  | 13 => ("TableCatalogModel", "tokens", "[I", true)
  | 14 => ("TableCatalogModel", "token", "[I", true)
  | 15 => ("TableCatalogModel", "tokenAt", "[I", true)
  | 16 => ("TableCatalogModel", "tokenLong", "[I", true)
  | 17 => ("TableCatalogModel", "text", "[I", true)
  | 18 => ("TableCatalogModel", "formulaFrom", "[I", true)
  | 19 => ("TableCatalogModel", "formulaTo", "[I", true)
  | 20 => ("TableCatalogModel", "equal", "[I", true)
  | 21 => ("TableCatalogModel", "tape", "[I", true)
  | 22 => ("TableCatalogModel", "taped", "I", false)
  | 23 => ("TableCatalogModel", "at", "I", false)
  | 24 => ("TableCatalogModel", "size", "I", false)
  | 25 => ("TableCatalogModel", "bad", "I", false)
  | 26 => ("TableCatalogModel", "badPlace", "I", false)
  | 27 => ("TableCatalogModel", "fault", "I", false)
  | 28 => ("TableCatalogModel", "faultPlace", "I", false)
  | 29 => ("TableCatalogModel", "now", "I", false)
  | 30 => ("TableCatalogModel", "begun", "I", false)
  | 31 => ("TableCatalogModel", "over", "I", false)
  | 32 => ("TableCatalogModel", "word", "J", false)
  | 33 => ("TableCatalogModel", "view", "J", true)
  | 34 => ("TableCatalogModel", "copy", "J", true)
  | 35 => ("TableCatalogModel", "table", "J", true)
  | 36 => ("TableCatalogModel", "fromWord", "J", true)
  | 37 => ("TableCatalogModel", "where", "J", true)
  | 38 => ("TableCatalogModel", "len", "J", true)
  | 39 => ("TableCatalogModel", "str", "J", true)
  | 40 => ("TableCatalogModel", "terms", "[I", true)
  | 41 => ("TableCatalogModel", "fromToken", "I", false)
  | 42 => ("TableCatalogModel", "signPlace", "I", false)
  | 43 => ("TableCatalogModel", "fromName", "[J", true)
  | 44 => ("TableCatalogModel", "fromPlace", "[I", true)
  | 45 => ("TableCatalogModel", "left", "[I", true)
  | 46 => ("TableCatalogModel", "waits", "[I", true)
  | 47 => ("TableCatalogModel", "waitsAt", "[I", true)
  | 48 => ("TableCatalogModel", "called", "[I", true)
  | 49 => ("TableCatalogModel", "calledAt", "[I", true)
  | 50 => ("TableCatalogModel", "errors", "I", false)
  | 51 => ("TableCatalogModel", "depth", "I", false)
  | 52 => ("TableCatalogModel", "isMeant", "Z", false)
  | 53 => ("TableCatalogModel", "newType", "[I", true)
  | 54 => ("TableCatalogModel", "old", "[I", true)
  | 55 => ("TableCatalogModel", "young", "[I", true)
  | 56 => ("TableCatalogModel", "mark", "[Z", true)
  | 57 => ("TableCatalogModel", "founds", "I", false)
  | 58 => ("TableCatalogModel", "foundOnes", "[I", true)
  | 59 => ("TableCatalogModel", "asks", "I", false)
  | 60 => ("TableCatalogModel", "askUser", "[I", true)
  | 61 => ("TableCatalogModel", "askTable", "[I", true)
  | 62 => ("TableCatalogModel", "askBits", "[I", true)
  | 63 => ("TableCatalogModel", "askDay", "[I", true)
  | 64 => ("TableCatalogModel", "today", "I", false)
  | 65 => ("TableCatalogModel", "wrongs", "I", false)
  | _ => ("TableCatalogModel", "wrongOnes", "[I", true)
def tyX11 : Nat → FieldType := fun k => match k with
  | 0 => .int
  | 1 => .array .boolean
  | 2 => .array .long
  | 3 => .array .int
  | 4 => .array .int
  | 5 => .array .long
  | 6 => .array .int
  | 7 => .array .int
  | 8 => .array .int
  | 9 => .array .int
  | 10 => .array .int
  | 11 => .array .int
  | 12 => .array .int
  | 13 => .array .int
  | 14 => .array .int
  | 15 => .array .int
  | 16 => .array .int
  | 17 => .array .int
  | 18 => .array .int
  | 19 => .array .int
  | 20 => .array .int
  | 21 => .array .int
  | 22 => .int
  | 23 => .int
  | 24 => .int
  | 25 => .int
  | 26 => .int
  | 27 => .int
  | 28 => .int
  | 29 => .int
  | 30 => .int
  | 31 => .int
  | 32 => .long
  | 33 => .long
  | 34 => .long
  | 35 => .long
  | 36 => .long
  | 37 => .long
  | 38 => .long
  | 39 => .long
  | 40 => .array .int
  | 41 => .int
  | 42 => .int
  | 43 => .array .long
  | 44 => .array .int
  | 45 => .array .int
  | 46 => .array .int
  | 47 => .array .int
  | 48 => .array .int
  | 49 => .array .int
  | 50 => .int
  | 51 => .int
  | 52 => .boolean
  | 53 => .array .int
  | 54 => .array .int
  | 55 => .array .int
  | 56 => .array .boolean
  | 57 => .int
  | 58 => .array .int
  | 59 => .int
  | 60 => .array .int
  | 61 => .array .int
  | 62 => .array .int
  | 63 => .array .int
  | 64 => .int
  | 65 => .int
  | _ => .array .int
abbrev wsX110 : List Cond := u_ws RX11 TX11 67
theorem nmX11 : ∀ a, a < 67 → ∀ b, b < 67 → a ≠ b → (TX11 a).2.1 ≠ (TX11 b).2.1 := by decide +kernel
theorem tyX11_ok : ∀ k, k < 67 → parseFieldDescriptor (TX11 k).2.2.1 = some (tyX11 k) := by decide +kernel
abbrev cX11_init : ByteArray := prog_13_method_1_code
def yX11_init : MethodName := ⟨RX11, "<init>", "()V"⟩
abbrev cX11_isTable : ByteArray := prog_13_method_2_code
def yX11_isTable : MethodName := ⟨RX11, "isTable", "(I)Z"⟩
abbrev cX11_isColumn : ByteArray := prog_13_method_3_code
def yX11_isColumn : MethodName := ⟨RX11, "isColumn", "(II)Z"⟩
abbrev cX11_feed : ByteArray := prog_13_method_4_code
def yX11_feed : MethodName := ⟨RX11, "feed", "(IIIII)I"⟩
abbrev cX11_end : ByteArray := prog_13_method_5_code
def yX11_end : MethodName := ⟨RX11, "end", "(I)Z"⟩
abbrev cX11_isLetter : ByteArray := prog_13_method_6_code
def yX11_isLetter : MethodName := ⟨RX11, "isLetter", "(I)Z"⟩
abbrev cX11_isDigit : ByteArray := prog_13_method_7_code
def yX11_isDigit : MethodName := ⟨RX11, "isDigit", "(I)Z"⟩
abbrev cX11_isBlank : ByteArray := prog_13_method_8_code
def yX11_isBlank : MethodName := ⟨RX11, "isBlank", "(I)Z"⟩
abbrev cX11_fail : ByteArray := prog_13_method_9_code
def yX11_fail : MethodName := ⟨RX11, "fail", "(II)V"⟩
abbrev cX11_wordFrom : ByteArray := prog_13_method_10_code
def yX11_wordFrom : MethodName := ⟨RX11, "wordFrom", "(II)J"⟩
abbrev cX11_next : ByteArray := prog_13_method_11_code
def yX11_next : MethodName := ⟨RX11, "next", "()V"⟩
abbrev cX11_keeps : ByteArray := prog_13_method_12_code
def yX11_keeps : MethodName := ⟨RX11, "keeps", "()V"⟩
abbrev cX11_named : ByteArray := prog_13_method_13_code
def yX11_named : MethodName := ⟨RX11, "named", "(CCCCC)J"⟩
abbrev cX11_isWord : ByteArray := prog_13_method_14_code
def yX11_isWord : MethodName := ⟨RX11, "isWord", "(J)Z"⟩
abbrev cX11_isName : ByteArray := prog_13_method_15_code
def yX11_isName : MethodName := ⟨RX11, "isName", "()Z"⟩
abbrev cX11_sign : ByteArray := prog_13_method_16_code
def yX11_sign : MethodName := ⟨RX11, "sign", "(I)V"⟩
abbrev cX11_name : ByteArray := prog_13_method_17_code
def yX11_name : MethodName := ⟨RX11, "name", "()V"⟩
abbrev cX11_formula : ByteArray := prog_13_method_18_code
def yX11_formula : MethodName := ⟨RX11, "formula", "(I)V"⟩
abbrev cX11_isMore : ByteArray := prog_13_method_19_code
def yX11_isMore : MethodName := ⟨RX11, "isMore", "()Z"⟩
abbrev cX11_term : ByteArray := prog_13_method_20_code
def yX11_term : MethodName := ⟨RX11, "term", "()V"⟩
abbrev cX11_source : ByteArray := prog_13_method_21_code
def yX11_source : MethodName := ⟨RX11, "source", "()V"⟩
abbrev cX11_select : ByteArray := prog_13_method_22_code
def yX11_select : MethodName := ⟨RX11, "select", "()V"⟩
abbrev cX11_means : ByteArray := prog_13_method_23_code
def yX11_means : MethodName := ⟨RX11, "means", "(II)V"⟩
abbrev cX11_tableNamed : ByteArray := prog_13_method_24_code
def yX11_tableNamed : MethodName := ⟨RX11, "tableNamed", "(J)I"⟩
abbrev cX11_wordOf : ByteArray := prog_13_method_25_code
def yX11_wordOf : MethodName := ⟨RX11, "wordOf", "(II)J"⟩
abbrev cX11_behindNamed : ByteArray := prog_13_method_26_code
def yX11_behindNamed : MethodName := ⟨RX11, "behindNamed", "(IJ)I"⟩
abbrev cX11_columnNamed : ByteArray := prog_13_method_27_code
def yX11_columnNamed : MethodName := ⟨RX11, "columnNamed", "(IJ)I"⟩
abbrev cX11_wrong : ByteArray := prog_13_method_28_code
def yX11_wrong : MethodName := ⟨RX11, "wrong", "(I)V"⟩
abbrev cX11_comes : ByteArray := prog_13_method_29_code
def yX11_comes : MethodName := ⟨RX11, "comes", "(I)V"⟩
abbrev cX11_typeOf : ByteArray := prog_13_method_30_code
def yX11_typeOf : MethodName := ⟨RX11, "typeOf", "(II)I"⟩
abbrev cX11_typeOfName : ByteArray := prog_13_method_31_code
def yX11_typeOfName : MethodName := ⟨RX11, "typeOfName", "(II)I"⟩
abbrev cX11_hasWhere : ByteArray := prog_13_method_32_code
def yX11_hasWhere : MethodName := ⟨RX11, "hasWhere", "(I)Z"⟩
abbrev cX11_meant : ByteArray := prog_13_method_33_code
def yX11_meant : MethodName := ⟨RX11, "meant", "()V"⟩
abbrev cX11_act : ByteArray := prog_13_method_34_code
def yX11_act : MethodName := ⟨RX11, "act", "()I"⟩
abbrev cX11_fault : ByteArray := prog_13_method_35_code
def yX11_fault : MethodName := ⟨RX11, "fault", "(I)I"⟩
abbrev cX11_named_ : ByteArray := prog_13_method_36_code
def yX11_named_ : MethodName := ⟨RX11, "named", "()I"⟩
abbrev cX11_ages : ByteArray := prog_13_method_37_code
def yX11_ages : MethodName := ⟨RX11, "ages", "()V"⟩
abbrev cX11_agesBehind : ByteArray := prog_13_method_38_code
def yX11_agesBehind : MethodName := ⟨RX11, "agesBehind", "(I)V"⟩
abbrev cX11_ownerOf : ByteArray := prog_13_method_39_code
def yX11_ownerOf : MethodName := ⟨RX11, "ownerOf", "(I)I"⟩
abbrev cX11_table : ByteArray := prog_13_method_40_code
def yX11_table : MethodName := ⟨RX11, "table", "(II)I"⟩
abbrev cX11_type : ByteArray := prog_13_method_41_code
def yX11_type : MethodName := ⟨RX11, "type", "(II)I"⟩
abbrev cX11_found : ByteArray := prog_13_method_42_code
def yX11_found : MethodName := ⟨RX11, "found", "(I)I"⟩
abbrev cX11_finds : ByteArray := prog_13_method_43_code
def yX11_finds : MethodName := ⟨RX11, "finds", "(I)V"⟩
abbrev cX11_usedAt : ByteArray := prog_13_method_44_code
def yX11_usedAt : MethodName := ⟨RX11, "usedAt", "(II)I"⟩
abbrev cX11_isNameAt : ByteArray := prog_13_method_45_code
def yX11_isNameAt : MethodName := ⟨RX11, "isNameAt", "(II)Z"⟩
abbrev cX11_usesMarked : ByteArray := prog_13_method_46_code
def yX11_usesMarked : MethodName := ⟨RX11, "usesMarked", "(II)Z"⟩
abbrev cX11_marksUsed : ByteArray := prog_13_method_47_code
def yX11_marksUsed : MethodName := ⟨RX11, "marksUsed", "(II)V"⟩
abbrev cX11_clears : ByteArray := prog_13_method_48_code
def yX11_clears : MethodName := ⟨RX11, "clears", "()V"⟩
abbrev cX11_from : ByteArray := prog_13_method_49_code
def yX11_from : MethodName := ⟨RX11, "from", "(III)I"⟩
abbrev cX11_touches : ByteArray := prog_13_method_50_code
def yX11_touches : MethodName := ⟨RX11, "touches", "(II)V"⟩
abbrev cX11_touch : ByteArray := prog_13_method_51_code
def yX11_touch : MethodName := ⟨RX11, "touch", "(II)I"⟩
abbrev cX11_asked : ByteArray := prog_13_method_52_code
def yX11_asked : MethodName := ⟨RX11, "asked", "(II)I"⟩
abbrev cX11_ask : ByteArray := prog_13_method_53_code
def yX11_ask : MethodName := ⟨RX11, "ask", "(III)I"⟩
abbrev cX11_retype : ByteArray := prog_13_method_54_code
def yX11_retype : MethodName := ⟨RX11, "retype", "(III)I"⟩
abbrev cX11_looks : ByteArray := prog_13_method_55_code
def yX11_looks : MethodName := ⟨RX11, "looks", "(I)V"⟩
abbrev cX11_hasBehind : ByteArray := prog_13_method_56_code
def yX11_hasBehind : MethodName := ⟨RX11, "hasBehind", "(II)Z"⟩
abbrev cX11_drop : ByteArray := prog_13_method_57_code
def yX11_drop : MethodName := ⟨RX11, "drop", "(I)I"⟩
abbrev cX11_freeze : ByteArray := prog_13_method_58_code
def yX11_freeze : MethodName := ⟨RX11, "freeze", "(I)Z"⟩
abbrev cX11_today : ByteArray := prog_13_method_59_code
def yX11_today : MethodName := ⟨RX11, "today", "(I)Z"⟩
abbrev cX11_fed : ByteArray := prog_13_method_60_code
def yX11_fed : MethodName := ⟨RX11, "fed", "(III)Z"⟩
abbrev cX11_run : ByteArray := prog_13_method_61_code
def yX11_run : MethodName := ⟨RX11, "run", "(I)Z"⟩
abbrev cX11_promise : ByteArray := prog_13_method_62_code
def yX11_promise : MethodName := ⟨RX11, "promise", "(II)Z"⟩
abbrev cX11_isBroken : ByteArray := prog_13_method_63_code
def yX11_isBroken : MethodName := ⟨RX11, "isBroken", "(I)Z"⟩
abbrev cX11_broken : ByteArray := prog_13_method_64_code
def yX11_broken : MethodName := ⟨RX11, "broken", "()I"⟩
abbrev cX11_late : ByteArray := prog_13_method_65_code
def yX11_late : MethodName := ⟨RX11, "late", "(I)I"⟩
abbrev cX11_own : ByteArray := prog_13_method_66_code
def yX11_own : MethodName := ⟨RX11, "own", "(II)Z"⟩
abbrev cX11_unused : ByteArray := prog_13_method_67_code
def yX11_unused : MethodName := ⟨RX11, "unused", "(I)I"⟩
abbrev cX11_isSelect : ByteArray := prog_13_method_68_code
def yX11_isSelect : MethodName := ⟨RX11, "isSelect", "(I)Z"⟩
abbrev cX11_alike : ByteArray := prog_13_method_69_code
def yX11_alike : MethodName := ⟨RX11, "alike", "(II)I"⟩
abbrev cL_law : ByteArray := code
def RL : String := "TableCatalogLaw"
def yL_law : MethodName := ⟨RL, "law", "([I)Z"⟩
abbrev vwCl : List vw_C := [(RX0, TX0, 3), (RX1, TX1, 3), (RX2, TX2, 1), (RX3, TX3, 9), (RX4, TX4, 3), (RX5, TX5, 5), (RX6, TX6, 2), (RX7, TX7, 10), (RX8, TX8, 6), (RX9, TX9, 3), (RX10, TX10, 16), (RX11, TX11, 67)]
