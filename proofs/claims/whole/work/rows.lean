section
-- ===== PART A: goes FIRST, ahead of the names: the tables' words, and 'selects' of the private methods out of them =====
/-- a private method of a class that the tables say can be made, by its rows of tables_1 -/
def lw_okq (q : MethodName × Nat) : Prop := (q.1.cls ≠ "java/lang/invoke/MethodHandle" ∧ q.1.cls ≠ "java/lang/invoke/VarHandle") ∧ Cond.instantiable q.1.cls q.2 ∈ tables_1 ∧ Cond.privateMethod q.1 ∈ tables_1 ∧ Cond.instanceMethod q.1 ∈ tables_1
theorem lw_p0 : lw_okq (⟨"WordMender$Tape", "append", "(IJ)I"⟩, 2) := ⟨⟨by decide +kernel, by decide +kernel⟩, List.mem_of_getElem? (i := 26) (by decide +kernel), List.mem_of_getElem? (i := 368) (by decide +kernel), List.mem_of_getElem? (i := 369) (by decide +kernel)⟩
theorem lw_p1 : lw_okq (⟨"WordMender$Tape", "takeRow", "(LWordMender$Row;)Z"⟩, 2) := ⟨⟨by decide +kernel, by decide +kernel⟩, List.mem_of_getElem? (i := 26) (by decide +kernel), List.mem_of_getElem? (i := 376) (by decide +kernel), List.mem_of_getElem? (i := 377) (by decide +kernel)⟩
theorem lw_p2 : lw_okq (⟨"WordMender$Tape", "read", "(IIILWordMender$Row;)Z"⟩, 2) := ⟨⟨by decide +kernel, by decide +kernel⟩, List.mem_of_getElem? (i := 26) (by decide +kernel), List.mem_of_getElem? (i := 380) (by decide +kernel), List.mem_of_getElem? (i := 381) (by decide +kernel)⟩
theorem lw_p3 : lw_okq (⟨"WordMender$Row", "clear", "()V"⟩, 2) := ⟨⟨by decide +kernel, by decide +kernel⟩, List.mem_of_getElem? (i := 116) (by decide +kernel), List.mem_of_getElem? (i := 384) (by decide +kernel), List.mem_of_getElem? (i := 385) (by decide +kernel)⟩
theorem lw_p4 : lw_okq (⟨"WordMender$Row", "append", "(I)Z"⟩, 2) := ⟨⟨by decide +kernel, by decide +kernel⟩, List.mem_of_getElem? (i := 116) (by decide +kernel), List.mem_of_getElem? (i := 388) (by decide +kernel), List.mem_of_getElem? (i := 389) (by decide +kernel)⟩
theorem lw_p5 : lw_okq (⟨"WordMender$Lexicon", "grow", "(LWordMender$Row;I)I"⟩, 3) := ⟨⟨by decide +kernel, by decide +kernel⟩, List.mem_of_getElem? (i := 41) (by decide +kernel), List.mem_of_getElem? (i := 393) (by decide +kernel), List.mem_of_getElem? (i := 394) (by decide +kernel)⟩
theorem lw_p6 : lw_okq (⟨"WordMender$Lexicon", "numberOf", "(LWordMender$Row;)I"⟩, 3) := ⟨⟨by decide +kernel, by decide +kernel⟩, List.mem_of_getElem? (i := 41) (by decide +kernel), List.mem_of_getElem? (i := 397) (by decide +kernel), List.mem_of_getElem? (i := 398) (by decide +kernel)⟩
theorem lw_p7 : lw_okq (⟨"WordMender$Lexicon", "place", "(LWordMender$Row;)I"⟩, 3) := ⟨⟨by decide +kernel, by decide +kernel⟩, List.mem_of_getElem? (i := 41) (by decide +kernel), List.mem_of_getElem? (i := 401) (by decide +kernel), List.mem_of_getElem? (i := 402) (by decide +kernel)⟩
theorem lw_p8 : lw_okq (⟨"WordMender$Rows", "order", "(ILWordMender$Row;)I"⟩, 3) := ⟨⟨by decide +kernel, by decide +kernel⟩, List.mem_of_getElem? (i := 47) (by decide +kernel), List.mem_of_getElem? (i := 405) (by decide +kernel), List.mem_of_getElem? (i := 406) (by decide +kernel)⟩
theorem lw_p9 : lw_okq (⟨"WordMender$Rows", "at", "(II)I"⟩, 3) := ⟨⟨by decide +kernel, by decide +kernel⟩, List.mem_of_getElem? (i := 47) (by decide +kernel), List.mem_of_getElem? (i := 409) (by decide +kernel), List.mem_of_getElem? (i := 410) (by decide +kernel)⟩
theorem lw_p10 : lw_okq (⟨"WordMender$Row", "at", "(I)I"⟩, 2) := ⟨⟨by decide +kernel, by decide +kernel⟩, List.mem_of_getElem? (i := 116) (by decide +kernel), List.mem_of_getElem? (i := 413) (by decide +kernel), List.mem_of_getElem? (i := 414) (by decide +kernel)⟩
theorem lw_p11 : lw_okq (⟨"WordMender$Rows", "isFull", "()Z"⟩, 3) := ⟨⟨by decide +kernel, by decide +kernel⟩, List.mem_of_getElem? (i := 47) (by decide +kernel), List.mem_of_getElem? (i := 421) (by decide +kernel), List.mem_of_getElem? (i := 422) (by decide +kernel)⟩
theorem lw_p12 : lw_okq (⟨"WordMender$Rows", "insert", "(ILWordMender$Row;)V"⟩, 3) := ⟨⟨by decide +kernel, by decide +kernel⟩, List.mem_of_getElem? (i := 47) (by decide +kernel), List.mem_of_getElem? (i := 428) (by decide +kernel), List.mem_of_getElem? (i := 429) (by decide +kernel)⟩
theorem lw_p13 : lw_okq (⟨"WordMender$Lexicon", "remove", "(LWordMender$Row;)I"⟩, 3) := ⟨⟨by decide +kernel, by decide +kernel⟩, List.mem_of_getElem? (i := 41) (by decide +kernel), List.mem_of_getElem? (i := 438) (by decide +kernel), List.mem_of_getElem? (i := 439) (by decide +kernel)⟩
theorem lw_p14 : lw_okq (⟨"WordMender$Rows", "remove", "(I)V"⟩, 3) := ⟨⟨by decide +kernel, by decide +kernel⟩, List.mem_of_getElem? (i := 47) (by decide +kernel), List.mem_of_getElem? (i := 442) (by decide +kernel), List.mem_of_getElem? (i := 443) (by decide +kernel)⟩
theorem lw_p15 : lw_okq (⟨"WordMender$Lexicon", "countOf", "(I)I"⟩, 3) := ⟨⟨by decide +kernel, by decide +kernel⟩, List.mem_of_getElem? (i := 41) (by decide +kernel), List.mem_of_getElem? (i := 455) (by decide +kernel), List.mem_of_getElem? (i := 456) (by decide +kernel)⟩
def lw_privs_1 : List (MethodName × Nat) := [(⟨"WordMender$Tape", "append", "(IJ)I"⟩, 2), (⟨"WordMender$Tape", "takeRow", "(LWordMender$Row;)Z"⟩, 2), (⟨"WordMender$Tape", "read", "(IIILWordMender$Row;)Z"⟩, 2), (⟨"WordMender$Row", "clear", "()V"⟩, 2), (⟨"WordMender$Row", "append", "(I)Z"⟩, 2), (⟨"WordMender$Lexicon", "grow", "(LWordMender$Row;I)I"⟩, 3), (⟨"WordMender$Lexicon", "numberOf", "(LWordMender$Row;)I"⟩, 3), (⟨"WordMender$Lexicon", "place", "(LWordMender$Row;)I"⟩, 3), (⟨"WordMender$Rows", "order", "(ILWordMender$Row;)I"⟩, 3), (⟨"WordMender$Rows", "at", "(II)I"⟩, 3), (⟨"WordMender$Row", "at", "(I)I"⟩, 2), (⟨"WordMender$Rows", "isFull", "()Z"⟩, 3), (⟨"WordMender$Rows", "insert", "(ILWordMender$Row;)V"⟩, 3), (⟨"WordMender$Lexicon", "remove", "(LWordMender$Row;)I"⟩, 3), (⟨"WordMender$Rows", "remove", "(I)V"⟩, 3), (⟨"WordMender$Lexicon", "countOf", "(I)I"⟩, 3)]
theorem lw_r1 : ∀ q ∈ lw_privs_1, lw_okq q := List.forall_mem_cons.mpr ⟨lw_p0, List.forall_mem_cons.mpr ⟨lw_p1, List.forall_mem_cons.mpr ⟨lw_p2, List.forall_mem_cons.mpr ⟨lw_p3, List.forall_mem_cons.mpr ⟨lw_p4, List.forall_mem_cons.mpr ⟨lw_p5, List.forall_mem_cons.mpr ⟨lw_p6, List.forall_mem_cons.mpr ⟨lw_p7, List.forall_mem_cons.mpr ⟨lw_p8, List.forall_mem_cons.mpr ⟨lw_p9, List.forall_mem_cons.mpr ⟨lw_p10, List.forall_mem_cons.mpr ⟨lw_p11, List.forall_mem_cons.mpr ⟨lw_p12, List.forall_mem_cons.mpr ⟨lw_p13, List.forall_mem_cons.mpr ⟨lw_p14, List.forall_mem_cons.mpr ⟨lw_p15, fun _ h => absurd h List.not_mem_nil⟩⟩⟩⟩⟩⟩⟩⟩⟩⟩⟩⟩⟩⟩⟩⟩
theorem lw_p16 : lw_okq (⟨"WordMender$Rows", "sizeOf", "(I)I"⟩, 3) := ⟨⟨by decide +kernel, by decide +kernel⟩, List.mem_of_getElem? (i := 47) (by decide +kernel), List.mem_of_getElem? (i := 459) (by decide +kernel), List.mem_of_getElem? (i := 460) (by decide +kernel)⟩
theorem lw_p17 : lw_okq (⟨"WordMender$Lexicon", "nodes", "()I"⟩, 3) := ⟨⟨by decide +kernel, by decide +kernel⟩, List.mem_of_getElem? (i := 41) (by decide +kernel), List.mem_of_getElem? (i := 468) (by decide +kernel), List.mem_of_getElem? (i := 469) (by decide +kernel)⟩
theorem lw_p18 : lw_okq (⟨"WordMender$Rows", "shared", "(I)I"⟩, 3) := ⟨⟨by decide +kernel, by decide +kernel⟩, List.mem_of_getElem? (i := 47) (by decide +kernel), List.mem_of_getElem? (i := 473) (by decide +kernel), List.mem_of_getElem? (i := 474) (by decide +kernel)⟩
theorem lw_p19 : lw_okq (⟨"WordMender$Slips", "setKind", "(II)I"⟩, 7) := ⟨⟨by decide +kernel, by decide +kernel⟩, List.mem_of_getElem? (i := 85) (by decide +kernel), List.mem_of_getElem? (i := 482) (by decide +kernel), List.mem_of_getElem? (i := 483) (by decide +kernel)⟩
theorem lw_p20 : lw_okq (⟨"WordMender$Slips", "setByLetters", "(IIII)I"⟩, 7) := ⟨⟨by decide +kernel, by decide +kernel⟩, List.mem_of_getElem? (i := 85) (by decide +kernel), List.mem_of_getElem? (i := 486) (by decide +kernel), List.mem_of_getElem? (i := 487) (by decide +kernel)⟩
theorem lw_p21 : lw_okq (⟨"WordMender$Tape", "takeTwo", "(ILWordMender$Row;LWordMender$Row;)Z"⟩, 2) := ⟨⟨by decide +kernel, by decide +kernel⟩, List.mem_of_getElem? (i := 26) (by decide +kernel), List.mem_of_getElem? (i := 497) (by decide +kernel), List.mem_of_getElem? (i := 498) (by decide +kernel)⟩
theorem lw_p22 : lw_okq (⟨"WordMender$Tape", "seek", "(CII)I"⟩, 2) := ⟨⟨by decide +kernel, by decide +kernel⟩, List.mem_of_getElem? (i := 26) (by decide +kernel), List.mem_of_getElem? (i := 501) (by decide +kernel), List.mem_of_getElem? (i := 502) (by decide +kernel)⟩
theorem lw_p23 : lw_okq (⟨"WordMender$Slips", "addSound", "(LWordMender$Row;LWordMender$Row;I)I"⟩, 7) := ⟨⟨by decide +kernel, by decide +kernel⟩, List.mem_of_getElem? (i := 85) (by decide +kernel), List.mem_of_getElem? (i := 505) (by decide +kernel), List.mem_of_getElem? (i := 506) (by decide +kernel)⟩
theorem lw_p24 : lw_okq (⟨"WordMender$Rows", "append", "(LWordMender$Row;)V"⟩, 3) := ⟨⟨by decide +kernel, by decide +kernel⟩, List.mem_of_getElem? (i := 47) (by decide +kernel), List.mem_of_getElem? (i := 510) (by decide +kernel), List.mem_of_getElem? (i := 511) (by decide +kernel)⟩
theorem lw_p25 : lw_okq (⟨"WordMender$Way", "measure", "(LWordMender$Row;LWordMender$Row;)I"⟩, 7) := ⟨⟨by decide +kernel, by decide +kernel⟩, List.mem_of_getElem? (i := 135) (by decide +kernel), List.mem_of_getElem? (i := 523) (by decide +kernel), List.mem_of_getElem? (i := 524) (by decide +kernel)⟩
theorem lw_p26 : lw_okq (⟨"WordMender$Way", "leastFrom", "(LWordMender$Row;ILWordMender$Row;I)I"⟩, 7) := ⟨⟨by decide +kernel, by decide +kernel⟩, List.mem_of_getElem? (i := 135) (by decide +kernel), List.mem_of_getElem? (i := 527) (by decide +kernel), List.mem_of_getElem? (i := 528) (by decide +kernel)⟩
theorem lw_p27 : lw_okq (⟨"WordMender$Slips", "codes", "()I"⟩, 7) := ⟨⟨by decide +kernel, by decide +kernel⟩, List.mem_of_getElem? (i := 85) (by decide +kernel), List.mem_of_getElem? (i := 532) (by decide +kernel), List.mem_of_getElem? (i := 533) (by decide +kernel)⟩
theorem lw_p28 : lw_okq (⟨"WordMender$Way", "sumBy", "(ILWordMender$Row;ILWordMender$Row;I)I"⟩, 7) := ⟨⟨by decide +kernel, by decide +kernel⟩, List.mem_of_getElem? (i := 135) (by decide +kernel), List.mem_of_getElem? (i := 536) (by decide +kernel), List.mem_of_getElem? (i := 537) (by decide +kernel)⟩
theorem lw_p29 : lw_okq (⟨"WordMender$Slips", "priceAt", "(ILWordMender$Row;ILWordMender$Row;I)I"⟩, 7) := ⟨⟨by decide +kernel, by decide +kernel⟩, List.mem_of_getElem? (i := 85) (by decide +kernel), List.mem_of_getElem? (i := 540) (by decide +kernel), List.mem_of_getElem? (i := 541) (by decide +kernel)⟩
theorem lw_p30 : lw_okq (⟨"WordMender$Rows", "standsIn", "(ILWordMender$Row;I)Z"⟩, 3) := ⟨⟨by decide +kernel, by decide +kernel⟩, List.mem_of_getElem? (i := 47) (by decide +kernel), List.mem_of_getElem? (i := 548) (by decide +kernel), List.mem_of_getElem? (i := 549) (by decide +kernel)⟩
theorem lw_p31 : lw_okq (⟨"WordMender$Slips", "soundPrice", "(I)I"⟩, 7) := ⟨⟨by decide +kernel, by decide +kernel⟩, List.mem_of_getElem? (i := 85) (by decide +kernel), List.mem_of_getElem? (i := 552) (by decide +kernel), List.mem_of_getElem? (i := 553) (by decide +kernel)⟩
def lw_privs_2 : List (MethodName × Nat) := [(⟨"WordMender$Rows", "sizeOf", "(I)I"⟩, 3), (⟨"WordMender$Lexicon", "nodes", "()I"⟩, 3), (⟨"WordMender$Rows", "shared", "(I)I"⟩, 3), (⟨"WordMender$Slips", "setKind", "(II)I"⟩, 7), (⟨"WordMender$Slips", "setByLetters", "(IIII)I"⟩, 7), (⟨"WordMender$Tape", "takeTwo", "(ILWordMender$Row;LWordMender$Row;)Z"⟩, 2), (⟨"WordMender$Tape", "seek", "(CII)I"⟩, 2), (⟨"WordMender$Slips", "addSound", "(LWordMender$Row;LWordMender$Row;I)I"⟩, 7), (⟨"WordMender$Rows", "append", "(LWordMender$Row;)V"⟩, 3), (⟨"WordMender$Way", "measure", "(LWordMender$Row;LWordMender$Row;)I"⟩, 7), (⟨"WordMender$Way", "leastFrom", "(LWordMender$Row;ILWordMender$Row;I)I"⟩, 7), (⟨"WordMender$Slips", "codes", "()I"⟩, 7), (⟨"WordMender$Way", "sumBy", "(ILWordMender$Row;ILWordMender$Row;I)I"⟩, 7), (⟨"WordMender$Slips", "priceAt", "(ILWordMender$Row;ILWordMender$Row;I)I"⟩, 7), (⟨"WordMender$Rows", "standsIn", "(ILWordMender$Row;I)Z"⟩, 3), (⟨"WordMender$Slips", "soundPrice", "(I)I"⟩, 7)]
theorem lw_r2 : ∀ q ∈ lw_privs_2, lw_okq q := List.forall_mem_cons.mpr ⟨lw_p16, List.forall_mem_cons.mpr ⟨lw_p17, List.forall_mem_cons.mpr ⟨lw_p18, List.forall_mem_cons.mpr ⟨lw_p19, List.forall_mem_cons.mpr ⟨lw_p20, List.forall_mem_cons.mpr ⟨lw_p21, List.forall_mem_cons.mpr ⟨lw_p22, List.forall_mem_cons.mpr ⟨lw_p23, List.forall_mem_cons.mpr ⟨lw_p24, List.forall_mem_cons.mpr ⟨lw_p25, List.forall_mem_cons.mpr ⟨lw_p26, List.forall_mem_cons.mpr ⟨lw_p27, List.forall_mem_cons.mpr ⟨lw_p28, List.forall_mem_cons.mpr ⟨lw_p29, List.forall_mem_cons.mpr ⟨lw_p30, List.forall_mem_cons.mpr ⟨lw_p31, fun _ h => absurd h List.not_mem_nil⟩⟩⟩⟩⟩⟩⟩⟩⟩⟩⟩⟩⟩⟩⟩⟩
theorem lw_p32 : lw_okq (⟨"WordMender$Slips", "meantTaken", "(I)I"⟩, 7) := ⟨⟨by decide +kernel, by decide +kernel⟩, List.mem_of_getElem? (i := 85) (by decide +kernel), List.mem_of_getElem? (i := 556) (by decide +kernel), List.mem_of_getElem? (i := 557) (by decide +kernel)⟩
theorem lw_p33 : lw_okq (⟨"WordMender$Slips", "typedTaken", "(I)I"⟩, 7) := ⟨⟨by decide +kernel, by decide +kernel⟩, List.mem_of_getElem? (i := 85) (by decide +kernel), List.mem_of_getElem? (i := 563) (by decide +kernel), List.mem_of_getElem? (i := 564) (by decide +kernel)⟩
theorem lw_p34 : lw_okq (⟨"WordMender$Way", "trace", "(LWordMender$Row;LWordMender$Row;)V"⟩, 7) := ⟨⟨by decide +kernel, by decide +kernel⟩, List.mem_of_getElem? (i := 135) (by decide +kernel), List.mem_of_getElem? (i := 570) (by decide +kernel), List.mem_of_getElem? (i := 571) (by decide +kernel)⟩
theorem lw_p35 : lw_okq (⟨"WordMender$Way", "firstCode", "(LWordMender$Row;ILWordMender$Row;I)I"⟩, 7) := ⟨⟨by decide +kernel, by decide +kernel⟩, List.mem_of_getElem? (i := 135) (by decide +kernel), List.mem_of_getElem? (i := 574) (by decide +kernel), List.mem_of_getElem? (i := 575) (by decide +kernel)⟩
theorem lw_p36 : lw_okq (⟨"WordMender$Way", "tell", "(II)I"⟩, 7) := ⟨⟨by decide +kernel, by decide +kernel⟩, List.mem_of_getElem? (i := 135) (by decide +kernel), List.mem_of_getElem? (i := 582) (by decide +kernel), List.mem_of_getElem? (i := 583) (by decide +kernel)⟩
theorem lw_p37 : lw_okq (⟨"WordMender$Way", "codeAt", "(I)I"⟩, 7) := ⟨⟨by decide +kernel, by decide +kernel⟩, List.mem_of_getElem? (i := 135) (by decide +kernel), List.mem_of_getElem? (i := 586) (by decide +kernel), List.mem_of_getElem? (i := 587) (by decide +kernel)⟩
theorem lw_p38 : lw_okq (⟨"WordMender$Walk", "go", "(LWordMender$Row;IZ)V"⟩, 9) := ⟨⟨by decide +kernel, by decide +kernel⟩, List.mem_of_getElem? (i := 164) (by decide +kernel), List.mem_of_getElem? (i := 598) (by decide +kernel), List.mem_of_getElem? (i := 599) (by decide +kernel)⟩
theorem lw_p39 : lw_okq (⟨"WordMender$Met", "clear", "(I)V"⟩, 8) := ⟨⟨by decide +kernel, by decide +kernel⟩, List.mem_of_getElem? (i := 170) (by decide +kernel), List.mem_of_getElem? (i := 602) (by decide +kernel), List.mem_of_getElem? (i := 603) (by decide +kernel)⟩
theorem lw_p40 : lw_okq (⟨"WordMender$Rows", "copyTo", "(ILWordMender$Row;)V"⟩, 3) := ⟨⟨by decide +kernel, by decide +kernel⟩, List.mem_of_getElem? (i := 47) (by decide +kernel), List.mem_of_getElem? (i := 608) (by decide +kernel), List.mem_of_getElem? (i := 609) (by decide +kernel)⟩
theorem lw_p41 : lw_okq (⟨"WordMender$Walk", "descend", "(ILWordMender$Row;IZ)I"⟩, 9) := ⟨⟨by decide +kernel, by decide +kernel⟩, List.mem_of_getElem? (i := 164) (by decide +kernel), List.mem_of_getElem? (i := 615) (by decide +kernel), List.mem_of_getElem? (i := 616) (by decide +kernel)⟩
theorem lw_p42 : lw_okq (⟨"WordMender$Walk", "fill", "(ILWordMender$Row;)V"⟩, 9) := ⟨⟨by decide +kernel, by decide +kernel⟩, List.mem_of_getElem? (i := 164) (by decide +kernel), List.mem_of_getElem? (i := 620) (by decide +kernel), List.mem_of_getElem? (i := 621) (by decide +kernel)⟩
theorem lw_p43 : lw_okq (⟨"WordMender$Walk", "reach", "(IILWordMender$Row;)V"⟩, 9) := ⟨⟨by decide +kernel, by decide +kernel⟩, List.mem_of_getElem? (i := 164) (by decide +kernel), List.mem_of_getElem? (i := 626) (by decide +kernel), List.mem_of_getElem? (i := 627) (by decide +kernel)⟩
theorem lw_p44 : lw_okq (⟨"WordMender$Slips", "mayStand", "(ILWordMender$Row;I)Z"⟩, 7) := ⟨⟨by decide +kernel, by decide +kernel⟩, List.mem_of_getElem? (i := 85) (by decide +kernel), List.mem_of_getElem? (i := 631) (by decide +kernel), List.mem_of_getElem? (i := 632) (by decide +kernel)⟩
theorem lw_p45 : lw_okq (⟨"WordMender$Walk", "sumUp", "(ILWordMender$Row;)V"⟩, 9) := ⟨⟨by decide +kernel, by decide +kernel⟩, List.mem_of_getElem? (i := 164) (by decide +kernel), List.mem_of_getElem? (i := 637) (by decide +kernel), List.mem_of_getElem? (i := 638) (by decide +kernel)⟩
theorem lw_p46 : lw_okq (⟨"WordMender$Walk", "isLeft", "(II)Z"⟩, 9) := ⟨⟨by decide +kernel, by decide +kernel⟩, List.mem_of_getElem? (i := 164) (by decide +kernel), List.mem_of_getElem? (i := 642) (by decide +kernel), List.mem_of_getElem? (i := 643) (by decide +kernel)⟩
theorem lw_p47 : lw_okq (⟨"WordMender$Met", "keep", "(IIZZ[I)V"⟩, 8) := ⟨⟨by decide +kernel, by decide +kernel⟩, List.mem_of_getElem? (i := 170) (by decide +kernel), List.mem_of_getElem? (i := 647) (by decide +kernel), List.mem_of_getElem? (i := 648) (by decide +kernel)⟩
def lw_privs_3 : List (MethodName × Nat) := [(⟨"WordMender$Slips", "meantTaken", "(I)I"⟩, 7), (⟨"WordMender$Slips", "typedTaken", "(I)I"⟩, 7), (⟨"WordMender$Way", "trace", "(LWordMender$Row;LWordMender$Row;)V"⟩, 7), (⟨"WordMender$Way", "firstCode", "(LWordMender$Row;ILWordMender$Row;I)I"⟩, 7), (⟨"WordMender$Way", "tell", "(II)I"⟩, 7), (⟨"WordMender$Way", "codeAt", "(I)I"⟩, 7), (⟨"WordMender$Walk", "go", "(LWordMender$Row;IZ)V"⟩, 9), (⟨"WordMender$Met", "clear", "(I)V"⟩, 8), (⟨"WordMender$Rows", "copyTo", "(ILWordMender$Row;)V"⟩, 3), (⟨"WordMender$Walk", "descend", "(ILWordMender$Row;IZ)I"⟩, 9), (⟨"WordMender$Walk", "fill", "(ILWordMender$Row;)V"⟩, 9), (⟨"WordMender$Walk", "reach", "(IILWordMender$Row;)V"⟩, 9), (⟨"WordMender$Slips", "mayStand", "(ILWordMender$Row;I)Z"⟩, 7), (⟨"WordMender$Walk", "sumUp", "(ILWordMender$Row;)V"⟩, 9), (⟨"WordMender$Walk", "isLeft", "(II)Z"⟩, 9), (⟨"WordMender$Met", "keep", "(IIZZ[I)V"⟩, 8)]
theorem lw_r3 : ∀ q ∈ lw_privs_3, lw_okq q := List.forall_mem_cons.mpr ⟨lw_p32, List.forall_mem_cons.mpr ⟨lw_p33, List.forall_mem_cons.mpr ⟨lw_p34, List.forall_mem_cons.mpr ⟨lw_p35, List.forall_mem_cons.mpr ⟨lw_p36, List.forall_mem_cons.mpr ⟨lw_p37, List.forall_mem_cons.mpr ⟨lw_p38, List.forall_mem_cons.mpr ⟨lw_p39, List.forall_mem_cons.mpr ⟨lw_p40, List.forall_mem_cons.mpr ⟨lw_p41, List.forall_mem_cons.mpr ⟨lw_p42, List.forall_mem_cons.mpr ⟨lw_p43, List.forall_mem_cons.mpr ⟨lw_p44, List.forall_mem_cons.mpr ⟨lw_p45, List.forall_mem_cons.mpr ⟨lw_p46, List.forall_mem_cons.mpr ⟨lw_p47, fun _ h => absurd h List.not_mem_nil⟩⟩⟩⟩⟩⟩⟩⟩⟩⟩⟩⟩⟩⟩⟩⟩
theorem lw_p48 : lw_okq (⟨"WordMender$Found", "gather", "([III)I"⟩, 5) := ⟨⟨by decide +kernel, by decide +kernel⟩, List.mem_of_getElem? (i := 238) (by decide +kernel), List.mem_of_getElem? (i := 652) (by decide +kernel), List.mem_of_getElem? (i := 653) (by decide +kernel)⟩
theorem lw_p49 : lw_okq (⟨"WordMender$Found", "lay", "(III)V"⟩, 5) := ⟨⟨by decide +kernel, by decide +kernel⟩, List.mem_of_getElem? (i := 238) (by decide +kernel), List.mem_of_getElem? (i := 657) (by decide +kernel), List.mem_of_getElem? (i := 658) (by decide +kernel)⟩
theorem lw_p50 : lw_okq (⟨"WordMender$Lexicon", "share", "(I)I"⟩, 3) := ⟨⟨by decide +kernel, by decide +kernel⟩, List.mem_of_getElem? (i := 41) (by decide +kernel), List.mem_of_getElem? (i := 661) (by decide +kernel), List.mem_of_getElem? (i := 662) (by decide +kernel)⟩
theorem lw_p51 : lw_okq (⟨"WordMender$Found", "isAhead", "(III)Z"⟩, 5) := ⟨⟨by decide +kernel, by decide +kernel⟩, List.mem_of_getElem? (i := 238) (by decide +kernel), List.mem_of_getElem? (i := 667) (by decide +kernel), List.mem_of_getElem? (i := 668) (by decide +kernel)⟩
theorem lw_p52 : lw_okq (⟨"WordMender$Found", "move", "(III)V"⟩, 5) := ⟨⟨by decide +kernel, by decide +kernel⟩, List.mem_of_getElem? (i := 238) (by decide +kernel), List.mem_of_getElem? (i := 672) (by decide +kernel), List.mem_of_getElem? (i := 673) (by decide +kernel)⟩
theorem lw_p53 : lw_okq (⟨"WordMender$Found", "tell", "(II)I"⟩, 5) := ⟨⟨by decide +kernel, by decide +kernel⟩, List.mem_of_getElem? (i := 238) (by decide +kernel), List.mem_of_getElem? (i := 689) (by decide +kernel), List.mem_of_getElem? (i := 690) (by decide +kernel)⟩
theorem lw_p54 : lw_okq (⟨"WordMender$Met", "tell", "(II)I"⟩, 8) := ⟨⟨by decide +kernel, by decide +kernel⟩, List.mem_of_getElem? (i := 170) (by decide +kernel), List.mem_of_getElem? (i := 697) (by decide +kernel), List.mem_of_getElem? (i := 698) (by decide +kernel)⟩
theorem lw_p55 : lw_okq (⟨"WordMender$Met", "least", "(I)I"⟩, 8) := ⟨⟨by decide +kernel, by decide +kernel⟩, List.mem_of_getElem? (i := 170) (by decide +kernel), List.mem_of_getElem? (i := 701) (by decide +kernel), List.mem_of_getElem? (i := 702) (by decide +kernel)⟩
theorem lw_p56 : lw_okq (⟨"WordMender$Met", "stateAt", "(II)I"⟩, 8) := ⟨⟨by decide +kernel, by decide +kernel⟩, List.mem_of_getElem? (i := 170) (by decide +kernel), List.mem_of_getElem? (i := 706) (by decide +kernel), List.mem_of_getElem? (i := 707) (by decide +kernel)⟩
theorem lw_p57 : lw_okq (⟨"WordMender", "findWays", "()Z"⟩, 17) := ⟨⟨by decide +kernel, by decide +kernel⟩, List.mem_of_getElem? (i := 18) (by decide +kernel), List.mem_of_getElem? (i := 723) (by decide +kernel), List.mem_of_getElem? (i := 724) (by decide +kernel)⟩
theorem lw_p58 : lw_okq (⟨"WordMender", "readPair", "(I)V"⟩, 17) := ⟨⟨by decide +kernel, by decide +kernel⟩, List.mem_of_getElem? (i := 18) (by decide +kernel), List.mem_of_getElem? (i := 727) (by decide +kernel), List.mem_of_getElem? (i := 728) (by decide +kernel)⟩
theorem lw_p59 : lw_okq (⟨"WordMender", "noteWay", "(I)Z"⟩, 17) := ⟨⟨by decide +kernel, by decide +kernel⟩, List.mem_of_getElem? (i := 18) (by decide +kernel), List.mem_of_getElem? (i := 732) (by decide +kernel), List.mem_of_getElem? (i := 733) (by decide +kernel)⟩
theorem lw_p60 : lw_okq (⟨"WordMender$Slips", "setByCounts", "([I)Z"⟩, 7) := ⟨⟨by decide +kernel, by decide +kernel⟩, List.mem_of_getElem? (i := 85) (by decide +kernel), List.mem_of_getElem? (i := 737) (by decide +kernel), List.mem_of_getElem? (i := 738) (by decide +kernel)⟩
theorem lw_p61 : lw_okq (⟨"WordMender$Tape", "takeText", "(LWordMender$Rows;LWordMender$Row;)Z"⟩, 2) := ⟨⟨by decide +kernel, by decide +kernel⟩, List.mem_of_getElem? (i := 26) (by decide +kernel), List.mem_of_getElem? (i := 749) (by decide +kernel), List.mem_of_getElem? (i := 750) (by decide +kernel)⟩
theorem lw_p62 : lw_okq (⟨"WordMender$Rows", "clear", "()V"⟩, 3) := ⟨⟨by decide +kernel, by decide +kernel⟩, List.mem_of_getElem? (i := 47) (by decide +kernel), List.mem_of_getElem? (i := 753) (by decide +kernel), List.mem_of_getElem? (i := 754) (by decide +kernel)⟩
theorem lw_p63 : lw_okq (⟨"WordMender$Mending", "clear", "(I)V"⟩, 8) := ⟨⟨by decide +kernel, by decide +kernel⟩, List.mem_of_getElem? (i := 261) (by decide +kernel), List.mem_of_getElem? (i := 758) (by decide +kernel), List.mem_of_getElem? (i := 759) (by decide +kernel)⟩
def lw_privs_4 : List (MethodName × Nat) := [(⟨"WordMender$Found", "gather", "([III)I"⟩, 5), (⟨"WordMender$Found", "lay", "(III)V"⟩, 5), (⟨"WordMender$Lexicon", "share", "(I)I"⟩, 3), (⟨"WordMender$Found", "isAhead", "(III)Z"⟩, 5), (⟨"WordMender$Found", "move", "(III)V"⟩, 5), (⟨"WordMender$Found", "tell", "(II)I"⟩, 5), (⟨"WordMender$Met", "tell", "(II)I"⟩, 8), (⟨"WordMender$Met", "least", "(I)I"⟩, 8), (⟨"WordMender$Met", "stateAt", "(II)I"⟩, 8), (⟨"WordMender", "findWays", "()Z"⟩, 17), (⟨"WordMender", "readPair", "(I)V"⟩, 17), (⟨"WordMender", "noteWay", "(I)Z"⟩, 17), (⟨"WordMender$Slips", "setByCounts", "([I)Z"⟩, 7), (⟨"WordMender$Tape", "takeText", "(LWordMender$Rows;LWordMender$Row;)Z"⟩, 2), (⟨"WordMender$Rows", "clear", "()V"⟩, 3), (⟨"WordMender$Mending", "clear", "(I)V"⟩, 8)]
theorem lw_r4 : ∀ q ∈ lw_privs_4, lw_okq q := List.forall_mem_cons.mpr ⟨lw_p48, List.forall_mem_cons.mpr ⟨lw_p49, List.forall_mem_cons.mpr ⟨lw_p50, List.forall_mem_cons.mpr ⟨lw_p51, List.forall_mem_cons.mpr ⟨lw_p52, List.forall_mem_cons.mpr ⟨lw_p53, List.forall_mem_cons.mpr ⟨lw_p54, List.forall_mem_cons.mpr ⟨lw_p55, List.forall_mem_cons.mpr ⟨lw_p56, List.forall_mem_cons.mpr ⟨lw_p57, List.forall_mem_cons.mpr ⟨lw_p58, List.forall_mem_cons.mpr ⟨lw_p59, List.forall_mem_cons.mpr ⟨lw_p60, List.forall_mem_cons.mpr ⟨lw_p61, List.forall_mem_cons.mpr ⟨lw_p62, List.forall_mem_cons.mpr ⟨lw_p63, fun _ h => absurd h List.not_mem_nil⟩⟩⟩⟩⟩⟩⟩⟩⟩⟩⟩⟩⟩⟩⟩⟩
theorem lw_p64 : lw_okq (⟨"WordMender$Mending", "offer", "(IIIII)V"⟩, 8) := ⟨⟨by decide +kernel, by decide +kernel⟩, List.mem_of_getElem? (i := 261) (by decide +kernel), List.mem_of_getElem? (i := 765) (by decide +kernel), List.mem_of_getElem? (i := 766) (by decide +kernel)⟩
theorem lw_p65 : lw_okq (⟨"WordMender$Mending", "cellOf", "(II)I"⟩, 8) := ⟨⟨by decide +kernel, by decide +kernel⟩, List.mem_of_getElem? (i := 261) (by decide +kernel), List.mem_of_getElem? (i := 769) (by decide +kernel), List.mem_of_getElem? (i := 770) (by decide +kernel)⟩
theorem lw_p66 : lw_okq (⟨"WordMender", "offerSplit", "(I)V"⟩, 17) := ⟨⟨by decide +kernel, by decide +kernel⟩, List.mem_of_getElem? (i := 18) (by decide +kernel), List.mem_of_getElem? (i := 773) (by decide +kernel), List.mem_of_getElem? (i := 774) (by decide +kernel)⟩
theorem lw_p67 : lw_okq (⟨"WordMender$Mending", "offers", "(II)Z"⟩, 8) := ⟨⟨by decide +kernel, by decide +kernel⟩, List.mem_of_getElem? (i := 261) (by decide +kernel), List.mem_of_getElem? (i := 777) (by decide +kernel), List.mem_of_getElem? (i := 778) (by decide +kernel)⟩
theorem lw_p68 : lw_okq (⟨"WordMender$Slips", "kindPrice", "(I)I"⟩, 7) := ⟨⟨by decide +kernel, by decide +kernel⟩, List.mem_of_getElem? (i := 85) (by decide +kernel), List.mem_of_getElem? (i := 782) (by decide +kernel), List.mem_of_getElem? (i := 783) (by decide +kernel)⟩
theorem lw_p69 : lw_okq (⟨"WordMender", "offerJoin", "(I)V"⟩, 17) := ⟨⟨by decide +kernel, by decide +kernel⟩, List.mem_of_getElem? (i := 18) (by decide +kernel), List.mem_of_getElem? (i := 786) (by decide +kernel), List.mem_of_getElem? (i := 787) (by decide +kernel)⟩
theorem lw_p70 : lw_okq (⟨"WordMender", "offerMended", "(II)V"⟩, 17) := ⟨⟨by decide +kernel, by decide +kernel⟩, List.mem_of_getElem? (i := 18) (by decide +kernel), List.mem_of_getElem? (i := 791) (by decide +kernel), List.mem_of_getElem? (i := 792) (by decide +kernel)⟩
theorem lw_p71 : lw_okq (⟨"WordMender$Mending", "choose", "()I"⟩, 8) := ⟨⟨by decide +kernel, by decide +kernel⟩, List.mem_of_getElem? (i := 261) (by decide +kernel), List.mem_of_getElem? (i := 795) (by decide +kernel), List.mem_of_getElem? (i := 796) (by decide +kernel)⟩
theorem lw_p72 : lw_okq (⟨"WordMender$Mending", "bestKind", "(I)I"⟩, 8) := ⟨⟨by decide +kernel, by decide +kernel⟩, List.mem_of_getElem? (i := 261) (by decide +kernel), List.mem_of_getElem? (i := 799) (by decide +kernel), List.mem_of_getElem? (i := 800) (by decide +kernel)⟩
theorem lw_p73 : lw_okq (⟨"WordMender$Mending", "sumBy", "(II)I"⟩, 8) := ⟨⟨by decide +kernel, by decide +kernel⟩, List.mem_of_getElem? (i := 261) (by decide +kernel), List.mem_of_getElem? (i := 804) (by decide +kernel), List.mem_of_getElem? (i := 805) (by decide +kernel)⟩
theorem lw_p74 : lw_okq (⟨"WordMender$Mending", "tell", "(II)I"⟩, 8) := ⟨⟨by decide +kernel, by decide +kernel⟩, List.mem_of_getElem? (i := 261) (by decide +kernel), List.mem_of_getElem? (i := 815) (by decide +kernel), List.mem_of_getElem? (i := 816) (by decide +kernel)⟩
theorem lw_p75 : lw_okq (⟨"WordMender", "isThing", "(II)Z"⟩, 17) := ⟨⟨by decide +kernel, by decide +kernel⟩, List.mem_of_getElem? (i := 18) (by decide +kernel), List.mem_of_getElem? (i := 823) (by decide +kernel), List.mem_of_getElem? (i := 824) (by decide +kernel)⟩
theorem lw_p76 : lw_okq (⟨"WordMender$Trays", "refuse", "(I)I"⟩, 4) := ⟨⟨by decide +kernel, by decide +kernel⟩, List.mem_of_getElem? (i := 292) (by decide +kernel), List.mem_of_getElem? (i := 827) (by decide +kernel), List.mem_of_getElem? (i := 828) (by decide +kernel)⟩
theorem lw_p77 : lw_okq (⟨"WordMender$Trays", "clear", "(II)V"⟩, 4) := ⟨⟨by decide +kernel, by decide +kernel⟩, List.mem_of_getElem? (i := 292) (by decide +kernel), List.mem_of_getElem? (i := 831) (by decide +kernel), List.mem_of_getElem? (i := 832) (by decide +kernel)⟩
theorem lw_p78 : lw_okq (⟨"WordMender", "layLetters", "(II)V"⟩, 17) := ⟨⟨by decide +kernel, by decide +kernel⟩, List.mem_of_getElem? (i := 18) (by decide +kernel), List.mem_of_getElem? (i := 835) (by decide +kernel), List.mem_of_getElem? (i := 836) (by decide +kernel)⟩
theorem lw_p79 : lw_okq (⟨"WordMender$Trays", "lay", "(II)V"⟩, 4) := ⟨⟨by decide +kernel, by decide +kernel⟩, List.mem_of_getElem? (i := 292) (by decide +kernel), List.mem_of_getElem? (i := 839) (by decide +kernel), List.mem_of_getElem? (i := 840) (by decide +kernel)⟩
def lw_privs_5 : List (MethodName × Nat) := [(⟨"WordMender$Mending", "offer", "(IIIII)V"⟩, 8), (⟨"WordMender$Mending", "cellOf", "(II)I"⟩, 8), (⟨"WordMender", "offerSplit", "(I)V"⟩, 17), (⟨"WordMender$Mending", "offers", "(II)Z"⟩, 8), (⟨"WordMender$Slips", "kindPrice", "(I)I"⟩, 7), (⟨"WordMender", "offerJoin", "(I)V"⟩, 17), (⟨"WordMender", "offerMended", "(II)V"⟩, 17), (⟨"WordMender$Mending", "choose", "()I"⟩, 8), (⟨"WordMender$Mending", "bestKind", "(I)I"⟩, 8), (⟨"WordMender$Mending", "sumBy", "(II)I"⟩, 8), (⟨"WordMender$Mending", "tell", "(II)I"⟩, 8), (⟨"WordMender", "isThing", "(II)Z"⟩, 17), (⟨"WordMender$Trays", "refuse", "(I)I"⟩, 4), (⟨"WordMender$Trays", "clear", "(II)V"⟩, 4), (⟨"WordMender", "layLetters", "(II)V"⟩, 17), (⟨"WordMender$Trays", "lay", "(II)V"⟩, 4)]
theorem lw_r5 : ∀ q ∈ lw_privs_5, lw_okq q := List.forall_mem_cons.mpr ⟨lw_p64, List.forall_mem_cons.mpr ⟨lw_p65, List.forall_mem_cons.mpr ⟨lw_p66, List.forall_mem_cons.mpr ⟨lw_p67, List.forall_mem_cons.mpr ⟨lw_p68, List.forall_mem_cons.mpr ⟨lw_p69, List.forall_mem_cons.mpr ⟨lw_p70, List.forall_mem_cons.mpr ⟨lw_p71, List.forall_mem_cons.mpr ⟨lw_p72, List.forall_mem_cons.mpr ⟨lw_p73, List.forall_mem_cons.mpr ⟨lw_p74, List.forall_mem_cons.mpr ⟨lw_p75, List.forall_mem_cons.mpr ⟨lw_p76, List.forall_mem_cons.mpr ⟨lw_p77, List.forall_mem_cons.mpr ⟨lw_p78, List.forall_mem_cons.mpr ⟨lw_p79, fun _ h => absurd h List.not_mem_nil⟩⟩⟩⟩⟩⟩⟩⟩⟩⟩⟩⟩⟩⟩⟩⟩
theorem lw_p80 : lw_okq (⟨"WordMender", "layState", "(II)V"⟩, 17) := ⟨⟨by decide +kernel, by decide +kernel⟩, List.mem_of_getElem? (i := 18) (by decide +kernel), List.mem_of_getElem? (i := 843) (by decide +kernel), List.mem_of_getElem? (i := 844) (by decide +kernel)⟩
theorem lw_p81 : lw_okq (⟨"WordMender", "layPrices", "(I)V"⟩, 17) := ⟨⟨by decide +kernel, by decide +kernel⟩, List.mem_of_getElem? (i := 18) (by decide +kernel), List.mem_of_getElem? (i := 848) (by decide +kernel), List.mem_of_getElem? (i := 849) (by decide +kernel)⟩
theorem lw_p82 : lw_okq (⟨"WordMender", "layTruths", "(II)V"⟩, 17) := ⟨⟨by decide +kernel, by decide +kernel⟩, List.mem_of_getElem? (i := 18) (by decide +kernel), List.mem_of_getElem? (i := 852) (by decide +kernel), List.mem_of_getElem? (i := 853) (by decide +kernel)⟩
theorem lw_p83 : lw_okq (⟨"WordMender$Trays", "done", "(I)I"⟩, 4) := ⟨⟨by decide +kernel, by decide +kernel⟩, List.mem_of_getElem? (i := 292) (by decide +kernel), List.mem_of_getElem? (i := 856) (by decide +kernel), List.mem_of_getElem? (i := 857) (by decide +kernel)⟩
theorem lw_p84 : lw_okq (⟨"WordMender$Trays", "work", "(III)I"⟩, 4) := ⟨⟨by decide +kernel, by decide +kernel⟩, List.mem_of_getElem? (i := 292) (by decide +kernel), List.mem_of_getElem? (i := 864) (by decide +kernel), List.mem_of_getElem? (i := 865) (by decide +kernel)⟩
theorem lw_p85 : lw_okq (⟨"WordMender$Trays", "read", "(III)I"⟩, 4) := ⟨⟨by decide +kernel, by decide +kernel⟩, List.mem_of_getElem? (i := 292) (by decide +kernel), List.mem_of_getElem? (i := 869) (by decide +kernel), List.mem_of_getElem? (i := 870) (by decide +kernel)⟩
theorem lw_p86 : lw_okq (⟨"WordMender$Trays", "whyNot", "(II)I"⟩, 4) := ⟨⟨by decide +kernel, by decide +kernel⟩, List.mem_of_getElem? (i := 292) (by decide +kernel), List.mem_of_getElem? (i := 873) (by decide +kernel), List.mem_of_getElem? (i := 874) (by decide +kernel)⟩
theorem lw_p87 : lw_okq (⟨"WordMender$Trays", "copy", "(II)I"⟩, 4) := ⟨⟨by decide +kernel, by decide +kernel⟩, List.mem_of_getElem? (i := 292) (by decide +kernel), List.mem_of_getElem? (i := 879) (by decide +kernel), List.mem_of_getElem? (i := 880) (by decide +kernel)⟩
theorem lw_p88 : lw_okq (⟨"WordMender$Trays", "layAmongStates", "(I)I"⟩, 4) := ⟨⟨by decide +kernel, by decide +kernel⟩, List.mem_of_getElem? (i := 292) (by decide +kernel), List.mem_of_getElem? (i := 883) (by decide +kernel), List.mem_of_getElem? (i := 884) (by decide +kernel)⟩
theorem lw_p89 : lw_okq (⟨"WordMenderModel", "readsOne", "()Z"⟩, 86) := ⟨⟨by decide +kernel, by decide +kernel⟩, List.mem_of_getElem? (i := 891) (by decide +kernel), List.mem_of_getElem? (i := 1167) (by decide +kernel), List.mem_of_getElem? (i := 1168) (by decide +kernel)⟩
theorem lw_p90 : lw_okq (⟨"WordMenderModel", "reads", "(III)Z"⟩, 86) := ⟨⟨by decide +kernel, by decide +kernel⟩, List.mem_of_getElem? (i := 891) (by decide +kernel), List.mem_of_getElem? (i := 1171) (by decide +kernel), List.mem_of_getElem? (i := 1172) (by decide +kernel)⟩
theorem lw_p91 : lw_okq (⟨"WordMenderModel", "wordOf", "(I[II)I"⟩, 86) := ⟨⟨by decide +kernel, by decide +kernel⟩, List.mem_of_getElem? (i := 891) (by decide +kernel), List.mem_of_getElem? (i := 1176) (by decide +kernel), List.mem_of_getElem? (i := 1177) (by decide +kernel)⟩
theorem lw_p92 : lw_okq (⟨"WordMenderModel", "compares", "(II[II)I"⟩, 86) := ⟨⟨by decide +kernel, by decide +kernel⟩, List.mem_of_getElem? (i := 891) (by decide +kernel), List.mem_of_getElem? (i := 1180) (by decide +kernel), List.mem_of_getElem? (i := 1181) (by decide +kernel)⟩
theorem lw_p93 : lw_okq (⟨"WordMenderModel", "moveWord", "(II)V"⟩, 86) := ⟨⟨by decide +kernel, by decide +kernel⟩, List.mem_of_getElem? (i := 891) (by decide +kernel), List.mem_of_getElem? (i := 1187) (by decide +kernel), List.mem_of_getElem? (i := 1188) (by decide +kernel)⟩
theorem lw_p94 : lw_okq (⟨"WordMenderModel", "nodes", "()I"⟩, 86) := ⟨⟨by decide +kernel, by decide +kernel⟩, List.mem_of_getElem? (i := 891) (by decide +kernel), List.mem_of_getElem? (i := 1207) (by decide +kernel), List.mem_of_getElem? (i := 1208) (by decide +kernel)⟩
theorem lw_p95 : lw_okq (⟨"WordMenderModel", "alike", "(I)I"⟩, 86) := ⟨⟨by decide +kernel, by decide +kernel⟩, List.mem_of_getElem? (i := 891) (by decide +kernel), List.mem_of_getElem? (i := 1211) (by decide +kernel), List.mem_of_getElem? (i := 1212) (by decide +kernel)⟩
def lw_privs_6 : List (MethodName × Nat) := [(⟨"WordMender", "layState", "(II)V"⟩, 17), (⟨"WordMender", "layPrices", "(I)V"⟩, 17), (⟨"WordMender", "layTruths", "(II)V"⟩, 17), (⟨"WordMender$Trays", "done", "(I)I"⟩, 4), (⟨"WordMender$Trays", "work", "(III)I"⟩, 4), (⟨"WordMender$Trays", "read", "(III)I"⟩, 4), (⟨"WordMender$Trays", "whyNot", "(II)I"⟩, 4), (⟨"WordMender$Trays", "copy", "(II)I"⟩, 4), (⟨"WordMender$Trays", "layAmongStates", "(I)I"⟩, 4), (⟨"WordMenderModel", "readsOne", "()Z"⟩, 86), (⟨"WordMenderModel", "reads", "(III)Z"⟩, 86), (⟨"WordMenderModel", "wordOf", "(I[II)I"⟩, 86), (⟨"WordMenderModel", "compares", "(II[II)I"⟩, 86), (⟨"WordMenderModel", "moveWord", "(II)V"⟩, 86), (⟨"WordMenderModel", "nodes", "()I"⟩, 86), (⟨"WordMenderModel", "alike", "(I)I"⟩, 86)]
theorem lw_r6 : ∀ q ∈ lw_privs_6, lw_okq q := List.forall_mem_cons.mpr ⟨lw_p80, List.forall_mem_cons.mpr ⟨lw_p81, List.forall_mem_cons.mpr ⟨lw_p82, List.forall_mem_cons.mpr ⟨lw_p83, List.forall_mem_cons.mpr ⟨lw_p84, List.forall_mem_cons.mpr ⟨lw_p85, List.forall_mem_cons.mpr ⟨lw_p86, List.forall_mem_cons.mpr ⟨lw_p87, List.forall_mem_cons.mpr ⟨lw_p88, List.forall_mem_cons.mpr ⟨lw_p89, List.forall_mem_cons.mpr ⟨lw_p90, List.forall_mem_cons.mpr ⟨lw_p91, List.forall_mem_cons.mpr ⟨lw_p92, List.forall_mem_cons.mpr ⟨lw_p93, List.forall_mem_cons.mpr ⟨lw_p94, List.forall_mem_cons.mpr ⟨lw_p95, fun _ h => absurd h List.not_mem_nil⟩⟩⟩⟩⟩⟩⟩⟩⟩⟩⟩⟩⟩⟩⟩⟩
theorem lw_p96 : lw_okq (⟨"WordMenderModel", "readsTwo", "(I)Z"⟩, 86) := ⟨⟨by decide +kernel, by decide +kernel⟩, List.mem_of_getElem? (i := 891) (by decide +kernel), List.mem_of_getElem? (i := 1223) (by decide +kernel), List.mem_of_getElem? (i := 1224) (by decide +kernel)⟩
theorem lw_p97 : lw_okq (⟨"WordMenderModel", "takeA", "(I)V"⟩, 86) := ⟨⟨by decide +kernel, by decide +kernel⟩, List.mem_of_getElem? (i := 891) (by decide +kernel), List.mem_of_getElem? (i := 1235) (by decide +kernel), List.mem_of_getElem? (i := 1236) (by decide +kernel)⟩
theorem lw_p98 : lw_okq (⟨"WordMenderModel", "takeB", "(I)V"⟩, 86) := ⟨⟨by decide +kernel, by decide +kernel⟩, List.mem_of_getElem? (i := 891) (by decide +kernel), List.mem_of_getElem? (i := 1239) (by decide +kernel), List.mem_of_getElem? (i := 1240) (by decide +kernel)⟩
theorem lw_p99 : lw_okq (⟨"WordMenderModel", "sums", "()V"⟩, 86) := ⟨⟨by decide +kernel, by decide +kernel⟩, List.mem_of_getElem? (i := 891) (by decide +kernel), List.mem_of_getElem? (i := 1243) (by decide +kernel), List.mem_of_getElem? (i := 1244) (by decide +kernel)⟩
theorem lw_p100 : lw_okq (⟨"WordMenderModel", "slip", "(IIII)I"⟩, 86) := ⟨⟨by decide +kernel, by decide +kernel⟩, List.mem_of_getElem? (i := 891) (by decide +kernel), List.mem_of_getElem? (i := 1248) (by decide +kernel), List.mem_of_getElem? (i := 1249) (by decide +kernel)⟩
theorem lw_p101 : lw_okq (⟨"WordMenderModel", "swapPrice", "(II)I"⟩, 86) := ⟨⟨by decide +kernel, by decide +kernel⟩, List.mem_of_getElem? (i := 891) (by decide +kernel), List.mem_of_getElem? (i := 1252) (by decide +kernel), List.mem_of_getElem? (i := 1253) (by decide +kernel)⟩
theorem lw_p102 : lw_okq (⟨"WordMenderModel", "leftPrice", "(I)I"⟩, 86) := ⟨⟨by decide +kernel, by decide +kernel⟩, List.mem_of_getElem? (i := 891) (by decide +kernel), List.mem_of_getElem? (i := 1256) (by decide +kernel), List.mem_of_getElem? (i := 1257) (by decide +kernel)⟩
theorem lw_p103 : lw_okq (⟨"WordMenderModel", "putPrice", "(I)I"⟩, 86) := ⟨⟨by decide +kernel, by decide +kernel⟩, List.mem_of_getElem? (i := 891) (by decide +kernel), List.mem_of_getElem? (i := 1260) (by decide +kernel), List.mem_of_getElem? (i := 1261) (by decide +kernel)⟩
theorem lw_p104 : lw_okq (⟨"WordMenderModel", "hasSound", "(III)Z"⟩, 86) := ⟨⟨by decide +kernel, by decide +kernel⟩, List.mem_of_getElem? (i := 891) (by decide +kernel), List.mem_of_getElem? (i := 1264) (by decide +kernel), List.mem_of_getElem? (i := 1265) (by decide +kernel)⟩
theorem lw_p105 : lw_okq (⟨"WordMenderModel", "ways", "()V"⟩, 86) := ⟨⟨by decide +kernel, by decide +kernel⟩, List.mem_of_getElem? (i := 891) (by decide +kernel), List.mem_of_getElem? (i := 1268) (by decide +kernel), List.mem_of_getElem? (i := 1269) (by decide +kernel)⟩
theorem lw_p106 : lw_okq (⟨"WordMenderModel", "walk", "(I)V"⟩, 86) := ⟨⟨by decide +kernel, by decide +kernel⟩, List.mem_of_getElem? (i := 891) (by decide +kernel), List.mem_of_getElem? (i := 1281) (by decide +kernel), List.mem_of_getElem? (i := 1282) (by decide +kernel)⟩
theorem lw_p107 : lw_okq (⟨"WordMenderModel", "meets", "(IIZ)Z"⟩, 86) := ⟨⟨by decide +kernel, by decide +kernel⟩, List.mem_of_getElem? (i := 891) (by decide +kernel), List.mem_of_getElem? (i := 1285) (by decide +kernel), List.mem_of_getElem? (i := 1286) (by decide +kernel)⟩
theorem lw_p108 : lw_okq (⟨"WordMenderModel", "stateRow", "(I)V"⟩, 86) := ⟨⟨by decide +kernel, by decide +kernel⟩, List.mem_of_getElem? (i := 891) (by decide +kernel), List.mem_of_getElem? (i := 1289) (by decide +kernel), List.mem_of_getElem? (i := 1290) (by decide +kernel)⟩
theorem lw_p109 : lw_okq (⟨"WordMenderModel", "leastOf", "(I)I"⟩, 86) := ⟨⟨by decide +kernel, by decide +kernel⟩, List.mem_of_getElem? (i := 891) (by decide +kernel), List.mem_of_getElem? (i := 1293) (by decide +kernel), List.mem_of_getElem? (i := 1294) (by decide +kernel)⟩
theorem lw_p110 : lw_okq (⟨"WordMenderModel", "tries", "(IZ)V"⟩, 86) := ⟨⟨by decide +kernel, by decide +kernel⟩, List.mem_of_getElem? (i := 891) (by decide +kernel), List.mem_of_getElem? (i := 1297) (by decide +kernel), List.mem_of_getElem? (i := 1298) (by decide +kernel)⟩
theorem lw_p111 : lw_okq (⟨"WordMenderModel", "beginningTo", "(I)I"⟩, 86) := ⟨⟨by decide +kernel, by decide +kernel⟩, List.mem_of_getElem? (i := 891) (by decide +kernel), List.mem_of_getElem? (i := 1301) (by decide +kernel), List.mem_of_getElem? (i := 1302) (by decide +kernel)⟩
def lw_privs_7 : List (MethodName × Nat) := [(⟨"WordMenderModel", "readsTwo", "(I)Z"⟩, 86), (⟨"WordMenderModel", "takeA", "(I)V"⟩, 86), (⟨"WordMenderModel", "takeB", "(I)V"⟩, 86), (⟨"WordMenderModel", "sums", "()V"⟩, 86), (⟨"WordMenderModel", "slip", "(IIII)I"⟩, 86), (⟨"WordMenderModel", "swapPrice", "(II)I"⟩, 86), (⟨"WordMenderModel", "leftPrice", "(I)I"⟩, 86), (⟨"WordMenderModel", "putPrice", "(I)I"⟩, 86), (⟨"WordMenderModel", "hasSound", "(III)Z"⟩, 86), (⟨"WordMenderModel", "ways", "()V"⟩, 86), (⟨"WordMenderModel", "walk", "(I)V"⟩, 86), (⟨"WordMenderModel", "meets", "(IIZ)Z"⟩, 86), (⟨"WordMenderModel", "stateRow", "(I)V"⟩, 86), (⟨"WordMenderModel", "leastOf", "(I)I"⟩, 86), (⟨"WordMenderModel", "tries", "(IZ)V"⟩, 86), (⟨"WordMenderModel", "beginningTo", "(I)I"⟩, 86)]
theorem lw_r7 : ∀ q ∈ lw_privs_7, lw_okq q := List.forall_mem_cons.mpr ⟨lw_p96, List.forall_mem_cons.mpr ⟨lw_p97, List.forall_mem_cons.mpr ⟨lw_p98, List.forall_mem_cons.mpr ⟨lw_p99, List.forall_mem_cons.mpr ⟨lw_p100, List.forall_mem_cons.mpr ⟨lw_p101, List.forall_mem_cons.mpr ⟨lw_p102, List.forall_mem_cons.mpr ⟨lw_p103, List.forall_mem_cons.mpr ⟨lw_p104, List.forall_mem_cons.mpr ⟨lw_p105, List.forall_mem_cons.mpr ⟨lw_p106, List.forall_mem_cons.mpr ⟨lw_p107, List.forall_mem_cons.mpr ⟨lw_p108, List.forall_mem_cons.mpr ⟨lw_p109, List.forall_mem_cons.mpr ⟨lw_p110, List.forall_mem_cons.mpr ⟨lw_p111, fun _ h => absurd h List.not_mem_nil⟩⟩⟩⟩⟩⟩⟩⟩⟩⟩⟩⟩⟩⟩⟩⟩
theorem lw_p112 : lw_okq (⟨"WordMenderModel", "wordA", "(I)V"⟩, 86) := ⟨⟨by decide +kernel, by decide +kernel⟩, List.mem_of_getElem? (i := 891) (by decide +kernel), List.mem_of_getElem? (i := 1305) (by decide +kernel), List.mem_of_getElem? (i := 1306) (by decide +kernel)⟩
theorem lw_p113 : lw_okq (⟨"WordMenderModel", "distanceTo", "(I)I"⟩, 86) := ⟨⟨by decide +kernel, by decide +kernel⟩, List.mem_of_getElem? (i := 891) (by decide +kernel), List.mem_of_getElem? (i := 1309) (by decide +kernel), List.mem_of_getElem? (i := 1310) (by decide +kernel)⟩
theorem lw_p114 : lw_okq (⟨"WordMenderModel", "share", "(I)I"⟩, 86) := ⟨⟨by decide +kernel, by decide +kernel⟩, List.mem_of_getElem? (i := 891) (by decide +kernel), List.mem_of_getElem? (i := 1313) (by decide +kernel), List.mem_of_getElem? (i := 1314) (by decide +kernel)⟩
theorem lw_p115 : lw_okq (⟨"WordMenderModel", "isAhead", "(IIII)Z"⟩, 86) := ⟨⟨by decide +kernel, by decide +kernel⟩, List.mem_of_getElem? (i := 891) (by decide +kernel), List.mem_of_getElem? (i := 1321) (by decide +kernel), List.mem_of_getElem? (i := 1322) (by decide +kernel)⟩
theorem lw_p116 : lw_okq (⟨"WordMenderModel", "keeps", "(I)I"⟩, 86) := ⟨⟨by decide +kernel, by decide +kernel⟩, List.mem_of_getElem? (i := 891) (by decide +kernel), List.mem_of_getElem? (i := 1325) (by decide +kernel), List.mem_of_getElem? (i := 1326) (by decide +kernel)⟩
theorem lw_p117 : lw_okq (⟨"WordMenderModel", "takePair", "(I)V"⟩, 86) := ⟨⟨by decide +kernel, by decide +kernel⟩, List.mem_of_getElem? (i := 891) (by decide +kernel), List.mem_of_getElem? (i := 1354) (by decide +kernel), List.mem_of_getElem? (i := 1355) (by decide +kernel)⟩
theorem lw_p118 : lw_okq (⟨"WordMenderModel", "isWord", "(I)I"⟩, 86) := ⟨⟨by decide +kernel, by decide +kernel⟩, List.mem_of_getElem? (i := 891) (by decide +kernel), List.mem_of_getElem? (i := 1366) (by decide +kernel), List.mem_of_getElem? (i := 1367) (by decide +kernel)⟩
theorem lw_p119 : lw_okq (⟨"WordMenderModel", "partAt", "(III)I"⟩, 86) := ⟨⟨by decide +kernel, by decide +kernel⟩, List.mem_of_getElem? (i := 891) (by decide +kernel), List.mem_of_getElem? (i := 1371) (by decide +kernel), List.mem_of_getElem? (i := 1372) (by decide +kernel)⟩
theorem lw_p120 : lw_okq (⟨"WordMenderModel", "together", "(I)I"⟩, 86) := ⟨⟨by decide +kernel, by decide +kernel⟩, List.mem_of_getElem? (i := 891) (by decide +kernel), List.mem_of_getElem? (i := 1375) (by decide +kernel), List.mem_of_getElem? (i := 1376) (by decide +kernel)⟩
theorem lw_p121 : lw_okq (⟨"WordMenderModel", "parting", "(I)I"⟩, 86) := ⟨⟨by decide +kernel, by decide +kernel⟩, List.mem_of_getElem? (i := 891) (by decide +kernel), List.mem_of_getElem? (i := 1379) (by decide +kernel), List.mem_of_getElem? (i := 1380) (by decide +kernel)⟩
theorem lw_p122 : lw_okq (⟨"WordMenderModel", "refused", "(I)I"⟩, 86) := ⟨⟨by decide +kernel, by decide +kernel⟩, List.mem_of_getElem? (i := 891) (by decide +kernel), List.mem_of_getElem? (i := 1391) (by decide +kernel), List.mem_of_getElem? (i := 1392) (by decide +kernel)⟩
theorem lw_p123 : lw_okq (⟨"WordMenderModel", "done", "(I)I"⟩, 86) := ⟨⟨by decide +kernel, by decide +kernel⟩, List.mem_of_getElem? (i := 891) (by decide +kernel), List.mem_of_getElem? (i := 1395) (by decide +kernel), List.mem_of_getElem? (i := 1396) (by decide +kernel)⟩
def lw_privs_8 : List (MethodName × Nat) := [(⟨"WordMenderModel", "wordA", "(I)V"⟩, 86), (⟨"WordMenderModel", "distanceTo", "(I)I"⟩, 86), (⟨"WordMenderModel", "share", "(I)I"⟩, 86), (⟨"WordMenderModel", "isAhead", "(IIII)Z"⟩, 86), (⟨"WordMenderModel", "keeps", "(I)I"⟩, 86), (⟨"WordMenderModel", "takePair", "(I)V"⟩, 86), (⟨"WordMenderModel", "isWord", "(I)I"⟩, 86), (⟨"WordMenderModel", "partAt", "(III)I"⟩, 86), (⟨"WordMenderModel", "together", "(I)I"⟩, 86), (⟨"WordMenderModel", "parting", "(I)I"⟩, 86), (⟨"WordMenderModel", "refused", "(I)I"⟩, 86), (⟨"WordMenderModel", "done", "(I)I"⟩, 86)]
theorem lw_r8 : ∀ q ∈ lw_privs_8, lw_okq q := List.forall_mem_cons.mpr ⟨lw_p112, List.forall_mem_cons.mpr ⟨lw_p113, List.forall_mem_cons.mpr ⟨lw_p114, List.forall_mem_cons.mpr ⟨lw_p115, List.forall_mem_cons.mpr ⟨lw_p116, List.forall_mem_cons.mpr ⟨lw_p117, List.forall_mem_cons.mpr ⟨lw_p118, List.forall_mem_cons.mpr ⟨lw_p119, List.forall_mem_cons.mpr ⟨lw_p120, List.forall_mem_cons.mpr ⟨lw_p121, List.forall_mem_cons.mpr ⟨lw_p122, List.forall_mem_cons.mpr ⟨lw_p123, fun _ h => absurd h List.not_mem_nil⟩⟩⟩⟩⟩⟩⟩⟩⟩⟩⟩⟩
def lw_privs : List (MethodName × Nat) := lw_privs_1 ++ (lw_privs_2 ++ (lw_privs_3 ++ (lw_privs_4 ++ (lw_privs_5 ++ (lw_privs_6 ++ (lw_privs_7 ++ (lw_privs_8)))))))
def lw_tbl : List Cond := k2_sels lw_privs ++ tables_1
theorem lw_privs_ok : ∀ q ∈ lw_privs, lw_okq q := by
  show ∀ q ∈ lw_privs_1 ++ (lw_privs_2 ++ (lw_privs_3 ++ (lw_privs_4 ++ (lw_privs_5 ++ (lw_privs_6 ++ (lw_privs_7 ++ (lw_privs_8))))))), lw_okq q
  exact List.forall_mem_append.mpr ⟨lw_r1, List.forall_mem_append.mpr ⟨lw_r2, List.forall_mem_append.mpr ⟨lw_r3, List.forall_mem_append.mpr ⟨lw_r4, List.forall_mem_append.mpr ⟨lw_r5, List.forall_mem_append.mpr ⟨lw_r6, List.forall_mem_append.mpr ⟨lw_r7, lw_r8⟩⟩⟩⟩⟩⟩⟩
/-- the streams that the claim lets the run draw from -/
abbrev lw_cs : List Choice := [Jvm.Choice.named "NaN.bits"]
theorem lw_bits : nanBits ∈ lw_cs := by first | decide | exact List.mem_cons_self | simp [lw_cs, nanBits]
def RX0 : String := "WordMender$Found"
def TX0 : u_T := fun k => match k with
  | 0 => ("WordMender$Found", "lexicon", "LWordMender$Lexicon;", true)
  | 1 => ("WordMender$Found", "numbers", "[I", true)
  | 2 => ("WordMender$Found", "distances", "[I", true)
  | 3 => ("WordMender$Found", "shares", "[I", true)
  | _ => ("WordMender$Found", "size", "I", false)
def tyX0 : Nat → FieldType := fun k => match k with
  | 0 => .object "WordMender$Lexicon"
  | 1 => .array .int
  | 2 => .array .int
  | 3 => .array .int
  | _ => .int
abbrev wsX00 : List Cond := u_ws RX0 TX0 5
theorem nmX0 : ∀ a, a < 5 → ∀ b, b < 5 → a ≠ b → (TX0 a).2.1 ≠ (TX0 b).2.1 := by decide +kernel
theorem tyX0_ok : ∀ k, k < 5 → parseFieldDescriptor (TX0 k).2.2.1 = some (tyX0 k) := by decide +kernel
abbrev cX0_init : ByteArray := prog_2_method_1_code
def yX0_init : MethodName := ⟨RX0, "<init>", "(LWordMender$Lexicon;)V"⟩
abbrev cX0_gather : ByteArray := prog_2_method_2_code
def yX0_gather : MethodName := ⟨RX0, "gather", "([III)I"⟩
abbrev cX0_lay : ByteArray := prog_2_method_3_code
def yX0_lay : MethodName := ⟨RX0, "lay", "(III)V"⟩
abbrev cX0_isAhead : ByteArray := prog_2_method_4_code
def yX0_isAhead : MethodName := ⟨RX0, "isAhead", "(III)Z"⟩
abbrev cX0_move : ByteArray := prog_2_method_5_code
def yX0_move : MethodName := ⟨RX0, "move", "(III)V"⟩
abbrev cX0_tell : ByteArray := prog_2_method_6_code
def yX0_tell : MethodName := ⟨RX0, "tell", "(II)I"⟩
def RX1 : String := "WordMender$Lexicon"
def TX1 : u_T := fun k => match k with
  | 0 => ("WordMender$Lexicon", "words", "LWordMender$Rows;", true)
  | 1 => ("WordMender$Lexicon", "counts", "[I", true)
  | _ => ("WordMender$Lexicon", "weight", "I", false)
def tyX1 : Nat → FieldType := fun k => match k with
  | 0 => .object "WordMender$Rows"
  | 1 => .array .int
  | _ => .int
abbrev wsX10 : List Cond := u_ws RX1 TX1 3
theorem nmX1 : ∀ a, a < 3 → ∀ b, b < 3 → a ≠ b → (TX1 a).2.1 ≠ (TX1 b).2.1 := by decide +kernel
theorem tyX1_ok : ∀ k, k < 3 → parseFieldDescriptor (TX1 k).2.2.1 = some (tyX1 k) := by decide +kernel
abbrev cX1_init : ByteArray := prog_3_method_1_code
def yX1_init : MethodName := ⟨RX1, "<init>", "()V"⟩
abbrev cX1_place : ByteArray := prog_3_method_2_code
def yX1_place : MethodName := ⟨RX1, "place", "(LWordMender$Row;)I"⟩
abbrev cX1_numberOf : ByteArray := prog_3_method_3_code
def yX1_numberOf : MethodName := ⟨RX1, "numberOf", "(LWordMender$Row;)I"⟩
abbrev cX1_countOf : ByteArray := prog_3_method_4_code
def yX1_countOf : MethodName := ⟨RX1, "countOf", "(I)I"⟩
abbrev cX1_grow : ByteArray := prog_3_method_5_code
def yX1_grow : MethodName := ⟨RX1, "grow", "(LWordMender$Row;I)I"⟩
abbrev cX1_remove : ByteArray := prog_3_method_6_code
def yX1_remove : MethodName := ⟨RX1, "remove", "(LWordMender$Row;)I"⟩
abbrev cX1_nodes : ByteArray := prog_3_method_7_code
def yX1_nodes : MethodName := ⟨RX1, "nodes", "()I"⟩
abbrev cX1_share : ByteArray := prog_3_method_8_code
def yX1_share : MethodName := ⟨RX1, "share", "(I)I"⟩
def RX2 : String := "WordMender$Mending"
def TX2 : u_T := fun k => match k with
  | 0 => ("WordMender$Mending", "prices", "[I", true)
  | 1 => ("WordMender$Mending", "firsts", "[I", true)
  | 2 => ("WordMender$Mending", "seconds", "[I", true)
  | 3 => ("WordMender$Mending", "sums", "[I", true)
  | 4 => ("WordMender$Mending", "kinds", "[I", true)
  | 5 => ("WordMender$Mending", "starts", "[I", true)
  | 6 => ("WordMender$Mending", "rows", "I", false)
  | _ => ("WordMender$Mending", "size", "I", false)
def tyX2 : Nat → FieldType := fun k => match k with
  | 0 => .array .int
  | 1 => .array .int
  | 2 => .array .int
  | 3 => .array .int
  | 4 => .array .int
  | 5 => .array .int
  | 6 => .int
  | _ => .int
abbrev wsX20 : List Cond := u_ws RX2 TX2 8
theorem nmX2 : ∀ a, a < 8 → ∀ b, b < 8 → a ≠ b → (TX2 a).2.1 ≠ (TX2 b).2.1 := by decide +kernel
theorem tyX2_ok : ∀ k, k < 8 → parseFieldDescriptor (TX2 k).2.2.1 = some (tyX2 k) := by decide +kernel
abbrev cX2_init : ByteArray := prog_4_method_1_code
def yX2_init : MethodName := ⟨RX2, "<init>", "()V"⟩
abbrev cX2_clear : ByteArray := prog_4_method_2_code
def yX2_clear : MethodName := ⟨RX2, "clear", "(I)V"⟩
abbrev cX2_offer : ByteArray := prog_4_method_3_code
def yX2_offer : MethodName := ⟨RX2, "offer", "(IIIII)V"⟩
abbrev cX2_offers : ByteArray := prog_4_method_4_code
def yX2_offers : MethodName := ⟨RX2, "offers", "(II)Z"⟩
abbrev cX2_cellOf : ByteArray := prog_4_method_5_code
def yX2_cellOf : MethodName := ⟨RX2, "cellOf", "(II)I"⟩
abbrev cX2_choose : ByteArray := prog_4_method_6_code
def yX2_choose : MethodName := ⟨RX2, "choose", "()I"⟩
abbrev cX2_bestKind : ByteArray := prog_4_method_7_code
def yX2_bestKind : MethodName := ⟨RX2, "bestKind", "(I)I"⟩
abbrev cX2_sumBy : ByteArray := prog_4_method_8_code
def yX2_sumBy : MethodName := ⟨RX2, "sumBy", "(II)I"⟩
abbrev cX2_taken : ByteArray := prog_4_method_9_code
def yX2_taken : MethodName := ⟨RX2, "taken", "(I)I"⟩
abbrev cX2_tell : ByteArray := prog_4_method_10_code
def yX2_tell : MethodName := ⟨RX2, "tell", "(II)I"⟩
def RX3 : String := "WordMender$Met"
def TX3 : u_T := fun k => match k with
  | 0 => ("WordMender$Met", "depths", "[I", true)
  | 1 => ("WordMender$Met", "letters", "[I", true)
  | 2 => ("WordMender$Met", "areWords", "[Z", true)
  | 3 => ("WordMender$Met", "areLeft", "[Z", true)
  | 4 => ("WordMender$Met", "states", "[I", true)
  | 5 => ("WordMender$Met", "size", "I", false)
  | 6 => ("WordMender$Met", "left", "I", false)
  | _ => ("WordMender$Met", "places", "I", false)
def tyX3 : Nat → FieldType := fun k => match k with
  | 0 => .array .int
  | 1 => .array .int
  | 2 => .array .boolean
  | 3 => .array .boolean
  | 4 => .array .int
  | 5 => .int
  | 6 => .int
  | _ => .int
abbrev wsX30 : List Cond := u_ws RX3 TX3 8
theorem nmX3 : ∀ a, a < 8 → ∀ b, b < 8 → a ≠ b → (TX3 a).2.1 ≠ (TX3 b).2.1 := by decide +kernel
theorem tyX3_ok : ∀ k, k < 8 → parseFieldDescriptor (TX3 k).2.2.1 = some (tyX3 k) := by decide +kernel
abbrev cX3_init : ByteArray := prog_5_method_1_code
def yX3_init : MethodName := ⟨RX3, "<init>", "()V"⟩
abbrev cX3_clear : ByteArray := prog_5_method_2_code
def yX3_clear : MethodName := ⟨RX3, "clear", "(I)V"⟩
abbrev cX3_keep : ByteArray := prog_5_method_3_code
def yX3_keep : MethodName := ⟨RX3, "keep", "(IIZZ[I)V"⟩
abbrev cX3_tell : ByteArray := prog_5_method_4_code
def yX3_tell : MethodName := ⟨RX3, "tell", "(II)I"⟩
abbrev cX3_least : ByteArray := prog_5_method_5_code
def yX3_least : MethodName := ⟨RX3, "least", "(I)I"⟩
abbrev cX3_stateAt : ByteArray := prog_5_method_6_code
def yX3_stateAt : MethodName := ⟨RX3, "stateAt", "(II)I"⟩
def RX4 : String := "WordMender$Row"
def TX4 : u_T := fun k => match k with
  | 0 => ("WordMender$Row", "letters", "[I", true)
  | _ => ("WordMender$Row", "size", "I", false)
def tyX4 : Nat → FieldType := fun k => match k with
  | 0 => .array .int
  | _ => .int
abbrev wsX40 : List Cond := u_ws RX4 TX4 2
theorem nmX4 : ∀ a, a < 2 → ∀ b, b < 2 → a ≠ b → (TX4 a).2.1 ≠ (TX4 b).2.1 := by decide +kernel
theorem tyX4_ok : ∀ k, k < 2 → parseFieldDescriptor (TX4 k).2.2.1 = some (tyX4 k) := by decide +kernel
abbrev cX4_init : ByteArray := prog_6_method_1_code
def yX4_init : MethodName := ⟨RX4, "<init>", "()V"⟩
abbrev cX4_clear : ByteArray := prog_6_method_2_code
def yX4_clear : MethodName := ⟨RX4, "clear", "()V"⟩
abbrev cX4_append : ByteArray := prog_6_method_3_code
def yX4_append : MethodName := ⟨RX4, "append", "(I)Z"⟩
abbrev cX4_at : ByteArray := prog_6_method_4_code
def yX4_at : MethodName := ⟨RX4, "at", "(I)I"⟩
def RX5 : String := "WordMender$Rows"
def TX5 : u_T := fun k => match k with
  | 0 => ("WordMender$Rows", "letters", "[I", true)
  | 1 => ("WordMender$Rows", "sizes", "[I", true)
  | _ => ("WordMender$Rows", "size", "I", false)
def tyX5 : Nat → FieldType := fun k => match k with
  | 0 => .array .int
  | 1 => .array .int
  | _ => .int
abbrev wsX50 : List Cond := u_ws RX5 TX5 3
theorem nmX5 : ∀ a, a < 3 → ∀ b, b < 3 → a ≠ b → (TX5 a).2.1 ≠ (TX5 b).2.1 := by decide +kernel
theorem tyX5_ok : ∀ k, k < 3 → parseFieldDescriptor (TX5 k).2.2.1 = some (tyX5 k) := by decide +kernel
abbrev cX5_init : ByteArray := prog_7_method_1_code
def yX5_init : MethodName := ⟨RX5, "<init>", "(I)V"⟩
abbrev cX5_clear : ByteArray := prog_7_method_2_code
def yX5_clear : MethodName := ⟨RX5, "clear", "()V"⟩
abbrev cX5_isFull : ByteArray := prog_7_method_3_code
def yX5_isFull : MethodName := ⟨RX5, "isFull", "()Z"⟩
abbrev cX5_sizeOf : ByteArray := prog_7_method_4_code
def yX5_sizeOf : MethodName := ⟨RX5, "sizeOf", "(I)I"⟩
abbrev cX5_at : ByteArray := prog_7_method_5_code
def yX5_at : MethodName := ⟨RX5, "at", "(II)I"⟩
abbrev cX5_copyTo : ByteArray := prog_7_method_6_code
def yX5_copyTo : MethodName := ⟨RX5, "copyTo", "(ILWordMender$Row;)V"⟩
abbrev cX5_append : ByteArray := prog_7_method_7_code
def yX5_append : MethodName := ⟨RX5, "append", "(LWordMender$Row;)V"⟩
abbrev cX5_insert : ByteArray := prog_7_method_8_code
def yX5_insert : MethodName := ⟨RX5, "insert", "(ILWordMender$Row;)V"⟩
abbrev cX5_remove : ByteArray := prog_7_method_9_code
def yX5_remove : MethodName := ⟨RX5, "remove", "(I)V"⟩
abbrev cX5_order : ByteArray := prog_7_method_10_code
def yX5_order : MethodName := ⟨RX5, "order", "(ILWordMender$Row;)I"⟩
abbrev cX5_shared : ByteArray := prog_7_method_11_code
def yX5_shared : MethodName := ⟨RX5, "shared", "(I)I"⟩
abbrev cX5_standsIn : ByteArray := prog_7_method_12_code
def yX5_standsIn : MethodName := ⟨RX5, "standsIn", "(ILWordMender$Row;I)Z"⟩
def RX6 : String := "WordMender$Slips"
def TX6 : u_T := fun k => match k with
  | 0 => ("WordMender$Slips", "kinds", "[I", true)
  | 1 => ("WordMender$Slips", "swaps", "[I", true)
  | 2 => ("WordMender$Slips", "leftsOut", "[I", true)
  | 3 => ("WordMender$Slips", "putsIn", "[I", true)
  | 4 => ("WordMender$Slips", "firsts", "LWordMender$Rows;", true)
  | 5 => ("WordMender$Slips", "seconds", "LWordMender$Rows;", true)
  | _ => ("WordMender$Slips", "sounds", "[I", true)
def tyX6 : Nat → FieldType := fun k => match k with
  | 0 => .array .int
  | 1 => .array .int
  | 2 => .array .int
  | 3 => .array .int
  | 4 => .object "WordMender$Rows"
  | 5 => .object "WordMender$Rows"
  | _ => .array .int
abbrev wsX60 : List Cond := u_ws RX6 TX6 7
theorem nmX6 : ∀ a, a < 7 → ∀ b, b < 7 → a ≠ b → (TX6 a).2.1 ≠ (TX6 b).2.1 := by decide +kernel
theorem tyX6_ok : ∀ k, k < 7 → parseFieldDescriptor (TX6 k).2.2.1 = some (tyX6 k) := by decide +kernel
abbrev cX6_init : ByteArray := prog_8_method_1_code
def yX6_init : MethodName := ⟨RX6, "<init>", "()V"⟩
abbrev cX6_kindPrice : ByteArray := prog_8_method_2_code
def yX6_kindPrice : MethodName := ⟨RX6, "kindPrice", "(I)I"⟩
abbrev cX6_setKind : ByteArray := prog_8_method_3_code
def yX6_setKind : MethodName := ⟨RX6, "setKind", "(II)I"⟩
abbrev cX6_setByLetters : ByteArray := prog_8_method_4_code
def yX6_setByLetters : MethodName := ⟨RX6, "setByLetters", "(IIII)I"⟩
abbrev cX6_exchange : ByteArray := prog_8_method_5_code
def yX6_exchange : MethodName := ⟨RX6, "exchange", "([III)I"⟩
abbrev cX6_setByCounts : ByteArray := prog_8_method_6_code
def yX6_setByCounts : MethodName := ⟨RX6, "setByCounts", "([I)Z"⟩
abbrev cX6_addSound : ByteArray := prog_8_method_7_code
def yX6_addSound : MethodName := ⟨RX6, "addSound", "(LWordMender$Row;LWordMender$Row;I)I"⟩
abbrev cX6_codes : ByteArray := prog_8_method_8_code
def yX6_codes : MethodName := ⟨RX6, "codes", "()I"⟩
abbrev cX6_meantTaken : ByteArray := prog_8_method_9_code
def yX6_meantTaken : MethodName := ⟨RX6, "meantTaken", "(I)I"⟩
abbrev cX6_typedTaken : ByteArray := prog_8_method_10_code
def yX6_typedTaken : MethodName := ⟨RX6, "typedTaken", "(I)I"⟩
abbrev cX6_mayStand : ByteArray := prog_8_method_11_code
def yX6_mayStand : MethodName := ⟨RX6, "mayStand", "(ILWordMender$Row;I)Z"⟩
abbrev cX6_priceAt : ByteArray := prog_8_method_12_code
def yX6_priceAt : MethodName := ⟨RX6, "priceAt", "(ILWordMender$Row;ILWordMender$Row;I)I"⟩
abbrev cX6_byLetters : ByteArray := prog_8_method_13_code
def yX6_byLetters : MethodName := ⟨RX6, "byLetters", "([III)I"⟩
abbrev cX6_soundPrice : ByteArray := prog_8_method_14_code
def yX6_soundPrice : MethodName := ⟨RX6, "soundPrice", "(I)I"⟩
def RX7 : String := "WordMender$Tape"
def TX7 : u_T := fun k => match k with
  | 0 => ("WordMender$Tape", "bytes", "[I", true)
  | _ => ("WordMender$Tape", "size", "I", false)
def tyX7 : Nat → FieldType := fun k => match k with
  | 0 => .array .int
  | _ => .int
abbrev wsX70 : List Cond := u_ws RX7 TX7 2
theorem nmX7 : ∀ a, a < 2 → ∀ b, b < 2 → a ≠ b → (TX7 a).2.1 ≠ (TX7 b).2.1 := by decide +kernel
theorem tyX7_ok : ∀ k, k < 2 → parseFieldDescriptor (TX7 k).2.2.1 = some (tyX7 k) := by decide +kernel
abbrev cX7_init : ByteArray := prog_9_method_1_code
def yX7_init : MethodName := ⟨RX7, "<init>", "()V"⟩
abbrev cX7_append : ByteArray := prog_9_method_2_code
def yX7_append : MethodName := ⟨RX7, "append", "(IJ)I"⟩
abbrev cX7_takeRow : ByteArray := prog_9_method_3_code
def yX7_takeRow : MethodName := ⟨RX7, "takeRow", "(LWordMender$Row;)Z"⟩
abbrev cX7_takeTwo : ByteArray := prog_9_method_4_code
def yX7_takeTwo : MethodName := ⟨RX7, "takeTwo", "(ILWordMender$Row;LWordMender$Row;)Z"⟩
abbrev cX7_takeText : ByteArray := prog_9_method_5_code
def yX7_takeText : MethodName := ⟨RX7, "takeText", "(LWordMender$Rows;LWordMender$Row;)Z"⟩
abbrev cX7_seek : ByteArray := prog_9_method_6_code
def yX7_seek : MethodName := ⟨RX7, "seek", "(CII)I"⟩
abbrev cX7_read : ByteArray := prog_9_method_7_code
def yX7_read : MethodName := ⟨RX7, "read", "(IIILWordMender$Row;)Z"⟩
def RX8 : String := "WordMender$Trays"
def TX8 : u_T := fun k => match k with
  | 0 => ("WordMender$Trays", "things", "[I", true)
  | 1 => ("WordMender$Trays", "sizes", "[I", true)
  | 2 => ("WordMender$Trays", "cells", "[I", true)
  | _ => ("WordMender$Trays", "status", "I", false)
def tyX8 : Nat → FieldType := fun k => match k with
  | 0 => .array .int
  | 1 => .array .int
  | 2 => .array .int
  | _ => .int
abbrev wsX80 : List Cond := u_ws RX8 TX8 4
theorem nmX8 : ∀ a, a < 4 → ∀ b, b < 4 → a ≠ b → (TX8 a).2.1 ≠ (TX8 b).2.1 := by decide +kernel
theorem tyX8_ok : ∀ k, k < 4 → parseFieldDescriptor (TX8 k).2.2.1 = some (tyX8 k) := by decide +kernel
abbrev cX8_init : ByteArray := prog_10_method_1_code
def yX8_init : MethodName := ⟨RX8, "<init>", "()V"⟩
abbrev cX8_refuse : ByteArray := prog_10_method_2_code
def yX8_refuse : MethodName := ⟨RX8, "refuse", "(I)I"⟩
abbrev cX8_done : ByteArray := prog_10_method_3_code
def yX8_done : MethodName := ⟨RX8, "done", "(I)I"⟩
abbrev cX8_clear : ByteArray := prog_10_method_4_code
def yX8_clear : MethodName := ⟨RX8, "clear", "(II)V"⟩
abbrev cX8_lay : ByteArray := prog_10_method_5_code
def yX8_lay : MethodName := ⟨RX8, "lay", "(II)V"⟩
abbrev cX8_work : ByteArray := prog_10_method_6_code
def yX8_work : MethodName := ⟨RX8, "work", "(III)I"⟩
abbrev cX8_whyNot : ByteArray := prog_10_method_7_code
def yX8_whyNot : MethodName := ⟨RX8, "whyNot", "(II)I"⟩
abbrev cX8_read : ByteArray := prog_10_method_8_code
def yX8_read : MethodName := ⟨RX8, "read", "(III)I"⟩
abbrev cX8_copy : ByteArray := prog_10_method_9_code
def yX8_copy : MethodName := ⟨RX8, "copy", "(II)I"⟩
abbrev cX8_layAmongStates : ByteArray := prog_10_method_10_code
def yX8_layAmongStates : MethodName := ⟨RX8, "layAmongStates", "(I)I"⟩
def RX9 : String := "WordMender$Walk"
def TX9 : u_T := fun k => match k with
  | 0 => ("WordMender$Walk", "lexicon", "LWordMender$Lexicon;", true)
  | 1 => ("WordMender$Walk", "slips", "LWordMender$Slips;", true)
  | 2 => ("WordMender$Walk", "met", "LWordMender$Met;", true)
  | 3 => ("WordMender$Walk", "meant", "LWordMender$Row;", true)
  | 4 => ("WordMender$Walk", "states", "[I", true)
  | 5 => ("WordMender$Walk", "leasts", "[I", true)
  | 6 => ("WordMender$Walk", "bests", "[I", true)
  | 7 => ("WordMender$Walk", "wholes", "[I", true)
  | _ => ("WordMender$Walk", "begun", "[I", true)
def tyX9 : Nat → FieldType := fun k => match k with
  | 0 => .object "WordMender$Lexicon"
  | 1 => .object "WordMender$Slips"
  | 2 => .object "WordMender$Met"
  | 3 => .object "WordMender$Row"
  | 4 => .array .int
  | 5 => .array .int
  | 6 => .array .int
  | 7 => .array .int
  | _ => .array .int
abbrev wsX90 : List Cond := u_ws RX9 TX9 9
theorem nmX9 : ∀ a, a < 9 → ∀ b, b < 9 → a ≠ b → (TX9 a).2.1 ≠ (TX9 b).2.1 := by decide +kernel
theorem tyX9_ok : ∀ k, k < 9 → parseFieldDescriptor (TX9 k).2.2.1 = some (tyX9 k) := by decide +kernel
abbrev cX9_init : ByteArray := prog_11_method_1_code
def yX9_init : MethodName := ⟨RX9, "<init>", "(LWordMender$Lexicon;LWordMender$Slips;)V"⟩
abbrev cX9_go : ByteArray := prog_11_method_2_code
def yX9_go : MethodName := ⟨RX9, "go", "(LWordMender$Row;IZ)V"⟩
abbrev cX9_descend : ByteArray := prog_11_method_3_code
def yX9_descend : MethodName := ⟨RX9, "descend", "(ILWordMender$Row;IZ)I"⟩
abbrev cX9_fill : ByteArray := prog_11_method_4_code
def yX9_fill : MethodName := ⟨RX9, "fill", "(ILWordMender$Row;)V"⟩
abbrev cX9_reach : ByteArray := prog_11_method_5_code
def yX9_reach : MethodName := ⟨RX9, "reach", "(IILWordMender$Row;)V"⟩
abbrev cX9_sumUp : ByteArray := prog_11_method_6_code
def yX9_sumUp : MethodName := ⟨RX9, "sumUp", "(ILWordMender$Row;)V"⟩
abbrev cX9_isLeft : ByteArray := prog_11_method_7_code
def yX9_isLeft : MethodName := ⟨RX9, "isLeft", "(II)Z"⟩
def RX10 : String := "WordMender$Way"
def TX10 : u_T := fun k => match k with
  | 0 => ("WordMender$Way", "slips", "LWordMender$Slips;", true)
  | 1 => ("WordMender$Way", "sums", "[I", true)
  | 2 => ("WordMender$Way", "codes", "[I", true)
  | 3 => ("WordMender$Way", "prices", "[I", true)
  | 4 => ("WordMender$Way", "meantPlaces", "[I", true)
  | 5 => ("WordMender$Way", "typedPlaces", "[I", true)
  | _ => ("WordMender$Way", "size", "I", false)
def tyX10 : Nat → FieldType := fun k => match k with
  | 0 => .object "WordMender$Slips"
  | 1 => .array .int
  | 2 => .array .int
  | 3 => .array .int
  | 4 => .array .int
  | 5 => .array .int
  | _ => .int
abbrev wsX100 : List Cond := u_ws RX10 TX10 7
theorem nmX10 : ∀ a, a < 7 → ∀ b, b < 7 → a ≠ b → (TX10 a).2.1 ≠ (TX10 b).2.1 := by decide +kernel
theorem tyX10_ok : ∀ k, k < 7 → parseFieldDescriptor (TX10 k).2.2.1 = some (tyX10 k) := by decide +kernel
abbrev cX10_init : ByteArray := prog_12_method_1_code
def yX10_init : MethodName := ⟨RX10, "<init>", "(LWordMender$Slips;)V"⟩
abbrev cX10_measure : ByteArray := prog_12_method_2_code
def yX10_measure : MethodName := ⟨RX10, "measure", "(LWordMender$Row;LWordMender$Row;)I"⟩
abbrev cX10_leastFrom : ByteArray := prog_12_method_3_code
def yX10_leastFrom : MethodName := ⟨RX10, "leastFrom", "(LWordMender$Row;ILWordMender$Row;I)I"⟩
abbrev cX10_sumBy : ByteArray := prog_12_method_4_code
def yX10_sumBy : MethodName := ⟨RX10, "sumBy", "(ILWordMender$Row;ILWordMender$Row;I)I"⟩
abbrev cX10_trace : ByteArray := prog_12_method_5_code
def yX10_trace : MethodName := ⟨RX10, "trace", "(LWordMender$Row;LWordMender$Row;)V"⟩
abbrev cX10_firstCode : ByteArray := prog_12_method_6_code
def yX10_firstCode : MethodName := ⟨RX10, "firstCode", "(LWordMender$Row;ILWordMender$Row;I)I"⟩
abbrev cX10_codeAt : ByteArray := prog_12_method_7_code
def yX10_codeAt : MethodName := ⟨RX10, "codeAt", "(I)I"⟩
abbrev cX10_tell : ByteArray := prog_12_method_8_code
def yX10_tell : MethodName := ⟨RX10, "tell", "(II)I"⟩
def RX11 : String := "WordMender"
def TX11 : u_T := fun k => match k with
  | 0 => ("WordMender", "tape", "LWordMender$Tape;", true)
  | 1 => ("WordMender", "lexicon", "LWordMender$Lexicon;", true)
  | 2 => ("WordMender", "slips", "LWordMender$Slips;", true)
  | 3 => ("WordMender", "meant", "LWordMender$Row;", true)
  | 4 => ("WordMender", "typed", "LWordMender$Row;", true)
  | 5 => ("WordMender", "text", "LWordMender$Rows;", true)
  | 6 => ("WordMender", "latestWay", "LWordMender$Way;", true)
  | 7 => ("WordMender", "trialWay", "LWordMender$Way;", true)
  | 8 => ("WordMender", "pairsMeant", "LWordMender$Rows;", true)
  | 9 => ("WordMender", "pairsTyped", "LWordMender$Rows;", true)
  | 10 => ("WordMender", "roundCodes", "[I", true)
  | 11 => ("WordMender", "roundCounts", "[I", true)
  | 12 => ("WordMender", "walk", "LWordMender$Walk;", true)
  | 13 => ("WordMender", "latestFound", "LWordMender$Found;", true)
  | 14 => ("WordMender", "firstFound", "LWordMender$Found;", true)
  | 15 => ("WordMender", "mending", "LWordMender$Mending;", true)
  | _ => ("WordMender", "trays", "LWordMender$Trays;", true)
def tyX11 : Nat → FieldType := fun k => match k with
  | 0 => .object "WordMender$Tape"
  | 1 => .object "WordMender$Lexicon"
  | 2 => .object "WordMender$Slips"
  | 3 => .object "WordMender$Row"
  | 4 => .object "WordMender$Row"
  | 5 => .object "WordMender$Rows"
  | 6 => .object "WordMender$Way"
  | 7 => .object "WordMender$Way"
  | 8 => .object "WordMender$Rows"
  | 9 => .object "WordMender$Rows"
  | 10 => .array .int
  | 11 => .array .int
  | 12 => .object "WordMender$Walk"
  | 13 => .object "WordMender$Found"
  | 14 => .object "WordMender$Found"
  | 15 => .object "WordMender$Mending"
  | _ => .object "WordMender$Trays"
abbrev wsX110 : List Cond := u_ws RX11 TX11 17
theorem nmX11 : ∀ a, a < 17 → ∀ b, b < 17 → a ≠ b → (TX11 a).2.1 ≠ (TX11 b).2.1 := by decide +kernel
theorem tyX11_ok : ∀ k, k < 17 → parseFieldDescriptor (TX11 k).2.2.1 = some (tyX11 k) := by decide +kernel
abbrev cX11_init : ByteArray := prog_1_method_1_code
def yX11_init : MethodName := ⟨RX11, "<init>", "()V"⟩
abbrev cX11_feed : ByteArray := prog_1_method_2_code
def yX11_feed : MethodName := ⟨RX11, "feed", "(IJ)I"⟩
abbrev cX11_add : ByteArray := prog_1_method_3_code
def yX11_add : MethodName := ⟨RX11, "add", "(I)I"⟩
abbrev cX11_drop : ByteArray := prog_1_method_4_code
def yX11_drop : MethodName := ⟨RX11, "drop", "()I"⟩
abbrev cX11_find : ByteArray := prog_1_method_5_code
def yX11_find : MethodName := ⟨RX11, "find", "()I"⟩
abbrev cX11_word : ByteArray := prog_1_method_6_code
def yX11_word : MethodName := ⟨RX11, "word", "(II)I"⟩
abbrev cX11_count : ByteArray := prog_1_method_7_code
def yX11_count : MethodName := ⟨RX11, "count", "(I)I"⟩
abbrev cX11_price : ByteArray := prog_1_method_8_code
def yX11_price : MethodName := ⟨RX11, "price", "(IIII)I"⟩
abbrev cX11_sound : ByteArray := prog_1_method_9_code
def yX11_sound : MethodName := ⟨RX11, "sound", "(I)I"⟩
abbrev cX11_model : ByteArray := prog_1_method_10_code
def yX11_model : MethodName := ⟨RX11, "model", "(I)I"⟩
abbrev cX11_distance : ByteArray := prog_1_method_11_code
def yX11_distance : MethodName := ⟨RX11, "distance", "()I"⟩
abbrev cX11_way : ByteArray := prog_1_method_12_code
def yX11_way : MethodName := ⟨RX11, "way", "(II)I"⟩
abbrev cX11_near : ByteArray := prog_1_method_13_code
def yX11_near : MethodName := ⟨RX11, "near", "(I)I"⟩
abbrev cX11_nearest : ByteArray := prog_1_method_14_code
def yX11_nearest : MethodName := ⟨RX11, "nearest", "(I)I"⟩
abbrev cX11_complete : ByteArray := prog_1_method_15_code
def yX11_complete : MethodName := ⟨RX11, "complete", "(I)I"⟩
abbrev cX11_found : ByteArray := prog_1_method_16_code
def yX11_found : MethodName := ⟨RX11, "found", "(II)I"⟩
abbrev cX11_node : ByteArray := prog_1_method_17_code
def yX11_node : MethodName := ⟨RX11, "node", "(II)I"⟩
abbrev cX11_pair : ByteArray := prog_1_method_18_code
def yX11_pair : MethodName := ⟨RX11, "pair", "()I"⟩
abbrev cX11_learn : ByteArray := prog_1_method_19_code
def yX11_learn : MethodName := ⟨RX11, "learn", "()I"⟩
abbrev cX11_spread : ByteArray := prog_1_method_20_code
def yX11_spread : MethodName := ⟨RX11, "spread", "()I"⟩
abbrev cX11_mend : ByteArray := prog_1_method_21_code
def yX11_mend : MethodName := ⟨RX11, "mend", "(I)I"⟩
abbrev cX11_part : ByteArray := prog_1_method_22_code
def yX11_part : MethodName := ⟨RX11, "part", "(II)I"⟩
abbrev cX11_put : ByteArray := prog_1_method_23_code
def yX11_put : MethodName := ⟨RX11, "put", "(III)I"⟩
abbrev cX11_forge : ByteArray := prog_1_method_24_code
def yX11_forge : MethodName := ⟨RX11, "forge", "(III)I"⟩
abbrev cX11_status : ByteArray := prog_1_method_25_code
def yX11_status : MethodName := ⟨RX11, "status", "()I"⟩
abbrev cX11_isNoBound : ByteArray := prog_1_method_26_code
def yX11_isNoBound : MethodName := ⟨RX11, "isNoBound", "(I)Z"⟩
abbrev cX11_findWays : ByteArray := prog_1_method_27_code
def yX11_findWays : MethodName := ⟨RX11, "findWays", "()Z"⟩
abbrev cX11_readPair : ByteArray := prog_1_method_28_code
def yX11_readPair : MethodName := ⟨RX11, "readPair", "(I)V"⟩
abbrev cX11_noteWay : ByteArray := prog_1_method_29_code
def yX11_noteWay : MethodName := ⟨RX11, "noteWay", "(I)Z"⟩
abbrev cX11_offerSplit : ByteArray := prog_1_method_30_code
def yX11_offerSplit : MethodName := ⟨RX11, "offerSplit", "(I)V"⟩
abbrev cX11_offerMended : ByteArray := prog_1_method_31_code
def yX11_offerMended : MethodName := ⟨RX11, "offerMended", "(II)V"⟩
abbrev cX11_offerJoin : ByteArray := prog_1_method_32_code
def yX11_offerJoin : MethodName := ⟨RX11, "offerJoin", "(I)V"⟩
abbrev cX11_isThing : ByteArray := prog_1_method_33_code
def yX11_isThing : MethodName := ⟨RX11, "isThing", "(II)Z"⟩
abbrev cX11_layLetters : ByteArray := prog_1_method_34_code
def yX11_layLetters : MethodName := ⟨RX11, "layLetters", "(II)V"⟩
abbrev cX11_layState : ByteArray := prog_1_method_35_code
def yX11_layState : MethodName := ⟨RX11, "layState", "(II)V"⟩
abbrev cX11_layPrices : ByteArray := prog_1_method_36_code
def yX11_layPrices : MethodName := ⟨RX11, "layPrices", "(I)V"⟩
abbrev cX11_layTruths : ByteArray := prog_1_method_37_code
def yX11_layTruths : MethodName := ⟨RX11, "layTruths", "(II)V"⟩
def RX12 : String := "WordMenderModel"
def TX12 : u_T := fun k => match k with
  | 0 => ("WordMenderModel", "tape", "[I", true)
  | 1 => ("WordMenderModel", "tapeN", "I", false)
  | 2 => ("WordMenderModel", "rows", "I", false)
  | 3 => ("WordMenderModel", "rowLen", "[I", true)
  | 4 => ("WordMenderModel", "rowLet", "[I", true)
  | 5 => ("WordMenderModel", "words", "I", false)
  | 6 => ("WordMenderModel", "wLen", "[I", true)
  | 7 => ("WordMenderModel", "wLet", "[I", true)
  | 8 => ("WordMenderModel", "wCount", "[I", true)
  | 9 => ("WordMenderModel", "kindPrice", "[I", true)
  | 10 => ("WordMenderModel", "swap", "[I", true)
  | 11 => ("WordMenderModel", "leftOut", "[I", true)
  | 12 => ("WordMenderModel", "putIn", "[I", true)
  | 13 => ("WordMenderModel", "splits", "I", false)
  | 14 => ("WordMenderModel", "joins", "I", false)
  | 15 => ("WordMenderModel", "weight", "I", false)
  | 16 => ("WordMenderModel", "sounds", "I", false)
  | 17 => ("WordMenderModel", "sFirst", "[I", true)
  | 18 => ("WordMenderModel", "sFirstLet", "[I", true)
  | 19 => ("WordMenderModel", "sSecond", "[I", true)
  | 20 => ("WordMenderModel", "sSecondLet", "[I", true)
  | 21 => ("WordMenderModel", "sPrice", "[I", true)
  | 22 => ("WordMenderModel", "aLen", "I", false)
  | 23 => ("WordMenderModel", "bLen", "I", false)
  | 24 => ("WordMenderModel", "a", "[I", true)
  | 25 => ("WordMenderModel", "b", "[I", true)
  | 26 => ("WordMenderModel", "best", "[I", true)
  | 27 => ("WordMenderModel", "slips", "I", false)
  | 28 => ("WordMenderModel", "slipKind", "[I", true)
  | 29 => ("WordMenderModel", "slipPrice", "[I", true)
  | 30 => ("WordMenderModel", "slipI", "[I", true)
  | 31 => ("WordMenderModel", "slipJ", "[I", true)
  | 32 => ("WordMenderModel", "slipSound", "[I", true)
  | 33 => ("WordMenderModel", "wayN", "I", false)
  | 34 => ("WordMenderModel", "wayKind", "[I", true)
  | 35 => ("WordMenderModel", "wayPrice", "[I", true)
  | 36 => ("WordMenderModel", "wayI", "[I", true)
  | 37 => ("WordMenderModel", "wayJ", "[I", true)
  | 38 => ("WordMenderModel", "waySound", "[I", true)
  | 39 => ("WordMenderModel", "met", "I", false)
  | 40 => ("WordMenderModel", "leftMany", "I", false)
  | 41 => ("WordMenderModel", "nDepth", "[I", true)
  | 42 => ("WordMenderModel", "nLetter", "[I", true)
  | 43 => ("WordMenderModel", "nLeast", "[I", true)
  | 44 => ("WordMenderModel", "nLeft", "[I", true)
  | 45 => ("WordMenderModel", "nWord", "[I", true)
  | 46 => ("WordMenderModel", "nState", "[I", true)
  | 47 => ("WordMenderModel", "walkLen", "I", false)
  | 48 => ("WordMenderModel", "rowState", "[I", true)
  | 49 => ("WordMenderModel", "path", "[I", true)
  | 50 => ("WordMenderModel", "frameFrom", "[I", true)
  | 51 => ("WordMenderModel", "frameTo", "[I", true)
  | 52 => ("WordMenderModel", "frameAt", "[I", true)
  | 53 => ("WordMenderModel", "found", "I", false)
  | 54 => ("WordMenderModel", "fWord", "[I", true)
  | 55 => ("WordMenderModel", "fDistance", "[I", true)
  | 56 => ("WordMenderModel", "fShare", "[I", true)
  | 57 => ("WordMenderModel", "trying", "I", false)
  | 58 => ("WordMenderModel", "tWord", "[I", true)
  | 59 => ("WordMenderModel", "tDistance", "[I", true)
  | 60 => ("WordMenderModel", "tShare", "[I", true)
  | 61 => ("WordMenderModel", "pairs", "I", false)
  | 62 => ("WordMenderModel", "pA", "[I", true)
  | 63 => ("WordMenderModel", "pALet", "[I", true)
  | 64 => ("WordMenderModel", "pB", "[I", true)
  | 65 => ("WordMenderModel", "pBLet", "[I", true)
  | 66 => ("WordMenderModel", "oldLen", "[I", true)
  | 67 => ("WordMenderModel", "oldKind", "[I", true)
  | 68 => ("WordMenderModel", "c", "[I", true)
  | 69 => ("WordMenderModel", "parts", "I", false)
  | 70 => ("WordMenderModel", "mendSum", "I", false)
  | 71 => ("WordMenderModel", "partKind", "[I", true)
  | 72 => ("WordMenderModel", "partPrice", "[I", true)
  | 73 => ("WordMenderModel", "partFirst", "[I", true)
  | 74 => ("WordMenderModel", "partSecond", "[I", true)
  | 75 => ("WordMenderModel", "partRows", "[I", true)
  | 76 => ("WordMenderModel", "mBest", "[I", true)
  | 77 => ("WordMenderModel", "near", "[I", true)
  | 78 => ("WordMenderModel", "nearPrice", "[I", true)
  | 79 => ("WordMenderModel", "tray", "[I", true)
  | 80 => ("WordMenderModel", "trayLen", "[I", true)
  | 81 => ("WordMenderModel", "trayCell", "[I", true)
  | 82 => ("WordMenderModel", "status", "I", false)
  | 83 => ("WordMenderModel", "goI", "I", false)
  | 84 => ("WordMenderModel", "goJ", "I", false)
  | _ => ("WordMenderModel", "both", "[I", true)
def tyX12 : Nat → FieldType := fun k => match k with
  | 0 => .array .int
  | 1 => .int
  | 2 => .int
  | 3 => .array .int
  | 4 => .array .int
  | 5 => .int
  | 6 => .array .int
  | 7 => .array .int
  | 8 => .array .int
  | 9 => .array .int
  | 10 => .array .int
  | 11 => .array .int
  | 12 => .array .int
  | 13 => .int
  | 14 => .int
  | 15 => .int
  | 16 => .int
  | 17 => .array .int
  | 18 => .array .int
  | 19 => .array .int
  | 20 => .array .int
  | 21 => .array .int
  | 22 => .int
  | 23 => .int
  | 24 => .array .int
  | 25 => .array .int
  | 26 => .array .int
  | 27 => .int
  | 28 => .array .int
  | 29 => .array .int
  | 30 => .array .int
  | 31 => .array .int
  | 32 => .array .int
  | 33 => .int
  | 34 => .array .int
  | 35 => .array .int
  | 36 => .array .int
  | 37 => .array .int
  | 38 => .array .int
  | 39 => .int
  | 40 => .int
  | 41 => .array .int
  | 42 => .array .int
  | 43 => .array .int
  | 44 => .array .int
  | 45 => .array .int
  | 46 => .array .int
  | 47 => .int
  | 48 => .array .int
  | 49 => .array .int
  | 50 => .array .int
  | 51 => .array .int
  | 52 => .array .int
  | 53 => .int
  | 54 => .array .int
  | 55 => .array .int
  | 56 => .array .int
  | 57 => .int
  | 58 => .array .int
  | 59 => .array .int
  | 60 => .array .int
  | 61 => .int
  | 62 => .array .int
  | 63 => .array .int
  | 64 => .array .int
  | 65 => .array .int
  | 66 => .array .int
  | 67 => .array .int
  | 68 => .array .int
  | 69 => .int
  | 70 => .int
  | 71 => .array .int
  | 72 => .array .int
  | 73 => .array .int
  | 74 => .array .int
  | 75 => .array .int
  | 76 => .array .int
  | 77 => .array .int
  | 78 => .array .int
  | 79 => .array .int
  | 80 => .array .int
  | 81 => .array .int
  | 82 => .int
  | 83 => .int
  | 84 => .int
  | _ => .array .int
abbrev wsX120 : List Cond := u_ws RX12 TX12 86
theorem nmX12 : ∀ a, a < 86 → ∀ b, b < 86 → a ≠ b → (TX12 a).2.1 ≠ (TX12 b).2.1 := by decide +kernel
theorem tyX12_ok : ∀ k, k < 86 → parseFieldDescriptor (TX12 k).2.2.1 = some (tyX12 k) := by decide +kernel
abbrev cX12_init : ByteArray := prog_14_method_1_code
def yX12_init : MethodName := ⟨RX12, "<init>", "()V"⟩
abbrev cX12_in : ByteArray := prog_14_method_2_code
def yX12_in : MethodName := ⟨RX12, "in", "(III)Z"⟩
abbrev cX12_min : ByteArray := prog_14_method_3_code
def yX12_min : MethodName := ⟨RX12, "min", "(II)I"⟩
abbrev cX12_feed : ByteArray := prog_14_method_4_code
def yX12_feed : MethodName := ⟨RX12, "feed", "(IJ)I"⟩
abbrev cX12_reads : ByteArray := prog_14_method_5_code
def yX12_reads : MethodName := ⟨RX12, "reads", "(III)Z"⟩
abbrev cX12_readsOne : ByteArray := prog_14_method_6_code
def yX12_readsOne : MethodName := ⟨RX12, "readsOne", "()Z"⟩
abbrev cX12_readsTwo : ByteArray := prog_14_method_7_code
def yX12_readsTwo : MethodName := ⟨RX12, "readsTwo", "(I)Z"⟩
abbrev cX12_takeA : ByteArray := prog_14_method_8_code
def yX12_takeA : MethodName := ⟨RX12, "takeA", "(I)V"⟩
abbrev cX12_takeB : ByteArray := prog_14_method_9_code
def yX12_takeB : MethodName := ⟨RX12, "takeB", "(I)V"⟩
abbrev cX12_wordA : ByteArray := prog_14_method_10_code
def yX12_wordA : MethodName := ⟨RX12, "wordA", "(I)V"⟩
abbrev cX12_compares : ByteArray := prog_14_method_11_code
def yX12_compares : MethodName := ⟨RX12, "compares", "(II[II)I"⟩
abbrev cX12_wordOf : ByteArray := prog_14_method_12_code
def yX12_wordOf : MethodName := ⟨RX12, "wordOf", "(I[II)I"⟩
abbrev cX12_add : ByteArray := prog_14_method_13_code
def yX12_add : MethodName := ⟨RX12, "add", "(I)I"⟩
abbrev cX12_moveWord : ByteArray := prog_14_method_14_code
def yX12_moveWord : MethodName := ⟨RX12, "moveWord", "(II)V"⟩
abbrev cX12_drop : ByteArray := prog_14_method_15_code
def yX12_drop : MethodName := ⟨RX12, "drop", "()I"⟩
abbrev cX12_find : ByteArray := prog_14_method_16_code
def yX12_find : MethodName := ⟨RX12, "find", "()I"⟩
abbrev cX12_word : ByteArray := prog_14_method_17_code
def yX12_word : MethodName := ⟨RX12, "word", "(II)I"⟩
abbrev cX12_alike : ByteArray := prog_14_method_18_code
def yX12_alike : MethodName := ⟨RX12, "alike", "(I)I"⟩
abbrev cX12_nodes : ByteArray := prog_14_method_19_code
def yX12_nodes : MethodName := ⟨RX12, "nodes", "()I"⟩
abbrev cX12_count : ByteArray := prog_14_method_20_code
def yX12_count : MethodName := ⟨RX12, "count", "(I)I"⟩
abbrev cX12_price : ByteArray := prog_14_method_21_code
def yX12_price : MethodName := ⟨RX12, "price", "(IIII)I"⟩
abbrev cX12_sound : ByteArray := prog_14_method_22_code
def yX12_sound : MethodName := ⟨RX12, "sound", "(I)I"⟩
abbrev cX12_model : ByteArray := prog_14_method_23_code
def yX12_model : MethodName := ⟨RX12, "model", "(I)I"⟩
abbrev cX12_share : ByteArray := prog_14_method_24_code
def yX12_share : MethodName := ⟨RX12, "share", "(I)I"⟩
abbrev cX12_swapPrice : ByteArray := prog_14_method_25_code
def yX12_swapPrice : MethodName := ⟨RX12, "swapPrice", "(II)I"⟩
abbrev cX12_leftPrice : ByteArray := prog_14_method_26_code
def yX12_leftPrice : MethodName := ⟨RX12, "leftPrice", "(I)I"⟩
abbrev cX12_putPrice : ByteArray := prog_14_method_27_code
def yX12_putPrice : MethodName := ⟨RX12, "putPrice", "(I)I"⟩
abbrev cX12_hasSound : ByteArray := prog_14_method_28_code
def yX12_hasSound : MethodName := ⟨RX12, "hasSound", "(III)Z"⟩
abbrev cX12_slip : ByteArray := prog_14_method_29_code
def yX12_slip : MethodName := ⟨RX12, "slip", "(IIII)I"⟩
abbrev cX12_sums : ByteArray := prog_14_method_30_code
def yX12_sums : MethodName := ⟨RX12, "sums", "()V"⟩
abbrev cX12_ways : ByteArray := prog_14_method_31_code
def yX12_ways : MethodName := ⟨RX12, "ways", "()V"⟩
abbrev cX12_distance : ByteArray := prog_14_method_32_code
def yX12_distance : MethodName := ⟨RX12, "distance", "()I"⟩
abbrev cX12_way : ByteArray := prog_14_method_33_code
def yX12_way : MethodName := ⟨RX12, "way", "(II)I"⟩
abbrev cX12_stateRow : ByteArray := prog_14_method_34_code
def yX12_stateRow : MethodName := ⟨RX12, "stateRow", "(I)V"⟩
abbrev cX12_leastOf : ByteArray := prog_14_method_35_code
def yX12_leastOf : MethodName := ⟨RX12, "leastOf", "(I)I"⟩
abbrev cX12_meets : ByteArray := prog_14_method_36_code
def yX12_meets : MethodName := ⟨RX12, "meets", "(IIZ)Z"⟩
abbrev cX12_walk : ByteArray := prog_14_method_37_code
def yX12_walk : MethodName := ⟨RX12, "walk", "(I)V"⟩
abbrev cX12_distanceTo : ByteArray := prog_14_method_38_code
def yX12_distanceTo : MethodName := ⟨RX12, "distanceTo", "(I)I"⟩
abbrev cX12_beginningTo : ByteArray := prog_14_method_39_code
def yX12_beginningTo : MethodName := ⟨RX12, "beginningTo", "(I)I"⟩
abbrev cX12_isAhead : ByteArray := prog_14_method_40_code
def yX12_isAhead : MethodName := ⟨RX12, "isAhead", "(IIII)Z"⟩
abbrev cX12_tries : ByteArray := prog_14_method_41_code
def yX12_tries : MethodName := ⟨RX12, "tries", "(IZ)V"⟩
abbrev cX12_keeps : ByteArray := prog_14_method_42_code
def yX12_keeps : MethodName := ⟨RX12, "keeps", "(I)I"⟩
abbrev cX12_near : ByteArray := prog_14_method_43_code
def yX12_near : MethodName := ⟨RX12, "near", "(I)I"⟩
abbrev cX12_nearest : ByteArray := prog_14_method_44_code
def yX12_nearest : MethodName := ⟨RX12, "nearest", "(I)I"⟩
abbrev cX12_complete : ByteArray := prog_14_method_45_code
def yX12_complete : MethodName := ⟨RX12, "complete", "(I)I"⟩
abbrev cX12_found : ByteArray := prog_14_method_46_code
def yX12_found : MethodName := ⟨RX12, "found", "(II)I"⟩
abbrev cX12_node : ByteArray := prog_14_method_47_code
def yX12_node : MethodName := ⟨RX12, "node", "(II)I"⟩
abbrev cX12_pair : ByteArray := prog_14_method_48_code
def yX12_pair : MethodName := ⟨RX12, "pair", "()I"⟩
abbrev cX12_takePair : ByteArray := prog_14_method_49_code
def yX12_takePair : MethodName := ⟨RX12, "takePair", "(I)V"⟩
abbrev cX12_learn : ByteArray := prog_14_method_50_code
def yX12_learn : MethodName := ⟨RX12, "learn", "()I"⟩
abbrev cX12_spread : ByteArray := prog_14_method_51_code
def yX12_spread : MethodName := ⟨RX12, "spread", "()I"⟩
abbrev cX12_together : ByteArray := prog_14_method_52_code
def yX12_together : MethodName := ⟨RX12, "together", "(I)I"⟩
abbrev cX12_isWord : ByteArray := prog_14_method_53_code
def yX12_isWord : MethodName := ⟨RX12, "isWord", "(I)I"⟩
abbrev cX12_parting : ByteArray := prog_14_method_54_code
def yX12_parting : MethodName := ⟨RX12, "parting", "(I)I"⟩
abbrev cX12_partAt : ByteArray := prog_14_method_55_code
def yX12_partAt : MethodName := ⟨RX12, "partAt", "(III)I"⟩
abbrev cX12_mend : ByteArray := prog_14_method_56_code
def yX12_mend : MethodName := ⟨RX12, "mend", "(I)I"⟩
abbrev cX12_part : ByteArray := prog_14_method_57_code
def yX12_part : MethodName := ⟨RX12, "part", "(II)I"⟩
abbrev cX12_refused : ByteArray := prog_14_method_58_code
def yX12_refused : MethodName := ⟨RX12, "refused", "(I)I"⟩
abbrev cX12_done : ByteArray := prog_14_method_59_code
def yX12_done : MethodName := ⟨RX12, "done", "(I)I"⟩
abbrev cX12_put : ByteArray := prog_14_method_60_code
def yX12_put : MethodName := ⟨RX12, "put", "(III)I"⟩
abbrev cX12_forge : ByteArray := prog_14_method_61_code
def yX12_forge : MethodName := ⟨RX12, "forge", "(III)I"⟩
abbrev cX12_status : ByteArray := prog_14_method_62_code
def yX12_status : MethodName := ⟨RX12, "status", "()I"⟩
def RJ9 : String := "java/lang/Math"
def TJ9 : u_T := fun k => match k with
  | _ => ("", "", "", false)
def tyJ9 : Nat → FieldType := fun k => match k with
  | _ => .int
abbrev wsJ90 : List Cond := u_ws RJ9 TJ9 0
theorem nmJ9 : ∀ a, a < 0 → ∀ b, b < 0 → a ≠ b → (TJ9 a).2.1 ≠ (TJ9 b).2.1 := by decide +kernel
theorem tyJ9_ok : ∀ k, k < 0 → parseFieldDescriptor (TJ9 k).2.2.1 = some (tyJ9 k) := by decide +kernel
abbrev cJ9_max_7cf53 : ByteArray := prog_15_method_65_code
def yJ9_max_7cf53 : MethodName := ⟨RJ9, "max", "(II)I"⟩
abbrev cJ9_min_7cf53 : ByteArray := prog_15_method_69_code
def yJ9_min_7cf53 : MethodName := ⟨RJ9, "min", "(II)I"⟩
def RJ10 : String := "java/lang/System"
def TJ10 : u_T := fun k => match k with
  | _ => ("", "", "", false)
def tyJ10 : Nat → FieldType := fun k => match k with
  | _ => .int
abbrev wsJ100 : List Cond := u_ws RJ10 TJ10 0
theorem nmJ10 : ∀ a, a < 0 → ∀ b, b < 0 → a ≠ b → (TJ10 a).2.1 ≠ (TJ10 b).2.1 := by decide +kernel
theorem tyJ10_ok : ∀ k, k < 0 → parseFieldDescriptor (TJ10 k).2.2.1 = some (tyJ10 k) := by decide +kernel
def RJ7 : String := "java/util/Arrays"
def TJ7 : u_T := fun k => match k with
  | _ => ("", "", "", false)
def tyJ7 : Nat → FieldType := fun k => match k with
  | _ => .int
abbrev wsJ70 : List Cond := u_ws RJ7 TJ7 0
theorem nmJ7 : ∀ a, a < 0 → ∀ b, b < 0 → a ≠ b → (TJ7 a).2.1 ≠ (TJ7 b).2.1 := by decide +kernel
theorem tyJ7_ok : ∀ k, k < 0 → parseFieldDescriptor (TJ7 k).2.2.1 = some (tyJ7 k) := by decide +kernel
abbrev cJ7_fill_53178 : ByteArray := prog_17_method_103_code
def yJ7_fill_53178 : MethodName := ⟨RJ7, "fill", "([II)V"⟩
def RL : String := "WordMenderLaw"
abbrev cL_law : ByteArray := code
def yL_law : MethodName := ⟨RL, "law", "([I)Z"⟩
abbrev vwCl : List vw_C := [(RX0, TX0, 5), (RX1, TX1, 3), (RX2, TX2, 8), (RX3, TX3, 8), (RX4, TX4, 2), (RX5, TX5, 3), (RX6, TX6, 7), (RX7, TX7, 2), (RX8, TX8, 4), (RX9, TX9, 9), (RX10, TX10, 7), (RX11, TX11, 17), (RX12, TX12, 86)]
/-- the cells by their numbers: kind (1 ints, 2 truths, 3 + class), size -/
def xTab : List (Nat × Nat) := [(0, 0), (14, 17), (10, 2), (1, 240), (4, 3), (8, 3), (1, 2400), (1, 200), (1, 200), (9, 7), (1, 10), (1, 676), (1, 26), (1, 26), (8, 3), (1, 240), (1, 20), (8, 3), (1, 240), (1, 20), (1, 20), (7, 2), (1, 12), (7, 2), (1, 12), (8, 3), (1, 144), (1, 12), (13, 7), (1, 169), (1, 24), (1, 24), (1, 24), (1, 24), (13, 7), (1, 169), (1, 24), (1, 24), (1, 24), (1, 24), (8, 3), (1, 480), (1, 40), (8, 3), (1, 480), (1, 40), (1, 960), (1, 7), (12, 9), (6, 8), (1, 2401), (1, 2401), (2, 2401), (2, 2401), (1, 31213), (7, 2), (1, 12), (1, 169), (1, 13), (1, 13), (1, 200), (1, 200), (3, 5), (1, 200), (1, 200), (1, 200), (3, 5), (1, 200), (1, 200), (1, 200), (5, 8), (1, 60), (1, 60), (1, 60), (1, 13), (1, 13), (1, 12), (11, 4), (1, 8), (1, 8), (1, 208), (15, 86), (1, 240), (1, 12), (1, 144), (1, 200), (1, 2400), (1, 200), (1, 7), (1, 676), (1, 26), (1, 26), (1, 20), (1, 60), (1, 20), (1, 60), (1, 20), (1, 12), (1, 12), (1, 169), (1, 24), (1, 24), (1, 24), (1, 24), (1, 24), (1, 24), (1, 24), (1, 24), (1, 24), (1, 24), (1, 2401), (1, 2401), (1, 2401), (1, 2401), (1, 2401), (1, 31213), (1, 169), (1, 13), (1, 13), (1, 13), (1, 13), (1, 200), (1, 200), (1, 200), (1, 200), (1, 200), (1, 200), (1, 40), (1, 480), (1, 40), (1, 480), (1, 40), (1, 960), (1, 7), (1, 12), (1, 12), (1, 12), (1, 12), (1, 12), (1, 13), (1, 12), (1, 12), (1, 8), (1, 8), (1, 208), (1, 24)]
def xKn : Nat := 145
def xK (o : Int) : Nat := (xTab.getD o.toNat (0, 0)).1
def xN (o : Int) : Nat := (xTab.getD o.toNat (0, 0)).2
/-- what the cells' references are, for ever -/
def xRT : List (List Int) := [[], [2, 4, 9, 21, 23, 25, 28, 34, 40, 43, 46, 47, 48, 62, 66, 70, 77], [3, 0], [], [5, 8, 0], [6, 7, 0], [], [], [], [10, 11, 12, 13, 14, 17, 20], [], [], [], [], [15, 16, 0], [], [], [18, 19, 0], [], [], [], [22, 0], [], [24, 0], [], [26, 27, 0], [], [], [9, 29, 30, 31, 32, 33, 0], [], [], [], [], [], [9, 35, 36, 37, 38, 39, 0], [], [], [], [], [], [41, 42, 0], [], [], [44, 45, 0], [], [], [], [], [4, 9, 49, 55, 57, 58, 59, 60, 61], [50, 51, 52, 53, 54, 0, 0, 0], [], [], [], [], [], [56, 0], [], [], [], [], [], [], [4, 63, 64, 65, 0], [], [], [], [4, 67, 68, 69, 0], [], [], [], [71, 72, 73, 74, 75, 76, 0, 0], [], [], [], [], [], [], [78, 79, 80, 0], [], [], [], [82, 0, 0, 83, 84, 0, 85, 86, 87, 88, 89, 90, 91, 0, 0, 0, 0, 92, 93, 94, 95, 96, 0, 0, 97, 98, 99, 0, 100, 101, 102, 103, 104, 0, 105, 106, 107, 108, 109, 0, 0, 110, 111, 112, 113, 114, 115, 0, 116, 117, 118, 119, 120, 0, 121, 122, 123, 0, 124, 125, 126, 0, 127, 128, 129, 130, 131, 132, 133, 0, 0, 134, 135, 136, 137, 138, 139, 140, 141, 142, 143, 144, 0, 0, 0, 145], [], [], [], [], [], [], [], [], [], [], [], [], [], [], [], [], [], [], [], [], [], [], [], [], [], [], [], [], [], [], [], [], [], [], [], [], [], [], [], [], [], [], [], [], [], [], [], [], [], [], [], [], [], [], [], [], [], [], [], [], [], [], [], []]
def xRf (o j : Int) : Int := if j < 0 then 0 else (xRT.getD o.toNat []).getD j.toNat 0
def xNL : List Nat := [5, 3, 8, 8, 2, 3, 7, 2, 4, 9, 7, 17, 86]
def xNf (ci : Nat) : Nat := xNL.getD ci 0
def xRL : List (List Bool) := [[true, true, true, true, false], [true, true, false], [true, true, true, true, true, true, false, false], [true, true, true, true, true, false, false, false], [true, false], [true, true, false], [true, true, true, true, true, true, true], [true, false], [true, true, true, false], [true, true, true, true, true, true, true, true, true], [true, true, true, true, true, true, false], [true, true, true, true, true, true, true, true, true, true, true, true, true, true, true, true, true], [true, false, false, true, true, false, true, true, true, true, true, true, true, false, false, false, false, true, true, true, true, true, false, false, true, true, true, false, true, true, true, true, true, false, true, true, true, true, true, false, false, true, true, true, true, true, true, false, true, true, true, true, true, false, true, true, true, false, true, true, true, false, true, true, true, true, true, true, true, false, false, true, true, true, true, true, true, true, true, true, true, true, false, false, false, true]]
def xIsR (ci j : Nat) : Bool := (xRL.getD ci []).getD j false
end
section
/-! THE QUIET MACHINE: numbers are integers, cells are numbers, a heap is a function; each row is one instruction -/
abbrev xV : Type := Int ⊕ (Int ⊕ (Int64 ⊕ UInt32))
abbrev xI (x : Int) : xV := Sum.inl x
abbrev xR (x : Int) : xV := Sum.inr (Sum.inl x)
abbrev xL (x : Int64) : xV := Sum.inr (Sum.inr (Sum.inl x))
abbrev xF (x : UInt32) : xV := Sum.inr (Sum.inr (Sum.inr x))
abbrev xH : Type := Int → Int → Int
abbrev xok (z : Int) : Prop := -2147483648 ≤ z ∧ z ≤ 2147483647
def xRng (h : xH) : Prop := ∀ o j, xok (h o j)
def xvok (v : xV) : Prop := match v with
  | .inl x => xok x
  | _ => True
def xcat (v : xV) : Nat := match v with
  | .inr (.inr (.inl _)) => 2
  | _ => 1
def xcv (ad : Int → Nat) (v : xV) : Value := match v with
  | .inl x => .int (Int32.ofInt x)
  | .inr (.inl o) => .ref (ad o)
  | .inr (.inr (.inl x)) => .long x
  | .inr (.inr (.inr x)) => .float x
theorem xcat_cv (ad : Int → Nat) (v : xV) : (xcv ad v).category = xcat v := by
  rcases v with x | x | x | x <;> rfl
theorem xti {x : Int} (h : xok x) : (Int32.ofInt x).toInt = x := Int32.toInt_ofInt_of_le (by have := h.1; omega) (by have := h.2; omega)
theorem xlt {x y : Int} (hx : xok x) (hy : xok y) : Int32.ofInt x < Int32.ofInt y ↔ x < y := by rw [Int32.lt_iff_toInt_lt, xti hx, xti hy]
theorem xle {x y : Int} (hx : xok x) (hy : xok y) : Int32.ofInt x ≤ Int32.ofInt y ↔ x ≤ y := by rw [Int32.le_iff_toInt_le, xti hx, xti hy]
theorem xeq {x y : Int} (hx : xok x) (hy : xok y) : Int32.ofInt x = Int32.ofInt y ↔ x = y := by rw [← Int32.toInt_inj, xti hx, xti hy]
theorem xz0 : (0 : Int32) = Int32.ofInt 0 := by decide
theorem xok0 : xok 0 := by decide
theorem xcl {x : Int} (h : xok x) : (Int32.ofInt x).toNatClampNeg = x.toNat := by show (Int32.ofInt x).toInt.toNat = _; rw [xti h]
theorem xin {i : Int} {n : Nat} (h : xok i) (h0 : 0 ≤ i) (h1 : i < n) : vp_in (Int32.ofInt i) n := by rw [vp_in_iff, xti h]; exact ⟨h0, h1⟩
theorem xoi (z : Int32) : Int32.ofInt z.toInt = z := Int32.ofInt_toInt z
theorem xokt (z : Int32) : xok z.toInt := ⟨by have := Int32.le_toInt z; omega, by have := Int32.toInt_lt z; omega⟩
def xup (h : xH) (o j v : Int) : xH := fun o' j' => if o' = o ∧ j' = j then v else h o' j'
def xcp (h : xH) (s sp d dp n : Int) : xH := fun o j => if o = d ∧ dp ≤ j ∧ j < dp + n then h s (sp + (j - dp)) else h o j
theorem xup_rng {h : xH} {o j v : Int} (hr : xRng h) (hv : xok v) : xRng (xup h o j v) := by
  intro a b
  unfold xup
  split
  · exact hv
  · exact hr a b
theorem xcp_rng {h : xH} {s sp d dp n : Int} (hr : xRng h) : xRng (xcp h s sp d dp n) := by
  intro a b
  unfold xcp
  split
  · exact hr _ _
  · exact hr a b
/-- the references of the cells stand as the constructors left them -/
def xRef (h : xH) : Prop := ∀ o j, xRf o j ≠ 0 → h o j = xRf o j
def xG (md : Bool) (n : Nat) (h : xH) : Prop := md = true → n = xKn ∧ xRef h
theorem xRf_kind {o j : Int} (h : xRf o j ≠ 0) : 3 ≤ xK o := by
  have key : ∀ k : Nat, k < xRT.length → xRT.getD k [] ≠ [] → 3 ≤ (xTab.getD k (0, 0)).1 := by decide +kernel
  unfold xRf at h
  unfold xK
  split at h
  · exact absurd rfl h
  · have hne : xRT.getD o.toNat [] ≠ [] := by intro e; rw [e] at h; simp at h
    by_cases hk : o.toNat < xRT.length
    · exact key _ hk hne
    · exact absurd (by simp [List.getD, List.getElem?_eq_none (Nat.not_lt.mp hk)]) hne
theorem xRef_up {h : xH} {o j v : Int} (hf : xRef h) (hn : xRf o j = 0) : xRef (xup h o j v) := by
  intro a b hab
  unfold xup
  split
  · next q => obtain ⟨rfl, rfl⟩ := q; exact absurd hn hab
  · exact hf a b hab
theorem xRef_cp {h : xH} {s sp d dp n : Int} (hf : xRef h) (hk : xK d < 3) : xRef (xcp h s sp d dp n) := by
  intro a b hab
  unfold xcp
  split
  · next q => obtain ⟨rfl, -⟩ := q; exact absurd (xRf_kind hab) (by omega)
  · exact hf a b hab
theorem xRf_arr {o j : Int} (hk : xK o < 3) : xRf o j = 0 := Classical.byContradiction fun h => absurd (xRf_kind h) (by omega)
section XW
variable (cI cZ : ClassId) (ad : Int → Nat)
def xfv (h : xH) (ci : Nat) (o : Int) (j : Nat) : Value := if xIsR ci j = true then (if h o j = 0 then Value.null else .ref (ad (h o j))) else .int (Int32.ofInt (h o j))
def xflds (h : xH) (ci : Nat) (o : Int) : List Value := (List.range (xNf ci)).map (xfv ad h ci o)
def xC (h : xH) (o : Int) : va_E :=
  if xK o = 1 then .inl (cI, xN o, .inl (fun j => Int32.ofInt (h o j)))
  else if xK o = 2 then .inl (cZ, xN o, .inl (fun j => Int32.ofInt (h o j)))
  else .inr (xK o - 3, xflds ad h (xK o - 3) o)
def xws (h : xH) (n : Nat) : va_W := (List.range n).map fun k : Nat => (ad ((k : Int) + 1), xC cI cZ ad h ((k : Int) + 1))
end XW
theorem xws_at {cI cZ : ClassId} {ad : Int → Nat} {h : xH} {n : Nat} {o : Int} (h1 : 1 ≤ o) (h2 : o ≤ n) : (xws cI cZ ad h n)[o.toNat - 1]? = some (ad o, xC cI cZ ad h o) := by
  have hk : o.toNat - 1 < n := by omega
  have e : (((o.toNat - 1 : Nat)) : Int) + 1 = o := by omega
  simp only [xws, List.getElem?_map, List.getElem?_range hk, Option.map_some, e]
theorem xflds_congr {ad : Int → Nat} {h h' : xH} {ci : Nat} {o : Int} (hh : ∀ j, h' o j = h o j) : xflds ad h' ci o = xflds ad h ci o := by
  unfold xflds
  refine List.map_congr_left fun j _ => ?_
  simp only [xfv, hh]
theorem xC_congr {cI cZ : ClassId} {ad : Int → Nat} {h h' : xH} {o : Int} (hh : ∀ j, h' o j = h o j) : xC cI cZ ad h' o = xC cI cZ ad h o := by
  unfold xC
  simp only [hh, xflds_congr hh]
theorem xws_set {cI cZ : ClassId} {ad : Int → Nat} {h h' : xH} {n : Nat} {o : Int} (h1 : 1 ≤ o) (h2 : o ≤ n) (hh : ∀ o', o' ≠ o → ∀ j, h' o' j = h o' j) : (xws cI cZ ad h n).set (o.toNat - 1) (ad o, xC cI cZ ad h' o) = xws cI cZ ad h' n := by
  refine List.ext_getElem? fun i => ?_
  by_cases hi : i < n
  · by_cases he : i = o.toNat - 1
    · subst he
      rw [List.getElem?_set_self (by simp [xws]; omega), xws_at h1 h2]
    · rw [List.getElem?_set_ne (fun q => he q.symm)]
      simp only [xws, List.getElem?_map, List.getElem?_range hi, Option.map_some]
      rw [xC_congr (hh _ (by omega))]
  · rw [List.getElem?_eq_none (by simp [xws]; omega), List.getElem?_eq_none (by simp [xws]; omega)]
theorem xflds_len {ad : Int → Nat} {h : xH} {ci : Nat} {o : Int} : (xflds ad h ci o).length = xNf ci := by simp [xflds]
theorem xflds_at {ad : Int → Nat} {h : xH} {ci : Nat} {o : Int} {k : Nat} (hk : k < xNf ci) : (xflds ad h ci o)[k]? = some (xfv ad h ci o k) := by
  simp only [xflds, List.getElem?_map, List.getElem?_range hk, Option.map_some]
theorem xflds_set {ad : Int → Nat} {h : xH} {ci : Nat} {o v : Int} {k : Nat} {w : Value} (hk : k < xNf ci) (hw : w = xfv ad (xup h o k v) ci o k) : (xflds ad h ci o).set k w = xflds ad (xup h o k v) ci o := by
  refine List.ext_getElem? fun i => ?_
  by_cases hi : i < xNf ci
  · by_cases he : i = k
    · subst he
      rw [List.getElem?_set_self (by rw [xflds_len]; exact hi), xflds_at hi, hw]
    · rw [List.getElem?_set_ne (fun q => he q.symm), xflds_at hi, xflds_at hi]
      have e : xup h o k v o (i : Int) = h o (i : Int) := by
        unfold xup
        rw [if_neg (by omega)]
      simp only [xfv, e]
  · rw [List.getElem?_eq_none (by rw [List.length_set, xflds_len]; omega), List.getElem?_eq_none (by rw [xflds_len]; omega)]
/-- the heap holds the first n cells; while they are made there are no others -/
def xRel (D : va_G) (cI cZ : ClassId) (ad : Int → Nat) (base : Nat) (md : Bool) (n : Nat) (h : xH) (H : Heap) (cells : Nat) (s : State) : Prop :=
  va_P D vwCl (xws cI cZ ad h n) H ∧ (md = false → s.heap.size + cells = base + n ∧ ∀ o j, (n : Int) < o → h o j = 0)
/-- the class's two tables -/
def xfM (j : Nat) : Value := .int (Int32.ofInt (([1, 1, 1, 0, 2, 1, 2] : List Int).getD j 0))
def xfT (j : Nat) : Value := .int (Int32.ofInt (([1, 1, 0, 1, 2, 2, 1] : List Int).getD j 0))
def xSt (ad : Int → Nat) (A : Nat → Prop) (s : State) : Prop :=
  va_Z "WordMender$Slips" "MEANT_TAKEN" "[I" (.ref (ad (-1))) A s s.heap ∧ va_T .int (ad (-1)) 7 xfM A s s.heap ∧
  va_Z "WordMender$Slips" "TYPED_TAKEN" "[I" (.ref (ad (-2))) A s s.heap ∧ va_T .int (ad (-2)) 7 xfT A s s.heap
theorem xSt.to {ad : Int → Nat} {A : Nat → Prop} {u U : State} (h : xSt ad A u) (hvm : u.vm.Alike U.vm) (hq : ∀ a : Nat, a < u.heap.size → ¬ A a → U.heap[a]? = u.heap[a]?) : xSt ad A U :=
  ⟨((h.1.kept hq).moved hvm), ((h.2.1.kept hq).moved hvm), ((h.2.2.1.kept hq).moved hvm), ((h.2.2.2.kept hq).moved hvm)⟩
/-- the words that a call hands on -/
def xgood (w : Cond) : Bool := (w.onTables && w.keeps) || (match w with | .arrayClass _ => true | _ => false)
def xtbl : List Cond := lw_tbl.filter xgood
theorem xq_of {w : Cond} (i : Nat) (h : lw_tbl[i]? = some w) (hg : xgood w = true) : w ∈ xtbl := List.mem_filter.mpr ⟨List.mem_of_getElem? h, hg⟩
theorem xtbl_good {w : Cond} (h : w ∈ xtbl) : (w.onTables && w.keeps) = true ∨ ∃ ty, w = .arrayClass ty := by
  have h2 := (List.mem_filter.mp h).2
  unfold xgood at h2
  rcases Bool.or_eq_true _ _ ▸ h2 with h2 | h2
  · exact Or.inl h2
  · right
    split at h2
    · exact ⟨_, rfl⟩
    · cases h2
def xisN (w : Cond) : Bool := match w with
  | .fieldLinkNest .. => true
  | .methodLinkNest .. => true
  | _ => false
def xnst : List Cond := lw_tbl.filter xisN
theorem xn_of {w : Cond} (i : Nat) (h : lw_tbl[i]? = some w) (hg : xisN w = true) : w ∈ xnst := List.mem_filter.mpr ⟨List.mem_of_getElem? h, hg⟩
theorem xisN_on {w : Cond} (h : w ∈ xnst) : w.onTables = true := by
  have h2 := (List.mem_filter.mp h).2
  unfold xisN at h2
  split at h2
  · rfl
  · rfl
  · cases h2
theorem xisN_warm {w : Cond} (h : w ∈ xnst) {s U : State} (hW : s.WarmedH U.vm) (hZ : va_Nw w s) : va_Nw w U := by
  have h2 := (List.mem_filter.mp h).2
  unfold xisN at h2
  split at h2
  · exact va_Nw.warmF hW hZ
  · exact va_Nw.warmM hW hZ
  · cases h2
/-- a method: its class, code, places, answer, whether a constructor; frames and words that it needs; the law's script -/
abbrev xM : Type := String × ByteArray × Nat × Option FieldType × Bool × Nat × Nat × Option (Nat × (Nat → Int32))
def xScr (sc : Option (Nat × (Nat → Int32))) (ad : Int → Nat) (base : Nat) (s : State) : Prop := match sc with
  | none => True
  | some (L, xs) => va_X (ad (-3)) L xs s s.heap ∧ ad (-3) < s.heap.size ∧ ad (-3) < base
def xCx (M : xM) (D : va_G) (cI cZ : ClassId) (base : Nat) (ad : Int → Nat) (p : Program) (R : Room) (s : State) (m : MethodId) (args : Array Value) (meth : Method) (c : Code) : Prop :=
  p.tables.exec = Jvm.exec ∧ c.code = M.2.1 ∧ c.maxLocals = M.2.2.1 ∧ s.vm.findClass M.1 = some m.cls ∧ (∀ w ∈ xtbl, w.before args s = true) ∧
  (M.2.2.2.2.1 = true → meth.name = "<init>") ∧ (M.2.2.2.2.2.1 ≤ R.frames ∧ M.2.2.2.2.2.2.1 ≤ R.locals) ∧ va_K D vwCl [(cI, .int), (cZ, .boolean)] s ∧
  (base ≤ s.heap.size ∧ xSt ad (fun q => base ≤ q) s ∧ ∀ k : Nat, ad ((k : Int) + 1) = base + k) ∧ xScr M.2.2.2.2.2.2.2 ad base s ∧ (∀ w ∈ xnst, va_Nw w s)
def xretI (r : Option Int) : Instr := match r with
  | none => .return_
  | some _ => .ireturn
def xrv (r : Option Int) : Option Value := r.map fun x => .int (Int32.ofInt x)
def xrok (rt : Option FieldType) (r : Option Int) : Prop := match rt, r with
  | none, none => True
  | some .int, some x => xok x
  | some .boolean, some x => x = 0 ∨ x = 1
  | _, _ => False
abbrev xQ : Type := Option Int → Nat → xH → Prop
/-- from this place the method comes to its end, and Q holds of answer, number of cells and heap -/
def J (M : xM) (md : Bool) (rc rs : Nat) (pc n : Nat) (ls : List (Nat × xV)) (st : List xV) (h : xH) (Q : xQ) : Prop :=
  (∀ q ∈ ls, xvok q.2) → (∀ v ∈ st, xvok v) → xRng h → xG md n h →
  ∀ (D : va_G) (cI cZ : ClassId) (base : Nat) (ad : Int → Nat) (p : Program) (l : Launch) (e : Env) (R : Room) (s : State) (m : MethodId) (args : Array Value) (below : List Frame) (meth : Method) (c : Code),
  xCx M D cI cZ base ad p R s m args meth c →
  ∀ (H : Heap) (locs : List Loc) (cells slots : Nat) (Z : State → Prop) (lsm : Array Slot),
  xRel D cI cZ ad base md n h H cells s → va_S (fun q => base ≤ q) s.heap H locs → lv_has lsm M.2.2.1 (ls.map fun q => (q.1, xcv ad q.2)) →
  cells + rc = R.cells ∧ slots + rs = R.slots →
  (∀ (r : Option Int) (n' : Nat) (h' : xH) (H' : Heap) (locs' : List Loc) (pc' : Nat) (lsm' : Array Slot), Q r n' h' → xrok M.2.2.2.1 r → xRng h' → xG md n' h' → xRel D cI cZ ad base md n' h' H' R.cells s → va_S (fun q => base ≤ q) s.heap H' locs' → decode M.2.1 pc' = .ok (xretI r, 1) →
    W p l e R s m args below meth c H' locs' R.cells R.slots Z (F0 m pc' lsm' (xrv r).toList)) →
  W p l e R s m args below meth c H locs cells slots Z (F0 m pc lsm (st.map (xcv ad)))
end
section
/-! ROWS OF THE QUIET MACHINE: constants, locals, stack, arithmetic, branches -/
/-- a number as the machine keeps it -/
def w32 (z : Int) : Int := (Int32.ofInt z).toInt
theorem w32_ok (z : Int) : xok (w32 z) := xokt _
theorem w32_of (z : Int) : Int32.ofInt (w32 z) = Int32.ofInt z := xoi _
theorem w32_id {z : Int} (h1 : -2147483648 ≤ z) (h2 : z ≤ 2147483647) : w32 z = z := xti ⟨h1, h2⟩
def xand (x y : Int) : Int := (Int32.ofInt x &&& Int32.ofInt y).toInt
def xdiv (x y : Int) : Int := (Int32.ofInt x / Int32.ofInt y).toInt
def xGo (M : xM) (pc : Nat) (st : List xV) (pc' : Nat) (st' : List xV) : Prop := (∀ v ∈ st, xvok v) → ∀ {p : Program} {l : Launch} {e : Env} {R : Room} {s : State} {m : MethodId} {args : Array Value} {below : List Frame} {meth : Method} {c : Code} {H : Heap} {locs : List Loc} {cells slots : Nat} {Z : State → Prop} {lsm : Array Slot} {ad : Int → Nat},
  p.tables.exec = Jvm.exec → c.code = M.2.1 → s.vm.findClass M.1 = some m.cls → (∀ w ∈ xtbl, w.before args s = true) →
  W p l e R s m args below meth c H locs cells slots Z (F0 m pc' lsm (st'.map (xcv ad))) → W p l e R s m args below meth c H locs cells slots Z (F0 m pc lsm (st.map (xcv ad)))
section
variable {p : Program} {l : Launch} {e : Env} {R : Room} {s : State} {m : MethodId} {args : Array Value} {below : List Frame} {meth : Method} {c : Code} {H : Heap} {locs : List Loc} {cells slots pc : Nat} {Z : State → Prop} {lsm : Array Slot} {cc : ByteArray}
theorem J_br_eq {x y off : Int} {tgt : Nat} {rest : List Value} (hx : xok x) (hy : xok y) (hexec : p.tables.exec = Jvm.exec) (hb : c.code = cc) (hd : decode cc pc = .ok (.if_icmp .eq off, 3)) (ht : (pc : Int) + off = (tgt : Int)) (kt : x = y → W p l e R s m args below meth c H locs cells slots Z (F0 m tgt lsm rest)) (kf : ¬ x = y → W p l e R s m args below meth c H locs cells slots Z (F0 m (pc + 3) lsm rest)) : W p l e R s m args below meth c H locs cells slots Z (F0 m pc lsm (.int (Int32.ofInt y) :: .int (Int32.ofInt x) :: rest)) :=
  lv_icmp_eq hexec hb hd ht (fun q => kt ((xeq hx hy).mp q)) (fun q => kf (fun z => q ((xeq hx hy).mpr z)))
theorem J_bz_eq {x off : Int} {tgt : Nat} {rest : List Value} (hx : xok x) (hexec : p.tables.exec = Jvm.exec) (hb : c.code = cc) (hd : decode cc pc = .ok (.ifCond .eq off, 3)) (ht : (pc : Int) + off = (tgt : Int)) (kt : x = 0 → W p l e R s m args below meth c H locs cells slots Z (F0 m tgt lsm rest)) (kf : ¬ x = 0 → W p l e R s m args below meth c H locs cells slots Z (F0 m (pc + 3) lsm rest)) : W p l e R s m args below meth c H locs cells slots Z (F0 m pc lsm (.int (Int32.ofInt x) :: rest)) :=
  lv_if_eq hexec hb hd ht (fun q => kt ((xeq hx xok0).mp q)) (fun q => kf (fun z => q ((xeq hx xok0).mpr z)))
theorem J_br_ne {x y off : Int} {tgt : Nat} {rest : List Value} (hx : xok x) (hy : xok y) (hexec : p.tables.exec = Jvm.exec) (hb : c.code = cc) (hd : decode cc pc = .ok (.if_icmp .ne off, 3)) (ht : (pc : Int) + off = (tgt : Int)) (kt : x = y → W p l e R s m args below meth c H locs cells slots Z (F0 m (pc + 3) lsm rest)) (kf : ¬ x = y → W p l e R s m args below meth c H locs cells slots Z (F0 m tgt lsm rest)) : W p l e R s m args below meth c H locs cells slots Z (F0 m pc lsm (.int (Int32.ofInt y) :: .int (Int32.ofInt x) :: rest)) :=
  lv_icmp_ne hexec hb hd ht (fun q => kf (fun z => q ((xeq hx hy).mpr z))) (fun q => kt ((xeq hx hy).mp q))
theorem J_bz_ne {x off : Int} {tgt : Nat} {rest : List Value} (hx : xok x) (hexec : p.tables.exec = Jvm.exec) (hb : c.code = cc) (hd : decode cc pc = .ok (.ifCond .ne off, 3)) (ht : (pc : Int) + off = (tgt : Int)) (kt : x = 0 → W p l e R s m args below meth c H locs cells slots Z (F0 m (pc + 3) lsm rest)) (kf : ¬ x = 0 → W p l e R s m args below meth c H locs cells slots Z (F0 m tgt lsm rest)) : W p l e R s m args below meth c H locs cells slots Z (F0 m pc lsm (.int (Int32.ofInt x) :: rest)) :=
  lv_if_ne hexec hb hd ht (fun q => kf (fun z => q ((xeq hx xok0).mpr z))) (fun q => kt ((xeq hx xok0).mp q))
theorem J_br_lt {x y off : Int} {tgt : Nat} {rest : List Value} (hx : xok x) (hy : xok y) (hexec : p.tables.exec = Jvm.exec) (hb : c.code = cc) (hd : decode cc pc = .ok (.if_icmp .lt off, 3)) (ht : (pc : Int) + off = (tgt : Int)) (kt : x < y → W p l e R s m args below meth c H locs cells slots Z (F0 m tgt lsm rest)) (kf : ¬ x < y → W p l e R s m args below meth c H locs cells slots Z (F0 m (pc + 3) lsm rest)) : W p l e R s m args below meth c H locs cells slots Z (F0 m pc lsm (.int (Int32.ofInt y) :: .int (Int32.ofInt x) :: rest)) :=
  lv_icmp_lt hexec hb hd ht (fun q => kt ((xlt hx hy).mp q)) (fun q => kf (fun z => q ((xlt hx hy).mpr z)))
theorem J_bz_lt {x off : Int} {tgt : Nat} {rest : List Value} (hx : xok x) (hexec : p.tables.exec = Jvm.exec) (hb : c.code = cc) (hd : decode cc pc = .ok (.ifCond .lt off, 3)) (ht : (pc : Int) + off = (tgt : Int)) (kt : x < 0 → W p l e R s m args below meth c H locs cells slots Z (F0 m tgt lsm rest)) (kf : ¬ x < 0 → W p l e R s m args below meth c H locs cells slots Z (F0 m (pc + 3) lsm rest)) : W p l e R s m args below meth c H locs cells slots Z (F0 m pc lsm (.int (Int32.ofInt x) :: rest)) :=
  lv_if_lt hexec hb hd ht (fun q => kt ((xlt hx xok0).mp q)) (fun q => kf (fun z => q ((xlt hx xok0).mpr z)))
theorem J_br_ge {x y off : Int} {tgt : Nat} {rest : List Value} (hx : xok x) (hy : xok y) (hexec : p.tables.exec = Jvm.exec) (hb : c.code = cc) (hd : decode cc pc = .ok (.if_icmp .ge off, 3)) (ht : (pc : Int) + off = (tgt : Int)) (kt : x < y → W p l e R s m args below meth c H locs cells slots Z (F0 m (pc + 3) lsm rest)) (kf : ¬ x < y → W p l e R s m args below meth c H locs cells slots Z (F0 m tgt lsm rest)) : W p l e R s m args below meth c H locs cells slots Z (F0 m pc lsm (.int (Int32.ofInt y) :: .int (Int32.ofInt x) :: rest)) :=
  lv_icmp_ge hexec hb hd ht (fun q => kf (fun z => absurd ((xlt hx hy).mpr z) (Int32.not_lt.mpr q))) (fun q => kt ((xlt hx hy).mp (Int32.not_le.mp q)))
theorem J_bz_ge {x off : Int} {tgt : Nat} {rest : List Value} (hx : xok x) (hexec : p.tables.exec = Jvm.exec) (hb : c.code = cc) (hd : decode cc pc = .ok (.ifCond .ge off, 3)) (ht : (pc : Int) + off = (tgt : Int)) (kt : x < 0 → W p l e R s m args below meth c H locs cells slots Z (F0 m (pc + 3) lsm rest)) (kf : ¬ x < 0 → W p l e R s m args below meth c H locs cells slots Z (F0 m tgt lsm rest)) : W p l e R s m args below meth c H locs cells slots Z (F0 m pc lsm (.int (Int32.ofInt x) :: rest)) :=
  lv_if_ge hexec hb hd ht (fun q => kf (fun z => absurd ((xlt hx xok0).mpr z) (Int32.not_lt.mpr q))) (fun q => kt ((xlt hx xok0).mp (Int32.not_le.mp q)))
theorem J_br_gt {x y off : Int} {tgt : Nat} {rest : List Value} (hx : xok x) (hy : xok y) (hexec : p.tables.exec = Jvm.exec) (hb : c.code = cc) (hd : decode cc pc = .ok (.if_icmp .gt off, 3)) (ht : (pc : Int) + off = (tgt : Int)) (kt : y < x → W p l e R s m args below meth c H locs cells slots Z (F0 m tgt lsm rest)) (kf : ¬ y < x → W p l e R s m args below meth c H locs cells slots Z (F0 m (pc + 3) lsm rest)) : W p l e R s m args below meth c H locs cells slots Z (F0 m pc lsm (.int (Int32.ofInt y) :: .int (Int32.ofInt x) :: rest)) :=
  lv_icmp_gt hexec hb hd ht (fun q => kt ((xlt hy hx).mp q)) (fun q => kf (fun z => q ((xlt hy hx).mpr z)))
theorem J_bz_gt {x off : Int} {tgt : Nat} {rest : List Value} (hx : xok x) (hexec : p.tables.exec = Jvm.exec) (hb : c.code = cc) (hd : decode cc pc = .ok (.ifCond .gt off, 3)) (ht : (pc : Int) + off = (tgt : Int)) (kt : 0 < x → W p l e R s m args below meth c H locs cells slots Z (F0 m tgt lsm rest)) (kf : ¬ 0 < x → W p l e R s m args below meth c H locs cells slots Z (F0 m (pc + 3) lsm rest)) : W p l e R s m args below meth c H locs cells slots Z (F0 m pc lsm (.int (Int32.ofInt x) :: rest)) :=
  lv_if_gt hexec hb hd ht (fun q => kt ((xlt xok0 hx).mp q)) (fun q => kf (fun z => q ((xlt xok0 hx).mpr z)))
theorem J_br_le {x y off : Int} {tgt : Nat} {rest : List Value} (hx : xok x) (hy : xok y) (hexec : p.tables.exec = Jvm.exec) (hb : c.code = cc) (hd : decode cc pc = .ok (.if_icmp .le off, 3)) (ht : (pc : Int) + off = (tgt : Int)) (kt : y < x → W p l e R s m args below meth c H locs cells slots Z (F0 m (pc + 3) lsm rest)) (kf : ¬ y < x → W p l e R s m args below meth c H locs cells slots Z (F0 m tgt lsm rest)) : W p l e R s m args below meth c H locs cells slots Z (F0 m pc lsm (.int (Int32.ofInt y) :: .int (Int32.ofInt x) :: rest)) :=
  lv_icmp_le hexec hb hd ht (fun q => kf (fun z => absurd ((xlt hy hx).mpr z) (Int32.not_lt.mpr q))) (fun q => kt ((xlt hy hx).mp (Int32.not_le.mp q)))
theorem J_bz_le {x off : Int} {tgt : Nat} {rest : List Value} (hx : xok x) (hexec : p.tables.exec = Jvm.exec) (hb : c.code = cc) (hd : decode cc pc = .ok (.ifCond .le off, 3)) (ht : (pc : Int) + off = (tgt : Int)) (kt : 0 < x → W p l e R s m args below meth c H locs cells slots Z (F0 m (pc + 3) lsm rest)) (kf : ¬ 0 < x → W p l e R s m args below meth c H locs cells slots Z (F0 m tgt lsm rest)) : W p l e R s m args below meth c H locs cells slots Z (F0 m pc lsm (.int (Int32.ofInt x) :: rest)) :=
  lv_if_le hexec hb hd ht (fun q => kf (fun z => absurd ((xlt xok0 hx).mpr z) (Int32.not_lt.mpr q))) (fun q => kt ((xlt xok0 hx).mp (Int32.not_le.mp q)))
end
section
variable {M : xM} {md : Bool} {rc rs pc n : Nat} {ls : List (Nat × xV)} {st : List xV} {h : xH} {Q : xQ}
theorem J_op {pc' : Nat} {st' : List xV} (hw : xGo M pc st pc' st') (hst : (∀ v ∈ st, xvok v) → ∀ v ∈ st', xvok v) (k : J M md rc rs pc' n ls st' h Q) : J M md rc rs pc n ls st h Q := by
  intro hl hs hr hg D cI cZ base ad p l e R s m args below meth c hC H locs cells slots Z lsm hRel hS hls hc hE
  exact hw hs hC.1 hC.2.1 hC.2.2.2.1 hC.2.2.2.2.1 (k hl (hst hs) hr hg D cI cZ base ad p l e R s m args below meth c hC H locs cells slots Z lsm hRel hS hls hc hE)
theorem xs1 {v : xV} {st : List xV} (hv : xvok v) (h : ∀ q ∈ st, xvok q) : ∀ q ∈ v :: st, xvok q := fun q hq => by
  rcases List.mem_cons.mp hq with rfl | hq
  · exact hv
  · exact h q hq
theorem xsI {x : Int} {st : List xV} (hv : xok x) (h : ∀ q ∈ st, xvok q) : ∀ q ∈ xI x :: st, xvok q := xs1 hv h
theorem xsL {x : Int64} {st : List xV} (h : ∀ q ∈ st, xvok q) : ∀ q ∈ xL x :: st, xvok q := xs1 trivial h
theorem xsF {x : UInt32} {st : List xV} (h : ∀ q ∈ st, xvok q) : ∀ q ∈ xF x :: st, xvok q := xs1 trivial h
theorem xsR {x : Int} {st : List xV} (h : ∀ q ∈ st, xvok q) : ∀ q ∈ xR x :: st, xvok q := xs1 trivial h
theorem xs2 {v : xV} {st : List xV} (h : ∀ q ∈ v :: st, xvok q) : ∀ q ∈ st, xvok q := fun q hq => h q (List.mem_cons_of_mem _ hq)
theorem xs0 {v : xV} {st : List xV} (h : ∀ q ∈ v :: st, xvok q) : xvok v := h _ List.mem_cons_self
theorem J_iconst {v : Int} (hd : decode M.2.1 pc = .ok (.iconst v, 1)) (hv : xok v) (k : J M md rc rs (pc + 1) n ls (xI v :: st) h Q) : J M md rc rs pc n ls st h Q :=
  J_op (fun _ => fun hx hb _ _ k => lv_iconst hx hb hd rfl k) (fun hs => xsI hv hs) k
theorem J_bip {v : Int} (hd : decode M.2.1 pc = .ok (.bipush v, 2)) (hv : (Int8.ofInt v).toInt32 = Int32.ofInt v ∧ xok v) (k : J M md rc rs (pc + 2) n ls (xI v :: st) h Q) : J M md rc rs pc n ls st h Q :=
  J_op (fun _ => fun hx hb _ _ k => lv_bipush hx hb hd hv.1 k) (fun hs => xsI hv.2 hs) k
theorem J_sip {v : Int} (hd : decode M.2.1 pc = .ok (.sipush v, 3)) (hv : (Int16.ofInt v).toInt32 = Int32.ofInt v ∧ xok v) (k : J M md rc rs (pc + 3) n ls (xI v :: st) h Q) : J M md rc rs pc n ls st h Q :=
  J_op (fun _ => fun hx hb _ _ k => lv_sipush hx hb hd hv.1 k) (fun hs => xsI hv.2 hs) k
theorem J_lconst {k0 : Fin 2} {v : Int64} (hd : decode M.2.1 pc = .ok (.lconst k0, 1)) (hv : Int64.ofNat (k0 : Nat) = v) (k : J M md rc rs (pc + 1) n ls (xL v :: st) h Q) : J M md rc rs pc n ls st h Q :=
  J_op (fun _ => fun hx hb _ _ k => lv_lconst hx hb hd hv k) (fun hs => xsL hs) k
theorem J_ldc {i : Nat} {v : Int} (hd : decode M.2.1 pc = .ok (.ldc i, 2)) (hw : Cond.constant M.1 i (Int32.ofInt v) ∈ xtbl) (hv : xok v) (k : J M md rc rs (pc + 2) n ls (xI v :: st) h Q) : J M md rc rs pc n ls st h Q :=
  J_op (fun _ => fun hx hb ho ht k => lv_ldc hx hb ho (ht _ hw) hd k) (fun hs => xsI hv hs) k
theorem J_ldcw {i : Nat} {v : Int} (hd : decode M.2.1 pc = .ok (.ldc_w i, 3)) (hw : Cond.constant M.1 i (Int32.ofInt v) ∈ xtbl) (hv : xok v) (k : J M md rc rs (pc + 3) n ls (xI v :: st) h Q) : J M md rc rs pc n ls st h Q :=
  J_op (fun _ => fun hx hb ho ht k => lv_ldcw hx hb ho (ht _ hw) hd k) (fun hs => xsI hv hs) k
theorem J_ldc2 {i : Nat} {v : Int64} (hd : decode M.2.1 pc = .ok (.ldc2_w i, 3)) (hw : Cond.constantLong M.1 i v ∈ xtbl) (k : J M md rc rs (pc + 3) n ls (xL v :: st) h Q) : J M md rc rs pc n ls st h Q :=
  J_op (fun _ => fun hx hb ho ht k => lv_ldc2 hx hb ho (ht _ hw) hd k) (fun hs => xsL hs) k
theorem J_ldcf {i : Nat} {v : UInt32} (hd : decode M.2.1 pc = .ok (.ldc i, 2)) (hw : Cond.constantFloat M.1 i v ∈ xtbl) (k : J M md rc rs (pc + 2) n ls (xF v :: st) h Q) : J M md rc rs pc n ls st h Q :=
  J_op (fun _ => fun hx hb ho ht k => lv_ldcf hx hb ho (ht _ hw) hd k) (fun hs => xsF hs) k
theorem J_dup {v : xV} (hd : decode M.2.1 pc = .ok (.dup, 1)) (hc : xcat v = 1) (k : J M md rc rs (pc + 1) n ls (v :: v :: st) h Q) : J M md rc rs pc n ls (v :: st) h Q :=
  J_op (fun _ => fun hx hb _ _ k => lv_dup hx hb hd (by rw [xcat_cv]; exact hc) k) (fun hs => xs1 (xs0 hs) hs) k
theorem J_pop {v : xV} (hd : decode M.2.1 pc = .ok (.pop, 1)) (hc : xcat v = 1) (k : J M md rc rs (pc + 1) n ls st h Q) : J M md rc rs pc n ls (v :: st) h Q :=
  J_op (fun _ => fun hx hb _ _ k => lv_pop hx hb hd (by rw [xcat_cv]; exact hc) k) (fun hs => xs2 hs) k
theorem J_dupx1 {v w : xV} (hd : decode M.2.1 pc = .ok (.dup_x1, 1)) (hc : xcat v = 1) (hc2 : xcat w = 1) (k : J M md rc rs (pc + 1) n ls (v :: w :: v :: st) h Q) : J M md rc rs pc n ls (v :: w :: st) h Q :=
  J_op (fun _ => fun hx hb _ _ k => lv_dup_x1 hx hb hd (by rw [xcat_cv]; exact hc) (by rw [xcat_cv]; exact hc2) k) (fun hs => xs1 (xs0 hs) (xs1 (xs0 (xs2 hs)) (xs1 (xs0 hs) (xs2 (xs2 hs))))) k
theorem J_dup2 {v w : xV} (hd : decode M.2.1 pc = .ok (.dup2, 1)) (hc : xcat v = 1) (hc2 : xcat w = 1) (k : J M md rc rs (pc + 1) n ls (v :: w :: v :: w :: st) h Q) : J M md rc rs pc n ls (v :: w :: st) h Q :=
  J_op (fun _ => fun hx hb _ _ k => lv_dup2_11 hx hb hd (by rw [xcat_cv]; exact hc) (by rw [xcat_cv]; exact hc2) k) (fun hs => xs1 (xs0 hs) (xs1 (xs0 (xs2 hs)) hs)) k
theorem J_goto {off : Int} {tgt : Nat} (hd : decode M.2.1 pc = .ok (.goto off, 3)) (ht : (pc : Int) + off = (tgt : Int)) (k : J M md rc rs tgt n ls st h Q) : J M md rc rs pc n ls st h Q :=
  J_op (fun _ => fun hx hb _ _ k => lv_goto hx hb hd ht k) (fun hs => hs) k
theorem xw2 {a b : Int32} {z : Int} (e : a = Int32.ofInt z) (h : Int32.ofInt (w32 z) = b) : a = b := by rw [e, ← h, w32_of]
theorem J_iadd {x y : Int} (hd : decode M.2.1 pc = .ok (.iadd, 1)) (k : J M md rc rs (pc + 1) n ls (xI (w32 (x + y)) :: st) h Q) : J M md rc rs pc n ls (xI y :: xI x :: st) h Q :=
  J_op (fun _ => fun {_ _ _ _ _ _ _ _ _ _ _ _ _ _ _ _ _} hx hb _ _ k => lv_iadd hx hb hd (by rw [← Int32.ofInt_add, ← w32_of]; exact k)) (fun hs => xsI (w32_ok _) (xs2 (xs2 hs))) k
theorem J_isub {x y : Int} (hd : decode M.2.1 pc = .ok (.isub, 1)) (k : J M md rc rs (pc + 1) n ls (xI (w32 (x - y)) :: st) h Q) : J M md rc rs pc n ls (xI y :: xI x :: st) h Q :=
  J_op (fun _ => fun {_ _ _ _ _ _ _ _ _ _ _ _ _ _ _ _ _} hx hb _ _ k => lv_isub hx hb hd (by rw [← Int32.ofInt_sub, ← w32_of]; exact k)) (fun hs => xsI (w32_ok _) (xs2 (xs2 hs))) k
theorem J_imul {x y : Int} (hd : decode M.2.1 pc = .ok (.imul, 1)) (k : J M md rc rs (pc + 1) n ls (xI (w32 (x * y)) :: st) h Q) : J M md rc rs pc n ls (xI y :: xI x :: st) h Q :=
  J_op (fun _ => fun {_ _ _ _ _ _ _ _ _ _ _ _ _ _ _ _ _} hx hb _ _ k => lv_imul hx hb hd (by rw [← Int32.ofInt_mul, ← w32_of]; exact k)) (fun hs => xsI (w32_ok _) (xs2 (xs2 hs))) k
theorem J_iand {x y : Int} (hd : decode M.2.1 pc = .ok (.iand, 1)) (k : J M md rc rs (pc + 1) n ls (xI (xand x y) :: st) h Q) : J M md rc rs pc n ls (xI y :: xI x :: st) h Q :=
  J_op (fun _ => fun {_ _ _ _ _ _ _ _ _ _ _ _ _ _ _ _ _} hx hb _ _ k => lv_iand hx hb hd (by rw [← xoi (_ &&& _)]; exact k)) (fun hs => xsI (xokt _) (xs2 (xs2 hs))) k
theorem J_idiv {x y : Int} (hd : decode M.2.1 pc = .ok (.idiv, 1)) (hy : y ≠ 0) (k : J M md rc rs (pc + 1) n ls (xI (xdiv x y) :: st) h Q) : J M md rc rs pc n ls (xI y :: xI x :: st) h Q :=
  J_op (fun hs => fun {_ _ _ _ _ _ _ _ _ _ _ _ _ _ _ _ _} hx hb _ _ k => lv_idiv hx hb hd (fun e => hy ((xeq (xs0 hs) xok0).mp (e.trans xz0))) (by rw [← xoi (_ / _)]; exact k)) (fun hs => xsI (xokt _) (xs2 (xs2 hs))) k
theorem J_i2l {x : Int} (hd : decode M.2.1 pc = .ok (.i2l, 1)) (k : J M md rc rs (pc + 1) n ls (xL (Int32.ofInt x).toInt64 :: st) h Q) : J M md rc rs pc n ls (xI x :: st) h Q :=
  J_op (fun _ => fun {_ _ _ _ _ _ _ _ _ _ _ _ _ _ _ _ _} hx hb _ _ k => lv_i2l hx hb hd rfl k) (fun hs => xsL (xs2 hs)) k
theorem J_l2i {x : Int64} (hd : decode M.2.1 pc = .ok (.l2i, 1)) (k : J M md rc rs (pc + 1) n ls (xI x.toInt32.toInt :: st) h Q) : J M md rc rs pc n ls (xL x :: st) h Q :=
  J_op (fun _ => fun {_ _ _ _ _ _ _ _ _ _ _ _ _ _ _ _ _} hx hb _ _ k => lv_l2i hx hb hd rfl (by rw [← xoi x.toInt32]; exact k)) (fun hs => xsI (xokt _) (xs2 hs)) k
theorem J_i2f {x : Int} (hd : decode M.2.1 pc = .ok (.i2f, 1)) (k : J M md rc rs (pc + 1) n ls (xF (FP.i2f (Int32.ofInt x)) :: st) h Q) : J M md rc rs pc n ls (xI x :: st) h Q :=
  J_op (fun _ => fun {_ _ _ _ _ _ _ _ _ _ _ _ _ _ _ _ _} hx hb _ _ k => lv_i2f hx hb hd k) (fun hs => xsF (xs2 hs)) k
theorem J_f2i {x : UInt32} (hd : decode M.2.1 pc = .ok (.f2i, 1)) (k : J M md rc rs (pc + 1) n ls (xI (FP.f2i x).toInt :: st) h Q) : J M md rc rs pc n ls (xF x :: st) h Q :=
  J_op (fun _ => fun {_ _ _ _ _ _ _ _ _ _ _ _ _ _ _ _ _} hx hb _ _ k => lv_f2i hx hb hd (by rw [← xoi (FP.f2i x)]; exact k)) (fun hs => xsI (xokt _) (xs2 hs)) k
theorem J_fdiv {x y : UInt32} (hd : decode M.2.1 pc = .ok (.fdiv, 1)) (hne : vf_n32 (FP.fdiv x y)) (k : J M md rc rs (pc + 1) n ls (xF (FP.fdiv x y) :: st) h Q) : J M md rc rs pc n ls (xF y :: xF x :: st) h Q :=
  J_op (fun _ => fun {_ _ _ _ _ _ _ _ _ _ _ _ _ _ _ _ _} hx hb _ _ k => lv_fdiv hx hb hd hne k) (fun hs => xsF (xs2 (xs2 hs))) k
theorem J_fmul {x y : UInt32} (hd : decode M.2.1 pc = .ok (.fmul, 1)) (hne : vf_n32 (FP.fmul x y)) (k : J M md rc rs (pc + 1) n ls (xF (FP.fmul x y) :: st) h Q) : J M md rc rs pc n ls (xF y :: xF x :: st) h Q :=
  J_op (fun _ => fun {_ _ _ _ _ _ _ _ _ _ _ _ _ _ _ _ _} hx hb _ _ k => lv_fmul hx hb hd hne k) (fun hs => xsF (xs2 (xs2 hs))) k
theorem J_by {c : Prop} (kt : c → J M md rc rs pc n ls st h Q) (kf : ¬ c → J M md rc rs pc n ls st h Q) : J M md rc rs pc n ls st h Q := by
  by_cases hc : c
  · exact kt hc
  · exact kf hc
theorem J_ic_eq {x y off : Int} {tgt : Nat} (hd : decode M.2.1 pc = .ok (.if_icmp .eq off, 3)) (ht : (pc : Int) + off = (tgt : Int)) (kt : x = y → J M md rc rs tgt n ls st h Q) (kf : ¬ x = y → J M md rc rs (pc + 3) n ls st h Q) : J M md rc rs pc n ls (xI y :: xI x :: st) h Q := by
  intro hl hs hr hg D cI cZ base ad p l e R s m args below meth c hC H locs cells slots Z lsm hRel hS hls hc hE
  have hy : xok y := xs0 hs
  have hx : xok x := xs0 (xs2 hs)
  have kt := fun q => kt q hl (xs2 (xs2 hs)) hr hg D cI cZ base ad p l e R s m args below meth c hC H locs cells slots Z lsm hRel hS hls hc hE
  have kf := fun q => kf q hl (xs2 (xs2 hs)) hr hg D cI cZ base ad p l e R s m args below meth c hC H locs cells slots Z lsm hRel hS hls hc hE
  exact J_br_eq hx hy hC.1 hC.2.1 hd ht kt kf
theorem J_ic_ne {x y off : Int} {tgt : Nat} (hd : decode M.2.1 pc = .ok (.if_icmp .ne off, 3)) (ht : (pc : Int) + off = (tgt : Int)) (kt : x = y → J M md rc rs (pc + 3) n ls st h Q) (kf : ¬ x = y → J M md rc rs tgt n ls st h Q) : J M md rc rs pc n ls (xI y :: xI x :: st) h Q := by
  intro hl hs hr hg D cI cZ base ad p l e R s m args below meth c hC H locs cells slots Z lsm hRel hS hls hc hE
  have hy : xok y := xs0 hs
  have hx : xok x := xs0 (xs2 hs)
  have kt := fun q => kt q hl (xs2 (xs2 hs)) hr hg D cI cZ base ad p l e R s m args below meth c hC H locs cells slots Z lsm hRel hS hls hc hE
  have kf := fun q => kf q hl (xs2 (xs2 hs)) hr hg D cI cZ base ad p l e R s m args below meth c hC H locs cells slots Z lsm hRel hS hls hc hE
  exact J_br_ne hx hy hC.1 hC.2.1 hd ht kt kf
theorem J_ic_lt {x y off : Int} {tgt : Nat} (hd : decode M.2.1 pc = .ok (.if_icmp .lt off, 3)) (ht : (pc : Int) + off = (tgt : Int)) (kt : x < y → J M md rc rs tgt n ls st h Q) (kf : ¬ x < y → J M md rc rs (pc + 3) n ls st h Q) : J M md rc rs pc n ls (xI y :: xI x :: st) h Q := by
  intro hl hs hr hg D cI cZ base ad p l e R s m args below meth c hC H locs cells slots Z lsm hRel hS hls hc hE
  have hy : xok y := xs0 hs
  have hx : xok x := xs0 (xs2 hs)
  have kt := fun q => kt q hl (xs2 (xs2 hs)) hr hg D cI cZ base ad p l e R s m args below meth c hC H locs cells slots Z lsm hRel hS hls hc hE
  have kf := fun q => kf q hl (xs2 (xs2 hs)) hr hg D cI cZ base ad p l e R s m args below meth c hC H locs cells slots Z lsm hRel hS hls hc hE
  exact J_br_lt hx hy hC.1 hC.2.1 hd ht kt kf
theorem J_ic_ge {x y off : Int} {tgt : Nat} (hd : decode M.2.1 pc = .ok (.if_icmp .ge off, 3)) (ht : (pc : Int) + off = (tgt : Int)) (kt : x < y → J M md rc rs (pc + 3) n ls st h Q) (kf : ¬ x < y → J M md rc rs tgt n ls st h Q) : J M md rc rs pc n ls (xI y :: xI x :: st) h Q := by
  intro hl hs hr hg D cI cZ base ad p l e R s m args below meth c hC H locs cells slots Z lsm hRel hS hls hc hE
  have hy : xok y := xs0 hs
  have hx : xok x := xs0 (xs2 hs)
  have kt := fun q => kt q hl (xs2 (xs2 hs)) hr hg D cI cZ base ad p l e R s m args below meth c hC H locs cells slots Z lsm hRel hS hls hc hE
  have kf := fun q => kf q hl (xs2 (xs2 hs)) hr hg D cI cZ base ad p l e R s m args below meth c hC H locs cells slots Z lsm hRel hS hls hc hE
  exact J_br_ge hx hy hC.1 hC.2.1 hd ht kt kf
theorem J_ic_gt {x y off : Int} {tgt : Nat} (hd : decode M.2.1 pc = .ok (.if_icmp .gt off, 3)) (ht : (pc : Int) + off = (tgt : Int)) (kt : y < x → J M md rc rs tgt n ls st h Q) (kf : ¬ y < x → J M md rc rs (pc + 3) n ls st h Q) : J M md rc rs pc n ls (xI y :: xI x :: st) h Q := by
  intro hl hs hr hg D cI cZ base ad p l e R s m args below meth c hC H locs cells slots Z lsm hRel hS hls hc hE
  have hy : xok y := xs0 hs
  have hx : xok x := xs0 (xs2 hs)
  have kt := fun q => kt q hl (xs2 (xs2 hs)) hr hg D cI cZ base ad p l e R s m args below meth c hC H locs cells slots Z lsm hRel hS hls hc hE
  have kf := fun q => kf q hl (xs2 (xs2 hs)) hr hg D cI cZ base ad p l e R s m args below meth c hC H locs cells slots Z lsm hRel hS hls hc hE
  exact J_br_gt hx hy hC.1 hC.2.1 hd ht kt kf
theorem J_ic_le {x y off : Int} {tgt : Nat} (hd : decode M.2.1 pc = .ok (.if_icmp .le off, 3)) (ht : (pc : Int) + off = (tgt : Int)) (kt : y < x → J M md rc rs (pc + 3) n ls st h Q) (kf : ¬ y < x → J M md rc rs tgt n ls st h Q) : J M md rc rs pc n ls (xI y :: xI x :: st) h Q := by
  intro hl hs hr hg D cI cZ base ad p l e R s m args below meth c hC H locs cells slots Z lsm hRel hS hls hc hE
  have hy : xok y := xs0 hs
  have hx : xok x := xs0 (xs2 hs)
  have kt := fun q => kt q hl (xs2 (xs2 hs)) hr hg D cI cZ base ad p l e R s m args below meth c hC H locs cells slots Z lsm hRel hS hls hc hE
  have kf := fun q => kf q hl (xs2 (xs2 hs)) hr hg D cI cZ base ad p l e R s m args below meth c hC H locs cells slots Z lsm hRel hS hls hc hE
  exact J_br_le hx hy hC.1 hC.2.1 hd ht kt kf
theorem J_if_eq {x off : Int} {tgt : Nat} (hd : decode M.2.1 pc = .ok (.ifCond .eq off, 3)) (ht : (pc : Int) + off = (tgt : Int)) (kt : x = 0 → J M md rc rs tgt n ls st h Q) (kf : ¬ x = 0 → J M md rc rs (pc + 3) n ls st h Q) : J M md rc rs pc n ls (xI x :: st) h Q := by
  intro hl hs hr hg D cI cZ base ad p l e R s m args below meth c hC H locs cells slots Z lsm hRel hS hls hc hE
  have hx : xok x := xs0 hs
  have kt := fun q => kt q hl (xs2 hs) hr hg D cI cZ base ad p l e R s m args below meth c hC H locs cells slots Z lsm hRel hS hls hc hE
  have kf := fun q => kf q hl (xs2 hs) hr hg D cI cZ base ad p l e R s m args below meth c hC H locs cells slots Z lsm hRel hS hls hc hE
  exact J_bz_eq hx hC.1 hC.2.1 hd ht kt kf
theorem J_if_ne {x off : Int} {tgt : Nat} (hd : decode M.2.1 pc = .ok (.ifCond .ne off, 3)) (ht : (pc : Int) + off = (tgt : Int)) (kt : x = 0 → J M md rc rs (pc + 3) n ls st h Q) (kf : ¬ x = 0 → J M md rc rs tgt n ls st h Q) : J M md rc rs pc n ls (xI x :: st) h Q := by
  intro hl hs hr hg D cI cZ base ad p l e R s m args below meth c hC H locs cells slots Z lsm hRel hS hls hc hE
  have hx : xok x := xs0 hs
  have kt := fun q => kt q hl (xs2 hs) hr hg D cI cZ base ad p l e R s m args below meth c hC H locs cells slots Z lsm hRel hS hls hc hE
  have kf := fun q => kf q hl (xs2 hs) hr hg D cI cZ base ad p l e R s m args below meth c hC H locs cells slots Z lsm hRel hS hls hc hE
  exact J_bz_ne hx hC.1 hC.2.1 hd ht kt kf
theorem J_if_lt {x off : Int} {tgt : Nat} (hd : decode M.2.1 pc = .ok (.ifCond .lt off, 3)) (ht : (pc : Int) + off = (tgt : Int)) (kt : x < 0 → J M md rc rs tgt n ls st h Q) (kf : ¬ x < 0 → J M md rc rs (pc + 3) n ls st h Q) : J M md rc rs pc n ls (xI x :: st) h Q := by
  intro hl hs hr hg D cI cZ base ad p l e R s m args below meth c hC H locs cells slots Z lsm hRel hS hls hc hE
  have hx : xok x := xs0 hs
  have kt := fun q => kt q hl (xs2 hs) hr hg D cI cZ base ad p l e R s m args below meth c hC H locs cells slots Z lsm hRel hS hls hc hE
  have kf := fun q => kf q hl (xs2 hs) hr hg D cI cZ base ad p l e R s m args below meth c hC H locs cells slots Z lsm hRel hS hls hc hE
  exact J_bz_lt hx hC.1 hC.2.1 hd ht kt kf
theorem J_if_ge {x off : Int} {tgt : Nat} (hd : decode M.2.1 pc = .ok (.ifCond .ge off, 3)) (ht : (pc : Int) + off = (tgt : Int)) (kt : x < 0 → J M md rc rs (pc + 3) n ls st h Q) (kf : ¬ x < 0 → J M md rc rs tgt n ls st h Q) : J M md rc rs pc n ls (xI x :: st) h Q := by
  intro hl hs hr hg D cI cZ base ad p l e R s m args below meth c hC H locs cells slots Z lsm hRel hS hls hc hE
  have hx : xok x := xs0 hs
  have kt := fun q => kt q hl (xs2 hs) hr hg D cI cZ base ad p l e R s m args below meth c hC H locs cells slots Z lsm hRel hS hls hc hE
  have kf := fun q => kf q hl (xs2 hs) hr hg D cI cZ base ad p l e R s m args below meth c hC H locs cells slots Z lsm hRel hS hls hc hE
  exact J_bz_ge hx hC.1 hC.2.1 hd ht kt kf
theorem J_if_gt {x off : Int} {tgt : Nat} (hd : decode M.2.1 pc = .ok (.ifCond .gt off, 3)) (ht : (pc : Int) + off = (tgt : Int)) (kt : 0 < x → J M md rc rs tgt n ls st h Q) (kf : ¬ 0 < x → J M md rc rs (pc + 3) n ls st h Q) : J M md rc rs pc n ls (xI x :: st) h Q := by
  intro hl hs hr hg D cI cZ base ad p l e R s m args below meth c hC H locs cells slots Z lsm hRel hS hls hc hE
  have hx : xok x := xs0 hs
  have kt := fun q => kt q hl (xs2 hs) hr hg D cI cZ base ad p l e R s m args below meth c hC H locs cells slots Z lsm hRel hS hls hc hE
  have kf := fun q => kf q hl (xs2 hs) hr hg D cI cZ base ad p l e R s m args below meth c hC H locs cells slots Z lsm hRel hS hls hc hE
  exact J_bz_gt hx hC.1 hC.2.1 hd ht kt kf
theorem J_if_le {x off : Int} {tgt : Nat} (hd : decode M.2.1 pc = .ok (.ifCond .le off, 3)) (ht : (pc : Int) + off = (tgt : Int)) (kt : 0 < x → J M md rc rs (pc + 3) n ls st h Q) (kf : ¬ 0 < x → J M md rc rs tgt n ls st h Q) : J M md rc rs pc n ls (xI x :: st) h Q := by
  intro hl hs hr hg D cI cZ base ad p l e R s m args below meth c hC H locs cells slots Z lsm hRel hS hls hc hE
  have hx : xok x := xs0 hs
  have kt := fun q => kt q hl (xs2 hs) hr hg D cI cZ base ad p l e R s m args below meth c hC H locs cells slots Z lsm hRel hS hls hc hE
  have kf := fun q => kf q hl (xs2 hs) hr hg D cI cZ base ad p l e R s m args below meth c hC H locs cells slots Z lsm hRel hS hls hc hE
  exact J_bz_le hx hC.1 hC.2.1 hd ht kt kf
end
end
section
/-! ROWS OF THE QUIET MACHINE: places, ends, switches -/
def xkeep (i : Nat) (q : Nat × xV) : Bool := !(q.1 == i) && !(q.1 + 1 == i && xcat q.2 == 2)
def xkeepL (i : Nat) (q : Nat × xV) : Bool := !(q.1 == i) && (!(q.1 == i + 1) && !(q.1 + 1 == i && xcat q.2 == 2))
theorem xst_map (ad : Int → Nat) (i : Nat) (w : Value) (v : xV) (hw : w = xcv ad v) (ls : List (Nat × xV)) : (i, w) :: (ls.map fun q => (q.1, xcv ad q.2)).filter (fun q => !(q.1 == i) && !(q.1 + 1 == i && q.2.category == 2)) = ((i, v) :: ls.filter (xkeep i)).map fun q => (q.1, xcv ad q.2) := by
  rw [List.map_cons, List.filter_map, hw]
  congr 2
  refine List.filter_congr fun q _ => ?_
  simp only [Function.comp, xcat_cv, xkeep]
theorem xst_mapL (ad : Int → Nat) (i : Nat) (x : Int64) (ls : List (Nat × xV)) : (i, Value.long x) :: (ls.map fun q => (q.1, xcv ad q.2)).filter (fun q => !(q.1 == i) && (!(q.1 == i + 1) && !(q.1 + 1 == i && q.2.category == 2))) = ((i, xL x) :: ls.filter (xkeepL i)).map fun q => (q.1, xcv ad q.2) := by
  rw [List.map_cons, List.filter_map]
  congr 2
  refine List.filter_congr fun q _ => ?_
  simp only [Function.comp, xcat_cv, xkeepL]
theorem xls1 {f : Nat × xV → Bool} {i : Nat} {v : xV} {ls : List (Nat × xV)} (hv : xvok v) (h : ∀ q ∈ ls, xvok q.2) : ∀ q ∈ (i, v) :: ls.filter f, xvok q.2 := fun q hq => by
  rcases List.mem_cons.mp hq with rfl | hq
  · exact hv
  · exact h q (List.mem_filter.mp hq).1
theorem xlk {ls : List (Nat × xV)} {k i : Nat} {v : xV} (ad : Int → Nat) (hl : ls[k]? = some (i, v)) : (ls.map fun q => (q.1, xcv ad q.2))[k]? = some (i, xcv ad v) := by
  rw [List.getElem?_map, hl]; rfl
theorem xlok {ls : List (Nat × xV)} {k i : Nat} {v : xV} (h : ∀ q ∈ ls, xvok q.2) (hl : ls[k]? = some (i, v)) : xvok v := h _ (List.mem_of_getElem? hl)
def xlushr (x : Int64) (y : Int) : Int64 := (x.toUInt64 >>> ((Int32.ofInt y).toInt64.toUInt64 &&& Int64.toUInt64 63)).toInt64
def xlshl (x : Int64) (y : Int) : Int64 := x <<< ((Int32.ofInt y).toInt64 &&& 63)
def xlshr (x : Int64) (y : Int) : Int64 := x >>> ((Int32.ofInt y).toInt64 &&& 63)
section
variable {M : xM} {md : Bool} {rc rs pc n : Nat} {ls ls' : List (Nat × xV)} {st : List xV} {h : xH} {Q : xQ}
theorem J_iload {i : Nat} {x : Int} (k0 : Nat) (hd : decode M.2.1 pc = .ok (.iload i, 2)) (hl : ls[k0]? = some (i, xI x)) (k : J M md rc rs (pc + 2) n ls (xI x :: st) h Q) : J M md rc rs pc n ls st h Q := by
  intro hl_ hs hr hg D cI cZ base ad p l e R s m args below meth c hC H locs cells slots Z lsm hRel hS hls hc hE
  exact lv_iload hC.1 hC.2.1 hd (lv_at hls k0 (xlk ad hl)) (k hl_ (xs1 (xlok hl_ hl) hs) hr hg D cI cZ base ad p l e R s m args below meth c hC H locs cells slots Z lsm hRel hS hls hc hE)
theorem J_iload_n {i : Nat} {kf : Fin 4} {x : Int} (k0 : Nat) (hd : decode M.2.1 pc = .ok (.iload_n kf, 1)) (hi : (kf : Nat) = i) (hl : ls[k0]? = some (i, xI x)) (k : J M md rc rs (pc + 1) n ls (xI x :: st) h Q) : J M md rc rs pc n ls st h Q := by
  intro hl_ hs hr hg D cI cZ base ad p l e R s m args below meth c hC H locs cells slots Z lsm hRel hS hls hc hE
  exact lv_iload_n hC.1 hC.2.1 hd hi (lv_at hls k0 (xlk ad hl)) (k hl_ (xs1 (xlok hl_ hl) hs) hr hg D cI cZ base ad p l e R s m args below meth c hC H locs cells slots Z lsm hRel hS hls hc hE)
theorem J_aload {i : Nat} {x : Int} (k0 : Nat) (hd : decode M.2.1 pc = .ok (.aload i, 2)) (hl : ls[k0]? = some (i, xR x)) (k : J M md rc rs (pc + 2) n ls (xR x :: st) h Q) : J M md rc rs pc n ls st h Q := by
  intro hl_ hs hr hg D cI cZ base ad p l e R s m args below meth c hC H locs cells slots Z lsm hRel hS hls hc hE
  exact lv_aload hC.1 hC.2.1 hd (lv_at hls k0 (xlk ad hl)) (k hl_ (xs1 (xlok hl_ hl) hs) hr hg D cI cZ base ad p l e R s m args below meth c hC H locs cells slots Z lsm hRel hS hls hc hE)
theorem J_aload_n {i : Nat} {kf : Fin 4} {x : Int} (k0 : Nat) (hd : decode M.2.1 pc = .ok (.aload_n kf, 1)) (hi : (kf : Nat) = i) (hl : ls[k0]? = some (i, xR x)) (k : J M md rc rs (pc + 1) n ls (xR x :: st) h Q) : J M md rc rs pc n ls st h Q := by
  intro hl_ hs hr hg D cI cZ base ad p l e R s m args below meth c hC H locs cells slots Z lsm hRel hS hls hc hE
  exact lv_aload_n hC.1 hC.2.1 hd hi (lv_at hls k0 (xlk ad hl)) (k hl_ (xs1 (xlok hl_ hl) hs) hr hg D cI cZ base ad p l e R s m args below meth c hC H locs cells slots Z lsm hRel hS hls hc hE)
theorem J_lload {i : Nat} {x : Int64} (k0 : Nat) (hd : decode M.2.1 pc = .ok (.lload i, 2)) (hl : ls[k0]? = some (i, xL x)) (k : J M md rc rs (pc + 2) n ls (xL x :: st) h Q) : J M md rc rs pc n ls st h Q := by
  intro hl_ hs hr hg D cI cZ base ad p l e R s m args below meth c hC H locs cells slots Z lsm hRel hS hls hc hE
  exact lv_lload hC.1 hC.2.1 hd (lv_at hls k0 (xlk ad hl)) (k hl_ (xs1 (xlok hl_ hl) hs) hr hg D cI cZ base ad p l e R s m args below meth c hC H locs cells slots Z lsm hRel hS hls hc hE)
theorem J_lload_n {i : Nat} {kf : Fin 4} {x : Int64} (k0 : Nat) (hd : decode M.2.1 pc = .ok (.lload_n kf, 1)) (hi : (kf : Nat) = i) (hl : ls[k0]? = some (i, xL x)) (k : J M md rc rs (pc + 1) n ls (xL x :: st) h Q) : J M md rc rs pc n ls st h Q := by
  intro hl_ hs hr hg D cI cZ base ad p l e R s m args below meth c hC H locs cells slots Z lsm hRel hS hls hc hE
  exact lv_lload_n hC.1 hC.2.1 hd hi (lv_at hls k0 (xlk ad hl)) (k hl_ (xs1 (xlok hl_ hl) hs) hr hg D cI cZ base ad p l e R s m args below meth c hC H locs cells slots Z lsm hRel hS hls hc hE)
theorem J_istore {i : Nat} {x y : Int} (hd : decode M.2.1 pc = .ok (.istore i, 2)) (hn : i < M.2.2.1) (hy : y = x) (hl : (i, xI y) :: ls.filter (xkeep i) = ls') (k : J M md rc rs (pc + 2) n ls' st h Q) : J M md rc rs pc n ls (xI x :: st) h Q := by
  intro hl_ hs hr hg D cI cZ base ad p l e R s m args below meth c hC H locs cells slots Z lsm hRel hS hls hc hE
  subst hy
  subst hl
  exact lv_istore hC.1 hC.2.1 hd hls hn (xst_map ad i _ (xI y) rfl ls) (fun ls2 hls2 => k (xls1 (xs0 hs) hl_) (xs2 hs) hr hg D cI cZ base ad p l e R s m args below meth c hC H locs cells slots Z ls2 hRel hS hls2 hc hE)
theorem J_istore_n {i : Nat} {kf : Fin 4} {x y : Int} (hd : decode M.2.1 pc = .ok (.istore_n kf, 1)) (hi : (kf : Nat) = i) (hn : i < M.2.2.1) (hy : y = x) (hl : (i, xI y) :: ls.filter (xkeep i) = ls') (k : J M md rc rs (pc + 1) n ls' st h Q) : J M md rc rs pc n ls (xI x :: st) h Q := by
  intro hl_ hs hr hg D cI cZ base ad p l e R s m args below meth c hC H locs cells slots Z lsm hRel hS hls hc hE
  subst hy
  subst hl
  exact lv_istore_n hC.1 hC.2.1 hd hi hls hn (xst_map ad i _ (xI y) rfl ls) (fun ls2 hls2 => k (xls1 (xs0 hs) hl_) (xs2 hs) hr hg D cI cZ base ad p l e R s m args below meth c hC H locs cells slots Z ls2 hRel hS hls2 hc hE)
theorem J_astore {i : Nat} {x y : Int} (hd : decode M.2.1 pc = .ok (.astore i, 2)) (hn : i < M.2.2.1) (hy : y = x) (hl : (i, xR y) :: ls.filter (xkeep i) = ls') (k : J M md rc rs (pc + 2) n ls' st h Q) : J M md rc rs pc n ls (xR x :: st) h Q := by
  intro hl_ hs hr hg D cI cZ base ad p l e R s m args below meth c hC H locs cells slots Z lsm hRel hS hls hc hE
  subst hy
  subst hl
  exact lv_astore hC.1 hC.2.1 hd hls hn (xst_map ad i _ (xR y) rfl ls) (fun ls2 hls2 => k (xls1 (xs0 hs) hl_) (xs2 hs) hr hg D cI cZ base ad p l e R s m args below meth c hC H locs cells slots Z ls2 hRel hS hls2 hc hE)
theorem J_astore_n {i : Nat} {kf : Fin 4} {x y : Int} (hd : decode M.2.1 pc = .ok (.astore_n kf, 1)) (hi : (kf : Nat) = i) (hn : i < M.2.2.1) (hy : y = x) (hl : (i, xR y) :: ls.filter (xkeep i) = ls') (k : J M md rc rs (pc + 1) n ls' st h Q) : J M md rc rs pc n ls (xR x :: st) h Q := by
  intro hl_ hs hr hg D cI cZ base ad p l e R s m args below meth c hC H locs cells slots Z lsm hRel hS hls hc hE
  subst hy
  subst hl
  exact lv_astore_n hC.1 hC.2.1 hd hi hls hn (xst_map ad i _ (xR y) rfl ls) (fun ls2 hls2 => k (xls1 (xs0 hs) hl_) (xs2 hs) hr hg D cI cZ base ad p l e R s m args below meth c hC H locs cells slots Z ls2 hRel hS hls2 hc hE)
theorem J_lstore {i : Nat} {x y : Int64} (hd : decode M.2.1 pc = .ok (.lstore i, 2)) (hn : i + 1 < M.2.2.1) (hy : y = x) (hl : (i, xL y) :: ls.filter (xkeepL i) = ls') (k : J M md rc rs (pc + 2) n ls' st h Q) : J M md rc rs pc n ls (xL x :: st) h Q := by
  intro hl_ hs hr hg D cI cZ base ad p l e R s m args below meth c hC H locs cells slots Z lsm hRel hS hls hc hE
  subst hy
  subst hl
  exact lv_lstore hC.1 hC.2.1 hd hls hn (xst_mapL ad i _ ls) (fun ls2 hls2 => k (xls1 (xs0 hs) hl_) (xs2 hs) hr hg D cI cZ base ad p l e R s m args below meth c hC H locs cells slots Z ls2 hRel hS hls2 hc hE)
theorem J_lstore_n {i : Nat} {kf : Fin 4} {x y : Int64} (hd : decode M.2.1 pc = .ok (.lstore_n kf, 1)) (hi : (kf : Nat) = i) (hn : i + 1 < M.2.2.1) (hy : y = x) (hl : (i, xL y) :: ls.filter (xkeepL i) = ls') (k : J M md rc rs (pc + 1) n ls' st h Q) : J M md rc rs pc n ls (xL x :: st) h Q := by
  intro hl_ hs hr hg D cI cZ base ad p l e R s m args below meth c hC H locs cells slots Z lsm hRel hS hls hc hE
  subst hy
  subst hl
  exact lv_lstore_n hC.1 hC.2.1 hd hi hls hn (xst_mapL ad i _ ls) (fun ls2 hls2 => k (xls1 (xs0 hs) hl_) (xs2 hs) hr hg D cI cZ base ad p l e R s m args below meth c hC H locs cells slots Z ls2 hRel hS hls2 hc hE)
theorem J_iinc {i : Nat} {d x y : Int} (k0 : Nat) (hd : decode M.2.1 pc = .ok (.iinc i d, 3)) (hl0 : ls[k0]? = some (i, xI x)) (hn : i < M.2.2.1) (hy : y = w32 (x + d)) (hl : (i, xI y) :: ls.filter (xkeep i) = ls') (k : J M md rc rs (pc + 3) n ls' st h Q) : J M md rc rs pc n ls st h Q := by
  intro hl_ hs hr hg D cI cZ base ad p l e R s m args below meth c hC H locs cells slots Z lsm hRel hS hls hc hE
  subst hy
  subst hl
  exact lv_iinc hC.1 hC.2.1 hd hls (xlk ad hl0) rfl hn (xst_map ad i _ (xI (w32 (x + d))) (by show Value.int _ = Value.int _; rw [w32_of, Int32.ofInt_add]) ls) (fun ls2 hls2 => k (xls1 (w32_ok _) hl_) hs hr hg D cI cZ base ad p l e R s m args below meth c hC H locs cells slots Z ls2 hRel hS hls2 hc hE)
/-- fewer places -/
theorem J_sub (is : List Nat) (hl : is.filterMap (fun i => ls[i]?) = ls') (k : J M md rc rs pc n ls' st h Q) : J M md rc rs pc n ls st h Q := by
  intro hl_ hs hr hg D cI cZ base ad p l e R s m args below meth c hC H locs cells slots Z lsm hRel hS hls hc hE
  subst hl
  refine k (fun q hq => ?_) hs hr hg D cI cZ base ad p l e R s m args below meth c hC H locs cells slots Z lsm hRel hS (lv_sub hls is ?_) hc hE
  · obtain ⟨i, -, hi⟩ := List.mem_filterMap.mp hq
    exact hl_ q (List.mem_of_getElem? hi)
  · unfold lv_pick
    rw [List.map_filterMap]
    simp only [List.getElem?_map]
/-- the same under other names -/
theorem J_cong {ls2 : List (Nat × xV)} {st2 : List xV} (e1 : ls = ls2) (e2 : st = st2) (k : J M md rc rs pc n ls2 st2 h Q) : J M md rc rs pc n ls st h Q := by
  subst e1; subst e2; exact k
theorem J_tswIn {dflt lo hi off : Int} {offs : Array Int} {len tgt : Nat} {x : Int} (hd : decode M.2.1 pc = .ok (.tableswitch dflt lo hi offs, len)) (v : Int) (hx : x = v) (h1 : lo ≤ v) (h2 : v ≤ hi) (ho : offs[(v - lo).toNat]? = some off) (ht : (pc : Int) + off = (tgt : Int)) (k : J M md rc rs tgt n ls st h Q) : J M md rc rs pc n ls (xI x :: st) h Q := by
  intro hl hs hr hg D cI cZ base ad p l e R s m args below meth c hC H locs cells slots Z lsm hRel hS hls hc hE
  have ex : (Int32.ofInt x).toInt = v := by rw [xti (xs0 hs), hx]
  exact lv_tableIn hC.1 hC.2.1 hd (by rw [ex]; omega) (by rw [ex]; omega) (by rw [ex]; exact ho) ht (k hl (xs2 hs) hr hg D cI cZ base ad p l e R s m args below meth c hC H locs cells slots Z lsm hRel hS hls hc hE)
theorem J_tswOut {dflt lo hi : Int} {offs : Array Int} {len tgt : Nat} {x : Int} (hd : decode M.2.1 pc = .ok (.tableswitch dflt lo hi offs, len)) (hx : x < lo ∨ hi < x) (ht : (pc : Int) + dflt = (tgt : Int)) (k : J M md rc rs tgt n ls st h Q) : J M md rc rs pc n ls (xI x :: st) h Q := by
  intro hl hs hr hg D cI cZ base ad p l e R s m args below meth c hC H locs cells slots Z lsm hRel hS hls hc hE
  have ex : (Int32.ofInt x).toInt = x := xti (xs0 hs)
  exact lv_tableOut hC.1 hC.2.1 hd (by rw [ex]; exact hx) ht (k hl (xs2 hs) hr hg D cI cZ base ad p l e R s m args below meth c hC H locs cells slots Z lsm hRel hS hls hc hE)
theorem J_iret {v : Int} (hd : decode M.2.1 pc = .ok (.ireturn, 1)) (ho : xrok M.2.2.2.1 (some v)) (hq : Q (some v) n h) : J M md 0 0 pc n ls [xI v] h Q := by
  intro hl hs hr hg D cI cZ base ad p l e R s m args below meth c hC H locs cells slots Z lsm hRel hS hls hc hE
  have e1 : cells = R.cells := hc.1
  have e2 : slots = R.slots := hc.2
  subst e1
  subst e2
  exact hE (some v) n h H locs pc lsm hq ho hr hg hRel hS hd
theorem J_ret (hd : decode M.2.1 pc = .ok (.return_, 1)) (ho : xrok M.2.2.2.1 none) (hq : Q none n h) : J M md 0 0 pc n ls [] h Q := by
  intro hl hs hr hg D cI cZ base ad p l e R s m args below meth c hC H locs cells slots Z lsm hRel hS hls hc hE
  have e1 : cells = R.cells := hc.1
  have e2 : slots = R.slots := hc.2
  subst e1
  subst e2
  exact hE none n h H locs pc lsm hq ho hr hg hRel hS hd
/-- longs -/
theorem J_ladd {x y : Int64} (hd : decode M.2.1 pc = .ok (.ladd, 1)) (k : J M md rc rs (pc + 1) n ls (xL (x + y) :: st) h Q) : J M md rc rs pc n ls (xL y :: xL x :: st) h Q :=
  J_op (fun _ => fun {_ _ _ _ _ _ _ _ _ _ _ _ _ _ _ _ _} hx hb _ _ k => lv_ladd hx hb hd k) (fun hs => xsL (xs2 (xs2 hs))) k
theorem J_lsub {x y : Int64} (hd : decode M.2.1 pc = .ok (.lsub, 1)) (k : J M md rc rs (pc + 1) n ls (xL (x - y) :: st) h Q) : J M md rc rs pc n ls (xL y :: xL x :: st) h Q :=
  J_op (fun _ => fun {_ _ _ _ _ _ _ _ _ _ _ _ _ _ _ _ _} hx hb _ _ k => lv_lsub hx hb hd k) (fun hs => xsL (xs2 (xs2 hs))) k
theorem J_lmul {x y : Int64} (hd : decode M.2.1 pc = .ok (.lmul, 1)) (k : J M md rc rs (pc + 1) n ls (xL (x * y) :: st) h Q) : J M md rc rs pc n ls (xL y :: xL x :: st) h Q :=
  J_op (fun _ => fun {_ _ _ _ _ _ _ _ _ _ _ _ _ _ _ _ _} hx hb _ _ k => lv_lmul hx hb hd k) (fun hs => xsL (xs2 (xs2 hs))) k
theorem J_land {x y : Int64} (hd : decode M.2.1 pc = .ok (.land, 1)) (k : J M md rc rs (pc + 1) n ls (xL (x &&& y) :: st) h Q) : J M md rc rs pc n ls (xL y :: xL x :: st) h Q :=
  J_op (fun _ => fun {_ _ _ _ _ _ _ _ _ _ _ _ _ _ _ _ _} hx hb _ _ k => lv_land hx hb hd k) (fun hs => xsL (xs2 (xs2 hs))) k
theorem J_lor {x y : Int64} (hd : decode M.2.1 pc = .ok (.lor, 1)) (k : J M md rc rs (pc + 1) n ls (xL (x ||| y) :: st) h Q) : J M md rc rs pc n ls (xL y :: xL x :: st) h Q :=
  J_op (fun _ => fun {_ _ _ _ _ _ _ _ _ _ _ _ _ _ _ _ _} hx hb _ _ k => lv_lor hx hb hd k) (fun hs => xsL (xs2 (xs2 hs))) k
theorem J_ldiv {x y : Int64} (hd : decode M.2.1 pc = .ok (.ldiv, 1)) (hy : ¬ y = 0) (k : J M md rc rs (pc + 1) n ls (xL (x / y) :: st) h Q) : J M md rc rs pc n ls (xL y :: xL x :: st) h Q :=
  J_op (fun _ => fun {_ _ _ _ _ _ _ _ _ _ _ _ _ _ _ _ _} hx hb _ _ k => lv_ldiv hx hb hd hy k) (fun hs => xsL (xs2 (xs2 hs))) k
theorem J_lrem {x y : Int64} (hd : decode M.2.1 pc = .ok (.lrem, 1)) (hy : ¬ y = 0) (k : J M md rc rs (pc + 1) n ls (xL (x - x / y * y) :: st) h Q) : J M md rc rs pc n ls (xL y :: xL x :: st) h Q :=
  J_op (fun _ => fun {_ _ _ _ _ _ _ _ _ _ _ _ _ _ _ _ _} hx hb _ _ k => lv_lrem hx hb hd hy k) (fun hs => xsL (xs2 (xs2 hs))) k
theorem J_lushr {x : Int64} {y : Int} (hd : decode M.2.1 pc = .ok (.lushr, 1)) (k : J M md rc rs (pc + 1) n ls (xL (xlushr x y) :: st) h Q) : J M md rc rs pc n ls (xI y :: xL x :: st) h Q :=
  J_op (fun _ => fun {_ _ _ _ _ _ _ _ _ _ _ _ _ _ _ _ _} hx hb _ _ k => lv_lushr hx hb hd rfl k) (fun hs => xsL (xs2 (xs2 hs))) k
theorem J_lshl {x : Int64} {y : Int} (hd : decode M.2.1 pc = .ok (.lshl, 1)) (k : J M md rc rs (pc + 1) n ls (xL (xlshl x y) :: st) h Q) : J M md rc rs pc n ls (xI y :: xL x :: st) h Q :=
  J_op (fun _ => fun {_ _ _ _ _ _ _ _ _ _ _ _ _ _ _ _ _} hx hb _ _ k => lv_lshl hx hb hd rfl k) (fun hs => xsL (xs2 (xs2 hs))) k
theorem J_lshr {x : Int64} {y : Int} (hd : decode M.2.1 pc = .ok (.lshr, 1)) (k : J M md rc rs (pc + 1) n ls (xL (xlshr x y) :: st) h Q) : J M md rc rs pc n ls (xI y :: xL x :: st) h Q :=
  J_op (fun _ => fun {_ _ _ _ _ _ _ _ _ _ _ _ _ _ _ _ _} hx hb _ _ k => lv_lshr hx hb hd rfl k) (fun hs => xsL (xs2 (xs2 hs))) k
end
end
section
/-! ROWS OF THE QUIET MACHINE: the heap -/
/-- a class as the tables have it -/
def xCF (ci : Nat) (C : String) (T : u_T) (N : Nat) (ty : Nat → FieldType) : Prop := vwCl[ci]? = some (C, T, N) ∧ (∀ w ∈ u_ws C T N, w ∈ xtbl) ∧ N = xNf ci ∧ (∀ k, k < N → (T k).1 = C) ∧ (∀ k, k < N → parseFieldDescriptor (T k).2.2.1 = some (ty k)) ∧ (∀ a, a < N → ∀ b, b < N → a ≠ b → (T a).2.1 ≠ (T b).2.1)
def xLk (own : String) (idx : Nat) (C nm d : String) : Prop := Cond.fieldLink own idx C nm d ∈ xtbl ∨ ∃ host, Cond.fieldLinkNest own idx C nm d host ∈ xnst
theorem xK_rng {o : Int} (h : xK o ≠ 0) : 1 ≤ o ∧ o ≤ (xKn : Int) := by
  have key : ∀ k : Nat, k < xTab.length → (xTab.getD k (0, 0)).1 ≠ 0 → 1 ≤ k ∧ k ≤ xKn := by decide +kernel
  unfold xK at h
  by_cases hk : o.toNat < xTab.length
  · have := key _ hk h
    omega
  · exact absurd (by simp [List.getD, List.getElem?_eq_none (Nat.not_lt.mp hk)]) h
theorem xRf_I {o : Int} {ci j : Nat} (hk : xK o = 3 + ci) (hz : xIsR ci j = false) : xRf o j = 0 := by
  have key : ∀ k : Nat, k < xRT.length → ∀ j : Nat, j < 90 → 3 ≤ (xTab.getD k (0, 0)).1 → xIsR ((xTab.getD k (0, 0)).1 - 3) j = false → (xRT.getD k []).getD j 0 = 0 := by decide +kernel
  have klen : ∀ l ∈ xRT, l.length ≤ 90 := by decide +kernel
  unfold xRf
  rw [if_neg (by omega)]
  have hj : (j : Int).toNat = j := by omega
  rw [hj]
  by_cases hl : o.toNat < xRT.length
  · by_cases hj : j < 90
    · unfold xK at hk
      exact key _ hl j hj (by omega) (by rw [hk, Nat.add_sub_cancel_left]; exact hz)
    · have h1 : (xRT.getD o.toNat []).length ≤ 90 := klen _ (by simp only [List.getD, List.getElem?_eq_getElem hl, Option.getD_some]; exact List.getElem_mem hl)
      simp only [List.getD, List.getElem?_eq_none (show (xRT[o.toNat]?.getD []).length ≤ j by simp only [List.getD] at h1; omega), Option.getD_none]
  · simp [List.getD, List.getElem?_eq_none (Nat.not_lt.mp hl)]
theorem xC_obj {cI cZ : ClassId} {ad : Int → Nat} {h : xH} {o : Int} {ci : Nat} (hk : xK o = 3 + ci) : xC cI cZ ad h o = .inr (ci, xflds ad h ci o) := by
  unfold xC
  rw [if_neg (by omega), if_neg (by omega), hk, Nat.add_sub_cancel_left]
theorem xC_int {cI cZ : ClassId} {ad : Int → Nat} {h : xH} {o : Int} (hk : xK o = 1) : xC cI cZ ad h o = .inl (cI, xN o, .inl (fun j => Int32.ofInt (h o j))) := by
  unfold xC
  rw [if_pos hk]
theorem xC_boo {cI cZ : ClassId} {ad : Int → Nat} {h : xH} {o : Int} (hk : xK o = 2) : xC cI cZ ad h o = .inl (cZ, xN o, .inl (fun j => Int32.ofInt (h o j))) := by
  unfold xC
  rw [if_neg (by omega), if_pos hk]
theorem xD_of {cI cZ : ClassId} {ad : Int → Nat} {base n : Nat} {h : xH} (hA : ∀ k : Nat, ad ((k : Int) + 1) = base + k) : va_D (fun q => base ≤ q) (xws cI cZ ad h n) := by
  refine ⟨fun i j p q hi hj e => ?_, fun k q hq => ?_⟩
  · unfold xws at hi hj
    rw [List.getElem?_map, Option.map_eq_some_iff] at hi hj
    obtain ⟨a, ha, rfl⟩ := hi
    obtain ⟨b, hb, rfl⟩ := hj
    have ha2 := List.getElem?_eq_some_iff.mp ha
    have hb2 := List.getElem?_eq_some_iff.mp hb
    obtain ⟨ha3, ha4⟩ := ha2
    obtain ⟨hb3, hb4⟩ := hb2
    rw [List.getElem_range] at ha4 hb4
    have e2 : ad ((a : Int) + 1) = ad ((b : Int) + 1) := e
    rw [hA, hA] at e2
    omega
  · unfold xws at hq
    rw [List.getElem?_map, Option.map_eq_some_iff] at hq
    obtain ⟨a, ha, rfl⟩ := hq
    show base ≤ ad ((a : Int) + 1)
    rw [hA]
    omega
theorem xup_zero {h : xH} {n : Nat} {o j v : Int} (ho : o ≤ n) (hz : ∀ o j, (n : Int) < o → h o j = 0) : ∀ o2 j2, (n : Int) < o2 → xup h o j v o2 j2 = 0 := by
  intro a b hab
  unfold xup
  rw [if_neg (by omega)]
  exact hz a b hab
theorem xcp_zero {h : xH} {n : Nat} {s sp d dp m : Int} (ho : d ≤ n) (hz : ∀ o j, (n : Int) < o → h o j = 0) : ∀ o2 j2, (n : Int) < o2 → xcp h s sp d dp m o2 j2 = 0 := by
  intro a b hab
  unfold xcp
  rw [if_neg (by omega)]
  exact hz a b hab
theorem xG_up {md : Bool} {n : Nat} {h : xH} {o j v : Int} (hg : xG md n h) (hn : xRf o j = 0) : xG md n (xup h o j v) := fun e => ⟨(hg e).1, xRef_up (hg e).2 hn⟩
theorem xG_cp {md : Bool} {n : Nat} {h : xH} {s sp d dp m : Int} (hg : xG md n h) (hk : xK d < 3) : xG md n (xcp h s sp d dp m) := fun e => ⟨(hg e).1, xRef_cp (hg e).2 hk⟩
theorem xup_o {h : xH} {o j v : Int} : ∀ o', o' ≠ o → ∀ j', xup h o j v o' j' = h o' j' := by
  intro o' h1 j'
  unfold xup
  rw [if_neg (fun q => h1 q.1)]
theorem xcp_o {h : xH} {s sp d dp m : Int} : ∀ o', o' ≠ d → ∀ j', xcp h s sp d dp m o' j' = h o' j' := by
  intro o' h1 j'
  unfold xcp
  rw [if_neg (fun q => h1 q.1)]
section
variable {M : xM} {md : Bool} {rc rs pc n : Nat} {ls ls' : List (Nat × xV)} {st : List xV} {h : xH} {Q : xQ}
theorem J_lcmp {x y : Int64} (hd : decode M.2.1 pc = .ok (.lcmp, 1)) (k : J M md rc rs (pc + 1) n ls (xI (lg_cmp x y).toInt :: st) h Q) : J M md rc rs pc n ls (xL y :: xL x :: st) h Q :=
  J_op (fun _ => fun {_ _ _ _ _ _ _ _ _ _ _ _ _ _ _ _ _} hx hb _ _ k => W.lcmp hx hb hd (by rw [← xoi (lg_cmp x y)]; exact k)) (fun hs => xsI (xokt _) (xs2 (xs2 hs))) k
/-- a number of an object -/
theorem J_getI {o : Int} {ci j N idx : Nat} {C : String} {T : u_T} {ty : Nat → FieldType} (hF : xCF ci C T N ty) (hd : decode M.2.1 pc = .ok (.getfield idx, 3)) (ho : 1 ≤ o ∧ o ≤ (n : Int)) (hk : xK o = 3 + ci) (hw : xLk M.1 idx C (T j).2.1 (T j).2.2.1) (hj : j < N) (hz : xIsR ci j = false) (k : J M md rc rs (pc + 3) n ls (xI (h o j) :: st) h Q) : J M md rc rs pc n ls (xR o :: st) h Q := by
  intro hl hs hr hg D cI cZ base ad p l e R s m args below meth c hC H locs cells slots Z lsm hRel hS hls hc hE
  obtain ⟨f1, f2, f3, f4, -, -⟩ := hF
  have kk := k hl (xsI (hr o j) (xs2 hs)) hr hg D cI cZ base ad p l e R s m args below meth c hC H locs cells slots Z lsm hRel hS hls hc hE
  have he : (xws cI cZ ad h n)[o.toNat - 1]? = some (ad o, .inr (ci, xflds ad h ci o)) := by rw [xws_at ho.1 ho.2, xC_obj hk]
  have hv : (xflds ad h ci o)[j]? = some (.int (Int32.ofInt (h o j))) := by rw [xflds_at (by omega)]; unfold xfv; rw [if_neg (by rw [hz]; decide)]
  rcases hw with hw | ⟨host, hw⟩
  · exact va_get hC.1 hC.2.1 hC.2.2.2.2.1 f2 hC.2.2.2.1 hC.2.2.2.2.2.2.2.1 hRel.1 _ he f1 j hj (hC.2.2.2.2.1 _ hw) (fun x q => by rw [f4 j hj] at q; exact q) hv hd kk
  · exact va_getN hC.1 hC.2.1 hC.2.2.2.2.1 f2 hC.2.2.2.1 hC.2.2.2.2.2.2.2.1 hRel.1 _ he f1 j hj (va_Nw.use rfl (hC.2.2.2.2.2.2.2.2.2.2 _ hw)) (fun x q => by rw [f4 j hj] at q; exact q) hv hd kk
/-- a cell of an object -/
theorem J_getR {o v : Int} {ci j N idx : Nat} {C : String} {T : u_T} {ty : Nat → FieldType} (hF : xCF ci C T N ty) (hd : decode M.2.1 pc = .ok (.getfield idx, 3)) (ho : 1 ≤ o ∧ o ≤ (n : Int)) (hk : xK o = 3 + ci) (hw : xLk M.1 idx C (T j).2.1 (T j).2.2.1) (hj : j < N) (hz : xIsR ci j = true) (hv : xG md n h → h o j = v ∧ v ≠ 0) (k : J M md rc rs (pc + 3) n ls (xR v :: st) h Q) : J M md rc rs pc n ls (xR o :: st) h Q := by
  intro hl hs hr hg D cI cZ base ad p l e R s m args below meth c hC H locs cells slots Z lsm hRel hS hls hc hE
  obtain ⟨f1, f2, f3, f4, -, -⟩ := hF
  obtain ⟨v1, v2⟩ := hv hg
  have kk := k hl (xsR (xs2 hs)) hr hg D cI cZ base ad p l e R s m args below meth c hC H locs cells slots Z lsm hRel hS hls hc hE
  have he : (xws cI cZ ad h n)[o.toNat - 1]? = some (ad o, .inr (ci, xflds ad h ci o)) := by rw [xws_at ho.1 ho.2, xC_obj hk]
  have hv : (xflds ad h ci o)[j]? = some (.ref (ad v)) := by rw [xflds_at (by omega)]; unfold xfv; rw [if_pos hz, v1, if_neg v2]
  rcases hw with hw | ⟨host, hw⟩
  · exact va_get hC.1 hC.2.1 hC.2.2.2.2.1 f2 hC.2.2.2.1 hC.2.2.2.2.2.2.2.1 hRel.1 _ he f1 j hj (hC.2.2.2.2.1 _ hw) (fun x q => by rw [f4 j hj] at q; exact q) hv hd kk
  · exact va_getN hC.1 hC.2.1 hC.2.2.2.2.1 f2 hC.2.2.2.1 hC.2.2.2.2.2.2.2.1 hRel.1 _ he f1 j hj (va_Nw.use rfl (hC.2.2.2.2.2.2.2.2.2.2 _ hw)) (fun x q => by rw [f4 j hj] at q; exact q) hv hd kk
theorem J_getRt {o : Int} {ci j N idx : Nat} {C : String} {T : u_T} {ty : Nat → FieldType} (hF : xCF ci C T N ty) (hd : decode M.2.1 pc = .ok (.getfield idx, 3)) (hk : xK o = 3 + ci) (hw : xLk M.1 idx C (T j).2.1 (T j).2.2.1) (hj : j < N) (hz : xIsR ci j = true) (hne : xRf o j ≠ 0) (k : J M true rc rs (pc + 3) xKn ls (xR (xRf o j) :: st) h Q) : J M true rc rs pc xKn ls (xR o :: st) h Q :=
  J_getR hF hd (xK_rng (by omega)) hk hw hj hz (fun g => ⟨(g rfl).2 o j hne, hne⟩) k
/-- a number is put -/
theorem J_putI {o v : Int} {ci j N idx : Nat} {C : String} {T : u_T} {ty : Nat → FieldType} (hF : xCF ci C T N ty) (hd : decode M.2.1 pc = .ok (.putfield idx, 3)) (ho : 1 ≤ o ∧ o ≤ (n : Int)) (hk : xK o = 3 + ci) (hw : xLk M.1 idx C (T j).2.1 (T j).2.2.1) (hj : j < N) (hz : xIsR ci j = false ∧ (T j).2.2.2 = false ∧ ty j = .int) {h2 : xH} (he2 : h2 = xup h o j v) (k : J M md rc rs (pc + 3) n ls st h2 Q) : J M md rc rs pc n ls (xI v :: xR o :: st) h Q := by
  subst he2
  intro hl hs hr hg D cI cZ base ad p l e R s m args below meth c hC H locs cells slots Z lsm hRel hS hls hc hE
  obtain ⟨f1, f2, f3, f4, f5, f6⟩ := hF
  have hn0 : xRf o j = 0 := xRf_I hk hz.1
  have kk := k hl (xs2 (xs2 hs)) (xup_rng hr (xs0 hs)) (xG_up hg hn0) D cI cZ base ad p l e R s m args below meth c hC
  have he : (xws cI cZ ad h n)[o.toNat - 1]? = some (ad o, .inr (ci, xflds ad h ci o)) := by rw [xws_at ho.1 ho.2, xC_obj hk]
  have hj2 : j < xNf ci := by omega
  have e2 : (xws cI cZ ad h n).set (o.toNat - 1) (ad o, .inr (ci, (xflds ad h ci o).set j (.int (Int32.ofInt v)))) = xws cI cZ ad (xup h o j v) n := by
    rw [xflds_set (h := h) (v := v) hj2 (by unfold xfv; rw [if_neg (by rw [hz.1]; decide)]; unfold xup; rw [if_pos ⟨rfl, rfl⟩]), ← xC_obj (cI := cI) (cZ := cZ) (ad := ad) (h := xup h o j v) hk]
    exact xws_set ho.1 ho.2 (fun o' h1 j' => xup_o o' h1 j')
  have fin : ∀ (H1 : Heap) (locs1 : List Loc), va_P D vwCl ((xws cI cZ ad h n).set (o.toNat - 1) (ad o, .inr (ci, (xflds ad h ci o).set j (.int (Int32.ofInt v))))) H1 → va_D (fun q => base ≤ q) ((xws cI cZ ad h n).set (o.toNat - 1) (ad o, .inr (ci, (xflds ad h ci o).set j (.int (Int32.ofInt v))))) → va_S (fun q => base ≤ q) s.heap H1 locs1 → W p l e R s m args below meth c H1 locs1 cells slots Z (F0 m (pc + 3) lsm (st.map (xcv ad))) := by
    intro H1 locs1 hP1 _ hS1
    rw [e2] at hP1
    exact kk H1 locs1 cells slots Z lsm ⟨hP1, fun q => ⟨(hRel.2 q).1, xup_zero ho.2 (hRel.2 q).2⟩⟩ hS1 hls hc hE
  have hD := xD_of (cI := cI) (cZ := cZ) (h := h) (n := n) hC.2.2.2.2.2.2.2.2.1.2.2
  have hty : parseFieldDescriptor (T j).2.2.1 = some .int := by rw [f5 j hj, hz.2.2]
  rcases hw with hw | ⟨host, hw⟩
  · exact va_put hC.1 hC.2.1 hC.2.2.2.2.1 f2 ty f5 f6 hC.2.2.2.1 hC.2.2.2.2.2.2.2.1 hRel.1 hD hS _ he f1 j hj (hC.2.2.2.2.1 _ hw) (fun x q => by rw [f4 j hj] at q; exact q) hz.2.1 hty rfl rfl (by rw [xflds_len]; exact hj2) hd fin
  · exact va_putN hC.1 hC.2.1 hC.2.2.2.2.1 f2 ty f5 f6 hC.2.2.2.1 hC.2.2.2.2.2.2.2.1 hRel.1 hD hS _ he f1 j hj (va_Nw.use rfl (hC.2.2.2.2.2.2.2.2.2.2 _ hw)) (fun x q => by rw [f4 j hj] at q; exact q) hz.2.1 hty rfl rfl (by rw [xflds_len]; exact hj2) hd fin
theorem xix {i : Int} {a : Int} (hi : xok i) (h : 0 ≤ i ∧ i < (xN a : Int)) : vp_in (Int32.ofInt i) (xN a) ∧ (((Int32.ofInt i).toNatClampNeg : Nat) : Int) = i := ⟨xin hi h.1 h.2, by rw [xcl hi]; omega⟩
theorem J_alen {a : Int} (hd : decode M.2.1 pc = .ok (.arraylength, 1)) (ho : 1 ≤ a ∧ a ≤ (n : Int)) (hk : xK a = 1 ∨ xK a = 2) {nn : Int} (hok : xok nn) (hn : (xN a : Int) = nn) (k : J M md rc rs (pc + 1) n ls (xI nn :: st) h Q) : J M md rc rs pc n ls (xR a :: st) h Q := by
  subst hn
  intro hl hs hr hg D cI cZ base ad p l e R s m args below meth c hC H locs cells slots Z lsm hRel hS hls hc hE
  have kk := k hl (xsI hok (xs2 hs)) hr hg D cI cZ base ad p l e R s m args below meth c hC H locs cells slots Z lsm hRel hS hls hc hE
  have hK := hC.2.2.2.2.2.2.2.1
  rcases hk with hk | hk
  · exact va_alen hC.1 hC.2.1 hK hRel.1 (a.toNat - 1) 0 (by rw [xws_at ho.1 ho.2, xC_int hk]) rfl (by rfl) hd kk
  · exact va_alen hC.1 hC.2.1 hK hRel.1 (a.toNat - 1) 1 (by rw [xws_at ho.1 ho.2, xC_boo hk]) rfl (by rfl) hd kk
theorem J_iald {a i : Int} (hd : decode M.2.1 pc = .ok (.iaload, 1)) (ho : 1 ≤ a ∧ a ≤ (n : Int)) (hk : xK a = 1) {nn : Int} (hi : 0 ≤ i ∧ i < nn) (hn : (xN a : Int) = nn) (k : J M md rc rs (pc + 1) n ls (xI (h a i) :: st) h Q) : J M md rc rs pc n ls (xI i :: xR a :: st) h Q := by
  subst hn
  intro hl hs hr hg D cI cZ base ad p l e R s m args below meth c hC H locs cells slots Z lsm hRel hS hls hc hE
  obtain ⟨h1, h2⟩ := xix (xs0 hs) hi
  have kk := k hl (xsI (hr a i) (xs2 (xs2 hs))) hr hg D cI cZ base ad p l e R s m args below meth c hC H locs cells slots Z lsm hRel hS hls hc hE
  refine va_iald hC.1 hC.2.1 hC.2.2.2.2.2.2.2.1 hRel.1 (a.toNat - 1) 0 (by rw [xws_at ho.1 ho.2, xC_int hk]) rfl h1 hd ?_
  simp only [h2]
  exact kk
theorem J_bald {a i : Int} (hd : decode M.2.1 pc = .ok (.baload, 1)) (ho : 1 ≤ a ∧ a ≤ (n : Int)) (hk : xK a = 2) {nn : Int} (hi : 0 ≤ i ∧ i < nn) (hn : (xN a : Int) = nn) (k : J M md rc rs (pc + 1) n ls (xI (h a i) :: st) h Q) : J M md rc rs pc n ls (xI i :: xR a :: st) h Q := by
  subst hn
  intro hl hs hr hg D cI cZ base ad p l e R s m args below meth c hC H locs cells slots Z lsm hRel hS hls hc hE
  obtain ⟨h1, h2⟩ := xix (xs0 hs) hi
  have kk := k hl (xsI (hr a i) (xs2 (xs2 hs))) hr hg D cI cZ base ad p l e R s m args below meth c hC H locs cells slots Z lsm hRel hS hls hc hE
  refine va_zald hC.1 hC.2.1 hC.2.2.2.2.2.2.2.1 hRel.1 (a.toNat - 1) 1 (by rw [xws_at ho.1 ho.2, xC_boo hk]) rfl h1 hd ?_
  simp only [h2]
  exact kk
theorem xarr_set {cA : ClassId} {h : xH} {a i v : Int} (hi : ((Int32.ofInt i).toNatClampNeg : Int) = i) : upd (fun j : Nat => Int32.ofInt (h a j)) (Int32.ofInt i).toNatClampNeg (Int32.ofInt v) = fun j : Nat => Int32.ofInt (xup h a i v a j) := by
  funext j
  unfold upd xup
  by_cases hj : j = (Int32.ofInt i).toNatClampNeg
  · rw [if_pos hj, if_pos ⟨rfl, by omega⟩]
  · rw [if_neg hj, if_neg (by omega)]
theorem J_iast {a i v : Int} (hd : decode M.2.1 pc = .ok (.iastore, 1)) (ho : 1 ≤ a ∧ a ≤ (n : Int)) (hk : xK a = 1) {nn : Int} (hi : 0 ≤ i ∧ i < nn) (hn : (xN a : Int) = nn) {h2 : xH} (he2 : h2 = xup h a i v) (k : J M md rc rs (pc + 1) n ls st h2 Q) : J M md rc rs pc n ls (xI v :: xI i :: xR a :: st) h Q := by
  subst hn
  subst he2
  intro hl hs hr hg D cI cZ base ad p l e R s m args below meth c hC H locs cells slots Z lsm hRel hS hls hc hE
  obtain ⟨h1, h2⟩ := xix (xs0 (xs2 hs)) hi
  have kk := k hl (xs2 (xs2 (xs2 hs))) (xup_rng hr (xs0 hs)) (xG_up hg (xRf_arr (by omega))) D cI cZ base ad p l e R s m args below meth c hC
  refine va_iast hC.1 hC.2.1 hC.2.2.2.2.2.2.2.1 hRel.1 (xD_of hC.2.2.2.2.2.2.2.2.1.2.2) hS (a.toNat - 1) 0 (by rw [xws_at ho.1 ho.2, xC_int hk]) rfl h1 hd (fun H1 locs1 hP1 _ hS1 => ?_)
  rw [xarr_set (cA := cI) h2, ← xC_int (cI := cI) (cZ := cZ) (ad := ad) (h := xup h a i v) hk, xws_set ho.1 ho.2 (fun o' h1 j' => xup_o o' h1 j')] at hP1
  exact kk H1 locs1 cells slots Z lsm ⟨hP1, fun q => ⟨(hRel.2 q).1, xup_zero ho.2 (hRel.2 q).2⟩⟩ hS1 hls hc hE
theorem J_bast {a i v : Int} (hd : decode M.2.1 pc = .ok (.bastore, 1)) (ho : 1 ≤ a ∧ a ≤ (n : Int)) (hk : xK a = 2) {nn : Int} (hi : 0 ≤ i ∧ i < nn) (hn : (xN a : Int) = nn) (hv : v = 0 ∨ v = 1) {h2 : xH} (he2 : h2 = xup h a i v) (k : J M md rc rs (pc + 1) n ls st h2 Q) : J M md rc rs pc n ls (xI v :: xI i :: xR a :: st) h Q := by
  subst hn
  subst he2
  intro hl hs hr hg D cI cZ base ad p l e R s m args below meth c hC H locs cells slots Z lsm hRel hS hls hc hE
  obtain ⟨h1, h2⟩ := xix (xs0 (xs2 hs)) hi
  have kk := k hl (xs2 (xs2 (xs2 hs))) (xup_rng hr (xs0 hs)) (xG_up hg (xRf_arr (by omega))) D cI cZ base ad p l e R s m args below meth c hC
  have hvn : vp_nar .boolean (Int32.ofInt v) = Int32.ofInt v := by rcases hv with rfl | rfl <;> decide
  refine va_zast hC.1 hC.2.1 hC.2.2.2.2.2.2.2.1 hRel.1 (xD_of hC.2.2.2.2.2.2.2.2.1.2.2) hS (a.toNat - 1) 1 (by rw [xws_at ho.1 ho.2, xC_boo hk]) rfl h1 hd (fun H1 locs1 hP1 _ hS1 => ?_)
  rw [hvn, xarr_set (cA := cI) h2, ← xC_boo (cI := cI) (cZ := cZ) (ad := ad) (h := xup h a i v) hk, xws_set ho.1 ho.2 (fun o' h1 j' => xup_o o' h1 j')] at hP1
  exact kk H1 locs1 cells slots Z lsm ⟨hP1, fun q => ⟨(hRel.2 q).1, xup_zero ho.2 (hRel.2 q).2⟩⟩ hS1 hls hc hE
/-- the two tables -/
def xTM : List Int := [1, 1, 1, 0, 2, 1, 2]
def xTT : List Int := [1, 1, 0, 1, 2, 2, 1]
def xTb (a i : Int) : Int := (if a = -1 then xTM else xTT).getD i.toNat 0
theorem J_gsM {idx : Nat} (hd : decode M.2.1 pc = .ok (.getstatic idx, 3)) (hw : Cond.fieldLink M.1 idx "WordMender$Slips" "MEANT_TAKEN" "[I" ∈ xtbl) (k : J M md rc rs (pc + 3) n ls (xR (-1) :: st) h Q) : J M md rc rs pc n ls st h Q := by
  intro hl hs hr hg D cI cZ base ad p l e R s m args below meth c hC H locs cells slots Z lsm hRel hS hls hc hE
  exact va_gets hC.1 hC.2.1 hC.2.2.2.2.2.2.2.2.1.2.1.1 hS hC.2.2.2.1 (hC.2.2.2.2.1 _ hw) (fun _ q => q) hd (k hl (xsR hs) hr hg D cI cZ base ad p l e R s m args below meth c hC H locs cells slots Z lsm hRel hS hls hc hE)
theorem J_gsT {idx : Nat} (hd : decode M.2.1 pc = .ok (.getstatic idx, 3)) (hw : Cond.fieldLink M.1 idx "WordMender$Slips" "TYPED_TAKEN" "[I" ∈ xtbl) (k : J M md rc rs (pc + 3) n ls (xR (-2) :: st) h Q) : J M md rc rs pc n ls st h Q := by
  intro hl hs hr hg D cI cZ base ad p l e R s m args below meth c hC H locs cells slots Z lsm hRel hS hls hc hE
  exact va_gets hC.1 hC.2.1 hC.2.2.2.2.2.2.2.2.1.2.1.2.2.1 hS hC.2.2.2.1 (hC.2.2.2.2.1 _ hw) (fun _ q => q) hd (k hl (xsR hs) hr hg D cI cZ base ad p l e R s m args below meth c hC H locs cells slots Z lsm hRel hS hls hc hE)
theorem J_tlen {a : Int} (hd : decode M.2.1 pc = .ok (.arraylength, 1)) (ha : a = -1 ∨ a = -2) (k : J M md rc rs (pc + 1) n ls (xI 7 :: st) h Q) : J M md rc rs pc n ls (xR a :: st) h Q := by
  intro hl hs hr hg D cI cZ base ad p l e R s m args below meth c hC H locs cells slots Z lsm hRel hS hls hc hE
  have kk := k hl (xsI (by decide) (xs2 hs)) hr hg D cI cZ base ad p l e R s m args below meth c hC H locs cells slots Z lsm hRel hS hls hc hE
  have hT := hC.2.2.2.2.2.2.2.2.1.2.1
  rcases ha with rfl | rfl
  · exact va_tlen hC.1 hC.2.1 hT.2.1 hS rfl hd kk
  · exact va_tlen hC.1 hC.2.1 hT.2.2.2 hS rfl hd kk
theorem J_tald {a i : Int} (hd : decode M.2.1 pc = .ok (.iaload, 1)) (ha : a = -1 ∨ a = -2) (hi : 0 ≤ i ∧ i < 7) (k : J M md rc rs (pc + 1) n ls (xI (xTb a i) :: st) h Q) : J M md rc rs pc n ls (xI i :: xR a :: st) h Q := by
  intro hl hs hr hg D cI cZ base ad p l e R s m args below meth c hC H locs cells slots Z lsm hRel hS hls hc hE
  have hT := hC.2.2.2.2.2.2.2.2.1.2.1
  have hi2 : (Int32.ofInt i).toNatClampNeg = i.toNat := xcl (xs0 hs)
  have hok : ∀ j : Nat, j < 7 → xok (xTM.getD j 0) ∧ xok (xTT.getD j 0) := by decide
  have hok2 := hok i.toNat (by omega)
  rcases ha with rfl | rfl
  · exact va_ti hC.1 hC.2.1 hT.2.1 hS (xin (xs0 hs) hi.1 hi.2) (by rw [hi2]; rfl) hd (k hl (xsI hok2.1 (xs2 (xs2 hs))) hr hg D cI cZ base ad p l e R s m args below meth c hC H locs cells slots Z lsm hRel hS hls hc hE)
  · exact va_ti hC.1 hC.2.1 hT.2.2.2 hS (xin (xs0 hs) hi.1 hi.2) (by rw [hi2]; rfl) hd (k hl (xsI hok2.2 (xs2 (xs2 hs))) hr hg D cI cZ base ad p l e R s m args below meth c hC H locs cells slots Z lsm hRel hS hls hc hE)
/-- the law's script -/
theorem J_slen {L : Nat} {xs : Nat → Int32} (hM : M.2.2.2.2.2.2.2 = some (L, xs)) (hL : L ≤ 2560) (hd : decode M.2.1 pc = .ok (.arraylength, 1)) (k : J M md rc rs (pc + 1) n ls (xI L :: st) h Q) : J M md rc rs pc n ls (xR (-3) :: st) h Q := by
  intro hl hs hr hg D cI cZ base ad p l e R s m args below meth c hC H locs cells slots Z lsm hRel hS hls hc hE
  have hX := hC.2.2.2.2.2.2.2.2.2.1
  rw [hM] at hX
  exact va_slen hC.1 hC.2.1 hX.1 hX.2.1 (by have := hX.2.2; omega) hS hd (k hl (xsI (by constructor <;> omega) (xs2 hs)) hr hg D cI cZ base ad p l e R s m args below meth c hC H locs cells slots Z lsm hRel hS hls hc hE)
theorem J_sald {L : Nat} {xs : Nat → Int32} {i : Int} (hM : M.2.2.2.2.2.2.2 = some (L, xs)) (hi : 0 ≤ i ∧ i < (L : Int)) (hd : decode M.2.1 pc = .ok (.iaload, 1)) (k : J M md rc rs (pc + 1) n ls (xI (xs i.toNat).toInt :: st) h Q) : J M md rc rs pc n ls (xI i :: xR (-3) :: st) h Q := by
  intro hl hs hr hg D cI cZ base ad p l e R s m args below meth c hC H locs cells slots Z lsm hRel hS hls hc hE
  have hX := hC.2.2.2.2.2.2.2.2.2.1
  rw [hM] at hX
  refine va_sld hC.1 hC.2.1 hX.1 hX.2.1 (by have := hX.2.2; omega) hS (xin (xs0 hs) hi.1 hi.2) hd ?_
  rw [xcl (xs0 hs), ← xoi (xs i.toNat)]
  exact k hl (xsI (xokt _) (xs2 (xs2 hs))) hr hg D cI cZ base ad p l e R s m args below meth c hC H locs cells slots Z lsm hRel hS hls hc hE
/-- Math.min, max; a row is copied -/
def xMinW (own : String) (idx : Nat) (y : MethodName) (b : ByteArray) : Prop := Cond.methodLink own idx y ∈ xtbl ∧ Cond.static y ∈ xtbl ∧ Cond.initialized "java/lang/Math" ∈ xtbl ∧ Cond.code y b 2 (some .int) ∈ xtbl
theorem xsum (ad : Int → Nat) (st : List xV) : ((st.map (xcv ad)).map fun v => v.category).sum = (st.map xcat).sum := by
  rw [List.map_map]
  congr 1
  refine List.map_congr_left fun v _ => ?_
  exact xcat_cv ad v
theorem J_mmin {x y : Int} {idx : Nat} (hd : decode M.2.1 pc = .ok (.invokestatic idx, 3)) (hw : xMinW M.1 idx Lib.Math.min.name Lib.Math.min.code) (hf : 1 ≤ M.2.2.2.2.2.1) (hlo : (st.map xcat).sum + 13 ≤ M.2.2.2.2.2.2.1) (k : J M md rc rs (pc + 3) n ls (xI (min x y) :: st) h Q) : J M md rc rs pc n ls (xI y :: xI x :: st) h Q := by
  intro hl hs hr hg D cI cZ base ad p l e R s m args below meth c hC H locs cells slots Z lsm hRel hS hls hc hE
  have hy : xok y := xs0 hs
  have hx : xok x := xs0 (xs2 hs)
  have hm : xok (min x y) := by
    rw [Int.min_def]
    split <;> assumption
  have kk := k hl (xsI hm (xs2 (xs2 hs))) hr hg D cI cZ base ad p l e R s m args below meth c hC H locs cells slots Z lsm hRel hS hls hc hE
  have ht := hC.2.2.2.2.1
  refine va_mmin hC.1 hC.2.1 (hC.2.2.1.trans hls.1.symm) hC.2.2.2.1 (ht _ hw.1) (ht _ hw.2.1) (ht _ hw.2.2.1) (ht _ hw.2.2.2) (by have := hC.2.2.2.2.2.2.1.1; omega) (by rw [xsum]; have := hC.2.2.2.2.2.2.1.2; omega) (by omega) (by omega) hd ?_
  have e : (if Int32.ofInt y < Int32.ofInt x then Int32.ofInt y else Int32.ofInt x) = Int32.ofInt (min x y) := by
    rw [Int.min_def]
    by_cases q : y < x
    · rw [if_pos ((xlt hy hx).mpr q)]
      rw [if_neg (by omega)]
    · rw [if_neg (fun z => q ((xlt hy hx).mp z))]
      by_cases q2 : x ≤ y
      · rw [if_pos q2]
        
      · rw [if_neg q2]
        exfalso; omega
  rw [e]
  exact kk
theorem J_mmax {x y : Int} {idx : Nat} (hd : decode M.2.1 pc = .ok (.invokestatic idx, 3)) (hw : xMinW M.1 idx Lib.Math.max.name Lib.Math.max.code) (hf : 1 ≤ M.2.2.2.2.2.1) (hlo : (st.map xcat).sum + 13 ≤ M.2.2.2.2.2.2.1) (k : J M md rc rs (pc + 3) n ls (xI (max x y) :: st) h Q) : J M md rc rs pc n ls (xI y :: xI x :: st) h Q := by
  intro hl hs hr hg D cI cZ base ad p l e R s m args below meth c hC H locs cells slots Z lsm hRel hS hls hc hE
  have hy : xok y := xs0 hs
  have hx : xok x := xs0 (xs2 hs)
  have hm : xok (max x y) := by
    rw [Int.max_def]
    split <;> assumption
  have kk := k hl (xsI hm (xs2 (xs2 hs))) hr hg D cI cZ base ad p l e R s m args below meth c hC H locs cells slots Z lsm hRel hS hls hc hE
  have ht := hC.2.2.2.2.1
  refine va_mmax hC.1 hC.2.1 (hC.2.2.1.trans hls.1.symm) hC.2.2.2.1 (ht _ hw.1) (ht _ hw.2.1) (ht _ hw.2.2.1) (ht _ hw.2.2.2) (by have := hC.2.2.2.2.2.2.1.1; omega) (by rw [xsum]; have := hC.2.2.2.2.2.2.1.2; omega) (by omega) (by omega) hd ?_
  have e : (if Int32.ofInt x < Int32.ofInt y then Int32.ofInt y else Int32.ofInt x) = Int32.ofInt (max x y) := by
    rw [Int.max_def]
    by_cases q : x < y
    · rw [if_pos ((xlt hx hy).mpr q)]
      rw [if_pos (by omega)]
    · rw [if_neg (fun z => q ((xlt hx hy).mp z))]
      by_cases q2 : x ≤ y
      · rw [if_pos q2]
        congr 1; omega
      · rw [if_neg q2]
        
  rw [e]
  exact kk
def xCpW (own : String) (idx : Nat) : Prop := Cond.methodLink own idx arraycopyName ∈ xtbl ∧ Cond.native arraycopyName ∈ xtbl ∧ Cond.static arraycopyName ∈ xtbl ∧ Cond.initialized "java/lang/System" ∈ xtbl
theorem J_copy {a b sp dp k0 : Int} {idx : Nat} (hd : decode M.2.1 pc = .ok (.invokestatic idx, 3)) (hw : xCpW M.1 idx) (hoa : 1 ≤ a ∧ a ≤ (n : Int)) (hob : 1 ≤ b ∧ b ≤ (n : Int)) (hka : xK a = 1) (hkb : xK b = 1) {na nb : Int} (hi : 0 ≤ sp ∧ 0 ≤ dp ∧ 0 ≤ k0 ∧ sp + k0 ≤ na ∧ dp + k0 ≤ nb) (hna : (xN a : Int) = na) (hnb : (xN b : Int) = nb) {h2 : xH} (he2 : h2 = xcp h a sp b dp k0) (hf : 1 ≤ M.2.2.2.2.2.1) (hlo : (st.map xcat).sum + (nativeFrameWords "java/lang/System" "arraycopy" 5 + 11) ≤ M.2.2.2.2.2.2.1) (k : J M md rc rs (pc + 3) n ls st h2 Q) : J M md rc rs pc n ls (xI k0 :: xI dp :: xR b :: xI sp :: xR a :: st) h Q := by
  subst hna
  subst hnb
  subst he2
  intro hl hs hr hg D cI cZ base ad p l e R s m args below meth c hC H locs cells slots Z lsm hRel hS hls hc hE
  have hk0 : xok k0 := xs0 hs
  have hdp : xok dp := xs0 (xs2 hs)
  have hsp : xok sp := xs0 (xs2 (xs2 (xs2 hs)))
  have kk := k hl (xs2 (xs2 (xs2 (xs2 (xs2 hs))))) (xcp_rng hr) (xG_cp hg (by omega)) D cI cZ base ad p l e R s m args below meth c hC
  have ht := hC.2.2.2.2.1
  have nn : ∀ z : Int, xok z → 0 ≤ z → ¬ Int32.ofInt z < 0 := fun z hz h0 q => by
    have := (xlt hz xok0).mp q
    omega
  refine va_copyi hC.1 hC.2.1 (hC.2.2.1.trans hls.1.symm) hC.2.2.2.1 (ht _ hw.1) (ht _ hw.2.1) (ht _ hw.2.2.1) (ht _ hw.2.2.2) hC.2.2.2.2.2.2.2.1 hRel.1 (xD_of hC.2.2.2.2.2.2.2.2.1.2.2) hS (a.toNat - 1) (b.toNat - 1) 0 0 (by rw [xws_at hoa.1 hoa.2, xC_int hka]) (by rw [xws_at hob.1 hob.2, xC_int hkb]) rfl rfl rfl (nn sp hsp hi.1) (nn dp hdp hi.2.1) (nn k0 hk0 hi.2.2.1) (by rw [xcl hsp, xcl hk0]; omega) (by rw [xcl hdp, xcl hk0]; omega) (fun _ _ => rfl) (by have := hC.2.2.2.2.2.2.1.1; omega) (by rw [xsum]; have := hC.2.2.2.2.2.2.1.2; omega) hd (fun H1 locs1 hP1 _ hS1 => ?_)
  have e : va_cpy (fun j : Nat => Int32.ofInt (h a j)) (fun j : Nat => Int32.ofInt (h b j)) (Int32.ofInt sp).toNatClampNeg (Int32.ofInt dp).toNatClampNeg (Int32.ofInt k0).toNatClampNeg = fun j : Nat => Int32.ofInt (xcp h a sp b dp k0 b j) := by
    funext j
    rw [xcl hsp, xcl hdp, xcl hk0]
    unfold xcp
    by_cases q : dp.toNat ≤ j ∧ j < dp.toNat + k0.toNat
    · rw [pk_cpy_in q.1 q.2, if_pos ⟨rfl, by omega, by omega⟩]
      congr 2
      omega
    · rw [pk_cpy_out (by omega), if_neg (by omega)]
  rw [e, ← xC_int (cI := cI) (cZ := cZ) (ad := ad) (h := xcp h a sp b dp k0) hkb, xws_set hob.1 hob.2 (fun o' h1 j' => xcp_o o' h1 j')] at hP1
  exact kk H1 locs1 cells slots Z lsm ⟨hP1, fun q => ⟨(hRel.2 q).1, xcp_zero hob.2 (hRel.2 q).2⟩⟩ hS1 hls hc hE
end
end
section
/-! ROWS OF THE QUIET MACHINE: calls -/
def xen : Nat → List xV → List (Nat × xV)
  | _, [] => []
  | i, v :: vs => (i, v) :: xen (if xcat v = 2 then i + 2 else i + 1) vs
theorem xen_map (ad : Int → Nat) : ∀ (vs : List xV) (i : Nat), lv_args i (vs.map (xcv ad)) = (xen i vs).map fun q => (q.1, xcv ad q.2)
  | [], _ => rfl
  | v :: vs, i => by
    show (i, xcv ad v) :: lv_args (if (xcv ad v).category = 2 then i + 2 else i + 1) (vs.map (xcv ad)) = (i, xcv ad v) :: (xen (if xcat v = 2 then i + 2 else i + 1) vs).map _
    rw [xcat_cv, xen_map ad vs]
theorem xsl_len (ad : Int → Nat) (vs : List xV) : (lg_sl (vs.map (xcv ad))).length = (vs.map xcat).sum := by
  induction vs with
  | nil => rfl
  | cons v vs ih =>
    have e : lg_sl ((v :: vs).map (xcv ad)) = (if (xcv ad v).category = 2 then [Slot.val (xcv ad v), .second] else [.val (xcv ad v)]) ++ lg_sl (vs.map (xcv ad)) := rfl
    rw [e, List.length_append, ih, xcat_cv, List.map_cons, List.sum_cons]
    rcases v with x | x | x | x <;> rfl
theorem xen_ok : ∀ (vs : List xV) (i : Nat), (∀ v ∈ vs, xvok v) → ∀ q ∈ xen i vs, xvok q.2
  | [], _, _, _, hq => by cases hq
  | v :: vs, i, h, q, hq => by
    rcases List.mem_cons.mp hq with rfl | hq
    · exact h v List.mem_cons_self
    · exact xen_ok vs _ (fun w hw => h w (List.mem_cons_of_mem _ hw)) q hq
/-- what holds behind a call -/
def xPost (rt : Option FieldType) (D : va_G) (cI cZ : ClassId) (ad : Int → Nat) (base : Nat) (md : Bool) (rc : Nat) (Q : xQ) (sz : Nat) (oc : Outcome) (U : State) : Prop :=
  ∃ (r : Option Int) (n' : Nat) (h' : xH), oc = .returned (xrv r) ∧ Q r n' h' ∧ xrok rt r ∧ xRng h' ∧ xG md n' h' ∧ va_P D vwCl (xws cI cZ ad h' n') U.heap ∧ (md = false → sz + rc = base + n' ∧ ∀ o j, (n' : Int) < o → h' o j = 0)
def xQc (rt : Option FieldType) (D : va_G) (cI cZ : ClassId) (ad : Int → Nat) (base : Nat) (md : Bool) (rc : Nat) (Q : xQ) : Array Value → State → Outcome → State → Prop := fun _ st oc t =>
  xPost rt D cI cZ ad base md rc Q st.heap.size oc t ∧ va_F (fun q => base ≤ q) st t
/-- what holds ahead of a call -/
def xPre (D : va_G) (cI cZ : ClassId) (ad : Int → Nat) (base : Nat) (md : Bool) (n : Nat) (h : xH) (U : State) : Prop :=
  va_P D vwCl (xws cI cZ ad h n) U.heap ∧ (md = false → U.heap.size = base + n ∧ ∀ o j, (n : Int) < o → h o j = 0) ∧ va_K D vwCl [(cI, .int), (cZ, .boolean)] U ∧ base ≤ U.heap.size ∧ xSt ad (fun q => base ≤ q) U ∧ (∀ w ∈ xnst, va_Nw w U)
set_option maxHeartbeats 1000000 in
theorem xmet {Mc : xM} {md : Bool} {rc rs n : Nat} {h : xH} {Q : xQ} {As : List xV} {y : MethodName} (l : Launch) (D : va_G) (cI cZ : ClassId) (ad : Int → Nat) (base : Nat) (hJ : J Mc md rc rs 0 n (xen 0 As) [] h Q)
    (hy : plainName y.cls = true ∧ Mc.1 = y.cls ∧ (Mc.2.2.2.2.1 = true → y.name = "<init>") ∧ Mc.2.2.2.2.2.2.2 = none) (hlen : (As.map xcat).sum ≤ Mc.2.2.1) (has : ∀ v ∈ As, xvok v) (hr : xRng h) (hg : xG md n h) (had : ∀ k : Nat, ad ((k : Int) + 1) = base + k) :
    Met l y (Cond.code y Mc.2.1 Mc.2.2.1 Mc.2.2.2.1 :: xtbl) { frames := Mc.2.2.2.2.2.1, cells := rc, slots := rs, locals := Mc.2.2.2.2.2.2.1 } (va_Pc (As.map (xcv ad)) (xPre D cI cZ ad base md n h)) (xQc Mc.2.2.2.1 D cI cZ ad base md rc Q) rc rs (fun q => base ≤ q) := by
  refine Met.ofW (cc := Mc.2.1) (maxL := Mc.2.2.1) (ret := Mc.2.2.2.1) hy.1 rfl ?_
  intro p e s m args below meth c s₁ B hml hv
  obtain ⟨rfl, hP, hm, hK, hb, hSt, hnw⟩ := hv
  have hts := atoms_spec (ws := Cond.code y Mc.2.1 Mc.2.2.1 Mc.2.2.2.1 :: xtbl) B.pre
  have hlocks := B.notSynchronized
  have hin := (name_of_methodNamed B.named B.method).1
  have hret := B.returns
  rw [lg_entry_eq]
  have hls := lv_entry (As.map (xcv ad)) (n := Mc.2.2.1) (by rw [xsl_len]; exact hlen)
  rw [xen_map] at hls
  refine hJ (xen_ok As 0 has) (fun _ q => by cases q) hr hg D cI cZ base ad p l e (headSpec (Cond.code y Mc.2.1 Mc.2.2.1 Mc.2.2.2.1 :: xtbl) { frames := Mc.2.2.2.2.2.1, cells := rc, slots := rs, locals := Mc.2.2.2.2.2.2.1 }).room s m _ below meth c ⟨B.exec, B.bytes, hml, by rw [hy.2.1]; exact findClass_of_methodNamed B.named, fun w hw => hts w (List.mem_cons_of_mem _ hw), fun q => hin.trans (hy.2.2.1 q), ⟨Nat.le_refl _, Nat.le_refl _⟩, hK, ⟨hb, hSt, had⟩, by rw [hy.2.2.2]; trivial, hnw⟩ s.heap [] 0 0 _ _ ⟨hP, fun q => ⟨(hm q).1, (hm q).2⟩⟩ va_S.rf hls ⟨Nat.zero_add _, Nat.zero_add _⟩ ?_
  intro r n' h' H' locs' pc' lsm' hQ hok hr' hg' hRel' hS' hd'
  have hpost : ∀ t : State, t.heap = H' → xQc Mc.2.2.2.1 D cI cZ ad base md rc Q (As.map (xcv ad)).toArray s (.returned (xrv r)) t := fun t ht => ⟨⟨r, n', h', rfl, hQ, hok, hr', hg', by rw [ht]; exact hRel'.1, hRel'.2⟩, hS'.F ht⟩
  cases r with
  | none =>
    have e : Mc.2.2.2.1 = none := by
      unfold xrok at hok
      split at hok
      · assumption
      all_goals simp_all
    exact W.vret B.exec B.bytes (hret.trans e) (fun t ht _ => hpost t ht) hS'.2.2 hd'
  | some x =>
    unfold xrok at hok
    split at hok
    · simp_all
    · next e q =>
      exact W.iret B.exec B.bytes (hret.trans e) (fun t ht _ => hpost t ht) hS'.2.2 hd'
    · next x' e q =>
      cases q
      exact W.zret B.exec B.bytes (hret.trans e) (by rcases hok with rfl | rfl <;> rfl) (fun t ht _ => hpost t ht) hS'.2.2 hd'
    · exact absurd hok id
def xrl (r : Option Int) : List xV := match r with
  | none => []
  | some x => [xI x]
theorem xrv_map (ad : Int → Nat) (r : Option Int) (st : List xV) : (xrv r).toList ++ st.map (xcv ad) = (xrl r ++ st).map (xcv ad) := by
  cases r <;> rfl
theorem xrok_ok {rt : Option FieldType} {r : Option Int} (h : xrok rt r) : ∀ v ∈ xrl r, xvok v := by
  cases r with
  | none => intro v hv; cases hv
  | some x =>
    intro v hv
    have : v = xI x := by simpa [xrl] using hv
    subst this
    unfold xrok at h
    split at h
    · simp_all
    · next q => cases q; exact h
    · next q => cases q; show xok _; rcases h with rfl | rfl <;> decide
    · exact absurd h id
theorem xPre_blind {D : va_G} {cI cZ : ClassId} {ad : Int → Nat} {base : Nat} {md : Bool} {n : Nat} {h : xH} {av : List Value} : FrameBlind (va_Pc av (xPre D cI cZ ad base md n h)) := fun a U g mk q => by
  obtain ⟨q1, q2, q3, q4, q5, q6, q7⟩ := q
  exact ⟨q1, q2, q3, va_K.moved (u := U) (U := U.calling g mk a) (Vm.Alike.refl U.vm) q4, q5, xSt.to (u := U) (U := U.calling g mk a) q6 (Vm.Alike.refl U.vm) (fun _ _ _ => rfl), fun w hw => va_Nw.same (xisN_on hw) (u := U) (U := U.calling g mk a) rfl (q7 w hw)⟩
/-- the callee fits: its name and code, its room in the caller's -/
def xFit (M Mc : xM) (y : MethodName) (k : Nat) : Prop :=
  (plainName y.cls = true ∧ Mc.1 = y.cls ∧ (Mc.2.2.2.2.1 = true → y.name = "<init>") ∧ Mc.2.2.2.2.2.2.2 = none) ∧ (y.cls ≠ "java/lang/invoke/MethodHandle" ∧ y.cls ≠ "java/lang/invoke/VarHandle" ∧ (parseMethodDescriptor y.desc).map (fun d => d.parameters.length) = some k) ∧
  (Mc.2.2.2.2.2.1 + 1 ≤ M.2.2.2.2.2.1 ∧ 8 + (Mc.2.2.1 + 11) + Mc.2.2.2.2.2.2.1 ≤ M.2.2.2.2.2.2.1) ∧ (Cond.initialized y.cls ∈ xtbl ∧ Cond.code y Mc.2.1 Mc.2.2.1 Mc.2.2.2.1 ∈ xtbl)
theorem xgoodin {y : MethodName} {Mc : xM} (h : Cond.code y Mc.2.1 Mc.2.2.1 Mc.2.2.2.1 ∈ xtbl) : GoodIn xtbl (Cond.code y Mc.2.1 Mc.2.2.1 Mc.2.2.2.1 :: xtbl) := fun w hw => by
  rcases List.mem_cons.mp hw with rfl | hw
  · exact ⟨h, xtbl_good h⟩
  · exact ⟨hw, xtbl_good hw⟩
section
variable {M : xM} {md : Bool} {rc rs rc' rs' rc2 rs2 pc n : Nat} {ls ls' : List (Nat × xV)} {st : List xV} {h : xH} {Q Q' : xQ} {Mc : xM} {y : MethodName}
/-- what every call comes to -/
theorem xcall {p : Program} {l : Launch} {e : Env} {R : Room} {s : State} {m : MethodId} {args : Array Value} {below : List Frame} {meth : Method} {c : Code} {D : va_G} {cI cZ : ClassId} {ad : Int → Nat} {base : Nat} {H : Heap} {locs : List Loc} {cells slots : Nat} {Z : State → Prop} {lsm : Array Slot} {st0 : List Value} {av : Array Value}
    (hl : ∀ q ∈ ls, xvok q.2) (hs : ∀ v ∈ st, xvok v) (hC : xCx M D cI cZ base ad p R s m args meth c) (hRel : xRel D cI cZ ad base md n h H cells s) (hsz : md = false → H.size = base + n) (hS : va_S (fun q => base ≤ q) s.heap H locs) (hls : lv_has lsm M.2.2.1 (ls.map fun q => (q.1, xcv ad q.2))) (hc : cells + rc = R.cells ∧ slots + rs = R.slots) (hb : rc = rc' + rc2 ∧ rs = rs' + rs2)
    (hE : ∀ (r : Option Int) (n' : Nat) (h' : xH) (H' : Heap) (locs' : List Loc) (pc' : Nat) (lsm' : Array Slot), Q r n' h' → xrok M.2.2.2.1 r → xRng h' → xG md n' h' → xRel D cI cZ ad base md n' h' H' R.cells s → va_S (fun q => base ≤ q) s.heap H' locs' → decode M.2.1 pc' = .ok (xretI r, 1) → W p l e R s m args below meth c H' locs' R.cells R.slots Z (F0 m pc' lsm' (xrv r).toList))
    (run : va_Run p l e R s m args below meth c H locs cells slots rc' rs' (F0 m pc lsm st0) (st.map (xcv ad)) (xQc Mc.2.2.2.1 D cI cZ ad base md rc' Q' av) (fun q => base ≤ q))
    (k : ∀ r n' h', Q' r n' h' → xrok Mc.2.2.2.1 r → J M md rc2 rs2 (pc + 3) n' ls (xrl r ++ st) h' Q) : W p l e R s m args below meth c H locs cells slots Z (F0 m pc lsm st0) := by
  intro T hT X
  obtain ⟨v, st₀, t, T', L, h0, X', hL, e1, e2, ⟨⟨r, n', h', hv, hq, hok, hr', hg', hP', hm'⟩, hz, hk⟩, steps⟩ := run T hT X
  cases hv
  rw [h0] at hz hk hm'
  have hS1 : va_S (fun q => base ≤ q) s.heap T'.heap (locs ++ L) := ⟨Nat.le_trans hS.1 (by rw [e1]; exact hz), fun q h1 h2 => by rw [e1, hk q (Nat.lt_of_lt_of_le h1 hS.1) h2]; exact hS.2.1 q h1 h2, fun q hq => by
      rcases List.mem_append.mp hq with h | h
      · exact hS.2.2 q h
      · exact hL q h⟩
  have hJ := k r n' h' hq hok hl (fun v hv => by
    rcases List.mem_append.mp hv with hv | hv
    · exact xrok_ok hok v hv
    · exact hs v hv) hr' hg' D cI cZ base ad p l e R s m args below meth c hC T'.heap (locs ++ L) (cells + rc') (slots + rs') Z lsm ⟨by rw [e1]; exact hP', fun q => ⟨by have := (hRel.2 q).1; have := (hm' q).1; have := hsz q; omega, (hm' q).2⟩⟩ hS1 hls ⟨by omega, by omega⟩ hE
  obtain ⟨t2, a1, b1⟩ := hJ T' rfl X'
  refine ⟨t2, steps t2 ?_, b1⟩
  rw [xrv_map]
  exact a1
theorem xfull {p : Program} {l : Launch} {e : Env} {R : Room} {s : State} {m : MethodId} {args : Array Value} {below : List Frame} {meth : Method} {c : Code} {D : va_G} {cI cZ : ClassId} {ad : Int → Nat} {base : Nat} {H : Heap} {locs : List Loc} {cells slots : Nat} {Z : State → Prop} {g : JFrame}
    (hRel : xRel D cI cZ ad base md n h H cells s) (hS : va_S (fun q => base ≤ q) s.heap H locs) (had : ∀ k : Nat, ad ((k : Int) + 1) = base + k) (hb : base ≤ s.heap.size)
    (k : (md = false → H.size = base + n) → W p l e R s m args below meth c H locs cells slots Z g) : W p l e R s m args below meth c H locs cells slots Z g := by
  intro T hT X
  refine k (fun q => ?_) T hT X
  have h1 := X.same.2.2.1
  have h1 : T.heap.size ≤ s.heap.size + cells := h1
  rw [hT] at h1
  have h2 := (hRel.2 q).1
  by_cases hn : n = 0
  · have := hS.1
    omega
  · have hk := hRel.1 (n - 1) (ad (((n - 1 : Nat) : Int) + 1), xC cI cZ ad h (((n - 1 : Nat) : Int) + 1)) (by simp only [xws, List.getElem?_map, List.getElem?_range (show n - 1 < n by omega), Option.map_some])
    have hlt := hk.lt
    have hlt : ad (((n - 1 : Nat) : Int) + 1) < H.size := hlt
    rw [had] at hlt
    omega
theorem J_callV {idx ka : Nat} {stk : List xV} (As : List xV) {o : Int} {ci : Nat} {T0 : u_T} {N0 : Nat} (hd : decode M.2.1 pc = .ok (.invokevirtual idx, 3)) (hfit : xFit M Mc y ka) (hka : As.length = ka) (hw : (Cond.methodLink M.1 idx y ∈ xtbl ∨ ∃ host, Cond.methodLinkNest M.1 idx y host ∈ xnst) ∧ Cond.instanceMethod y ∈ xtbl ∧ Cond.selects y.cls y y ∈ xtbl) (ho : 1 ≤ o ∧ o ≤ (n : Int)) (hk : xK o = 3 + ci) (hcl : vwCl[ci]? = some (y.cls, T0, N0)) (hstk : stk = As.reverse ++ xR o :: st) (h8 : (st.map xcat).sum ≤ 8) (hlen : ((xR o :: As).map xcat).sum ≤ Mc.2.2.1) (hb : rc = rc' + rc2 ∧ rs = rs' + rs2) (hJ : J Mc md rc' rs' 0 n (xen 0 (xR o :: As)) [] h Q')
    (k : ∀ r n' h', Q' r n' h' → xrok Mc.2.2.2.1 r → J M md rc2 rs2 (pc + 3) n' ls (xrl r ++ st) h' Q) : J M md rc rs pc n ls stk h Q := by
  subst hstk
  intro hl hs hr hg D cI cZ base ad p l e R s m args below meth c hC H locs cells slots Z lsm hRel hS hls hc hE
  obtain ⟨f1, f2, ⟨f3, f4⟩, f5⟩ := hfit
  have hR := hC.2.2.2.2.2.2.1
  have ht := hC.2.2.2.2.1
  have had := hC.2.2.2.2.2.2.2.2.1.2.2
  have hbs := hC.2.2.2.2.2.2.2.2.1.1
  have hstok : ∀ v ∈ st, xvok v := fun v hv => hs v (List.mem_append_right _ (List.mem_cons_of_mem _ hv))
  have hAs : ∀ v ∈ xR o :: As, xvok v := fun v hv => by
    rcases List.mem_cons.mp hv with rfl | hv
    · trivial
    · exact hs v (List.mem_append_left _ (List.mem_reverse.mpr hv))
  refine xfull hRel hS had hbs (fun hsz => ?_)
  have hM := xmet (As := xR o :: As) l D cI cZ ad base hJ f1 hlen hAs hr hg had
  have hpre : ∀ U : State, U.heap = H → s.WarmedH U.vm → va_Pc ((xR o :: As).map (xcv ad)) (xPre D cI cZ ad base md n h) ((xR o :: As).map (xcv ad)).toArray U := fun U hU hW =>
    ⟨rfl, by rw [hU]; exact hRel.1, fun q => ⟨by rw [hU]; exact hsz q, (hRel.2 q).2⟩, va_K.moved hW.alike hC.2.2.2.2.2.2.2.1, by rw [hU]; exact Nat.le_trans hbs hS.1, xSt.to hC.2.2.2.2.2.2.2.2.1.2.1 hW.alike (fun a h1 h2 => by rw [hU]; exact hS.2.1 a h1 h2), fun w hw => xisN_warm hw hW (hC.2.2.2.2.2.2.2.2.2.2 w hw)⟩
  have hrev : ((As.reverse ++ xR o :: st).map (xcv ad)) = (As.map (xcv ad)).reverse ++ Value.ref (ad o) :: st.map (xcv ad) := by
    rw [List.map_append, List.map_reverse]; rfl
  have h8' : (((st.map (xcv ad))).map fun v => v.category).sum ≤ 8 := by rw [xsum]; exact h8
  rw [hrev]
  have hcode : (Cond.code y Mc.2.1 Mc.2.2.1 Mc.2.2.2.1).before args s = true := ht _ f5.2
  have hini : (Cond.initialized y.cls).before args s = true := ht _ f5.1
  have hcells : cells + rc' ≤ R.cells ∧ slots + rs' ≤ R.slots := ⟨by omega, by omega⟩
  rcases hw with ⟨hw | ⟨host, hw⟩, hw2⟩
  · refine xcall (Mc := Mc) hl hstok hC hRel hsz hS hls hc hb hE (va_runV (As := As.map (xcv ad)) (nL := M.2.2.1) ⟨hC.1, hC.2.1, hC.2.2.1, hC.2.2.2.1, ht⟩ hM (C := y.cls) (n := ka) ⟨callB_of (bytes := Mc.2.1) (maxL := Mc.2.2.1) (ret := Mc.2.2.2.1) ka ht (xgoodin f5.2) rfl rfl rfl hini (ht _ hw) f2 ⟨by show Mc.2.2.2.2.2.1 + 1 ≤ R.frames; omega, by show 8 + (Mc.2.2.1 + 11) + Mc.2.2.2.2.2.2.1 ≤ R.locals; omega⟩, ht _ hw2.1, ht _ hw2.2⟩ ⟨xPre_blind, va_recv hC.2.2.2.2.2.2.2.1 hRel.1 hcl (by rw [xws_at ho.1 ho.2, xC_obj hk]), hpre⟩ rfl (by rw [List.length_map]; exact hka) hls.1 rfl (lv_room h8') hd hcells) k
  · refine xcall (Mc := Mc) hl hstok hC hRel hsz hS hls hc hb hE (va_runVN (As := As.map (xcv ad)) (nL := M.2.2.1) ⟨hC.1, hC.2.1, hC.2.2.1, hC.2.2.2.1, ht⟩ hM (C := y.cls) (n := ka) ⟨va_cnB ka ht (xgoodin f5.2) rfl rfl rfl (hC.2.2.2.2.2.2.2.2.2.2 _ hw) hini f2 ⟨by show Mc.2.2.2.2.2.1 + 1 ≤ R.frames; omega, by show 8 + (Mc.2.2.1 + 11) + Mc.2.2.2.2.2.2.1 ≤ R.locals; omega⟩, ht _ hw2.1, ht _ hw2.2⟩ ⟨xPre_blind, va_recv hC.2.2.2.2.2.2.2.1 hRel.1 hcl (by rw [xws_at ho.1 ho.2, xC_obj hk]), hpre⟩ rfl (by rw [List.length_map]; exact hka) hls.1 rfl (lv_room h8') hd hcells) k
theorem J_callS {idx ka : Nat} {stk : List xV} (As : List xV) (hd : decode M.2.1 pc = .ok (.invokestatic idx, 3)) (hfit : xFit M Mc y ka) (hka : As.length = ka) (hw : (Cond.methodLink M.1 idx y ∈ xtbl ∨ ∃ host, Cond.methodLinkNest M.1 idx y host ∈ xnst) ∧ Cond.static y ∈ xtbl) (hstk : stk = As.reverse ++ st) (h8 : (st.map xcat).sum ≤ 8) (hlen : ((As).map xcat).sum ≤ Mc.2.2.1) (hb : rc = rc' + rc2 ∧ rs = rs' + rs2) (hJ : J Mc md rc' rs' 0 n (xen 0 (As)) [] h Q')
    (k : ∀ r n' h', Q' r n' h' → xrok Mc.2.2.2.1 r → J M md rc2 rs2 (pc + 3) n' ls (xrl r ++ st) h' Q) : J M md rc rs pc n ls stk h Q := by
  subst hstk
  intro hl hs hr hg D cI cZ base ad p l e R s m args below meth c hC H locs cells slots Z lsm hRel hS hls hc hE
  obtain ⟨f1, f2, ⟨f3, f4⟩, f5⟩ := hfit
  have hR := hC.2.2.2.2.2.2.1
  have ht := hC.2.2.2.2.1
  have had := hC.2.2.2.2.2.2.2.2.1.2.2
  have hbs := hC.2.2.2.2.2.2.2.2.1.1
  have hstok : ∀ v ∈ st, xvok v := fun v hv => hs v (List.mem_append_right _ hv)
  have hAs : ∀ v ∈ As, xvok v := fun v hv => by
    exact hs v (List.mem_append_left _ (List.mem_reverse.mpr hv))
  refine xfull hRel hS had hbs (fun hsz => ?_)
  have hM := xmet (As := As) l D cI cZ ad base hJ f1 hlen hAs hr hg had
  have hpre : ∀ U : State, U.heap = H → s.WarmedH U.vm → va_Pc ((As).map (xcv ad)) (xPre D cI cZ ad base md n h) ((As).map (xcv ad)).toArray U := fun U hU hW =>
    ⟨rfl, by rw [hU]; exact hRel.1, fun q => ⟨by rw [hU]; exact hsz q, (hRel.2 q).2⟩, va_K.moved hW.alike hC.2.2.2.2.2.2.2.1, by rw [hU]; exact Nat.le_trans hbs hS.1, xSt.to hC.2.2.2.2.2.2.2.2.1.2.1 hW.alike (fun a h1 h2 => by rw [hU]; exact hS.2.1 a h1 h2), fun w hw => xisN_warm hw hW (hC.2.2.2.2.2.2.2.2.2.2 w hw)⟩
  have hrev : ((As.reverse ++ st).map (xcv ad)) = (As.map (xcv ad)).reverse ++ st.map (xcv ad) := by
    rw [List.map_append, List.map_reverse]
  have h8' : (((st.map (xcv ad))).map fun v => v.category).sum ≤ 8 := by rw [xsum]; exact h8
  rw [hrev]
  have hcode : (Cond.code y Mc.2.1 Mc.2.2.1 Mc.2.2.2.1).before args s = true := ht _ f5.2
  have hini : (Cond.initialized y.cls).before args s = true := ht _ f5.1
  have hcells : cells + rc' ≤ R.cells ∧ slots + rs' ≤ R.slots := ⟨by omega, by omega⟩
  rcases hw with ⟨hw | ⟨host, hw⟩, hw2⟩
  · refine xcall (Mc := Mc) hl hstok hC hRel hsz hS hls hc hb hE (va_runS (As := As.map (xcv ad)) (nL := M.2.2.1) ⟨hC.1, hC.2.1, hC.2.2.1, hC.2.2.2.1, ht⟩ hM (n := ka) ⟨callB_of (bytes := Mc.2.1) (maxL := Mc.2.2.1) (ret := Mc.2.2.2.1) ka ht (xgoodin f5.2) rfl rfl rfl hini (ht _ hw) f2 ⟨by show Mc.2.2.2.2.2.1 + 1 ≤ R.frames; omega, by show 8 + (Mc.2.2.1 + 11) + Mc.2.2.2.2.2.2.1 ≤ R.locals; omega⟩, ht _ hw2⟩ ⟨xPre_blind, hpre⟩ rfl (by rw [List.length_map]; exact hka) hls.1 rfl (lv_room h8') hd hcells) k
  · refine xcall (Mc := Mc) hl hstok hC hRel hsz hS hls hc hb hE (va_runSN (As := As.map (xcv ad)) (nL := M.2.2.1) ⟨hC.1, hC.2.1, hC.2.2.1, hC.2.2.2.1, ht⟩ hM (n := ka) ⟨va_cnB ka ht (xgoodin f5.2) rfl rfl rfl (hC.2.2.2.2.2.2.2.2.2.2 _ hw) hini f2 ⟨by show Mc.2.2.2.2.2.1 + 1 ≤ R.frames; omega, by show 8 + (Mc.2.2.1 + 11) + Mc.2.2.2.2.2.2.1 ≤ R.locals; omega⟩, ht _ hw2, trivial⟩ ⟨xPre_blind, hpre⟩ rfl (by rw [List.length_map]; exact hka) hls.1 rfl (lv_room h8') hd hcells) k
theorem J_callI {idx ka : Nat} {stk : List xV} (As : List xV) {o : Int} (hd : decode M.2.1 pc = .ok (.invokespecial idx, 3)) (hfit : xFit M Mc y ka) (hka : As.length = ka) (hw : (Cond.methodLink M.1 idx y ∈ xtbl ∨ ∃ host, Cond.methodLinkNest M.1 idx y host ∈ xnst) ∧ y.name = "<init>" ∧ Cond.instanceMethod y ∈ xtbl ∧ Mc.2.2.2.1 = none) (hstk : stk = As.reverse ++ xR o :: st) (h8 : (st.map xcat).sum ≤ 8) (hlen : ((xR o :: As).map xcat).sum ≤ Mc.2.2.1) (hb : rc = rc' + rc2 ∧ rs = rs' + rs2) (hJ : J Mc md rc' rs' 0 n (xen 0 (xR o :: As)) [] h Q')
    (k : ∀ r n' h', Q' r n' h' → xrok Mc.2.2.2.1 r → J M md rc2 rs2 (pc + 3) n' ls (xrl r ++ st) h' Q) : J M md rc rs pc n ls stk h Q := by
  subst hstk
  intro hl hs hr hg D cI cZ base ad p l e R s m args below meth c hC H locs cells slots Z lsm hRel hS hls hc hE
  obtain ⟨f1, f2, ⟨f3, f4⟩, f5⟩ := hfit
  have hR := hC.2.2.2.2.2.2.1
  have ht := hC.2.2.2.2.1
  have had := hC.2.2.2.2.2.2.2.2.1.2.2
  have hbs := hC.2.2.2.2.2.2.2.2.1.1
  have hstok : ∀ v ∈ st, xvok v := fun v hv => hs v (List.mem_append_right _ (List.mem_cons_of_mem _ hv))
  have hAs : ∀ v ∈ xR o :: As, xvok v := fun v hv => by
    rcases List.mem_cons.mp hv with rfl | hv
    · trivial
    · exact hs v (List.mem_append_left _ (List.mem_reverse.mpr hv))
  refine xfull hRel hS had hbs (fun hsz => ?_)
  have hM := xmet (As := xR o :: As) l D cI cZ ad base hJ f1 hlen hAs hr hg had
  have hpre : ∀ U : State, U.heap = H → s.WarmedH U.vm → va_Pc ((xR o :: As).map (xcv ad)) (xPre D cI cZ ad base md n h) ((xR o :: As).map (xcv ad)).toArray U := fun U hU hW =>
    ⟨rfl, by rw [hU]; exact hRel.1, fun q => ⟨by rw [hU]; exact hsz q, (hRel.2 q).2⟩, va_K.moved hW.alike hC.2.2.2.2.2.2.2.1, by rw [hU]; exact Nat.le_trans hbs hS.1, xSt.to hC.2.2.2.2.2.2.2.2.1.2.1 hW.alike (fun a h1 h2 => by rw [hU]; exact hS.2.1 a h1 h2), fun w hw => xisN_warm hw hW (hC.2.2.2.2.2.2.2.2.2.2 w hw)⟩
  have hrev : ((As.reverse ++ xR o :: st).map (xcv ad)) = (As.map (xcv ad)).reverse ++ Value.ref (ad o) :: st.map (xcv ad) := by
    rw [List.map_append, List.map_reverse]; rfl
  have h8' : (((st.map (xcv ad))).map fun v => v.category).sum ≤ 8 := by rw [xsum]; exact h8
  rw [hrev]
  have hcode : (Cond.code y Mc.2.1 Mc.2.2.1 Mc.2.2.2.1).before args s = true := ht _ f5.2
  have hini : (Cond.initialized y.cls).before args s = true := ht _ f5.1
  have hcells : cells + rc' ≤ R.cells ∧ slots + rs' ≤ R.slots := ⟨by omega, by omega⟩
  rcases hw with ⟨hw | ⟨host, hw⟩, hw2⟩
  · have hg2 := xgoodin f5.2
    rw [hw2.2.2] at hM hcode hg2
    have run : va_Run p l e R s m args below meth c H locs cells slots rc' rs' (F0 m pc lsm ((As.map (xcv ad)).reverse ++ Value.ref (ad o) :: st.map (xcv ad))) (st.map (xcv ad)) (xQc none D cI cZ ad base md rc' Q' (Value.ref (ad o) :: As.map (xcv ad)).toArray) (fun q => base ≤ q) := va_runI (As := As.map (xcv ad)) (nL := M.2.2.1) ⟨hC.1, hC.2.1, hC.2.2.1, hC.2.2.2.1, ht⟩ hM (n := ka) ⟨callB_of (bytes := Mc.2.1) (maxL := Mc.2.2.1) (ret := none) ka ht hg2 rfl rfl rfl hini (ht _ hw) f2 ⟨by show Mc.2.2.2.2.2.1 + 1 ≤ R.frames; omega, by show 8 + (Mc.2.2.1 + 11) + Mc.2.2.2.2.2.2.1 ≤ R.locals; omega⟩, hw2.1, ht _ hw2.2.1⟩ ⟨xPre_blind, hpre⟩ rfl (by rw [List.length_map]; exact hka) hls.1 rfl (lv_room h8') hd hcells
    rw [← hw2.2.2] at run
    exact xcall (Mc := Mc) hl hstok hC hRel hsz hS hls hc hb hE run k
  · have hg2 := xgoodin f5.2
    rw [hw2.2.2] at hM hcode hg2
    have run : va_Run p l e R s m args below meth c H locs cells slots rc' rs' (F0 m pc lsm ((As.map (xcv ad)).reverse ++ Value.ref (ad o) :: st.map (xcv ad))) (st.map (xcv ad)) (xQc none D cI cZ ad base md rc' Q' (Value.ref (ad o) :: As.map (xcv ad)).toArray) (fun q => base ≤ q) := va_runIN (As := As.map (xcv ad)) (nL := M.2.2.1) ⟨hC.1, hC.2.1, hC.2.2.1, hC.2.2.2.1, ht⟩ hM (n := ka) ⟨va_cnB ka ht hg2 rfl rfl rfl (hC.2.2.2.2.2.2.2.2.2.2 _ hw) hini f2 ⟨by show Mc.2.2.2.2.2.1 + 1 ≤ R.frames; omega, by show 8 + (Mc.2.2.1 + 11) + Mc.2.2.2.2.2.2.1 ≤ R.locals; omega⟩, hw2.1, ht _ hw2.2.1⟩ ⟨xPre_blind, hpre⟩ rfl (by rw [List.length_map]; exact hka) hls.1 rfl (lv_room h8') hd hcells
    rw [← hw2.2.2] at run
    exact xcall (Mc := Mc) hl hstok hC hRel hsz hS hls hc hb hE run k
end
end
section
/-! WHAT THE METHODS SAY, as functions: their pieces -/
def xgd {α : Type} (i n : Int) (k : Option α) : Option α := if 0 ≤ i ∧ i < n then k else none
theorem xgd_e {α : Type} {i n : Int} {k : Option α} {x : α} (hf : xgd i n k = some x) : (0 ≤ i ∧ i < n) ∧ k = some x := by
  unfold xgd at hf
  split at hf
  · next q => exact ⟨q, hf⟩
  · cases hf
theorem xgd_pos {α : Type} {i n : Int} {k : Option α} (h1 : 0 ≤ i) (h2 : i < n) : xgd i n k = k := if_pos ⟨h1, h2⟩
noncomputable def xgp {α : Type} (p : Prop) (k : Option α) : Option α := @ite _ p (Classical.propDecidable p) k none
theorem xgp_e {α : Type} {p : Prop} {k : Option α} {x : α} (hf : xgp p k = some x) : p ∧ k = some x := by
  unfold xgp at hf
  split at hf
  · next q => exact ⟨q, hf⟩
  · cases hf
theorem xgp_pos {α : Type} {p : Prop} {k : Option α} (h : p) : xgp p k = k := if_pos h
def xgb {α : Type} (v : Int) (k : Option α) : Option α := if v = 0 ∨ v = 1 then k else none
theorem xgb_e {α : Type} {v : Int} {k : Option α} {x : α} (hf : xgb v k = some x) : (v = 0 ∨ v = 1) ∧ k = some x := by
  unfold xgb at hf
  split at hf
  · next q => exact ⟨q, hf⟩
  · cases hf
theorem xgb_pos {α : Type} {v : Int} {k : Option α} (h : v = 0 ∨ v = 1) : xgb v k = k := if_pos h
def xgc {α : Type} (sp dp k0 na nb : Int) (k : Option α) : Option α := if 0 ≤ sp ∧ 0 ≤ dp ∧ 0 ≤ k0 ∧ sp + k0 ≤ na ∧ dp + k0 ≤ nb then k else none
theorem xgc_e {α : Type} {sp dp k0 na nb : Int} {k : Option α} {x : α} (hf : xgc sp dp k0 na nb k = some x) : (0 ≤ sp ∧ 0 ≤ dp ∧ 0 ≤ k0 ∧ sp + k0 ≤ na ∧ dp + k0 ≤ nb) ∧ k = some x := by
  unfold xgc at hf
  split at hf
  · next q => exact ⟨q, hf⟩
  · cases hf
theorem xgc_pos {α : Type} {sp dp k0 na nb : Int} {k : Option α} (h1 : 0 ≤ sp) (h2 : 0 ≤ dp) (h3 : 0 ≤ k0) (h4 : sp + k0 ≤ na) (h5 : dp + k0 ≤ nb) : xgc sp dp k0 na nb k = k := if_pos ⟨h1, h2, h3, h4, h5⟩
def xlet {β α : Type} (e : β) (f : β → Option α) : Option α := f e
theorem xlet_e {β α : Type} {e : β} {f : β → Option α} {x : α} (hf : xlet e f = some x) : ∃ y, y = e ∧ f y = some x := ⟨e, rfl, hf⟩
def xc1 {β α : Type} (o : Option β) (f : β → Option α) : Option α := o.bind f
theorem xc1_e {β α : Type} {o : Option β} {f : β → Option α} {x : α} (hf : xc1 o f = some x) : ∃ y, o = some y ∧ f y = some x := Option.bind_eq_some_iff.mp hf
theorem xc1_some {β α : Type} {y : β} {f : β → Option α} : xc1 (some y) f = f y := rfl
def xc2 {γ β α : Type} (o : Option (γ × β)) (f : γ → β → Option α) : Option α := o.bind fun q => f q.1 q.2
theorem xc2_e {γ β α : Type} {o : Option (γ × β)} {f : γ → β → Option α} {x : α} (hf : xc2 o f = some x) : ∃ r h, o = some (r, h) ∧ f r h = some x := by
  obtain ⟨q, h1, h2⟩ := Option.bind_eq_some_iff.mp hf
  exact ⟨q.1, q.2, h1, h2⟩
theorem xc2_some {γ β α : Type} {y : γ} {h : β} {f : γ → β → Option α} : xc2 (some (y, h)) f = f y h := rfl
def xsw {β γ δ : Type} (b : β ⊕ γ) (f : β → δ) (g : γ → δ) : δ := match b with
  | .inl x => f x
  | .inr y => g y
theorem xip {α : Type} {c : Prop} {i : Decidable c} {A B : Option α} {x : α} (hc : c) (hf : @ite _ c i A B = some x) : A = some x := by rw [if_pos hc] at hf; exact hf
theorem xin' {α : Type} {c : Prop} {i : Decidable c} {A B : Option α} {x : α} (hc : ¬ c) (hf : @ite _ c i A B = some x) : B = some x := by rw [if_neg hc] at hf; exact hf
def xiter {σ β : Type} (step : σ → Option (σ ⊕ β)) : Nat → σ → Option β
  | 0, _ => none
  | n + 1, s => match step s with
    | none => none
    | some (.inl s') => xiter step n s'
    | some (.inr b) => some b
/-- the step, again and again, till it leaves -/
noncomputable def xloop {σ β : Type} (step : σ → Option (σ ⊕ β)) (s : σ) : Option β := @dite _ (∃ n b, xiter step n s = some b) (Classical.propDecidable _) (fun h => some h.choose_spec.choose) (fun _ => none)
theorem xiter_mono {σ β : Type} {step : σ → Option (σ ⊕ β)} : ∀ (n : Nat) (s : σ) (b : β), xiter step n s = some b → ∀ m, n ≤ m → xiter step m s = some b
  | 0, s, b, h, _, _ => by cases h
  | n + 1, s, b, h, m, hm => by
    obtain ⟨k, rfl⟩ : ∃ k, m = k + 1 := ⟨m - 1, by omega⟩
    cases hs : step s with
    | none => simp [xiter, hs] at h
    | some q =>
      cases q with
      | inl s' => simp only [xiter, hs] at h ⊢; exact xiter_mono n s' b h k (by omega)
      | inr b' => simp only [xiter, hs] at h ⊢; exact h
theorem xloop_iff {σ β : Type} {step : σ → Option (σ ⊕ β)} {s : σ} {b : β} : xloop step s = some b ↔ ∃ n, xiter step n s = some b := by
  constructor
  · intro h
    unfold xloop at h
    split at h
    · next q => exact ⟨q.choose, by rw [q.choose_spec.choose_spec]; exact h⟩
    · cases h
  · intro ⟨n, hn⟩
    unfold xloop
    split
    · next q =>
      have h1 := q.choose_spec.choose_spec
      have h2 := xiter_mono _ _ _ h1 (max q.choose n) (by omega)
      have h3 := xiter_mono _ _ _ hn (max q.choose n) (by omega)
      rw [h2] at h3
      exact h3
    · next q => exact absurd ⟨n, b, hn⟩ q
theorem xloop_ind {σ β : Type} {step : σ → Option (σ ⊕ β)} {s0 : σ} {b : β} {P : σ → Prop} (hl : xloop step s0 = some b) (hb : ∀ s x, step s = some x → (∀ s', x = .inl s' → P s') → (∀ b', x = .inr b' → b' = b) → P s) : P s0 := by
  obtain ⟨n, hn⟩ := xloop_iff.mp hl
  clear hl
  induction n generalizing s0 with
  | zero => cases hn
  | succ n ih =>
    unfold xiter at hn
    split at hn
    · cases hn
    · next s' hs => exact hb s0 _ hs (fun q hq => by cases hq; exact ih hn) (fun q hq => by cases hq)
    · next b' hs => exact hb s0 _ hs (fun q hq => by cases hq) (fun q hq => by cases hq; exact Option.some.inj hn)
theorem xloop_out {σ β : Type} {step : σ → Option (σ ⊕ β)} {s : σ} {b : β} (h : step s = some (.inr b)) : xloop step s = some b := xloop_iff.mpr ⟨1, by simp only [xiter, h]⟩
theorem xloop_in {σ β : Type} {step : σ → Option (σ ⊕ β)} {s s' : σ} (h : step s = some (.inl s')) : xloop step s = xloop step s' := by
  have key : ∀ b, xloop step s = some b ↔ xloop step s' = some b := by
    intro b
    rw [xloop_iff, xloop_iff]
    constructor
    · intro ⟨n, hn⟩
      cases n with
      | zero => cases hn
      | succ n => exact ⟨n, by simp only [xiter, h] at hn; exact hn⟩
    · intro ⟨n, hn⟩
      exact ⟨n + 1, by simp only [xiter, h]; exact hn⟩
  cases hx : xloop step s with
  | none =>
    cases hy : xloop step s' with
    | none => rfl
    | some b => have := (key b).mpr hy; rw [hx] at this; cases this
  | some b => exact ((key b).mp hx).symm
/-- an answer, and the heap behind it -/
def xEq (r0 : Option Int) (h0 : xH) : xQ := fun r n h => r = r0 ∧ n = xKn ∧ h = h0
theorem xq_i {v r0 : Int} {h h0 : xH} (hf : some (v, h) = some (r0, h0)) : xEq (some r0) h0 (some v) xKn h := by
  cases hf
  exact ⟨rfl, rfl, rfl⟩
theorem xq_p {v r0 : Int} {h : xH} (hf : some v = some r0) : xEq (some r0) h (some v) xKn h := by
  cases hf
  exact ⟨rfl, rfl, rfl⟩
theorem xq_v {h h0 : xH} (hf : some h = some h0) : xEq none h0 none xKn h := by
  cases hf
  exact ⟨rfl, rfl, rfl⟩
theorem xinl {α β : Type} {a : α ⊕ β} {x : α ⊕ β} (hf : some a = some x) : x = a := (Option.some.inj hf).symm
theorem xK_rg {o : Int} {k : Nat} (h : xK o = 3 + k) : 1 ≤ o ∧ o ≤ (xKn : Int) := xK_rng (by omega)
theorem xK_r1 {o : Int} (h : xK o = 1) : 1 ≤ o ∧ o ≤ (xKn : Int) := xK_rng (by omega)
theorem xK_r2 {o : Int} (h : xK o = 2) : 1 ≤ o ∧ o ≤ (xKn : Int) := xK_rng (by omega)
section
variable {M Mc : xM} {rc rs pc : Nat} {ls : List (Nat × xV)} {st : List xV} {h h1 : xH} {Q : xQ} {y : MethodName}
theorem J_getRl {o v : Int} {ci j N idx : Nat} {C : String} {T : u_T} {ty : Nat → FieldType} (hF : xCF ci C T N ty) (hd : decode M.2.1 pc = .ok (.getfield idx, 3)) (hk : xK o = 3 + ci) (hw : xLk M.1 idx C (T j).2.1 (T j).2.2.1) (hj : j < N) (hz : xIsR ci j = true) (hv : xRf o j = v ∧ v ≠ 0) (k : J M true rc rs (pc + 3) xKn ls (xR v :: st) h Q) : J M true rc rs pc xKn ls (xR o :: st) h Q :=
  J_getR hF hd (xK_rng (by omega)) hk hw hj hz (fun g => ⟨by rw [(g rfl).2 o j (by rw [hv.1]; exact hv.2), hv.1], hv.2⟩) k
theorem J_ireti {v : Int} {md : Bool} {n : Nat} (hd : decode M.2.1 pc = .ok (.ireturn, 1)) (ht : M.2.2.2.1 = some .int) (hq : Q (some v) n h) : J M md 0 0 pc n ls [xI v] h Q := fun hl hs => J_iret hd (by rw [ht]; exact xs0 hs) hq hl hs
theorem J_iretz {v : Int} {md : Bool} {n : Nat} (hd : decode M.2.1 pc = .ok (.ireturn, 1)) (ht : M.2.2.2.1 = some .boolean) (hv : v = 0 ∨ v = 1) (hq : Q (some v) n h) : J M md 0 0 pc n ls [xI v] h Q := J_iret hd (by rw [ht]; exact hv) hq
theorem J_rt {md : Bool} {n : Nat} (hd : decode M.2.1 pc = .ok (.return_, 1)) (ht : M.2.2.2.1 = none) (hq : Q none n h) : J M md 0 0 pc n ls [] h Q := J_ret hd (by rw [ht]; trivial) hq
/-- what is known of a callee -/
def xFc (Mc : xM) (y : MethodName) (k : Nat) : Prop :=
  (plainName y.cls = true ∧ Mc.1 = y.cls ∧ (Mc.2.2.2.2.1 = true → y.name = "<init>") ∧ Mc.2.2.2.2.2.2.2 = none) ∧ (y.cls ≠ "java/lang/invoke/MethodHandle" ∧ y.cls ≠ "java/lang/invoke/VarHandle" ∧ (parseMethodDescriptor y.desc).map (fun d => d.parameters.length) = some k) ∧
  (Cond.initialized y.cls ∈ xtbl ∧ Cond.code y Mc.2.1 Mc.2.2.1 Mc.2.2.2.1 ∈ xtbl)
theorem xFc.fit {k : Nat} (h : xFc Mc y k) (hr : Mc.2.2.2.2.2.1 + 1 ≤ M.2.2.2.2.2.1 ∧ 8 + (Mc.2.2.1 + 11) + Mc.2.2.2.2.2.2.1 ≤ M.2.2.2.2.2.2.1) : xFit M Mc y k := ⟨h.1, h.2.1, hr, h.2.2⟩
theorem xbl {a b : Nat} (h : Nat.ble a b = true) : a ≤ b := Nat.le_of_ble_eq_true h
theorem J_cVi {idx ka ci : Nat} {stk : List xV} (As : List xV) {o r1 : Int} {T0 : u_T} {N0 : Nat} (hd : decode M.2.1 pc = .ok (.invokevirtual idx, 3)) (hfit : xFit M Mc y ka) (hka : As.length = ka) (hw : (Cond.methodLink M.1 idx y ∈ xtbl ∨ ∃ host, Cond.methodLinkNest M.1 idx y host ∈ xnst) ∧ Cond.instanceMethod y ∈ xtbl ∧ Cond.selects y.cls y y ∈ xtbl) (hk : xK o = 3 + ci) (hcl : vwCl[ci]? = some (y.cls, T0, N0)) (hstk : stk = As.reverse ++ xR o :: st) (h8 : (st.map xcat).sum ≤ 8) (hlen : ((xR o :: As).map xcat).sum ≤ Mc.2.2.1) (hJ : J Mc true 0 0 0 xKn (xen 0 (xR o :: As)) [] h (xEq (some r1) h1))
    (k : J M true 0 0 (pc + 3) xKn ls (xI r1 :: st) h1 Q) : J M true 0 0 pc xKn ls stk h Q :=
  J_callV As hd hfit hka hw (xK_rg hk) hk hcl hstk h8 hlen ⟨rfl, rfl⟩ hJ (fun r n' h' hq _ => by rw [hq.1, hq.2.1, hq.2.2]; exact k)
theorem J_cVv {idx ka ci : Nat} {stk : List xV} (As : List xV) {o : Int} {T0 : u_T} {N0 : Nat} (hd : decode M.2.1 pc = .ok (.invokevirtual idx, 3)) (hfit : xFit M Mc y ka) (hka : As.length = ka) (hw : (Cond.methodLink M.1 idx y ∈ xtbl ∨ ∃ host, Cond.methodLinkNest M.1 idx y host ∈ xnst) ∧ Cond.instanceMethod y ∈ xtbl ∧ Cond.selects y.cls y y ∈ xtbl) (hk : xK o = 3 + ci) (hcl : vwCl[ci]? = some (y.cls, T0, N0)) (hstk : stk = As.reverse ++ xR o :: st) (h8 : (st.map xcat).sum ≤ 8) (hlen : ((xR o :: As).map xcat).sum ≤ Mc.2.2.1) (hJ : J Mc true 0 0 0 xKn (xen 0 (xR o :: As)) [] h (xEq none h1))
    (k : J M true 0 0 (pc + 3) xKn ls st h1 Q) : J M true 0 0 pc xKn ls stk h Q :=
  J_callV As hd hfit hka hw (xK_rg hk) hk hcl hstk h8 hlen ⟨rfl, rfl⟩ hJ (fun r n' h' hq _ => by rw [hq.1, hq.2.1, hq.2.2]; exact k)
theorem J_cSi {idx ka : Nat} {stk : List xV} (As : List xV) {r1 : Int} (hd : decode M.2.1 pc = .ok (.invokestatic idx, 3)) (hfit : xFit M Mc y ka) (hka : As.length = ka) (hw : (Cond.methodLink M.1 idx y ∈ xtbl ∨ ∃ host, Cond.methodLinkNest M.1 idx y host ∈ xnst) ∧ Cond.static y ∈ xtbl) (hstk : stk = As.reverse ++ st) (h8 : (st.map xcat).sum ≤ 8) (hlen : (As.map xcat).sum ≤ Mc.2.2.1) (hJ : J Mc true 0 0 0 xKn (xen 0 As) [] h (xEq (some r1) h1))
    (k : J M true 0 0 (pc + 3) xKn ls (xI r1 :: st) h1 Q) : J M true 0 0 pc xKn ls stk h Q :=
  J_callS As hd hfit hka hw hstk h8 hlen ⟨rfl, rfl⟩ hJ (fun r n' h' hq _ => by rw [hq.1, hq.2.1, hq.2.2]; exact k)
theorem J_cSv {idx ka : Nat} {stk : List xV} (As : List xV) (hd : decode M.2.1 pc = .ok (.invokestatic idx, 3)) (hfit : xFit M Mc y ka) (hka : As.length = ka) (hw : (Cond.methodLink M.1 idx y ∈ xtbl ∨ ∃ host, Cond.methodLinkNest M.1 idx y host ∈ xnst) ∧ Cond.static y ∈ xtbl) (hstk : stk = As.reverse ++ st) (h8 : (st.map xcat).sum ≤ 8) (hlen : (As.map xcat).sum ≤ Mc.2.2.1) (hJ : J Mc true 0 0 0 xKn (xen 0 As) [] h (xEq none h1))
    (k : J M true 0 0 (pc + 3) xKn ls st h1 Q) : J M true 0 0 pc xKn ls stk h Q :=
  J_callS As hd hfit hka hw hstk h8 hlen ⟨rfl, rfl⟩ hJ (fun r n' h' hq _ => by rw [hq.1, hq.2.1, hq.2.2]; exact k)
end
end
section
/-! FACTS of the claim: words, classes, methods, cells -/
theorem xcf0 : xCF 0 RX0 TX0 5 tyX0 := ⟨rfl, fun w hw => List.mem_filter.mpr ⟨(by decide +kernel : ∀ w ∈ u_ws RX0 TX0 5, w ∈ lw_tbl) w hw, (by decide +kernel : ∀ w ∈ u_ws RX0 TX0 5, xgood w = true) w hw⟩, rfl, by decide +kernel, tyX0_ok, nmX0⟩
theorem xcf1 : xCF 1 RX1 TX1 3 tyX1 := ⟨rfl, fun w hw => List.mem_filter.mpr ⟨(by decide +kernel : ∀ w ∈ u_ws RX1 TX1 3, w ∈ lw_tbl) w hw, (by decide +kernel : ∀ w ∈ u_ws RX1 TX1 3, xgood w = true) w hw⟩, rfl, by decide +kernel, tyX1_ok, nmX1⟩
theorem xcf2 : xCF 2 RX2 TX2 8 tyX2 := ⟨rfl, fun w hw => List.mem_filter.mpr ⟨(by decide +kernel : ∀ w ∈ u_ws RX2 TX2 8, w ∈ lw_tbl) w hw, (by decide +kernel : ∀ w ∈ u_ws RX2 TX2 8, xgood w = true) w hw⟩, rfl, by decide +kernel, tyX2_ok, nmX2⟩
theorem xcf3 : xCF 3 RX3 TX3 8 tyX3 := ⟨rfl, fun w hw => List.mem_filter.mpr ⟨(by decide +kernel : ∀ w ∈ u_ws RX3 TX3 8, w ∈ lw_tbl) w hw, (by decide +kernel : ∀ w ∈ u_ws RX3 TX3 8, xgood w = true) w hw⟩, rfl, by decide +kernel, tyX3_ok, nmX3⟩
theorem xcf4 : xCF 4 RX4 TX4 2 tyX4 := ⟨rfl, fun w hw => List.mem_filter.mpr ⟨(by decide +kernel : ∀ w ∈ u_ws RX4 TX4 2, w ∈ lw_tbl) w hw, (by decide +kernel : ∀ w ∈ u_ws RX4 TX4 2, xgood w = true) w hw⟩, rfl, by decide +kernel, tyX4_ok, nmX4⟩
theorem xcf5 : xCF 5 RX5 TX5 3 tyX5 := ⟨rfl, fun w hw => List.mem_filter.mpr ⟨(by decide +kernel : ∀ w ∈ u_ws RX5 TX5 3, w ∈ lw_tbl) w hw, (by decide +kernel : ∀ w ∈ u_ws RX5 TX5 3, xgood w = true) w hw⟩, rfl, by decide +kernel, tyX5_ok, nmX5⟩
theorem xcf6 : xCF 6 RX6 TX6 7 tyX6 := ⟨rfl, fun w hw => List.mem_filter.mpr ⟨(by decide +kernel : ∀ w ∈ u_ws RX6 TX6 7, w ∈ lw_tbl) w hw, (by decide +kernel : ∀ w ∈ u_ws RX6 TX6 7, xgood w = true) w hw⟩, rfl, by decide +kernel, tyX6_ok, nmX6⟩
theorem xcf7 : xCF 7 RX7 TX7 2 tyX7 := ⟨rfl, fun w hw => List.mem_filter.mpr ⟨(by decide +kernel : ∀ w ∈ u_ws RX7 TX7 2, w ∈ lw_tbl) w hw, (by decide +kernel : ∀ w ∈ u_ws RX7 TX7 2, xgood w = true) w hw⟩, rfl, by decide +kernel, tyX7_ok, nmX7⟩
theorem xcf8 : xCF 8 RX8 TX8 4 tyX8 := ⟨rfl, fun w hw => List.mem_filter.mpr ⟨(by decide +kernel : ∀ w ∈ u_ws RX8 TX8 4, w ∈ lw_tbl) w hw, (by decide +kernel : ∀ w ∈ u_ws RX8 TX8 4, xgood w = true) w hw⟩, rfl, by decide +kernel, tyX8_ok, nmX8⟩
theorem xcf9 : xCF 9 RX9 TX9 9 tyX9 := ⟨rfl, fun w hw => List.mem_filter.mpr ⟨(by decide +kernel : ∀ w ∈ u_ws RX9 TX9 9, w ∈ lw_tbl) w hw, (by decide +kernel : ∀ w ∈ u_ws RX9 TX9 9, xgood w = true) w hw⟩, rfl, by decide +kernel, tyX9_ok, nmX9⟩
theorem xcf10 : xCF 10 RX10 TX10 7 tyX10 := ⟨rfl, fun w hw => List.mem_filter.mpr ⟨(by decide +kernel : ∀ w ∈ u_ws RX10 TX10 7, w ∈ lw_tbl) w hw, (by decide +kernel : ∀ w ∈ u_ws RX10 TX10 7, xgood w = true) w hw⟩, rfl, by decide +kernel, tyX10_ok, nmX10⟩
theorem xcf11 : xCF 11 RX11 TX11 17 tyX11 := ⟨rfl, fun w hw => List.mem_filter.mpr ⟨(by decide +kernel : ∀ w ∈ u_ws RX11 TX11 17, w ∈ lw_tbl) w hw, (by decide +kernel : ∀ w ∈ u_ws RX11 TX11 17, xgood w = true) w hw⟩, rfl, by decide +kernel, tyX11_ok, nmX11⟩
theorem xcf12 : xCF 12 RX12 TX12 86 tyX12 := ⟨rfl, fun w hw => List.mem_filter.mpr ⟨(by decide +kernel : ∀ w ∈ u_ws RX12 TX12 86, w ∈ lw_tbl) w hw, (by decide +kernel : ∀ w ∈ u_ws RX12 TX12 86, xgood w = true) w hw⟩, rfl, by decide +kernel, tyX12_ok, nmX12⟩
abbrev mX7_append : xM := (RX7, cX7_append, 5, (some .int), false, 0, 0, none)
abbrev mX11_feed : xM := (RX11, cX11_feed, 4, (some .int), false, 1, 24, none)
abbrev mX4_clear : xM := (RX4, cX4_clear, 1, none, false, 0, 0, none)
abbrev mX4_append : xM := (RX4, cX4_append, 2, (some .boolean), false, 0, 0, none)
abbrev mX7_read : xM := (RX7, cX7_read, 7, (some .boolean), false, 1, 21, none)
abbrev mX7_takeRow : xM := (RX7, cX7_takeRow, 3, (some .boolean), false, 2, 47, none)
abbrev mX5_at : xM := (RX5, cX5_at, 4, (some .int), false, 0, 0, none)
abbrev mX4_at : xM := (RX4, cX4_at, 2, (some .int), false, 0, 0, none)
abbrev mX5_order : xM := (RX5, cX5_order, 5, (some .int), false, 1, 23, none)
abbrev mX1_place : xM := (RX1, cX1_place, 5, (some .int), false, 2, 47, none)
abbrev mX1_numberOf : xM := (RX1, cX1_numberOf, 3, (some .int), false, 3, 71, none)
abbrev mX5_isFull : xM := (RX5, cX5_isFull, 1, (some .boolean), false, 0, 0, none)
abbrev mX5_insert : xM := (RX5, cX5_insert, 3, none, false, 1, 28, none)
abbrev mX1_grow : xM := (RX1, cX1_grow, 5, (some .int), false, 4, 93, none)
abbrev mX11_add : xM := (RX11, cX11_add, 3, (some .int), false, 5, 117, none)
abbrev mX5_remove : xM := (RX5, cX5_remove, 3, none, false, 1, 28, none)
abbrev mX1_remove : xM := (RX1, cX1_remove, 4, (some .int), false, 4, 93, none)
abbrev mX11_drop : xM := (RX11, cX11_drop, 1, (some .int), false, 5, 116, none)
abbrev mX11_find : xM := (RX11, cX11_find, 1, (some .int), false, 4, 93, none)
abbrev mX1_countOf : xM := (RX1, cX1_countOf, 2, (some .int), false, 0, 0, none)
abbrev mX5_sizeOf : xM := (RX5, cX5_sizeOf, 2, (some .int), false, 0, 0, none)
abbrev mX11_word : xM := (RX11, cX11_word, 3, (some .int), false, 1, 23, none)
abbrev mX5_shared : xM := (RX5, cX5_shared, 3, (some .int), false, 1, 23, none)
abbrev mX1_nodes : xM := (RX1, cX1_nodes, 3, (some .int), false, 2, 45, none)
abbrev mX11_count : xM := (RX11, cX11_count, 2, (some .int), false, 3, 67, none)
abbrev mX6_setKind : xM := (RX6, cX6_setKind, 4, (some .int), false, 0, 0, none)
abbrev mX6_exchange : xM := (RX6, cX6_exchange, 4, (some .int), false, 0, 0, none)
abbrev mX6_setByLetters : xM := (RX6, cX6_setByLetters, 5, (some .int), false, 1, 23, none)
abbrev mX11_price : xM := (RX11, cX11_price, 5, (some .int), false, 2, 47, none)
abbrev mX7_seek : xM := (RX7, cX7_seek, 5, (some .int), false, 0, 0, none)
abbrev mX7_takeTwo : xM := (RX7, cX7_takeTwo, 6, (some .boolean), false, 2, 47, none)
abbrev mX5_append : xM := (RX5, cX5_append, 2, none, false, 2, 50, none)
abbrev mX6_addSound : xM := (RX6, cX6_addSound, 5, (some .int), false, 3, 71, none)
abbrev mX11_sound : xM := (RX11, cX11_sound, 3, (some .int), false, 4, 95, none)
abbrev mX11_model : xM := (RX11, cX11_model, 3, (some .int), false, 0, 0, none)
abbrev mX6_codes : xM := (RX6, cX6_codes, 1, (some .int), false, 0, 0, none)
abbrev mX6_byLetters : xM := (RX6, cX6_byLetters, 4, (some .int), false, 0, 0, none)
abbrev mX5_standsIn : xM := (RX5, cX5_standsIn, 7, (some .boolean), false, 0, 0, none)
abbrev mX6_soundPrice : xM := (RX6, cX6_soundPrice, 2, (some .int), false, 0, 0, none)
abbrev mX6_priceAt : xM := (RX6, cX6_priceAt, 9, (some .int), false, 1, 26, none)
abbrev mX6_meantTaken : xM := (RX6, cX6_meantTaken, 2, (some .int), false, 1, 21, none)
abbrev mX6_typedTaken : xM := (RX6, cX6_typedTaken, 2, (some .int), false, 1, 21, none)
abbrev mX10_sumBy : xM := (RX10, cX10_sumBy, 8, (some .int), false, 2, 54, none)
abbrev mX10_leastFrom : xM := (RX10, cX10_leastFrom, 7, (some .int), false, 3, 81, none)
abbrev mX10_measure : xM := (RX10, cX10_measure, 6, (some .int), false, 4, 107, none)
abbrev mX10_firstCode : xM := (RX10, cX10_firstCode, 7, (some .int), false, 3, 81, none)
abbrev mX10_trace : xM := (RX10, cX10_trace, 6, none, false, 4, 107, none)
abbrev mX11_distance : xM := (RX11, cX11_distance, 2, (some .int), false, 5, 132, none)
abbrev mX10_codeAt : xM := (RX10, cX10_codeAt, 2, (some .int), false, 0, 0, none)
abbrev mX10_tell : xM := (RX10, cX10_tell, 4, (some .int), false, 1, 28, none)
abbrev mX11_way : xM := (RX11, cX11_way, 3, (some .int), false, 2, 51, none)
abbrev mX11_isNoBound : xM := (RX11, cX11_isNoBound, 1, (some .boolean), false, 0, 0, none)
abbrev mX3_clear : xM := (RX3, cX3_clear, 2, none, false, 1, 28, none)
abbrev mX5_copyTo : xM := (RX5, cX5_copyTo, 4, none, false, 1, 23, none)
abbrev mX6_mayStand : xM := (RX6, cX6_mayStand, 4, (some .boolean), false, 1, 26, none)
abbrev mX9_reach : xM := (RX9, cX9_reach, 10, none, false, 2, 54, none)
abbrev mX9_fill : xM := (RX9, cX9_fill, 5, none, false, 3, 83, none)
abbrev mX9_sumUp : xM := (RX9, cX9_sumUp, 7, none, false, 1, 28, none)
abbrev mX9_isLeft : xM := (RX9, cX9_isLeft, 4, (some .boolean), false, 1, 28, none)
abbrev mX3_keep : xM := (RX3, cX3_keep, 6, none, false, 1, 28, none)
abbrev mX9_descend : xM := (RX9, cX9_descend, 7, (some .int), false, 4, 107, none)
abbrev mX9_go : xM := (RX9, cX9_go, 10, none, false, 5, 133, none)
abbrev mX1_share : xM := (RX1, cX1_share, 2, (some .int), false, 1, 21, none)
abbrev mX0_isAhead : xM := (RX0, cX0_isAhead, 5, (some .boolean), false, 1, 21, none)
abbrev mX0_move : xM := (RX0, cX0_move, 4, none, false, 0, 0, none)
abbrev mX0_lay : xM := (RX0, cX0_lay, 6, none, false, 2, 45, none)
abbrev mX0_gather : xM := (RX0, cX0_gather, 5, (some .int), false, 3, 70, none)
abbrev mX11_near : xM := (RX11, cX11_near, 3, (some .int), false, 6, 162, none)
abbrev mX11_nearest : xM := (RX11, cX11_nearest, 3, (some .int), false, 6, 162, none)
abbrev mX11_complete : xM := (RX11, cX11_complete, 3, (some .int), false, 6, 162, none)
abbrev mX0_tell : xM := (RX0, cX0_tell, 3, (some .int), false, 0, 0, none)
abbrev mX11_found : xM := (RX11, cX11_found, 3, (some .int), false, 1, 22, none)
abbrev mX3_stateAt : xM := (RX3, cX3_stateAt, 4, (some .int), false, 0, 0, none)
abbrev mX3_least : xM := (RX3, cX3_least, 4, (some .int), false, 1, 28, none)
abbrev mX3_tell : xM := (RX3, cX3_tell, 3, (some .int), false, 2, 51, none)
abbrev mX11_node : xM := (RX11, cX11_node, 3, (some .int), false, 3, 73, none)
abbrev mX11_pair : xM := (RX11, cX11_pair, 1, (some .int), false, 3, 72, none)
abbrev mJ7_fill_53178 : xM := (RJ7, cJ7_fill_53178, 4, none, false, 0, 0, none)
abbrev mX11_readPair : xM := (RX11, cX11_readPair, 2, none, false, 2, 46, none)
abbrev mX11_noteWay : xM := (RX11, cX11_noteWay, 6, (some .boolean), false, 1, 21, none)
abbrev mX11_findWays : xM := (RX11, cX11_findWays, 3, (some .boolean), false, 5, 132, none)
abbrev mX6_setByCounts : xM := (RX6, cX6_setByCounts, 4, (some .boolean), false, 0, 0, none)
abbrev mX11_learn : xM := (RX11, cX11_learn, 5, (some .int), false, 6, 154, none)
abbrev mX11_spread : xM := (RX11, cX11_spread, 3, (some .int), false, 5, 132, none)
abbrev mX5_clear : xM := (RX5, cX5_clear, 1, none, false, 0, 0, none)
abbrev mX7_takeText : xM := (RX7, cX7_takeText, 7, (some .boolean), false, 3, 71, none)
abbrev mX2_clear : xM := (RX2, cX2_clear, 2, none, false, 1, 28, none)
abbrev mX2_cellOf : xM := (RX2, cX2_cellOf, 3, (some .int), false, 0, 0, none)
abbrev mX2_offer : xM := (RX2, cX2_offer, 7, none, false, 1, 22, none)
abbrev mX2_offers : xM := (RX2, cX2_offers, 4, (some .boolean), false, 1, 22, none)
abbrev mX6_kindPrice : xM := (RX6, cX6_kindPrice, 2, (some .int), false, 0, 0, none)
abbrev mX11_offerSplit : xM := (RX11, cX11_offerSplit, 3, none, false, 4, 93, none)
abbrev mX11_offerJoin : xM := (RX11, cX11_offerJoin, 5, none, false, 4, 93, none)
abbrev mX11_offerMended : xM := (RX11, cX11_offerMended, 3, none, false, 4, 94, none)
abbrev mX2_taken : xM := (RX2, cX2_taken, 1, (some .int), false, 0, 0, none)
abbrev mX2_sumBy : xM := (RX2, cX2_sumBy, 5, (some .int), false, 1, 22, none)
abbrev mX2_bestKind : xM := (RX2, cX2_bestKind, 4, (some .int), false, 2, 46, none)
abbrev mX2_choose : xM := (RX2, cX2_choose, 3, (some .int), false, 3, 69, none)
abbrev mX11_mend : xM := (RX11, cX11_mend, 5, (some .int), false, 6, 162, none)
abbrev mX2_tell : xM := (RX2, cX2_tell, 6, (some .int), false, 1, 22, none)
abbrev mX11_part : xM := (RX11, cX11_part, 3, (some .int), false, 2, 47, none)
abbrev mX11_isThing : xM := (RX11, cX11_isThing, 3, (some .boolean), false, 0, 0, none)
abbrev mX8_refuse : xM := (RX8, cX8_refuse, 2, (some .int), false, 0, 0, none)
abbrev mX8_clear : xM := (RX8, cX8_clear, 3, none, false, 0, 0, none)
abbrev mX8_lay : xM := (RX8, cX8_lay, 3, none, false, 0, 0, none)
abbrev mX11_layLetters : xM := (RX11, cX11_layLetters, 4, none, false, 1, 23, none)
abbrev mX11_layState : xM := (RX11, cX11_layState, 4, none, false, 1, 23, none)
abbrev mX11_layPrices : xM := (RX11, cX11_layPrices, 3, none, false, 1, 22, none)
abbrev mX11_layTruths : xM := (RX11, cX11_layTruths, 6, none, false, 1, 23, none)
abbrev mX8_done : xM := (RX8, cX8_done, 2, (some .int), false, 0, 0, none)
abbrev mX11_put : xM := (RX11, cX11_put, 4, (some .int), false, 2, 48, none)
abbrev mX8_whyNot : xM := (RX8, cX8_whyNot, 3, (some .int), false, 0, 0, none)
abbrev mX8_read : xM := (RX8, cX8_read, 6, (some .int), false, 1, 28, none)
abbrev mX8_copy : xM := (RX8, cX8_copy, 7, (some .int), false, 1, 28, none)
abbrev mX8_layAmongStates : xM := (RX8, cX8_layAmongStates, 3, (some .int), false, 1, 22, none)
abbrev mX8_work : xM := (RX8, cX8_work, 4, (some .int), false, 2, 54, none)
abbrev mX11_forge : xM := (RX11, cX11_forge, 4, (some .int), false, 3, 77, none)
abbrev mX11_status : xM := (RX11, cX11_status, 1, (some .int), false, 0, 0, none)
abbrev mX12_in : xM := (RX12, cX12_in, 3, (some .boolean), false, 0, 0, none)
abbrev mX12_min : xM := (RX12, cX12_min, 2, (some .int), false, 0, 0, none)
abbrev mX12_feed : xM := (RX12, cX12_feed, 5, (some .int), false, 1, 22, none)
abbrev mX12_reads : xM := (RX12, cX12_reads, 7, (some .boolean), false, 1, 22, none)
abbrev mX12_readsOne : xM := (RX12, cX12_readsOne, 1, (some .boolean), false, 2, 48, none)
abbrev mX12_readsTwo : xM := (RX12, cX12_readsTwo, 2, (some .boolean), false, 2, 48, none)
abbrev mX12_takeA : xM := (RX12, cX12_takeA, 3, none, false, 0, 0, none)
abbrev mX12_takeB : xM := (RX12, cX12_takeB, 3, none, false, 0, 0, none)
abbrev mX12_wordA : xM := (RX12, cX12_wordA, 3, none, false, 0, 0, none)
abbrev mX12_compares : xM := (RX12, cX12_compares, 7, (some .int), false, 0, 0, none)
abbrev mX12_wordOf : xM := (RX12, cX12_wordOf, 5, (some .int), false, 1, 26, none)
abbrev mX12_moveWord : xM := (RX12, cX12_moveWord, 4, none, false, 0, 0, none)
abbrev mX12_add : xM := (RX12, cX12_add, 6, (some .int), false, 3, 68, none)
abbrev mX12_drop : xM := (RX12, cX12_drop, 4, (some .int), false, 3, 68, none)
abbrev mX12_find : xM := (RX12, cX12_find, 1, (some .int), false, 3, 68, none)
abbrev mX12_word : xM := (RX12, cX12_word, 3, (some .int), false, 1, 22, none)
abbrev mX12_alike : xM := (RX12, cX12_alike, 3, (some .int), false, 0, 0, none)
abbrev mX12_nodes : xM := (RX12, cX12_nodes, 3, (some .int), false, 1, 22, none)
abbrev mX12_count : xM := (RX12, cX12_count, 2, (some .int), false, 2, 44, none)
abbrev mX12_price : xM := (RX12, cX12_price, 6, (some .int), false, 1, 22, none)
abbrev mX12_sound : xM := (RX12, cX12_sound, 4, (some .int), false, 3, 69, none)
abbrev mX12_model : xM := (RX12, cX12_model, 3, (some .int), false, 1, 22, none)
abbrev mX12_share : xM := (RX12, cX12_share, 16, (some .int), false, 0, 0, none)
abbrev mX12_swapPrice : xM := (RX12, cX12_swapPrice, 3, (some .int), false, 0, 0, none)
abbrev mX12_leftPrice : xM := (RX12, cX12_leftPrice, 2, (some .int), false, 0, 0, none)
abbrev mX12_putPrice : xM := (RX12, cX12_putPrice, 2, (some .int), false, 0, 0, none)
abbrev mX12_hasSound : xM := (RX12, cX12_hasSound, 5, (some .boolean), false, 0, 0, none)
abbrev mX12_slip : xM := (RX12, cX12_slip, 7, (some .int), false, 1, 24, none)
abbrev mX12_sums : xM := (RX12, cX12_sums, 6, none, false, 2, 50, none)
abbrev mX12_ways : xM := (RX12, cX12_ways, 5, none, false, 2, 50, none)
abbrev mX12_distance : xM := (RX12, cX12_distance, 2, (some .int), false, 3, 75, none)
abbrev mX12_way : xM := (RX12, cX12_way, 3, (some .int), false, 1, 22, none)
abbrev mX12_stateRow : xM := (RX12, cX12_stateRow, 10, none, false, 2, 50, none)
abbrev mX12_leastOf : xM := (RX12, cX12_leastOf, 4, (some .int), false, 1, 21, none)
abbrev mX12_meets : xM := (RX12, cX12_meets, 6, (some .boolean), false, 3, 79, none)
abbrev mX12_walk : xM := (RX12, cX12_walk, 7, none, false, 4, 104, none)
abbrev mX12_distanceTo : xM := (RX12, cX12_distanceTo, 2, (some .int), false, 3, 75, none)
abbrev mX12_beginningTo : xM := (RX12, cX12_beginningTo, 5, (some .int), false, 3, 79, none)
abbrev mX12_isAhead : xM := (RX12, cX12_isAhead, 7, (some .boolean), false, 0, 0, none)
abbrev mX12_tries : xM := (RX12, cX12_tries, 7, none, false, 4, 103, none)
abbrev mX12_keeps : xM := (RX12, cX12_keeps, 3, (some .int), false, 1, 21, none)
abbrev mX12_near : xM := (RX12, cX12_near, 3, (some .int), false, 5, 130, none)
abbrev mX12_nearest : xM := (RX12, cX12_nearest, 3, (some .int), false, 5, 129, none)
abbrev mX12_complete : xM := (RX12, cX12_complete, 3, (some .int), false, 5, 130, none)
abbrev mX12_found : xM := (RX12, cX12_found, 3, (some .int), false, 1, 22, none)
abbrev mX12_node : xM := (RX12, cX12_node, 3, (some .int), false, 1, 22, none)
abbrev mX12_pair : xM := (RX12, cX12_pair, 2, (some .int), false, 3, 69, none)
abbrev mX12_takePair : xM := (RX12, cX12_takePair, 3, none, false, 0, 0, none)
abbrev mX12_learn : xM := (RX12, cX12_learn, 7, (some .int), false, 3, 75, none)
abbrev mX12_spread : xM := (RX12, cX12_spread, 3, (some .int), false, 3, 75, none)
abbrev mX12_together : xM := (RX12, cX12_together, 4, (some .int), false, 2, 50, none)
abbrev mX12_isWord : xM := (RX12, cX12_isWord, 2, (some .int), false, 2, 50, none)
abbrev mX12_parting : xM := (RX12, cX12_parting, 3, (some .int), false, 2, 50, none)
abbrev mX12_partAt : xM := (RX12, cX12_partAt, 5, (some .int), false, 3, 73, none)
abbrev mX12_mend : xM := (RX12, cX12_mend, 7, (some .int), false, 5, 129, none)
abbrev mX12_part : xM := (RX12, cX12_part, 3, (some .int), false, 1, 22, none)
abbrev mX12_refused : xM := (RX12, cX12_refused, 2, (some .int), false, 0, 0, none)
abbrev mX12_done : xM := (RX12, cX12_done, 2, (some .int), false, 0, 0, none)
abbrev mX12_put : xM := (RX12, cX12_put, 7, (some .int), false, 1, 22, none)
abbrev mX12_forge : xM := (RX12, cX12_forge, 7, (some .int), false, 1, 22, none)
abbrev mX12_status : xM := (RX12, cX12_status, 1, (some .int), false, 0, 0, none)
abbrev mL_law (L : Nat) (xs : Nat → Int32) : xM := (RL, code, 4, some .boolean, false, 9, 374, some (L, xs))
theorem xq0 : Cond.selects "WordMender$Tape" yX7_append yX7_append ∈ xtbl := xq_of 0 (by decide +kernel) (by decide +kernel)
theorem xq1 : Cond.selects "WordMender$Tape" yX7_takeRow yX7_takeRow ∈ xtbl := xq_of 1 (by decide +kernel) (by decide +kernel)
theorem xq2 : Cond.selects "WordMender$Tape" yX7_read yX7_read ∈ xtbl := xq_of 2 (by decide +kernel) (by decide +kernel)
theorem xq3 : Cond.selects "WordMender$Row" yX4_clear yX4_clear ∈ xtbl := xq_of 3 (by decide +kernel) (by decide +kernel)
theorem xq4 : Cond.selects "WordMender$Row" yX4_append yX4_append ∈ xtbl := xq_of 4 (by decide +kernel) (by decide +kernel)
theorem xq5 : Cond.selects "WordMender$Lexicon" yX1_grow yX1_grow ∈ xtbl := xq_of 5 (by decide +kernel) (by decide +kernel)
theorem xq6 : Cond.selects "WordMender$Lexicon" yX1_numberOf yX1_numberOf ∈ xtbl := xq_of 6 (by decide +kernel) (by decide +kernel)
theorem xq7 : Cond.selects "WordMender$Lexicon" yX1_place yX1_place ∈ xtbl := xq_of 7 (by decide +kernel) (by decide +kernel)
theorem xq8 : Cond.selects "WordMender$Rows" yX5_order yX5_order ∈ xtbl := xq_of 8 (by decide +kernel) (by decide +kernel)
theorem xq9 : Cond.selects "WordMender$Rows" yX5_at yX5_at ∈ xtbl := xq_of 9 (by decide +kernel) (by decide +kernel)
theorem xq10 : Cond.selects "WordMender$Row" yX4_at yX4_at ∈ xtbl := xq_of 10 (by decide +kernel) (by decide +kernel)
theorem xq11 : Cond.selects "WordMender$Rows" yX5_isFull yX5_isFull ∈ xtbl := xq_of 11 (by decide +kernel) (by decide +kernel)
theorem xq12 : Cond.selects "WordMender$Rows" yX5_insert yX5_insert ∈ xtbl := xq_of 12 (by decide +kernel) (by decide +kernel)
theorem xq13 : Cond.selects "WordMender$Lexicon" yX1_remove yX1_remove ∈ xtbl := xq_of 13 (by decide +kernel) (by decide +kernel)
theorem xq14 : Cond.selects "WordMender$Rows" yX5_remove yX5_remove ∈ xtbl := xq_of 14 (by decide +kernel) (by decide +kernel)
theorem xq15 : Cond.selects "WordMender$Lexicon" yX1_countOf yX1_countOf ∈ xtbl := xq_of 15 (by decide +kernel) (by decide +kernel)
theorem xq16 : Cond.selects "WordMender$Rows" yX5_sizeOf yX5_sizeOf ∈ xtbl := xq_of 16 (by decide +kernel) (by decide +kernel)
theorem xq17 : Cond.selects "WordMender$Lexicon" yX1_nodes yX1_nodes ∈ xtbl := xq_of 17 (by decide +kernel) (by decide +kernel)
theorem xq18 : Cond.selects "WordMender$Rows" yX5_shared yX5_shared ∈ xtbl := xq_of 18 (by decide +kernel) (by decide +kernel)
theorem xq19 : Cond.selects "WordMender$Slips" yX6_setKind yX6_setKind ∈ xtbl := xq_of 19 (by decide +kernel) (by decide +kernel)
theorem xq20 : Cond.selects "WordMender$Slips" yX6_setByLetters yX6_setByLetters ∈ xtbl := xq_of 20 (by decide +kernel) (by decide +kernel)
theorem xq21 : Cond.selects "WordMender$Tape" yX7_takeTwo yX7_takeTwo ∈ xtbl := xq_of 21 (by decide +kernel) (by decide +kernel)
theorem xq22 : Cond.selects "WordMender$Tape" yX7_seek yX7_seek ∈ xtbl := xq_of 22 (by decide +kernel) (by decide +kernel)
theorem xq23 : Cond.selects "WordMender$Slips" yX6_addSound yX6_addSound ∈ xtbl := xq_of 23 (by decide +kernel) (by decide +kernel)
theorem xq24 : Cond.selects "WordMender$Rows" yX5_append yX5_append ∈ xtbl := xq_of 24 (by decide +kernel) (by decide +kernel)
theorem xq25 : Cond.selects "WordMender$Way" yX10_measure yX10_measure ∈ xtbl := xq_of 25 (by decide +kernel) (by decide +kernel)
theorem xq26 : Cond.selects "WordMender$Way" yX10_leastFrom yX10_leastFrom ∈ xtbl := xq_of 26 (by decide +kernel) (by decide +kernel)
theorem xq27 : Cond.selects "WordMender$Slips" yX6_codes yX6_codes ∈ xtbl := xq_of 27 (by decide +kernel) (by decide +kernel)
theorem xq28 : Cond.selects "WordMender$Way" yX10_sumBy yX10_sumBy ∈ xtbl := xq_of 28 (by decide +kernel) (by decide +kernel)
theorem xq29 : Cond.selects "WordMender$Slips" yX6_priceAt yX6_priceAt ∈ xtbl := xq_of 29 (by decide +kernel) (by decide +kernel)
theorem xq30 : Cond.selects "WordMender$Rows" yX5_standsIn yX5_standsIn ∈ xtbl := xq_of 30 (by decide +kernel) (by decide +kernel)
theorem xq31 : Cond.selects "WordMender$Slips" yX6_soundPrice yX6_soundPrice ∈ xtbl := xq_of 31 (by decide +kernel) (by decide +kernel)
theorem xq32 : Cond.selects "WordMender$Slips" yX6_meantTaken yX6_meantTaken ∈ xtbl := xq_of 32 (by decide +kernel) (by decide +kernel)
theorem xq33 : Cond.selects "WordMender$Slips" yX6_typedTaken yX6_typedTaken ∈ xtbl := xq_of 33 (by decide +kernel) (by decide +kernel)
theorem xq34 : Cond.selects "WordMender$Way" yX10_trace yX10_trace ∈ xtbl := xq_of 34 (by decide +kernel) (by decide +kernel)
theorem xq35 : Cond.selects "WordMender$Way" yX10_firstCode yX10_firstCode ∈ xtbl := xq_of 35 (by decide +kernel) (by decide +kernel)
theorem xq36 : Cond.selects "WordMender$Way" yX10_tell yX10_tell ∈ xtbl := xq_of 36 (by decide +kernel) (by decide +kernel)
theorem xq37 : Cond.selects "WordMender$Way" yX10_codeAt yX10_codeAt ∈ xtbl := xq_of 37 (by decide +kernel) (by decide +kernel)
theorem xq38 : Cond.selects "WordMender$Walk" yX9_go yX9_go ∈ xtbl := xq_of 38 (by decide +kernel) (by decide +kernel)
theorem xq39 : Cond.selects "WordMender$Met" yX3_clear yX3_clear ∈ xtbl := xq_of 39 (by decide +kernel) (by decide +kernel)
theorem xq40 : Cond.selects "WordMender$Rows" yX5_copyTo yX5_copyTo ∈ xtbl := xq_of 40 (by decide +kernel) (by decide +kernel)
theorem xq41 : Cond.selects "WordMender$Walk" yX9_descend yX9_descend ∈ xtbl := xq_of 41 (by decide +kernel) (by decide +kernel)
theorem xq42 : Cond.selects "WordMender$Walk" yX9_fill yX9_fill ∈ xtbl := xq_of 42 (by decide +kernel) (by decide +kernel)
theorem xq43 : Cond.selects "WordMender$Walk" yX9_reach yX9_reach ∈ xtbl := xq_of 43 (by decide +kernel) (by decide +kernel)
theorem xq44 : Cond.selects "WordMender$Slips" yX6_mayStand yX6_mayStand ∈ xtbl := xq_of 44 (by decide +kernel) (by decide +kernel)
theorem xq45 : Cond.selects "WordMender$Walk" yX9_sumUp yX9_sumUp ∈ xtbl := xq_of 45 (by decide +kernel) (by decide +kernel)
theorem xq46 : Cond.selects "WordMender$Walk" yX9_isLeft yX9_isLeft ∈ xtbl := xq_of 46 (by decide +kernel) (by decide +kernel)
theorem xq47 : Cond.selects "WordMender$Met" yX3_keep yX3_keep ∈ xtbl := xq_of 47 (by decide +kernel) (by decide +kernel)
theorem xq48 : Cond.selects "WordMender$Found" yX0_gather yX0_gather ∈ xtbl := xq_of 48 (by decide +kernel) (by decide +kernel)
theorem xq49 : Cond.selects "WordMender$Found" yX0_lay yX0_lay ∈ xtbl := xq_of 49 (by decide +kernel) (by decide +kernel)
theorem xq50 : Cond.selects "WordMender$Lexicon" yX1_share yX1_share ∈ xtbl := xq_of 50 (by decide +kernel) (by decide +kernel)
theorem xq51 : Cond.selects "WordMender$Found" yX0_isAhead yX0_isAhead ∈ xtbl := xq_of 51 (by decide +kernel) (by decide +kernel)
theorem xq52 : Cond.selects "WordMender$Found" yX0_move yX0_move ∈ xtbl := xq_of 52 (by decide +kernel) (by decide +kernel)
theorem xq53 : Cond.selects "WordMender$Found" yX0_tell yX0_tell ∈ xtbl := xq_of 53 (by decide +kernel) (by decide +kernel)
theorem xq54 : Cond.selects "WordMender$Met" yX3_tell yX3_tell ∈ xtbl := xq_of 54 (by decide +kernel) (by decide +kernel)
theorem xq55 : Cond.selects "WordMender$Met" yX3_least yX3_least ∈ xtbl := xq_of 55 (by decide +kernel) (by decide +kernel)
theorem xq56 : Cond.selects "WordMender$Met" yX3_stateAt yX3_stateAt ∈ xtbl := xq_of 56 (by decide +kernel) (by decide +kernel)
theorem xq57 : Cond.selects "WordMender" yX11_findWays yX11_findWays ∈ xtbl := xq_of 57 (by decide +kernel) (by decide +kernel)
theorem xq58 : Cond.selects "WordMender" yX11_readPair yX11_readPair ∈ xtbl := xq_of 58 (by decide +kernel) (by decide +kernel)
theorem xq59 : Cond.selects "WordMender" yX11_noteWay yX11_noteWay ∈ xtbl := xq_of 59 (by decide +kernel) (by decide +kernel)
theorem xq60 : Cond.selects "WordMender$Slips" yX6_setByCounts yX6_setByCounts ∈ xtbl := xq_of 60 (by decide +kernel) (by decide +kernel)
theorem xq61 : Cond.selects "WordMender$Tape" yX7_takeText yX7_takeText ∈ xtbl := xq_of 61 (by decide +kernel) (by decide +kernel)
theorem xq62 : Cond.selects "WordMender$Rows" yX5_clear yX5_clear ∈ xtbl := xq_of 62 (by decide +kernel) (by decide +kernel)
theorem xq63 : Cond.selects "WordMender$Mending" yX2_clear yX2_clear ∈ xtbl := xq_of 63 (by decide +kernel) (by decide +kernel)
theorem xq64 : Cond.selects "WordMender$Mending" yX2_offer yX2_offer ∈ xtbl := xq_of 64 (by decide +kernel) (by decide +kernel)
theorem xq65 : Cond.selects "WordMender$Mending" yX2_cellOf yX2_cellOf ∈ xtbl := xq_of 65 (by decide +kernel) (by decide +kernel)
theorem xq66 : Cond.selects "WordMender" yX11_offerSplit yX11_offerSplit ∈ xtbl := xq_of 66 (by decide +kernel) (by decide +kernel)
theorem xq67 : Cond.selects "WordMender$Mending" yX2_offers yX2_offers ∈ xtbl := xq_of 67 (by decide +kernel) (by decide +kernel)
theorem xq68 : Cond.selects "WordMender$Slips" yX6_kindPrice yX6_kindPrice ∈ xtbl := xq_of 68 (by decide +kernel) (by decide +kernel)
theorem xq69 : Cond.selects "WordMender" yX11_offerJoin yX11_offerJoin ∈ xtbl := xq_of 69 (by decide +kernel) (by decide +kernel)
theorem xq70 : Cond.selects "WordMender" yX11_offerMended yX11_offerMended ∈ xtbl := xq_of 70 (by decide +kernel) (by decide +kernel)
theorem xq71 : Cond.selects "WordMender$Mending" yX2_choose yX2_choose ∈ xtbl := xq_of 71 (by decide +kernel) (by decide +kernel)
theorem xq72 : Cond.selects "WordMender$Mending" yX2_bestKind yX2_bestKind ∈ xtbl := xq_of 72 (by decide +kernel) (by decide +kernel)
theorem xq73 : Cond.selects "WordMender$Mending" yX2_sumBy yX2_sumBy ∈ xtbl := xq_of 73 (by decide +kernel) (by decide +kernel)
theorem xq74 : Cond.selects "WordMender$Mending" yX2_tell yX2_tell ∈ xtbl := xq_of 74 (by decide +kernel) (by decide +kernel)
theorem xq75 : Cond.selects "WordMender" yX11_isThing yX11_isThing ∈ xtbl := xq_of 75 (by decide +kernel) (by decide +kernel)
theorem xq76 : Cond.selects "WordMender$Trays" yX8_refuse yX8_refuse ∈ xtbl := xq_of 76 (by decide +kernel) (by decide +kernel)
theorem xq77 : Cond.selects "WordMender$Trays" yX8_clear yX8_clear ∈ xtbl := xq_of 77 (by decide +kernel) (by decide +kernel)
theorem xq78 : Cond.selects "WordMender" yX11_layLetters yX11_layLetters ∈ xtbl := xq_of 78 (by decide +kernel) (by decide +kernel)
theorem xq79 : Cond.selects "WordMender$Trays" yX8_lay yX8_lay ∈ xtbl := xq_of 79 (by decide +kernel) (by decide +kernel)
theorem xq80 : Cond.selects "WordMender" yX11_layState yX11_layState ∈ xtbl := xq_of 80 (by decide +kernel) (by decide +kernel)
theorem xq81 : Cond.selects "WordMender" yX11_layPrices yX11_layPrices ∈ xtbl := xq_of 81 (by decide +kernel) (by decide +kernel)
theorem xq82 : Cond.selects "WordMender" yX11_layTruths yX11_layTruths ∈ xtbl := xq_of 82 (by decide +kernel) (by decide +kernel)
theorem xq83 : Cond.selects "WordMender$Trays" yX8_done yX8_done ∈ xtbl := xq_of 83 (by decide +kernel) (by decide +kernel)
theorem xq84 : Cond.selects "WordMender$Trays" yX8_work yX8_work ∈ xtbl := xq_of 84 (by decide +kernel) (by decide +kernel)
theorem xq85 : Cond.selects "WordMender$Trays" yX8_read yX8_read ∈ xtbl := xq_of 85 (by decide +kernel) (by decide +kernel)
theorem xq86 : Cond.selects "WordMender$Trays" yX8_whyNot yX8_whyNot ∈ xtbl := xq_of 86 (by decide +kernel) (by decide +kernel)
theorem xq87 : Cond.selects "WordMender$Trays" yX8_copy yX8_copy ∈ xtbl := xq_of 87 (by decide +kernel) (by decide +kernel)
theorem xq88 : Cond.selects "WordMender$Trays" yX8_layAmongStates yX8_layAmongStates ∈ xtbl := xq_of 88 (by decide +kernel) (by decide +kernel)
theorem xq89 : Cond.selects "WordMenderModel" yX12_readsOne yX12_readsOne ∈ xtbl := xq_of 89 (by decide +kernel) (by decide +kernel)
theorem xq90 : Cond.selects "WordMenderModel" yX12_reads yX12_reads ∈ xtbl := xq_of 90 (by decide +kernel) (by decide +kernel)
theorem xq91 : Cond.selects "WordMenderModel" yX12_wordOf yX12_wordOf ∈ xtbl := xq_of 91 (by decide +kernel) (by decide +kernel)
theorem xq92 : Cond.selects "WordMenderModel" yX12_compares yX12_compares ∈ xtbl := xq_of 92 (by decide +kernel) (by decide +kernel)
theorem xq93 : Cond.selects "WordMenderModel" yX12_moveWord yX12_moveWord ∈ xtbl := xq_of 93 (by decide +kernel) (by decide +kernel)
theorem xq94 : Cond.selects "WordMenderModel" yX12_nodes yX12_nodes ∈ xtbl := xq_of 94 (by decide +kernel) (by decide +kernel)
theorem xq95 : Cond.selects "WordMenderModel" yX12_alike yX12_alike ∈ xtbl := xq_of 95 (by decide +kernel) (by decide +kernel)
theorem xq96 : Cond.selects "WordMenderModel" yX12_readsTwo yX12_readsTwo ∈ xtbl := xq_of 96 (by decide +kernel) (by decide +kernel)
theorem xq97 : Cond.selects "WordMenderModel" yX12_takeA yX12_takeA ∈ xtbl := xq_of 97 (by decide +kernel) (by decide +kernel)
theorem xq98 : Cond.selects "WordMenderModel" yX12_takeB yX12_takeB ∈ xtbl := xq_of 98 (by decide +kernel) (by decide +kernel)
theorem xq99 : Cond.selects "WordMenderModel" yX12_sums yX12_sums ∈ xtbl := xq_of 99 (by decide +kernel) (by decide +kernel)
theorem xq100 : Cond.selects "WordMenderModel" yX12_slip yX12_slip ∈ xtbl := xq_of 100 (by decide +kernel) (by decide +kernel)
theorem xq101 : Cond.selects "WordMenderModel" yX12_swapPrice yX12_swapPrice ∈ xtbl := xq_of 101 (by decide +kernel) (by decide +kernel)
theorem xq102 : Cond.selects "WordMenderModel" yX12_leftPrice yX12_leftPrice ∈ xtbl := xq_of 102 (by decide +kernel) (by decide +kernel)
theorem xq103 : Cond.selects "WordMenderModel" yX12_putPrice yX12_putPrice ∈ xtbl := xq_of 103 (by decide +kernel) (by decide +kernel)
theorem xq104 : Cond.selects "WordMenderModel" yX12_hasSound yX12_hasSound ∈ xtbl := xq_of 104 (by decide +kernel) (by decide +kernel)
theorem xq105 : Cond.selects "WordMenderModel" yX12_ways yX12_ways ∈ xtbl := xq_of 105 (by decide +kernel) (by decide +kernel)
theorem xq106 : Cond.selects "WordMenderModel" yX12_walk yX12_walk ∈ xtbl := xq_of 106 (by decide +kernel) (by decide +kernel)
theorem xq107 : Cond.selects "WordMenderModel" yX12_meets yX12_meets ∈ xtbl := xq_of 107 (by decide +kernel) (by decide +kernel)
theorem xq108 : Cond.selects "WordMenderModel" yX12_stateRow yX12_stateRow ∈ xtbl := xq_of 108 (by decide +kernel) (by decide +kernel)
theorem xq109 : Cond.selects "WordMenderModel" yX12_leastOf yX12_leastOf ∈ xtbl := xq_of 109 (by decide +kernel) (by decide +kernel)
theorem xq110 : Cond.selects "WordMenderModel" yX12_tries yX12_tries ∈ xtbl := xq_of 110 (by decide +kernel) (by decide +kernel)
theorem xq111 : Cond.selects "WordMenderModel" yX12_beginningTo yX12_beginningTo ∈ xtbl := xq_of 111 (by decide +kernel) (by decide +kernel)
theorem xq112 : Cond.selects "WordMenderModel" yX12_wordA yX12_wordA ∈ xtbl := xq_of 112 (by decide +kernel) (by decide +kernel)
theorem xq113 : Cond.selects "WordMenderModel" yX12_distanceTo yX12_distanceTo ∈ xtbl := xq_of 113 (by decide +kernel) (by decide +kernel)
theorem xq114 : Cond.selects "WordMenderModel" yX12_share yX12_share ∈ xtbl := xq_of 114 (by decide +kernel) (by decide +kernel)
theorem xq115 : Cond.selects "WordMenderModel" yX12_isAhead yX12_isAhead ∈ xtbl := xq_of 115 (by decide +kernel) (by decide +kernel)
theorem xq116 : Cond.selects "WordMenderModel" yX12_keeps yX12_keeps ∈ xtbl := xq_of 116 (by decide +kernel) (by decide +kernel)
theorem xq117 : Cond.selects "WordMenderModel" yX12_takePair yX12_takePair ∈ xtbl := xq_of 117 (by decide +kernel) (by decide +kernel)
theorem xq118 : Cond.selects "WordMenderModel" yX12_isWord yX12_isWord ∈ xtbl := xq_of 118 (by decide +kernel) (by decide +kernel)
theorem xq119 : Cond.selects "WordMenderModel" yX12_partAt yX12_partAt ∈ xtbl := xq_of 119 (by decide +kernel) (by decide +kernel)
theorem xq120 : Cond.selects "WordMenderModel" yX12_together yX12_together ∈ xtbl := xq_of 120 (by decide +kernel) (by decide +kernel)
theorem xq121 : Cond.selects "WordMenderModel" yX12_parting yX12_parting ∈ xtbl := xq_of 121 (by decide +kernel) (by decide +kernel)
theorem xq122 : Cond.selects "WordMenderModel" yX12_refused yX12_refused ∈ xtbl := xq_of 122 (by decide +kernel) (by decide +kernel)
theorem xq123 : Cond.selects "WordMenderModel" yX12_done yX12_done ∈ xtbl := xq_of 123 (by decide +kernel) (by decide +kernel)
theorem xq125 : Cond.initialized "WordMender" ∈ xtbl := xq_of 125 (by decide +kernel) (by decide +kernel)
theorem xq126 : Cond.initialized "WordMender$Tape" ∈ xtbl := xq_of 126 (by decide +kernel) (by decide +kernel)
theorem xq127 : Cond.initialized "WordMender$Lexicon" ∈ xtbl := xq_of 127 (by decide +kernel) (by decide +kernel)
theorem xq128 : Cond.initialized "WordMender$Rows" ∈ xtbl := xq_of 128 (by decide +kernel) (by decide +kernel)
theorem xq129 : Cond.initialized "java/lang/Math" ∈ xtbl := xq_of 129 (by decide +kernel) (by decide +kernel)
theorem xq130 : Cond.initialized "WordMender$Slips" ∈ xtbl := xq_of 130 (by decide +kernel) (by decide +kernel)
theorem xq131 : Cond.initialized "WordMender$Row" ∈ xtbl := xq_of 131 (by decide +kernel) (by decide +kernel)
theorem xq132 : Cond.initialized "WordMender$Way" ∈ xtbl := xq_of 132 (by decide +kernel) (by decide +kernel)
theorem xq133 : Cond.initialized "WordMender$Walk" ∈ xtbl := xq_of 133 (by decide +kernel) (by decide +kernel)
theorem xq134 : Cond.initialized "WordMender$Met" ∈ xtbl := xq_of 134 (by decide +kernel) (by decide +kernel)
theorem xq135 : Cond.initialized "WordMender$Found" ∈ xtbl := xq_of 135 (by decide +kernel) (by decide +kernel)
theorem xq136 : Cond.initialized "WordMender$Mending" ∈ xtbl := xq_of 136 (by decide +kernel) (by decide +kernel)
theorem xq137 : Cond.initialized "WordMender$Trays" ∈ xtbl := xq_of 137 (by decide +kernel) (by decide +kernel)
theorem xq138 : Cond.initialized "WordMenderModel" ∈ xtbl := xq_of 138 (by decide +kernel) (by decide +kernel)
theorem xq139 : Cond.initialized "java/lang/System" ∈ xtbl := xq_of 139 (by decide +kernel) (by decide +kernel)
theorem xq140 : Cond.initialized "java/util/Arrays" ∈ xtbl := xq_of 140 (by decide +kernel) (by decide +kernel)
theorem xq155 : Cond.fieldLink "WordMender$Tape" (9) "WordMender$Tape" "bytes" "[I" ∈ xtbl := xq_of 155 (by decide +kernel) (by decide +kernel)
theorem xq156 : Cond.fieldLink "WordMender$Tape" (15) "WordMender$Tape" "size" "I" ∈ xtbl := xq_of 156 (by decide +kernel) (by decide +kernel)
theorem xq157 : Cond.fieldLinkNest "WordMender" (154) "WordMender$Tape" "size" "I" "WordMender" ∈ xnst := xn_of 157 (by decide +kernel) (by decide +kernel)
theorem xq177 : Cond.static Lib.Math.max.name ∈ xtbl := xq_of 177 (by decide +kernel) (by decide +kernel)
theorem xq178 : Cond.code Lib.Math.max.name Lib.Math.max.code 2 (some .int) ∈ xtbl := xq_of 178 (by decide +kernel) (by decide +kernel)
theorem xq179 : Cond.fieldLink "WordMender$Rows" (15) "WordMender$Rows" "letters" "[I" ∈ xtbl := xq_of 179 (by decide +kernel) (by decide +kernel)
theorem xq180 : Cond.fieldLink "WordMender$Rows" (21) "WordMender$Rows" "sizes" "[I" ∈ xtbl := xq_of 180 (by decide +kernel) (by decide +kernel)
theorem xq181 : Cond.fieldLink "WordMender$Rows" (24) "WordMender$Rows" "size" "I" ∈ xtbl := xq_of 181 (by decide +kernel) (by decide +kernel)
theorem xq182 : Cond.fieldLinkNest "WordMender$Found" (35) "WordMender$Rows" "size" "I" "WordMender" ∈ xnst := xn_of 182 (by decide +kernel) (by decide +kernel)
theorem xq183 : Cond.fieldLinkNest "WordMender$Lexicon" (24) "WordMender$Rows" "size" "I" "WordMender" ∈ xnst := xn_of 183 (by decide +kernel) (by decide +kernel)
theorem xq184 : Cond.fieldLinkNest "WordMender$Walk" (63) "WordMender$Rows" "size" "I" "WordMender" ∈ xnst := xn_of 184 (by decide +kernel) (by decide +kernel)
theorem xq185 : Cond.fieldLinkNest "WordMender" (132) "WordMender$Rows" "size" "I" "WordMender" ∈ xnst := xn_of 185 (by decide +kernel) (by decide +kernel)
theorem xq186 : Cond.fieldLinkNest "WordMender$Slips" (43) "WordMender$Rows" "size" "I" "WordMender" ∈ xnst := xn_of 186 (by decide +kernel) (by decide +kernel)
theorem xq194 : Cond.fieldLink "WordMender$Lexicon" (14) "WordMender$Lexicon" "words" "LWordMender$Rows;" ∈ xtbl := xq_of 194 (by decide +kernel) (by decide +kernel)
theorem xq195 : Cond.fieldLinkNest "WordMender$Found" (29) "WordMender$Lexicon" "words" "LWordMender$Rows;" "WordMender" ∈ xnst := xn_of 195 (by decide +kernel) (by decide +kernel)
theorem xq196 : Cond.fieldLinkNest "WordMender$Walk" (57) "WordMender$Lexicon" "words" "LWordMender$Rows;" "WordMender" ∈ xnst := xn_of 196 (by decide +kernel) (by decide +kernel)
theorem xq197 : Cond.fieldLinkNest "WordMender" (129) "WordMender$Lexicon" "words" "LWordMender$Rows;" "WordMender" ∈ xnst := xn_of 197 (by decide +kernel) (by decide +kernel)
theorem xq198 : Cond.fieldLink "WordMender$Lexicon" (20) "WordMender$Lexicon" "counts" "[I" ∈ xtbl := xq_of 198 (by decide +kernel) (by decide +kernel)
theorem xq199 : Cond.fieldLink "WordMender$Lexicon" (70) "WordMender$Lexicon" "weight" "I" ∈ xtbl := xq_of 199 (by decide +kernel) (by decide +kernel)
theorem xq200 : Cond.fieldLinkNest "WordMender" (181) "WordMender$Lexicon" "weight" "I" "WordMender" ∈ xnst := xn_of 200 (by decide +kernel) (by decide +kernel)
theorem xq216 : Cond.fieldLink "WordMender$Slips" (9) "WordMender$Slips" "kinds" "[I" ∈ xtbl := xq_of 216 (by decide +kernel) (by decide +kernel)
theorem xq217 : Cond.fieldLink "WordMender$Slips" (15) "WordMender$Slips" "swaps" "[I" ∈ xtbl := xq_of 217 (by decide +kernel) (by decide +kernel)
theorem xq218 : Cond.fieldLink "WordMender$Slips" (18) "WordMender$Slips" "leftsOut" "[I" ∈ xtbl := xq_of 218 (by decide +kernel) (by decide +kernel)
theorem xq219 : Cond.fieldLink "WordMender$Slips" (21) "WordMender$Slips" "putsIn" "[I" ∈ xtbl := xq_of 219 (by decide +kernel) (by decide +kernel)
theorem xq220 : Cond.fieldLink "WordMender$Slips" (29) "WordMender$Slips" "firsts" "LWordMender$Rows;" ∈ xtbl := xq_of 220 (by decide +kernel) (by decide +kernel)
theorem xq221 : Cond.fieldLinkNest "WordMender" (151) "WordMender$Slips" "firsts" "LWordMender$Rows;" "WordMender" ∈ xnst := xn_of 221 (by decide +kernel) (by decide +kernel)
theorem xq222 : Cond.fieldLink "WordMender$Slips" (33) "WordMender$Slips" "seconds" "LWordMender$Rows;" ∈ xtbl := xq_of 222 (by decide +kernel) (by decide +kernel)
theorem xq223 : Cond.fieldLink "WordMender$Slips" (36) "WordMender$Slips" "sounds" "[I" ∈ xtbl := xq_of 223 (by decide +kernel) (by decide +kernel)
theorem xq245 : Cond.fieldLink "WordMender$Row" (9) "WordMender$Row" "letters" "[I" ∈ xtbl := xq_of 245 (by decide +kernel) (by decide +kernel)
theorem xq246 : Cond.fieldLinkNest "WordMender$Rows" (58) "WordMender$Row" "letters" "[I" "WordMender" ∈ xnst := xn_of 246 (by decide +kernel) (by decide +kernel)
theorem xq247 : Cond.fieldLinkNest "WordMender$Way" (31) "WordMender$Row" "size" "I" "WordMender" ∈ xnst := xn_of 247 (by decide +kernel) (by decide +kernel)
theorem xq248 : Cond.fieldLink "WordMender$Row" (15) "WordMender$Row" "size" "I" ∈ xtbl := xq_of 248 (by decide +kernel) (by decide +kernel)
theorem xq249 : Cond.fieldLinkNest "WordMender$Walk" (49) "WordMender$Row" "size" "I" "WordMender" ∈ xnst := xn_of 249 (by decide +kernel) (by decide +kernel)
theorem xq250 : Cond.fieldLinkNest "WordMender$Rows" (59) "WordMender$Row" "size" "I" "WordMender" ∈ xnst := xn_of 250 (by decide +kernel) (by decide +kernel)
theorem xq264 : Cond.fieldLink "WordMender$Way" (27) "WordMender$Way" "slips" "LWordMender$Slips;" ∈ xtbl := xq_of 264 (by decide +kernel) (by decide +kernel)
theorem xq265 : Cond.fieldLink "WordMender$Way" (9) "WordMender$Way" "sums" "[I" ∈ xtbl := xq_of 265 (by decide +kernel) (by decide +kernel)
theorem xq266 : Cond.fieldLink "WordMender$Way" (15) "WordMender$Way" "codes" "[I" ∈ xtbl := xq_of 266 (by decide +kernel) (by decide +kernel)
theorem xq267 : Cond.fieldLink "WordMender$Way" (18) "WordMender$Way" "prices" "[I" ∈ xtbl := xq_of 267 (by decide +kernel) (by decide +kernel)
theorem xq268 : Cond.fieldLink "WordMender$Way" (21) "WordMender$Way" "meantPlaces" "[I" ∈ xtbl := xq_of 268 (by decide +kernel) (by decide +kernel)
theorem xq269 : Cond.fieldLink "WordMender$Way" (24) "WordMender$Way" "typedPlaces" "[I" ∈ xtbl := xq_of 269 (by decide +kernel) (by decide +kernel)
theorem xq270 : Cond.fieldLink "WordMender$Way" (67) "WordMender$Way" "size" "I" ∈ xtbl := xq_of 270 (by decide +kernel) (by decide +kernel)
theorem xq271 : Cond.fieldLinkNest "WordMender" (192) "WordMender$Way" "size" "I" "WordMender" ∈ xnst := xn_of 271 (by decide +kernel) (by decide +kernel)
theorem xq299 : Cond.fieldLink "WordMender$Met" (9) "WordMender$Met" "depths" "[I" ∈ xtbl := xq_of 299 (by decide +kernel) (by decide +kernel)
theorem xq300 : Cond.fieldLink "WordMender$Met" (15) "WordMender$Met" "letters" "[I" ∈ xtbl := xq_of 300 (by decide +kernel) (by decide +kernel)
theorem xq301 : Cond.fieldLink "WordMender$Met" (18) "WordMender$Met" "areWords" "[Z" ∈ xtbl := xq_of 301 (by decide +kernel) (by decide +kernel)
theorem xq302 : Cond.fieldLink "WordMender$Met" (22) "WordMender$Met" "areLeft" "[Z" ∈ xtbl := xq_of 302 (by decide +kernel) (by decide +kernel)
theorem xq303 : Cond.fieldLink "WordMender$Met" (25) "WordMender$Met" "states" "[I" ∈ xtbl := xq_of 303 (by decide +kernel) (by decide +kernel)
theorem xq304 : Cond.fieldLink "WordMender$Met" (28) "WordMender$Met" "size" "I" ∈ xtbl := xq_of 304 (by decide +kernel) (by decide +kernel)
theorem xq305 : Cond.fieldLinkNest "WordMender" (159) "WordMender$Met" "size" "I" "WordMender" ∈ xnst := xn_of 305 (by decide +kernel) (by decide +kernel)
theorem xq306 : Cond.fieldLink "WordMender$Met" (32) "WordMender$Met" "left" "I" ∈ xtbl := xq_of 306 (by decide +kernel) (by decide +kernel)
theorem xq307 : Cond.fieldLinkNest "WordMender" (162) "WordMender$Met" "left" "I" "WordMender" ∈ xnst := xn_of 307 (by decide +kernel) (by decide +kernel)
theorem xq308 : Cond.fieldLink "WordMender$Met" (44) "WordMender$Met" "places" "I" ∈ xtbl := xq_of 308 (by decide +kernel) (by decide +kernel)
theorem xq309 : Cond.fieldLinkNest "WordMender" (320) "WordMender$Met" "places" "I" "WordMender" ∈ xnst := xn_of 309 (by decide +kernel) (by decide +kernel)
theorem xq330 : Cond.fieldLink "WordMender$Walk" (41) "WordMender$Walk" "lexicon" "LWordMender$Lexicon;" ∈ xtbl := xq_of 330 (by decide +kernel) (by decide +kernel)
theorem xq331 : Cond.fieldLink "WordMender$Walk" (45) "WordMender$Walk" "slips" "LWordMender$Slips;" ∈ xtbl := xq_of 331 (by decide +kernel) (by decide +kernel)
theorem xq332 : Cond.fieldLink "WordMender$Walk" (12) "WordMender$Walk" "met" "LWordMender$Met;" ∈ xtbl := xq_of 332 (by decide +kernel) (by decide +kernel)
theorem xq333 : Cond.fieldLinkNest "WordMender" (155) "WordMender$Walk" "met" "LWordMender$Met;" "WordMender" ∈ xnst := xn_of 333 (by decide +kernel) (by decide +kernel)
theorem xq334 : Cond.fieldLink "WordMender$Walk" (21) "WordMender$Walk" "meant" "LWordMender$Row;" ∈ xtbl := xq_of 334 (by decide +kernel) (by decide +kernel)
theorem xq335 : Cond.fieldLink "WordMender$Walk" (25) "WordMender$Walk" "states" "[I" ∈ xtbl := xq_of 335 (by decide +kernel) (by decide +kernel)
theorem xq336 : Cond.fieldLink "WordMender$Walk" (29) "WordMender$Walk" "leasts" "[I" ∈ xtbl := xq_of 336 (by decide +kernel) (by decide +kernel)
theorem xq337 : Cond.fieldLink "WordMender$Walk" (32) "WordMender$Walk" "bests" "[I" ∈ xtbl := xq_of 337 (by decide +kernel) (by decide +kernel)
theorem xq338 : Cond.fieldLink "WordMender$Walk" (35) "WordMender$Walk" "wholes" "[I" ∈ xtbl := xq_of 338 (by decide +kernel) (by decide +kernel)
theorem xq339 : Cond.fieldLinkNest "WordMender" (204) "WordMender$Walk" "wholes" "[I" "WordMender" ∈ xnst := xn_of 339 (by decide +kernel) (by decide +kernel)
theorem xq340 : Cond.fieldLink "WordMender$Walk" (38) "WordMender$Walk" "begun" "[I" ∈ xtbl := xq_of 340 (by decide +kernel) (by decide +kernel)
theorem xq341 : Cond.fieldLinkNest "WordMender" (212) "WordMender$Walk" "begun" "[I" "WordMender" ∈ xnst := xn_of 341 (by decide +kernel) (by decide +kernel)
theorem xq367 : Cond.fieldLink "WordMender$Found" (21) "WordMender$Found" "lexicon" "LWordMender$Lexicon;" ∈ xtbl := xq_of 367 (by decide +kernel) (by decide +kernel)
theorem xq368 : Cond.fieldLink "WordMender$Found" (9) "WordMender$Found" "numbers" "[I" ∈ xtbl := xq_of 368 (by decide +kernel) (by decide +kernel)
theorem xq369 : Cond.fieldLink "WordMender$Found" (15) "WordMender$Found" "distances" "[I" ∈ xtbl := xq_of 369 (by decide +kernel) (by decide +kernel)
theorem xq370 : Cond.fieldLink "WordMender$Found" (18) "WordMender$Found" "shares" "[I" ∈ xtbl := xq_of 370 (by decide +kernel) (by decide +kernel)
theorem xq371 : Cond.fieldLink "WordMender$Found" (25) "WordMender$Found" "size" "I" ∈ xtbl := xq_of 371 (by decide +kernel) (by decide +kernel)
theorem xq372 : Cond.fieldLinkNest "WordMender" (165) "WordMender$Found" "size" "I" "WordMender" ∈ xnst := xn_of 372 (by decide +kernel) (by decide +kernel)
theorem xq390 : Cond.fieldLink "WordMender$Mending" (9) "WordMender$Mending" "prices" "[I" ∈ xtbl := xq_of 390 (by decide +kernel) (by decide +kernel)
theorem xq391 : Cond.fieldLink "WordMender$Mending" (15) "WordMender$Mending" "firsts" "[I" ∈ xtbl := xq_of 391 (by decide +kernel) (by decide +kernel)
theorem xq392 : Cond.fieldLink "WordMender$Mending" (18) "WordMender$Mending" "seconds" "[I" ∈ xtbl := xq_of 392 (by decide +kernel) (by decide +kernel)
theorem xq393 : Cond.fieldLink "WordMender$Mending" (21) "WordMender$Mending" "sums" "[I" ∈ xtbl := xq_of 393 (by decide +kernel) (by decide +kernel)
theorem xq394 : Cond.fieldLink "WordMender$Mending" (24) "WordMender$Mending" "kinds" "[I" ∈ xtbl := xq_of 394 (by decide +kernel) (by decide +kernel)
theorem xq395 : Cond.fieldLink "WordMender$Mending" (27) "WordMender$Mending" "starts" "[I" ∈ xtbl := xq_of 395 (by decide +kernel) (by decide +kernel)
theorem xq396 : Cond.fieldLink "WordMender$Mending" (39) "WordMender$Mending" "rows" "I" ∈ xtbl := xq_of 396 (by decide +kernel) (by decide +kernel)
theorem xq397 : Cond.fieldLink "WordMender$Mending" (43) "WordMender$Mending" "size" "I" ∈ xtbl := xq_of 397 (by decide +kernel) (by decide +kernel)
theorem xq421 : Cond.fieldLink "WordMender$Trays" (9) "WordMender$Trays" "things" "[I" ∈ xtbl := xq_of 421 (by decide +kernel) (by decide +kernel)
theorem xq422 : Cond.fieldLink "WordMender$Trays" (15) "WordMender$Trays" "sizes" "[I" ∈ xtbl := xq_of 422 (by decide +kernel) (by decide +kernel)
theorem xq423 : Cond.fieldLink "WordMender$Trays" (18) "WordMender$Trays" "cells" "[I" ∈ xtbl := xq_of 423 (by decide +kernel) (by decide +kernel)
theorem xq424 : Cond.fieldLink "WordMender$Trays" (21) "WordMender$Trays" "status" "I" ∈ xtbl := xq_of 424 (by decide +kernel) (by decide +kernel)
theorem xq425 : Cond.fieldLinkNest "WordMender" (300) "WordMender$Trays" "status" "I" "WordMender" ∈ xnst := xn_of 425 (by decide +kernel) (by decide +kernel)
theorem xq435 : Cond.fieldLink "WordMender" (12) "WordMender" "tape" "LWordMender$Tape;" ∈ xtbl := xq_of 435 (by decide +kernel) (by decide +kernel)
theorem xq436 : Cond.fieldLink "WordMender" (19) "WordMender" "lexicon" "LWordMender$Lexicon;" ∈ xtbl := xq_of 436 (by decide +kernel) (by decide +kernel)
theorem xq437 : Cond.fieldLink "WordMender" (26) "WordMender" "slips" "LWordMender$Slips;" ∈ xtbl := xq_of 437 (by decide +kernel) (by decide +kernel)
theorem xq438 : Cond.fieldLink "WordMender" (33) "WordMender" "meant" "LWordMender$Row;" ∈ xtbl := xq_of 438 (by decide +kernel) (by decide +kernel)
theorem xq439 : Cond.fieldLink "WordMender" (37) "WordMender" "typed" "LWordMender$Row;" ∈ xtbl := xq_of 439 (by decide +kernel) (by decide +kernel)
theorem xq440 : Cond.fieldLink "WordMender" (45) "WordMender" "text" "LWordMender$Rows;" ∈ xtbl := xq_of 440 (by decide +kernel) (by decide +kernel)
theorem xq441 : Cond.fieldLink "WordMender" (54) "WordMender" "latestWay" "LWordMender$Way;" ∈ xtbl := xq_of 441 (by decide +kernel) (by decide +kernel)
theorem xq442 : Cond.fieldLink "WordMender" (58) "WordMender" "trialWay" "LWordMender$Way;" ∈ xtbl := xq_of 442 (by decide +kernel) (by decide +kernel)
theorem xq443 : Cond.fieldLink "WordMender" (61) "WordMender" "pairsMeant" "LWordMender$Rows;" ∈ xtbl := xq_of 443 (by decide +kernel) (by decide +kernel)
theorem xq444 : Cond.fieldLink "WordMender" (64) "WordMender" "pairsTyped" "LWordMender$Rows;" ∈ xtbl := xq_of 444 (by decide +kernel) (by decide +kernel)
theorem xq445 : Cond.fieldLink "WordMender" (67) "WordMender" "roundCodes" "[I" ∈ xtbl := xq_of 445 (by decide +kernel) (by decide +kernel)
theorem xq446 : Cond.fieldLink "WordMender" (71) "WordMender" "roundCounts" "[I" ∈ xtbl := xq_of 446 (by decide +kernel) (by decide +kernel)
theorem xq447 : Cond.fieldLink "WordMender" (79) "WordMender" "walk" "LWordMender$Walk;" ∈ xtbl := xq_of 447 (by decide +kernel) (by decide +kernel)
theorem xq448 : Cond.fieldLink "WordMender" (88) "WordMender" "latestFound" "LWordMender$Found;" ∈ xtbl := xq_of 448 (by decide +kernel) (by decide +kernel)
theorem xq449 : Cond.fieldLink "WordMender" (92) "WordMender" "firstFound" "LWordMender$Found;" ∈ xtbl := xq_of 449 (by decide +kernel) (by decide +kernel)
theorem xq450 : Cond.fieldLink "WordMender" (98) "WordMender" "mending" "LWordMender$Mending;" ∈ xtbl := xq_of 450 (by decide +kernel) (by decide +kernel)
theorem xq451 : Cond.fieldLink "WordMender" (105) "WordMender" "trays" "LWordMender$Trays;" ∈ xtbl := xq_of 451 (by decide +kernel) (by decide +kernel)
theorem xq487 : Cond.methodLink "WordMenderLaw" (15) yX11_feed ∈ xtbl := xq_of 487 (by decide +kernel) (by decide +kernel)
theorem xq488 : Cond.instanceMethod yX11_feed ∈ xtbl := xq_of 488 (by decide +kernel) (by decide +kernel)
theorem xq489 : Cond.selects "WordMender" yX11_feed yX11_feed ∈ xtbl := xq_of 489 (by decide +kernel) (by decide +kernel)
theorem xq490 : Cond.code yX11_feed cX11_feed 4 (some .int) ∈ xtbl := xq_of 490 (by decide +kernel) (by decide +kernel)
theorem xq491 : Cond.methodLinkNest "WordMender" (109) yX7_append "WordMender" ∈ xnst := xn_of 491 (by decide +kernel) (by decide +kernel)
theorem xq493 : Cond.instanceMethod yX7_append ∈ xtbl := xq_of 493 (by decide +kernel) (by decide +kernel)
theorem xq494 : Cond.code yX7_append cX7_append 5 (some .int) ∈ xtbl := xq_of 494 (by decide +kernel) (by decide +kernel)
theorem xq495 : Cond.methodLink "WordMenderLaw" (20) yX11_add ∈ xtbl := xq_of 495 (by decide +kernel) (by decide +kernel)
theorem xq496 : Cond.instanceMethod yX11_add ∈ xtbl := xq_of 496 (by decide +kernel) (by decide +kernel)
theorem xq497 : Cond.selects "WordMender" yX11_add yX11_add ∈ xtbl := xq_of 497 (by decide +kernel) (by decide +kernel)
theorem xq498 : Cond.code yX11_add cX11_add 3 (some .int) ∈ xtbl := xq_of 498 (by decide +kernel) (by decide +kernel)
theorem xq499 : Cond.methodLinkNest "WordMender" (113) yX7_takeRow "WordMender" ∈ xnst := xn_of 499 (by decide +kernel) (by decide +kernel)
theorem xq501 : Cond.instanceMethod yX7_takeRow ∈ xtbl := xq_of 501 (by decide +kernel) (by decide +kernel)
theorem xq502 : Cond.code yX7_takeRow cX7_takeRow 3 (some .boolean) ∈ xtbl := xq_of 502 (by decide +kernel) (by decide +kernel)
theorem xq503 : Cond.methodLink "WordMender$Tape" (19) yX7_read ∈ xtbl := xq_of 503 (by decide +kernel) (by decide +kernel)
theorem xq505 : Cond.instanceMethod yX7_read ∈ xtbl := xq_of 505 (by decide +kernel) (by decide +kernel)
theorem xq506 : Cond.code yX7_read cX7_read 7 (some .boolean) ∈ xtbl := xq_of 506 (by decide +kernel) (by decide +kernel)
theorem xq507 : Cond.methodLinkNest "WordMender$Tape" (36) yX4_clear "WordMender" ∈ xnst := xn_of 507 (by decide +kernel) (by decide +kernel)
theorem xq509 : Cond.instanceMethod yX4_clear ∈ xtbl := xq_of 509 (by decide +kernel) (by decide +kernel)
theorem xq510 : Cond.code yX4_clear cX4_clear 1 none ∈ xtbl := xq_of 510 (by decide +kernel) (by decide +kernel)
theorem xq511 : Cond.methodLinkNest "WordMender$Tape" (39) yX4_append "WordMender" ∈ xnst := xn_of 511 (by decide +kernel) (by decide +kernel)
theorem xq513 : Cond.instanceMethod yX4_append ∈ xtbl := xq_of 513 (by decide +kernel) (by decide +kernel)
theorem xq514 : Cond.code yX4_append cX4_append 2 (some .boolean) ∈ xtbl := xq_of 514 (by decide +kernel) (by decide +kernel)
theorem xq515 : Cond.constant "WordMender" 117 (Int32.ofInt (100000)) ∈ xtbl := xq_of 515 (by decide +kernel) (by decide +kernel)
theorem xq516 : Cond.methodLinkNest "WordMender" (118) yX1_grow "WordMender" ∈ xnst := xn_of 516 (by decide +kernel) (by decide +kernel)
theorem xq518 : Cond.instanceMethod yX1_grow ∈ xtbl := xq_of 518 (by decide +kernel) (by decide +kernel)
theorem xq519 : Cond.code yX1_grow cX1_grow 5 (some .int) ∈ xtbl := xq_of 519 (by decide +kernel) (by decide +kernel)
theorem xq520 : Cond.methodLink "WordMender$Lexicon" (36) yX1_numberOf ∈ xtbl := xq_of 520 (by decide +kernel) (by decide +kernel)
theorem xq522 : Cond.instanceMethod yX1_numberOf ∈ xtbl := xq_of 522 (by decide +kernel) (by decide +kernel)
theorem xq523 : Cond.code yX1_numberOf cX1_numberOf 3 (some .int) ∈ xtbl := xq_of 523 (by decide +kernel) (by decide +kernel)
theorem xq524 : Cond.methodLink "WordMender$Lexicon" (32) yX1_place ∈ xtbl := xq_of 524 (by decide +kernel) (by decide +kernel)
theorem xq526 : Cond.instanceMethod yX1_place ∈ xtbl := xq_of 526 (by decide +kernel) (by decide +kernel)
theorem xq527 : Cond.code yX1_place cX1_place 5 (some .int) ∈ xtbl := xq_of 527 (by decide +kernel) (by decide +kernel)
theorem xq528 : Cond.methodLinkNest "WordMender$Lexicon" (28) yX5_order "WordMender" ∈ xnst := xn_of 528 (by decide +kernel) (by decide +kernel)
theorem xq530 : Cond.instanceMethod yX5_order ∈ xtbl := xq_of 530 (by decide +kernel) (by decide +kernel)
theorem xq531 : Cond.code yX5_order cX5_order 5 (some .int) ∈ xtbl := xq_of 531 (by decide +kernel) (by decide +kernel)
theorem xq532 : Cond.methodLink "WordMender$Rows" (37) yX5_at ∈ xtbl := xq_of 532 (by decide +kernel) (by decide +kernel)
theorem xq534 : Cond.instanceMethod yX5_at ∈ xtbl := xq_of 534 (by decide +kernel) (by decide +kernel)
theorem xq535 : Cond.code yX5_at cX5_at 4 (some .int) ∈ xtbl := xq_of 535 (by decide +kernel) (by decide +kernel)
theorem xq536 : Cond.methodLinkNest "WordMender$Rows" (60) yX4_at "WordMender" ∈ xnst := xn_of 536 (by decide +kernel) (by decide +kernel)
theorem xq538 : Cond.instanceMethod yX4_at ∈ xtbl := xq_of 538 (by decide +kernel) (by decide +kernel)
theorem xq539 : Cond.code yX4_at cX4_at 2 (some .int) ∈ xtbl := xq_of 539 (by decide +kernel) (by decide +kernel)
theorem xq540 : Cond.constant "WordMender$Lexicon" 39 (Int32.ofInt (100000)) ∈ xtbl := xq_of 540 (by decide +kernel) (by decide +kernel)
theorem xq541 : Cond.methodLink "WordMender$Lexicon" (40) Lib.Math.min.name ∈ xtbl := xq_of 541 (by decide +kernel) (by decide +kernel)
theorem xq542 : Cond.static Lib.Math.min.name ∈ xtbl := xq_of 542 (by decide +kernel) (by decide +kernel)
theorem xq543 : Cond.code Lib.Math.min.name Lib.Math.min.code 2 (some .int) ∈ xtbl := xq_of 543 (by decide +kernel) (by decide +kernel)
theorem xq544 : Cond.methodLinkNest "WordMender$Lexicon" (46) yX5_isFull "WordMender" ∈ xnst := xn_of 544 (by decide +kernel) (by decide +kernel)
theorem xq546 : Cond.instanceMethod yX5_isFull ∈ xtbl := xq_of 546 (by decide +kernel) (by decide +kernel)
theorem xq547 : Cond.code yX5_isFull cX5_isFull 1 (some .boolean) ∈ xtbl := xq_of 547 (by decide +kernel) (by decide +kernel)
theorem xq548 : Cond.methodLink "WordMender$Lexicon" (50) arraycopyName ∈ xtbl := xq_of 548 (by decide +kernel) (by decide +kernel)
theorem xq549 : Cond.static arraycopyName ∈ xtbl := xq_of 549 (by decide +kernel) (by decide +kernel)
theorem xq550 : Cond.native arraycopyName ∈ xtbl := xq_of 550 (by decide +kernel) (by decide +kernel)
theorem xq551 : Cond.methodLinkNest "WordMender$Lexicon" (56) yX5_insert "WordMender" ∈ xnst := xn_of 551 (by decide +kernel) (by decide +kernel)
theorem xq553 : Cond.instanceMethod yX5_insert ∈ xtbl := xq_of 553 (by decide +kernel) (by decide +kernel)
theorem xq554 : Cond.code yX5_insert cX5_insert 3 none ∈ xtbl := xq_of 554 (by decide +kernel) (by decide +kernel)
theorem xq555 : Cond.methodLink "WordMender$Rows" (48) yX5_isFull ∈ xtbl := xq_of 555 (by decide +kernel) (by decide +kernel)
theorem xq556 : Cond.methodLink "WordMender$Rows" (52) arraycopyName ∈ xtbl := xq_of 556 (by decide +kernel) (by decide +kernel)
theorem xq557 : Cond.methodLink "WordMenderLaw" (25) yX11_drop ∈ xtbl := xq_of 557 (by decide +kernel) (by decide +kernel)
theorem xq558 : Cond.instanceMethod yX11_drop ∈ xtbl := xq_of 558 (by decide +kernel) (by decide +kernel)
theorem xq559 : Cond.selects "WordMender" yX11_drop yX11_drop ∈ xtbl := xq_of 559 (by decide +kernel) (by decide +kernel)
theorem xq560 : Cond.code yX11_drop cX11_drop 1 (some .int) ∈ xtbl := xq_of 560 (by decide +kernel) (by decide +kernel)
theorem xq561 : Cond.methodLinkNest "WordMender" (122) yX1_remove "WordMender" ∈ xnst := xn_of 561 (by decide +kernel) (by decide +kernel)
theorem xq563 : Cond.instanceMethod yX1_remove ∈ xtbl := xq_of 563 (by decide +kernel) (by decide +kernel)
theorem xq564 : Cond.code yX1_remove cX1_remove 4 (some .int) ∈ xtbl := xq_of 564 (by decide +kernel) (by decide +kernel)
theorem xq565 : Cond.methodLinkNest "WordMender$Lexicon" (60) yX5_remove "WordMender" ∈ xnst := xn_of 565 (by decide +kernel) (by decide +kernel)
theorem xq567 : Cond.instanceMethod yX5_remove ∈ xtbl := xq_of 567 (by decide +kernel) (by decide +kernel)
theorem xq568 : Cond.code yX5_remove cX5_remove 3 none ∈ xtbl := xq_of 568 (by decide +kernel) (by decide +kernel)
theorem xq569 : Cond.methodLink "WordMenderLaw" (30) yX11_find ∈ xtbl := xq_of 569 (by decide +kernel) (by decide +kernel)
theorem xq570 : Cond.instanceMethod yX11_find ∈ xtbl := xq_of 570 (by decide +kernel) (by decide +kernel)
theorem xq571 : Cond.selects "WordMender" yX11_find yX11_find ∈ xtbl := xq_of 571 (by decide +kernel) (by decide +kernel)
theorem xq572 : Cond.code yX11_find cX11_find 1 (some .int) ∈ xtbl := xq_of 572 (by decide +kernel) (by decide +kernel)
theorem xq573 : Cond.methodLinkNest "WordMender" (126) yX1_numberOf "WordMender" ∈ xnst := xn_of 573 (by decide +kernel) (by decide +kernel)
theorem xq574 : Cond.methodLink "WordMenderLaw" (34) yX11_word ∈ xtbl := xq_of 574 (by decide +kernel) (by decide +kernel)
theorem xq575 : Cond.instanceMethod yX11_word ∈ xtbl := xq_of 575 (by decide +kernel) (by decide +kernel)
theorem xq576 : Cond.selects "WordMender" yX11_word yX11_word ∈ xtbl := xq_of 576 (by decide +kernel) (by decide +kernel)
theorem xq577 : Cond.code yX11_word cX11_word 3 (some .int) ∈ xtbl := xq_of 577 (by decide +kernel) (by decide +kernel)
theorem xq578 : Cond.methodLinkNest "WordMender" (136) yX1_countOf "WordMender" ∈ xnst := xn_of 578 (by decide +kernel) (by decide +kernel)
theorem xq580 : Cond.instanceMethod yX1_countOf ∈ xtbl := xq_of 580 (by decide +kernel) (by decide +kernel)
theorem xq581 : Cond.code yX1_countOf cX1_countOf 2 (some .int) ∈ xtbl := xq_of 581 (by decide +kernel) (by decide +kernel)
theorem xq582 : Cond.methodLinkNest "WordMender" (140) yX5_sizeOf "WordMender" ∈ xnst := xn_of 582 (by decide +kernel) (by decide +kernel)
theorem xq584 : Cond.instanceMethod yX5_sizeOf ∈ xtbl := xq_of 584 (by decide +kernel) (by decide +kernel)
theorem xq585 : Cond.code yX5_sizeOf cX5_sizeOf 2 (some .int) ∈ xtbl := xq_of 585 (by decide +kernel) (by decide +kernel)
theorem xq586 : Cond.methodLinkNest "WordMender" (143) yX5_at "WordMender" ∈ xnst := xn_of 586 (by decide +kernel) (by decide +kernel)
theorem xq587 : Cond.methodLink "WordMenderLaw" (39) yX11_count ∈ xtbl := xq_of 587 (by decide +kernel) (by decide +kernel)
theorem xq588 : Cond.instanceMethod yX11_count ∈ xtbl := xq_of 588 (by decide +kernel) (by decide +kernel)
theorem xq589 : Cond.selects "WordMender" yX11_count yX11_count ∈ xtbl := xq_of 589 (by decide +kernel) (by decide +kernel)
theorem xq590 : Cond.code yX11_count cX11_count 2 (some .int) ∈ xtbl := xq_of 590 (by decide +kernel) (by decide +kernel)
theorem xq591 : Cond.methodLinkNest "WordMender" (147) yX1_nodes "WordMender" ∈ xnst := xn_of 591 (by decide +kernel) (by decide +kernel)
theorem xq593 : Cond.instanceMethod yX1_nodes ∈ xtbl := xq_of 593 (by decide +kernel) (by decide +kernel)
theorem xq594 : Cond.code yX1_nodes cX1_nodes 3 (some .int) ∈ xtbl := xq_of 594 (by decide +kernel) (by decide +kernel)
theorem xq595 : Cond.methodLinkNest "WordMender$Lexicon" (63) yX5_sizeOf "WordMender" ∈ xnst := xn_of 595 (by decide +kernel) (by decide +kernel)
theorem xq596 : Cond.methodLinkNest "WordMender$Lexicon" (67) yX5_shared "WordMender" ∈ xnst := xn_of 596 (by decide +kernel) (by decide +kernel)
theorem xq598 : Cond.instanceMethod yX5_shared ∈ xtbl := xq_of 598 (by decide +kernel) (by decide +kernel)
theorem xq599 : Cond.code yX5_shared cX5_shared 3 (some .int) ∈ xtbl := xq_of 599 (by decide +kernel) (by decide +kernel)
theorem xq600 : Cond.methodLink "WordMender$Rows" (33) yX5_sizeOf ∈ xtbl := xq_of 600 (by decide +kernel) (by decide +kernel)
theorem xq601 : Cond.methodLink "WordMenderLaw" (43) yX11_price ∈ xtbl := xq_of 601 (by decide +kernel) (by decide +kernel)
theorem xq602 : Cond.instanceMethod yX11_price ∈ xtbl := xq_of 602 (by decide +kernel) (by decide +kernel)
theorem xq603 : Cond.selects "WordMender" yX11_price yX11_price ∈ xtbl := xq_of 603 (by decide +kernel) (by decide +kernel)
theorem xq604 : Cond.code yX11_price cX11_price 5 (some .int) ∈ xtbl := xq_of 604 (by decide +kernel) (by decide +kernel)
theorem xq605 : Cond.methodLinkNest "WordMender" (166) yX6_setKind "WordMender" ∈ xnst := xn_of 605 (by decide +kernel) (by decide +kernel)
theorem xq607 : Cond.instanceMethod yX6_setKind ∈ xtbl := xq_of 607 (by decide +kernel) (by decide +kernel)
theorem xq608 : Cond.code yX6_setKind cX6_setKind 4 (some .int) ∈ xtbl := xq_of 608 (by decide +kernel) (by decide +kernel)
theorem xq609 : Cond.methodLinkNest "WordMender" (169) yX6_setByLetters "WordMender" ∈ xnst := xn_of 609 (by decide +kernel) (by decide +kernel)
theorem xq611 : Cond.instanceMethod yX6_setByLetters ∈ xtbl := xq_of 611 (by decide +kernel) (by decide +kernel)
theorem xq612 : Cond.code yX6_setByLetters cX6_setByLetters 5 (some .int) ∈ xtbl := xq_of 612 (by decide +kernel) (by decide +kernel)
theorem xq613 : Cond.methodLink "WordMender$Slips" (39) yX6_exchange ∈ xtbl := xq_of 613 (by decide +kernel) (by decide +kernel)
theorem xq614 : Cond.static yX6_exchange ∈ xtbl := xq_of 614 (by decide +kernel) (by decide +kernel)
theorem xq615 : Cond.code yX6_exchange cX6_exchange 4 (some .int) ∈ xtbl := xq_of 615 (by decide +kernel) (by decide +kernel)
theorem xq616 : Cond.methodLink "WordMenderLaw" (48) yX11_sound ∈ xtbl := xq_of 616 (by decide +kernel) (by decide +kernel)
theorem xq617 : Cond.instanceMethod yX11_sound ∈ xtbl := xq_of 617 (by decide +kernel) (by decide +kernel)
theorem xq618 : Cond.selects "WordMender" yX11_sound yX11_sound ∈ xtbl := xq_of 618 (by decide +kernel) (by decide +kernel)
theorem xq619 : Cond.code yX11_sound cX11_sound 3 (some .int) ∈ xtbl := xq_of 619 (by decide +kernel) (by decide +kernel)
theorem xq620 : Cond.methodLinkNest "WordMender" (173) yX7_takeTwo "WordMender" ∈ xnst := xn_of 620 (by decide +kernel) (by decide +kernel)
theorem xq622 : Cond.instanceMethod yX7_takeTwo ∈ xtbl := xq_of 622 (by decide +kernel) (by decide +kernel)
theorem xq623 : Cond.code yX7_takeTwo cX7_takeTwo 6 (some .boolean) ∈ xtbl := xq_of 623 (by decide +kernel) (by decide +kernel)
theorem xq624 : Cond.methodLink "WordMender$Tape" (23) yX7_seek ∈ xtbl := xq_of 624 (by decide +kernel) (by decide +kernel)
theorem xq626 : Cond.instanceMethod yX7_seek ∈ xtbl := xq_of 626 (by decide +kernel) (by decide +kernel)
theorem xq627 : Cond.code yX7_seek cX7_seek 5 (some .int) ∈ xtbl := xq_of 627 (by decide +kernel) (by decide +kernel)
theorem xq628 : Cond.methodLinkNest "WordMender" (177) yX6_addSound "WordMender" ∈ xnst := xn_of 628 (by decide +kernel) (by decide +kernel)
theorem xq630 : Cond.instanceMethod yX6_addSound ∈ xtbl := xq_of 630 (by decide +kernel) (by decide +kernel)
theorem xq631 : Cond.code yX6_addSound cX6_addSound 5 (some .int) ∈ xtbl := xq_of 631 (by decide +kernel) (by decide +kernel)
theorem xq632 : Cond.methodLinkNest "WordMender$Slips" (47) yX5_isFull "WordMender" ∈ xnst := xn_of 632 (by decide +kernel) (by decide +kernel)
theorem xq633 : Cond.methodLinkNest "WordMender$Slips" (51) yX5_append "WordMender" ∈ xnst := xn_of 633 (by decide +kernel) (by decide +kernel)
theorem xq635 : Cond.instanceMethod yX5_append ∈ xtbl := xq_of 635 (by decide +kernel) (by decide +kernel)
theorem xq636 : Cond.code yX5_append cX5_append 2 none ∈ xtbl := xq_of 636 (by decide +kernel) (by decide +kernel)
theorem xq637 : Cond.methodLink "WordMender$Rows" (44) yX5_insert ∈ xtbl := xq_of 637 (by decide +kernel) (by decide +kernel)
theorem xq638 : Cond.methodLink "WordMenderLaw" (52) yX11_model ∈ xtbl := xq_of 638 (by decide +kernel) (by decide +kernel)
theorem xq639 : Cond.instanceMethod yX11_model ∈ xtbl := xq_of 639 (by decide +kernel) (by decide +kernel)
theorem xq640 : Cond.selects "WordMender" yX11_model yX11_model ∈ xtbl := xq_of 640 (by decide +kernel) (by decide +kernel)
theorem xq641 : Cond.code yX11_model cX11_model 3 (some .int) ∈ xtbl := xq_of 641 (by decide +kernel) (by decide +kernel)
theorem xq642 : Cond.methodLink "WordMenderLaw" (56) yX11_distance ∈ xtbl := xq_of 642 (by decide +kernel) (by decide +kernel)
theorem xq643 : Cond.instanceMethod yX11_distance ∈ xtbl := xq_of 643 (by decide +kernel) (by decide +kernel)
theorem xq644 : Cond.selects "WordMender" yX11_distance yX11_distance ∈ xtbl := xq_of 644 (by decide +kernel) (by decide +kernel)
theorem xq645 : Cond.code yX11_distance cX11_distance 2 (some .int) ∈ xtbl := xq_of 645 (by decide +kernel) (by decide +kernel)
theorem xq646 : Cond.methodLinkNest "WordMender" (184) yX10_measure "WordMender" ∈ xnst := xn_of 646 (by decide +kernel) (by decide +kernel)
theorem xq648 : Cond.instanceMethod yX10_measure ∈ xtbl := xq_of 648 (by decide +kernel) (by decide +kernel)
theorem xq649 : Cond.code yX10_measure cX10_measure 6 (some .int) ∈ xtbl := xq_of 649 (by decide +kernel) (by decide +kernel)
theorem xq650 : Cond.methodLink "WordMender$Way" (37) yX10_leastFrom ∈ xtbl := xq_of 650 (by decide +kernel) (by decide +kernel)
theorem xq652 : Cond.instanceMethod yX10_leastFrom ∈ xtbl := xq_of 652 (by decide +kernel) (by decide +kernel)
theorem xq653 : Cond.code yX10_leastFrom cX10_leastFrom 7 (some .int) ∈ xtbl := xq_of 653 (by decide +kernel) (by decide +kernel)
theorem xq654 : Cond.constant "WordMender$Way" 41 (Int32.ofInt (1000000)) ∈ xtbl := xq_of 654 (by decide +kernel) (by decide +kernel)
theorem xq655 : Cond.methodLinkNest "WordMender$Way" (42) yX6_codes "WordMender" ∈ xnst := xn_of 655 (by decide +kernel) (by decide +kernel)
theorem xq657 : Cond.instanceMethod yX6_codes ∈ xtbl := xq_of 657 (by decide +kernel) (by decide +kernel)
theorem xq658 : Cond.code yX6_codes cX6_codes 1 (some .int) ∈ xtbl := xq_of 658 (by decide +kernel) (by decide +kernel)
theorem xq659 : Cond.methodLink "WordMender$Way" (47) yX10_sumBy ∈ xtbl := xq_of 659 (by decide +kernel) (by decide +kernel)
theorem xq661 : Cond.instanceMethod yX10_sumBy ∈ xtbl := xq_of 661 (by decide +kernel) (by decide +kernel)
theorem xq662 : Cond.code yX10_sumBy cX10_sumBy 8 (some .int) ∈ xtbl := xq_of 662 (by decide +kernel) (by decide +kernel)
theorem xq663 : Cond.methodLinkNest "WordMender$Way" (57) yX6_priceAt "WordMender" ∈ xnst := xn_of 663 (by decide +kernel) (by decide +kernel)
theorem xq665 : Cond.instanceMethod yX6_priceAt ∈ xtbl := xq_of 665 (by decide +kernel) (by decide +kernel)
theorem xq666 : Cond.code yX6_priceAt cX6_priceAt 9 (some .int) ∈ xtbl := xq_of 666 (by decide +kernel) (by decide +kernel)
theorem xq667 : Cond.methodLinkNest "WordMender$Slips" (69) yX4_at "WordMender" ∈ xnst := xn_of 667 (by decide +kernel) (by decide +kernel)
theorem xq668 : Cond.methodLink "WordMender$Slips" (74) yX6_byLetters ∈ xtbl := xq_of 668 (by decide +kernel) (by decide +kernel)
theorem xq669 : Cond.static yX6_byLetters ∈ xtbl := xq_of 669 (by decide +kernel) (by decide +kernel)
theorem xq670 : Cond.code yX6_byLetters cX6_byLetters 4 (some .int) ∈ xtbl := xq_of 670 (by decide +kernel) (by decide +kernel)
theorem xq671 : Cond.methodLinkNest "WordMender$Slips" (65) yX5_standsIn "WordMender" ∈ xnst := xn_of 671 (by decide +kernel) (by decide +kernel)
theorem xq673 : Cond.instanceMethod yX5_standsIn ∈ xtbl := xq_of 673 (by decide +kernel) (by decide +kernel)
theorem xq674 : Cond.code yX5_standsIn cX5_standsIn 7 (some .boolean) ∈ xtbl := xq_of 674 (by decide +kernel) (by decide +kernel)
theorem xq675 : Cond.methodLink "WordMender$Slips" (77) yX6_soundPrice ∈ xtbl := xq_of 675 (by decide +kernel) (by decide +kernel)
theorem xq677 : Cond.instanceMethod yX6_soundPrice ∈ xtbl := xq_of 677 (by decide +kernel) (by decide +kernel)
theorem xq678 : Cond.code yX6_soundPrice cX6_soundPrice 2 (some .int) ∈ xtbl := xq_of 678 (by decide +kernel) (by decide +kernel)
theorem xq679 : Cond.methodLinkNest "WordMender$Way" (60) yX6_meantTaken "WordMender" ∈ xnst := xn_of 679 (by decide +kernel) (by decide +kernel)
theorem xq681 : Cond.instanceMethod yX6_meantTaken ∈ xtbl := xq_of 681 (by decide +kernel) (by decide +kernel)
theorem xq682 : Cond.code yX6_meantTaken cX6_meantTaken 2 (some .int) ∈ xtbl := xq_of 682 (by decide +kernel) (by decide +kernel)
theorem xq683 : Cond.fieldLink "WordMender$Slips" (55) "WordMender$Slips" "MEANT_TAKEN" "[I" ∈ xtbl := xq_of 683 (by decide +kernel) (by decide +kernel)
theorem xq685 : Cond.methodLinkNest "WordMender$Slips" (58) yX5_sizeOf "WordMender" ∈ xnst := xn_of 685 (by decide +kernel) (by decide +kernel)
theorem xq686 : Cond.methodLinkNest "WordMender$Way" (64) yX6_typedTaken "WordMender" ∈ xnst := xn_of 686 (by decide +kernel) (by decide +kernel)
theorem xq688 : Cond.instanceMethod yX6_typedTaken ∈ xtbl := xq_of 688 (by decide +kernel) (by decide +kernel)
theorem xq689 : Cond.code yX6_typedTaken cX6_typedTaken 2 (some .int) ∈ xtbl := xq_of 689 (by decide +kernel) (by decide +kernel)
theorem xq690 : Cond.fieldLink "WordMender$Slips" (62) "WordMender$Slips" "TYPED_TAKEN" "[I" ∈ xtbl := xq_of 690 (by decide +kernel) (by decide +kernel)
theorem xq692 : Cond.methodLink "WordMender$Way" (51) Lib.Math.min.name ∈ xtbl := xq_of 692 (by decide +kernel) (by decide +kernel)
theorem xq693 : Cond.methodLinkNest "WordMender" (188) yX10_trace "WordMender" ∈ xnst := xn_of 693 (by decide +kernel) (by decide +kernel)
theorem xq695 : Cond.instanceMethod yX10_trace ∈ xtbl := xq_of 695 (by decide +kernel) (by decide +kernel)
theorem xq696 : Cond.code yX10_trace cX10_trace 6 none ∈ xtbl := xq_of 696 (by decide +kernel) (by decide +kernel)
theorem xq697 : Cond.methodLink "WordMender$Way" (68) yX10_firstCode ∈ xtbl := xq_of 697 (by decide +kernel) (by decide +kernel)
theorem xq699 : Cond.instanceMethod yX10_firstCode ∈ xtbl := xq_of 699 (by decide +kernel) (by decide +kernel)
theorem xq700 : Cond.code yX10_firstCode cX10_firstCode 7 (some .int) ∈ xtbl := xq_of 700 (by decide +kernel) (by decide +kernel)
theorem xq701 : Cond.methodLink "WordMenderLaw" (60) yX11_way ∈ xtbl := xq_of 701 (by decide +kernel) (by decide +kernel)
theorem xq702 : Cond.instanceMethod yX11_way ∈ xtbl := xq_of 702 (by decide +kernel) (by decide +kernel)
theorem xq703 : Cond.selects "WordMender" yX11_way yX11_way ∈ xtbl := xq_of 703 (by decide +kernel) (by decide +kernel)
theorem xq704 : Cond.code yX11_way cX11_way 3 (some .int) ∈ xtbl := xq_of 704 (by decide +kernel) (by decide +kernel)
theorem xq705 : Cond.methodLinkNest "WordMender" (193) yX10_tell "WordMender" ∈ xnst := xn_of 705 (by decide +kernel) (by decide +kernel)
theorem xq707 : Cond.instanceMethod yX10_tell ∈ xtbl := xq_of 707 (by decide +kernel) (by decide +kernel)
theorem xq708 : Cond.code yX10_tell cX10_tell 4 (some .int) ∈ xtbl := xq_of 708 (by decide +kernel) (by decide +kernel)
theorem xq709 : Cond.methodLink "WordMender$Way" (71) yX10_codeAt ∈ xtbl := xq_of 709 (by decide +kernel) (by decide +kernel)
theorem xq711 : Cond.instanceMethod yX10_codeAt ∈ xtbl := xq_of 711 (by decide +kernel) (by decide +kernel)
theorem xq712 : Cond.code yX10_codeAt cX10_codeAt 2 (some .int) ∈ xtbl := xq_of 712 (by decide +kernel) (by decide +kernel)
theorem xq713 : Cond.methodLink "WordMenderLaw" (64) yX11_near ∈ xtbl := xq_of 713 (by decide +kernel) (by decide +kernel)
theorem xq714 : Cond.instanceMethod yX11_near ∈ xtbl := xq_of 714 (by decide +kernel) (by decide +kernel)
theorem xq715 : Cond.selects "WordMender" yX11_near yX11_near ∈ xtbl := xq_of 715 (by decide +kernel) (by decide +kernel)
theorem xq716 : Cond.code yX11_near cX11_near 3 (some .int) ∈ xtbl := xq_of 716 (by decide +kernel) (by decide +kernel)
theorem xq717 : Cond.methodLink "WordMender" (196) yX11_isNoBound ∈ xtbl := xq_of 717 (by decide +kernel) (by decide +kernel)
theorem xq718 : Cond.static yX11_isNoBound ∈ xtbl := xq_of 718 (by decide +kernel) (by decide +kernel)
theorem xq719 : Cond.code yX11_isNoBound cX11_isNoBound 1 (some .boolean) ∈ xtbl := xq_of 719 (by decide +kernel) (by decide +kernel)
theorem xq720 : Cond.constant "WordMender" 303 (Int32.ofInt (99999)) ∈ xtbl := xq_of 720 (by decide +kernel) (by decide +kernel)
theorem xq721 : Cond.methodLinkNest "WordMender" (200) yX9_go "WordMender" ∈ xnst := xn_of 721 (by decide +kernel) (by decide +kernel)
theorem xq723 : Cond.instanceMethod yX9_go ∈ xtbl := xq_of 723 (by decide +kernel) (by decide +kernel)
theorem xq724 : Cond.code yX9_go cX9_go 10 none ∈ xtbl := xq_of 724 (by decide +kernel) (by decide +kernel)
theorem xq725 : Cond.methodLinkNest "WordMender$Walk" (53) yX3_clear "WordMender" ∈ xnst := xn_of 725 (by decide +kernel) (by decide +kernel)
theorem xq727 : Cond.instanceMethod yX3_clear ∈ xtbl := xq_of 727 (by decide +kernel) (by decide +kernel)
theorem xq728 : Cond.code yX3_clear cX3_clear 2 none ∈ xtbl := xq_of 728 (by decide +kernel) (by decide +kernel)
theorem xq729 : Cond.methodLink "WordMender$Met" (35) Lib.Math.min.name ∈ xtbl := xq_of 729 (by decide +kernel) (by decide +kernel)
theorem xq730 : Cond.methodLink "WordMender$Met" (41) Lib.Math.max.name ∈ xtbl := xq_of 730 (by decide +kernel) (by decide +kernel)
theorem xq731 : Cond.methodLinkNest "WordMender$Walk" (66) yX5_copyTo "WordMender" ∈ xnst := xn_of 731 (by decide +kernel) (by decide +kernel)
theorem xq733 : Cond.instanceMethod yX5_copyTo ∈ xtbl := xq_of 733 (by decide +kernel) (by decide +kernel)
theorem xq734 : Cond.code yX5_copyTo cX5_copyTo 4 none ∈ xtbl := xq_of 734 (by decide +kernel) (by decide +kernel)
theorem xq735 : Cond.methodLinkNest "WordMender$Rows" (28) yX4_clear "WordMender" ∈ xnst := xn_of 735 (by decide +kernel) (by decide +kernel)
theorem xq736 : Cond.methodLinkNest "WordMender$Rows" (40) yX4_append "WordMender" ∈ xnst := xn_of 736 (by decide +kernel) (by decide +kernel)
theorem xq737 : Cond.methodLinkNest "WordMender$Walk" (70) yX5_shared "WordMender" ∈ xnst := xn_of 737 (by decide +kernel) (by decide +kernel)
theorem xq738 : Cond.methodLink "WordMender$Walk" (74) yX9_descend ∈ xtbl := xq_of 738 (by decide +kernel) (by decide +kernel)
theorem xq740 : Cond.instanceMethod yX9_descend ∈ xtbl := xq_of 740 (by decide +kernel) (by decide +kernel)
theorem xq741 : Cond.code yX9_descend cX9_descend 7 (some .int) ∈ xtbl := xq_of 741 (by decide +kernel) (by decide +kernel)
theorem xq742 : Cond.methodLink "WordMender$Walk" (85) Lib.Math.max.name ∈ xtbl := xq_of 742 (by decide +kernel) (by decide +kernel)
theorem xq743 : Cond.methodLink "WordMender$Walk" (88) yX9_fill ∈ xtbl := xq_of 743 (by decide +kernel) (by decide +kernel)
theorem xq745 : Cond.instanceMethod yX9_fill ∈ xtbl := xq_of 745 (by decide +kernel) (by decide +kernel)
theorem xq746 : Cond.code yX9_fill cX9_fill 5 none ∈ xtbl := xq_of 746 (by decide +kernel) (by decide +kernel)
theorem xq747 : Cond.constant "WordMender$Walk" 84 (Int32.ofInt (1000000)) ∈ xtbl := xq_of 747 (by decide +kernel) (by decide +kernel)
theorem xq748 : Cond.methodLinkNest "WordMender$Walk" (105) yX6_codes "WordMender" ∈ xnst := xn_of 748 (by decide +kernel) (by decide +kernel)
theorem xq749 : Cond.methodLink "WordMender$Walk" (111) yX9_reach ∈ xtbl := xq_of 749 (by decide +kernel) (by decide +kernel)
theorem xq751 : Cond.instanceMethod yX9_reach ∈ xtbl := xq_of 751 (by decide +kernel) (by decide +kernel)
theorem xq752 : Cond.code yX9_reach cX9_reach 10 none ∈ xtbl := xq_of 752 (by decide +kernel) (by decide +kernel)
theorem xq753 : Cond.methodLinkNest "WordMender$Walk" (115) yX6_meantTaken "WordMender" ∈ xnst := xn_of 753 (by decide +kernel) (by decide +kernel)
theorem xq754 : Cond.methodLinkNest "WordMender$Walk" (118) yX6_mayStand "WordMender" ∈ xnst := xn_of 754 (by decide +kernel) (by decide +kernel)
theorem xq756 : Cond.instanceMethod yX6_mayStand ∈ xtbl := xq_of 756 (by decide +kernel) (by decide +kernel)
theorem xq757 : Cond.code yX6_mayStand cX6_mayStand 4 (some .boolean) ∈ xtbl := xq_of 757 (by decide +kernel) (by decide +kernel)
theorem xq758 : Cond.methodLinkNest "WordMender$Walk" (122) yX6_typedTaken "WordMender" ∈ xnst := xn_of 758 (by decide +kernel) (by decide +kernel)
theorem xq759 : Cond.methodLinkNest "WordMender$Walk" (125) yX6_priceAt "WordMender" ∈ xnst := xn_of 759 (by decide +kernel) (by decide +kernel)
theorem xq760 : Cond.methodLink "WordMender$Walk" (91) yX9_sumUp ∈ xtbl := xq_of 760 (by decide +kernel) (by decide +kernel)
theorem xq762 : Cond.instanceMethod yX9_sumUp ∈ xtbl := xq_of 762 (by decide +kernel) (by decide +kernel)
theorem xq763 : Cond.code yX9_sumUp cX9_sumUp 7 none ∈ xtbl := xq_of 763 (by decide +kernel) (by decide +kernel)
theorem xq764 : Cond.methodLink "WordMender$Walk" (78) Lib.Math.min.name ∈ xtbl := xq_of 764 (by decide +kernel) (by decide +kernel)
theorem xq765 : Cond.methodLink "WordMender$Walk" (94) yX9_isLeft ∈ xtbl := xq_of 765 (by decide +kernel) (by decide +kernel)
theorem xq767 : Cond.instanceMethod yX9_isLeft ∈ xtbl := xq_of 767 (by decide +kernel) (by decide +kernel)
theorem xq768 : Cond.code yX9_isLeft cX9_isLeft 4 (some .boolean) ∈ xtbl := xq_of 768 (by decide +kernel) (by decide +kernel)
theorem xq769 : Cond.methodLinkNest "WordMender$Walk" (98) yX4_at "WordMender" ∈ xnst := xn_of 769 (by decide +kernel) (by decide +kernel)
theorem xq770 : Cond.methodLinkNest "WordMender$Walk" (101) yX3_keep "WordMender" ∈ xnst := xn_of 770 (by decide +kernel) (by decide +kernel)
theorem xq772 : Cond.instanceMethod yX3_keep ∈ xtbl := xq_of 772 (by decide +kernel) (by decide +kernel)
theorem xq773 : Cond.code yX3_keep cX3_keep 6 none ∈ xtbl := xq_of 773 (by decide +kernel) (by decide +kernel)
theorem xq774 : Cond.methodLink "WordMender$Met" (47) arraycopyName ∈ xtbl := xq_of 774 (by decide +kernel) (by decide +kernel)
theorem xq775 : Cond.methodLinkNest "WordMender" (207) yX0_gather "WordMender" ∈ xnst := xn_of 775 (by decide +kernel) (by decide +kernel)
theorem xq777 : Cond.instanceMethod yX0_gather ∈ xtbl := xq_of 777 (by decide +kernel) (by decide +kernel)
theorem xq778 : Cond.code yX0_gather cX0_gather 5 (some .int) ∈ xtbl := xq_of 778 (by decide +kernel) (by decide +kernel)
theorem xq779 : Cond.methodLink "WordMender$Found" (38) Lib.Math.min.name ∈ xtbl := xq_of 779 (by decide +kernel) (by decide +kernel)
theorem xq780 : Cond.methodLink "WordMender$Found" (44) yX0_lay ∈ xtbl := xq_of 780 (by decide +kernel) (by decide +kernel)
theorem xq782 : Cond.instanceMethod yX0_lay ∈ xtbl := xq_of 782 (by decide +kernel) (by decide +kernel)
theorem xq783 : Cond.code yX0_lay cX0_lay 6 none ∈ xtbl := xq_of 783 (by decide +kernel) (by decide +kernel)
theorem xq784 : Cond.methodLinkNest "WordMender$Found" (48) yX1_share "WordMender" ∈ xnst := xn_of 784 (by decide +kernel) (by decide +kernel)
theorem xq786 : Cond.instanceMethod yX1_share ∈ xtbl := xq_of 786 (by decide +kernel) (by decide +kernel)
theorem xq787 : Cond.code yX1_share cX1_share 2 (some .int) ∈ xtbl := xq_of 787 (by decide +kernel) (by decide +kernel)
theorem xq788 : Cond.constantFloat "WordMender$Lexicon" 73 (1148846080) ∈ xtbl := xq_of 788 (by decide +kernel) (by decide +kernel)
theorem xq789 : Cond.methodLink "WordMender$Lexicon" (74) yX1_countOf ∈ xtbl := xq_of 789 (by decide +kernel) (by decide +kernel)
theorem xq790 : Cond.methodLink "WordMender$Found" (52) yX0_isAhead ∈ xtbl := xq_of 790 (by decide +kernel) (by decide +kernel)
theorem xq792 : Cond.instanceMethod yX0_isAhead ∈ xtbl := xq_of 792 (by decide +kernel) (by decide +kernel)
theorem xq793 : Cond.code yX0_isAhead cX0_isAhead 5 (some .boolean) ∈ xtbl := xq_of 793 (by decide +kernel) (by decide +kernel)
theorem xq794 : Cond.methodLinkNest "WordMender$Found" (59) yX1_countOf "WordMender" ∈ xnst := xn_of 794 (by decide +kernel) (by decide +kernel)
theorem xq795 : Cond.methodLink "WordMender$Found" (56) yX0_move ∈ xtbl := xq_of 795 (by decide +kernel) (by decide +kernel)
theorem xq797 : Cond.instanceMethod yX0_move ∈ xtbl := xq_of 797 (by decide +kernel) (by decide +kernel)
theorem xq798 : Cond.code yX0_move cX0_move 4 none ∈ xtbl := xq_of 798 (by decide +kernel) (by decide +kernel)
theorem xq799 : Cond.methodLink "WordMenderLaw" (68) yX11_nearest ∈ xtbl := xq_of 799 (by decide +kernel) (by decide +kernel)
theorem xq800 : Cond.instanceMethod yX11_nearest ∈ xtbl := xq_of 800 (by decide +kernel) (by decide +kernel)
theorem xq801 : Cond.selects "WordMender" yX11_nearest yX11_nearest ∈ xtbl := xq_of 801 (by decide +kernel) (by decide +kernel)
theorem xq802 : Cond.code yX11_nearest cX11_nearest 3 (some .int) ∈ xtbl := xq_of 802 (by decide +kernel) (by decide +kernel)
theorem xq803 : Cond.constant "WordMender" 211 (Int32.ofInt (1000000)) ∈ xtbl := xq_of 803 (by decide +kernel) (by decide +kernel)
theorem xq804 : Cond.methodLink "WordMenderLaw" (72) yX11_complete ∈ xtbl := xq_of 804 (by decide +kernel) (by decide +kernel)
theorem xq805 : Cond.instanceMethod yX11_complete ∈ xtbl := xq_of 805 (by decide +kernel) (by decide +kernel)
theorem xq806 : Cond.selects "WordMender" yX11_complete yX11_complete ∈ xtbl := xq_of 806 (by decide +kernel) (by decide +kernel)
theorem xq807 : Cond.code yX11_complete cX11_complete 3 (some .int) ∈ xtbl := xq_of 807 (by decide +kernel) (by decide +kernel)
theorem xq808 : Cond.methodLink "WordMenderLaw" (76) yX11_found ∈ xtbl := xq_of 808 (by decide +kernel) (by decide +kernel)
theorem xq809 : Cond.instanceMethod yX11_found ∈ xtbl := xq_of 809 (by decide +kernel) (by decide +kernel)
theorem xq810 : Cond.selects "WordMender" yX11_found yX11_found ∈ xtbl := xq_of 810 (by decide +kernel) (by decide +kernel)
theorem xq811 : Cond.code yX11_found cX11_found 3 (some .int) ∈ xtbl := xq_of 811 (by decide +kernel) (by decide +kernel)
theorem xq812 : Cond.methodLinkNest "WordMender" (215) yX0_tell "WordMender" ∈ xnst := xn_of 812 (by decide +kernel) (by decide +kernel)
theorem xq814 : Cond.instanceMethod yX0_tell ∈ xtbl := xq_of 814 (by decide +kernel) (by decide +kernel)
theorem xq815 : Cond.code yX0_tell cX0_tell 3 (some .int) ∈ xtbl := xq_of 815 (by decide +kernel) (by decide +kernel)
theorem xq816 : Cond.methodLink "WordMenderLaw" (80) yX11_node ∈ xtbl := xq_of 816 (by decide +kernel) (by decide +kernel)
theorem xq817 : Cond.instanceMethod yX11_node ∈ xtbl := xq_of 817 (by decide +kernel) (by decide +kernel)
theorem xq818 : Cond.selects "WordMender" yX11_node yX11_node ∈ xtbl := xq_of 818 (by decide +kernel) (by decide +kernel)
theorem xq819 : Cond.code yX11_node cX11_node 3 (some .int) ∈ xtbl := xq_of 819 (by decide +kernel) (by decide +kernel)
theorem xq820 : Cond.methodLinkNest "WordMender" (216) yX3_tell "WordMender" ∈ xnst := xn_of 820 (by decide +kernel) (by decide +kernel)
theorem xq822 : Cond.instanceMethod yX3_tell ∈ xtbl := xq_of 822 (by decide +kernel) (by decide +kernel)
theorem xq823 : Cond.code yX3_tell cX3_tell 3 (some .int) ∈ xtbl := xq_of 823 (by decide +kernel) (by decide +kernel)
theorem xq824 : Cond.methodLink "WordMender$Met" (53) yX3_least ∈ xtbl := xq_of 824 (by decide +kernel) (by decide +kernel)
theorem xq826 : Cond.instanceMethod yX3_least ∈ xtbl := xq_of 826 (by decide +kernel) (by decide +kernel)
theorem xq827 : Cond.code yX3_least cX3_least 4 (some .int) ∈ xtbl := xq_of 827 (by decide +kernel) (by decide +kernel)
theorem xq828 : Cond.constant "WordMender$Met" 60 (Int32.ofInt (1000000)) ∈ xtbl := xq_of 828 (by decide +kernel) (by decide +kernel)
theorem xq829 : Cond.methodLink "WordMender$Met" (57) yX3_stateAt ∈ xtbl := xq_of 829 (by decide +kernel) (by decide +kernel)
theorem xq831 : Cond.instanceMethod yX3_stateAt ∈ xtbl := xq_of 831 (by decide +kernel) (by decide +kernel)
theorem xq832 : Cond.code yX3_stateAt cX3_stateAt 4 (some .int) ∈ xtbl := xq_of 832 (by decide +kernel) (by decide +kernel)
theorem xq833 : Cond.methodLink "WordMenderLaw" (84) yX11_pair ∈ xtbl := xq_of 833 (by decide +kernel) (by decide +kernel)
theorem xq834 : Cond.instanceMethod yX11_pair ∈ xtbl := xq_of 834 (by decide +kernel) (by decide +kernel)
theorem xq835 : Cond.selects "WordMender" yX11_pair yX11_pair ∈ xtbl := xq_of 835 (by decide +kernel) (by decide +kernel)
theorem xq836 : Cond.code yX11_pair cX11_pair 1 (some .int) ∈ xtbl := xq_of 836 (by decide +kernel) (by decide +kernel)
theorem xq837 : Cond.methodLinkNest "WordMender" (217) yX5_isFull "WordMender" ∈ xnst := xn_of 837 (by decide +kernel) (by decide +kernel)
theorem xq838 : Cond.methodLinkNest "WordMender" (221) yX5_append "WordMender" ∈ xnst := xn_of 838 (by decide +kernel) (by decide +kernel)
theorem xq839 : Cond.methodLink "WordMenderLaw" (88) yX11_learn ∈ xtbl := xq_of 839 (by decide +kernel) (by decide +kernel)
theorem xq840 : Cond.instanceMethod yX11_learn ∈ xtbl := xq_of 840 (by decide +kernel) (by decide +kernel)
theorem xq841 : Cond.selects "WordMender" yX11_learn yX11_learn ∈ xtbl := xq_of 841 (by decide +kernel) (by decide +kernel)
theorem xq842 : Cond.code yX11_learn cX11_learn 5 (some .int) ∈ xtbl := xq_of 842 (by decide +kernel) (by decide +kernel)
theorem xq843 : Cond.methodLink "WordMender" (224) yJ7_fill_53178 ∈ xtbl := xq_of 843 (by decide +kernel) (by decide +kernel)
theorem xq844 : Cond.static yJ7_fill_53178 ∈ xtbl := xq_of 844 (by decide +kernel) (by decide +kernel)
theorem xq845 : Cond.code yJ7_fill_53178 cJ7_fill_53178 4 none ∈ xtbl := xq_of 845 (by decide +kernel) (by decide +kernel)
theorem xq846 : Cond.methodLink "WordMender" (230) yX11_findWays ∈ xtbl := xq_of 846 (by decide +kernel) (by decide +kernel)
theorem xq848 : Cond.instanceMethod yX11_findWays ∈ xtbl := xq_of 848 (by decide +kernel) (by decide +kernel)
theorem xq849 : Cond.code yX11_findWays cX11_findWays 3 (some .boolean) ∈ xtbl := xq_of 849 (by decide +kernel) (by decide +kernel)
theorem xq850 : Cond.methodLink "WordMender" (237) yX11_readPair ∈ xtbl := xq_of 850 (by decide +kernel) (by decide +kernel)
theorem xq852 : Cond.instanceMethod yX11_readPair ∈ xtbl := xq_of 852 (by decide +kernel) (by decide +kernel)
theorem xq853 : Cond.code yX11_readPair cX11_readPair 2 none ∈ xtbl := xq_of 853 (by decide +kernel) (by decide +kernel)
theorem xq854 : Cond.methodLinkNest "WordMender" (247) yX5_copyTo "WordMender" ∈ xnst := xn_of 854 (by decide +kernel) (by decide +kernel)
theorem xq855 : Cond.methodLink "WordMender" (304) yX11_noteWay ∈ xtbl := xq_of 855 (by decide +kernel) (by decide +kernel)
theorem xq857 : Cond.instanceMethod yX11_noteWay ∈ xtbl := xq_of 857 (by decide +kernel) (by decide +kernel)
theorem xq858 : Cond.code yX11_noteWay cX11_noteWay 6 (some .boolean) ∈ xtbl := xq_of 858 (by decide +kernel) (by decide +kernel)
theorem xq859 : Cond.methodLinkNest "WordMender" (307) yX10_codeAt "WordMender" ∈ xnst := xn_of 859 (by decide +kernel) (by decide +kernel)
theorem xq860 : Cond.methodLinkNest "WordMender" (233) yX6_setByCounts "WordMender" ∈ xnst := xn_of 860 (by decide +kernel) (by decide +kernel)
theorem xq862 : Cond.instanceMethod yX6_setByCounts ∈ xtbl := xq_of 862 (by decide +kernel) (by decide +kernel)
theorem xq863 : Cond.code yX6_setByCounts cX6_setByCounts 4 (some .boolean) ∈ xtbl := xq_of 863 (by decide +kernel) (by decide +kernel)
theorem xq864 : Cond.methodLink "WordMenderLaw" (92) yX11_spread ∈ xtbl := xq_of 864 (by decide +kernel) (by decide +kernel)
theorem xq865 : Cond.instanceMethod yX11_spread ∈ xtbl := xq_of 865 (by decide +kernel) (by decide +kernel)
theorem xq866 : Cond.selects "WordMender" yX11_spread yX11_spread ∈ xtbl := xq_of 866 (by decide +kernel) (by decide +kernel)
theorem xq867 : Cond.code yX11_spread cX11_spread 3 (some .int) ∈ xtbl := xq_of 867 (by decide +kernel) (by decide +kernel)
theorem xq868 : Cond.methodLink "WordMenderLaw" (96) yX11_mend ∈ xtbl := xq_of 868 (by decide +kernel) (by decide +kernel)
theorem xq869 : Cond.instanceMethod yX11_mend ∈ xtbl := xq_of 869 (by decide +kernel) (by decide +kernel)
theorem xq870 : Cond.selects "WordMender" yX11_mend yX11_mend ∈ xtbl := xq_of 870 (by decide +kernel) (by decide +kernel)
theorem xq871 : Cond.code yX11_mend cX11_mend 5 (some .int) ∈ xtbl := xq_of 871 (by decide +kernel) (by decide +kernel)
theorem xq872 : Cond.methodLinkNest "WordMender" (240) yX7_takeText "WordMender" ∈ xnst := xn_of 872 (by decide +kernel) (by decide +kernel)
theorem xq874 : Cond.instanceMethod yX7_takeText ∈ xtbl := xq_of 874 (by decide +kernel) (by decide +kernel)
theorem xq875 : Cond.code yX7_takeText cX7_takeText 7 (some .boolean) ∈ xtbl := xq_of 875 (by decide +kernel) (by decide +kernel)
theorem xq876 : Cond.methodLinkNest "WordMender$Tape" (27) yX5_clear "WordMender" ∈ xnst := xn_of 876 (by decide +kernel) (by decide +kernel)
theorem xq878 : Cond.instanceMethod yX5_clear ∈ xtbl := xq_of 878 (by decide +kernel) (by decide +kernel)
theorem xq879 : Cond.code yX5_clear cX5_clear 1 none ∈ xtbl := xq_of 879 (by decide +kernel) (by decide +kernel)
theorem xq880 : Cond.methodLinkNest "WordMender$Tape" (32) yX5_append "WordMender" ∈ xnst := xn_of 880 (by decide +kernel) (by decide +kernel)
theorem xq881 : Cond.methodLinkNest "WordMender" (244) yX2_clear "WordMender" ∈ xnst := xn_of 881 (by decide +kernel) (by decide +kernel)
theorem xq883 : Cond.instanceMethod yX2_clear ∈ xtbl := xq_of 883 (by decide +kernel) (by decide +kernel)
theorem xq884 : Cond.code yX2_clear cX2_clear 2 none ∈ xtbl := xq_of 884 (by decide +kernel) (by decide +kernel)
theorem xq885 : Cond.methodLink "WordMender$Mending" (30) Lib.Math.min.name ∈ xtbl := xq_of 885 (by decide +kernel) (by decide +kernel)
theorem xq886 : Cond.methodLink "WordMender$Mending" (36) Lib.Math.max.name ∈ xtbl := xq_of 886 (by decide +kernel) (by decide +kernel)
theorem xq887 : Cond.methodLink "WordMender$Mending" (46) yJ7_fill_53178 ∈ xtbl := xq_of 887 (by decide +kernel) (by decide +kernel)
theorem xq888 : Cond.methodLinkNest "WordMender" (251) yX2_offer "WordMender" ∈ xnst := xn_of 888 (by decide +kernel) (by decide +kernel)
theorem xq890 : Cond.instanceMethod yX2_offer ∈ xtbl := xq_of 890 (by decide +kernel) (by decide +kernel)
theorem xq891 : Cond.code yX2_offer cX2_offer 7 none ∈ xtbl := xq_of 891 (by decide +kernel) (by decide +kernel)
theorem xq892 : Cond.methodLink "WordMender$Mending" (52) yX2_cellOf ∈ xtbl := xq_of 892 (by decide +kernel) (by decide +kernel)
theorem xq894 : Cond.instanceMethod yX2_cellOf ∈ xtbl := xq_of 894 (by decide +kernel) (by decide +kernel)
theorem xq895 : Cond.code yX2_cellOf cX2_cellOf 3 (some .int) ∈ xtbl := xq_of 895 (by decide +kernel) (by decide +kernel)
theorem xq896 : Cond.methodLink "WordMender" (255) yX11_offerSplit ∈ xtbl := xq_of 896 (by decide +kernel) (by decide +kernel)
theorem xq898 : Cond.instanceMethod yX11_offerSplit ∈ xtbl := xq_of 898 (by decide +kernel) (by decide +kernel)
theorem xq899 : Cond.code yX11_offerSplit cX11_offerSplit 3 none ∈ xtbl := xq_of 899 (by decide +kernel) (by decide +kernel)
theorem xq900 : Cond.methodLinkNest "WordMender" (258) yX2_offers "WordMender" ∈ xnst := xn_of 900 (by decide +kernel) (by decide +kernel)
theorem xq902 : Cond.instanceMethod yX2_offers ∈ xtbl := xq_of 902 (by decide +kernel) (by decide +kernel)
theorem xq903 : Cond.code yX2_offers cX2_offers 4 (some .boolean) ∈ xtbl := xq_of 903 (by decide +kernel) (by decide +kernel)
theorem xq904 : Cond.methodLinkNest "WordMender" (310) yX4_append "WordMender" ∈ xnst := xn_of 904 (by decide +kernel) (by decide +kernel)
theorem xq905 : Cond.methodLinkNest "WordMender" (312) yX6_kindPrice "WordMender" ∈ xnst := xn_of 905 (by decide +kernel) (by decide +kernel)
theorem xq907 : Cond.instanceMethod yX6_kindPrice ∈ xtbl := xq_of 907 (by decide +kernel) (by decide +kernel)
theorem xq908 : Cond.code yX6_kindPrice cX6_kindPrice 2 (some .int) ∈ xtbl := xq_of 908 (by decide +kernel) (by decide +kernel)
theorem xq909 : Cond.methodLink "WordMender" (262) yX11_offerJoin ∈ xtbl := xq_of 909 (by decide +kernel) (by decide +kernel)
theorem xq911 : Cond.instanceMethod yX11_offerJoin ∈ xtbl := xq_of 911 (by decide +kernel) (by decide +kernel)
theorem xq912 : Cond.code yX11_offerJoin cX11_offerJoin 5 none ∈ xtbl := xq_of 912 (by decide +kernel) (by decide +kernel)
theorem xq913 : Cond.methodLinkNest "WordMender" (315) yX4_clear "WordMender" ∈ xnst := xn_of 913 (by decide +kernel) (by decide +kernel)
theorem xq914 : Cond.methodLink "WordMender" (265) yX11_offerMended ∈ xtbl := xq_of 914 (by decide +kernel) (by decide +kernel)
theorem xq916 : Cond.instanceMethod yX11_offerMended ∈ xtbl := xq_of 916 (by decide +kernel) (by decide +kernel)
theorem xq917 : Cond.code yX11_offerMended cX11_offerMended 3 none ∈ xtbl := xq_of 917 (by decide +kernel) (by decide +kernel)
theorem xq918 : Cond.methodLinkNest "WordMender" (269) yX2_choose "WordMender" ∈ xnst := xn_of 918 (by decide +kernel) (by decide +kernel)
theorem xq920 : Cond.instanceMethod yX2_choose ∈ xtbl := xq_of 920 (by decide +kernel) (by decide +kernel)
theorem xq921 : Cond.code yX2_choose cX2_choose 3 (some .int) ∈ xtbl := xq_of 921 (by decide +kernel) (by decide +kernel)
theorem xq922 : Cond.methodLink "WordMender$Mending" (55) yX2_bestKind ∈ xtbl := xq_of 922 (by decide +kernel) (by decide +kernel)
theorem xq924 : Cond.instanceMethod yX2_bestKind ∈ xtbl := xq_of 924 (by decide +kernel) (by decide +kernel)
theorem xq925 : Cond.code yX2_bestKind cX2_bestKind 4 (some .int) ∈ xtbl := xq_of 925 (by decide +kernel) (by decide +kernel)
theorem xq926 : Cond.methodLink "WordMender$Mending" (65) yX2_offers ∈ xtbl := xq_of 926 (by decide +kernel) (by decide +kernel)
theorem xq927 : Cond.methodLink "WordMender$Mending" (59) yX2_sumBy ∈ xtbl := xq_of 927 (by decide +kernel) (by decide +kernel)
theorem xq929 : Cond.instanceMethod yX2_sumBy ∈ xtbl := xq_of 929 (by decide +kernel) (by decide +kernel)
theorem xq930 : Cond.code yX2_sumBy cX2_sumBy 5 (some .int) ∈ xtbl := xq_of 930 (by decide +kernel) (by decide +kernel)
theorem xq931 : Cond.methodLink "WordMender$Mending" (62) yX2_taken ∈ xtbl := xq_of 931 (by decide +kernel) (by decide +kernel)
theorem xq932 : Cond.static yX2_taken ∈ xtbl := xq_of 932 (by decide +kernel) (by decide +kernel)
theorem xq933 : Cond.code yX2_taken cX2_taken 1 (some .int) ∈ xtbl := xq_of 933 (by decide +kernel) (by decide +kernel)
theorem xq934 : Cond.methodLink "WordMenderLaw" (100) yX11_part ∈ xtbl := xq_of 934 (by decide +kernel) (by decide +kernel)
theorem xq935 : Cond.instanceMethod yX11_part ∈ xtbl := xq_of 935 (by decide +kernel) (by decide +kernel)
theorem xq936 : Cond.selects "WordMender" yX11_part yX11_part ∈ xtbl := xq_of 936 (by decide +kernel) (by decide +kernel)
theorem xq937 : Cond.code yX11_part cX11_part 3 (some .int) ∈ xtbl := xq_of 937 (by decide +kernel) (by decide +kernel)
theorem xq938 : Cond.methodLinkNest "WordMender" (272) yX2_tell "WordMender" ∈ xnst := xn_of 938 (by decide +kernel) (by decide +kernel)
theorem xq940 : Cond.instanceMethod yX2_tell ∈ xtbl := xq_of 940 (by decide +kernel) (by decide +kernel)
theorem xq941 : Cond.code yX2_tell cX2_tell 6 (some .int) ∈ xtbl := xq_of 941 (by decide +kernel) (by decide +kernel)
theorem xq942 : Cond.methodLink "WordMenderLaw" (104) yX11_put ∈ xtbl := xq_of 942 (by decide +kernel) (by decide +kernel)
theorem xq943 : Cond.instanceMethod yX11_put ∈ xtbl := xq_of 943 (by decide +kernel) (by decide +kernel)
theorem xq944 : Cond.selects "WordMender" yX11_put yX11_put ∈ xtbl := xq_of 944 (by decide +kernel) (by decide +kernel)
theorem xq945 : Cond.code yX11_put cX11_put 4 (some .int) ∈ xtbl := xq_of 945 (by decide +kernel) (by decide +kernel)
theorem xq946 : Cond.methodLink "WordMender" (273) yX11_isThing ∈ xtbl := xq_of 946 (by decide +kernel) (by decide +kernel)
theorem xq948 : Cond.instanceMethod yX11_isThing ∈ xtbl := xq_of 948 (by decide +kernel) (by decide +kernel)
theorem xq949 : Cond.code yX11_isThing cX11_isThing 3 (some .boolean) ∈ xtbl := xq_of 949 (by decide +kernel) (by decide +kernel)
theorem xq950 : Cond.methodLinkNest "WordMender" (276) yX8_refuse "WordMender" ∈ xnst := xn_of 950 (by decide +kernel) (by decide +kernel)
theorem xq952 : Cond.instanceMethod yX8_refuse ∈ xtbl := xq_of 952 (by decide +kernel) (by decide +kernel)
theorem xq953 : Cond.code yX8_refuse cX8_refuse 2 (some .int) ∈ xtbl := xq_of 953 (by decide +kernel) (by decide +kernel)
theorem xq954 : Cond.methodLinkNest "WordMender" (279) yX8_clear "WordMender" ∈ xnst := xn_of 954 (by decide +kernel) (by decide +kernel)
theorem xq956 : Cond.instanceMethod yX8_clear ∈ xtbl := xq_of 956 (by decide +kernel) (by decide +kernel)
theorem xq957 : Cond.code yX8_clear cX8_clear 3 none ∈ xtbl := xq_of 957 (by decide +kernel) (by decide +kernel)
theorem xq958 : Cond.methodLink "WordMender" (281) yX11_layLetters ∈ xtbl := xq_of 958 (by decide +kernel) (by decide +kernel)
theorem xq960 : Cond.instanceMethod yX11_layLetters ∈ xtbl := xq_of 960 (by decide +kernel) (by decide +kernel)
theorem xq961 : Cond.code yX11_layLetters cX11_layLetters 4 none ∈ xtbl := xq_of 961 (by decide +kernel) (by decide +kernel)
theorem xq962 : Cond.methodLinkNest "WordMender" (317) yX8_lay "WordMender" ∈ xnst := xn_of 962 (by decide +kernel) (by decide +kernel)
theorem xq964 : Cond.instanceMethod yX8_lay ∈ xtbl := xq_of 964 (by decide +kernel) (by decide +kernel)
theorem xq965 : Cond.code yX8_lay cX8_lay 3 none ∈ xtbl := xq_of 965 (by decide +kernel) (by decide +kernel)
theorem xq966 : Cond.methodLink "WordMender" (284) yX11_layState ∈ xtbl := xq_of 966 (by decide +kernel) (by decide +kernel)
theorem xq968 : Cond.instanceMethod yX11_layState ∈ xtbl := xq_of 968 (by decide +kernel) (by decide +kernel)
theorem xq969 : Cond.code yX11_layState cX11_layState 4 none ∈ xtbl := xq_of 969 (by decide +kernel) (by decide +kernel)
theorem xq970 : Cond.methodLinkNest "WordMender" (323) yX3_stateAt "WordMender" ∈ xnst := xn_of 970 (by decide +kernel) (by decide +kernel)
theorem xq971 : Cond.methodLink "WordMender" (287) yX11_layPrices ∈ xtbl := xq_of 971 (by decide +kernel) (by decide +kernel)
theorem xq973 : Cond.instanceMethod yX11_layPrices ∈ xtbl := xq_of 973 (by decide +kernel) (by decide +kernel)
theorem xq974 : Cond.code yX11_layPrices cX11_layPrices 3 none ∈ xtbl := xq_of 974 (by decide +kernel) (by decide +kernel)
theorem xq975 : Cond.methodLink "WordMender" (290) yX11_layTruths ∈ xtbl := xq_of 975 (by decide +kernel) (by decide +kernel)
theorem xq977 : Cond.instanceMethod yX11_layTruths ∈ xtbl := xq_of 977 (by decide +kernel) (by decide +kernel)
theorem xq978 : Cond.code yX11_layTruths cX11_layTruths 6 none ∈ xtbl := xq_of 978 (by decide +kernel) (by decide +kernel)
theorem xq979 : Cond.methodLinkNest "WordMender" (293) yX8_done "WordMender" ∈ xnst := xn_of 979 (by decide +kernel) (by decide +kernel)
theorem xq981 : Cond.instanceMethod yX8_done ∈ xtbl := xq_of 981 (by decide +kernel) (by decide +kernel)
theorem xq982 : Cond.code yX8_done cX8_done 2 (some .int) ∈ xtbl := xq_of 982 (by decide +kernel) (by decide +kernel)
theorem xq983 : Cond.methodLink "WordMenderLaw" (109) yX11_forge ∈ xtbl := xq_of 983 (by decide +kernel) (by decide +kernel)
theorem xq984 : Cond.instanceMethod yX11_forge ∈ xtbl := xq_of 984 (by decide +kernel) (by decide +kernel)
theorem xq985 : Cond.selects "WordMender" yX11_forge yX11_forge ∈ xtbl := xq_of 985 (by decide +kernel) (by decide +kernel)
theorem xq986 : Cond.code yX11_forge cX11_forge 4 (some .int) ∈ xtbl := xq_of 986 (by decide +kernel) (by decide +kernel)
theorem xq987 : Cond.methodLinkNest "WordMender" (296) yX8_work "WordMender" ∈ xnst := xn_of 987 (by decide +kernel) (by decide +kernel)
theorem xq989 : Cond.instanceMethod yX8_work ∈ xtbl := xq_of 989 (by decide +kernel) (by decide +kernel)
theorem xq990 : Cond.code yX8_work cX8_work 4 (some .int) ∈ xtbl := xq_of 990 (by decide +kernel) (by decide +kernel)
theorem xq991 : Cond.methodLink "WordMender$Trays" (25) yX8_refuse ∈ xtbl := xq_of 991 (by decide +kernel) (by decide +kernel)
theorem xq992 : Cond.methodLink "WordMender$Trays" (29) yX8_read ∈ xtbl := xq_of 992 (by decide +kernel) (by decide +kernel)
theorem xq994 : Cond.instanceMethod yX8_read ∈ xtbl := xq_of 994 (by decide +kernel) (by decide +kernel)
theorem xq995 : Cond.code yX8_read cX8_read 6 (some .int) ∈ xtbl := xq_of 995 (by decide +kernel) (by decide +kernel)
theorem xq996 : Cond.methodLink "WordMender$Trays" (43) yX8_whyNot ∈ xtbl := xq_of 996 (by decide +kernel) (by decide +kernel)
theorem xq998 : Cond.instanceMethod yX8_whyNot ∈ xtbl := xq_of 998 (by decide +kernel) (by decide +kernel)
theorem xq999 : Cond.code yX8_whyNot cX8_whyNot 3 (some .int) ∈ xtbl := xq_of 999 (by decide +kernel) (by decide +kernel)
theorem xq1000 : Cond.methodLink "WordMender$Trays" (46) Lib.Math.min.name ∈ xtbl := xq_of 1000 (by decide +kernel) (by decide +kernel)
theorem xq1001 : Cond.methodLink "WordMender$Trays" (33) yX8_done ∈ xtbl := xq_of 1001 (by decide +kernel) (by decide +kernel)
theorem xq1002 : Cond.methodLink "WordMender$Trays" (36) yX8_copy ∈ xtbl := xq_of 1002 (by decide +kernel) (by decide +kernel)
theorem xq1004 : Cond.instanceMethod yX8_copy ∈ xtbl := xq_of 1004 (by decide +kernel) (by decide +kernel)
theorem xq1005 : Cond.code yX8_copy cX8_copy 7 (some .int) ∈ xtbl := xq_of 1005 (by decide +kernel) (by decide +kernel)
theorem xq1006 : Cond.methodLink "WordMender$Trays" (40) yX8_layAmongStates ∈ xtbl := xq_of 1006 (by decide +kernel) (by decide +kernel)
theorem xq1008 : Cond.instanceMethod yX8_layAmongStates ∈ xtbl := xq_of 1008 (by decide +kernel) (by decide +kernel)
theorem xq1009 : Cond.code yX8_layAmongStates cX8_layAmongStates 3 (some .int) ∈ xtbl := xq_of 1009 (by decide +kernel) (by decide +kernel)
theorem xq1010 : Cond.methodLink "WordMenderLaw" (113) yX11_status ∈ xtbl := xq_of 1010 (by decide +kernel) (by decide +kernel)
theorem xq1011 : Cond.instanceMethod yX11_status ∈ xtbl := xq_of 1011 (by decide +kernel) (by decide +kernel)
theorem xq1012 : Cond.selects "WordMender" yX11_status yX11_status ∈ xtbl := xq_of 1012 (by decide +kernel) (by decide +kernel)
theorem xq1013 : Cond.code yX11_status cX11_status 1 (some .int) ∈ xtbl := xq_of 1013 (by decide +kernel) (by decide +kernel)
theorem xq1020 : Cond.fieldLink "WordMenderModel" (7) "WordMenderModel" "tape" "[I" ∈ xtbl := xq_of 1020 (by decide +kernel) (by decide +kernel)
theorem xq1021 : Cond.fieldLink "WordMenderModel" (219) "WordMenderModel" "tapeN" "I" ∈ xtbl := xq_of 1021 (by decide +kernel) (by decide +kernel)
theorem xq1022 : Cond.fieldLink "WordMenderModel" (222) "WordMenderModel" "rows" "I" ∈ xtbl := xq_of 1022 (by decide +kernel) (by decide +kernel)
theorem xq1023 : Cond.fieldLink "WordMenderModel" (13) "WordMenderModel" "rowLen" "[I" ∈ xtbl := xq_of 1023 (by decide +kernel) (by decide +kernel)
theorem xq1024 : Cond.fieldLink "WordMenderModel" (16) "WordMenderModel" "rowLet" "[I" ∈ xtbl := xq_of 1024 (by decide +kernel) (by decide +kernel)
theorem xq1025 : Cond.fieldLink "WordMenderModel" (234) "WordMenderModel" "words" "I" ∈ xtbl := xq_of 1025 (by decide +kernel) (by decide +kernel)
theorem xq1026 : Cond.fieldLink "WordMenderModel" (19) "WordMenderModel" "wLen" "[I" ∈ xtbl := xq_of 1026 (by decide +kernel) (by decide +kernel)
theorem xq1027 : Cond.fieldLink "WordMenderModel" (22) "WordMenderModel" "wLet" "[I" ∈ xtbl := xq_of 1027 (by decide +kernel) (by decide +kernel)
theorem xq1028 : Cond.fieldLink "WordMenderModel" (25) "WordMenderModel" "wCount" "[I" ∈ xtbl := xq_of 1028 (by decide +kernel) (by decide +kernel)
theorem xq1029 : Cond.fieldLink "WordMenderModel" (28) "WordMenderModel" "kindPrice" "[I" ∈ xtbl := xq_of 1029 (by decide +kernel) (by decide +kernel)
theorem xq1030 : Cond.fieldLink "WordMenderModel" (31) "WordMenderModel" "swap" "[I" ∈ xtbl := xq_of 1030 (by decide +kernel) (by decide +kernel)
theorem xq1031 : Cond.fieldLink "WordMenderModel" (34) "WordMenderModel" "leftOut" "[I" ∈ xtbl := xq_of 1031 (by decide +kernel) (by decide +kernel)
theorem xq1032 : Cond.fieldLink "WordMenderModel" (37) "WordMenderModel" "putIn" "[I" ∈ xtbl := xq_of 1032 (by decide +kernel) (by decide +kernel)
theorem xq1033 : Cond.fieldLink "WordMenderModel" (40) "WordMenderModel" "splits" "I" ∈ xtbl := xq_of 1033 (by decide +kernel) (by decide +kernel)
theorem xq1034 : Cond.fieldLink "WordMenderModel" (44) "WordMenderModel" "joins" "I" ∈ xtbl := xq_of 1034 (by decide +kernel) (by decide +kernel)
theorem xq1035 : Cond.fieldLink "WordMenderModel" (285) "WordMenderModel" "weight" "I" ∈ xtbl := xq_of 1035 (by decide +kernel) (by decide +kernel)
theorem xq1036 : Cond.fieldLink "WordMenderModel" (266) "WordMenderModel" "sounds" "I" ∈ xtbl := xq_of 1036 (by decide +kernel) (by decide +kernel)
theorem xq1037 : Cond.fieldLink "WordMenderModel" (47) "WordMenderModel" "sFirst" "[I" ∈ xtbl := xq_of 1037 (by decide +kernel) (by decide +kernel)
theorem xq1038 : Cond.fieldLink "WordMenderModel" (50) "WordMenderModel" "sFirstLet" "[I" ∈ xtbl := xq_of 1038 (by decide +kernel) (by decide +kernel)
theorem xq1039 : Cond.fieldLink "WordMenderModel" (53) "WordMenderModel" "sSecond" "[I" ∈ xtbl := xq_of 1039 (by decide +kernel) (by decide +kernel)
theorem xq1040 : Cond.fieldLink "WordMenderModel" (56) "WordMenderModel" "sSecondLet" "[I" ∈ xtbl := xq_of 1040 (by decide +kernel) (by decide +kernel)
theorem xq1041 : Cond.fieldLink "WordMenderModel" (59) "WordMenderModel" "sPrice" "[I" ∈ xtbl := xq_of 1041 (by decide +kernel) (by decide +kernel)
theorem xq1042 : Cond.fieldLink "WordMenderModel" (228) "WordMenderModel" "aLen" "I" ∈ xtbl := xq_of 1042 (by decide +kernel) (by decide +kernel)
theorem xq1043 : Cond.fieldLink "WordMenderModel" (231) "WordMenderModel" "bLen" "I" ∈ xtbl := xq_of 1043 (by decide +kernel) (by decide +kernel)
theorem xq1044 : Cond.fieldLink "WordMenderModel" (62) "WordMenderModel" "a" "[I" ∈ xtbl := xq_of 1044 (by decide +kernel) (by decide +kernel)
theorem xq1045 : Cond.fieldLink "WordMenderModel" (65) "WordMenderModel" "b" "[I" ∈ xtbl := xq_of 1045 (by decide +kernel) (by decide +kernel)
theorem xq1046 : Cond.fieldLink "WordMenderModel" (68) "WordMenderModel" "best" "[I" ∈ xtbl := xq_of 1046 (by decide +kernel) (by decide +kernel)
theorem xq1047 : Cond.fieldLink "WordMenderModel" (319) "WordMenderModel" "slips" "I" ∈ xtbl := xq_of 1047 (by decide +kernel) (by decide +kernel)
theorem xq1048 : Cond.fieldLink "WordMenderModel" (71) "WordMenderModel" "slipKind" "[I" ∈ xtbl := xq_of 1048 (by decide +kernel) (by decide +kernel)
theorem xq1049 : Cond.fieldLink "WordMenderModel" (74) "WordMenderModel" "slipPrice" "[I" ∈ xtbl := xq_of 1049 (by decide +kernel) (by decide +kernel)
theorem xq1050 : Cond.fieldLink "WordMenderModel" (77) "WordMenderModel" "slipI" "[I" ∈ xtbl := xq_of 1050 (by decide +kernel) (by decide +kernel)
theorem xq1051 : Cond.fieldLink "WordMenderModel" (80) "WordMenderModel" "slipJ" "[I" ∈ xtbl := xq_of 1051 (by decide +kernel) (by decide +kernel)
theorem xq1052 : Cond.fieldLink "WordMenderModel" (83) "WordMenderModel" "slipSound" "[I" ∈ xtbl := xq_of 1052 (by decide +kernel) (by decide +kernel)
theorem xq1053 : Cond.fieldLink "WordMenderModel" (86) "WordMenderModel" "wayN" "I" ∈ xtbl := xq_of 1053 (by decide +kernel) (by decide +kernel)
theorem xq1054 : Cond.fieldLink "WordMenderModel" (89) "WordMenderModel" "wayKind" "[I" ∈ xtbl := xq_of 1054 (by decide +kernel) (by decide +kernel)
theorem xq1055 : Cond.fieldLink "WordMenderModel" (92) "WordMenderModel" "wayPrice" "[I" ∈ xtbl := xq_of 1055 (by decide +kernel) (by decide +kernel)
theorem xq1056 : Cond.fieldLink "WordMenderModel" (95) "WordMenderModel" "wayI" "[I" ∈ xtbl := xq_of 1056 (by decide +kernel) (by decide +kernel)
theorem xq1057 : Cond.fieldLink "WordMenderModel" (98) "WordMenderModel" "wayJ" "[I" ∈ xtbl := xq_of 1057 (by decide +kernel) (by decide +kernel)
theorem xq1058 : Cond.fieldLink "WordMenderModel" (101) "WordMenderModel" "waySound" "[I" ∈ xtbl := xq_of 1058 (by decide +kernel) (by decide +kernel)
theorem xq1059 : Cond.fieldLink "WordMenderModel" (272) "WordMenderModel" "met" "I" ∈ xtbl := xq_of 1059 (by decide +kernel) (by decide +kernel)
theorem xq1060 : Cond.fieldLink "WordMenderModel" (275) "WordMenderModel" "leftMany" "I" ∈ xtbl := xq_of 1060 (by decide +kernel) (by decide +kernel)
theorem xq1061 : Cond.fieldLink "WordMenderModel" (104) "WordMenderModel" "nDepth" "[I" ∈ xtbl := xq_of 1061 (by decide +kernel) (by decide +kernel)
theorem xq1062 : Cond.fieldLink "WordMenderModel" (107) "WordMenderModel" "nLetter" "[I" ∈ xtbl := xq_of 1062 (by decide +kernel) (by decide +kernel)
theorem xq1063 : Cond.fieldLink "WordMenderModel" (110) "WordMenderModel" "nLeast" "[I" ∈ xtbl := xq_of 1063 (by decide +kernel) (by decide +kernel)
theorem xq1064 : Cond.fieldLink "WordMenderModel" (113) "WordMenderModel" "nLeft" "[I" ∈ xtbl := xq_of 1064 (by decide +kernel) (by decide +kernel)
theorem xq1065 : Cond.fieldLink "WordMenderModel" (116) "WordMenderModel" "nWord" "[I" ∈ xtbl := xq_of 1065 (by decide +kernel) (by decide +kernel)
theorem xq1066 : Cond.fieldLink "WordMenderModel" (119) "WordMenderModel" "nState" "[I" ∈ xtbl := xq_of 1066 (by decide +kernel) (by decide +kernel)
theorem xq1067 : Cond.fieldLink "WordMenderModel" (341) "WordMenderModel" "walkLen" "I" ∈ xtbl := xq_of 1067 (by decide +kernel) (by decide +kernel)
theorem xq1068 : Cond.fieldLink "WordMenderModel" (122) "WordMenderModel" "rowState" "[I" ∈ xtbl := xq_of 1068 (by decide +kernel) (by decide +kernel)
theorem xq1070 : Cond.fieldLink "WordMenderModel" (128) "WordMenderModel" "frameFrom" "[I" ∈ xtbl := xq_of 1070 (by decide +kernel) (by decide +kernel)
theorem xq1071 : Cond.fieldLink "WordMenderModel" (131) "WordMenderModel" "frameTo" "[I" ∈ xtbl := xq_of 1071 (by decide +kernel) (by decide +kernel)
theorem xq1072 : Cond.fieldLink "WordMenderModel" (134) "WordMenderModel" "frameAt" "[I" ∈ xtbl := xq_of 1072 (by decide +kernel) (by decide +kernel)
theorem xq1073 : Cond.fieldLink "WordMenderModel" (278) "WordMenderModel" "found" "I" ∈ xtbl := xq_of 1073 (by decide +kernel) (by decide +kernel)
theorem xq1074 : Cond.fieldLink "WordMenderModel" (137) "WordMenderModel" "fWord" "[I" ∈ xtbl := xq_of 1074 (by decide +kernel) (by decide +kernel)
theorem xq1075 : Cond.fieldLink "WordMenderModel" (140) "WordMenderModel" "fDistance" "[I" ∈ xtbl := xq_of 1075 (by decide +kernel) (by decide +kernel)
theorem xq1076 : Cond.fieldLink "WordMenderModel" (143) "WordMenderModel" "fShare" "[I" ∈ xtbl := xq_of 1076 (by decide +kernel) (by decide +kernel)
theorem xq1077 : Cond.fieldLink "WordMenderModel" (351) "WordMenderModel" "trying" "I" ∈ xtbl := xq_of 1077 (by decide +kernel) (by decide +kernel)
theorem xq1078 : Cond.fieldLink "WordMenderModel" (146) "WordMenderModel" "tWord" "[I" ∈ xtbl := xq_of 1078 (by decide +kernel) (by decide +kernel)
theorem xq1079 : Cond.fieldLink "WordMenderModel" (149) "WordMenderModel" "tDistance" "[I" ∈ xtbl := xq_of 1079 (by decide +kernel) (by decide +kernel)
theorem xq1080 : Cond.fieldLink "WordMenderModel" (152) "WordMenderModel" "tShare" "[I" ∈ xtbl := xq_of 1080 (by decide +kernel) (by decide +kernel)
theorem xq1081 : Cond.fieldLink "WordMenderModel" (269) "WordMenderModel" "pairs" "I" ∈ xtbl := xq_of 1081 (by decide +kernel) (by decide +kernel)
theorem xq1082 : Cond.fieldLink "WordMenderModel" (155) "WordMenderModel" "pA" "[I" ∈ xtbl := xq_of 1082 (by decide +kernel) (by decide +kernel)
theorem xq1083 : Cond.fieldLink "WordMenderModel" (158) "WordMenderModel" "pALet" "[I" ∈ xtbl := xq_of 1083 (by decide +kernel) (by decide +kernel)
theorem xq1084 : Cond.fieldLink "WordMenderModel" (161) "WordMenderModel" "pB" "[I" ∈ xtbl := xq_of 1084 (by decide +kernel) (by decide +kernel)
theorem xq1085 : Cond.fieldLink "WordMenderModel" (164) "WordMenderModel" "pBLet" "[I" ∈ xtbl := xq_of 1085 (by decide +kernel) (by decide +kernel)
theorem xq1086 : Cond.fieldLink "WordMenderModel" (167) "WordMenderModel" "oldLen" "[I" ∈ xtbl := xq_of 1086 (by decide +kernel) (by decide +kernel)
theorem xq1087 : Cond.fieldLink "WordMenderModel" (170) "WordMenderModel" "oldKind" "[I" ∈ xtbl := xq_of 1087 (by decide +kernel) (by decide +kernel)
theorem xq1088 : Cond.fieldLink "WordMenderModel" (173) "WordMenderModel" "c" "[I" ∈ xtbl := xq_of 1088 (by decide +kernel) (by decide +kernel)
theorem xq1089 : Cond.fieldLink "WordMenderModel" (176) "WordMenderModel" "parts" "I" ∈ xtbl := xq_of 1089 (by decide +kernel) (by decide +kernel)
theorem xq1090 : Cond.fieldLink "WordMenderModel" (396) "WordMenderModel" "mendSum" "I" ∈ xtbl := xq_of 1090 (by decide +kernel) (by decide +kernel)
theorem xq1091 : Cond.fieldLink "WordMenderModel" (179) "WordMenderModel" "partKind" "[I" ∈ xtbl := xq_of 1091 (by decide +kernel) (by decide +kernel)
theorem xq1092 : Cond.fieldLink "WordMenderModel" (182) "WordMenderModel" "partPrice" "[I" ∈ xtbl := xq_of 1092 (by decide +kernel) (by decide +kernel)
theorem xq1093 : Cond.fieldLink "WordMenderModel" (185) "WordMenderModel" "partFirst" "[I" ∈ xtbl := xq_of 1093 (by decide +kernel) (by decide +kernel)
theorem xq1094 : Cond.fieldLink "WordMenderModel" (188) "WordMenderModel" "partSecond" "[I" ∈ xtbl := xq_of 1094 (by decide +kernel) (by decide +kernel)
theorem xq1095 : Cond.fieldLink "WordMenderModel" (191) "WordMenderModel" "partRows" "[I" ∈ xtbl := xq_of 1095 (by decide +kernel) (by decide +kernel)
theorem xq1096 : Cond.fieldLink "WordMenderModel" (194) "WordMenderModel" "mBest" "[I" ∈ xtbl := xq_of 1096 (by decide +kernel) (by decide +kernel)
theorem xq1097 : Cond.fieldLink "WordMenderModel" (197) "WordMenderModel" "near" "[I" ∈ xtbl := xq_of 1097 (by decide +kernel) (by decide +kernel)
theorem xq1098 : Cond.fieldLink "WordMenderModel" (200) "WordMenderModel" "nearPrice" "[I" ∈ xtbl := xq_of 1098 (by decide +kernel) (by decide +kernel)
theorem xq1099 : Cond.fieldLink "WordMenderModel" (203) "WordMenderModel" "tray" "[I" ∈ xtbl := xq_of 1099 (by decide +kernel) (by decide +kernel)
theorem xq1100 : Cond.fieldLink "WordMenderModel" (206) "WordMenderModel" "trayLen" "[I" ∈ xtbl := xq_of 1100 (by decide +kernel) (by decide +kernel)
theorem xq1101 : Cond.fieldLink "WordMenderModel" (209) "WordMenderModel" "trayCell" "[I" ∈ xtbl := xq_of 1101 (by decide +kernel) (by decide +kernel)
theorem xq1102 : Cond.fieldLink "WordMenderModel" (399) "WordMenderModel" "status" "I" ∈ xtbl := xq_of 1102 (by decide +kernel) (by decide +kernel)
theorem xq1103 : Cond.fieldLink "WordMenderModel" (296) "WordMenderModel" "goI" "I" ∈ xtbl := xq_of 1103 (by decide +kernel) (by decide +kernel)
theorem xq1104 : Cond.fieldLink "WordMenderModel" (299) "WordMenderModel" "goJ" "I" ∈ xtbl := xq_of 1104 (by decide +kernel) (by decide +kernel)
theorem xq1105 : Cond.fieldLink "WordMenderModel" (212) "WordMenderModel" "both" "[I" ∈ xtbl := xq_of 1105 (by decide +kernel) (by decide +kernel)
theorem xq1279 : Cond.methodLink "WordMenderLaw" (19) yX12_feed ∈ xtbl := xq_of 1279 (by decide +kernel) (by decide +kernel)
theorem xq1280 : Cond.instanceMethod yX12_feed ∈ xtbl := xq_of 1280 (by decide +kernel) (by decide +kernel)
theorem xq1281 : Cond.selects "WordMenderModel" yX12_feed yX12_feed ∈ xtbl := xq_of 1281 (by decide +kernel) (by decide +kernel)
theorem xq1282 : Cond.code yX12_feed cX12_feed 5 (some .int) ∈ xtbl := xq_of 1282 (by decide +kernel) (by decide +kernel)
theorem xq1283 : Cond.methodLink "WordMenderModel" (215) yX12_in ∈ xtbl := xq_of 1283 (by decide +kernel) (by decide +kernel)
theorem xq1284 : Cond.static yX12_in ∈ xtbl := xq_of 1284 (by decide +kernel) (by decide +kernel)
theorem xq1285 : Cond.code yX12_in cX12_in 3 (some .boolean) ∈ xtbl := xq_of 1285 (by decide +kernel) (by decide +kernel)
theorem xq1286 : Cond.methodLink "WordMenderLaw" (24) yX12_add ∈ xtbl := xq_of 1286 (by decide +kernel) (by decide +kernel)
theorem xq1287 : Cond.instanceMethod yX12_add ∈ xtbl := xq_of 1287 (by decide +kernel) (by decide +kernel)
theorem xq1288 : Cond.selects "WordMenderModel" yX12_add yX12_add ∈ xtbl := xq_of 1288 (by decide +kernel) (by decide +kernel)
theorem xq1289 : Cond.code yX12_add cX12_add 6 (some .int) ∈ xtbl := xq_of 1289 (by decide +kernel) (by decide +kernel)
theorem xq1290 : Cond.methodLink "WordMenderModel" (241) yX12_readsOne ∈ xtbl := xq_of 1290 (by decide +kernel) (by decide +kernel)
theorem xq1292 : Cond.instanceMethod yX12_readsOne ∈ xtbl := xq_of 1292 (by decide +kernel) (by decide +kernel)
theorem xq1293 : Cond.code yX12_readsOne cX12_readsOne 1 (some .boolean) ∈ xtbl := xq_of 1293 (by decide +kernel) (by decide +kernel)
theorem xq1294 : Cond.methodLink "WordMenderModel" (225) yX12_reads ∈ xtbl := xq_of 1294 (by decide +kernel) (by decide +kernel)
theorem xq1296 : Cond.instanceMethod yX12_reads ∈ xtbl := xq_of 1296 (by decide +kernel) (by decide +kernel)
theorem xq1297 : Cond.code yX12_reads cX12_reads 7 (some .boolean) ∈ xtbl := xq_of 1297 (by decide +kernel) (by decide +kernel)
theorem xq1298 : Cond.constant "WordMenderModel" 245 (Int32.ofInt (100000)) ∈ xtbl := xq_of 1298 (by decide +kernel) (by decide +kernel)
theorem xq1299 : Cond.methodLink "WordMenderModel" (246) yX12_wordOf ∈ xtbl := xq_of 1299 (by decide +kernel) (by decide +kernel)
theorem xq1301 : Cond.instanceMethod yX12_wordOf ∈ xtbl := xq_of 1301 (by decide +kernel) (by decide +kernel)
theorem xq1302 : Cond.code yX12_wordOf cX12_wordOf 5 (some .int) ∈ xtbl := xq_of 1302 (by decide +kernel) (by decide +kernel)
theorem xq1303 : Cond.methodLink "WordMenderModel" (237) yX12_compares ∈ xtbl := xq_of 1303 (by decide +kernel) (by decide +kernel)
theorem xq1305 : Cond.instanceMethod yX12_compares ∈ xtbl := xq_of 1305 (by decide +kernel) (by decide +kernel)
theorem xq1306 : Cond.code yX12_compares cX12_compares 7 (some .int) ∈ xtbl := xq_of 1306 (by decide +kernel) (by decide +kernel)
theorem xq1307 : Cond.methodLink "WordMenderModel" (250) yX12_min ∈ xtbl := xq_of 1307 (by decide +kernel) (by decide +kernel)
theorem xq1308 : Cond.static yX12_min ∈ xtbl := xq_of 1308 (by decide +kernel) (by decide +kernel)
theorem xq1309 : Cond.code yX12_min cX12_min 2 (some .int) ∈ xtbl := xq_of 1309 (by decide +kernel) (by decide +kernel)
theorem xq1310 : Cond.methodLink "WordMenderModel" (254) yX12_moveWord ∈ xtbl := xq_of 1310 (by decide +kernel) (by decide +kernel)
theorem xq1312 : Cond.instanceMethod yX12_moveWord ∈ xtbl := xq_of 1312 (by decide +kernel) (by decide +kernel)
theorem xq1313 : Cond.code yX12_moveWord cX12_moveWord 4 none ∈ xtbl := xq_of 1313 (by decide +kernel) (by decide +kernel)
theorem xq1314 : Cond.methodLink "WordMenderLaw" (29) yX12_drop ∈ xtbl := xq_of 1314 (by decide +kernel) (by decide +kernel)
theorem xq1315 : Cond.instanceMethod yX12_drop ∈ xtbl := xq_of 1315 (by decide +kernel) (by decide +kernel)
theorem xq1316 : Cond.selects "WordMenderModel" yX12_drop yX12_drop ∈ xtbl := xq_of 1316 (by decide +kernel) (by decide +kernel)
theorem xq1317 : Cond.code yX12_drop cX12_drop 4 (some .int) ∈ xtbl := xq_of 1317 (by decide +kernel) (by decide +kernel)
theorem xq1318 : Cond.methodLink "WordMenderLaw" (33) yX12_find ∈ xtbl := xq_of 1318 (by decide +kernel) (by decide +kernel)
theorem xq1319 : Cond.instanceMethod yX12_find ∈ xtbl := xq_of 1319 (by decide +kernel) (by decide +kernel)
theorem xq1320 : Cond.selects "WordMenderModel" yX12_find yX12_find ∈ xtbl := xq_of 1320 (by decide +kernel) (by decide +kernel)
theorem xq1321 : Cond.code yX12_find cX12_find 1 (some .int) ∈ xtbl := xq_of 1321 (by decide +kernel) (by decide +kernel)
theorem xq1322 : Cond.methodLink "WordMenderLaw" (38) yX12_word ∈ xtbl := xq_of 1322 (by decide +kernel) (by decide +kernel)
theorem xq1323 : Cond.instanceMethod yX12_word ∈ xtbl := xq_of 1323 (by decide +kernel) (by decide +kernel)
theorem xq1324 : Cond.selects "WordMenderModel" yX12_word yX12_word ∈ xtbl := xq_of 1324 (by decide +kernel) (by decide +kernel)
theorem xq1325 : Cond.code yX12_word cX12_word 3 (some .int) ∈ xtbl := xq_of 1325 (by decide +kernel) (by decide +kernel)
theorem xq1326 : Cond.methodLink "WordMenderLaw" (42) yX12_count ∈ xtbl := xq_of 1326 (by decide +kernel) (by decide +kernel)
theorem xq1327 : Cond.instanceMethod yX12_count ∈ xtbl := xq_of 1327 (by decide +kernel) (by decide +kernel)
theorem xq1328 : Cond.selects "WordMenderModel" yX12_count yX12_count ∈ xtbl := xq_of 1328 (by decide +kernel) (by decide +kernel)
theorem xq1329 : Cond.code yX12_count cX12_count 2 (some .int) ∈ xtbl := xq_of 1329 (by decide +kernel) (by decide +kernel)
theorem xq1330 : Cond.methodLink "WordMenderModel" (262) yX12_nodes ∈ xtbl := xq_of 1330 (by decide +kernel) (by decide +kernel)
theorem xq1332 : Cond.instanceMethod yX12_nodes ∈ xtbl := xq_of 1332 (by decide +kernel) (by decide +kernel)
theorem xq1333 : Cond.code yX12_nodes cX12_nodes 3 (some .int) ∈ xtbl := xq_of 1333 (by decide +kernel) (by decide +kernel)
theorem xq1334 : Cond.methodLink "WordMenderModel" (258) yX12_alike ∈ xtbl := xq_of 1334 (by decide +kernel) (by decide +kernel)
theorem xq1336 : Cond.instanceMethod yX12_alike ∈ xtbl := xq_of 1336 (by decide +kernel) (by decide +kernel)
theorem xq1337 : Cond.code yX12_alike cX12_alike 3 (some .int) ∈ xtbl := xq_of 1337 (by decide +kernel) (by decide +kernel)
theorem xq1338 : Cond.methodLink "WordMenderLaw" (47) yX12_price ∈ xtbl := xq_of 1338 (by decide +kernel) (by decide +kernel)
theorem xq1339 : Cond.instanceMethod yX12_price ∈ xtbl := xq_of 1339 (by decide +kernel) (by decide +kernel)
theorem xq1340 : Cond.selects "WordMenderModel" yX12_price yX12_price ∈ xtbl := xq_of 1340 (by decide +kernel) (by decide +kernel)
theorem xq1341 : Cond.code yX12_price cX12_price 6 (some .int) ∈ xtbl := xq_of 1341 (by decide +kernel) (by decide +kernel)
theorem xq1342 : Cond.methodLink "WordMenderLaw" (51) yX12_sound ∈ xtbl := xq_of 1342 (by decide +kernel) (by decide +kernel)
theorem xq1343 : Cond.instanceMethod yX12_sound ∈ xtbl := xq_of 1343 (by decide +kernel) (by decide +kernel)
theorem xq1344 : Cond.selects "WordMenderModel" yX12_sound yX12_sound ∈ xtbl := xq_of 1344 (by decide +kernel) (by decide +kernel)
theorem xq1345 : Cond.code yX12_sound cX12_sound 4 (some .int) ∈ xtbl := xq_of 1345 (by decide +kernel) (by decide +kernel)
theorem xq1346 : Cond.methodLink "WordMenderModel" (281) yX12_readsTwo ∈ xtbl := xq_of 1346 (by decide +kernel) (by decide +kernel)
theorem xq1348 : Cond.instanceMethod yX12_readsTwo ∈ xtbl := xq_of 1348 (by decide +kernel) (by decide +kernel)
theorem xq1349 : Cond.code yX12_readsTwo cX12_readsTwo 2 (some .boolean) ∈ xtbl := xq_of 1349 (by decide +kernel) (by decide +kernel)
theorem xq1350 : Cond.methodLink "WordMenderLaw" (55) yX12_model ∈ xtbl := xq_of 1350 (by decide +kernel) (by decide +kernel)
theorem xq1351 : Cond.instanceMethod yX12_model ∈ xtbl := xq_of 1351 (by decide +kernel) (by decide +kernel)
theorem xq1352 : Cond.selects "WordMenderModel" yX12_model yX12_model ∈ xtbl := xq_of 1352 (by decide +kernel) (by decide +kernel)
theorem xq1353 : Cond.code yX12_model cX12_model 3 (some .int) ∈ xtbl := xq_of 1353 (by decide +kernel) (by decide +kernel)
theorem xq1354 : Cond.methodLink "WordMenderLaw" (59) yX12_distance ∈ xtbl := xq_of 1354 (by decide +kernel) (by decide +kernel)
theorem xq1355 : Cond.instanceMethod yX12_distance ∈ xtbl := xq_of 1355 (by decide +kernel) (by decide +kernel)
theorem xq1356 : Cond.selects "WordMenderModel" yX12_distance yX12_distance ∈ xtbl := xq_of 1356 (by decide +kernel) (by decide +kernel)
theorem xq1357 : Cond.code yX12_distance cX12_distance 2 (some .int) ∈ xtbl := xq_of 1357 (by decide +kernel) (by decide +kernel)
theorem xq1358 : Cond.methodLink "WordMenderModel" (322) yX12_takeA ∈ xtbl := xq_of 1358 (by decide +kernel) (by decide +kernel)
theorem xq1360 : Cond.instanceMethod yX12_takeA ∈ xtbl := xq_of 1360 (by decide +kernel) (by decide +kernel)
theorem xq1361 : Cond.code yX12_takeA cX12_takeA 3 none ∈ xtbl := xq_of 1361 (by decide +kernel) (by decide +kernel)
theorem xq1362 : Cond.methodLink "WordMenderModel" (326) yX12_takeB ∈ xtbl := xq_of 1362 (by decide +kernel) (by decide +kernel)
theorem xq1364 : Cond.instanceMethod yX12_takeB ∈ xtbl := xq_of 1364 (by decide +kernel) (by decide +kernel)
theorem xq1365 : Cond.code yX12_takeB cX12_takeB 3 none ∈ xtbl := xq_of 1365 (by decide +kernel) (by decide +kernel)
theorem xq1366 : Cond.methodLink "WordMenderModel" (329) yX12_sums ∈ xtbl := xq_of 1366 (by decide +kernel) (by decide +kernel)
theorem xq1368 : Cond.instanceMethod yX12_sums ∈ xtbl := xq_of 1368 (by decide +kernel) (by decide +kernel)
theorem xq1369 : Cond.code yX12_sums cX12_sums 6 none ∈ xtbl := xq_of 1369 (by decide +kernel) (by decide +kernel)
theorem xq1370 : Cond.constant "WordMenderModel" 302 (Int32.ofInt (1000000)) ∈ xtbl := xq_of 1370 (by decide +kernel) (by decide +kernel)
theorem xq1371 : Cond.methodLink "WordMenderModel" (315) yX12_slip ∈ xtbl := xq_of 1371 (by decide +kernel) (by decide +kernel)
theorem xq1373 : Cond.instanceMethod yX12_slip ∈ xtbl := xq_of 1373 (by decide +kernel) (by decide +kernel)
theorem xq1374 : Cond.code yX12_slip cX12_slip 7 (some .int) ∈ xtbl := xq_of 1374 (by decide +kernel) (by decide +kernel)
theorem xq1375 : Cond.methodLink "WordMenderModel" (303) yX12_swapPrice ∈ xtbl := xq_of 1375 (by decide +kernel) (by decide +kernel)
theorem xq1377 : Cond.instanceMethod yX12_swapPrice ∈ xtbl := xq_of 1377 (by decide +kernel) (by decide +kernel)
theorem xq1378 : Cond.code yX12_swapPrice cX12_swapPrice 3 (some .int) ∈ xtbl := xq_of 1378 (by decide +kernel) (by decide +kernel)
theorem xq1379 : Cond.methodLink "WordMenderModel" (306) yX12_leftPrice ∈ xtbl := xq_of 1379 (by decide +kernel) (by decide +kernel)
theorem xq1381 : Cond.instanceMethod yX12_leftPrice ∈ xtbl := xq_of 1381 (by decide +kernel) (by decide +kernel)
theorem xq1382 : Cond.code yX12_leftPrice cX12_leftPrice 2 (some .int) ∈ xtbl := xq_of 1382 (by decide +kernel) (by decide +kernel)
theorem xq1383 : Cond.methodLink "WordMenderModel" (309) yX12_putPrice ∈ xtbl := xq_of 1383 (by decide +kernel) (by decide +kernel)
theorem xq1385 : Cond.instanceMethod yX12_putPrice ∈ xtbl := xq_of 1385 (by decide +kernel) (by decide +kernel)
theorem xq1386 : Cond.code yX12_putPrice cX12_putPrice 2 (some .int) ∈ xtbl := xq_of 1386 (by decide +kernel) (by decide +kernel)
theorem xq1387 : Cond.methodLink "WordMenderModel" (312) yX12_hasSound ∈ xtbl := xq_of 1387 (by decide +kernel) (by decide +kernel)
theorem xq1389 : Cond.instanceMethod yX12_hasSound ∈ xtbl := xq_of 1389 (by decide +kernel) (by decide +kernel)
theorem xq1390 : Cond.code yX12_hasSound cX12_hasSound 5 (some .boolean) ∈ xtbl := xq_of 1390 (by decide +kernel) (by decide +kernel)
theorem xq1391 : Cond.methodLink "WordMenderModel" (332) yX12_ways ∈ xtbl := xq_of 1391 (by decide +kernel) (by decide +kernel)
theorem xq1393 : Cond.instanceMethod yX12_ways ∈ xtbl := xq_of 1393 (by decide +kernel) (by decide +kernel)
theorem xq1394 : Cond.code yX12_ways cX12_ways 5 none ∈ xtbl := xq_of 1394 (by decide +kernel) (by decide +kernel)
theorem xq1395 : Cond.methodLink "WordMenderLaw" (63) yX12_way ∈ xtbl := xq_of 1395 (by decide +kernel) (by decide +kernel)
theorem xq1396 : Cond.instanceMethod yX12_way ∈ xtbl := xq_of 1396 (by decide +kernel) (by decide +kernel)
theorem xq1397 : Cond.selects "WordMenderModel" yX12_way yX12_way ∈ xtbl := xq_of 1397 (by decide +kernel) (by decide +kernel)
theorem xq1398 : Cond.code yX12_way cX12_way 3 (some .int) ∈ xtbl := xq_of 1398 (by decide +kernel) (by decide +kernel)
theorem xq1399 : Cond.methodLink "WordMenderLaw" (67) yX12_near ∈ xtbl := xq_of 1399 (by decide +kernel) (by decide +kernel)
theorem xq1400 : Cond.instanceMethod yX12_near ∈ xtbl := xq_of 1400 (by decide +kernel) (by decide +kernel)
theorem xq1401 : Cond.selects "WordMenderModel" yX12_near yX12_near ∈ xtbl := xq_of 1401 (by decide +kernel) (by decide +kernel)
theorem xq1402 : Cond.code yX12_near cX12_near 3 (some .int) ∈ xtbl := xq_of 1402 (by decide +kernel) (by decide +kernel)
theorem xq1403 : Cond.constant "WordMenderModel" 367 (Int32.ofInt (99999)) ∈ xtbl := xq_of 1403 (by decide +kernel) (by decide +kernel)
theorem xq1404 : Cond.methodLink "WordMenderModel" (368) yX12_walk ∈ xtbl := xq_of 1404 (by decide +kernel) (by decide +kernel)
theorem xq1406 : Cond.instanceMethod yX12_walk ∈ xtbl := xq_of 1406 (by decide +kernel) (by decide +kernel)
theorem xq1407 : Cond.code yX12_walk cX12_walk 7 none ∈ xtbl := xq_of 1407 (by decide +kernel) (by decide +kernel)
theorem xq1408 : Cond.methodLink "WordMenderModel" (344) yX12_meets ∈ xtbl := xq_of 1408 (by decide +kernel) (by decide +kernel)
theorem xq1410 : Cond.instanceMethod yX12_meets ∈ xtbl := xq_of 1410 (by decide +kernel) (by decide +kernel)
theorem xq1411 : Cond.code yX12_meets cX12_meets 6 (some .boolean) ∈ xtbl := xq_of 1411 (by decide +kernel) (by decide +kernel)
theorem xq1412 : Cond.methodLink "WordMenderModel" (335) yX12_stateRow ∈ xtbl := xq_of 1412 (by decide +kernel) (by decide +kernel)
theorem xq1414 : Cond.instanceMethod yX12_stateRow ∈ xtbl := xq_of 1414 (by decide +kernel) (by decide +kernel)
theorem xq1415 : Cond.code yX12_stateRow cX12_stateRow 10 none ∈ xtbl := xq_of 1415 (by decide +kernel) (by decide +kernel)
theorem xq1416 : Cond.methodLink "WordMenderModel" (338) yX12_leastOf ∈ xtbl := xq_of 1416 (by decide +kernel) (by decide +kernel)
theorem xq1418 : Cond.instanceMethod yX12_leastOf ∈ xtbl := xq_of 1418 (by decide +kernel) (by decide +kernel)
theorem xq1419 : Cond.code yX12_leastOf cX12_leastOf 4 (some .int) ∈ xtbl := xq_of 1419 (by decide +kernel) (by decide +kernel)
theorem xq1420 : Cond.methodLink "WordMenderModel" (371) yX12_tries ∈ xtbl := xq_of 1420 (by decide +kernel) (by decide +kernel)
theorem xq1422 : Cond.instanceMethod yX12_tries ∈ xtbl := xq_of 1422 (by decide +kernel) (by decide +kernel)
theorem xq1423 : Cond.code yX12_tries cX12_tries 7 none ∈ xtbl := xq_of 1423 (by decide +kernel) (by decide +kernel)
theorem xq1424 : Cond.methodLink "WordMenderModel" (354) yX12_beginningTo ∈ xtbl := xq_of 1424 (by decide +kernel) (by decide +kernel)
theorem xq1426 : Cond.instanceMethod yX12_beginningTo ∈ xtbl := xq_of 1426 (by decide +kernel) (by decide +kernel)
theorem xq1427 : Cond.code yX12_beginningTo cX12_beginningTo 5 (some .int) ∈ xtbl := xq_of 1427 (by decide +kernel) (by decide +kernel)
theorem xq1428 : Cond.methodLink "WordMenderModel" (348) yX12_wordA ∈ xtbl := xq_of 1428 (by decide +kernel) (by decide +kernel)
theorem xq1430 : Cond.instanceMethod yX12_wordA ∈ xtbl := xq_of 1430 (by decide +kernel) (by decide +kernel)
theorem xq1431 : Cond.code yX12_wordA cX12_wordA 3 none ∈ xtbl := xq_of 1431 (by decide +kernel) (by decide +kernel)
theorem xq1432 : Cond.methodLink "WordMenderModel" (357) yX12_distanceTo ∈ xtbl := xq_of 1432 (by decide +kernel) (by decide +kernel)
theorem xq1434 : Cond.instanceMethod yX12_distanceTo ∈ xtbl := xq_of 1434 (by decide +kernel) (by decide +kernel)
theorem xq1435 : Cond.code yX12_distanceTo cX12_distanceTo 2 (some .int) ∈ xtbl := xq_of 1435 (by decide +kernel) (by decide +kernel)
theorem xq1436 : Cond.methodLink "WordMenderModel" (360) yX12_share ∈ xtbl := xq_of 1436 (by decide +kernel) (by decide +kernel)
theorem xq1438 : Cond.instanceMethod yX12_share ∈ xtbl := xq_of 1438 (by decide +kernel) (by decide +kernel)
theorem xq1439 : Cond.code yX12_share cX12_share 16 (some .int) ∈ xtbl := xq_of 1439 (by decide +kernel) (by decide +kernel)
theorem xq1440 : Cond.constantLong "WordMenderModel" 288 (1000) ∈ xtbl := xq_of 1440 (by decide +kernel) (by decide +kernel)
theorem xq1441 : Cond.constantLong "WordMenderModel" 290 (8388608) ∈ xtbl := xq_of 1441 (by decide +kernel) (by decide +kernel)
theorem xq1442 : Cond.constantLong "WordMenderModel" 292 (2) ∈ xtbl := xq_of 1442 (by decide +kernel) (by decide +kernel)
theorem xq1443 : Cond.constantLong "WordMenderModel" 294 (16777216) ∈ xtbl := xq_of 1443 (by decide +kernel) (by decide +kernel)
theorem xq1444 : Cond.methodLink "WordMenderModel" (363) yX12_isAhead ∈ xtbl := xq_of 1444 (by decide +kernel) (by decide +kernel)
theorem xq1446 : Cond.instanceMethod yX12_isAhead ∈ xtbl := xq_of 1446 (by decide +kernel) (by decide +kernel)
theorem xq1447 : Cond.code yX12_isAhead cX12_isAhead 7 (some .boolean) ∈ xtbl := xq_of 1447 (by decide +kernel) (by decide +kernel)
theorem xq1448 : Cond.methodLink "WordMenderModel" (375) yX12_keeps ∈ xtbl := xq_of 1448 (by decide +kernel) (by decide +kernel)
theorem xq1450 : Cond.instanceMethod yX12_keeps ∈ xtbl := xq_of 1450 (by decide +kernel) (by decide +kernel)
theorem xq1451 : Cond.code yX12_keeps cX12_keeps 3 (some .int) ∈ xtbl := xq_of 1451 (by decide +kernel) (by decide +kernel)
theorem xq1452 : Cond.methodLink "WordMenderLaw" (71) yX12_nearest ∈ xtbl := xq_of 1452 (by decide +kernel) (by decide +kernel)
theorem xq1453 : Cond.instanceMethod yX12_nearest ∈ xtbl := xq_of 1453 (by decide +kernel) (by decide +kernel)
theorem xq1454 : Cond.selects "WordMenderModel" yX12_nearest yX12_nearest ∈ xtbl := xq_of 1454 (by decide +kernel) (by decide +kernel)
theorem xq1455 : Cond.code yX12_nearest cX12_nearest 3 (some .int) ∈ xtbl := xq_of 1455 (by decide +kernel) (by decide +kernel)
theorem xq1456 : Cond.constant "WordMenderModel" 378 (Int32.ofInt (2000000)) ∈ xtbl := xq_of 1456 (by decide +kernel) (by decide +kernel)
theorem xq1457 : Cond.methodLink "WordMenderLaw" (75) yX12_complete ∈ xtbl := xq_of 1457 (by decide +kernel) (by decide +kernel)
theorem xq1458 : Cond.instanceMethod yX12_complete ∈ xtbl := xq_of 1458 (by decide +kernel) (by decide +kernel)
theorem xq1459 : Cond.selects "WordMenderModel" yX12_complete yX12_complete ∈ xtbl := xq_of 1459 (by decide +kernel) (by decide +kernel)
theorem xq1460 : Cond.code yX12_complete cX12_complete 3 (some .int) ∈ xtbl := xq_of 1460 (by decide +kernel) (by decide +kernel)
theorem xq1461 : Cond.methodLink "WordMenderLaw" (79) yX12_found ∈ xtbl := xq_of 1461 (by decide +kernel) (by decide +kernel)
theorem xq1462 : Cond.instanceMethod yX12_found ∈ xtbl := xq_of 1462 (by decide +kernel) (by decide +kernel)
theorem xq1463 : Cond.selects "WordMenderModel" yX12_found yX12_found ∈ xtbl := xq_of 1463 (by decide +kernel) (by decide +kernel)
theorem xq1464 : Cond.code yX12_found cX12_found 3 (some .int) ∈ xtbl := xq_of 1464 (by decide +kernel) (by decide +kernel)
theorem xq1465 : Cond.methodLink "WordMenderLaw" (83) yX12_node ∈ xtbl := xq_of 1465 (by decide +kernel) (by decide +kernel)
theorem xq1466 : Cond.instanceMethod yX12_node ∈ xtbl := xq_of 1466 (by decide +kernel) (by decide +kernel)
theorem xq1467 : Cond.selects "WordMenderModel" yX12_node yX12_node ∈ xtbl := xq_of 1467 (by decide +kernel) (by decide +kernel)
theorem xq1468 : Cond.code yX12_node cX12_node 3 (some .int) ∈ xtbl := xq_of 1468 (by decide +kernel) (by decide +kernel)
theorem xq1469 : Cond.methodLink "WordMenderLaw" (87) yX12_pair ∈ xtbl := xq_of 1469 (by decide +kernel) (by decide +kernel)
theorem xq1470 : Cond.instanceMethod yX12_pair ∈ xtbl := xq_of 1470 (by decide +kernel) (by decide +kernel)
theorem xq1471 : Cond.selects "WordMenderModel" yX12_pair yX12_pair ∈ xtbl := xq_of 1471 (by decide +kernel) (by decide +kernel)
theorem xq1472 : Cond.code yX12_pair cX12_pair 2 (some .int) ∈ xtbl := xq_of 1472 (by decide +kernel) (by decide +kernel)
theorem xq1473 : Cond.methodLink "WordMenderLaw" (91) yX12_learn ∈ xtbl := xq_of 1473 (by decide +kernel) (by decide +kernel)
theorem xq1474 : Cond.instanceMethod yX12_learn ∈ xtbl := xq_of 1474 (by decide +kernel) (by decide +kernel)
theorem xq1475 : Cond.selects "WordMenderModel" yX12_learn yX12_learn ∈ xtbl := xq_of 1475 (by decide +kernel) (by decide +kernel)
theorem xq1476 : Cond.code yX12_learn cX12_learn 7 (some .int) ∈ xtbl := xq_of 1476 (by decide +kernel) (by decide +kernel)
theorem xq1477 : Cond.methodLink "WordMenderModel" (379) yX12_takePair ∈ xtbl := xq_of 1477 (by decide +kernel) (by decide +kernel)
theorem xq1479 : Cond.instanceMethod yX12_takePair ∈ xtbl := xq_of 1479 (by decide +kernel) (by decide +kernel)
theorem xq1480 : Cond.code yX12_takePair cX12_takePair 3 none ∈ xtbl := xq_of 1480 (by decide +kernel) (by decide +kernel)
theorem xq1481 : Cond.methodLink "WordMenderLaw" (95) yX12_spread ∈ xtbl := xq_of 1481 (by decide +kernel) (by decide +kernel)
theorem xq1482 : Cond.instanceMethod yX12_spread ∈ xtbl := xq_of 1482 (by decide +kernel) (by decide +kernel)
theorem xq1483 : Cond.selects "WordMenderModel" yX12_spread yX12_spread ∈ xtbl := xq_of 1483 (by decide +kernel) (by decide +kernel)
theorem xq1484 : Cond.code yX12_spread cX12_spread 3 (some .int) ∈ xtbl := xq_of 1484 (by decide +kernel) (by decide +kernel)
theorem xq1485 : Cond.methodLink "WordMenderLaw" (99) yX12_mend ∈ xtbl := xq_of 1485 (by decide +kernel) (by decide +kernel)
theorem xq1486 : Cond.instanceMethod yX12_mend ∈ xtbl := xq_of 1486 (by decide +kernel) (by decide +kernel)
theorem xq1487 : Cond.selects "WordMenderModel" yX12_mend yX12_mend ∈ xtbl := xq_of 1487 (by decide +kernel) (by decide +kernel)
theorem xq1488 : Cond.code yX12_mend cX12_mend 7 (some .int) ∈ xtbl := xq_of 1488 (by decide +kernel) (by decide +kernel)
theorem xq1489 : Cond.methodLink "WordMenderModel" (382) yX12_isWord ∈ xtbl := xq_of 1489 (by decide +kernel) (by decide +kernel)
theorem xq1491 : Cond.instanceMethod yX12_isWord ∈ xtbl := xq_of 1491 (by decide +kernel) (by decide +kernel)
theorem xq1492 : Cond.code yX12_isWord cX12_isWord 2 (some .int) ∈ xtbl := xq_of 1492 (by decide +kernel) (by decide +kernel)
theorem xq1493 : Cond.constant "WordMenderModel" 391 (Int32.ofInt (100000000)) ∈ xtbl := xq_of 1493 (by decide +kernel) (by decide +kernel)
theorem xq1494 : Cond.methodLink "WordMenderModel" (392) yX12_partAt ∈ xtbl := xq_of 1494 (by decide +kernel) (by decide +kernel)
theorem xq1496 : Cond.instanceMethod yX12_partAt ∈ xtbl := xq_of 1496 (by decide +kernel) (by decide +kernel)
theorem xq1497 : Cond.code yX12_partAt cX12_partAt 5 (some .int) ∈ xtbl := xq_of 1497 (by decide +kernel) (by decide +kernel)
theorem xq1498 : Cond.methodLink "WordMenderModel" (385) yX12_together ∈ xtbl := xq_of 1498 (by decide +kernel) (by decide +kernel)
theorem xq1500 : Cond.instanceMethod yX12_together ∈ xtbl := xq_of 1500 (by decide +kernel) (by decide +kernel)
theorem xq1501 : Cond.code yX12_together cX12_together 4 (some .int) ∈ xtbl := xq_of 1501 (by decide +kernel) (by decide +kernel)
theorem xq1502 : Cond.methodLink "WordMenderModel" (388) yX12_parting ∈ xtbl := xq_of 1502 (by decide +kernel) (by decide +kernel)
theorem xq1504 : Cond.instanceMethod yX12_parting ∈ xtbl := xq_of 1504 (by decide +kernel) (by decide +kernel)
theorem xq1505 : Cond.code yX12_parting cX12_parting 3 (some .int) ∈ xtbl := xq_of 1505 (by decide +kernel) (by decide +kernel)
theorem xq1506 : Cond.methodLink "WordMenderLaw" (103) yX12_part ∈ xtbl := xq_of 1506 (by decide +kernel) (by decide +kernel)
theorem xq1507 : Cond.instanceMethod yX12_part ∈ xtbl := xq_of 1507 (by decide +kernel) (by decide +kernel)
theorem xq1508 : Cond.selects "WordMenderModel" yX12_part yX12_part ∈ xtbl := xq_of 1508 (by decide +kernel) (by decide +kernel)
theorem xq1509 : Cond.code yX12_part cX12_part 3 (some .int) ∈ xtbl := xq_of 1509 (by decide +kernel) (by decide +kernel)
theorem xq1510 : Cond.methodLink "WordMenderLaw" (108) yX12_put ∈ xtbl := xq_of 1510 (by decide +kernel) (by decide +kernel)
theorem xq1511 : Cond.instanceMethod yX12_put ∈ xtbl := xq_of 1511 (by decide +kernel) (by decide +kernel)
theorem xq1512 : Cond.selects "WordMenderModel" yX12_put yX12_put ∈ xtbl := xq_of 1512 (by decide +kernel) (by decide +kernel)
theorem xq1513 : Cond.code yX12_put cX12_put 7 (some .int) ∈ xtbl := xq_of 1513 (by decide +kernel) (by decide +kernel)
theorem xq1514 : Cond.methodLink "WordMenderModel" (402) yX12_refused ∈ xtbl := xq_of 1514 (by decide +kernel) (by decide +kernel)
theorem xq1516 : Cond.instanceMethod yX12_refused ∈ xtbl := xq_of 1516 (by decide +kernel) (by decide +kernel)
theorem xq1517 : Cond.code yX12_refused cX12_refused 2 (some .int) ∈ xtbl := xq_of 1517 (by decide +kernel) (by decide +kernel)
theorem xq1518 : Cond.methodLink "WordMenderModel" (405) yX12_done ∈ xtbl := xq_of 1518 (by decide +kernel) (by decide +kernel)
theorem xq1520 : Cond.instanceMethod yX12_done ∈ xtbl := xq_of 1520 (by decide +kernel) (by decide +kernel)
theorem xq1521 : Cond.code yX12_done cX12_done 2 (some .int) ∈ xtbl := xq_of 1521 (by decide +kernel) (by decide +kernel)
theorem xq1522 : Cond.methodLink "WordMenderLaw" (112) yX12_forge ∈ xtbl := xq_of 1522 (by decide +kernel) (by decide +kernel)
theorem xq1523 : Cond.instanceMethod yX12_forge ∈ xtbl := xq_of 1523 (by decide +kernel) (by decide +kernel)
theorem xq1524 : Cond.selects "WordMenderModel" yX12_forge yX12_forge ∈ xtbl := xq_of 1524 (by decide +kernel) (by decide +kernel)
theorem xq1525 : Cond.code yX12_forge cX12_forge 7 (some .int) ∈ xtbl := xq_of 1525 (by decide +kernel) (by decide +kernel)
theorem xq1526 : Cond.methodLink "WordMenderLaw" (116) yX12_status ∈ xtbl := xq_of 1526 (by decide +kernel) (by decide +kernel)
theorem xq1527 : Cond.instanceMethod yX12_status ∈ xtbl := xq_of 1527 (by decide +kernel) (by decide +kernel)
theorem xq1528 : Cond.selects "WordMenderModel" yX12_status yX12_status ∈ xtbl := xq_of 1528 (by decide +kernel) (by decide +kernel)
theorem xq1529 : Cond.code yX12_status cX12_status 1 (some .int) ∈ xtbl := xq_of 1529 (by decide +kernel) (by decide +kernel)
theorem xq1530 : Cond.constantLong "WordMenderLaw" 13 (4294967295) ∈ xtbl := xq_of 1530 (by decide +kernel) (by decide +kernel)
theorem fc_Tape_append : xFc mX7_append yX7_append 2 := ⟨⟨by decide +kernel, rfl, by decide, rfl⟩, ⟨by decide +kernel, by decide +kernel, by decide +kernel⟩, xq126, xq494⟩
theorem fc_WM_feed : xFc mX11_feed yX11_feed 2 := ⟨⟨by decide +kernel, rfl, by decide, rfl⟩, ⟨by decide +kernel, by decide +kernel, by decide +kernel⟩, xq125, xq490⟩
theorem fc_Row_clear : xFc mX4_clear yX4_clear 0 := ⟨⟨by decide +kernel, rfl, by decide, rfl⟩, ⟨by decide +kernel, by decide +kernel, by decide +kernel⟩, xq131, xq510⟩
theorem fc_Row_append : xFc mX4_append yX4_append 1 := ⟨⟨by decide +kernel, rfl, by decide, rfl⟩, ⟨by decide +kernel, by decide +kernel, by decide +kernel⟩, xq131, xq514⟩
theorem fc_Tape_read : xFc mX7_read yX7_read 4 := ⟨⟨by decide +kernel, rfl, by decide, rfl⟩, ⟨by decide +kernel, by decide +kernel, by decide +kernel⟩, xq126, xq506⟩
theorem fc_Tape_takeRow : xFc mX7_takeRow yX7_takeRow 1 := ⟨⟨by decide +kernel, rfl, by decide, rfl⟩, ⟨by decide +kernel, by decide +kernel, by decide +kernel⟩, xq126, xq502⟩
theorem fc_Rows_at : xFc mX5_at yX5_at 2 := ⟨⟨by decide +kernel, rfl, by decide, rfl⟩, ⟨by decide +kernel, by decide +kernel, by decide +kernel⟩, xq128, xq535⟩
theorem fc_Row_at : xFc mX4_at yX4_at 1 := ⟨⟨by decide +kernel, rfl, by decide, rfl⟩, ⟨by decide +kernel, by decide +kernel, by decide +kernel⟩, xq131, xq539⟩
theorem fc_Rows_order : xFc mX5_order yX5_order 2 := ⟨⟨by decide +kernel, rfl, by decide, rfl⟩, ⟨by decide +kernel, by decide +kernel, by decide +kernel⟩, xq128, xq531⟩
theorem fc_Lex_place : xFc mX1_place yX1_place 1 := ⟨⟨by decide +kernel, rfl, by decide, rfl⟩, ⟨by decide +kernel, by decide +kernel, by decide +kernel⟩, xq127, xq527⟩
theorem fc_Lex_numberOf : xFc mX1_numberOf yX1_numberOf 1 := ⟨⟨by decide +kernel, rfl, by decide, rfl⟩, ⟨by decide +kernel, by decide +kernel, by decide +kernel⟩, xq127, xq523⟩
theorem fc_Rows_isFull : xFc mX5_isFull yX5_isFull 0 := ⟨⟨by decide +kernel, rfl, by decide, rfl⟩, ⟨by decide +kernel, by decide +kernel, by decide +kernel⟩, xq128, xq547⟩
theorem fc_Rows_insert : xFc mX5_insert yX5_insert 2 := ⟨⟨by decide +kernel, rfl, by decide, rfl⟩, ⟨by decide +kernel, by decide +kernel, by decide +kernel⟩, xq128, xq554⟩
theorem fc_Lex_grow : xFc mX1_grow yX1_grow 2 := ⟨⟨by decide +kernel, rfl, by decide, rfl⟩, ⟨by decide +kernel, by decide +kernel, by decide +kernel⟩, xq127, xq519⟩
theorem fc_WM_add : xFc mX11_add yX11_add 1 := ⟨⟨by decide +kernel, rfl, by decide, rfl⟩, ⟨by decide +kernel, by decide +kernel, by decide +kernel⟩, xq125, xq498⟩
theorem fc_Rows_remove : xFc mX5_remove yX5_remove 1 := ⟨⟨by decide +kernel, rfl, by decide, rfl⟩, ⟨by decide +kernel, by decide +kernel, by decide +kernel⟩, xq128, xq568⟩
theorem fc_Lex_remove : xFc mX1_remove yX1_remove 1 := ⟨⟨by decide +kernel, rfl, by decide, rfl⟩, ⟨by decide +kernel, by decide +kernel, by decide +kernel⟩, xq127, xq564⟩
theorem fc_WM_drop : xFc mX11_drop yX11_drop 0 := ⟨⟨by decide +kernel, rfl, by decide, rfl⟩, ⟨by decide +kernel, by decide +kernel, by decide +kernel⟩, xq125, xq560⟩
theorem fc_WM_find : xFc mX11_find yX11_find 0 := ⟨⟨by decide +kernel, rfl, by decide, rfl⟩, ⟨by decide +kernel, by decide +kernel, by decide +kernel⟩, xq125, xq572⟩
theorem fc_Lex_countOf : xFc mX1_countOf yX1_countOf 1 := ⟨⟨by decide +kernel, rfl, by decide, rfl⟩, ⟨by decide +kernel, by decide +kernel, by decide +kernel⟩, xq127, xq581⟩
theorem fc_Rows_sizeOf : xFc mX5_sizeOf yX5_sizeOf 1 := ⟨⟨by decide +kernel, rfl, by decide, rfl⟩, ⟨by decide +kernel, by decide +kernel, by decide +kernel⟩, xq128, xq585⟩
theorem fc_WM_word : xFc mX11_word yX11_word 2 := ⟨⟨by decide +kernel, rfl, by decide, rfl⟩, ⟨by decide +kernel, by decide +kernel, by decide +kernel⟩, xq125, xq577⟩
theorem fc_Rows_shared : xFc mX5_shared yX5_shared 1 := ⟨⟨by decide +kernel, rfl, by decide, rfl⟩, ⟨by decide +kernel, by decide +kernel, by decide +kernel⟩, xq128, xq599⟩
theorem fc_Lex_nodes : xFc mX1_nodes yX1_nodes 0 := ⟨⟨by decide +kernel, rfl, by decide, rfl⟩, ⟨by decide +kernel, by decide +kernel, by decide +kernel⟩, xq127, xq594⟩
theorem fc_WM_count : xFc mX11_count yX11_count 1 := ⟨⟨by decide +kernel, rfl, by decide, rfl⟩, ⟨by decide +kernel, by decide +kernel, by decide +kernel⟩, xq125, xq590⟩
theorem fc_Slips_setKind : xFc mX6_setKind yX6_setKind 2 := ⟨⟨by decide +kernel, rfl, by decide, rfl⟩, ⟨by decide +kernel, by decide +kernel, by decide +kernel⟩, xq130, xq608⟩
theorem fc_Slips_exchange : xFc mX6_exchange yX6_exchange 3 := ⟨⟨by decide +kernel, rfl, by decide, rfl⟩, ⟨by decide +kernel, by decide +kernel, by decide +kernel⟩, xq130, xq615⟩
theorem fc_Slips_setByLetters : xFc mX6_setByLetters yX6_setByLetters 4 := ⟨⟨by decide +kernel, rfl, by decide, rfl⟩, ⟨by decide +kernel, by decide +kernel, by decide +kernel⟩, xq130, xq612⟩
theorem fc_WM_price : xFc mX11_price yX11_price 4 := ⟨⟨by decide +kernel, rfl, by decide, rfl⟩, ⟨by decide +kernel, by decide +kernel, by decide +kernel⟩, xq125, xq604⟩
theorem fc_Tape_seek : xFc mX7_seek yX7_seek 3 := ⟨⟨by decide +kernel, rfl, by decide, rfl⟩, ⟨by decide +kernel, by decide +kernel, by decide +kernel⟩, xq126, xq627⟩
theorem fc_Tape_takeTwo : xFc mX7_takeTwo yX7_takeTwo 3 := ⟨⟨by decide +kernel, rfl, by decide, rfl⟩, ⟨by decide +kernel, by decide +kernel, by decide +kernel⟩, xq126, xq623⟩
theorem fc_Rows_append : xFc mX5_append yX5_append 1 := ⟨⟨by decide +kernel, rfl, by decide, rfl⟩, ⟨by decide +kernel, by decide +kernel, by decide +kernel⟩, xq128, xq636⟩
theorem fc_Slips_addSound : xFc mX6_addSound yX6_addSound 3 := ⟨⟨by decide +kernel, rfl, by decide, rfl⟩, ⟨by decide +kernel, by decide +kernel, by decide +kernel⟩, xq130, xq631⟩
theorem fc_WM_sound : xFc mX11_sound yX11_sound 1 := ⟨⟨by decide +kernel, rfl, by decide, rfl⟩, ⟨by decide +kernel, by decide +kernel, by decide +kernel⟩, xq125, xq619⟩
theorem fc_WM_model : xFc mX11_model yX11_model 1 := ⟨⟨by decide +kernel, rfl, by decide, rfl⟩, ⟨by decide +kernel, by decide +kernel, by decide +kernel⟩, xq125, xq641⟩
theorem fc_Slips_codes : xFc mX6_codes yX6_codes 0 := ⟨⟨by decide +kernel, rfl, by decide, rfl⟩, ⟨by decide +kernel, by decide +kernel, by decide +kernel⟩, xq130, xq658⟩
theorem fc_Slips_byLetters : xFc mX6_byLetters yX6_byLetters 3 := ⟨⟨by decide +kernel, rfl, by decide, rfl⟩, ⟨by decide +kernel, by decide +kernel, by decide +kernel⟩, xq130, xq670⟩
theorem fc_Rows_standsIn : xFc mX5_standsIn yX5_standsIn 3 := ⟨⟨by decide +kernel, rfl, by decide, rfl⟩, ⟨by decide +kernel, by decide +kernel, by decide +kernel⟩, xq128, xq674⟩
theorem fc_Slips_soundPrice : xFc mX6_soundPrice yX6_soundPrice 1 := ⟨⟨by decide +kernel, rfl, by decide, rfl⟩, ⟨by decide +kernel, by decide +kernel, by decide +kernel⟩, xq130, xq678⟩
theorem fc_Slips_priceAt : xFc mX6_priceAt yX6_priceAt 5 := ⟨⟨by decide +kernel, rfl, by decide, rfl⟩, ⟨by decide +kernel, by decide +kernel, by decide +kernel⟩, xq130, xq666⟩
theorem fc_Slips_meantTaken : xFc mX6_meantTaken yX6_meantTaken 1 := ⟨⟨by decide +kernel, rfl, by decide, rfl⟩, ⟨by decide +kernel, by decide +kernel, by decide +kernel⟩, xq130, xq682⟩
theorem fc_Slips_typedTaken : xFc mX6_typedTaken yX6_typedTaken 1 := ⟨⟨by decide +kernel, rfl, by decide, rfl⟩, ⟨by decide +kernel, by decide +kernel, by decide +kernel⟩, xq130, xq689⟩
theorem fc_Way_sumBy : xFc mX10_sumBy yX10_sumBy 5 := ⟨⟨by decide +kernel, rfl, by decide, rfl⟩, ⟨by decide +kernel, by decide +kernel, by decide +kernel⟩, xq132, xq662⟩
theorem fc_Way_leastFrom : xFc mX10_leastFrom yX10_leastFrom 4 := ⟨⟨by decide +kernel, rfl, by decide, rfl⟩, ⟨by decide +kernel, by decide +kernel, by decide +kernel⟩, xq132, xq653⟩
theorem fc_Way_measure : xFc mX10_measure yX10_measure 2 := ⟨⟨by decide +kernel, rfl, by decide, rfl⟩, ⟨by decide +kernel, by decide +kernel, by decide +kernel⟩, xq132, xq649⟩
theorem fc_Way_firstCode : xFc mX10_firstCode yX10_firstCode 4 := ⟨⟨by decide +kernel, rfl, by decide, rfl⟩, ⟨by decide +kernel, by decide +kernel, by decide +kernel⟩, xq132, xq700⟩
theorem fc_Way_trace : xFc mX10_trace yX10_trace 2 := ⟨⟨by decide +kernel, rfl, by decide, rfl⟩, ⟨by decide +kernel, by decide +kernel, by decide +kernel⟩, xq132, xq696⟩
theorem fc_WM_distance : xFc mX11_distance yX11_distance 0 := ⟨⟨by decide +kernel, rfl, by decide, rfl⟩, ⟨by decide +kernel, by decide +kernel, by decide +kernel⟩, xq125, xq645⟩
theorem fc_Way_codeAt : xFc mX10_codeAt yX10_codeAt 1 := ⟨⟨by decide +kernel, rfl, by decide, rfl⟩, ⟨by decide +kernel, by decide +kernel, by decide +kernel⟩, xq132, xq712⟩
theorem fc_Way_tell : xFc mX10_tell yX10_tell 2 := ⟨⟨by decide +kernel, rfl, by decide, rfl⟩, ⟨by decide +kernel, by decide +kernel, by decide +kernel⟩, xq132, xq708⟩
theorem fc_WM_way : xFc mX11_way yX11_way 2 := ⟨⟨by decide +kernel, rfl, by decide, rfl⟩, ⟨by decide +kernel, by decide +kernel, by decide +kernel⟩, xq125, xq704⟩
theorem fc_WM_isNoBound : xFc mX11_isNoBound yX11_isNoBound 1 := ⟨⟨by decide +kernel, rfl, by decide, rfl⟩, ⟨by decide +kernel, by decide +kernel, by decide +kernel⟩, xq125, xq719⟩
theorem fc_Met_clear : xFc mX3_clear yX3_clear 1 := ⟨⟨by decide +kernel, rfl, by decide, rfl⟩, ⟨by decide +kernel, by decide +kernel, by decide +kernel⟩, xq134, xq728⟩
theorem fc_Rows_copyTo : xFc mX5_copyTo yX5_copyTo 2 := ⟨⟨by decide +kernel, rfl, by decide, rfl⟩, ⟨by decide +kernel, by decide +kernel, by decide +kernel⟩, xq128, xq734⟩
theorem fc_Slips_mayStand : xFc mX6_mayStand yX6_mayStand 3 := ⟨⟨by decide +kernel, rfl, by decide, rfl⟩, ⟨by decide +kernel, by decide +kernel, by decide +kernel⟩, xq130, xq757⟩
theorem fc_Walk_reach : xFc mX9_reach yX9_reach 3 := ⟨⟨by decide +kernel, rfl, by decide, rfl⟩, ⟨by decide +kernel, by decide +kernel, by decide +kernel⟩, xq133, xq752⟩
theorem fc_Walk_fill : xFc mX9_fill yX9_fill 2 := ⟨⟨by decide +kernel, rfl, by decide, rfl⟩, ⟨by decide +kernel, by decide +kernel, by decide +kernel⟩, xq133, xq746⟩
theorem fc_Walk_sumUp : xFc mX9_sumUp yX9_sumUp 2 := ⟨⟨by decide +kernel, rfl, by decide, rfl⟩, ⟨by decide +kernel, by decide +kernel, by decide +kernel⟩, xq133, xq763⟩
theorem fc_Walk_isLeft : xFc mX9_isLeft yX9_isLeft 2 := ⟨⟨by decide +kernel, rfl, by decide, rfl⟩, ⟨by decide +kernel, by decide +kernel, by decide +kernel⟩, xq133, xq768⟩
theorem fc_Met_keep : xFc mX3_keep yX3_keep 5 := ⟨⟨by decide +kernel, rfl, by decide, rfl⟩, ⟨by decide +kernel, by decide +kernel, by decide +kernel⟩, xq134, xq773⟩
theorem fc_Walk_descend : xFc mX9_descend yX9_descend 4 := ⟨⟨by decide +kernel, rfl, by decide, rfl⟩, ⟨by decide +kernel, by decide +kernel, by decide +kernel⟩, xq133, xq741⟩
theorem fc_Walk_go : xFc mX9_go yX9_go 3 := ⟨⟨by decide +kernel, rfl, by decide, rfl⟩, ⟨by decide +kernel, by decide +kernel, by decide +kernel⟩, xq133, xq724⟩
theorem fc_Lex_share : xFc mX1_share yX1_share 1 := ⟨⟨by decide +kernel, rfl, by decide, rfl⟩, ⟨by decide +kernel, by decide +kernel, by decide +kernel⟩, xq127, xq787⟩
theorem fc_Found_isAhead : xFc mX0_isAhead yX0_isAhead 3 := ⟨⟨by decide +kernel, rfl, by decide, rfl⟩, ⟨by decide +kernel, by decide +kernel, by decide +kernel⟩, xq135, xq793⟩
theorem fc_Found_move : xFc mX0_move yX0_move 3 := ⟨⟨by decide +kernel, rfl, by decide, rfl⟩, ⟨by decide +kernel, by decide +kernel, by decide +kernel⟩, xq135, xq798⟩
theorem fc_Found_lay : xFc mX0_lay yX0_lay 3 := ⟨⟨by decide +kernel, rfl, by decide, rfl⟩, ⟨by decide +kernel, by decide +kernel, by decide +kernel⟩, xq135, xq783⟩
theorem fc_Found_gather : xFc mX0_gather yX0_gather 3 := ⟨⟨by decide +kernel, rfl, by decide, rfl⟩, ⟨by decide +kernel, by decide +kernel, by decide +kernel⟩, xq135, xq778⟩
theorem fc_WM_near : xFc mX11_near yX11_near 1 := ⟨⟨by decide +kernel, rfl, by decide, rfl⟩, ⟨by decide +kernel, by decide +kernel, by decide +kernel⟩, xq125, xq716⟩
theorem fc_WM_nearest : xFc mX11_nearest yX11_nearest 1 := ⟨⟨by decide +kernel, rfl, by decide, rfl⟩, ⟨by decide +kernel, by decide +kernel, by decide +kernel⟩, xq125, xq802⟩
theorem fc_WM_complete : xFc mX11_complete yX11_complete 1 := ⟨⟨by decide +kernel, rfl, by decide, rfl⟩, ⟨by decide +kernel, by decide +kernel, by decide +kernel⟩, xq125, xq807⟩
theorem fc_Found_tell : xFc mX0_tell yX0_tell 2 := ⟨⟨by decide +kernel, rfl, by decide, rfl⟩, ⟨by decide +kernel, by decide +kernel, by decide +kernel⟩, xq135, xq815⟩
theorem fc_WM_found : xFc mX11_found yX11_found 2 := ⟨⟨by decide +kernel, rfl, by decide, rfl⟩, ⟨by decide +kernel, by decide +kernel, by decide +kernel⟩, xq125, xq811⟩
theorem fc_Met_stateAt : xFc mX3_stateAt yX3_stateAt 2 := ⟨⟨by decide +kernel, rfl, by decide, rfl⟩, ⟨by decide +kernel, by decide +kernel, by decide +kernel⟩, xq134, xq832⟩
theorem fc_Met_least : xFc mX3_least yX3_least 1 := ⟨⟨by decide +kernel, rfl, by decide, rfl⟩, ⟨by decide +kernel, by decide +kernel, by decide +kernel⟩, xq134, xq827⟩
theorem fc_Met_tell : xFc mX3_tell yX3_tell 2 := ⟨⟨by decide +kernel, rfl, by decide, rfl⟩, ⟨by decide +kernel, by decide +kernel, by decide +kernel⟩, xq134, xq823⟩
theorem fc_WM_node : xFc mX11_node yX11_node 2 := ⟨⟨by decide +kernel, rfl, by decide, rfl⟩, ⟨by decide +kernel, by decide +kernel, by decide +kernel⟩, xq125, xq819⟩
theorem fc_WM_pair : xFc mX11_pair yX11_pair 0 := ⟨⟨by decide +kernel, rfl, by decide, rfl⟩, ⟨by decide +kernel, by decide +kernel, by decide +kernel⟩, xq125, xq836⟩
theorem fc_Arr_fill : xFc mJ7_fill_53178 yJ7_fill_53178 2 := ⟨⟨by decide +kernel, rfl, by decide, rfl⟩, ⟨by decide +kernel, by decide +kernel, by decide +kernel⟩, xq140, xq845⟩
theorem fc_WM_readPair : xFc mX11_readPair yX11_readPair 1 := ⟨⟨by decide +kernel, rfl, by decide, rfl⟩, ⟨by decide +kernel, by decide +kernel, by decide +kernel⟩, xq125, xq853⟩
theorem fc_WM_noteWay : xFc mX11_noteWay yX11_noteWay 1 := ⟨⟨by decide +kernel, rfl, by decide, rfl⟩, ⟨by decide +kernel, by decide +kernel, by decide +kernel⟩, xq125, xq858⟩
theorem fc_WM_findWays : xFc mX11_findWays yX11_findWays 0 := ⟨⟨by decide +kernel, rfl, by decide, rfl⟩, ⟨by decide +kernel, by decide +kernel, by decide +kernel⟩, xq125, xq849⟩
theorem fc_Slips_setByCounts : xFc mX6_setByCounts yX6_setByCounts 1 := ⟨⟨by decide +kernel, rfl, by decide, rfl⟩, ⟨by decide +kernel, by decide +kernel, by decide +kernel⟩, xq130, xq863⟩
theorem fc_WM_learn : xFc mX11_learn yX11_learn 0 := ⟨⟨by decide +kernel, rfl, by decide, rfl⟩, ⟨by decide +kernel, by decide +kernel, by decide +kernel⟩, xq125, xq842⟩
theorem fc_WM_spread : xFc mX11_spread yX11_spread 0 := ⟨⟨by decide +kernel, rfl, by decide, rfl⟩, ⟨by decide +kernel, by decide +kernel, by decide +kernel⟩, xq125, xq867⟩
theorem fc_Rows_clear : xFc mX5_clear yX5_clear 0 := ⟨⟨by decide +kernel, rfl, by decide, rfl⟩, ⟨by decide +kernel, by decide +kernel, by decide +kernel⟩, xq128, xq879⟩
theorem fc_Tape_takeText : xFc mX7_takeText yX7_takeText 2 := ⟨⟨by decide +kernel, rfl, by decide, rfl⟩, ⟨by decide +kernel, by decide +kernel, by decide +kernel⟩, xq126, xq875⟩
theorem fc_Mend_clear : xFc mX2_clear yX2_clear 1 := ⟨⟨by decide +kernel, rfl, by decide, rfl⟩, ⟨by decide +kernel, by decide +kernel, by decide +kernel⟩, xq136, xq884⟩
theorem fc_Mend_cellOf : xFc mX2_cellOf yX2_cellOf 2 := ⟨⟨by decide +kernel, rfl, by decide, rfl⟩, ⟨by decide +kernel, by decide +kernel, by decide +kernel⟩, xq136, xq895⟩
theorem fc_Mend_offer : xFc mX2_offer yX2_offer 5 := ⟨⟨by decide +kernel, rfl, by decide, rfl⟩, ⟨by decide +kernel, by decide +kernel, by decide +kernel⟩, xq136, xq891⟩
theorem fc_Mend_offers : xFc mX2_offers yX2_offers 2 := ⟨⟨by decide +kernel, rfl, by decide, rfl⟩, ⟨by decide +kernel, by decide +kernel, by decide +kernel⟩, xq136, xq903⟩
theorem fc_Slips_kindPrice : xFc mX6_kindPrice yX6_kindPrice 1 := ⟨⟨by decide +kernel, rfl, by decide, rfl⟩, ⟨by decide +kernel, by decide +kernel, by decide +kernel⟩, xq130, xq908⟩
theorem fc_WM_offerSplit : xFc mX11_offerSplit yX11_offerSplit 1 := ⟨⟨by decide +kernel, rfl, by decide, rfl⟩, ⟨by decide +kernel, by decide +kernel, by decide +kernel⟩, xq125, xq899⟩
theorem fc_WM_offerJoin : xFc mX11_offerJoin yX11_offerJoin 1 := ⟨⟨by decide +kernel, rfl, by decide, rfl⟩, ⟨by decide +kernel, by decide +kernel, by decide +kernel⟩, xq125, xq912⟩
theorem fc_WM_offerMended : xFc mX11_offerMended yX11_offerMended 2 := ⟨⟨by decide +kernel, rfl, by decide, rfl⟩, ⟨by decide +kernel, by decide +kernel, by decide +kernel⟩, xq125, xq917⟩
theorem fc_Mend_taken : xFc mX2_taken yX2_taken 1 := ⟨⟨by decide +kernel, rfl, by decide, rfl⟩, ⟨by decide +kernel, by decide +kernel, by decide +kernel⟩, xq136, xq933⟩
theorem fc_Mend_sumBy : xFc mX2_sumBy yX2_sumBy 2 := ⟨⟨by decide +kernel, rfl, by decide, rfl⟩, ⟨by decide +kernel, by decide +kernel, by decide +kernel⟩, xq136, xq930⟩
theorem fc_Mend_bestKind : xFc mX2_bestKind yX2_bestKind 1 := ⟨⟨by decide +kernel, rfl, by decide, rfl⟩, ⟨by decide +kernel, by decide +kernel, by decide +kernel⟩, xq136, xq925⟩
theorem fc_Mend_choose : xFc mX2_choose yX2_choose 0 := ⟨⟨by decide +kernel, rfl, by decide, rfl⟩, ⟨by decide +kernel, by decide +kernel, by decide +kernel⟩, xq136, xq921⟩
theorem fc_WM_mend : xFc mX11_mend yX11_mend 1 := ⟨⟨by decide +kernel, rfl, by decide, rfl⟩, ⟨by decide +kernel, by decide +kernel, by decide +kernel⟩, xq125, xq871⟩
theorem fc_Mend_tell : xFc mX2_tell yX2_tell 2 := ⟨⟨by decide +kernel, rfl, by decide, rfl⟩, ⟨by decide +kernel, by decide +kernel, by decide +kernel⟩, xq136, xq941⟩
theorem fc_WM_part : xFc mX11_part yX11_part 2 := ⟨⟨by decide +kernel, rfl, by decide, rfl⟩, ⟨by decide +kernel, by decide +kernel, by decide +kernel⟩, xq125, xq937⟩
theorem fc_WM_isThing : xFc mX11_isThing yX11_isThing 2 := ⟨⟨by decide +kernel, rfl, by decide, rfl⟩, ⟨by decide +kernel, by decide +kernel, by decide +kernel⟩, xq125, xq949⟩
theorem fc_Trays_refuse : xFc mX8_refuse yX8_refuse 1 := ⟨⟨by decide +kernel, rfl, by decide, rfl⟩, ⟨by decide +kernel, by decide +kernel, by decide +kernel⟩, xq137, xq953⟩
theorem fc_Trays_clear : xFc mX8_clear yX8_clear 2 := ⟨⟨by decide +kernel, rfl, by decide, rfl⟩, ⟨by decide +kernel, by decide +kernel, by decide +kernel⟩, xq137, xq957⟩
theorem fc_Trays_lay : xFc mX8_lay yX8_lay 2 := ⟨⟨by decide +kernel, rfl, by decide, rfl⟩, ⟨by decide +kernel, by decide +kernel, by decide +kernel⟩, xq137, xq965⟩
theorem fc_WM_layLetters : xFc mX11_layLetters yX11_layLetters 2 := ⟨⟨by decide +kernel, rfl, by decide, rfl⟩, ⟨by decide +kernel, by decide +kernel, by decide +kernel⟩, xq125, xq961⟩
theorem fc_WM_layState : xFc mX11_layState yX11_layState 2 := ⟨⟨by decide +kernel, rfl, by decide, rfl⟩, ⟨by decide +kernel, by decide +kernel, by decide +kernel⟩, xq125, xq969⟩
theorem fc_WM_layPrices : xFc mX11_layPrices yX11_layPrices 1 := ⟨⟨by decide +kernel, rfl, by decide, rfl⟩, ⟨by decide +kernel, by decide +kernel, by decide +kernel⟩, xq125, xq974⟩
theorem fc_WM_layTruths : xFc mX11_layTruths yX11_layTruths 2 := ⟨⟨by decide +kernel, rfl, by decide, rfl⟩, ⟨by decide +kernel, by decide +kernel, by decide +kernel⟩, xq125, xq978⟩
theorem fc_Trays_done : xFc mX8_done yX8_done 1 := ⟨⟨by decide +kernel, rfl, by decide, rfl⟩, ⟨by decide +kernel, by decide +kernel, by decide +kernel⟩, xq137, xq982⟩
theorem fc_WM_put : xFc mX11_put yX11_put 3 := ⟨⟨by decide +kernel, rfl, by decide, rfl⟩, ⟨by decide +kernel, by decide +kernel, by decide +kernel⟩, xq125, xq945⟩
theorem fc_Trays_whyNot : xFc mX8_whyNot yX8_whyNot 2 := ⟨⟨by decide +kernel, rfl, by decide, rfl⟩, ⟨by decide +kernel, by decide +kernel, by decide +kernel⟩, xq137, xq999⟩
theorem fc_Trays_read : xFc mX8_read yX8_read 3 := ⟨⟨by decide +kernel, rfl, by decide, rfl⟩, ⟨by decide +kernel, by decide +kernel, by decide +kernel⟩, xq137, xq995⟩
theorem fc_Trays_copy : xFc mX8_copy yX8_copy 2 := ⟨⟨by decide +kernel, rfl, by decide, rfl⟩, ⟨by decide +kernel, by decide +kernel, by decide +kernel⟩, xq137, xq1005⟩
theorem fc_Trays_layAmongStates : xFc mX8_layAmongStates yX8_layAmongStates 1 := ⟨⟨by decide +kernel, rfl, by decide, rfl⟩, ⟨by decide +kernel, by decide +kernel, by decide +kernel⟩, xq137, xq1009⟩
theorem fc_Trays_work : xFc mX8_work yX8_work 3 := ⟨⟨by decide +kernel, rfl, by decide, rfl⟩, ⟨by decide +kernel, by decide +kernel, by decide +kernel⟩, xq137, xq990⟩
theorem fc_WM_forge : xFc mX11_forge yX11_forge 3 := ⟨⟨by decide +kernel, rfl, by decide, rfl⟩, ⟨by decide +kernel, by decide +kernel, by decide +kernel⟩, xq125, xq986⟩
theorem fc_WM_status : xFc mX11_status yX11_status 0 := ⟨⟨by decide +kernel, rfl, by decide, rfl⟩, ⟨by decide +kernel, by decide +kernel, by decide +kernel⟩, xq125, xq1013⟩
theorem fc_Md_in : xFc mX12_in yX12_in 3 := ⟨⟨by decide +kernel, rfl, by decide, rfl⟩, ⟨by decide +kernel, by decide +kernel, by decide +kernel⟩, xq138, xq1285⟩
theorem fc_Md_min : xFc mX12_min yX12_min 2 := ⟨⟨by decide +kernel, rfl, by decide, rfl⟩, ⟨by decide +kernel, by decide +kernel, by decide +kernel⟩, xq138, xq1309⟩
theorem fc_Md_feed : xFc mX12_feed yX12_feed 2 := ⟨⟨by decide +kernel, rfl, by decide, rfl⟩, ⟨by decide +kernel, by decide +kernel, by decide +kernel⟩, xq138, xq1282⟩
theorem fc_Md_reads : xFc mX12_reads yX12_reads 3 := ⟨⟨by decide +kernel, rfl, by decide, rfl⟩, ⟨by decide +kernel, by decide +kernel, by decide +kernel⟩, xq138, xq1297⟩
theorem fc_Md_readsOne : xFc mX12_readsOne yX12_readsOne 0 := ⟨⟨by decide +kernel, rfl, by decide, rfl⟩, ⟨by decide +kernel, by decide +kernel, by decide +kernel⟩, xq138, xq1293⟩
theorem fc_Md_readsTwo : xFc mX12_readsTwo yX12_readsTwo 1 := ⟨⟨by decide +kernel, rfl, by decide, rfl⟩, ⟨by decide +kernel, by decide +kernel, by decide +kernel⟩, xq138, xq1349⟩
theorem fc_Md_takeA : xFc mX12_takeA yX12_takeA 1 := ⟨⟨by decide +kernel, rfl, by decide, rfl⟩, ⟨by decide +kernel, by decide +kernel, by decide +kernel⟩, xq138, xq1361⟩
theorem fc_Md_takeB : xFc mX12_takeB yX12_takeB 1 := ⟨⟨by decide +kernel, rfl, by decide, rfl⟩, ⟨by decide +kernel, by decide +kernel, by decide +kernel⟩, xq138, xq1365⟩
theorem fc_Md_wordA : xFc mX12_wordA yX12_wordA 1 := ⟨⟨by decide +kernel, rfl, by decide, rfl⟩, ⟨by decide +kernel, by decide +kernel, by decide +kernel⟩, xq138, xq1431⟩
theorem fc_Md_compares : xFc mX12_compares yX12_compares 4 := ⟨⟨by decide +kernel, rfl, by decide, rfl⟩, ⟨by decide +kernel, by decide +kernel, by decide +kernel⟩, xq138, xq1306⟩
theorem fc_Md_wordOf : xFc mX12_wordOf yX12_wordOf 3 := ⟨⟨by decide +kernel, rfl, by decide, rfl⟩, ⟨by decide +kernel, by decide +kernel, by decide +kernel⟩, xq138, xq1302⟩
theorem fc_Md_moveWord : xFc mX12_moveWord yX12_moveWord 2 := ⟨⟨by decide +kernel, rfl, by decide, rfl⟩, ⟨by decide +kernel, by decide +kernel, by decide +kernel⟩, xq138, xq1313⟩
theorem fc_Md_add : xFc mX12_add yX12_add 1 := ⟨⟨by decide +kernel, rfl, by decide, rfl⟩, ⟨by decide +kernel, by decide +kernel, by decide +kernel⟩, xq138, xq1289⟩
theorem fc_Md_drop : xFc mX12_drop yX12_drop 0 := ⟨⟨by decide +kernel, rfl, by decide, rfl⟩, ⟨by decide +kernel, by decide +kernel, by decide +kernel⟩, xq138, xq1317⟩
theorem fc_Md_find : xFc mX12_find yX12_find 0 := ⟨⟨by decide +kernel, rfl, by decide, rfl⟩, ⟨by decide +kernel, by decide +kernel, by decide +kernel⟩, xq138, xq1321⟩
theorem fc_Md_word : xFc mX12_word yX12_word 2 := ⟨⟨by decide +kernel, rfl, by decide, rfl⟩, ⟨by decide +kernel, by decide +kernel, by decide +kernel⟩, xq138, xq1325⟩
theorem fc_Md_alike : xFc mX12_alike yX12_alike 1 := ⟨⟨by decide +kernel, rfl, by decide, rfl⟩, ⟨by decide +kernel, by decide +kernel, by decide +kernel⟩, xq138, xq1337⟩
theorem fc_Md_nodes : xFc mX12_nodes yX12_nodes 0 := ⟨⟨by decide +kernel, rfl, by decide, rfl⟩, ⟨by decide +kernel, by decide +kernel, by decide +kernel⟩, xq138, xq1333⟩
theorem fc_Md_count : xFc mX12_count yX12_count 1 := ⟨⟨by decide +kernel, rfl, by decide, rfl⟩, ⟨by decide +kernel, by decide +kernel, by decide +kernel⟩, xq138, xq1329⟩
theorem fc_Md_price : xFc mX12_price yX12_price 4 := ⟨⟨by decide +kernel, rfl, by decide, rfl⟩, ⟨by decide +kernel, by decide +kernel, by decide +kernel⟩, xq138, xq1341⟩
theorem fc_Md_sound : xFc mX12_sound yX12_sound 1 := ⟨⟨by decide +kernel, rfl, by decide, rfl⟩, ⟨by decide +kernel, by decide +kernel, by decide +kernel⟩, xq138, xq1345⟩
theorem fc_Md_model : xFc mX12_model yX12_model 1 := ⟨⟨by decide +kernel, rfl, by decide, rfl⟩, ⟨by decide +kernel, by decide +kernel, by decide +kernel⟩, xq138, xq1353⟩
theorem fc_Md_share : xFc mX12_share yX12_share 1 := ⟨⟨by decide +kernel, rfl, by decide, rfl⟩, ⟨by decide +kernel, by decide +kernel, by decide +kernel⟩, xq138, xq1439⟩
theorem fc_Md_swapPrice : xFc mX12_swapPrice yX12_swapPrice 2 := ⟨⟨by decide +kernel, rfl, by decide, rfl⟩, ⟨by decide +kernel, by decide +kernel, by decide +kernel⟩, xq138, xq1378⟩
theorem fc_Md_leftPrice : xFc mX12_leftPrice yX12_leftPrice 1 := ⟨⟨by decide +kernel, rfl, by decide, rfl⟩, ⟨by decide +kernel, by decide +kernel, by decide +kernel⟩, xq138, xq1382⟩
theorem fc_Md_putPrice : xFc mX12_putPrice yX12_putPrice 1 := ⟨⟨by decide +kernel, rfl, by decide, rfl⟩, ⟨by decide +kernel, by decide +kernel, by decide +kernel⟩, xq138, xq1386⟩
theorem fc_Md_hasSound : xFc mX12_hasSound yX12_hasSound 3 := ⟨⟨by decide +kernel, rfl, by decide, rfl⟩, ⟨by decide +kernel, by decide +kernel, by decide +kernel⟩, xq138, xq1390⟩
theorem fc_Md_slip : xFc mX12_slip yX12_slip 4 := ⟨⟨by decide +kernel, rfl, by decide, rfl⟩, ⟨by decide +kernel, by decide +kernel, by decide +kernel⟩, xq138, xq1374⟩
theorem fc_Md_sums : xFc mX12_sums yX12_sums 0 := ⟨⟨by decide +kernel, rfl, by decide, rfl⟩, ⟨by decide +kernel, by decide +kernel, by decide +kernel⟩, xq138, xq1369⟩
theorem fc_Md_ways : xFc mX12_ways yX12_ways 0 := ⟨⟨by decide +kernel, rfl, by decide, rfl⟩, ⟨by decide +kernel, by decide +kernel, by decide +kernel⟩, xq138, xq1394⟩
theorem fc_Md_distance : xFc mX12_distance yX12_distance 0 := ⟨⟨by decide +kernel, rfl, by decide, rfl⟩, ⟨by decide +kernel, by decide +kernel, by decide +kernel⟩, xq138, xq1357⟩
theorem fc_Md_way : xFc mX12_way yX12_way 2 := ⟨⟨by decide +kernel, rfl, by decide, rfl⟩, ⟨by decide +kernel, by decide +kernel, by decide +kernel⟩, xq138, xq1398⟩
theorem fc_Md_stateRow : xFc mX12_stateRow yX12_stateRow 1 := ⟨⟨by decide +kernel, rfl, by decide, rfl⟩, ⟨by decide +kernel, by decide +kernel, by decide +kernel⟩, xq138, xq1415⟩
theorem fc_Md_leastOf : xFc mX12_leastOf yX12_leastOf 1 := ⟨⟨by decide +kernel, rfl, by decide, rfl⟩, ⟨by decide +kernel, by decide +kernel, by decide +kernel⟩, xq138, xq1419⟩
theorem fc_Md_meets : xFc mX12_meets yX12_meets 3 := ⟨⟨by decide +kernel, rfl, by decide, rfl⟩, ⟨by decide +kernel, by decide +kernel, by decide +kernel⟩, xq138, xq1411⟩
theorem fc_Md_walk : xFc mX12_walk yX12_walk 1 := ⟨⟨by decide +kernel, rfl, by decide, rfl⟩, ⟨by decide +kernel, by decide +kernel, by decide +kernel⟩, xq138, xq1407⟩
theorem fc_Md_distanceTo : xFc mX12_distanceTo yX12_distanceTo 1 := ⟨⟨by decide +kernel, rfl, by decide, rfl⟩, ⟨by decide +kernel, by decide +kernel, by decide +kernel⟩, xq138, xq1435⟩
theorem fc_Md_beginningTo : xFc mX12_beginningTo yX12_beginningTo 1 := ⟨⟨by decide +kernel, rfl, by decide, rfl⟩, ⟨by decide +kernel, by decide +kernel, by decide +kernel⟩, xq138, xq1427⟩
theorem fc_Md_isAhead : xFc mX12_isAhead yX12_isAhead 4 := ⟨⟨by decide +kernel, rfl, by decide, rfl⟩, ⟨by decide +kernel, by decide +kernel, by decide +kernel⟩, xq138, xq1447⟩
theorem fc_Md_tries : xFc mX12_tries yX12_tries 2 := ⟨⟨by decide +kernel, rfl, by decide, rfl⟩, ⟨by decide +kernel, by decide +kernel, by decide +kernel⟩, xq138, xq1423⟩
theorem fc_Md_keeps : xFc mX12_keeps yX12_keeps 1 := ⟨⟨by decide +kernel, rfl, by decide, rfl⟩, ⟨by decide +kernel, by decide +kernel, by decide +kernel⟩, xq138, xq1451⟩
theorem fc_Md_near : xFc mX12_near yX12_near 1 := ⟨⟨by decide +kernel, rfl, by decide, rfl⟩, ⟨by decide +kernel, by decide +kernel, by decide +kernel⟩, xq138, xq1402⟩
theorem fc_Md_nearest : xFc mX12_nearest yX12_nearest 1 := ⟨⟨by decide +kernel, rfl, by decide, rfl⟩, ⟨by decide +kernel, by decide +kernel, by decide +kernel⟩, xq138, xq1455⟩
theorem fc_Md_complete : xFc mX12_complete yX12_complete 1 := ⟨⟨by decide +kernel, rfl, by decide, rfl⟩, ⟨by decide +kernel, by decide +kernel, by decide +kernel⟩, xq138, xq1460⟩
theorem fc_Md_found : xFc mX12_found yX12_found 2 := ⟨⟨by decide +kernel, rfl, by decide, rfl⟩, ⟨by decide +kernel, by decide +kernel, by decide +kernel⟩, xq138, xq1464⟩
theorem fc_Md_node : xFc mX12_node yX12_node 2 := ⟨⟨by decide +kernel, rfl, by decide, rfl⟩, ⟨by decide +kernel, by decide +kernel, by decide +kernel⟩, xq138, xq1468⟩
theorem fc_Md_pair : xFc mX12_pair yX12_pair 0 := ⟨⟨by decide +kernel, rfl, by decide, rfl⟩, ⟨by decide +kernel, by decide +kernel, by decide +kernel⟩, xq138, xq1472⟩
theorem fc_Md_takePair : xFc mX12_takePair yX12_takePair 1 := ⟨⟨by decide +kernel, rfl, by decide, rfl⟩, ⟨by decide +kernel, by decide +kernel, by decide +kernel⟩, xq138, xq1480⟩
theorem fc_Md_learn : xFc mX12_learn yX12_learn 0 := ⟨⟨by decide +kernel, rfl, by decide, rfl⟩, ⟨by decide +kernel, by decide +kernel, by decide +kernel⟩, xq138, xq1476⟩
theorem fc_Md_spread : xFc mX12_spread yX12_spread 0 := ⟨⟨by decide +kernel, rfl, by decide, rfl⟩, ⟨by decide +kernel, by decide +kernel, by decide +kernel⟩, xq138, xq1484⟩
theorem fc_Md_together : xFc mX12_together yX12_together 1 := ⟨⟨by decide +kernel, rfl, by decide, rfl⟩, ⟨by decide +kernel, by decide +kernel, by decide +kernel⟩, xq138, xq1501⟩
theorem fc_Md_isWord : xFc mX12_isWord yX12_isWord 1 := ⟨⟨by decide +kernel, rfl, by decide, rfl⟩, ⟨by decide +kernel, by decide +kernel, by decide +kernel⟩, xq138, xq1492⟩
theorem fc_Md_parting : xFc mX12_parting yX12_parting 1 := ⟨⟨by decide +kernel, rfl, by decide, rfl⟩, ⟨by decide +kernel, by decide +kernel, by decide +kernel⟩, xq138, xq1505⟩
theorem fc_Md_partAt : xFc mX12_partAt yX12_partAt 3 := ⟨⟨by decide +kernel, rfl, by decide, rfl⟩, ⟨by decide +kernel, by decide +kernel, by decide +kernel⟩, xq138, xq1497⟩
theorem fc_Md_mend : xFc mX12_mend yX12_mend 1 := ⟨⟨by decide +kernel, rfl, by decide, rfl⟩, ⟨by decide +kernel, by decide +kernel, by decide +kernel⟩, xq138, xq1488⟩
theorem fc_Md_part : xFc mX12_part yX12_part 2 := ⟨⟨by decide +kernel, rfl, by decide, rfl⟩, ⟨by decide +kernel, by decide +kernel, by decide +kernel⟩, xq138, xq1509⟩
theorem fc_Md_refused : xFc mX12_refused yX12_refused 1 := ⟨⟨by decide +kernel, rfl, by decide, rfl⟩, ⟨by decide +kernel, by decide +kernel, by decide +kernel⟩, xq138, xq1517⟩
theorem fc_Md_done : xFc mX12_done yX12_done 1 := ⟨⟨by decide +kernel, rfl, by decide, rfl⟩, ⟨by decide +kernel, by decide +kernel, by decide +kernel⟩, xq138, xq1521⟩
theorem fc_Md_put : xFc mX12_put yX12_put 3 := ⟨⟨by decide +kernel, rfl, by decide, rfl⟩, ⟨by decide +kernel, by decide +kernel, by decide +kernel⟩, xq138, xq1513⟩
theorem fc_Md_forge : xFc mX12_forge yX12_forge 3 := ⟨⟨by decide +kernel, rfl, by decide, rfl⟩, ⟨by decide +kernel, by decide +kernel, by decide +kernel⟩, xq138, xq1525⟩
theorem fc_Md_status : xFc mX12_status yX12_status 0 := ⟨⟨by decide +kernel, rfl, by decide, rfl⟩, ⟨by decide +kernel, by decide +kernel, by decide +kernel⟩, xq138, xq1529⟩
theorem kO1 : xK 1 = 3 + 11 := by decide +kernel
theorem kO2 : xK 2 = 3 + 7 := by decide +kernel
theorem kO3 : xK 3 = 1 := by decide +kernel
theorem kO4 : xK 4 = 3 + 1 := by decide +kernel
theorem kO5 : xK 5 = 3 + 5 := by decide +kernel
theorem kO8 : xK 8 = 1 := by decide +kernel
theorem kO9 : xK 9 = 3 + 6 := by decide +kernel
theorem kO10 : xK 10 = 1 := by decide +kernel
theorem kO11 : xK 11 = 1 := by decide +kernel
theorem kO12 : xK 12 = 1 := by decide +kernel
theorem kO13 : xK 13 = 1 := by decide +kernel
theorem kO14 : xK 14 = 3 + 5 := by decide +kernel
theorem kO17 : xK 17 = 3 + 5 := by decide +kernel
theorem kO20 : xK 20 = 1 := by decide +kernel
theorem kO21 : xK 21 = 3 + 4 := by decide +kernel
theorem kO23 : xK 23 = 3 + 4 := by decide +kernel
theorem kO25 : xK 25 = 3 + 5 := by decide +kernel
theorem kO28 : xK 28 = 3 + 10 := by decide +kernel
theorem kO34 : xK 34 = 3 + 10 := by decide +kernel
theorem kO40 : xK 40 = 3 + 5 := by decide +kernel
theorem kO43 : xK 43 = 3 + 5 := by decide +kernel
theorem kO46 : xK 46 = 1 := by decide +kernel
theorem kO47 : xK 47 = 1 := by decide +kernel
theorem kO48 : xK 48 = 3 + 9 := by decide +kernel
theorem kO49 : xK 49 = 3 + 3 := by decide +kernel
theorem kO50 : xK 50 = 1 := by decide +kernel
theorem kO51 : xK 51 = 1 := by decide +kernel
theorem kO52 : xK 52 = 2 := by decide +kernel
theorem kO53 : xK 53 = 2 := by decide +kernel
theorem kO54 : xK 54 = 1 := by decide +kernel
theorem kO55 : xK 55 = 3 + 4 := by decide +kernel
theorem kO57 : xK 57 = 1 := by decide +kernel
theorem kO58 : xK 58 = 1 := by decide +kernel
theorem kO59 : xK 59 = 1 := by decide +kernel
theorem kO60 : xK 60 = 1 := by decide +kernel
theorem kO61 : xK 61 = 1 := by decide +kernel
theorem kO62 : xK 62 = 3 + 0 := by decide +kernel
theorem kO66 : xK 66 = 3 + 0 := by decide +kernel
theorem kO70 : xK 70 = 3 + 2 := by decide +kernel
theorem kO71 : xK 71 = 1 := by decide +kernel
theorem kO72 : xK 72 = 1 := by decide +kernel
theorem kO73 : xK 73 = 1 := by decide +kernel
theorem kO74 : xK 74 = 1 := by decide +kernel
theorem kO75 : xK 75 = 1 := by decide +kernel
theorem kO76 : xK 76 = 1 := by decide +kernel
theorem kO77 : xK 77 = 3 + 8 := by decide +kernel
theorem kO78 : xK 78 = 1 := by decide +kernel
theorem kO79 : xK 79 = 1 := by decide +kernel
theorem kO80 : xK 80 = 1 := by decide +kernel
theorem kO81 : xK 81 = 3 + 12 := by decide +kernel
theorem kO82 : xK 82 = 1 := by decide +kernel
theorem kO83 : xK 83 = 1 := by decide +kernel
theorem kO84 : xK 84 = 1 := by decide +kernel
theorem kO85 : xK 85 = 1 := by decide +kernel
theorem kO86 : xK 86 = 1 := by decide +kernel
theorem kO87 : xK 87 = 1 := by decide +kernel
theorem kO88 : xK 88 = 1 := by decide +kernel
theorem kO89 : xK 89 = 1 := by decide +kernel
theorem kO90 : xK 90 = 1 := by decide +kernel
theorem kO91 : xK 91 = 1 := by decide +kernel
theorem kO92 : xK 92 = 1 := by decide +kernel
theorem kO93 : xK 93 = 1 := by decide +kernel
theorem kO94 : xK 94 = 1 := by decide +kernel
theorem kO95 : xK 95 = 1 := by decide +kernel
theorem kO96 : xK 96 = 1 := by decide +kernel
theorem kO97 : xK 97 = 1 := by decide +kernel
theorem kO98 : xK 98 = 1 := by decide +kernel
theorem kO99 : xK 99 = 1 := by decide +kernel
theorem kO100 : xK 100 = 1 := by decide +kernel
theorem kO101 : xK 101 = 1 := by decide +kernel
theorem kO102 : xK 102 = 1 := by decide +kernel
theorem kO103 : xK 103 = 1 := by decide +kernel
theorem kO104 : xK 104 = 1 := by decide +kernel
theorem kO105 : xK 105 = 1 := by decide +kernel
theorem kO106 : xK 106 = 1 := by decide +kernel
theorem kO107 : xK 107 = 1 := by decide +kernel
theorem kO108 : xK 108 = 1 := by decide +kernel
theorem kO109 : xK 109 = 1 := by decide +kernel
theorem kO110 : xK 110 = 1 := by decide +kernel
theorem kO111 : xK 111 = 1 := by decide +kernel
theorem kO112 : xK 112 = 1 := by decide +kernel
theorem kO113 : xK 113 = 1 := by decide +kernel
theorem kO114 : xK 114 = 1 := by decide +kernel
theorem kO115 : xK 115 = 1 := by decide +kernel
theorem kO116 : xK 116 = 1 := by decide +kernel
theorem kO118 : xK 118 = 1 := by decide +kernel
theorem kO119 : xK 119 = 1 := by decide +kernel
theorem kO120 : xK 120 = 1 := by decide +kernel
theorem kO121 : xK 121 = 1 := by decide +kernel
theorem kO122 : xK 122 = 1 := by decide +kernel
theorem kO123 : xK 123 = 1 := by decide +kernel
theorem kO124 : xK 124 = 1 := by decide +kernel
theorem kO125 : xK 125 = 1 := by decide +kernel
theorem kO126 : xK 126 = 1 := by decide +kernel
theorem kO127 : xK 127 = 1 := by decide +kernel
theorem kO128 : xK 128 = 1 := by decide +kernel
theorem kO129 : xK 129 = 1 := by decide +kernel
theorem kO130 : xK 130 = 1 := by decide +kernel
theorem kO131 : xK 131 = 1 := by decide +kernel
theorem kO132 : xK 132 = 1 := by decide +kernel
theorem kO133 : xK 133 = 1 := by decide +kernel
theorem kO134 : xK 134 = 1 := by decide +kernel
theorem kO135 : xK 135 = 1 := by decide +kernel
theorem kO136 : xK 136 = 1 := by decide +kernel
theorem kO137 : xK 137 = 1 := by decide +kernel
theorem kO138 : xK 138 = 1 := by decide +kernel
theorem kO139 : xK 139 = 1 := by decide +kernel
theorem kO140 : xK 140 = 1 := by decide +kernel
theorem kO141 : xK 141 = 1 := by decide +kernel
theorem kO142 : xK 142 = 1 := by decide +kernel
theorem kO143 : xK 143 = 1 := by decide +kernel
theorem kO144 : xK 144 = 1 := by decide +kernel
theorem kO145 : xK 145 = 1 := by decide +kernel
theorem nA3 : (xN 3 : Int) = 240 := by decide +kernel
theorem nA8 : (xN 8 : Int) = 200 := by decide +kernel
theorem nA10 : (xN 10 : Int) = 10 := by decide +kernel
theorem nA20 : (xN 20 : Int) = 20 := by decide +kernel
theorem nA46 : (xN 46 : Int) = 960 := by decide +kernel
theorem nA47 : (xN 47 : Int) = 7 := by decide +kernel
theorem nA50 : (xN 50 : Int) = 2401 := by decide +kernel
theorem nA51 : (xN 51 : Int) = 2401 := by decide +kernel
theorem nA52 : (xN 52 : Int) = 2401 := by decide +kernel
theorem nA53 : (xN 53 : Int) = 2401 := by decide +kernel
theorem nA54 : (xN 54 : Int) = 31213 := by decide +kernel
theorem nA57 : (xN 57 : Int) = 169 := by decide +kernel
theorem nA58 : (xN 58 : Int) = 13 := by decide +kernel
theorem nA59 : (xN 59 : Int) = 13 := by decide +kernel
theorem nA60 : (xN 60 : Int) = 200 := by decide +kernel
theorem nA61 : (xN 61 : Int) = 200 := by decide +kernel
theorem nA71 : (xN 71 : Int) = 60 := by decide +kernel
theorem nA72 : (xN 72 : Int) = 60 := by decide +kernel
theorem nA73 : (xN 73 : Int) = 60 := by decide +kernel
theorem nA74 : (xN 74 : Int) = 13 := by decide +kernel
theorem nA75 : (xN 75 : Int) = 13 := by decide +kernel
theorem nA76 : (xN 76 : Int) = 12 := by decide +kernel
theorem nA78 : (xN 78 : Int) = 8 := by decide +kernel
theorem nA79 : (xN 79 : Int) = 8 := by decide +kernel
theorem nA80 : (xN 80 : Int) = 208 := by decide +kernel
theorem nA82 : (xN 82 : Int) = 240 := by decide +kernel
theorem nA83 : (xN 83 : Int) = 12 := by decide +kernel
theorem nA84 : (xN 84 : Int) = 144 := by decide +kernel
theorem nA85 : (xN 85 : Int) = 200 := by decide +kernel
theorem nA86 : (xN 86 : Int) = 2400 := by decide +kernel
theorem nA87 : (xN 87 : Int) = 200 := by decide +kernel
theorem nA88 : (xN 88 : Int) = 7 := by decide +kernel
theorem nA89 : (xN 89 : Int) = 676 := by decide +kernel
theorem nA90 : (xN 90 : Int) = 26 := by decide +kernel
theorem nA91 : (xN 91 : Int) = 26 := by decide +kernel
theorem nA92 : (xN 92 : Int) = 20 := by decide +kernel
theorem nA93 : (xN 93 : Int) = 60 := by decide +kernel
theorem nA94 : (xN 94 : Int) = 20 := by decide +kernel
theorem nA95 : (xN 95 : Int) = 60 := by decide +kernel
theorem nA96 : (xN 96 : Int) = 20 := by decide +kernel
theorem nA97 : (xN 97 : Int) = 12 := by decide +kernel
theorem nA98 : (xN 98 : Int) = 12 := by decide +kernel
theorem nA99 : (xN 99 : Int) = 169 := by decide +kernel
theorem nA100 : (xN 100 : Int) = 24 := by decide +kernel
theorem nA101 : (xN 101 : Int) = 24 := by decide +kernel
theorem nA102 : (xN 102 : Int) = 24 := by decide +kernel
theorem nA103 : (xN 103 : Int) = 24 := by decide +kernel
theorem nA104 : (xN 104 : Int) = 24 := by decide +kernel
theorem nA105 : (xN 105 : Int) = 24 := by decide +kernel
theorem nA106 : (xN 106 : Int) = 24 := by decide +kernel
theorem nA107 : (xN 107 : Int) = 24 := by decide +kernel
theorem nA108 : (xN 108 : Int) = 24 := by decide +kernel
theorem nA109 : (xN 109 : Int) = 24 := by decide +kernel
theorem nA110 : (xN 110 : Int) = 2401 := by decide +kernel
theorem nA111 : (xN 111 : Int) = 2401 := by decide +kernel
theorem nA112 : (xN 112 : Int) = 2401 := by decide +kernel
theorem nA113 : (xN 113 : Int) = 2401 := by decide +kernel
theorem nA114 : (xN 114 : Int) = 2401 := by decide +kernel
theorem nA115 : (xN 115 : Int) = 31213 := by decide +kernel
theorem nA116 : (xN 116 : Int) = 169 := by decide +kernel
theorem nA118 : (xN 118 : Int) = 13 := by decide +kernel
theorem nA119 : (xN 119 : Int) = 13 := by decide +kernel
theorem nA120 : (xN 120 : Int) = 13 := by decide +kernel
theorem nA121 : (xN 121 : Int) = 200 := by decide +kernel
theorem nA122 : (xN 122 : Int) = 200 := by decide +kernel
theorem nA123 : (xN 123 : Int) = 200 := by decide +kernel
theorem nA124 : (xN 124 : Int) = 200 := by decide +kernel
theorem nA125 : (xN 125 : Int) = 200 := by decide +kernel
theorem nA126 : (xN 126 : Int) = 200 := by decide +kernel
theorem nA127 : (xN 127 : Int) = 40 := by decide +kernel
theorem nA128 : (xN 128 : Int) = 480 := by decide +kernel
theorem nA129 : (xN 129 : Int) = 40 := by decide +kernel
theorem nA130 : (xN 130 : Int) = 480 := by decide +kernel
theorem nA131 : (xN 131 : Int) = 40 := by decide +kernel
theorem nA132 : (xN 132 : Int) = 960 := by decide +kernel
theorem nA133 : (xN 133 : Int) = 7 := by decide +kernel
theorem nA134 : (xN 134 : Int) = 12 := by decide +kernel
theorem nA135 : (xN 135 : Int) = 12 := by decide +kernel
theorem nA136 : (xN 136 : Int) = 12 := by decide +kernel
theorem nA137 : (xN 137 : Int) = 12 := by decide +kernel
theorem nA138 : (xN 138 : Int) = 12 := by decide +kernel
theorem nA139 : (xN 139 : Int) = 13 := by decide +kernel
theorem nA140 : (xN 140 : Int) = 12 := by decide +kernel
theorem nA141 : (xN 141 : Int) = 12 := by decide +kernel
theorem nA142 : (xN 142 : Int) = 8 := by decide +kernel
theorem nA143 : (xN 143 : Int) = 8 := by decide +kernel
theorem nA144 : (xN 144 : Int) = 208 := by decide +kernel
theorem nA145 : (xN 145 : Int) = 24 := by decide +kernel
theorem rf_1_0 : xRf 1 0 = 2 ∧ (2 : Int) ≠ 0 := by decide +kernel
theorem rf_1_1 : xRf 1 1 = 4 ∧ (4 : Int) ≠ 0 := by decide +kernel
theorem rf_1_2 : xRf 1 2 = 9 ∧ (9 : Int) ≠ 0 := by decide +kernel
theorem rf_1_3 : xRf 1 3 = 21 ∧ (21 : Int) ≠ 0 := by decide +kernel
theorem rf_1_4 : xRf 1 4 = 23 ∧ (23 : Int) ≠ 0 := by decide +kernel
theorem rf_1_5 : xRf 1 5 = 25 ∧ (25 : Int) ≠ 0 := by decide +kernel
theorem rf_1_6 : xRf 1 6 = 28 ∧ (28 : Int) ≠ 0 := by decide +kernel
theorem rf_1_7 : xRf 1 7 = 34 ∧ (34 : Int) ≠ 0 := by decide +kernel
theorem rf_1_8 : xRf 1 8 = 40 ∧ (40 : Int) ≠ 0 := by decide +kernel
theorem rf_1_9 : xRf 1 9 = 43 ∧ (43 : Int) ≠ 0 := by decide +kernel
theorem rf_1_10 : xRf 1 10 = 46 ∧ (46 : Int) ≠ 0 := by decide +kernel
theorem rf_1_11 : xRf 1 11 = 47 ∧ (47 : Int) ≠ 0 := by decide +kernel
theorem rf_1_12 : xRf 1 12 = 48 ∧ (48 : Int) ≠ 0 := by decide +kernel
theorem rf_1_13 : xRf 1 13 = 62 ∧ (62 : Int) ≠ 0 := by decide +kernel
theorem rf_1_14 : xRf 1 14 = 66 ∧ (66 : Int) ≠ 0 := by decide +kernel
theorem rf_1_15 : xRf 1 15 = 70 ∧ (70 : Int) ≠ 0 := by decide +kernel
theorem rf_1_16 : xRf 1 16 = 77 ∧ (77 : Int) ≠ 0 := by decide +kernel
theorem rf_2_0 : xRf 2 0 = 3 ∧ (3 : Int) ≠ 0 := by decide +kernel
theorem rf_4_0 : xRf 4 0 = 5 ∧ (5 : Int) ≠ 0 := by decide +kernel
theorem rf_4_1 : xRf 4 1 = 8 ∧ (8 : Int) ≠ 0 := by decide +kernel
theorem rf_9_0 : xRf 9 0 = 10 ∧ (10 : Int) ≠ 0 := by decide +kernel
theorem rf_9_1 : xRf 9 1 = 11 ∧ (11 : Int) ≠ 0 := by decide +kernel
theorem rf_9_2 : xRf 9 2 = 12 ∧ (12 : Int) ≠ 0 := by decide +kernel
theorem rf_9_3 : xRf 9 3 = 13 ∧ (13 : Int) ≠ 0 := by decide +kernel
theorem rf_9_4 : xRf 9 4 = 14 ∧ (14 : Int) ≠ 0 := by decide +kernel
theorem rf_9_5 : xRf 9 5 = 17 ∧ (17 : Int) ≠ 0 := by decide +kernel
theorem rf_9_6 : xRf 9 6 = 20 ∧ (20 : Int) ≠ 0 := by decide +kernel
theorem rf_48_0 : xRf 48 0 = 4 ∧ (4 : Int) ≠ 0 := by decide +kernel
theorem rf_48_1 : xRf 48 1 = 9 ∧ (9 : Int) ≠ 0 := by decide +kernel
theorem rf_48_2 : xRf 48 2 = 49 ∧ (49 : Int) ≠ 0 := by decide +kernel
theorem rf_48_3 : xRf 48 3 = 55 ∧ (55 : Int) ≠ 0 := by decide +kernel
theorem rf_48_4 : xRf 48 4 = 57 ∧ (57 : Int) ≠ 0 := by decide +kernel
theorem rf_48_5 : xRf 48 5 = 58 ∧ (58 : Int) ≠ 0 := by decide +kernel
theorem rf_48_6 : xRf 48 6 = 59 ∧ (59 : Int) ≠ 0 := by decide +kernel
theorem rf_48_7 : xRf 48 7 = 60 ∧ (60 : Int) ≠ 0 := by decide +kernel
theorem rf_48_8 : xRf 48 8 = 61 ∧ (61 : Int) ≠ 0 := by decide +kernel
theorem rf_49_0 : xRf 49 0 = 50 ∧ (50 : Int) ≠ 0 := by decide +kernel
theorem rf_49_1 : xRf 49 1 = 51 ∧ (51 : Int) ≠ 0 := by decide +kernel
theorem rf_49_2 : xRf 49 2 = 52 ∧ (52 : Int) ≠ 0 := by decide +kernel
theorem rf_49_3 : xRf 49 3 = 53 ∧ (53 : Int) ≠ 0 := by decide +kernel
theorem rf_49_4 : xRf 49 4 = 54 ∧ (54 : Int) ≠ 0 := by decide +kernel
theorem rf_70_0 : xRf 70 0 = 71 ∧ (71 : Int) ≠ 0 := by decide +kernel
theorem rf_70_1 : xRf 70 1 = 72 ∧ (72 : Int) ≠ 0 := by decide +kernel
theorem rf_70_2 : xRf 70 2 = 73 ∧ (73 : Int) ≠ 0 := by decide +kernel
theorem rf_70_3 : xRf 70 3 = 74 ∧ (74 : Int) ≠ 0 := by decide +kernel
theorem rf_70_4 : xRf 70 4 = 75 ∧ (75 : Int) ≠ 0 := by decide +kernel
theorem rf_70_5 : xRf 70 5 = 76 ∧ (76 : Int) ≠ 0 := by decide +kernel
theorem rf_77_0 : xRf 77 0 = 78 ∧ (78 : Int) ≠ 0 := by decide +kernel
theorem rf_77_1 : xRf 77 1 = 79 ∧ (79 : Int) ≠ 0 := by decide +kernel
theorem rf_77_2 : xRf 77 2 = 80 ∧ (80 : Int) ≠ 0 := by decide +kernel
theorem rf_81_0 : xRf 81 0 = 82 ∧ (82 : Int) ≠ 0 := by decide +kernel
theorem rf_81_3 : xRf 81 3 = 83 ∧ (83 : Int) ≠ 0 := by decide +kernel
theorem rf_81_4 : xRf 81 4 = 84 ∧ (84 : Int) ≠ 0 := by decide +kernel
theorem rf_81_6 : xRf 81 6 = 85 ∧ (85 : Int) ≠ 0 := by decide +kernel
theorem rf_81_7 : xRf 81 7 = 86 ∧ (86 : Int) ≠ 0 := by decide +kernel
theorem rf_81_8 : xRf 81 8 = 87 ∧ (87 : Int) ≠ 0 := by decide +kernel
theorem rf_81_9 : xRf 81 9 = 88 ∧ (88 : Int) ≠ 0 := by decide +kernel
theorem rf_81_10 : xRf 81 10 = 89 ∧ (89 : Int) ≠ 0 := by decide +kernel
theorem rf_81_11 : xRf 81 11 = 90 ∧ (90 : Int) ≠ 0 := by decide +kernel
theorem rf_81_12 : xRf 81 12 = 91 ∧ (91 : Int) ≠ 0 := by decide +kernel
theorem rf_81_17 : xRf 81 17 = 92 ∧ (92 : Int) ≠ 0 := by decide +kernel
theorem rf_81_18 : xRf 81 18 = 93 ∧ (93 : Int) ≠ 0 := by decide +kernel
theorem rf_81_19 : xRf 81 19 = 94 ∧ (94 : Int) ≠ 0 := by decide +kernel
theorem rf_81_20 : xRf 81 20 = 95 ∧ (95 : Int) ≠ 0 := by decide +kernel
theorem rf_81_21 : xRf 81 21 = 96 ∧ (96 : Int) ≠ 0 := by decide +kernel
theorem rf_81_24 : xRf 81 24 = 97 ∧ (97 : Int) ≠ 0 := by decide +kernel
theorem rf_81_25 : xRf 81 25 = 98 ∧ (98 : Int) ≠ 0 := by decide +kernel
theorem rf_81_26 : xRf 81 26 = 99 ∧ (99 : Int) ≠ 0 := by decide +kernel
theorem rf_81_28 : xRf 81 28 = 100 ∧ (100 : Int) ≠ 0 := by decide +kernel
theorem rf_81_29 : xRf 81 29 = 101 ∧ (101 : Int) ≠ 0 := by decide +kernel
theorem rf_81_30 : xRf 81 30 = 102 ∧ (102 : Int) ≠ 0 := by decide +kernel
theorem rf_81_31 : xRf 81 31 = 103 ∧ (103 : Int) ≠ 0 := by decide +kernel
theorem rf_81_32 : xRf 81 32 = 104 ∧ (104 : Int) ≠ 0 := by decide +kernel
theorem rf_81_34 : xRf 81 34 = 105 ∧ (105 : Int) ≠ 0 := by decide +kernel
theorem rf_81_35 : xRf 81 35 = 106 ∧ (106 : Int) ≠ 0 := by decide +kernel
theorem rf_81_36 : xRf 81 36 = 107 ∧ (107 : Int) ≠ 0 := by decide +kernel
theorem rf_81_37 : xRf 81 37 = 108 ∧ (108 : Int) ≠ 0 := by decide +kernel
theorem rf_81_38 : xRf 81 38 = 109 ∧ (109 : Int) ≠ 0 := by decide +kernel
theorem rf_81_41 : xRf 81 41 = 110 ∧ (110 : Int) ≠ 0 := by decide +kernel
theorem rf_81_42 : xRf 81 42 = 111 ∧ (111 : Int) ≠ 0 := by decide +kernel
theorem rf_81_43 : xRf 81 43 = 112 ∧ (112 : Int) ≠ 0 := by decide +kernel
theorem rf_81_44 : xRf 81 44 = 113 ∧ (113 : Int) ≠ 0 := by decide +kernel
theorem rf_81_45 : xRf 81 45 = 114 ∧ (114 : Int) ≠ 0 := by decide +kernel
theorem rf_81_46 : xRf 81 46 = 115 ∧ (115 : Int) ≠ 0 := by decide +kernel
theorem rf_81_48 : xRf 81 48 = 116 ∧ (116 : Int) ≠ 0 := by decide +kernel
theorem rf_81_50 : xRf 81 50 = 118 ∧ (118 : Int) ≠ 0 := by decide +kernel
theorem rf_81_51 : xRf 81 51 = 119 ∧ (119 : Int) ≠ 0 := by decide +kernel
theorem rf_81_52 : xRf 81 52 = 120 ∧ (120 : Int) ≠ 0 := by decide +kernel
theorem rf_81_54 : xRf 81 54 = 121 ∧ (121 : Int) ≠ 0 := by decide +kernel
theorem rf_81_55 : xRf 81 55 = 122 ∧ (122 : Int) ≠ 0 := by decide +kernel
theorem rf_81_56 : xRf 81 56 = 123 ∧ (123 : Int) ≠ 0 := by decide +kernel
theorem rf_81_58 : xRf 81 58 = 124 ∧ (124 : Int) ≠ 0 := by decide +kernel
theorem rf_81_59 : xRf 81 59 = 125 ∧ (125 : Int) ≠ 0 := by decide +kernel
theorem rf_81_60 : xRf 81 60 = 126 ∧ (126 : Int) ≠ 0 := by decide +kernel
theorem rf_81_62 : xRf 81 62 = 127 ∧ (127 : Int) ≠ 0 := by decide +kernel
theorem rf_81_63 : xRf 81 63 = 128 ∧ (128 : Int) ≠ 0 := by decide +kernel
theorem rf_81_64 : xRf 81 64 = 129 ∧ (129 : Int) ≠ 0 := by decide +kernel
theorem rf_81_65 : xRf 81 65 = 130 ∧ (130 : Int) ≠ 0 := by decide +kernel
theorem rf_81_66 : xRf 81 66 = 131 ∧ (131 : Int) ≠ 0 := by decide +kernel
theorem rf_81_67 : xRf 81 67 = 132 ∧ (132 : Int) ≠ 0 := by decide +kernel
theorem rf_81_68 : xRf 81 68 = 133 ∧ (133 : Int) ≠ 0 := by decide +kernel
theorem rf_81_71 : xRf 81 71 = 134 ∧ (134 : Int) ≠ 0 := by decide +kernel
theorem rf_81_72 : xRf 81 72 = 135 ∧ (135 : Int) ≠ 0 := by decide +kernel
theorem rf_81_73 : xRf 81 73 = 136 ∧ (136 : Int) ≠ 0 := by decide +kernel
theorem rf_81_74 : xRf 81 74 = 137 ∧ (137 : Int) ≠ 0 := by decide +kernel
theorem rf_81_75 : xRf 81 75 = 138 ∧ (138 : Int) ≠ 0 := by decide +kernel
theorem rf_81_76 : xRf 81 76 = 139 ∧ (139 : Int) ≠ 0 := by decide +kernel
theorem rf_81_77 : xRf 81 77 = 140 ∧ (140 : Int) ≠ 0 := by decide +kernel
theorem rf_81_78 : xRf 81 78 = 141 ∧ (141 : Int) ≠ 0 := by decide +kernel
theorem rf_81_79 : xRf 81 79 = 142 ∧ (142 : Int) ≠ 0 := by decide +kernel
theorem rf_81_80 : xRf 81 80 = 143 ∧ (143 : Int) ≠ 0 := by decide +kernel
theorem rf_81_81 : xRf 81 81 = 144 ∧ (144 : Int) ≠ 0 := by decide +kernel
theorem rf_81_85 : xRf 81 85 = 145 ∧ (145 : Int) ≠ 0 := by decide +kernel
theorem xNok (a : Int) : xok (xN a : Int) := by
  have key : ∀ k : Nat, k < xTab.length → (xTab.getD k (0, 0)).2 ≤ 2147483647 := by
    intro k hk
    have h2 : ∀ q ∈ xTab, Nat.ble q.2 2147483647 = true := by decide +kernel
    have h3 := h2 (xTab.getD k (0, 0)) (by simp only [List.getD, List.getElem?_eq_getElem hk, Option.getD_some]; exact List.getElem_mem hk)
    exact Nat.le_of_ble_eq_true h3
  have h1 : xN a ≤ 2147483647 := by
    unfold xN
    by_cases hl : a.toNat < xTab.length
    · exact key _ hl
    · simp [List.getD, List.getElem?_eq_none (Nat.not_lt.mp hl)]
  constructor <;> omega
theorem xsym {o : Int} {kd : Nat} (P : Nat → Prop) (hk : xK o = kd) (h0 : kd ≠ 0) (h : ∀ k : Nat, k < xTab.length → (xTab.getD k (0, 0)).1 = kd → P k) : ∃ k : Nat, o = (k : Int) ∧ P k := by
  obtain ⟨h1, h2⟩ := xK_rng (o := o) (by omega)
  refine ⟨o.toNat, by omega, h _ ?_ hk⟩
  have : xTab.length = xKn + 1 := by decide +kernel
  omega
theorem rfFound_0 {o : Int} (h : xK o = 3 + 0) : xRf o 0 = 4 ∧ 4 ≠ 0 := by
  obtain ⟨k, rfl, h2⟩ := xsym (fun k => (xRT.getD k []).getD 0 0 = (4 : Int)) h (by decide) (by decide +kernel)
  have h3 := xK_rg h
  refine ⟨?_, by omega⟩
  unfold xRf
  rw [if_neg (by decide)]
  exact h2
theorem rfFound_1 {o : Int} (h : xK o = 3 + 0) : xRf o 1 = o + 1 ∧ o + 1 ≠ 0 := by
  obtain ⟨k, rfl, h2⟩ := xsym (fun k => (xRT.getD k []).getD 1 0 = (k : Int) + 1) h (by decide) (by decide +kernel)
  have h3 := xK_rg h
  refine ⟨?_, by omega⟩
  unfold xRf
  rw [if_neg (by decide)]
  exact h2
theorem kFound_1 {o : Int} (h : xK o = 3 + 0) : xK (o + 1) = 1 := by
  obtain ⟨k, rfl, h2⟩ := xsym (fun k => (xTab.getD (k + 1) (0, 0)).1 = 1) h (by decide) (by decide +kernel)
  exact h2
theorem nFound_1 {o : Int} (h : xK o = 3 + 0) : (xN (o + 1) : Int) = 200 := by
  obtain ⟨k, rfl, h2⟩ := xsym (fun k => (xTab.getD (k + 1) (0, 0)).2 = 200) h (by decide) (by decide +kernel)
  exact congrArg Int.ofNat h2
theorem rfFound_2 {o : Int} (h : xK o = 3 + 0) : xRf o 2 = o + 2 ∧ o + 2 ≠ 0 := by
  obtain ⟨k, rfl, h2⟩ := xsym (fun k => (xRT.getD k []).getD 2 0 = (k : Int) + 2) h (by decide) (by decide +kernel)
  have h3 := xK_rg h
  refine ⟨?_, by omega⟩
  unfold xRf
  rw [if_neg (by decide)]
  exact h2
theorem kFound_2 {o : Int} (h : xK o = 3 + 0) : xK (o + 2) = 1 := by
  obtain ⟨k, rfl, h2⟩ := xsym (fun k => (xTab.getD (k + 2) (0, 0)).1 = 1) h (by decide) (by decide +kernel)
  exact h2
theorem nFound_2 {o : Int} (h : xK o = 3 + 0) : (xN (o + 2) : Int) = 200 := by
  obtain ⟨k, rfl, h2⟩ := xsym (fun k => (xTab.getD (k + 2) (0, 0)).2 = 200) h (by decide) (by decide +kernel)
  exact congrArg Int.ofNat h2
theorem rfFound_3 {o : Int} (h : xK o = 3 + 0) : xRf o 3 = o + 3 ∧ o + 3 ≠ 0 := by
  obtain ⟨k, rfl, h2⟩ := xsym (fun k => (xRT.getD k []).getD 3 0 = (k : Int) + 3) h (by decide) (by decide +kernel)
  have h3 := xK_rg h
  refine ⟨?_, by omega⟩
  unfold xRf
  rw [if_neg (by decide)]
  exact h2
theorem kFound_3 {o : Int} (h : xK o = 3 + 0) : xK (o + 3) = 1 := by
  obtain ⟨k, rfl, h2⟩ := xsym (fun k => (xTab.getD (k + 3) (0, 0)).1 = 1) h (by decide) (by decide +kernel)
  exact h2
theorem nFound_3 {o : Int} (h : xK o = 3 + 0) : (xN (o + 3) : Int) = 200 := by
  obtain ⟨k, rfl, h2⟩ := xsym (fun k => (xTab.getD (k + 3) (0, 0)).2 = 200) h (by decide) (by decide +kernel)
  exact congrArg Int.ofNat h2
theorem rfRow_0 {o : Int} (h : xK o = 3 + 4) : xRf o 0 = o + 1 ∧ o + 1 ≠ 0 := by
  obtain ⟨k, rfl, h2⟩ := xsym (fun k => (xRT.getD k []).getD 0 0 = (k : Int) + 1) h (by decide) (by decide +kernel)
  have h3 := xK_rg h
  refine ⟨?_, by omega⟩
  unfold xRf
  rw [if_neg (by decide)]
  exact h2
theorem kRow_0 {o : Int} (h : xK o = 3 + 4) : xK (o + 1) = 1 := by
  obtain ⟨k, rfl, h2⟩ := xsym (fun k => (xTab.getD (k + 1) (0, 0)).1 = 1) h (by decide) (by decide +kernel)
  exact h2
theorem nRow_0 {o : Int} (h : xK o = 3 + 4) : (xN (o + 1) : Int) = 12 := by
  obtain ⟨k, rfl, h2⟩ := xsym (fun k => (xTab.getD (k + 1) (0, 0)).2 = 12) h (by decide) (by decide +kernel)
  exact congrArg Int.ofNat h2
theorem rfRows_0 {o : Int} (h : xK o = 3 + 5) : xRf o 0 = o + 1 ∧ o + 1 ≠ 0 := by
  obtain ⟨k, rfl, h2⟩ := xsym (fun k => (xRT.getD k []).getD 0 0 = (k : Int) + 1) h (by decide) (by decide +kernel)
  have h3 := xK_rg h
  refine ⟨?_, by omega⟩
  unfold xRf
  rw [if_neg (by decide)]
  exact h2
theorem kRows_0 {o : Int} (h : xK o = 3 + 5) : xK (o + 1) = 1 := by
  obtain ⟨k, rfl, h2⟩ := xsym (fun k => (xTab.getD (k + 1) (0, 0)).1 = 1) h (by decide) (by decide +kernel)
  exact h2
theorem rfRows_1 {o : Int} (h : xK o = 3 + 5) : xRf o 1 = o + 2 ∧ o + 2 ≠ 0 := by
  obtain ⟨k, rfl, h2⟩ := xsym (fun k => (xRT.getD k []).getD 1 0 = (k : Int) + 2) h (by decide) (by decide +kernel)
  have h3 := xK_rg h
  refine ⟨?_, by omega⟩
  unfold xRf
  rw [if_neg (by decide)]
  exact h2
theorem kRows_1 {o : Int} (h : xK o = 3 + 5) : xK (o + 2) = 1 := by
  obtain ⟨k, rfl, h2⟩ := xsym (fun k => (xTab.getD (k + 2) (0, 0)).1 = 1) h (by decide) (by decide +kernel)
  exact h2
theorem rfWay_0 {o : Int} (h : xK o = 3 + 10) : xRf o 0 = 9 ∧ 9 ≠ 0 := by
  obtain ⟨k, rfl, h2⟩ := xsym (fun k => (xRT.getD k []).getD 0 0 = (9 : Int)) h (by decide) (by decide +kernel)
  have h3 := xK_rg h
  refine ⟨?_, by omega⟩
  unfold xRf
  rw [if_neg (by decide)]
  exact h2
theorem rfWay_1 {o : Int} (h : xK o = 3 + 10) : xRf o 1 = o + 1 ∧ o + 1 ≠ 0 := by
  obtain ⟨k, rfl, h2⟩ := xsym (fun k => (xRT.getD k []).getD 1 0 = (k : Int) + 1) h (by decide) (by decide +kernel)
  have h3 := xK_rg h
  refine ⟨?_, by omega⟩
  unfold xRf
  rw [if_neg (by decide)]
  exact h2
theorem kWay_1 {o : Int} (h : xK o = 3 + 10) : xK (o + 1) = 1 := by
  obtain ⟨k, rfl, h2⟩ := xsym (fun k => (xTab.getD (k + 1) (0, 0)).1 = 1) h (by decide) (by decide +kernel)
  exact h2
theorem nWay_1 {o : Int} (h : xK o = 3 + 10) : (xN (o + 1) : Int) = 169 := by
  obtain ⟨k, rfl, h2⟩ := xsym (fun k => (xTab.getD (k + 1) (0, 0)).2 = 169) h (by decide) (by decide +kernel)
  exact congrArg Int.ofNat h2
theorem rfWay_2 {o : Int} (h : xK o = 3 + 10) : xRf o 2 = o + 2 ∧ o + 2 ≠ 0 := by
  obtain ⟨k, rfl, h2⟩ := xsym (fun k => (xRT.getD k []).getD 2 0 = (k : Int) + 2) h (by decide) (by decide +kernel)
  have h3 := xK_rg h
  refine ⟨?_, by omega⟩
  unfold xRf
  rw [if_neg (by decide)]
  exact h2
theorem kWay_2 {o : Int} (h : xK o = 3 + 10) : xK (o + 2) = 1 := by
  obtain ⟨k, rfl, h2⟩ := xsym (fun k => (xTab.getD (k + 2) (0, 0)).1 = 1) h (by decide) (by decide +kernel)
  exact h2
theorem nWay_2 {o : Int} (h : xK o = 3 + 10) : (xN (o + 2) : Int) = 24 := by
  obtain ⟨k, rfl, h2⟩ := xsym (fun k => (xTab.getD (k + 2) (0, 0)).2 = 24) h (by decide) (by decide +kernel)
  exact congrArg Int.ofNat h2
theorem rfWay_3 {o : Int} (h : xK o = 3 + 10) : xRf o 3 = o + 3 ∧ o + 3 ≠ 0 := by
  obtain ⟨k, rfl, h2⟩ := xsym (fun k => (xRT.getD k []).getD 3 0 = (k : Int) + 3) h (by decide) (by decide +kernel)
  have h3 := xK_rg h
  refine ⟨?_, by omega⟩
  unfold xRf
  rw [if_neg (by decide)]
  exact h2
theorem kWay_3 {o : Int} (h : xK o = 3 + 10) : xK (o + 3) = 1 := by
  obtain ⟨k, rfl, h2⟩ := xsym (fun k => (xTab.getD (k + 3) (0, 0)).1 = 1) h (by decide) (by decide +kernel)
  exact h2
theorem nWay_3 {o : Int} (h : xK o = 3 + 10) : (xN (o + 3) : Int) = 24 := by
  obtain ⟨k, rfl, h2⟩ := xsym (fun k => (xTab.getD (k + 3) (0, 0)).2 = 24) h (by decide) (by decide +kernel)
  exact congrArg Int.ofNat h2
theorem rfWay_4 {o : Int} (h : xK o = 3 + 10) : xRf o 4 = o + 4 ∧ o + 4 ≠ 0 := by
  obtain ⟨k, rfl, h2⟩ := xsym (fun k => (xRT.getD k []).getD 4 0 = (k : Int) + 4) h (by decide) (by decide +kernel)
  have h3 := xK_rg h
  refine ⟨?_, by omega⟩
  unfold xRf
  rw [if_neg (by decide)]
  exact h2
theorem kWay_4 {o : Int} (h : xK o = 3 + 10) : xK (o + 4) = 1 := by
  obtain ⟨k, rfl, h2⟩ := xsym (fun k => (xTab.getD (k + 4) (0, 0)).1 = 1) h (by decide) (by decide +kernel)
  exact h2
theorem nWay_4 {o : Int} (h : xK o = 3 + 10) : (xN (o + 4) : Int) = 24 := by
  obtain ⟨k, rfl, h2⟩ := xsym (fun k => (xTab.getD (k + 4) (0, 0)).2 = 24) h (by decide) (by decide +kernel)
  exact congrArg Int.ofNat h2
theorem rfWay_5 {o : Int} (h : xK o = 3 + 10) : xRf o 5 = o + 5 ∧ o + 5 ≠ 0 := by
  obtain ⟨k, rfl, h2⟩ := xsym (fun k => (xRT.getD k []).getD 5 0 = (k : Int) + 5) h (by decide) (by decide +kernel)
  have h3 := xK_rg h
  refine ⟨?_, by omega⟩
  unfold xRf
  rw [if_neg (by decide)]
  exact h2
theorem kWay_5 {o : Int} (h : xK o = 3 + 10) : xK (o + 5) = 1 := by
  obtain ⟨k, rfl, h2⟩ := xsym (fun k => (xTab.getD (k + 5) (0, 0)).1 = 1) h (by decide) (by decide +kernel)
  exact h2
theorem nWay_5 {o : Int} (h : xK o = 3 + 10) : (xN (o + 5) : Int) = 24 := by
  obtain ⟨k, rfl, h2⟩ := xsym (fun k => (xTab.getD (k + 5) (0, 0)).2 = 24) h (by decide) (by decide +kernel)
  exact congrArg Int.ofNat h2
end
section
/-! THE METHODS AS FUNCTIONS -/
noncomputable def f_Tape_append_77 (l1 : Int) (h : xH) : Option (Int × xH) :=
  xlet (xup h 2 1 (w32 ((h 2 1) + l1))) (fun h1 => some (h1 2 1, h1))
noncomputable def f_Tape_append_s41 (l1 : Int) (l2 : Int64) (l4 : Int) (h : xH) : Option ((Int × xH) ⊕ xH) :=
  if l4 < l1 then (xgd (w32 ((h 2 1) + l4)) 240 (xlet (xup h 3 (w32 ((h 2 1) + l4)) (xand ((Int64.toInt32 (xlushr l2 (w32 (8 * l4)))).toInt) 255)) (fun h1 => xlet (w32 (l4 + 1)) (fun x2 => some (Sum.inl (x2, h1)))))) else (some (Sum.inr h))
noncomputable def f_Tape_append_41 (l1 : Int) (l2 : Int64) (l4 : Int) (h : xH) : Option (Int × xH) :=
  xc1 (xloop (fun s : (Int × xH) => f_Tape_append_s41 l1 l2 s.1 s.2) (l4, h)) (fun b => f_Tape_append_77 l1 b)
noncomputable def f_Tape_append (l1 : Int) (l2 : Int64) (h : xH) : Option (Int × xH) :=
  if l1 < 1 then (some ((-2), h)) else (if 8 < l1 then (some ((-2), h)) else (if h 2 1 < 0 then (some ((-4), h)) else (if 240 < w32 ((h 2 1) + l1) then (some ((-4), h)) else (f_Tape_append_41 l1 l2 0 h))))
noncomputable def f_WM_feed (l1 : Int) (l2 : Int64) (h : xH) : Option (Int × xH) :=
  xc2 (f_Tape_append l1 l2 h) (fun r1 h2 => some (r1, h2))
noncomputable def f_Row_clear (l0 : Int) (h : xH) : Option xH :=
  xlet (xup h l0 1 0) (fun h1 => some h1)
noncomputable def f_Row_append (l0 : Int) (l1 : Int) (h : xH) : Option (Int × xH) :=
  if h l0 1 < 0 then (some (0, h)) else (if h l0 1 < 12 then (xgd (h l0 1) 12 (xlet (xup h (l0 + 1) (h l0 1) l1) (fun h1 => xlet (xup h1 l0 1 (w32 ((h1 l0 1) + 1))) (fun h2 => some (1, h2))))) else (some (0, h)))
noncomputable def f_Tape_read_85  (h : xH) : Option (Int × xH) :=
  some (1, h)
noncomputable def f_Tape_read_s37 (l2 : Int) (l4 : Int) (l5 : Int) (h : xH) : Option ((Int × xH) ⊕ (xH ⊕ (Int × xH))) :=
  if l5 < l2 then (xgd l5 240 (xlet (w32 ((h 3 l5) - 97)) (fun x1 => if x1 < 0 then (some (Sum.inr (Sum.inr (0, h)))) else (if x1 < 26 then (xc2 (f_Row_append l4 x1 h) (fun r2 h3 => if r2 = 0 then (some (Sum.inr (Sum.inr (0, h3)))) else (xlet (w32 (l5 + 1)) (fun x4 => some (Sum.inl (x4, h3)))))) else (some (Sum.inr (Sum.inr (0, h)))))))) else (some (Sum.inr (Sum.inl h)))
noncomputable def f_Tape_read_37 (l2 : Int) (l4 : Int) (l5 : Int) (h : xH) : Option (Int × xH) :=
  xc1 (xloop (fun s : (Int × xH) => f_Tape_read_s37 l2 l4 s.1 s.2) (l5, h)) (fun q => xsw q (fun b => f_Tape_read_85 b) (fun r => some r))
noncomputable def f_Tape_read (l1 : Int) (l2 : Int) (l3 : Int) (l4 : Int) (h : xH) : Option (Int × xH) :=
  xc1 (f_Row_clear l4 h) (fun h1 => if l1 < 0 then (some (0, h1)) else (if 240 < l2 then (some (0, h1)) else (if w32 (l2 - l1) < 1 then (some (0, h1)) else (if l3 < w32 (l2 - l1) then (some (0, h1)) else (f_Tape_read_37 l2 l4 l1 h1)))))
noncomputable def f_Tape_takeRow (l1 : Int) (h : xH) : Option (Int × xH) :=
  xlet (h 2 1) (fun x1 => xlet (xup h 2 1 0) (fun h2 => xc2 (f_Tape_read 0 x1 12 l1 h2) (fun r3 h4 => xgb r3 (some (r3, h4)))))
noncomputable def f_Rows_at (l0 : Int) (l1 : Int) (l2 : Int) (h : xH) : Option Int :=
  if l1 < 0 then (some (-1)) else (if l1 < h l0 2 then (if l1 < (xN (l0 + 2) : Int) then (if l2 < 0 then (some (-1)) else (xgd l1 (xN (l0 + 2) : Int) (if l2 < h (l0 + 2) l1 then (xlet (w32 ((w32 (l1 * 12)) + l2)) (fun x1 => if x1 < 0 then (some (-1)) else (if x1 < (xN (l0 + 1) : Int) then (xgd x1 (xN (l0 + 1) : Int) (some (h (l0 + 1) x1))) else (some (-1))))) else (some (-1))))) else (some (-1))) else (some (-1)))
noncomputable def f_Row_at (l0 : Int) (l1 : Int) (h : xH) : Option Int :=
  if l1 < 0 then (some (-1)) else (if l1 < h l0 1 then (if l1 < 12 then (xgd l1 12 (some (h (l0 + 1) l1))) else (some (-1))) else (some (-1)))
noncomputable def f_Rows_order_36  (h : xH) : Option Int :=
  some 0
noncomputable def f_Rows_order_s2 (l0 : Int) (l1 : Int) (l2 : Int) (l3 : Int) (h : xH) : Option (Int ⊕ (Unit ⊕ Int)) :=
  if l3 < 12 then (xc1 (f_Rows_at l0 l1 l3 h) (fun r1 => xc1 (f_Row_at l2 l3 h) (fun r2 => xlet (w32 (r1 - r2)) (fun x3 => if x3 = 0 then (xlet (w32 (l3 + 1)) (fun x4 => some (Sum.inl x4))) else (some (Sum.inr (Sum.inr x3))))))) else (some (Sum.inr (Sum.inl ())))
noncomputable def f_Rows_order_2 (l0 : Int) (l1 : Int) (l2 : Int) (l3 : Int) (h : xH) : Option Int :=
  xc1 (xloop (fun s : Int => f_Rows_order_s2 l0 l1 l2 s h) l3) (fun q => xsw q (fun b => f_Rows_order_36 h) (fun r => some r))
noncomputable def f_Rows_order (l0 : Int) (l1 : Int) (l2 : Int) (h : xH) : Option Int :=
  f_Rows_order_2 l0 l1 l2 0 h
noncomputable def f_Lex_place_52 (l2 : Int) (h : xH) : Option Int :=
  some l2
noncomputable def f_Lex_place_45 (l1 : Int) (l2 : Int) (l3 : Int) (h : xH) : Option ((Int × Int) ⊕ Int) :=
  xlet (xdiv l3 2) (fun x1 => some (Sum.inl (l2, x1)))
noncomputable def f_Lex_place_s6 (l1 : Int) (l2 : Int) (l3 : Int) (h : xH) : Option ((Int × Int) ⊕ Int) :=
  if 0 < l3 then (xlet (w32 (l2 + l3)) (fun x1 => if h 5 2 < x1 then (f_Lex_place_45 l1 l2 l3 h) else (xc1 (f_Rows_order 5 (w32 (x1 - 1)) l1 h) (fun r2 => if r2 < 0 then (f_Lex_place_45 l1 x1 l3 h) else (f_Lex_place_45 l1 l2 l3 h))))) else (some (Sum.inr l2))
noncomputable def f_Lex_place_6 (l1 : Int) (l2 : Int) (l3 : Int) (h : xH) : Option Int :=
  xc1 (xloop (fun s : (Int × Int) => f_Lex_place_s6 l1 s.1 s.2 h) (l2, l3)) (fun b => f_Lex_place_52 b h)
noncomputable def f_Lex_place (l1 : Int) (h : xH) : Option Int :=
  f_Lex_place_6 l1 0 128 h
noncomputable def f_Lex_numberOf (l1 : Int) (h : xH) : Option Int :=
  xc1 (f_Lex_place l1 h) (fun r1 => if r1 < h 5 2 then (xc1 (f_Rows_order 5 r1 l1 h) (fun r2 => if r2 = 0 then (some r1) else (some (-1)))) else (some (-1)))
noncomputable def f_Rows_isFull (l0 : Int) (h : xH) : Option Int :=
  if h l0 2 < (xN (l0 + 2) : Int) then (some 0) else (some 1)
noncomputable def f_Rows_insert (l0 : Int) (l1 : Int) (l2 : Int) (h : xH) : Option xH :=
  if l1 < 0 then (some h) else (if h l0 2 < l1 then (some h) else (xc1 (f_Rows_isFull l0 h) (fun r1 => if r1 = 0 then (xgc (w32 (l1 * 12)) (w32 ((w32 (l1 + 1)) * 12)) (w32 ((w32 ((h l0 2) - l1)) * 12)) (xN (l0 + 1) : Int) (xN (l0 + 1) : Int) (xlet (xcp h (l0 + 1) (w32 (l1 * 12)) (l0 + 1) (w32 ((w32 (l1 + 1)) * 12)) (w32 ((w32 ((h l0 2) - l1)) * 12))) (fun h2 => xgc l1 (w32 (l1 + 1)) (w32 ((h2 l0 2) - l1)) (xN (l0 + 2) : Int) (xN (l0 + 2) : Int) (xlet (xcp h2 (l0 + 2) l1 (l0 + 2) (w32 (l1 + 1)) (w32 ((h2 l0 2) - l1))) (fun h3 => xgc 0 (w32 (l1 * 12)) 12 12 (xN (l0 + 1) : Int) (xlet (xcp h3 (l2 + 1) 0 (l0 + 1) (w32 (l1 * 12)) 12) (fun h4 => xgd l1 (xN (l0 + 2) : Int) (xlet (xup h4 (l0 + 2) l1 (h4 l2 1)) (fun h5 => xlet (xup h5 l0 2 (w32 ((h5 l0 2) + 1))) (fun h6 => some h6)))))))))) else (some h))))
noncomputable def f_Lex_grow_45 (l1 : Int) (l2 : Int) (h : xH) : Option (Int × xH) :=
  xc1 (f_Lex_place l1 h) (fun r1 => xc1 (f_Rows_isFull 5 h) (fun r2 => if r2 = 0 then (if r1 < 0 then (some ((-4), h)) else (if h 5 2 < r1 then (some ((-4), h)) else (if r1 < 200 then (xgc r1 (w32 (r1 + 1)) (w32 ((h 5 2) - r1)) 200 200 (xlet (xcp h 8 r1 8 (w32 (r1 + 1)) (w32 ((h 5 2) - r1))) (fun h3 => xgd r1 200 (xlet (xup h3 8 r1 l2) (fun h4 => xc1 (f_Rows_insert 5 r1 l1 h4) (fun h5 => some (l2, h5))))))) else (some ((-4), h))))) else (some ((-4), h))))
noncomputable def f_Lex_grow (l1 : Int) (l2 : Int) (h : xH) : Option (Int × xH) :=
  xc1 (f_Lex_numberOf l1 h) (fun r1 => if r1 < 0 then (f_Lex_grow_45 l1 l2 h) else (if r1 < 200 then (xgd r1 200 (xgd r1 200 (xlet (xup h 8 r1 (min (w32 ((h 8 r1) + l2)) 100000)) (fun h2 => xgd r1 200 (some (h2 8 r1, h2)))))) else (f_Lex_grow_45 l1 l2 h)))
noncomputable def f_WM_add (l1 : Int) (h : xH) : Option (Int × xH) :=
  xc2 (f_Tape_takeRow 23 h) (fun r1 h2 => if r1 = 0 then (some ((-2), h2)) else (if l1 < 1 then (some ((-2), h2)) else (if 100000 < l1 then (some ((-2), h2)) else (xc2 (f_Lex_grow 23 l1 h2) (fun r3 h4 => some (r3, h4))))))
noncomputable def f_Rows_remove (l0 : Int) (l1 : Int) (h : xH) : Option xH :=
  if l1 < 0 then (some h) else (if l1 < h l0 2 then (if (xN (l0 + 2) : Int) < h l0 2 then (some h) else (xlet (w32 ((w32 ((h l0 2) - l1)) - 1)) (fun x1 => xgc (w32 ((w32 (l1 + 1)) * 12)) (w32 (l1 * 12)) (w32 (x1 * 12)) (xN (l0 + 1) : Int) (xN (l0 + 1) : Int) (xlet (xcp h (l0 + 1) (w32 ((w32 (l1 + 1)) * 12)) (l0 + 1) (w32 (l1 * 12)) (w32 (x1 * 12))) (fun h2 => xgc (w32 (l1 + 1)) l1 x1 (xN (l0 + 2) : Int) (xN (l0 + 2) : Int) (xlet (xcp h2 (l0 + 2) (w32 (l1 + 1)) (l0 + 2) l1 x1) (fun h3 => xlet (xup h3 l0 2 (w32 ((h3 l0 2) - 1))) (fun h4 => some h4)))))))) else (some h))
noncomputable def f_Lex_remove (l1 : Int) (h : xH) : Option (Int × xH) :=
  xc1 (f_Lex_numberOf l1 h) (fun r1 => if r1 < 0 then (some (0, h)) else (if r1 < 200 then (xgd r1 200 (xlet (h 8 r1) (fun x2 => xgc (w32 (r1 + 1)) r1 (w32 ((w32 ((h 5 2) - r1)) - 1)) 200 200 (xlet (xcp h 8 (w32 (r1 + 1)) 8 r1 (w32 ((w32 ((h 5 2) - r1)) - 1))) (fun h3 => xc1 (f_Rows_remove 5 r1 h3) (fun h4 => some (x2, h4))))))) else (some (0, h))))
noncomputable def f_WM_drop  (h : xH) : Option (Int × xH) :=
  xc2 (f_Tape_takeRow 23 h) (fun r1 h2 => if r1 = 0 then (some ((-2), h2)) else (xc2 (f_Lex_remove 23 h2) (fun r3 h4 => some (r3, h4))))
noncomputable def f_WM_find  (h : xH) : Option (Int × xH) :=
  xc2 (f_Tape_takeRow 23 h) (fun r1 h2 => if r1 = 0 then (some ((-2), h2)) else (xc1 (f_Lex_numberOf 23 h2) (fun r3 => some (r3, h2))))
noncomputable def f_Lex_countOf (l1 : Int) (h : xH) : Option Int :=
  if l1 < 0 then (some 0) else (if l1 < 200 then (xgd l1 200 (some (h 8 l1))) else (some 0))
noncomputable def f_Rows_sizeOf (l0 : Int) (l1 : Int) (h : xH) : Option Int :=
  if l1 < 0 then (some 0) else (if l1 < h l0 2 then (if l1 < (xN (l0 + 2) : Int) then (xgd l1 (xN (l0 + 2) : Int) (some (h (l0 + 2) l1))) else (some 0)) else (some 0))
noncomputable def f_WM_word (l1 : Int) (l2 : Int) (h : xH) : Option Int :=
  if l1 < 0 then (some (-2)) else (if l1 < h 5 2 then (if l2 < 0 then (some (-2)) else (if l2 = 0 then (xc1 (f_Lex_countOf l1 h) (fun r1 => some r1)) else (if l2 = 1 then (xc1 (f_Rows_sizeOf 5 l1 h) (fun r2 => some r2)) else (xc1 (f_Rows_at 5 l1 (w32 (l2 - 2)) h) (fun r3 => some r3))))) else (some (-2)))
noncomputable def f_Rows_shared_41 (l2 : Int) (h : xH) : Option Int :=
  some l2
noncomputable def f_Rows_shared_s9 (l0 : Int) (l1 : Int) (l2 : Int) (h : xH) : Option (Int ⊕ Int) :=
  xc1 (f_Rows_sizeOf l0 l1 h) (fun r1 => if l2 < r1 then (xc1 (f_Rows_at l0 l1 l2 h) (fun r2 => xc1 (f_Rows_at l0 (w32 (l1 - 1)) l2 h) (fun r3 => if r2 = r3 then (xlet (w32 (l2 + 1)) (fun x4 => some (Sum.inl x4))) else (some (Sum.inr l2))))) else (some (Sum.inr l2)))
noncomputable def f_Rows_shared_9 (l0 : Int) (l1 : Int) (l2 : Int) (h : xH) : Option Int :=
  xc1 (xloop (fun s : Int => f_Rows_shared_s9 l0 l1 s h) l2) (fun b => f_Rows_shared_41 b h)
noncomputable def f_Rows_shared (l0 : Int) (l1 : Int) (h : xH) : Option Int :=
  if l1 < 1 then (some (-1)) else (f_Rows_shared_9 l0 l1 0 h)
noncomputable def f_Lex_nodes_41 (l1 : Int) (h : xH) : Option Int :=
  some l1
noncomputable def f_Lex_nodes_s4 (l1 : Int) (l2 : Int) (h : xH) : Option ((Int × Int) ⊕ Int) :=
  if l2 < h 5 2 then (xc1 (f_Rows_sizeOf 5 l2 h) (fun r1 => xc1 (f_Rows_shared 5 l2 h) (fun r2 => xlet (w32 (l1 + (w32 (r1 - r2)))) (fun x3 => xlet (w32 (l2 + 1)) (fun x4 => some (Sum.inl (x3, x4))))))) else (some (Sum.inr l1))
noncomputable def f_Lex_nodes_4 (l1 : Int) (l2 : Int) (h : xH) : Option Int :=
  xc1 (xloop (fun s : (Int × Int) => f_Lex_nodes_s4 s.1 s.2 h) (l1, l2)) (fun b => f_Lex_nodes_41 b h)
noncomputable def f_Lex_nodes  (h : xH) : Option Int :=
  f_Lex_nodes_4 0 0 h
noncomputable def f_WM_count (l1 : Int) (h : xH) : Option Int :=
  if l1 = 0 then (some (h 5 2)) else (if l1 = 1 then (xc1 (f_Lex_nodes h) (fun r1 => some r1)) else (if l1 = 2 then (some (h 14 2)) else (if l1 = 3 then (some (h 40 2)) else (if l1 = 4 then (some (h 2 1)) else (if l1 = 5 then (some (h 49 5)) else (if l1 = 6 then (some (h 49 6)) else (if l1 = 7 then (some (h 62 4)) else (some (-2)))))))))
noncomputable def f_Slips_setKind (l1 : Int) (l2 : Int) (h : xH) : Option (Int × xH) :=
  if l2 = 0 then (some ((-2), h)) else (if l1 < 1 then (some ((-2), h)) else (if l1 = 7 then (some ((-2), h)) else (if l1 < 10 then (xgd l1 10 (xlet (h 10 l1) (fun x1 => xgd l1 10 (xlet (xup h 10 l1 l2) (fun h2 => some (x1, h2)))))) else (some ((-2), h)))))
noncomputable def f_Slips_exchange (l0 : Int) (l1 : Int) (l2 : Int) (h : xH) : Option (Int × xH) :=
  if l1 < 0 then (some ((-2), h)) else (if l1 < (xN l0 : Int) then (xgd l1 (xN l0 : Int) (xlet (h l0 l1) (fun x1 => xgd l1 (xN l0 : Int) (xlet (xup h l0 l1 l2) (fun h2 => some (x1, h2)))))) else (some ((-2), h)))
noncomputable def f_Slips_setByLetters_55  (h : xH) : Option (Int × xH) :=
  some ((-2), h)
noncomputable def f_Slips_setByLetters (l1 : Int) (l2 : Int) (l3 : Int) (l4 : Int) (h : xH) : Option (Int × xH) :=
  if l2 < 0 then (some ((-2), h)) else (if l2 < 26 then (if l1 = 1 then (if l3 < 0 then (f_Slips_setByLetters_55 h) else (if l3 < 26 then (if l2 = l3 then (f_Slips_setByLetters_55 h) else (xc2 (f_Slips_exchange 11 (w32 ((w32 (l2 * 26)) + l3)) l4 h) (fun r1 h2 => some (r1, h2)))) else (f_Slips_setByLetters_55 h))) else (if l1 = 2 then (xc2 (f_Slips_exchange 12 l2 l4 h) (fun r3 h4 => some (r3, h4))) else (if l1 = 3 then (xc2 (f_Slips_exchange 13 l2 l4 h) (fun r5 h6 => some (r5, h6))) else (some ((-2), h))))) else (some ((-2), h)))
noncomputable def f_WM_price_37 (l1 : Int) (l2 : Int) (l3 : Int) (l4 : Int) (h : xH) : Option (Int × xH) :=
  xc2 (f_Slips_setByLetters l1 l2 l3 l4 h) (fun r1 h2 => some (r1, h2))
noncomputable def f_WM_price (l1 : Int) (l2 : Int) (l3 : Int) (l4 : Int) (h : xH) : Option (Int × xH) :=
  if l4 < 0 then (some ((-2), h)) else (if 9999 < l4 then (some ((-2), h)) else (if l2 = (-1) then (if l3 = (-1) then (xc2 (f_Slips_setKind l1 l4 h) (fun r1 h2 => some (r1, h2))) else (f_WM_price_37 l1 l2 l3 l4 h)) else (f_WM_price_37 l1 l2 l3 l4 h)))
noncomputable def f_Tape_seek_44 (l3 : Int) (h : xH) : Option Int :=
  some l3
noncomputable def f_Tape_seek_38 (l1 : Int) (l3 : Int) (l4 : Int) (h : xH) : Option (Int ⊕ (Unit ⊕ Int)) :=
  xlet (w32 (l4 + 1)) (fun x1 => some (Sum.inl x1))
noncomputable def f_Tape_seek_s3 (l1 : Int) (l3 : Int) (l4 : Int) (h : xH) : Option (Int ⊕ (Unit ⊕ Int)) :=
  if l4 < l3 then (if l4 < 0 then (f_Tape_seek_38 l1 l3 l4 h) else (if l4 < 240 then (xgd l4 240 (if h 3 l4 = l1 then (some (Sum.inr (Sum.inr l4))) else (f_Tape_seek_38 l1 l3 l4 h))) else (f_Tape_seek_38 l1 l3 l4 h))) else (some (Sum.inr (Sum.inl ())))
noncomputable def f_Tape_seek_3 (l1 : Int) (l3 : Int) (l4 : Int) (h : xH) : Option Int :=
  xc1 (xloop (fun s : Int => f_Tape_seek_s3 l1 l3 s h) l4) (fun q => xsw q (fun b => f_Tape_seek_44 l3 h) (fun r => some r))
noncomputable def f_Tape_seek (l1 : Int) (l2 : Int) (l3 : Int) (h : xH) : Option Int :=
  f_Tape_seek_3 l1 l3 l2 h
noncomputable def f_Tape_takeTwo (l1 : Int) (l2 : Int) (l3 : Int) (h : xH) : Option (Int × xH) :=
  xlet (h 2 1) (fun x1 => xlet (xup h 2 1 0) (fun h2 => xc1 (f_Tape_seek 61 0 x1 h2) (fun r3 => xc2 (f_Tape_read 0 r3 l1 l2 h2) (fun r4 h5 => if r4 = 0 then (some (0, h5)) else (xc2 (f_Tape_read (w32 (r3 + 1)) x1 l1 l3 h5) (fun r6 h7 => if r6 = 0 then (some (0, h7)) else (some (1, h7))))))))
noncomputable def f_Rows_append (l0 : Int) (l1 : Int) (h : xH) : Option xH :=
  xc1 (f_Rows_insert l0 (h l0 2) l1 h) (fun h1 => some h1)
noncomputable def f_Slips_addSound (l1 : Int) (l2 : Int) (l3 : Int) (h : xH) : Option (Int × xH) :=
  xlet (h 14 2) (fun x1 => xc1 (f_Rows_isFull 14 h) (fun r2 => if r2 = 0 then (xc1 (f_Rows_isFull 17 h) (fun r3 => if r3 = 0 then (if x1 < 0 then (some ((-4), h)) else (if x1 < 20 then (xc1 (f_Rows_append 14 l1 h) (fun h4 => xc1 (f_Rows_append 17 l2 h4) (fun h5 => xgd x1 20 (xlet (xup h5 20 x1 l3) (fun h6 => some (x1, h6)))))) else (some ((-4), h)))) else (some ((-4), h)))) else (some ((-4), h))))
noncomputable def f_WM_sound (l1 : Int) (h : xH) : Option (Int × xH) :=
  xc2 (f_Tape_takeTwo 3 21 23 h) (fun r1 h2 => if r1 = 0 then (some ((-2), h2)) else (if l1 < 1 then (some ((-2), h2)) else (if 9999 < l1 then (some ((-2), h2)) else (xc2 (f_Slips_addSound 21 23 l1 h2) (fun r3 h4 => some (r3, h4))))))
noncomputable def f_WM_model (l1 : Int) (h : xH) : Option (Int × xH) :=
  if l1 < 0 then (some ((-2), h)) else (if 100000 < l1 then (some ((-2), h)) else (xlet (h 4 2) (fun x1 => xlet (xup h 4 2 l1) (fun h2 => some (x1, h2)))))
noncomputable def f_Slips_codes  (h : xH) : Option Int :=
  some (w32 (7 + (h 14 2)))
noncomputable def f_Slips_byLetters_17 (l2 : Int) (s0 : Int) (h : xH) : Option Int :=
  if 0 < s0 then (some s0) else (some l2)
noncomputable def f_Slips_byLetters_16 (l2 : Int) (h : xH) : Option Int :=
  f_Slips_byLetters_17 l2 0 h
noncomputable def f_Slips_byLetters (l0 : Int) (l1 : Int) (l2 : Int) (h : xH) : Option Int :=
  if l1 < 0 then (f_Slips_byLetters_16 l2 h) else (if l1 < (xN l0 : Int) then (xgd l1 (xN l0 : Int) (f_Slips_byLetters_17 l2 (h l0 l1) h)) else (f_Slips_byLetters_16 l2 h))
noncomputable def f_Rows_standsIn_123  (h : xH) : Option Int :=
  some 1
noncomputable def f_Rows_standsIn_s45 (l0 : Int) (l1 : Int) (l2 : Int) (l3 : Int) (l4 : Int) (h : xH) : Option (Int ⊕ (Unit ⊕ Int)) :=
  xgd l1 (xN (l0 + 2) : Int) (if l4 < h (l0 + 2) l1 then (if l4 < 12 then (xlet (w32 ((w32 (l1 * 12)) + l4)) (fun x1 => xlet (w32 (l3 + l4)) (fun x2 => if x1 < (xN (l0 + 1) : Int) then (if x2 < 12 then (xgd x1 (xN (l0 + 1) : Int) (xgd x2 12 (if h (l0 + 1) x1 = h (l2 + 1) x2 then (xlet (w32 (l4 + 1)) (fun x3 => some (Sum.inl x3))) else (some (Sum.inr (Sum.inr 0)))))) else (some (Sum.inr (Sum.inr 0)))) else (some (Sum.inr (Sum.inr 0)))))) else (some (Sum.inr (Sum.inl ())))) else (some (Sum.inr (Sum.inl ()))))
noncomputable def f_Rows_standsIn_45 (l0 : Int) (l1 : Int) (l2 : Int) (l3 : Int) (l4 : Int) (h : xH) : Option Int :=
  xc1 (xloop (fun s : Int => f_Rows_standsIn_s45 l0 l1 l2 l3 s h) l4) (fun q => xsw q (fun b => f_Rows_standsIn_123 h) (fun r => some r))
noncomputable def f_Rows_standsIn (l0 : Int) (l1 : Int) (l2 : Int) (l3 : Int) (h : xH) : Option Int :=
  if l1 < 0 then (some 0) else (if l1 < h l0 2 then (if l1 < (xN (l0 + 2) : Int) then (if l3 < 0 then (some 0) else (xgd l1 (xN (l0 + 2) : Int) (if h l2 1 < w32 (l3 + (h (l0 + 2) l1)) then (some 0) else (f_Rows_standsIn_45 l0 l1 l2 l3 0 h)))) else (some 0)) else (some 0))
noncomputable def f_Slips_soundPrice (l1 : Int) (h : xH) : Option Int :=
  if l1 < 0 then (some (-1)) else (if l1 < 20 then (xgd l1 20 (some (h 20 l1))) else (some (-1)))
noncomputable def f_Slips_priceAt_108  (h : xH) : Option Int :=
  some (-1)
noncomputable def f_Slips_priceAt_34 (l1 : Int) (l2 : Int) (l3 : Int) (l4 : Int) (l5 : Int) (l6 : Int) (l7 : Int) (s0 : Int) (h : xH) : Option Int :=
  if l1 = 0 then (if s0 = 0 then (some (-1)) else (some 0)) else (if l1 = 1 then (if l6 = (-1) then (f_Slips_priceAt_108 h) else (if l7 = (-1) then (f_Slips_priceAt_108 h) else (if s0 = 0 then (xgd 1 10 (xc1 (f_Slips_byLetters 11 (w32 ((w32 (l6 * 26)) + l7)) (h 10 1) h) (fun r1 => some r1))) else (f_Slips_priceAt_108 h)))) else (if l1 = 2 then (if l6 = (-1) then (some (-1)) else (xgd 2 10 (xc1 (f_Slips_byLetters 12 l6 (h 10 2) h) (fun r2 => some r2)))) else (if l1 = 3 then (if l7 = (-1) then (some (-1)) else (xgd 3 10 (xc1 (f_Slips_byLetters 13 l7 (h 10 3) h) (fun r3 => some r3)))) else (if l1 = 4 then (if l6 = (-1) then (some (-1)) else (if l7 = (-1) then (some (-1)) else (if s0 = 0 then (xc1 (f_Row_at l2 (w32 (l3 + 1)) h) (fun r4 => if r4 = l7 then (xc1 (f_Row_at l4 (w32 (l5 + 1)) h) (fun r5 => if r5 = l6 then (xgd 4 10 (some (h 10 4))) else (some (-1)))) else (some (-1)))) else (some (-1))))) else (if l1 = 5 then (if s0 = 0 then (some (-1)) else (xc1 (f_Row_at l4 (w32 (l5 + 1)) h) (fun r6 => if r6 = l6 then (xgd 5 10 (some (h 10 5))) else (some (-1))))) else (if l1 = 6 then (if s0 = 0 then (some (-1)) else (xc1 (f_Row_at l2 (w32 (l3 + 1)) h) (fun r7 => if r7 = l6 then (xgd 6 10 (some (h 10 6))) else (some (-1))))) else (xc1 (f_Rows_standsIn 14 (w32 (l1 - 7)) l2 l3 h) (fun r8 => if r8 = 0 then (some (-1)) else (xc1 (f_Rows_standsIn 17 (w32 (l1 - 7)) l4 l5 h) (fun r9 => if r9 = 0 then (some (-1)) else (xc1 (f_Slips_soundPrice (w32 (l1 - 7)) h) (fun r10 => some r10))))))))))))
noncomputable def f_Slips_priceAt_33 (l1 : Int) (l2 : Int) (l3 : Int) (l4 : Int) (l5 : Int) (l6 : Int) (l7 : Int) (h : xH) : Option Int :=
  f_Slips_priceAt_34 l1 l2 l3 l4 l5 l6 l7 0 h
noncomputable def f_Slips_priceAt (l1 : Int) (l2 : Int) (l3 : Int) (l4 : Int) (l5 : Int) (h : xH) : Option Int :=
  xc1 (f_Row_at l2 l3 h) (fun r1 => xc1 (f_Row_at l4 l5 h) (fun r2 => if r1 = (-1) then (f_Slips_priceAt_33 l1 l2 l3 l4 l5 r1 r2 h) else (if r1 = r2 then (f_Slips_priceAt_34 l1 l2 l3 l4 l5 r1 r2 1 h) else (f_Slips_priceAt_33 l1 l2 l3 l4 l5 r1 r2 h))))
noncomputable def f_Slips_meantTaken_20 (l1 : Int) (h : xH) : Option Int :=
  xc1 (f_Rows_sizeOf 14 (w32 (l1 - 7)) h) (fun r1 => some r1)
noncomputable def f_Slips_meantTaken (l1 : Int) (h : xH) : Option Int :=
  if l1 < 0 then (f_Slips_meantTaken_20 l1 h) else (if l1 < 7 then (xgd l1 7 (some (xTb (-1) l1))) else (f_Slips_meantTaken_20 l1 h))
noncomputable def f_Slips_typedTaken_20 (l1 : Int) (h : xH) : Option Int :=
  xc1 (f_Rows_sizeOf 17 (w32 (l1 - 7)) h) (fun r1 => some r1)
noncomputable def f_Slips_typedTaken (l1 : Int) (h : xH) : Option Int :=
  if l1 < 0 then (f_Slips_typedTaken_20 l1 h) else (if l1 < 7 then (xgd l1 7 (some (xTb (-2) l1))) else (f_Slips_typedTaken_20 l1 h))
noncomputable def f_Way_sumBy_64  (h : xH) : Option Int :=
  some 1000000
noncomputable def f_Way_sumBy (l0 : Int) (l1 : Int) (l2 : Int) (l3 : Int) (l4 : Int) (l5 : Int) (h : xH) : Option Int :=
  xc1 (f_Slips_priceAt l1 l2 l3 l4 l5 h) (fun r1 => xc1 (f_Slips_meantTaken l1 h) (fun r2 => xc1 (f_Slips_typedTaken l1 h) (fun r3 => xlet (w32 ((w32 ((w32 ((w32 (l3 + r2)) * 13)) + l5)) + r3)) (fun x4 => if r1 = (-1) then (f_Way_sumBy_64 h) else (if x4 < 0 then (f_Way_sumBy_64 h) else (if x4 < 169 then (xgd x4 169 (some (w32 (r1 + (h (l0 + 1) x4))))) else (f_Way_sumBy_64 h)))))))
noncomputable def f_Way_leastFrom_62 (l5 : Int) (h : xH) : Option Int :=
  some l5
noncomputable def f_Way_leastFrom_s26 (l0 : Int) (l1 : Int) (l2 : Int) (l3 : Int) (l4 : Int) (l5 : Int) (l6 : Int) (h : xH) : Option ((Int × Int) ⊕ Int) :=
  xc1 (f_Slips_codes h) (fun r1 => if l6 < r1 then (xc1 (f_Way_sumBy l0 l6 l1 l2 l3 l4 h) (fun r2 => xlet (min l5 r2) (fun x3 => xlet (w32 (l6 + 1)) (fun x4 => some (Sum.inl (x3, x4)))))) else (some (Sum.inr l5)))
noncomputable def f_Way_leastFrom_26 (l0 : Int) (l1 : Int) (l2 : Int) (l3 : Int) (l4 : Int) (l5 : Int) (l6 : Int) (h : xH) : Option Int :=
  xc1 (xloop (fun s : (Int × Int) => f_Way_leastFrom_s26 l0 l1 l2 l3 l4 s.1 s.2 h) (l5, l6)) (fun b => f_Way_leastFrom_62 b h)
noncomputable def f_Way_leastFrom_19 (l0 : Int) (l1 : Int) (l2 : Int) (l3 : Int) (l4 : Int) (h : xH) : Option Int :=
  f_Way_leastFrom_26 l0 l1 l2 l3 l4 1000000 0 h
noncomputable def f_Way_leastFrom (l0 : Int) (l1 : Int) (l2 : Int) (l3 : Int) (l4 : Int) (h : xH) : Option Int :=
  if l2 = h l1 1 then (if l4 = h l3 1 then (some 0) else (f_Way_leastFrom_19 l0 l1 l2 l3 l4 h)) else (f_Way_leastFrom_19 l0 l1 l2 l3 l4 h)
noncomputable def f_Way_measure_67 (l0 : Int) (h : xH) : Option (Int × xH) :=
  xgd 0 169 (some (h (l0 + 1) 0, h))
noncomputable def f_Way_measure_61 (l0 : Int) (l1 : Int) (l2 : Int) (l3 : Int) (h : xH) : Option ((Int × xH) ⊕ xH) :=
  xlet (w32 (l3 + (-1))) (fun x1 => some (Sum.inl (x1, h)))
noncomputable def f_Way_measure_55 (l0 : Int) (l1 : Int) (l2 : Int) (l3 : Int) (l4 : Int) (h : xH) : Option ((Int × xH) ⊕ xH) :=
  xlet (w32 (l4 + (-1))) (fun x1 => some (Sum.inl (x1, h)))
noncomputable def f_Way_measure_s15 (l0 : Int) (l1 : Int) (l2 : Int) (l3 : Int) (l4 : Int) (h : xH) : Option ((Int × xH) ⊕ xH) :=
  if l4 < 0 then (some (Sum.inr h)) else (xlet (w32 ((w32 (l3 * 13)) + l4)) (fun x1 => if x1 < 169 then (xc1 (f_Way_leastFrom l0 l1 l3 l2 l4 h) (fun r2 => xgd x1 169 (xlet (xup h (l0 + 1) x1 r2) (fun h3 => f_Way_measure_55 l0 l1 l2 l3 l4 h3)))) else (f_Way_measure_55 l0 l1 l2 l3 l4 h)))
noncomputable def f_Way_measure_15 (l0 : Int) (l1 : Int) (l2 : Int) (l3 : Int) (l4 : Int) (h : xH) : Option ((Int × xH) ⊕ xH) :=
  xc1 (xloop (fun s : (Int × xH) => f_Way_measure_s15 l0 l1 l2 l3 s.1 s.2) (l4, h)) (fun b => f_Way_measure_61 l0 l1 l2 l3 b)
noncomputable def f_Way_measure_s5 (l0 : Int) (l1 : Int) (l2 : Int) (l3 : Int) (h : xH) : Option ((Int × xH) ⊕ xH) :=
  if l3 < 0 then (some (Sum.inr h)) else (xlet (h l2 1) (fun x1 => f_Way_measure_15 l0 l1 l2 l3 x1 h))
noncomputable def f_Way_measure_5 (l0 : Int) (l1 : Int) (l2 : Int) (l3 : Int) (h : xH) : Option (Int × xH) :=
  xc1 (xloop (fun s : (Int × xH) => f_Way_measure_s5 l0 l1 l2 s.1 s.2) (l3, h)) (fun b => f_Way_measure_67 l0 b)
noncomputable def f_Way_measure (l0 : Int) (l1 : Int) (l2 : Int) (h : xH) : Option (Int × xH) :=
  xlet (h l1 1) (fun x1 => f_Way_measure_5 l0 l1 l2 x1 h)
noncomputable def f_Way_firstCode_53 (l5 : Int) (h : xH) : Option Int :=
  some l5
noncomputable def f_Way_firstCode_47 (l0 : Int) (l1 : Int) (l2 : Int) (l3 : Int) (l4 : Int) (l5 : Int) (l6 : Int) (h : xH) : Option ((Int × Int) ⊕ Int) :=
  xlet (w32 (l6 + 1)) (fun x1 => some (Sum.inl (l5, x1)))
noncomputable def f_Way_firstCode_s6 (l0 : Int) (l1 : Int) (l2 : Int) (l3 : Int) (l4 : Int) (l5 : Int) (l6 : Int) (h : xH) : Option ((Int × Int) ⊕ Int) :=
  xc1 (f_Slips_codes h) (fun r1 => if l6 < r1 then (xc1 (f_Way_sumBy l0 l6 l1 l2 l3 l4 h) (fun r2 => xc1 (f_Way_sumBy l0 l5 l1 l2 l3 l4 h) (fun r3 => if r2 < r3 then (f_Way_firstCode_47 l0 l1 l2 l3 l4 l6 l6 h) else (f_Way_firstCode_47 l0 l1 l2 l3 l4 l5 l6 h)))) else (some (Sum.inr l5)))
noncomputable def f_Way_firstCode_6 (l0 : Int) (l1 : Int) (l2 : Int) (l3 : Int) (l4 : Int) (l5 : Int) (l6 : Int) (h : xH) : Option Int :=
  xc1 (xloop (fun s : (Int × Int) => f_Way_firstCode_s6 l0 l1 l2 l3 l4 s.1 s.2 h) (l5, l6)) (fun b => f_Way_firstCode_53 b h)
noncomputable def f_Way_firstCode (l0 : Int) (l1 : Int) (l2 : Int) (l3 : Int) (l4 : Int) (h : xH) : Option Int :=
  f_Way_firstCode_6 l0 l1 l2 l3 l4 0 1 h
noncomputable def f_Way_trace_141  (h : xH) : Option xH :=
  some h
noncomputable def f_Way_trace_36 (l0 : Int) (l1 : Int) (l2 : Int) (l3 : Int) (l4 : Int) (h : xH) : Option ((Int × Int × xH) ⊕ xH) :=
  xc1 (f_Way_firstCode l0 l1 l3 l2 l4 h) (fun r1 => xgd (h l0 6) 24 (xlet (xup h (l0 + 2) (h l0 6) r1) (fun h2 => xc1 (f_Slips_priceAt r1 l1 l3 l2 l4 h2) (fun r3 => xgd (h2 l0 6) 24 (xlet (xup h2 (l0 + 3) (h2 l0 6) r3) (fun h4 => xgd (h4 l0 6) 24 (xlet (xup h4 (l0 + 4) (h4 l0 6) l3) (fun h5 => xgd (h5 l0 6) 24 (xlet (xup h5 (l0 + 5) (h5 l0 6) l4) (fun h6 => xlet (xup h6 l0 6 (w32 ((h6 l0 6) + 1))) (fun h7 => xc1 (f_Slips_meantTaken r1 h7) (fun r8 => xlet (w32 (l3 + r8)) (fun x9 => xc1 (f_Slips_typedTaken r1 h7) (fun r10 => xlet (w32 (l4 + r10)) (fun x11 => some (Sum.inl (x9, x11, h7)))))))))))))))))
noncomputable def f_Way_trace_s10 (l0 : Int) (l1 : Int) (l2 : Int) (l3 : Int) (l4 : Int) (h : xH) : Option ((Int × Int × xH) ⊕ xH) :=
  if h l0 6 < 24 then (if l3 < h l1 1 then (f_Way_trace_36 l0 l1 l2 l3 l4 h) else (if l4 < h l2 1 then (f_Way_trace_36 l0 l1 l2 l3 l4 h) else (some (Sum.inr h)))) else (some (Sum.inr h))
noncomputable def f_Way_trace_10 (l0 : Int) (l1 : Int) (l2 : Int) (l3 : Int) (l4 : Int) (h : xH) : Option xH :=
  xc1 (xloop (fun s : (Int × Int × xH) => f_Way_trace_s10 l0 l1 l2 s.1 s.2.1 s.2.2) (l3, l4, h)) (fun b => f_Way_trace_141 b)
noncomputable def f_Way_trace (l0 : Int) (l1 : Int) (l2 : Int) (h : xH) : Option xH :=
  xlet (xup h l0 6 0) (fun h1 => f_Way_trace_10 l0 l1 l2 0 0 h1)
noncomputable def f_WM_distance  (h : xH) : Option (Int × xH) :=
  xc2 (f_Tape_takeTwo 12 21 23 h) (fun r1 h2 => if r1 = 0 then (some ((-2), h2)) else (xc2 (f_Way_measure 28 21 23 h2) (fun r3 h4 => xc1 (f_Way_trace 28 21 23 h4) (fun h5 => some (r3, h5)))))
noncomputable def f_Way_codeAt (l0 : Int) (l1 : Int) (h : xH) : Option Int :=
  if l1 < 0 then (some (-1)) else (if l1 < h l0 6 then (if l1 < 24 then (xgd l1 24 (some (h (l0 + 2) l1))) else (some (-1))) else (some (-1)))
noncomputable def f_Way_tell (l0 : Int) (l1 : Int) (l2 : Int) (h : xH) : Option Int :=
  xc1 (f_Way_codeAt l0 l1 h) (fun r1 => if r1 = (-1) then (some (-1)) else (if l2 = 0 then (some (min r1 7)) else (if l2 = 1 then (xgd l1 24 (some (h (l0 + 3) l1))) else (if l2 = 2 then (xgd l1 24 (some (h (l0 + 4) l1))) else (if l2 = 3 then (xgd l1 24 (some (h (l0 + 5) l1))) else (if r1 < 7 then (some (-1)) else (some (w32 (r1 - 7)))))))))
noncomputable def f_WM_way (l1 : Int) (l2 : Int) (h : xH) : Option Int :=
  if l2 < 0 then (some (-2)) else (if 4 < l2 then (some (-2)) else (if l1 = (-1) then (some (h 28 6)) else (xc1 (f_Way_tell 28 l1 l2 h) (fun r1 => some r1))))
noncomputable def f_WM_isNoBound_11  (h : xH) : Option Int :=
  some 1
noncomputable def f_WM_isNoBound (l0 : Int) (h : xH) : Option Int :=
  if l0 < 0 then (f_WM_isNoBound_11 h) else (if 99999 < l0 then (f_WM_isNoBound_11 h) else (some 0))
noncomputable def f_Met_clear (l1 : Int) (h : xH) : Option xH :=
  xlet (xup h 49 5 0) (fun h1 => xlet (xup h1 49 6 0) (fun h2 => xlet (xup h2 49 7 (max 0 (min l1 13))) (fun h3 => some h3)))
noncomputable def f_Rows_copyTo_32  (h : xH) : Option xH :=
  some h
noncomputable def f_Rows_copyTo_s6 (l0 : Int) (l1 : Int) (l2 : Int) (l3 : Int) (h : xH) : Option ((Int × xH) ⊕ xH) :=
  xc1 (f_Rows_sizeOf l0 l1 h) (fun r1 => if l3 < r1 then (xc1 (f_Rows_at l0 l1 l3 h) (fun r2 => xc2 (f_Row_append l2 r2 h) (fun r3 h4 => xlet (w32 (l3 + 1)) (fun x5 => some (Sum.inl (x5, h4)))))) else (some (Sum.inr h)))
noncomputable def f_Rows_copyTo_6 (l0 : Int) (l1 : Int) (l2 : Int) (l3 : Int) (h : xH) : Option xH :=
  xc1 (xloop (fun s : (Int × xH) => f_Rows_copyTo_s6 l0 l1 l2 s.1 s.2) (l3, h)) (fun b => f_Rows_copyTo_32 b)
noncomputable def f_Rows_copyTo (l0 : Int) (l1 : Int) (l2 : Int) (h : xH) : Option xH :=
  xc1 (f_Row_clear l2 h) (fun h1 => f_Rows_copyTo_6 l0 l1 l2 0 h1)
noncomputable def f_Slips_mayStand_22  (h : xH) : Option Int :=
  some 1
noncomputable def f_Slips_mayStand (l1 : Int) (l2 : Int) (l3 : Int) (h : xH) : Option Int :=
  if l1 < 7 then (f_Slips_mayStand_22 h) else (xc1 (f_Rows_standsIn 14 (w32 (l1 - 7)) l2 l3 h) (fun r1 => if r1 = 0 then (some 0) else (f_Slips_mayStand_22 h)))
noncomputable def f_Walk_reach_180  (h : xH) : Option xH :=
  some h
noncomputable def f_Walk_reach_174 (l1 : Int) (l2 : Int) (l3 : Int) (l4 : Int) (l5 : Int) (l6 : Int) (h : xH) : Option ((Int × xH) ⊕ xH) :=
  xlet (w32 (l6 + 1)) (fun x1 => some (Sum.inl (x1, h)))
noncomputable def f_Walk_reach_s48 (l1 : Int) (l2 : Int) (l3 : Int) (l4 : Int) (l5 : Int) (l6 : Int) (h : xH) : Option ((Int × xH) ⊕ xH) :=
  if h l3 1 < w32 (l6 + l5) then (some (Sum.inr h)) else (xlet (w32 ((w32 (l4 * 13)) + l6)) (fun x1 => xlet (w32 ((w32 ((w32 (l2 * 13)) + l6)) + l5)) (fun x2 => xc1 (f_Slips_priceAt l1 55 l4 l3 l6 h) (fun r3 => if r3 = (-1) then (f_Walk_reach_174 l1 l2 l3 l4 l5 l6 h) else (if x1 < 0 then (f_Walk_reach_174 l1 l2 l3 l4 l5 l6 h) else (if x1 < 169 then (if x2 < 0 then (f_Walk_reach_174 l1 l2 l3 l4 l5 l6 h) else (if x2 < 169 then (xgd x1 169 (xgd x2 169 (if w32 ((h 57 x1) + r3) < h 57 x2 then (xgd x1 169 (xgd x2 169 (xlet (xup h 57 x2 (w32 ((h 57 x1) + r3))) (fun h4 => f_Walk_reach_174 l1 l2 l3 l4 l5 l6 h4)))) else (f_Walk_reach_174 l1 l2 l3 l4 l5 l6 h)))) else (f_Walk_reach_174 l1 l2 l3 l4 l5 l6 h))) else (f_Walk_reach_174 l1 l2 l3 l4 l5 l6 h)))))))
noncomputable def f_Walk_reach_48 (l1 : Int) (l2 : Int) (l3 : Int) (l4 : Int) (l5 : Int) (l6 : Int) (h : xH) : Option xH :=
  xc1 (xloop (fun s : (Int × xH) => f_Walk_reach_s48 l1 l2 l3 l4 l5 s.1 s.2) (l6, h)) (fun b => f_Walk_reach_180 b)
noncomputable def f_Walk_reach (l1 : Int) (l2 : Int) (l3 : Int) (h : xH) : Option xH :=
  xc1 (f_Slips_meantTaken l1 h) (fun r1 => xlet (w32 (l2 - r1)) (fun x2 => if x2 < 0 then (some h) else (xc1 (f_Slips_mayStand l1 55 x2 h) (fun r3 => if r3 = 0 then (some h) else (xc1 (f_Slips_typedTaken l1 h) (fun r4 => f_Walk_reach_48 l1 l2 l3 x2 r4 0 h))))))
noncomputable def f_Walk_fill_88 (l1 : Int) (l2 : Int) (h : xH) : Option xH :=
  xc1 (f_Walk_reach 3 l1 l2 h) (fun h1 => some h1)
noncomputable def f_Walk_fill_82 (l1 : Int) (l2 : Int) (l3 : Int) (h : xH) : Option ((Int × xH) ⊕ xH) :=
  xlet (w32 (l3 + 1)) (fun x1 => some (Sum.inl (x1, h)))
noncomputable def f_Walk_fill_s59 (l1 : Int) (l2 : Int) (l3 : Int) (h : xH) : Option ((Int × xH) ⊕ xH) :=
  xc1 (f_Slips_codes h) (fun r1 => if l3 < r1 then (if l3 = 3 then (f_Walk_fill_82 l1 l2 l3 h) else (xc1 (f_Walk_reach l3 l1 l2 h) (fun h2 => f_Walk_fill_82 l1 l2 l3 h2))) else (some (Sum.inr h)))
noncomputable def f_Walk_fill_59 (l1 : Int) (l2 : Int) (l3 : Int) (h : xH) : Option xH :=
  xc1 (xloop (fun s : (Int × xH) => f_Walk_fill_s59 l1 l2 s.1 s.2) (l3, h)) (fun b => f_Walk_fill_88 l1 l2 b)
noncomputable def f_Walk_fill_57 (l1 : Int) (l2 : Int) (h : xH) : Option xH :=
  f_Walk_fill_59 l1 l2 0 h
noncomputable def f_Walk_fill_51 (l1 : Int) (l2 : Int) (l3 : Int) (h : xH) : Option ((Int × xH) ⊕ xH) :=
  xlet (w32 (l3 + 1)) (fun x1 => some (Sum.inl (x1, h)))
noncomputable def f_Walk_fill_50 (l1 : Int) (l2 : Int) (l3 : Int) (s1 : Int) (s2 : Int) (h : xH) : Option ((Int × xH) ⊕ xH) :=
  xgd s1 169 (xlet (xup h 57 s1 s2) (fun h1 => f_Walk_fill_51 l1 l2 l3 h1))
noncomputable def f_Walk_fill_s2 (l1 : Int) (l2 : Int) (l3 : Int) (h : xH) : Option ((Int × xH) ⊕ xH) :=
  if h l2 1 < l3 then (some (Sum.inr h)) else (xlet (w32 ((w32 (l1 * 13)) + l3)) (fun x1 => if x1 < 0 then (f_Walk_fill_51 l1 l2 l3 h) else (if x1 < 169 then (if x1 = 0 then (f_Walk_fill_50 l1 l2 l3 x1 0 h) else (f_Walk_fill_50 l1 l2 l3 x1 1000000 h)) else (f_Walk_fill_51 l1 l2 l3 h))))
noncomputable def f_Walk_fill_2 (l1 : Int) (l2 : Int) (l3 : Int) (h : xH) : Option xH :=
  xc1 (xloop (fun s : (Int × xH) => f_Walk_fill_s2 l1 l2 s.1 s.2) (l3, h)) (fun b => f_Walk_fill_57 l1 l2 b)
noncomputable def f_Walk_fill (l1 : Int) (l2 : Int) (h : xH) : Option xH :=
  f_Walk_fill_2 l1 l2 0 h
noncomputable def f_Walk_sumUp_126 (s1 : Int) (s2 : Int) (h : xH) : Option xH :=
  xgd s1 13 (xlet (xup h 59 s1 s2) (fun h1 => some h1))
noncomputable def f_Walk_sumUp_70 (l1 : Int) (l3 : Int) (l4 : Int) (h : xH) : Option xH :=
  if l1 < 0 then (some h) else (if l1 < 13 then (if l1 < 13 then (xgd l1 13 (xlet (xup h 58 l1 l3) (fun h1 => if 0 < l1 then (xgd (w32 (l1 - 1)) 13 (f_Walk_sumUp_126 l1 (min l4 (h1 59 (w32 (l1 - 1)))) h1)) else (f_Walk_sumUp_126 l1 l4 h1)))) else (some h)) else (some h))
noncomputable def f_Walk_sumUp_55 (l1 : Int) (l2 : Int) (l3 : Int) (l5 : Int) (s0 : Int) (h : xH) : Option ((Int × Int × Int) ⊕ (Int × Int)) :=
  xlet (min l3 s0) (fun x1 => xlet (w32 (l5 + 1)) (fun x2 => some (Sum.inl (x1, s0, x2))))
noncomputable def f_Walk_sumUp_53 (l1 : Int) (l2 : Int) (l3 : Int) (l5 : Int) (h : xH) : Option ((Int × Int × Int) ⊕ (Int × Int)) :=
  f_Walk_sumUp_55 l1 l2 l3 l5 1000000 h
noncomputable def f_Walk_sumUp_s10 (l1 : Int) (l2 : Int) (l3 : Int) (l4 : Int) (l5 : Int) (h : xH) : Option ((Int × Int × Int) ⊕ (Int × Int)) :=
  if h l2 1 < l5 then (some (Sum.inr (l3, l4))) else (xlet (w32 ((w32 (l1 * 13)) + l5)) (fun x1 => if x1 < 0 then (f_Walk_sumUp_53 l1 l2 l3 l5 h) else (if x1 < 169 then (xgd x1 169 (f_Walk_sumUp_55 l1 l2 l3 l5 (h 57 x1) h)) else (f_Walk_sumUp_53 l1 l2 l3 l5 h))))
noncomputable def f_Walk_sumUp_10 (l1 : Int) (l2 : Int) (l3 : Int) (l4 : Int) (l5 : Int) (h : xH) : Option xH :=
  xc1 (xloop (fun s : (Int × Int × Int) => f_Walk_sumUp_s10 l1 l2 s.1 s.2.1 s.2.2 h) (l3, l4, l5)) (fun b => f_Walk_sumUp_70 l1 b.1 b.2 h)
noncomputable def f_Walk_sumUp (l1 : Int) (l2 : Int) (h : xH) : Option xH :=
  f_Walk_sumUp_10 l1 l2 1000000 1000000 0 h
noncomputable def f_Walk_isLeft_40  (h : xH) : Option Int :=
  some 1
noncomputable def f_Walk_isLeft_s8 (l1 : Int) (l2 : Int) (l3 : Int) (h : xH) : Option (Int ⊕ (Unit ⊕ Int)) :=
  if l1 < l3 then (some (Sum.inr (Sum.inl ()))) else (if l3 < 13 then (xgd l3 13 (if l2 < h 58 l3 then (xlet (w32 (l3 + 1)) (fun x1 => some (Sum.inl x1))) else (some (Sum.inr (Sum.inr 0))))) else (some (Sum.inr (Sum.inl ()))))
noncomputable def f_Walk_isLeft_8 (l1 : Int) (l2 : Int) (l3 : Int) (h : xH) : Option Int :=
  xc1 (xloop (fun s : Int => f_Walk_isLeft_s8 l1 l2 s h) l3) (fun q => xsw q (fun b => f_Walk_isLeft_40 h) (fun r => some r))
noncomputable def f_Walk_isLeft (l1 : Int) (l2 : Int) (h : xH) : Option Int :=
  xlet (max (w32 (l1 - 2)) 0) (fun x1 => f_Walk_isLeft_8 l1 l2 x1 h)
noncomputable def f_Met_keep (l1 : Int) (l2 : Int) (l3 : Int) (l4 : Int) (l5 : Int) (h : xH) : Option xH :=
  if h 49 5 < 0 then (some h) else (if h 49 5 < 2401 then (if l1 < 0 then (some h) else (if (xN l5 : Int) < w32 ((w32 (l1 + 1)) * 13) then (some h) else (xgd (h 49 5) 2401 (xlet (xup h 50 (h 49 5) l1) (fun h1 => xgd (h1 49 5) 2401 (xlet (xup h1 51 (h1 49 5) l2) (fun h2 => xgd (h2 49 5) 2401 (xgb l3 (xlet (xup h2 52 (h2 49 5) l3) (fun h3 => xgd (h3 49 5) 2401 (xgb l4 (xlet (xup h3 53 (h3 49 5) l4) (fun h4 => xgc (w32 (l1 * 13)) (w32 ((h4 49 5) * 13)) (h4 49 7) (xN l5 : Int) 31213 (xlet (xcp h4 l5 (w32 (l1 * 13)) 54 (w32 ((h4 49 5) * 13)) (h4 49 7)) (fun h5 => xlet (xup h5 49 5 (w32 ((h5 49 5) + 1))) (fun h6 => if l4 = 0 then (some h6) else (xlet (xup h6 49 6 (w32 ((h6 49 6) + 1))) (fun h7 => some h7)))))))))))))))))) else (some h))
noncomputable def f_Walk_descend_111  (h : xH) : Option (Int × xH) :=
  some (13, h)
noncomputable def f_Walk_descend_97 (l2 : Int) (l3 : Int) (l4 : Int) (l5 : Int) (l6 : Int) (h : xH) : Option ((Int × xH) ⊕ (xH ⊕ (Int × xH))) :=
  if l6 = 0 then (xlet (w32 (l5 + 1)) (fun x1 => some (Sum.inl (x1, h)))) else (some (Sum.inr (Sum.inr (l5, h))))
noncomputable def f_Walk_descend_88 (l2 : Int) (l3 : Int) (l4 : Int) (l5 : Int) (l6 : Int) (s1 : Int) (s2 : Int) (s3 : Int) (h : xH) : Option ((Int × xH) ⊕ (xH ⊕ (Int × xH))) :=
  xc1 (f_Met_keep s1 s2 s3 l6 57 h) (fun h1 => f_Walk_descend_97 l2 l3 l4 l5 l6 h1)
noncomputable def f_Walk_descend_s7 (l2 : Int) (l3 : Int) (l4 : Int) (l5 : Int) (h : xH) : Option ((Int × xH) ⊕ (xH ⊕ (Int × xH))) :=
  if h 55 1 < l5 then (some (Sum.inr (Sum.inl h))) else (if l5 < 13 then (xc1 (f_Walk_fill l5 l2 h) (fun h1 => xc1 (f_Walk_sumUp l5 l2 h1) (fun h2 => xc1 (f_Walk_isLeft l5 l3 h2) (fun r3 => if l4 = 0 then (f_Walk_descend_97 l2 l3 l4 l5 r3 h2) else (xc1 (f_Row_at 55 (w32 (l5 - 1)) h2) (fun r4 => if l5 = h2 55 1 then (f_Walk_descend_88 l2 l3 l4 l5 r3 l5 r4 1 h2) else (f_Walk_descend_88 l2 l3 l4 l5 r3 l5 r4 0 h2))))))) else (some (Sum.inr (Sum.inl h))))
noncomputable def f_Walk_descend_7 (l2 : Int) (l3 : Int) (l4 : Int) (l5 : Int) (h : xH) : Option (Int × xH) :=
  xc1 (xloop (fun s : (Int × xH) => f_Walk_descend_s7 l2 l3 l4 s.1 s.2) (l5, h)) (fun q => xsw q (fun b => f_Walk_descend_111 b) (fun r => some r))
noncomputable def f_Walk_descend (l1 : Int) (l2 : Int) (l3 : Int) (l4 : Int) (h : xH) : Option (Int × xH) :=
  xlet (max l1 0) (fun x1 => f_Walk_descend_7 l2 l3 l4 x1 h)
noncomputable def f_Walk_go_233  (h : xH) : Option xH :=
  some h
noncomputable def f_Walk_go_226 (l1 : Int) (l2 : Int) (l3 : Int) (l4 : Int) (l5 : Int) (s1 : Int) (s2 : Int) (h : xH) : Option ((Int × Int × xH) ⊕ xH) :=
  xgd s1 200 (xlet (xup h 61 s1 s2) (fun h1 => xlet (w32 (l5 + 1)) (fun x2 => some (Sum.inl (l4, x2, h1)))))
noncomputable def f_Walk_go_224 (l1 : Int) (l2 : Int) (l3 : Int) (l4 : Int) (l5 : Int) (s1 : Int) (h : xH) : Option ((Int × Int × xH) ⊕ xH) :=
  f_Walk_go_226 l1 l2 l3 l4 l5 s1 1000000 h
noncomputable def f_Walk_go_192 (l1 : Int) (l2 : Int) (l3 : Int) (l4 : Int) (l5 : Int) (l7 : Int) (s1 : Int) (s2 : Int) (h : xH) : Option ((Int × Int × xH) ⊕ xH) :=
  xgd s1 200 (xlet (xup h 60 s1 s2) (fun h1 => if l7 < 0 then (f_Walk_go_224 l1 l2 l3 l4 l5 l5 h1) else (if l7 < 13 then (xgd l7 13 (f_Walk_go_226 l1 l2 l3 l4 l5 l5 (h1 59 l7) h1)) else (f_Walk_go_224 l1 l2 l3 l4 l5 l5 h1))))
noncomputable def f_Walk_go_167 (l1 : Int) (l2 : Int) (l3 : Int) (l4 : Int) (l5 : Int) (l7 : Int) (l8 : Int) (s0 : Int) (h : xH) : Option ((Int × Int × xH) ⊕ xH) :=
  if s0 = 0 then (f_Walk_go_192 l1 l2 l3 l4 l5 l7 l5 1000000 h) else (xgd l8 169 (f_Walk_go_192 l1 l2 l3 l4 l5 l7 l5 (h 57 l8) h))
noncomputable def f_Walk_go_166 (l1 : Int) (l2 : Int) (l3 : Int) (l4 : Int) (l5 : Int) (l7 : Int) (l8 : Int) (h : xH) : Option ((Int × Int × xH) ⊕ xH) :=
  f_Walk_go_167 l1 l2 l3 l4 l5 l7 l8 0 h
noncomputable def f_Walk_go_109 (l1 : Int) (l2 : Int) (l3 : Int) (l4 : Int) (l5 : Int) (h : xH) : Option ((Int × Int × xH) ⊕ xH) :=
  xlet (min l4 (h 55 1)) (fun x1 => xlet (w32 ((w32 (x1 * 13)) + (h l1 1))) (fun x2 => if x1 = h 55 1 then (if x2 < 0 then (f_Walk_go_166 l1 l2 l3 l4 l5 x1 x2 h) else (if x2 < 169 then (f_Walk_go_167 l1 l2 l3 l4 l5 x1 x2 1 h) else (f_Walk_go_166 l1 l2 l3 l4 l5 x1 x2 h))) else (f_Walk_go_166 l1 l2 l3 l4 l5 x1 x2 h)))
noncomputable def f_Walk_go_s24 (l1 : Int) (l2 : Int) (l3 : Int) (l4 : Int) (l5 : Int) (h : xH) : Option ((Int × Int × xH) ⊕ xH) :=
  if l5 < h 5 2 then (if l5 < 200 then (if l5 < 200 then (xc1 (f_Rows_copyTo 5 l5 55 h) (fun h1 => xc1 (f_Rows_shared 5 l5 h1) (fun r2 => if r2 < l4 then (xc2 (f_Walk_descend (w32 (r2 + 1)) l1 l2 l3 h1) (fun r3 h4 => f_Walk_go_109 l1 l2 l3 r3 l5 h4)) else (f_Walk_go_109 l1 l2 l3 l4 l5 h1)))) else (some (Sum.inr h))) else (some (Sum.inr h))) else (some (Sum.inr h))
noncomputable def f_Walk_go_24 (l1 : Int) (l2 : Int) (l3 : Int) (l4 : Int) (l5 : Int) (h : xH) : Option xH :=
  xc1 (xloop (fun s : (Int × Int × xH) => f_Walk_go_s24 l1 l2 l3 s.1 s.2.1 s.2.2) (l4, l5, h)) (fun b => f_Walk_go_233 b)
noncomputable def f_Walk_go_17 (l1 : Int) (l2 : Int) (l3 : Int) (h : xH) : Option xH :=
  f_Walk_go_24 l1 l2 l3 13 0 h
noncomputable def f_Walk_go (l1 : Int) (l2 : Int) (l3 : Int) (h : xH) : Option xH :=
  if l3 = 0 then (f_Walk_go_17 l1 l2 l3 h) else (xc1 (f_Met_clear (w32 ((h l1 1) + 1)) h) (fun h1 => f_Walk_go_17 l1 l2 l3 h1))
noncomputable def f_Lex_share (l1 : Int) (h : xH) : Option Int :=
  xgp (vf_n32 (FP.fdiv (FP.i2f (Int32.ofInt (h 4 2))) (1148846080 : UInt32))) (xc1 (f_Lex_countOf l1 h) (fun r1 => xgp (vf_n32 (FP.fmul (FP.fdiv (FP.i2f (Int32.ofInt (h 4 2))) (1148846080 : UInt32)) (FP.i2f (Int32.ofInt r1)))) (some ((FP.f2i (FP.fmul (FP.fdiv (FP.i2f (Int32.ofInt (h 4 2))) (1148846080 : UInt32)) (FP.i2f (Int32.ofInt r1)))).toInt))))
noncomputable def f_Found_isAhead_66  (h : xH) : Option Int :=
  some 1
noncomputable def f_Found_isAhead (l0 : Int) (l1 : Int) (l2 : Int) (l3 : Int) (h : xH) : Option Int :=
  if l3 < 0 then (some 0) else (if l3 < 200 then (xgd l3 200 (xgd l3 200 (xlet (w32 ((h (l0 + 2) l3) - (h (l0 + 3) l3))) (fun x1 => if l2 < x1 then (f_Found_isAhead_66 h) else (if l2 = x1 then (xc1 (f_Lex_countOf l1 h) (fun r2 => xgd l3 200 (xc1 (f_Lex_countOf (h (l0 + 1) l3) h) (fun r3 => if r3 < r2 then (f_Found_isAhead_66 h) else (some 0))))) else (some 0)))))) else (some 0))
noncomputable def f_Found_move (l0 : Int) (l1 : Int) (l2 : Int) (l3 : Int) (h : xH) : Option xH :=
  if l1 < 0 then (some h) else (if l2 < 0 then (some h) else (if l2 < l3 then (if l1 < 200 then (if l2 < 200 then (xgd l1 200 (xgd l2 200 (xlet (xup h (l0 + 1) l2 (h (l0 + 1) l1)) (fun h1 => xgd l1 200 (xgd l2 200 (xlet (xup h1 (l0 + 2) l2 (h1 (l0 + 2) l1)) (fun h2 => xgd l1 200 (xgd l2 200 (xlet (xup h2 (l0 + 3) l2 (h2 (l0 + 3) l1)) (fun h3 => some h3)))))))))) else (some h)) else (some h)) else (some h)))
noncomputable def f_Found_lay_54 (l0 : Int) (l1 : Int) (l2 : Int) (l3 : Int) (l4 : Int) (l5 : Int) (h : xH) : Option xH :=
  if l5 < l3 then (if l5 < 200 then (xgd l5 200 (xlet (xup h (l0 + 1) l5 l1) (fun h1 => xgd l5 200 (xlet (xup h1 (l0 + 2) l5 l2) (fun h2 => xgd l5 200 (xlet (xup h2 (l0 + 3) l5 l4) (fun h3 => xlet (xup h3 l0 4 (min (w32 ((h3 l0 4) + 1)) l3)) (fun h4 => some h4)))))))) else (some h)) else (some h)
noncomputable def f_Found_lay_s16 (l0 : Int) (l1 : Int) (l2 : Int) (l3 : Int) (l4 : Int) (l5 : Int) (h : xH) : Option ((Int × xH) ⊕ (Int × xH)) :=
  if 0 < l5 then (xc1 (f_Found_isAhead l0 l1 (w32 (l2 - l4)) (w32 (l5 - 1)) h) (fun r1 => if r1 = 0 then (some (Sum.inr (l5, h))) else (xc1 (f_Found_move l0 (w32 (l5 - 1)) l5 l3 h) (fun h2 => xlet (w32 (l5 + (-1))) (fun x3 => some (Sum.inl (x3, h2))))))) else (some (Sum.inr (l5, h)))
noncomputable def f_Found_lay_16 (l0 : Int) (l1 : Int) (l2 : Int) (l3 : Int) (l4 : Int) (l5 : Int) (h : xH) : Option xH :=
  xc1 (xloop (fun s : (Int × xH) => f_Found_lay_s16 l0 l1 l2 l3 l4 s.1 s.2) (l5, h)) (fun b => f_Found_lay_54 l0 l1 l2 l3 l4 b.1 b.2)
noncomputable def f_Found_lay (l0 : Int) (l1 : Int) (l2 : Int) (l3 : Int) (h : xH) : Option xH :=
  xc1 (f_Lex_share l1 h) (fun r1 => xlet (h l0 4) (fun x2 => f_Found_lay_16 l0 l1 l2 l3 r1 x2 h))
noncomputable def f_Found_gather_61 (l0 : Int) (h : xH) : Option (Int × xH) :=
  some (h l0 4, h)
noncomputable def f_Found_gather_55 (l0 : Int) (l1 : Int) (l2 : Int) (l3 : Int) (l4 : Int) (h : xH) : Option ((Int × xH) ⊕ xH) :=
  xlet (w32 (l4 + 1)) (fun x1 => some (Sum.inl (x1, h)))
noncomputable def f_Found_gather_s8 (l0 : Int) (l1 : Int) (l2 : Int) (l3 : Int) (l4 : Int) (h : xH) : Option ((Int × xH) ⊕ xH) :=
  if l4 < h 5 2 then (if l4 < (xN l1 : Int) then (xgd l4 (xN l1 : Int) (if l2 < h l1 l4 then (f_Found_gather_55 l0 l1 l2 l3 l4 h) else (xgd l4 (xN l1 : Int) (xc1 (f_Found_lay l0 l4 (h l1 l4) (min l3 200) h) (fun h1 => f_Found_gather_55 l0 l1 l2 l3 l4 h1))))) else (some (Sum.inr h))) else (some (Sum.inr h))
noncomputable def f_Found_gather_8 (l0 : Int) (l1 : Int) (l2 : Int) (l3 : Int) (l4 : Int) (h : xH) : Option (Int × xH) :=
  xc1 (xloop (fun s : (Int × xH) => f_Found_gather_s8 l0 l1 l2 l3 s.1 s.2) (l4, h)) (fun b => f_Found_gather_61 l0 b)
noncomputable def f_Found_gather (l0 : Int) (l1 : Int) (l2 : Int) (l3 : Int) (h : xH) : Option (Int × xH) :=
  xlet (xup h l0 4 0) (fun h1 => f_Found_gather_8 l0 l1 l2 l3 0 h1)
noncomputable def f_WM_near (l1 : Int) (h : xH) : Option (Int × xH) :=
  xc2 (f_Tape_takeRow 23 h) (fun r1 h2 => if r1 = 0 then (some ((-2), h2)) else (xc1 (f_WM_isNoBound l1 h2) (fun r3 => if r3 = 0 then (xc1 (f_Walk_go 23 l1 1 h2) (fun h4 => xc2 (f_Found_gather 62 60 l1 200 h4) (fun r5 h6 => some (r5, h6)))) else (some ((-2), h2)))))
noncomputable def f_WM_nearest (l1 : Int) (h : xH) : Option (Int × xH) :=
  xc2 (f_Tape_takeRow 23 h) (fun r1 h2 => if r1 = 0 then (some ((-2), h2)) else (if l1 < 1 then (some ((-2), h2)) else (if 200 < l1 then (some ((-2), h2)) else (xc1 (f_Walk_go 23 1000000 0 h2) (fun h3 => xc2 (f_Found_gather 62 60 1000000 l1 h3) (fun r4 h5 => some (r4, h5)))))))
noncomputable def f_WM_complete (l1 : Int) (h : xH) : Option (Int × xH) :=
  xc2 (f_Tape_takeRow 23 h) (fun r1 h2 => if r1 = 0 then (some ((-2), h2)) else (xc1 (f_WM_isNoBound l1 h2) (fun r3 => if r3 = 0 then (xc1 (f_Walk_go 23 l1 1 h2) (fun h4 => xc2 (f_Found_gather 62 61 l1 200 h4) (fun r5 h6 => some (r5, h6)))) else (some ((-2), h2)))))
noncomputable def f_Found_tell (l0 : Int) (l1 : Int) (l2 : Int) (h : xH) : Option Int :=
  if l1 < 0 then (some (-1)) else (if l1 < h l0 4 then (if l1 < 200 then (if l2 = 0 then (xgd l1 200 (some (h (l0 + 1) l1))) else (if l2 = 1 then (xgd l1 200 (some (h (l0 + 2) l1))) else (xgd l1 200 (some (h (l0 + 3) l1))))) else (some (-1))) else (some (-1)))
noncomputable def f_WM_found_9  (h : xH) : Option Int :=
  some (-2)
noncomputable def f_WM_found (l1 : Int) (l2 : Int) (h : xH) : Option Int :=
  if l2 < 0 then (f_WM_found_9 h) else (if 2 < l2 then (f_WM_found_9 h) else (xc1 (f_Found_tell 62 l1 l2 h) (fun r1 => some r1)))
noncomputable def f_Met_stateAt (l1 : Int) (l2 : Int) (h : xH) : Option Int :=
  if l1 < 0 then (some (-1)) else (if l1 < h 49 5 then (if l2 < 0 then (some (-1)) else (if l2 < h 49 7 then (xlet (w32 ((w32 (l1 * 13)) + l2)) (fun x1 => if x1 < 0 then (some (-1)) else (if x1 < 31213 then (xgd x1 31213 (some (h 54 x1))) else (some (-1))))) else (some (-1)))) else (some (-1)))
noncomputable def f_Met_least_30 (l2 : Int) (h : xH) : Option Int :=
  some l2
noncomputable def f_Met_least_s5 (l1 : Int) (l2 : Int) (l3 : Int) (h : xH) : Option ((Int × Int) ⊕ Int) :=
  if l3 < h 49 7 then (xc1 (f_Met_stateAt l1 l3 h) (fun r1 => xlet (min l2 r1) (fun x2 => xlet (w32 (l3 + 1)) (fun x3 => some (Sum.inl (x2, x3)))))) else (some (Sum.inr l2))
noncomputable def f_Met_least_5 (l1 : Int) (l2 : Int) (l3 : Int) (h : xH) : Option Int :=
  xc1 (xloop (fun s : (Int × Int) => f_Met_least_s5 l1 s.1 s.2 h) (l2, l3)) (fun b => f_Met_least_30 b h)
noncomputable def f_Met_least (l1 : Int) (h : xH) : Option Int :=
  f_Met_least_5 l1 1000000 0 h
noncomputable def f_Met_tell (l1 : Int) (l2 : Int) (h : xH) : Option Int :=
  if l1 < 0 then (some (-1)) else (if l1 < h 49 5 then (if l1 < 2401 then (if l2 = 0 then (xgd l1 2401 (some (h 50 l1))) else (if l2 = 1 then (xgd l1 2401 (some (h 51 l1))) else (if l2 = 2 then (xc1 (f_Met_least l1 h) (fun r1 => some r1)) else (if l2 = 3 then (xgd l1 2401 (if h 53 l1 = 0 then (some 0) else (some 1))) else (if l2 = 4 then (xgd l1 2401 (if h 52 l1 = 0 then (some 0) else (some 1))) else (xc1 (f_Met_stateAt l1 (w32 (l2 - 5)) h) (fun r2 => some r2))))))) else (some (-1))) else (some (-1)))
noncomputable def f_WM_node (l1 : Int) (l2 : Int) (h : xH) : Option Int :=
  if l2 < 0 then (some (-2)) else (xc1 (f_Met_tell l1 l2 h) (fun r1 => some r1))
noncomputable def f_WM_pair  (h : xH) : Option (Int × xH) :=
  xc2 (f_Tape_takeTwo 12 21 23 h) (fun r1 h2 => if r1 = 0 then (some ((-2), h2)) else (xc1 (f_Rows_isFull 40 h2) (fun r3 => if r3 = 0 then (xc1 (f_Rows_isFull 43 h2) (fun r4 => if r4 = 0 then (xc1 (f_Rows_append 40 21 h2) (fun h5 => xc1 (f_Rows_append 43 23 h5) (fun h6 => some (w32 ((h6 40 2) - 1), h6)))) else (some ((-4), h2)))) else (some ((-4), h2)))))
noncomputable def f_Arr_fill_20  (h : xH) : Option xH :=
  some h
noncomputable def f_Arr_fill_s5 (l0 : Int) (l1 : Int) (l2 : Int) (l3 : Int) (h : xH) : Option ((Int × xH) ⊕ xH) :=
  if l2 < l3 then (xgd l2 (xN l0 : Int) (xlet (xup h l0 l2 l1) (fun h1 => xlet (w32 (l2 + 1)) (fun x2 => some (Sum.inl (x2, h1)))))) else (some (Sum.inr h))
noncomputable def f_Arr_fill_5 (l0 : Int) (l1 : Int) (l2 : Int) (l3 : Int) (h : xH) : Option xH :=
  xc1 (xloop (fun s : (Int × xH) => f_Arr_fill_s5 l0 l1 s.1 l3 s.2) (l2, h)) (fun b => f_Arr_fill_20 b)
noncomputable def f_Arr_fill (l0 : Int) (l1 : Int) (h : xH) : Option xH :=
  xlet (xN l0 : Int) (fun x1 => f_Arr_fill_5 l0 l1 0 x1 h)
noncomputable def f_WM_readPair (l1 : Int) (h : xH) : Option xH :=
  xc1 (f_Rows_copyTo 40 l1 21 h) (fun h1 => xc1 (f_Rows_copyTo 43 l1 23 h1) (fun h2 => some h2))
noncomputable def f_WM_noteWay_103 (l2 : Int) (h : xH) : Option (Int × xH) :=
  xgb l2 (some (l2, h))
noncomputable def f_WM_noteWay_97 (l1 : Int) (l2 : Int) (l3 : Int) (h : xH) : Option ((Int × Int × xH) ⊕ (Int × xH)) :=
  xlet (w32 (l3 + 1)) (fun x1 => some (Sum.inl (l2, x1, h)))
noncomputable def f_WM_noteWay_87 (l1 : Int) (l3 : Int) (l4 : Int) (l5 : Int) (s0 : Int) (h : xH) : Option ((Int × Int × xH) ⊕ (Int × xH)) :=
  xgd l5 960 (xlet (xup h 46 l5 l4) (fun h1 => f_WM_noteWay_97 l1 s0 l3 h1))
noncomputable def f_WM_noteWay_86 (l1 : Int) (l3 : Int) (l4 : Int) (l5 : Int) (h : xH) : Option ((Int × Int × xH) ⊕ (Int × xH)) :=
  f_WM_noteWay_87 l1 l3 l4 l5 0 h
noncomputable def f_WM_noteWay_46 (l1 : Int) (l2 : Int) (l3 : Int) (l4 : Int) (h : xH) : Option ((Int × Int × xH) ⊕ (Int × xH)) :=
  xlet (w32 (l1 + l3)) (fun x1 => if x1 < 0 then (f_WM_noteWay_97 l1 l2 l3 h) else (if x1 < 960 then (if l2 = 0 then (f_WM_noteWay_86 l1 l3 l4 x1 h) else (xgd x1 960 (if h 46 x1 = l4 then (f_WM_noteWay_87 l1 l3 l4 x1 1 h) else (f_WM_noteWay_86 l1 l3 l4 x1 h)))) else (f_WM_noteWay_97 l1 l2 l3 h)))
noncomputable def f_WM_noteWay_s4 (l1 : Int) (l2 : Int) (l3 : Int) (h : xH) : Option ((Int × Int × xH) ⊕ (Int × xH)) :=
  if l3 < 24 then (xc1 (f_Way_codeAt 34 l3 h) (fun r1 => if r1 < 0 then (f_WM_noteWay_46 l1 l2 l3 r1 h) else (if r1 < 7 then (xgd r1 7 (xgd r1 7 (xlet (xup h 47 r1 (w32 ((h 47 r1) + 1))) (fun h2 => f_WM_noteWay_46 l1 l2 l3 r1 h2)))) else (f_WM_noteWay_46 l1 l2 l3 r1 h)))) else (some (Sum.inr (l2, h)))
noncomputable def f_WM_noteWay_4 (l1 : Int) (l2 : Int) (l3 : Int) (h : xH) : Option (Int × xH) :=
  xc1 (xloop (fun s : (Int × Int × xH) => f_WM_noteWay_s4 l1 s.1 s.2.1 s.2.2) (l2, l3, h)) (fun b => f_WM_noteWay_103 b.1 b.2)
noncomputable def f_WM_noteWay (l1 : Int) (h : xH) : Option (Int × xH) :=
  f_WM_noteWay_4 l1 1 0 h
noncomputable def f_WM_findWays_78 (l1 : Int) (h : xH) : Option (Int × xH) :=
  xgb l1 (some (l1, h))
noncomputable def f_WM_findWays_72 (l1 : Int) (l2 : Int) (h : xH) : Option ((Int × Int × xH) ⊕ (Int × xH)) :=
  xlet (w32 (l2 + 1)) (fun x1 => some (Sum.inl (l1, x1, h)))
noncomputable def f_WM_findWays_s12 (l1 : Int) (l2 : Int) (h : xH) : Option ((Int × Int × xH) ⊕ (Int × xH)) :=
  if l2 < h 40 2 then (xc1 (f_WM_readPair l2 h) (fun h1 => xc2 (f_Way_measure 34 21 23 h1) (fun r2 h3 => xc1 (f_Way_trace 34 21 23 h3) (fun h4 => xc2 (f_WM_noteWay (w32 (l2 * 24)) h4) (fun r5 h6 => if r5 = 0 then (f_WM_findWays_72 0 l2 h6) else (f_WM_findWays_72 l1 l2 h6)))))) else (some (Sum.inr (l1, h)))
noncomputable def f_WM_findWays_12 (l1 : Int) (l2 : Int) (h : xH) : Option (Int × xH) :=
  xc1 (xloop (fun s : (Int × Int × xH) => f_WM_findWays_s12 s.1 s.2.1 s.2.2) (l1, l2, h)) (fun b => f_WM_findWays_78 b.1 b.2)
noncomputable def f_WM_findWays  (h : xH) : Option (Int × xH) :=
  xc1 (f_Arr_fill 47 0 h) (fun h1 => f_WM_findWays_12 1 0 h1)
noncomputable def f_Slips_setByCounts_73  (h : xH) : Option (Int × xH) :=
  some (1, h)
noncomputable def f_Slips_setByCounts_s36 (l1 : Int) (l2 : Int) (l3 : Int) (h : xH) : Option ((Int × xH) ⊕ xH) :=
  if 6 < l3 then (some (Sum.inr h)) else (if l3 < (xN l1 : Int) then (xgd l3 (xN l1 : Int) (xgp (l2 ≠ 0) (xgd l3 10 (xlet (xup h 10 l3 (w32 (200 - (xdiv (w32 (180 * (h l1 l3))) l2)))) (fun h1 => xlet (w32 (l3 + 1)) (fun x2 => some (Sum.inl (x2, h1)))))))) else (some (Sum.inr h)))
noncomputable def f_Slips_setByCounts_36 (l1 : Int) (l2 : Int) (l3 : Int) (h : xH) : Option (Int × xH) :=
  xc1 (xloop (fun s : (Int × xH) => f_Slips_setByCounts_s36 l1 l2 s.1 s.2) (l3, h)) (fun b => f_Slips_setByCounts_73 b)
noncomputable def f_Slips_setByCounts_28 (l1 : Int) (l2 : Int) (h : xH) : Option (Int × xH) :=
  if 0 < l2 then (f_Slips_setByCounts_36 l1 l2 1 h) else (some (0, h))
noncomputable def f_Slips_setByCounts_s4 (l1 : Int) (l2 : Int) (l3 : Int) (h : xH) : Option ((Int × Int) ⊕ Int) :=
  if 6 < l3 then (some (Sum.inr l2)) else (if l3 < (xN l1 : Int) then (xgd l3 (xN l1 : Int) (xlet (w32 (l2 + (h l1 l3))) (fun x1 => xlet (w32 (l3 + 1)) (fun x2 => some (Sum.inl (x1, x2)))))) else (some (Sum.inr l2)))
noncomputable def f_Slips_setByCounts_4 (l1 : Int) (l2 : Int) (l3 : Int) (h : xH) : Option (Int × xH) :=
  xc1 (xloop (fun s : (Int × Int) => f_Slips_setByCounts_s4 l1 s.1 s.2 h) (l2, l3)) (fun b => f_Slips_setByCounts_28 l1 b h)
noncomputable def f_Slips_setByCounts (l1 : Int) (h : xH) : Option (Int × xH) :=
  f_Slips_setByCounts_4 l1 0 1 h
noncomputable def f_WM_learn_75 (l1 : Int) (h : xH) : Option (Int × xH) :=
  some (l1, h)
noncomputable def f_WM_learn_68 (l1 : Int) (s0 : Int) (h : xH) : Option ((Int × Int × xH) ⊕ (Int × xH)) :=
  xlet (w32 (l1 + 1)) (fun x1 => some (Sum.inl (x1, s0, h)))
noncomputable def f_WM_learn_67 (l1 : Int) (h : xH) : Option ((Int × Int × xH) ⊕ (Int × xH)) :=
  f_WM_learn_68 l1 0 h
noncomputable def f_WM_learn_s26 (l1 : Int) (l2 : Int) (h : xH) : Option ((Int × Int × xH) ⊕ (Int × xH)) :=
  if l2 = 0 then (some (Sum.inr (l1, h))) else (if l1 < 20 then (xc2 (f_WM_findWays h) (fun r1 h2 => xc2 (f_Slips_setByCounts 47 h2) (fun r3 h4 => if r3 = 0 then (f_WM_learn_67 l1 h4) else (if r1 = 0 then (f_WM_learn_68 l1 1 h4) else (f_WM_learn_67 l1 h4))))) else (some (Sum.inr (l1, h))))
noncomputable def f_WM_learn_26 (l1 : Int) (l2 : Int) (h : xH) : Option (Int × xH) :=
  xc1 (xloop (fun s : (Int × Int × xH) => f_WM_learn_s26 s.1 s.2.1 s.2.2) (l1, l2, h)) (fun b => f_WM_learn_75 b.1 b.2)
noncomputable def f_WM_learn_25 (l1 : Int) (s0 : Int) (h : xH) : Option (Int × xH) :=
  f_WM_learn_26 l1 s0 h
noncomputable def f_WM_learn  (h : xH) : Option (Int × xH) :=
  xc1 (f_Arr_fill 46 (-1) h) (fun h1 => if 0 < h1 40 2 then (f_WM_learn_25 0 1 h1) else (f_WM_learn_25 0 0 h1))
noncomputable def f_WM_spread_44 (l1 : Int) (h : xH) : Option (Int × xH) :=
  some (l1, h)
noncomputable def f_WM_spread_s4 (l1 : Int) (l2 : Int) (h : xH) : Option ((Int × Int × xH) ⊕ (Int × xH)) :=
  if l2 < h 40 2 then (xc1 (f_WM_readPair l2 h) (fun h1 => xc2 (f_Way_measure 34 21 23 h1) (fun r2 h3 => xlet (w32 (l1 + r2)) (fun x4 => xlet (w32 (l2 + 1)) (fun x5 => some (Sum.inl (x4, x5, h3))))))) else (some (Sum.inr (l1, h)))
noncomputable def f_WM_spread_4 (l1 : Int) (l2 : Int) (h : xH) : Option (Int × xH) :=
  xc1 (xloop (fun s : (Int × Int × xH) => f_WM_spread_s4 s.1 s.2.1 s.2.2) (l1, l2, h)) (fun b => f_WM_spread_44 b.1 b.2)
noncomputable def f_WM_spread  (h : xH) : Option (Int × xH) :=
  f_WM_spread_4 0 0 h
noncomputable def f_Rows_clear (l0 : Int) (h : xH) : Option xH :=
  xlet (xup h l0 2 0) (fun h1 => some h1)
noncomputable def f_Tape_takeText_77 (l3 : Int) (l4 : Int) (h : xH) : Option (Int × xH) :=
  if l3 < l4 then (some (1, h)) else (some (0, h))
noncomputable def f_Tape_takeText_s20 (l1 : Int) (l2 : Int) (l3 : Int) (l4 : Int) (l5 : Int) (h : xH) : Option ((Int × Int × xH) ⊕ ((Int × xH) ⊕ (Int × xH))) :=
  if l5 < 12 then (if l3 < l4 then (some (Sum.inr (Sum.inl (l4, h)))) else (xc1 (f_Tape_seek 32 l4 l3 h) (fun r1 => xc2 (f_Tape_read l4 r1 12 l2 h) (fun r2 h3 => if r2 = 0 then (some (Sum.inr (Sum.inr (0, h3)))) else (xc1 (f_Rows_append l1 l2 h3) (fun h4 => xlet (w32 (r1 + 1)) (fun x5 => xlet (w32 (l5 + 1)) (fun x6 => some (Sum.inl (x5, x6, h4)))))))))) else (some (Sum.inr (Sum.inl (l4, h))))
noncomputable def f_Tape_takeText_20 (l1 : Int) (l2 : Int) (l3 : Int) (l4 : Int) (l5 : Int) (h : xH) : Option (Int × xH) :=
  xc1 (xloop (fun s : (Int × Int × xH) => f_Tape_takeText_s20 l1 l2 l3 s.1 s.2.1 s.2.2) (l4, l5, h)) (fun q => xsw q (fun b => f_Tape_takeText_77 l3 b.1 b.2) (fun r => some r))
noncomputable def f_Tape_takeText (l1 : Int) (l2 : Int) (h : xH) : Option (Int × xH) :=
  xlet (h 2 1) (fun x1 => xlet (xup h 2 1 0) (fun h2 => xc1 (f_Rows_clear l1 h2) (fun h3 => f_Tape_takeText_20 l1 l2 x1 0 0 h3)))
noncomputable def f_Mend_clear (l1 : Int) (h : xH) : Option xH :=
  xlet (xup h 70 6 (max 0 (min l1 12))) (fun h1 => xlet (xup h1 70 7 0) (fun h2 => xc1 (f_Arr_fill 71 (-1) h2) (fun h3 => xc1 (f_Arr_fill 74 0 h3) (fun h4 => some h4))))
noncomputable def f_Mend_cellOf (l1 : Int) (l2 : Int) (h : xH) : Option Int :=
  if l1 < 0 then (some (-1)) else (if l1 < 5 then (if l2 < 0 then (some (-1)) else (if l2 < h 70 6 then (if l2 < 12 then (some (w32 ((w32 (l1 * 12)) + l2))) else (some (-1))) else (some (-1)))) else (some (-1)))
noncomputable def f_Mend_offer (l1 : Int) (l2 : Int) (l3 : Int) (l4 : Int) (l5 : Int) (h : xH) : Option xH :=
  xc1 (f_Mend_cellOf l1 l2 h) (fun r1 => if r1 = (-1) then (some h) else (xgd r1 60 (xlet (xup h 71 r1 l3) (fun h2 => xgd r1 60 (xlet (xup h2 72 r1 l4) (fun h3 => xgd r1 60 (xlet (xup h3 73 r1 l5) (fun h4 => some h4))))))))
noncomputable def f_Mend_offers (l1 : Int) (l2 : Int) (h : xH) : Option Int :=
  xc1 (f_Mend_cellOf l1 l2 h) (fun r1 => if r1 = (-1) then (some 0) else (xgd r1 60 (if h 71 r1 = (-1) then (some 0) else (some 1))))
noncomputable def f_Slips_kindPrice (l1 : Int) (h : xH) : Option Int :=
  if l1 < 0 then (some 0) else (if l1 < 10 then (xgd l1 10 (some (h 10 l1))) else (some 0))
noncomputable def f_WM_offerSplit_117 (l1 : Int) (h : xH) : Option xH :=
  xc1 (f_Lex_numberOf 21 h) (fun r1 => if r1 = (-1) then (some h) else (xc1 (f_Slips_kindPrice 8 h) (fun r2 => xc1 (f_Mend_offer 2 l1 r2 r1 (-1) h) (fun h3 => some h3))))
noncomputable def f_WM_offerSplit_s78 (l1 : Int) (l2 : Int) (h : xH) : Option ((Int × xH) ⊕ xH) :=
  xc1 (f_Rows_sizeOf 25 (w32 (l1 + 1)) h) (fun r1 => if l2 < r1 then (xc1 (f_Rows_at 25 (w32 (l1 + 1)) l2 h) (fun r2 => xc2 (f_Row_append 21 r2 h) (fun r3 h4 => xlet (w32 (l2 + 1)) (fun x5 => some (Sum.inl (x5, h4)))))) else (some (Sum.inr h)))
noncomputable def f_WM_offerSplit_78 (l1 : Int) (l2 : Int) (h : xH) : Option xH :=
  xc1 (xloop (fun s : (Int × xH) => f_WM_offerSplit_s78 l1 s.1 s.2) (l2, h)) (fun b => f_WM_offerSplit_117 l1 b)
noncomputable def f_WM_offerSplit_39 (l1 : Int) (h : xH) : Option xH :=
  xc1 (f_Rows_sizeOf 25 l1 h) (fun r1 => xc1 (f_Rows_sizeOf 25 (w32 (l1 + 1)) h) (fun r2 => if 12 < w32 (r1 + r2) then (some h) else (xc1 (f_Rows_copyTo 25 l1 21 h) (fun h3 => f_WM_offerSplit_78 l1 0 h3))))
noncomputable def f_WM_offerSplit (l1 : Int) (h : xH) : Option xH :=
  if w32 (l1 + 1) < h 25 2 then (xc1 (f_Mend_offers 0 l1 h) (fun r1 => if r1 = 0 then (f_WM_offerSplit_39 l1 h) else (xc1 (f_Mend_offers 0 (w32 (l1 + 1)) h) (fun r2 => if r2 = 0 then (f_WM_offerSplit_39 l1 h) else (some h))))) else (some h)
noncomputable def f_WM_offerJoin_145  (h : xH) : Option xH :=
  some h
noncomputable def f_WM_offerJoin_139 (l1 : Int) (l2 : Int) (h : xH) : Option ((Int × xH) ⊕ (xH ⊕ xH)) :=
  xlet (w32 (l2 + 1)) (fun x1 => some (Sum.inl (x1, h)))
noncomputable def f_WM_offerJoin_81 (l1 : Int) (l2 : Int) (h : xH) : Option ((Int × xH) ⊕ (xH ⊕ xH)) :=
  xc1 (f_Lex_numberOf 21 h) (fun r1 => xc1 (f_Lex_numberOf 23 h) (fun r2 => if r1 = (-1) then (f_WM_offerJoin_139 l1 l2 h) else (if r2 = (-1) then (f_WM_offerJoin_139 l1 l2 h) else (xc1 (f_Slips_kindPrice 9 h) (fun r3 => xc1 (f_Mend_offer 3 l1 r3 r1 r2 h) (fun h4 => some (Sum.inr (Sum.inr h4))))))))
noncomputable def f_WM_offerJoin_58 (l1 : Int) (l2 : Int) (l3 : Int) (s0 : Int) (h : xH) : Option ((Int × xH) ⊕ xH) :=
  xc1 (f_Rows_at 25 l1 l3 h) (fun r1 => xc2 (f_Row_append s0 r1 h) (fun r2 h3 => xlet (w32 (l3 + 1)) (fun x4 => some (Sum.inl (x4, h3)))))
noncomputable def f_WM_offerJoin_s30 (l1 : Int) (l2 : Int) (l3 : Int) (h : xH) : Option ((Int × xH) ⊕ xH) :=
  xc1 (f_Rows_sizeOf 25 l1 h) (fun r1 => if l3 < r1 then (if l3 < l2 then (f_WM_offerJoin_58 l1 l2 l3 21 h) else (f_WM_offerJoin_58 l1 l2 l3 23 h)) else (some (Sum.inr h)))
noncomputable def f_WM_offerJoin_30 (l1 : Int) (l2 : Int) (l3 : Int) (h : xH) : Option ((Int × xH) ⊕ (xH ⊕ xH)) :=
  xc1 (xloop (fun s : (Int × xH) => f_WM_offerJoin_s30 l1 l2 s.1 s.2) (l3, h)) (fun b => f_WM_offerJoin_81 l1 l2 b)
noncomputable def f_WM_offerJoin_s2 (l1 : Int) (l2 : Int) (h : xH) : Option ((Int × xH) ⊕ (xH ⊕ xH)) :=
  xc1 (f_Rows_sizeOf 25 l1 h) (fun r1 => if l2 < r1 then (xc1 (f_Row_clear 21 h) (fun h2 => xc1 (f_Row_clear 23 h2) (fun h3 => f_WM_offerJoin_30 l1 l2 0 h3))) else (some (Sum.inr (Sum.inl h))))
noncomputable def f_WM_offerJoin_2 (l1 : Int) (l2 : Int) (h : xH) : Option xH :=
  xc1 (xloop (fun s : (Int × xH) => f_WM_offerJoin_s2 l1 s.1 s.2) (l2, h)) (fun q => xsw q (fun b => f_WM_offerJoin_145 b) (fun r => some r))
noncomputable def f_WM_offerJoin (l1 : Int) (h : xH) : Option xH :=
  f_WM_offerJoin_2 l1 1 h
noncomputable def f_WM_offerMended (l1 : Int) (l2 : Int) (h : xH) : Option xH :=
  xc2 (f_Found_gather 66 60 l2 1 h) (fun r1 h2 => if 0 < r1 then (xc1 (f_Found_tell 66 0 1 h2) (fun r3 => xc1 (f_Found_tell 66 0 0 h2) (fun r4 => xc1 (f_Mend_offer 1 l1 r3 r4 (-1) h2) (fun h5 => some h5)))) else (some h2))
noncomputable def f_Mend_taken (l0 : Int) (h : xH) : Option Int :=
  if l0 = 2 then (some 2) else (some 1)
noncomputable def f_Mend_sumBy (l1 : Int) (l2 : Int) (h : xH) : Option Int :=
  xc1 (f_Mend_cellOf l1 l2 h) (fun r1 => xc1 (f_Mend_taken l1 h) (fun r2 => xlet (w32 (l2 + r2)) (fun x3 => if r1 = (-1) then (some 0) else (if x3 < 13 then (xgd r1 60 (xgd x3 13 (some (w32 ((h 71 r1) + (h 74 x3)))))) else (some 0)))))
noncomputable def f_Mend_bestKind_46 (l2 : Int) (h : xH) : Option Int :=
  some l2
noncomputable def f_Mend_bestKind_40 (l1 : Int) (l2 : Int) (l3 : Int) (h : xH) : Option ((Int × Int) ⊕ Int) :=
  xlet (w32 (l3 + 1)) (fun x1 => some (Sum.inl (l2, x1)))
noncomputable def f_Mend_bestKind_38 (l1 : Int) (l3 : Int) (h : xH) : Option ((Int × Int) ⊕ Int) :=
  f_Mend_bestKind_40 l1 l3 l3 h
noncomputable def f_Mend_bestKind_s4 (l1 : Int) (l2 : Int) (l3 : Int) (h : xH) : Option ((Int × Int) ⊕ Int) :=
  if l3 < 5 then (xc1 (f_Mend_offers l3 l1 h) (fun r1 => if r1 = 0 then (f_Mend_bestKind_40 l1 l2 l3 h) else (if l2 = (-1) then (f_Mend_bestKind_38 l1 l3 h) else (xc1 (f_Mend_sumBy l3 l1 h) (fun r2 => xc1 (f_Mend_sumBy l2 l1 h) (fun r3 => if r2 < r3 then (f_Mend_bestKind_38 l1 l3 h) else (f_Mend_bestKind_40 l1 l2 l3 h))))))) else (some (Sum.inr l2))
noncomputable def f_Mend_bestKind_4 (l1 : Int) (l2 : Int) (l3 : Int) (h : xH) : Option Int :=
  xc1 (xloop (fun s : (Int × Int) => f_Mend_bestKind_s4 l1 s.1 s.2 h) (l2, l3)) (fun b => f_Mend_bestKind_46 b h)
noncomputable def f_Mend_bestKind (l1 : Int) (h : xH) : Option Int :=
  f_Mend_bestKind_4 l1 (-1) 0 h
noncomputable def f_Mend_choose_96  (h : xH) : Option (Int × xH) :=
  some (h 70 7, h)
noncomputable def f_Mend_choose_s44 (l1 : Int) (h : xH) : Option ((Int × xH) ⊕ xH) :=
  if h 70 7 < 12 then (if l1 < h 70 6 then (xgd (h 70 7) 12 (xlet (xup h 76 (h 70 7) l1) (fun h1 => xlet (xup h1 70 7 (w32 ((h1 70 7) + 1))) (fun h2 => xgd l1 13 (xc1 (f_Mend_taken (h2 75 l1) h2) (fun r3 => xlet (w32 (l1 + r3)) (fun x4 => some (Sum.inl (x4, h2))))))))) else (some (Sum.inr h))) else (some (Sum.inr h))
noncomputable def f_Mend_choose_44 (l1 : Int) (h : xH) : Option (Int × xH) :=
  xc1 (xloop (fun s : (Int × xH) => f_Mend_choose_s44 s.1 s.2) (l1, h)) (fun b => f_Mend_choose_96 b)
noncomputable def f_Mend_choose_42  (h : xH) : Option (Int × xH) :=
  f_Mend_choose_44 0 h
noncomputable def f_Mend_choose_s7 (l1 : Int) (h : xH) : Option ((Int × xH) ⊕ xH) :=
  if l1 < 0 then (some (Sum.inr h)) else (xc1 (f_Mend_bestKind l1 h) (fun r1 => xgd l1 13 (xlet (xup h 75 l1 r1) (fun h2 => xc1 (f_Mend_sumBy r1 l1 h2) (fun r3 => xgd l1 13 (xlet (xup h2 74 l1 r3) (fun h4 => xlet (w32 (l1 + (-1))) (fun x5 => some (Sum.inl (x5, h4))))))))))
noncomputable def f_Mend_choose_7 (l1 : Int) (h : xH) : Option (Int × xH) :=
  xc1 (xloop (fun s : (Int × xH) => f_Mend_choose_s7 s.1 s.2) (l1, h)) (fun b => f_Mend_choose_42 b)
noncomputable def f_Mend_choose  (h : xH) : Option (Int × xH) :=
  xlet (w32 ((h 70 6) - 1)) (fun x1 => f_Mend_choose_7 x1 h)
noncomputable def f_WM_mend_193  (h : xH) : Option (Int × xH) :=
  xc2 (f_Mend_choose h) (fun r1 h2 => some (r1, h2))
noncomputable def f_WM_mend_187 (l1 : Int) (l3 : Int) (h : xH) : Option ((Int × xH) ⊕ xH) :=
  xlet (w32 (l3 + 1)) (fun x1 => some (Sum.inl (x1, h)))
noncomputable def f_WM_mend_s109 (l1 : Int) (l3 : Int) (h : xH) : Option ((Int × xH) ⊕ xH) :=
  if l3 < h 25 2 then (xc1 (f_WM_offerSplit l3 h) (fun h1 => xc1 (f_Mend_offers 0 l3 h1) (fun r2 => if r2 = 0 then (xc1 (f_WM_offerJoin l3 h1) (fun h3 => xc1 (f_Mend_offer 4 l3 (w32 (l1 + 1)) (-1) (-1) h3) (fun h4 => xc1 (f_Rows_copyTo 25 l3 23 h4) (fun h5 => xc1 (f_Walk_go 23 l1 0 h5) (fun h6 => xc1 (f_WM_offerMended l3 l1 h6) (fun h7 => f_WM_mend_187 l1 l3 h7)))))) else (f_WM_mend_187 l1 l3 h1)))) else (some (Sum.inr h))
noncomputable def f_WM_mend_109 (l1 : Int) (l3 : Int) (h : xH) : Option (Int × xH) :=
  xc1 (xloop (fun s : (Int × xH) => f_WM_mend_s109 l1 s.1 s.2) (l3, h)) (fun b => f_WM_mend_193 b)
noncomputable def f_WM_mend_107 (l1 : Int) (h : xH) : Option (Int × xH) :=
  f_WM_mend_109 l1 0 h
noncomputable def f_WM_mend_101 (l1 : Int) (l3 : Int) (h : xH) : Option ((Int × xH) ⊕ xH) :=
  xlet (w32 (l3 + 1)) (fun x1 => some (Sum.inl (x1, h)))
noncomputable def f_WM_mend_s46 (l1 : Int) (l3 : Int) (h : xH) : Option ((Int × xH) ⊕ xH) :=
  if l3 < h 25 2 then (xc1 (f_Rows_copyTo 25 l3 23 h) (fun h1 => xc1 (f_Lex_numberOf 23 h1) (fun r2 => if r2 = (-1) then (f_WM_mend_101 l1 l3 h1) else (xc1 (f_Mend_offer 0 l3 0 r2 (-1) h1) (fun h3 => f_WM_mend_101 l1 l3 h3))))) else (some (Sum.inr h))
noncomputable def f_WM_mend_46 (l1 : Int) (l3 : Int) (h : xH) : Option (Int × xH) :=
  xc1 (xloop (fun s : (Int × xH) => f_WM_mend_s46 l1 s.1 s.2) (l3, h)) (fun b => f_WM_mend_107 l1 b)
noncomputable def f_WM_mend (l1 : Int) (h : xH) : Option (Int × xH) :=
  xc2 (f_Tape_takeText 25 23 h) (fun r1 h2 => if r1 = 0 then (some ((-2), h2)) else (xc1 (f_WM_isNoBound l1 h2) (fun r3 => if r3 = 0 then (xc1 (f_Mend_clear (h2 25 2) h2) (fun h4 => f_WM_mend_46 l1 0 h4)) else (some ((-2), h2)))))
noncomputable def f_Mend_tell_76 (l2 : Int) (l3 : Int) (s0 : Int) (h : xH) : Option Int :=
  xc1 (f_Mend_cellOf s0 l3 h) (fun r1 => if r1 = (-1) then (some (-1)) else (if l2 = 0 then (some s0) else (if l2 = 1 then (xgd r1 60 (some (h 71 r1))) else (if l2 = 2 then (xgd r1 60 (some (h 72 r1))) else (if l2 = 3 then (xgd r1 60 (some (h 73 r1))) else (xc1 (f_Mend_taken s0 h) (fun r2 => some r2)))))))
noncomputable def f_Mend_tell_75 (l2 : Int) (l3 : Int) (h : xH) : Option Int :=
  f_Mend_tell_76 l2 l3 (-1) h
noncomputable def f_Mend_tell_52 (l2 : Int) (s0 : Int) (h : xH) : Option Int :=
  if s0 < 0 then (f_Mend_tell_75 l2 s0 h) else (if s0 < 13 then (xgd s0 13 (f_Mend_tell_76 l2 s0 (h 75 s0) h)) else (f_Mend_tell_75 l2 s0 h))
noncomputable def f_Mend_tell_51 (l2 : Int) (h : xH) : Option Int :=
  f_Mend_tell_52 l2 (-1) h
noncomputable def f_Mend_tell (l1 : Int) (l2 : Int) (h : xH) : Option Int :=
  if l1 = (-1) then (if l2 = 1 then (xgd 0 13 (some (h 74 0))) else (some (-1))) else (if l1 < 0 then (f_Mend_tell_51 l2 h) else (if l1 < h 70 7 then (if l1 < 12 then (xgd l1 12 (f_Mend_tell_52 l2 (h 76 l1) h)) else (f_Mend_tell_51 l2 h)) else (f_Mend_tell_51 l2 h)))
noncomputable def f_WM_part_9  (h : xH) : Option Int :=
  some (-2)
noncomputable def f_WM_part (l1 : Int) (l2 : Int) (h : xH) : Option Int :=
  if l2 < 0 then (f_WM_part_9 h) else (if 4 < l2 then (f_WM_part_9 h) else (xc1 (f_Mend_tell l1 l2 h) (fun r1 => some r1)))
noncomputable def f_WM_isThing_38 (l2 : Int) (h : xH) : Option Int :=
  if l2 < 0 then (some 0) else (if l2 < h 5 2 then (some 1) else (some 0))
noncomputable def f_WM_isThing (l1 : Int) (l2 : Int) (h : xH) : Option Int :=
  if l1 = 0 then (some 1) else (if l1 = 1 then (f_WM_isThing_38 l2 h) else (if l1 = 2 then (if l2 < 0 then (some 0) else (if l2 < h 49 5 then (some 1) else (some 0))) else (if l1 = 3 then (some 1) else (if l1 = 4 then (f_WM_isThing_38 l2 h) else (some 0)))))
noncomputable def f_Trays_refuse (l1 : Int) (h : xH) : Option (Int × xH) :=
  xlet (xup h 77 3 l1) (fun h1 => some ((-1), h1))
noncomputable def f_Trays_clear (l1 : Int) (l2 : Int) (h : xH) : Option xH :=
  if l1 < 0 then (some h) else (if l1 < 8 then (xgd l1 8 (xlet (xup h 78 l1 l2) (fun h1 => xgd l1 8 (xlet (xup h1 79 l1 0) (fun h2 => some h2))))) else (some h))
noncomputable def f_Trays_lay (l1 : Int) (l2 : Int) (h : xH) : Option xH :=
  if l1 < 0 then (some h) else (if l1 < 8 then (xgd l1 8 (if h 79 l1 < 0 then (some h) else (xgd l1 8 (if h 79 l1 < 26 then (xgd l1 8 (xgd (w32 ((w32 (l1 * 26)) + (h 79 l1))) 208 (xlet (xup h 80 (w32 ((w32 (l1 * 26)) + (h 79 l1))) l2) (fun h1 => xgd l1 8 (xgd l1 8 (xlet (xup h1 79 l1 (w32 ((h1 79 l1) + 1))) (fun h2 => some h2))))))) else (some h))))) else (some h))
noncomputable def f_WM_layLetters_43  (h : xH) : Option xH :=
  some h
noncomputable def f_WM_layLetters_s2 (l1 : Int) (l2 : Int) (l3 : Int) (h : xH) : Option ((Int × xH) ⊕ xH) :=
  xc1 (f_Rows_sizeOf 5 l2 h) (fun r1 => if l3 < r1 then (xc1 (f_Rows_at 5 l2 l3 h) (fun r2 => xc1 (f_Trays_lay l1 r2 h) (fun h3 => xlet (w32 (l3 + 1)) (fun x4 => some (Sum.inl (x4, h3)))))) else (some (Sum.inr h)))
noncomputable def f_WM_layLetters_2 (l1 : Int) (l2 : Int) (l3 : Int) (h : xH) : Option xH :=
  xc1 (xloop (fun s : (Int × xH) => f_WM_layLetters_s2 l1 l2 s.1 s.2) (l3, h)) (fun b => f_WM_layLetters_43 b)
noncomputable def f_WM_layLetters (l1 : Int) (l2 : Int) (h : xH) : Option xH :=
  f_WM_layLetters_2 l1 l2 0 h
noncomputable def f_WM_layState_42  (h : xH) : Option xH :=
  some h
noncomputable def f_WM_layState_s2 (l1 : Int) (l2 : Int) (l3 : Int) (h : xH) : Option ((Int × xH) ⊕ xH) :=
  if l3 < h 49 7 then (xc1 (f_Met_stateAt l2 l3 h) (fun r1 => xc1 (f_Trays_lay l1 r1 h) (fun h2 => xlet (w32 (l3 + 1)) (fun x3 => some (Sum.inl (x3, h2)))))) else (some (Sum.inr h))
noncomputable def f_WM_layState_2 (l1 : Int) (l2 : Int) (l3 : Int) (h : xH) : Option xH :=
  xc1 (xloop (fun s : (Int × xH) => f_WM_layState_s2 l1 l2 s.1 s.2) (l3, h)) (fun b => f_WM_layState_42 b)
noncomputable def f_WM_layState (l1 : Int) (l2 : Int) (h : xH) : Option xH :=
  f_WM_layState_2 l1 l2 0 h
noncomputable def f_WM_layPrices_30  (h : xH) : Option xH :=
  some h
noncomputable def f_WM_layPrices_s2 (l1 : Int) (l2 : Int) (h : xH) : Option ((Int × xH) ⊕ xH) :=
  if 6 < l2 then (some (Sum.inr h)) else (xc1 (f_Slips_kindPrice l2 h) (fun r1 => xc1 (f_Trays_lay l1 r1 h) (fun h2 => xlet (w32 (l2 + 1)) (fun x3 => some (Sum.inl (x3, h2))))))
noncomputable def f_WM_layPrices_2 (l1 : Int) (l2 : Int) (h : xH) : Option xH :=
  xc1 (xloop (fun s : (Int × xH) => f_WM_layPrices_s2 l1 s.1 s.2) (l2, h)) (fun b => f_WM_layPrices_30 b)
noncomputable def f_WM_layPrices (l1 : Int) (h : xH) : Option xH :=
  f_WM_layPrices_2 l1 1 h
noncomputable def f_WM_layTruths_72  (h : xH) : Option xH :=
  some h
noncomputable def f_WM_layTruths_56 (l1 : Int) (l2 : Int) (l3 : Int) (l4 : Int) (h : xH) : Option ((Int × xH) ⊕ xH) :=
  xc1 (f_Trays_lay l1 l4 h) (fun h1 => xlet (w32 (l3 + 1)) (fun x2 => some (Sum.inl (x2, h1))))
noncomputable def f_WM_layTruths_50 (l1 : Int) (l2 : Int) (l3 : Int) (l4 : Int) (l5 : Int) (h : xH) : Option ((Int × Int) ⊕ Int) :=
  xlet (w32 (l5 + 1)) (fun x1 => some (Sum.inl (l4, x1)))
noncomputable def f_WM_layTruths_s14 (l1 : Int) (l2 : Int) (l3 : Int) (l4 : Int) (l5 : Int) (h : xH) : Option ((Int × Int) ⊕ Int) :=
  xc1 (f_Rows_sizeOf 5 l2 h) (fun r1 => if l5 < r1 then (xc1 (f_Rows_at 5 l2 l5 h) (fun r2 => if r2 = l3 then (f_WM_layTruths_50 l1 l2 l3 1 l5 h) else (f_WM_layTruths_50 l1 l2 l3 l4 l5 h))) else (some (Sum.inr l4)))
noncomputable def f_WM_layTruths_14 (l1 : Int) (l2 : Int) (l3 : Int) (l4 : Int) (l5 : Int) (h : xH) : Option ((Int × xH) ⊕ xH) :=
  xc1 (xloop (fun s : (Int × Int) => f_WM_layTruths_s14 l1 l2 l3 s.1 s.2 h) (l4, l5)) (fun b => f_WM_layTruths_56 l1 l2 l3 b h)
noncomputable def f_WM_layTruths_s2 (l1 : Int) (l2 : Int) (l3 : Int) (h : xH) : Option ((Int × xH) ⊕ xH) :=
  if l3 < 26 then (f_WM_layTruths_14 l1 l2 l3 0 0 h) else (some (Sum.inr h))
noncomputable def f_WM_layTruths_2 (l1 : Int) (l2 : Int) (l3 : Int) (h : xH) : Option xH :=
  xc1 (xloop (fun s : (Int × xH) => f_WM_layTruths_s2 l1 l2 s.1 s.2) (l3, h)) (fun b => f_WM_layTruths_72 b)
noncomputable def f_WM_layTruths (l1 : Int) (l2 : Int) (h : xH) : Option xH :=
  f_WM_layTruths_2 l1 l2 0 h
noncomputable def f_Trays_done (l1 : Int) (h : xH) : Option (Int × xH) :=
  xlet (xup h 77 3 0) (fun h1 => some (l1, h1))
noncomputable def f_WM_put_89  (h : xH) : Option (Int × xH) :=
  xc2 (f_Trays_done 1 h) (fun r1 h2 => some (r1, h2))
noncomputable def f_WM_put_19  (h : xH) : Option (Int × xH) :=
  xc2 (f_Trays_refuse 1 h) (fun r1 h2 => some (r1, h2))
noncomputable def f_WM_put (l1 : Int) (l2 : Int) (l3 : Int) (h : xH) : Option (Int × xH) :=
  if l1 < 0 then (f_WM_put_19 h) else (if l1 < 8 then (xc1 (f_WM_isThing l2 l3 h) (fun r1 => if r1 = 0 then (f_WM_put_19 h) else (xc1 (f_Trays_clear l1 l2 h) (fun h2 => if l2 = 1 then (xc1 (f_WM_layLetters l1 l3 h2) (fun h3 => f_WM_put_89 h3)) else (if l2 = 2 then (xc1 (f_WM_layState l1 l3 h2) (fun h4 => f_WM_put_89 h4)) else (if l2 = 3 then (xc1 (f_WM_layPrices l1 h2) (fun h5 => f_WM_put_89 h5)) else (if l2 = 4 then (xc1 (f_WM_layTruths l1 l3 h2) (fun h6 => f_WM_put_89 h6)) else (f_WM_put_89 h2)))))))) else (f_WM_put_19 h))
noncomputable def f_Trays_whyNot (l1 : Int) (l2 : Int) (h : xH) : Option Int :=
  if l1 < 0 then (some 1) else (if l1 < 8 then (xgd l1 8 (if h 78 l1 = 0 then (some 10) else (xgd l1 8 (if h 78 l1 = l2 then (some 0) else (some 11))))) else (some 1))
noncomputable def f_Trays_read_43  (h : xH) : Option (Int × xH) :=
  xc2 (f_Trays_refuse 12 h) (fun r1 h2 => some (r1, h2))
noncomputable def f_Trays_read (l1 : Int) (l2 : Int) (l3 : Int) (h : xH) : Option (Int × xH) :=
  xc1 (f_Trays_whyNot l1 l2 h) (fun r1 => if r1 = 0 then (xgd l1 8 (xlet (min (h 79 l1) 26) (fun x2 => if l3 < 0 then (f_Trays_read_43 h) else (if l3 < x2 then (xgd (w32 ((w32 (l1 * 26)) + l3)) 208 (xc2 (f_Trays_done (h 80 (w32 ((w32 (l1 * 26)) + l3))) h) (fun r3 h4 => some (r3, h4)))) else (f_Trays_read_43 h))))) else (xc2 (f_Trays_refuse r1 h) (fun r5 h6 => some (r5, h6))))
noncomputable def f_Trays_copy_95 (l5 : Int) (h : xH) : Option (Int × xH) :=
  xc2 (f_Trays_done l5 h) (fun r1 h2 => some (r1, h2))
noncomputable def f_Trays_copy_s63 (l1 : Int) (l2 : Int) (l5 : Int) (l6 : Int) (h : xH) : Option ((Int × Int) ⊕ Int) :=
  if l2 < l6 then (some (Sum.inr l5)) else (xgd (w32 ((w32 (l1 * 26)) + l6)) 208 (xlet (w32 (l5 + (w32 (97 + (h 80 (w32 ((w32 (l1 * 26)) + l6))))))) (fun x1 => xlet (w32 (l6 + 1)) (fun x2 => some (Sum.inl (x1, x2))))))
noncomputable def f_Trays_copy_63 (l1 : Int) (l2 : Int) (l5 : Int) (l6 : Int) (h : xH) : Option (Int × xH) :=
  xc1 (xloop (fun s : (Int × Int) => f_Trays_copy_s63 l1 l2 s.1 s.2 h) (l5, l6)) (fun b => f_Trays_copy_95 b h)
noncomputable def f_Trays_copy_50  (h : xH) : Option (Int × xH) :=
  xc2 (f_Trays_refuse 12 h) (fun r1 h2 => some (r1, h2))
noncomputable def f_Trays_copy (l1 : Int) (l2 : Int) (h : xH) : Option (Int × xH) :=
  xc1 (f_Trays_whyNot l1 1 h) (fun r1 => if r1 = 0 then (xgd l1 8 (xlet (min (h 79 l1) 26) (fun x2 => if l2 < 0 then (f_Trays_copy_50 h) else (if x2 < w32 (1 + l2) then (f_Trays_copy_50 h) else (if 6 < w32 (l2 + l2) then (f_Trays_copy_50 h) else (f_Trays_copy_63 l1 l2 0 1 h)))))) else (xc2 (f_Trays_refuse r1 h) (fun r3 h4 => some (r3, h4))))
noncomputable def f_Trays_layAmongStates (l1 : Int) (h : xH) : Option (Int × xH) :=
  xc1 (f_Trays_whyNot l1 2 h) (fun r1 => if r1 = 10 then (xc2 (f_Trays_done 0 h) (fun r2 h3 => some (r2, h3))) else (if r1 = 0 then (xgd l1 8 (xc2 (f_Trays_done (h 79 l1) h) (fun r4 h5 => some (r4, h5)))) else (xc2 (f_Trays_refuse 14 h) (fun r6 h7 => some (r6, h7)))))
noncomputable def f_Trays_work_22  (h : xH) : Option (Int × xH) :=
  xc2 (f_Trays_refuse 1 h) (fun r1 h2 => some (r1, h2))
noncomputable def f_Trays_work (l1 : Int) (l2 : Int) (l3 : Int) (h : xH) : Option (Int × xH) :=
  if l1 < 0 then (f_Trays_work_22 h) else (if l1 < 8 then (if l3 < (-100) then (f_Trays_work_22 h) else (if 100 < l3 then (f_Trays_work_22 h) else (if l2 = 0 then (xc2 (f_Trays_read l1 1 l3 h) (fun r1 h2 => some (r1, h2))) else (if l2 = 1 then (xc2 (f_Trays_read l1 2 l3 h) (fun r3 h4 => some (r3, h4))) else (if l2 = 2 then (xc2 (f_Trays_read l1 3 l3 h) (fun r5 h6 => some (r5, h6))) else (if l2 = 3 then (xc2 (f_Trays_read l1 4 l3 h) (fun r7 h8 => some (r7, h8))) else (if l2 = 4 then (if l3 < 0 then (xc2 (f_Trays_refuse 13 h) (fun r9 h10 => some (r9, h10))) else (xc2 (f_Trays_done l3 h) (fun r11 h12 => some (r11, h12)))) else (if l2 = 5 then (xc2 (f_Trays_copy l1 l3 h) (fun r13 h14 => some (r13, h14))) else (if l2 = 6 then (xc2 (f_Trays_layAmongStates l1 h) (fun r15 h16 => some (r15, h16))) else (if l2 = 7 then (if l3 = 0 then (xc2 (f_Trays_refuse 15 h) (fun r17 h18 => some (r17, h18))) else (xgp (l3 ≠ 0) (xc2 (f_Trays_done (xdiv 1000 l3) h) (fun r19 h20 => some (r19, h20))))) else (if l2 = 8 then (xc2 (f_Trays_refuse 10 h) (fun r21 h22 => some (r21, h22))) else (xc2 (f_Trays_refuse 1 h) (fun r23 h24 => some (r23, h24)))))))))))))) else (f_Trays_work_22 h))
noncomputable def f_WM_forge (l1 : Int) (l2 : Int) (l3 : Int) (h : xH) : Option (Int × xH) :=
  xc2 (f_Trays_work l1 l2 l3 h) (fun r1 h2 => some (r1, h2))
noncomputable def f_WM_status  (h : xH) : Option Int :=
  some (h 77 3)
noncomputable def f_Md_in (l0 : Int) (l1 : Int) (l2 : Int) (h : xH) : Option Int :=
  if l0 < l1 then (some 0) else (if l2 < l0 then (some 0) else (some 1))
noncomputable def f_Md_min (l0 : Int) (l1 : Int) (h : xH) : Option Int :=
  if l0 < l1 then (some l0) else (some l1)
noncomputable def f_Md_feed_71  (h : xH) : Option (Int × xH) :=
  some (h 81 1, h)
noncomputable def f_Md_feed_s31 (l1 : Int) (l2 : Int64) (l4 : Int) (h : xH) : Option ((Int × xH) ⊕ xH) :=
  if l4 < l1 then (xlet (xup h 81 1 (w32 ((h 81 1) + 1))) (fun h1 => xgd (h 81 1) 240 (xlet (xup h1 82 (h 81 1) (xand ((Int64.toInt32 (xlshr l2 (w32 (8 * l4)))).toInt) 255)) (fun h2 => xlet (w32 (l4 + 1)) (fun x3 => some (Sum.inl (x3, h2))))))) else (some (Sum.inr h))
noncomputable def f_Md_feed_31 (l1 : Int) (l2 : Int64) (l4 : Int) (h : xH) : Option (Int × xH) :=
  xc1 (xloop (fun s : (Int × xH) => f_Md_feed_s31 l1 l2 s.1 s.2) (l4, h)) (fun b => f_Md_feed_71 b)
noncomputable def f_Md_feed (l1 : Int) (l2 : Int64) (h : xH) : Option (Int × xH) :=
  xc1 (f_Md_in l1 1 8 h) (fun r1 => if r1 = 0 then (some ((-2), h)) else (if 240 < w32 ((h 81 1) + l1) then (some ((-4), h)) else (f_Md_feed_31 l1 l2 0 h)))
noncomputable def f_Md_reads_151  (h : xH) : Option (Int × xH) :=
  some (1, h)
noncomputable def f_Md_reads_145 (l1 : Int) (l2 : Int) (l3 : Int) (l4 : Int) (l5 : Int) (l6 : Int) (h : xH) : Option ((Int × Int × xH) ⊕ (xH ⊕ (Int × xH))) :=
  xlet (w32 (l6 + 1)) (fun x1 => some (Sum.inl (l5, x1, h)))
noncomputable def f_Md_reads_47 (l1 : Int) (l2 : Int) (l3 : Int) (l4 : Int) (l5 : Int) (l6 : Int) (h : xH) : Option ((Int × Int × xH) ⊕ (xH ⊕ (Int × xH))) :=
  if l5 = 0 then (some (Sum.inr (Sum.inr (0, h)))) else (xlet (xup h 81 2 (w32 ((h 81 2) + 1))) (fun h1 => xgd (h 81 2) 12 (xlet (xup h1 83 (h 81 2) l5) (fun h2 => if l6 < l4 then (if h2 81 2 = l2 then (some (Sum.inr (Sum.inr (0, h2)))) else (f_Md_reads_145 l1 l2 l3 l4 0 l6 h2)) else (f_Md_reads_145 l1 l2 l3 l4 0 l6 h2)))))
noncomputable def f_Md_reads_s22 (l1 : Int) (l2 : Int) (l3 : Int) (l4 : Int) (l5 : Int) (l6 : Int) (h : xH) : Option ((Int × Int × xH) ⊕ (xH ⊕ (Int × xH))) :=
  if l4 < l6 then (some (Sum.inr (Sum.inl h))) else (if l6 = l4 then (f_Md_reads_47 l1 l2 l3 l4 l5 l6 h) else (xgd l6 240 (if h 82 l6 = l1 then (f_Md_reads_47 l1 l2 l3 l4 l5 l6 h) else (xgd l6 240 (xc1 (f_Md_in (h 82 l6) 97 122 h) (fun r1 => if r1 = 0 then (some (Sum.inr (Sum.inr (0, h)))) else (if l5 = l3 then (some (Sum.inr (Sum.inr (0, h)))) else (xlet (w32 (l5 + 1)) (fun x2 => xgd l6 240 (xgd (w32 ((w32 (12 * (h 81 2))) + l5)) 144 (xlet (xup h 84 (w32 ((w32 (12 * (h 81 2))) + l5)) (w32 ((h 82 l6) - 97))) (fun h3 => f_Md_reads_145 l1 l2 l3 l4 x2 l6 h3))))))))))))
noncomputable def f_Md_reads_22 (l1 : Int) (l2 : Int) (l3 : Int) (l4 : Int) (l5 : Int) (l6 : Int) (h : xH) : Option (Int × xH) :=
  xc1 (xloop (fun s : (Int × Int × xH) => f_Md_reads_s22 l1 l2 l3 l4 s.1 s.2.1 s.2.2) (l5, l6, h)) (fun q => xsw q (fun b => f_Md_reads_151 b) (fun r => some r))
noncomputable def f_Md_reads (l1 : Int) (l2 : Int) (l3 : Int) (h : xH) : Option (Int × xH) :=
  xlet (xup h 81 2 0) (fun h1 => xlet (h1 81 1) (fun x2 => xlet (xup h1 81 1 0) (fun h3 => f_Md_reads_22 l1 l2 l3 x2 0 0 h3)))
noncomputable def f_Md_readsOne  (h : xH) : Option (Int × xH) :=
  xc2 (f_Md_reads 0 1 12 h) (fun r1 h2 => xgb r1 (some (r1, h2)))
noncomputable def f_Md_readsTwo (l1 : Int) (h : xH) : Option (Int × xH) :=
  xc2 (f_Md_reads 61 2 l1 h) (fun r1 h2 => if r1 = 0 then (some (0, h2)) else (if h2 81 2 = 2 then (some (1, h2)) else (some (0, h2))))
noncomputable def f_Md_takeA_43  (h : xH) : Option xH :=
  some h
noncomputable def f_Md_takeA_s12 (l1 : Int) (l2 : Int) (h : xH) : Option ((Int × xH) ⊕ xH) :=
  if l2 < h 81 22 then (xgd (w32 ((w32 (12 * l1)) + l2)) 144 (xgd l2 12 (xlet (xup h 97 l2 (h 84 (w32 ((w32 (12 * l1)) + l2)))) (fun h1 => xlet (w32 (l2 + 1)) (fun x2 => some (Sum.inl (x2, h1))))))) else (some (Sum.inr h))
noncomputable def f_Md_takeA_12 (l1 : Int) (l2 : Int) (h : xH) : Option xH :=
  xc1 (xloop (fun s : (Int × xH) => f_Md_takeA_s12 l1 s.1 s.2) (l2, h)) (fun b => f_Md_takeA_43 b)
noncomputable def f_Md_takeA (l1 : Int) (h : xH) : Option xH :=
  xgd l1 12 (xlet (xup h 81 22 (h 83 l1)) (fun h1 => f_Md_takeA_12 l1 0 h1))
noncomputable def f_Md_takeB_43  (h : xH) : Option xH :=
  some h
noncomputable def f_Md_takeB_s12 (l1 : Int) (l2 : Int) (h : xH) : Option ((Int × xH) ⊕ xH) :=
  if l2 < h 81 23 then (xgd (w32 ((w32 (12 * l1)) + l2)) 144 (xgd l2 12 (xlet (xup h 98 l2 (h 84 (w32 ((w32 (12 * l1)) + l2)))) (fun h1 => xlet (w32 (l2 + 1)) (fun x2 => some (Sum.inl (x2, h1))))))) else (some (Sum.inr h))
noncomputable def f_Md_takeB_12 (l1 : Int) (l2 : Int) (h : xH) : Option xH :=
  xc1 (xloop (fun s : (Int × xH) => f_Md_takeB_s12 l1 s.1 s.2) (l2, h)) (fun b => f_Md_takeB_43 b)
noncomputable def f_Md_takeB (l1 : Int) (h : xH) : Option xH :=
  xgd l1 12 (xlet (xup h 81 23 (h 83 l1)) (fun h1 => f_Md_takeB_12 l1 0 h1))
noncomputable def f_Md_wordA_43  (h : xH) : Option xH :=
  some h
noncomputable def f_Md_wordA_s12 (l1 : Int) (l2 : Int) (h : xH) : Option ((Int × xH) ⊕ xH) :=
  if l2 < h 81 22 then (xgd (w32 ((w32 (12 * l1)) + l2)) 2400 (xgd l2 12 (xlet (xup h 97 l2 (h 86 (w32 ((w32 (12 * l1)) + l2)))) (fun h1 => xlet (w32 (l2 + 1)) (fun x2 => some (Sum.inl (x2, h1))))))) else (some (Sum.inr h))
noncomputable def f_Md_wordA_12 (l1 : Int) (l2 : Int) (h : xH) : Option xH :=
  xc1 (xloop (fun s : (Int × xH) => f_Md_wordA_s12 l1 s.1 s.2) (l2, h)) (fun b => f_Md_wordA_43 b)
noncomputable def f_Md_wordA (l1 : Int) (h : xH) : Option xH :=
  xgd l1 200 (xlet (xup h 81 22 (h 85 l1)) (fun h1 => f_Md_wordA_12 l1 0 h1))
noncomputable def f_Md_compares_64 (l1 : Int) (l2 : Int) (h : xH) : Option Int :=
  xgd l1 200 (if h 85 l1 < l2 then (some (-1)) else (xgd l1 200 (if l2 < h 85 l1 then (some 1) else (some 0))))
noncomputable def f_Md_compares_s3 (l1 : Int) (l2 : Int) (l3 : Int) (l4 : Int) (l5 : Int) (h : xH) : Option (Int ⊕ (Unit ⊕ Int)) :=
  xgd l1 200 (if l5 < h 85 l1 then (if l5 < l2 then (xgd (w32 ((w32 (12 * l1)) + l5)) 2400 (xgd (w32 (l4 + l5)) (xN l3 : Int) (xlet (w32 ((h 86 (w32 ((w32 (12 * l1)) + l5))) - (h l3 (w32 (l4 + l5))))) (fun x1 => if x1 = 0 then (xlet (w32 (l5 + 1)) (fun x2 => some (Sum.inl x2))) else (if x1 < 0 then (some (Sum.inr (Sum.inr (-1)))) else (some (Sum.inr (Sum.inr 1)))))))) else (some (Sum.inr (Sum.inl ())))) else (some (Sum.inr (Sum.inl ()))))
noncomputable def f_Md_compares_3 (l1 : Int) (l2 : Int) (l3 : Int) (l4 : Int) (l5 : Int) (h : xH) : Option Int :=
  xc1 (xloop (fun s : Int => f_Md_compares_s3 l1 l2 l3 l4 s h) l5) (fun q => xsw q (fun b => f_Md_compares_64 l1 l2 h) (fun r => some r))
noncomputable def f_Md_compares (l1 : Int) (l2 : Int) (l3 : Int) (l4 : Int) (h : xH) : Option Int :=
  f_Md_compares_3 l1 l2 l3 l4 0 h
noncomputable def f_Md_wordOf_33  (h : xH) : Option Int :=
  some (-1)
noncomputable def f_Md_wordOf_s3 (l1 : Int) (l2 : Int) (l3 : Int) (l4 : Int) (h : xH) : Option (Int ⊕ (Unit ⊕ Int)) :=
  if l4 < h 81 5 then (xc1 (f_Md_compares l4 l1 l2 l3 h) (fun r1 => if r1 = 0 then (some (Sum.inr (Sum.inr l4))) else (xlet (w32 (l4 + 1)) (fun x2 => some (Sum.inl x2))))) else (some (Sum.inr (Sum.inl ())))
noncomputable def f_Md_wordOf_3 (l1 : Int) (l2 : Int) (l3 : Int) (l4 : Int) (h : xH) : Option Int :=
  xc1 (xloop (fun s : Int => f_Md_wordOf_s3 l1 l2 l3 s h) l4) (fun q => xsw q (fun b => f_Md_wordOf_33 h) (fun r => some r))
noncomputable def f_Md_wordOf (l1 : Int) (l2 : Int) (l3 : Int) (h : xH) : Option Int :=
  f_Md_wordOf_3 l1 l2 l3 0 h
noncomputable def f_Md_moveWord_60  (h : xH) : Option xH :=
  some h
noncomputable def f_Md_moveWord_s26 (l1 : Int) (l2 : Int) (l3 : Int) (h : xH) : Option ((Int × xH) ⊕ xH) :=
  if l3 < 12 then (xgd (w32 ((w32 (12 * l1)) + l3)) 2400 (xgd (w32 ((w32 (12 * l2)) + l3)) 2400 (xlet (xup h 86 (w32 ((w32 (12 * l2)) + l3)) (h 86 (w32 ((w32 (12 * l1)) + l3)))) (fun h1 => xlet (w32 (l3 + 1)) (fun x2 => some (Sum.inl (x2, h1))))))) else (some (Sum.inr h))
noncomputable def f_Md_moveWord_26 (l1 : Int) (l2 : Int) (l3 : Int) (h : xH) : Option xH :=
  xc1 (xloop (fun s : (Int × xH) => f_Md_moveWord_s26 l1 l2 s.1 s.2) (l3, h)) (fun b => f_Md_moveWord_60 b)
noncomputable def f_Md_moveWord (l1 : Int) (l2 : Int) (h : xH) : Option xH :=
  xgd l1 200 (xgd l2 200 (xlet (xup h 85 l2 (h 85 l1)) (fun h1 => xgd l1 200 (xgd l2 200 (xlet (xup h1 87 l2 (h1 87 l1)) (fun h2 => f_Md_moveWord_26 l1 l2 0 h2))))))
noncomputable def f_Md_add_212 (l1 : Int) (l4 : Int) (h : xH) : Option (Int × xH) :=
  xgd l4 200 (xlet (xup h 87 l4 l1) (fun h1 => some (l1, h1)))
noncomputable def f_Md_add_s175 (l1 : Int) (l4 : Int) (l5 : Int) (h : xH) : Option ((Int × xH) ⊕ xH) :=
  xgd 0 12 (if l5 < h 83 0 then (xgd l5 144 (xgd (w32 ((w32 (12 * l4)) + l5)) 2400 (xlet (xup h 86 (w32 ((w32 (12 * l4)) + l5)) (h 84 l5)) (fun h1 => xlet (w32 (l5 + 1)) (fun x2 => some (Sum.inl (x2, h1))))))) else (some (Sum.inr h)))
noncomputable def f_Md_add_175 (l1 : Int) (l4 : Int) (l5 : Int) (h : xH) : Option (Int × xH) :=
  xc1 (xloop (fun s : (Int × xH) => f_Md_add_s175 l1 l4 s.1 s.2) (l5, h)) (fun b => f_Md_add_212 l1 l4 b)
noncomputable def f_Md_add_149 (l1 : Int) (l4 : Int) (h : xH) : Option (Int × xH) :=
  xlet (xup h 81 5 (w32 ((h 81 5) + 1))) (fun h1 => xgd 0 12 (xgd l4 200 (xlet (xup h1 85 l4 (h1 83 0)) (fun h2 => f_Md_add_175 l1 l4 0 h2))))
noncomputable def f_Md_add_s126 (l1 : Int) (l4 : Int) (l5 : Int) (h : xH) : Option ((Int × xH) ⊕ xH) :=
  if l4 < l5 then (xc1 (f_Md_moveWord (w32 (l5 - 1)) l5 h) (fun h1 => xlet (w32 (l5 + (-1))) (fun x2 => some (Sum.inl (x2, h1))))) else (some (Sum.inr h))
noncomputable def f_Md_add_126 (l1 : Int) (l4 : Int) (l5 : Int) (h : xH) : Option (Int × xH) :=
  xc1 (xloop (fun s : (Int × xH) => f_Md_add_s126 l1 l4 s.1 s.2) (l5, h)) (fun b => f_Md_add_149 l1 l4 b)
noncomputable def f_Md_add_120 (l1 : Int) (l4 : Int) (h : xH) : Option (Int × xH) :=
  xlet (h 81 5) (fun x1 => f_Md_add_126 l1 l4 x1 h)
noncomputable def f_Md_add_s85 (l1 : Int) (l4 : Int) (h : xH) : Option (Int ⊕ Int) :=
  if l4 < h 81 5 then (xgd 0 12 (xc1 (f_Md_compares l4 (h 83 0) 84 0 h) (fun r1 => if r1 < 0 then (xlet (w32 (l4 + 1)) (fun x2 => some (Sum.inl x2))) else (some (Sum.inr l4))))) else (some (Sum.inr l4))
noncomputable def f_Md_add_85 (l1 : Int) (l4 : Int) (h : xH) : Option (Int × xH) :=
  xc1 (xloop (fun s : Int => f_Md_add_s85 l1 s h) l4) (fun b => f_Md_add_120 l1 b h)
noncomputable def f_Md_add (l1 : Int) (h : xH) : Option (Int × xH) :=
  xc2 (f_Md_readsOne h) (fun r1 h2 => if r1 = 0 then (some ((-2), h2)) else (xc1 (f_Md_in l1 1 100000 h2) (fun r3 => if r3 = 0 then (some ((-2), h2)) else (xgd 0 12 (xc1 (f_Md_wordOf (h2 83 0) 84 0 h2) (fun r4 => if r4 = (-1) then (if h2 81 5 = 200 then (some ((-4), h2)) else (f_Md_add_85 l1 0 h2)) else (xgd r4 200 (xc1 (f_Md_min 100000 (w32 ((h2 87 r4) + l1)) h2) (fun r5 => xgd r4 200 (xlet (xup h2 87 r4 r5) (fun h6 => xgd r4 200 (some (h6 87 r4, h6)))))))))))))
noncomputable def f_Md_drop_66 (l2 : Int) (h : xH) : Option (Int × xH) :=
  xlet (xup h 81 5 (w32 ((h 81 5) - 1))) (fun h1 => some (l2, h1))
noncomputable def f_Md_drop_s42 (l2 : Int) (l3 : Int) (h : xH) : Option ((Int × xH) ⊕ xH) :=
  if l3 < w32 ((h 81 5) - 1) then (xc1 (f_Md_moveWord (w32 (l3 + 1)) l3 h) (fun h1 => xlet (w32 (l3 + 1)) (fun x2 => some (Sum.inl (x2, h1))))) else (some (Sum.inr h))
noncomputable def f_Md_drop_42 (l2 : Int) (l3 : Int) (h : xH) : Option (Int × xH) :=
  xc1 (xloop (fun s : (Int × xH) => f_Md_drop_s42 l2 s.1 s.2) (l3, h)) (fun b => f_Md_drop_66 l2 b)
noncomputable def f_Md_drop  (h : xH) : Option (Int × xH) :=
  xc2 (f_Md_readsOne h) (fun r1 h2 => if r1 = 0 then (some ((-2), h2)) else (xgd 0 12 (xc1 (f_Md_wordOf (h2 83 0) 84 0 h2) (fun r3 => if r3 = (-1) then (some (0, h2)) else (xgd r3 200 (xlet (h2 87 r3) (fun x4 => f_Md_drop_42 x4 r3 h2)))))))
noncomputable def f_Md_find  (h : xH) : Option (Int × xH) :=
  xc2 (f_Md_readsOne h) (fun r1 h2 => if r1 = 0 then (some ((-2), h2)) else (xgd 0 12 (xc1 (f_Md_wordOf (h2 83 0) 84 0 h2) (fun r3 => some (r3, h2)))))
noncomputable def f_Md_word (l1 : Int) (l2 : Int) (h : xH) : Option Int :=
  xc1 (f_Md_in l1 0 (w32 ((h 81 5) - 1)) h) (fun r1 => if r1 = 0 then (some (-2)) else (if l2 < 0 then (some (-2)) else (if l2 = 0 then (xgd l1 200 (some (h 87 l1))) else (if l2 = 1 then (xgd l1 200 (some (h 85 l1))) else (xgd l1 200 (if w32 (l2 - 2) < h 85 l1 then (xgd (w32 ((w32 ((w32 (12 * l1)) + l2)) - 2)) 2400 (some (h 86 (w32 ((w32 ((w32 (12 * l1)) + l2)) - 2))))) else (some (-1))))))))
noncomputable def f_Md_alike_57 (l2 : Int) (h : xH) : Option Int :=
  some l2
noncomputable def f_Md_alike_s2 (l1 : Int) (l2 : Int) (h : xH) : Option (Int ⊕ Int) :=
  xgd l1 200 (if l2 < h 85 l1 then (xgd (w32 (l1 + 1)) 200 (if l2 < h 85 (w32 (l1 + 1)) then (xgd (w32 ((w32 (12 * l1)) + l2)) 2400 (xgd (w32 ((w32 (12 * (w32 (l1 + 1)))) + l2)) 2400 (if h 86 (w32 ((w32 (12 * l1)) + l2)) = h 86 (w32 ((w32 (12 * (w32 (l1 + 1)))) + l2)) then (xlet (w32 (l2 + 1)) (fun x1 => some (Sum.inl x1))) else (some (Sum.inr l2))))) else (some (Sum.inr l2)))) else (some (Sum.inr l2)))
noncomputable def f_Md_alike_2 (l1 : Int) (l2 : Int) (h : xH) : Option Int :=
  xc1 (xloop (fun s : Int => f_Md_alike_s2 l1 s h) l2) (fun b => f_Md_alike_57 b h)
noncomputable def f_Md_alike (l1 : Int) (h : xH) : Option Int :=
  f_Md_alike_2 l1 0 h
noncomputable def f_Md_nodes_53 (l1 : Int) (h : xH) : Option Int :=
  some l1
noncomputable def f_Md_nodes_s20 (l1 : Int) (l2 : Int) (h : xH) : Option ((Int × Int) ⊕ Int) :=
  if w32 (l2 + 1) < h 81 5 then (xgd (w32 (l2 + 1)) 200 (xc1 (f_Md_alike l2 h) (fun r1 => xlet (w32 (l1 + (w32 ((h 85 (w32 (l2 + 1))) - r1)))) (fun x2 => xlet (w32 (l2 + 1)) (fun x3 => some (Sum.inl (x2, x3))))))) else (some (Sum.inr l1))
noncomputable def f_Md_nodes_20 (l1 : Int) (l2 : Int) (h : xH) : Option Int :=
  xc1 (xloop (fun s : (Int × Int) => f_Md_nodes_s20 s.1 s.2 h) (l1, l2)) (fun b => f_Md_nodes_53 b h)
noncomputable def f_Md_nodes  (h : xH) : Option Int :=
  if h 81 5 = 0 then (some 0) else (xgd 0 200 (xlet (w32 (1 + (h 85 0))) (fun x1 => f_Md_nodes_20 x1 0 h)))
noncomputable def f_Md_count (l1 : Int) (h : xH) : Option Int :=
  if l1 = 0 then (some (h 81 5)) else (if l1 = 1 then (xc1 (f_Md_nodes h) (fun r1 => some r1)) else (if l1 = 2 then (some (h 81 16)) else (if l1 = 3 then (some (h 81 61)) else (if l1 = 4 then (some (h 81 1)) else (if l1 = 5 then (some (h 81 39)) else (if l1 = 6 then (some (h 81 40)) else (if l1 = 7 then (some (h 81 53)) else (some (-2)))))))))
noncomputable def f_Md_price_99 (l1 : Int) (l2 : Int) (l3 : Int) (l4 : Int) (h : xH) : Option (Int × xH) :=
  xc1 (f_Md_in l4 0 9999 h) (fun r1 => if r1 = 0 then (some ((-2), h)) else (xc1 (f_Md_in l2 0 25 h) (fun r2 => if r2 = 0 then (some ((-2), h)) else (if l1 = 1 then (xc1 (f_Md_in l3 0 25 h) (fun r3 => if r3 = 0 then (some ((-2), h)) else (if l2 = l3 then (some ((-2), h)) else (xgd (w32 ((w32 (26 * l2)) + l3)) 676 (xlet (h 89 (w32 ((w32 (26 * l2)) + l3))) (fun x4 => xgd (w32 ((w32 (26 * l2)) + l3)) 676 (xlet (xup h 89 (w32 ((w32 (26 * l2)) + l3)) l4) (fun h5 => some (x4, h5))))))))) else (if l1 = 2 then (xgd l2 26 (xlet (h 90 l2) (fun x6 => xgd l2 26 (xlet (xup h 90 l2 l4) (fun h7 => some (x6, h7)))))) else (if l1 = 3 then (xgd l2 26 (xlet (h 91 l2) (fun x8 => xgd l2 26 (xlet (xup h 91 l2 l4) (fun h9 => some (x8, h9)))))) else (some ((-2), h))))))))
noncomputable def f_Md_price (l1 : Int) (l2 : Int) (l3 : Int) (l4 : Int) (h : xH) : Option (Int × xH) :=
  if l2 = (-1) then (if l3 = (-1) then (xc1 (f_Md_in l4 1 9999 h) (fun r1 => if r1 = 0 then (some ((-2), h)) else (xc1 (f_Md_in l1 1 6 h) (fun r2 => if r2 = 0 then (if l1 = 8 then (xlet (h 81 13) (fun x3 => xlet (xup h 81 13 l4) (fun h4 => some (x3, h4)))) else (if l1 = 9 then (xlet (h 81 14) (fun x5 => xlet (xup h 81 14 l4) (fun h6 => some (x5, h6)))) else (some ((-2), h)))) else (xgd l1 7 (xlet (h 88 l1) (fun x7 => xgd l1 7 (xlet (xup h 88 l1 l4) (fun h8 => some (x7, h8)))))))))) else (f_Md_price_99 l1 l2 l3 l4 h)) else (f_Md_price_99 l1 l2 l3 l4 h)
noncomputable def f_Md_sound_120 (l1 : Int) (h : xH) : Option (Int × xH) :=
  xgd (h 81 16) 20 (xlet (xup h 96 (h 81 16) l1) (fun h1 => xlet (xup h1 81 16 (w32 ((h1 81 16) + 1))) (fun h2 => some (h1 81 16, h2))))
noncomputable def f_Md_sound_s68 (l1 : Int) (l3 : Int) (h : xH) : Option ((Int × xH) ⊕ xH) :=
  if l3 < 3 then (xgd l3 144 (xgd (w32 ((w32 (3 * (h 81 16))) + l3)) 60 (xlet (xup h 93 (w32 ((w32 (3 * (h 81 16))) + l3)) (h 84 l3)) (fun h1 => xgd (w32 (12 + l3)) 144 (xgd (w32 ((w32 (3 * (h1 81 16))) + l3)) 60 (xlet (xup h1 95 (w32 ((w32 (3 * (h1 81 16))) + l3)) (h1 84 (w32 (12 + l3)))) (fun h2 => xlet (w32 (l3 + 1)) (fun x3 => some (Sum.inl (x3, h2)))))))))) else (some (Sum.inr h))
noncomputable def f_Md_sound_68 (l1 : Int) (l3 : Int) (h : xH) : Option (Int × xH) :=
  xc1 (xloop (fun s : (Int × xH) => f_Md_sound_s68 l1 s.1 s.2) (l3, h)) (fun b => f_Md_sound_120 l1 b)
noncomputable def f_Md_sound (l1 : Int) (h : xH) : Option (Int × xH) :=
  xc2 (f_Md_readsTwo 3 h) (fun r1 h2 => if r1 = 0 then (some ((-2), h2)) else (xc1 (f_Md_in l1 1 9999 h2) (fun r3 => if r3 = 0 then (some ((-2), h2)) else (if h2 81 16 = 20 then (some ((-4), h2)) else (xgd 0 12 (xgd (h2 81 16) 20 (xlet (xup h2 92 (h2 81 16) (h2 83 0)) (fun h4 => xgd 1 12 (xgd (h4 81 16) 20 (xlet (xup h4 94 (h4 81 16) (h4 83 1)) (fun h5 => f_Md_sound_68 l1 0 h5)))))))))))
noncomputable def f_Md_model (l1 : Int) (h : xH) : Option (Int × xH) :=
  xc1 (f_Md_in l1 0 100000 h) (fun r1 => if r1 = 0 then (some ((-2), h)) else (xlet (h 81 15) (fun x2 => xlet (xup h 81 15 l1) (fun h3 => some (x2, h3)))))
noncomputable def f_Md_share_191 (l2 : Int) (l9 : Int64) (h : xH) : Option Int :=
  some ((Int64.toInt32 (xlshr l9 l2)).toInt)
noncomputable def f_Md_share_184 (l2 : Int) (l9 : Int64) (l11 : Int) (h : xH) : Option Int :=
  xlet (xlshl l9 l11) (fun x1 => f_Md_share_191 l2 x1 h)
noncomputable def f_Md_share_178 (l2 : Int) (l9 : Int64) (l11 : Int) (h : xH) : Option Int :=
  xlet (l9 + (1 : Int64)) (fun x1 => f_Md_share_184 l2 x1 l11 h)
noncomputable def f_Md_share_122 (l2 : Int) (l9 : Int64) (l11 : Int) (h : xH) : Option Int :=
  if 0 < l11 then (xlet (xlshl (1 : Int64) (w32 (l11 - 1))) (fun x1 => xlet (l9 &&& ((xlshl (1 : Int64) l11) - (1 : Int64))) (fun x2 => xlet (xlshr l9 l11) (fun x3 => if 0 < (lg_cmp x2 x1).toInt then (f_Md_share_178 l2 x3 l11 h) else (if (lg_cmp x2 x1).toInt = 0 then (if (lg_cmp (x3 &&& (1 : Int64)) (0 : Int64)).toInt = 0 then (f_Md_share_184 l2 x3 l11 h) else (f_Md_share_178 l2 x3 l11 h)) else (f_Md_share_184 l2 x3 l11 h)))))) else (f_Md_share_191 l2 l9 h)
noncomputable def f_Md_share_s104 (l2 : Int) (l9 : Int64) (l11 : Int) (h : xH) : Option (Int ⊕ Int) :=
  if (lg_cmp (xlshr l9 l11) (16777216 : Int64)).toInt < 0 then (some (Sum.inr l11)) else (xlet (w32 (l11 + 1)) (fun x1 => some (Sum.inl x1)))
noncomputable def f_Md_share_104 (l2 : Int) (l9 : Int64) (l11 : Int) (h : xH) : Option Int :=
  xc1 (xloop (fun s : Int => f_Md_share_s104 l2 l9 s h) l11) (fun b => f_Md_share_122 l2 l9 b h)
noncomputable def f_Md_share_94 (l1 : Int) (l2 : Int) (l5 : Int64) (h : xH) : Option Int :=
  xlet (l5 * (Int32.ofInt l1).toInt64) (fun x1 => f_Md_share_104 l2 x1 0 h)
noncomputable def f_Md_share_88 (l1 : Int) (l2 : Int) (l5 : Int64) (h : xH) : Option Int :=
  xlet (l5 + (1 : Int64)) (fun x1 => f_Md_share_94 l1 l2 x1 h)
noncomputable def f_Md_share_39 (l1 : Int) (l2 : Int) (l3 : Int64) (h : xH) : Option Int :=
  xlet (l3 / (1000 : Int64)) (fun x1 => xlet (l3 - l3 / (1000 : Int64) * (1000 : Int64)) (fun x2 => if 0 < (lg_cmp ((2 : Int64) * x2) (1000 : Int64)).toInt then (f_Md_share_88 l1 l2 x1 h) else (if (lg_cmp ((2 : Int64) * x2) (1000 : Int64)).toInt = 0 then (if (lg_cmp (x1 &&& (1 : Int64)) (0 : Int64)).toInt = 0 then (f_Md_share_94 l1 l2 x1 h) else (f_Md_share_88 l1 l2 x1 h)) else (f_Md_share_94 l1 l2 x1 h))))
noncomputable def f_Md_share_s17 (l1 : Int) (l2 : Int) (l3 : Int64) (h : xH) : Option ((Int × Int64) ⊕ (Int × Int64)) :=
  if (lg_cmp (l3 / (1000 : Int64)) (8388608 : Int64)).toInt < 0 then (xlet (xlshl l3 1) (fun x1 => xlet (w32 (l2 + 1)) (fun x2 => some (Sum.inl (x2, x1))))) else (some (Sum.inr (l2, l3)))
noncomputable def f_Md_share_17 (l1 : Int) (l2 : Int) (l3 : Int64) (h : xH) : Option Int :=
  xc1 (xloop (fun s : (Int × Int64) => f_Md_share_s17 l1 s.1 s.2 h) (l2, l3)) (fun b => f_Md_share_39 l1 b.1 b.2 h)
noncomputable def f_Md_share (l1 : Int) (h : xH) : Option Int :=
  if h 81 15 = 0 then (some 0) else (xlet ((Int32.ofInt (h 81 15)).toInt64) (fun x1 => f_Md_share_17 l1 0 x1 h))
noncomputable def f_Md_swapPrice (l1 : Int) (l2 : Int) (h : xH) : Option Int :=
  xgd (w32 ((w32 (26 * l1)) + l2)) 676 (if 0 < h 89 (w32 ((w32 (26 * l1)) + l2)) then (xgd (w32 ((w32 (26 * l1)) + l2)) 676 (some (h 89 (w32 ((w32 (26 * l1)) + l2))))) else (xgd 1 7 (some (h 88 1))))
noncomputable def f_Md_leftPrice (l1 : Int) (h : xH) : Option Int :=
  xgd l1 26 (if 0 < h 90 l1 then (xgd l1 26 (some (h 90 l1))) else (xgd 2 7 (some (h 88 2))))
noncomputable def f_Md_putPrice (l1 : Int) (h : xH) : Option Int :=
  xgd l1 26 (if 0 < h 91 l1 then (xgd l1 26 (some (h 91 l1))) else (xgd 3 7 (some (h 88 3))))
noncomputable def f_Md_hasSound_122  (h : xH) : Option Int :=
  some 1
noncomputable def f_Md_hasSound_s80 (l1 : Int) (l3 : Int) (l4 : Int) (h : xH) : Option (Int ⊕ (Unit ⊕ Int)) :=
  xgd l1 20 (if l4 < h 94 l1 then (xgd (w32 (l3 + l4)) 12 (xgd (w32 ((w32 (3 * l1)) + l4)) 60 (if h 98 (w32 (l3 + l4)) = h 95 (w32 ((w32 (3 * l1)) + l4)) then (xlet (w32 (l4 + 1)) (fun x1 => some (Sum.inl x1))) else (some (Sum.inr (Sum.inr 0)))))) else (some (Sum.inr (Sum.inl ()))))
noncomputable def f_Md_hasSound_80 (l1 : Int) (l3 : Int) (l4 : Int) (h : xH) : Option Int :=
  xc1 (xloop (fun s : Int => f_Md_hasSound_s80 l1 l3 s h) l4) (fun q => xsw q (fun b => f_Md_hasSound_122 h) (fun r => some r))
noncomputable def f_Md_hasSound_77 (l1 : Int) (l3 : Int) (h : xH) : Option Int :=
  f_Md_hasSound_80 l1 l3 0 h
noncomputable def f_Md_hasSound_s35 (l1 : Int) (l2 : Int) (l3 : Int) (l4 : Int) (h : xH) : Option (Int ⊕ (Unit ⊕ Int)) :=
  xgd l1 20 (if l4 < h 92 l1 then (xgd (w32 (l2 + l4)) 12 (xgd (w32 ((w32 (3 * l1)) + l4)) 60 (if h 97 (w32 (l2 + l4)) = h 93 (w32 ((w32 (3 * l1)) + l4)) then (xlet (w32 (l4 + 1)) (fun x1 => some (Sum.inl x1))) else (some (Sum.inr (Sum.inr 0)))))) else (some (Sum.inr (Sum.inl ()))))
noncomputable def f_Md_hasSound_35 (l1 : Int) (l2 : Int) (l3 : Int) (l4 : Int) (h : xH) : Option Int :=
  xc1 (xloop (fun s : Int => f_Md_hasSound_s35 l1 l2 l3 s h) l4) (fun q => xsw q (fun b => f_Md_hasSound_77 l1 l3 h) (fun r => some r))
noncomputable def f_Md_hasSound (l1 : Int) (l2 : Int) (l3 : Int) (h : xH) : Option Int :=
  xgd l1 20 (if h 81 22 < w32 (l2 + (h 92 l1)) then (some 0) else (xgd l1 20 (if h 81 23 < w32 (l3 + (h 94 l1)) then (some 0) else (f_Md_hasSound_35 l1 l2 l3 0 h))))
noncomputable def f_Md_slip_39 (l1 : Int) (l2 : Int) (l3 : Int) (l4 : Int) (l5 : Int) (s0 : Int) (h : xH) : Option (Int × xH) :=
  if l1 = 0 then (if l5 = 0 then (some (1000000, h)) else (if s0 = 0 then (some (1000000, h)) else (xgd l3 12 (xgd l4 12 (if h 97 l3 = h 98 l4 then (some (0, h)) else (some (1000000, h))))))) else (if l1 = 1 then (if l5 = 0 then (some (1000000, h)) else (if s0 = 0 then (some (1000000, h)) else (xgd l3 12 (xgd l4 12 (if h 97 l3 = h 98 l4 then (some (1000000, h)) else (xgd l3 12 (xgd l4 12 (xc1 (f_Md_swapPrice (h 97 l3) (h 98 l4) h) (fun r1 => some (r1, h)))))))))) else (if l1 = 2 then (xlet (xup h 81 84 0) (fun h2 => if l5 = 0 then (some (1000000, h2)) else (xgd l3 12 (xc1 (f_Md_leftPrice (h2 97 l3) h2) (fun r3 => some (r3, h2)))))) else (if l1 = 3 then (xlet (xup h 81 83 0) (fun h4 => if s0 = 0 then (some (1000000, h4)) else (xgd l4 12 (xc1 (f_Md_putPrice (h4 98 l4) h4) (fun r5 => some (r5, h4)))))) else (if l1 = 4 then (xlet (xup h 81 83 2) (fun h6 => xlet (xup h6 81 84 2) (fun h7 => if w32 (l3 + 1) < h7 81 22 then (if w32 (l4 + 1) < h7 81 23 then (xgd l3 12 (xgd (w32 (l3 + 1)) 12 (if h7 97 l3 = h7 97 (w32 (l3 + 1)) then (some (1000000, h7)) else (xgd l3 12 (xgd (w32 (l4 + 1)) 12 (if h7 97 l3 = h7 98 (w32 (l4 + 1)) then (xgd (w32 (l3 + 1)) 12 (xgd l4 12 (if h7 97 (w32 (l3 + 1)) = h7 98 l4 then (xgd 4 7 (some (h7 88 4, h7))) else (some (1000000, h7))))) else (some (1000000, h7)))))))) else (some (1000000, h7))) else (some (1000000, h7))))) else (if l1 = 5 then (xlet (xup h 81 84 2) (fun h8 => if l5 = 0 then (some (1000000, h8)) else (if w32 (l4 + 1) < h8 81 23 then (xgd l3 12 (xgd l4 12 (if h8 97 l3 = h8 98 l4 then (xgd l3 12 (xgd (w32 (l4 + 1)) 12 (if h8 97 l3 = h8 98 (w32 (l4 + 1)) then (xgd 5 7 (some (h8 88 5, h8))) else (some (1000000, h8))))) else (some (1000000, h8))))) else (some (1000000, h8))))) else (if l1 = 6 then (xlet (xup h 81 83 2) (fun h9 => if w32 (l3 + 1) < h9 81 22 then (if s0 = 0 then (some (1000000, h9)) else (xgd l3 12 (xgd (w32 (l3 + 1)) 12 (if h9 97 l3 = h9 97 (w32 (l3 + 1)) then (xgd l3 12 (xgd l4 12 (if h9 97 l3 = h9 98 l4 then (xgd 6 7 (some (h9 88 6, h9))) else (some (1000000, h9))))) else (some (1000000, h9)))))) else (some (1000000, h9)))) else (xgd l2 20 (xlet (xup h 81 83 (h 92 l2)) (fun h10 => xgd l2 20 (xlet (xup h10 81 84 (h10 94 l2)) (fun h11 => xc1 (f_Md_hasSound l2 l3 l4 h11) (fun r12 => if r12 = 0 then (some (1000000, h11)) else (xgd l2 20 (some (h11 96 l2, h11)))))))))))))))
noncomputable def f_Md_slip_23 (l1 : Int) (l2 : Int) (l3 : Int) (l4 : Int) (s0 : Int) (h : xH) : Option (Int × xH) :=
  if l4 < h 81 23 then (f_Md_slip_39 l1 l2 l3 l4 s0 1 h) else (f_Md_slip_39 l1 l2 l3 l4 s0 0 h)
noncomputable def f_Md_slip (l1 : Int) (l2 : Int) (l3 : Int) (l4 : Int) (h : xH) : Option (Int × xH) :=
  xlet (xup h 81 83 1) (fun h1 => xlet (xup h1 81 84 1) (fun h2 => if l3 < h2 81 22 then (f_Md_slip_23 l1 l2 l3 l4 1 h2) else (f_Md_slip_23 l1 l2 l3 l4 0 h2)))
noncomputable def f_Md_sums_144  (h : xH) : Option xH :=
  some h
noncomputable def f_Md_sums_138 (l1 : Int) (h : xH) : Option ((Int × xH) ⊕ xH) :=
  xlet (w32 (l1 + (-1))) (fun x1 => some (Sum.inl (x1, h)))
noncomputable def f_Md_sums_120 (l1 : Int) (l2 : Int) (l3 : Int) (h : xH) : Option ((Int × xH) ⊕ xH) :=
  xgd (w32 ((w32 (13 * l1)) + l2)) 169 (xlet (xup h 99 (w32 ((w32 (13 * l1)) + l2)) l3) (fun h1 => xlet (w32 (l2 + (-1))) (fun x2 => some (Sum.inl (x2, h1)))))
noncomputable def f_Md_sums_114 (l1 : Int) (l2 : Int) (l3 : Int) (l4 : Int) (h : xH) : Option ((Int × Int × xH) ⊕ (Int × xH)) :=
  xlet (w32 (l4 + 1)) (fun x1 => some (Sum.inl (l3, x1, h)))
noncomputable def f_Md_sums_s45 (l1 : Int) (l2 : Int) (l3 : Int) (l4 : Int) (h : xH) : Option ((Int × Int × xH) ⊕ (Int × xH)) :=
  if l4 < w32 (7 + (h 81 16)) then (xc1 (f_Md_min l4 7 h) (fun r1 => xc2 (f_Md_slip r1 (w32 (l4 - 7)) l1 l2 h) (fun r2 h3 => if r2 < 1000000 then (xgd (w32 ((w32 ((w32 (13 * (w32 (l1 + (h3 81 83))))) + l2)) + (h3 81 84))) 169 (xc1 (f_Md_min l3 (w32 (r2 + (h3 99 (w32 ((w32 ((w32 (13 * (w32 (l1 + (h3 81 83))))) + l2)) + (h3 81 84)))))) h3) (fun r4 => f_Md_sums_114 l1 l2 r4 l4 h3))) else (f_Md_sums_114 l1 l2 l3 l4 h3)))) else (some (Sum.inr (l3, h)))
noncomputable def f_Md_sums_45 (l1 : Int) (l2 : Int) (l3 : Int) (l4 : Int) (h : xH) : Option ((Int × xH) ⊕ xH) :=
  xc1 (xloop (fun s : (Int × Int × xH) => f_Md_sums_s45 l1 l2 s.1 s.2.1 s.2.2) (l3, l4, h)) (fun b => f_Md_sums_120 l1 l2 b.1 b.2)
noncomputable def f_Md_sums_41 (l1 : Int) (l2 : Int) (s0 : Int) (h : xH) : Option ((Int × xH) ⊕ xH) :=
  f_Md_sums_45 l1 l2 s0 0 h
noncomputable def f_Md_sums_38 (l1 : Int) (l2 : Int) (h : xH) : Option ((Int × xH) ⊕ xH) :=
  f_Md_sums_41 l1 l2 1000000 h
noncomputable def f_Md_sums_s14 (l1 : Int) (l2 : Int) (h : xH) : Option ((Int × xH) ⊕ xH) :=
  if l2 < 0 then (some (Sum.inr h)) else (if l1 = h 81 22 then (if l2 = h 81 23 then (f_Md_sums_41 l1 l2 0 h) else (f_Md_sums_38 l1 l2 h)) else (f_Md_sums_38 l1 l2 h))
noncomputable def f_Md_sums_14 (l1 : Int) (l2 : Int) (h : xH) : Option ((Int × xH) ⊕ xH) :=
  xc1 (xloop (fun s : (Int × xH) => f_Md_sums_s14 l1 s.1 s.2) (l2, h)) (fun b => f_Md_sums_138 l1 b)
noncomputable def f_Md_sums_s5 (l1 : Int) (h : xH) : Option ((Int × xH) ⊕ xH) :=
  if l1 < 0 then (some (Sum.inr h)) else (xlet (h 81 23) (fun x1 => f_Md_sums_14 l1 x1 h))
noncomputable def f_Md_sums_5 (l1 : Int) (h : xH) : Option xH :=
  xc1 (xloop (fun s : (Int × xH) => f_Md_sums_s5 s.1 s.2) (l1, h)) (fun b => f_Md_sums_144 b)
noncomputable def f_Md_sums  (h : xH) : Option xH :=
  xlet (h 81 22) (fun x1 => f_Md_sums_5 x1 h)
noncomputable def f_Md_ways_203  (h : xH) : Option xH :=
  some h
noncomputable def f_Md_ways_175 (l1 : Int) (l2 : Int) (s1 : Int) (s2 : Int) (h : xH) : Option ((Int × Int × xH) ⊕ xH) :=
  xgd s1 24 (xlet (xup h 104 s1 s2) (fun h1 => xlet (xup h1 81 27 (w32 ((h1 81 27) + 1))) (fun h2 => xlet (w32 (l1 + (h2 81 83))) (fun x3 => xlet (w32 (l2 + (h2 81 84))) (fun x4 => some (Sum.inl (x3, x4, h2)))))))
noncomputable def f_Md_ways_107 (l1 : Int) (l2 : Int) (l3 : Int) (l4 : Int) (h : xH) : Option ((Int × Int × xH) ⊕ xH) :=
  xc1 (f_Md_min l3 7 h) (fun r1 => xgd (h 81 27) 24 (xlet (xup h 100 (h 81 27) r1) (fun h2 => xgd (h2 81 27) 24 (xlet (xup h2 101 (h2 81 27) l4) (fun h3 => xgd (h3 81 27) 24 (xlet (xup h3 102 (h3 81 27) l1) (fun h4 => xgd (h4 81 27) 24 (xlet (xup h4 103 (h4 81 27) l2) (fun h5 => if l3 < 7 then (f_Md_ways_175 l1 l2 (h5 81 27) (-1) h5) else (f_Md_ways_175 l1 l2 (h5 81 27) (w32 (l3 - 7)) h5))))))))))
noncomputable def f_Md_ways_83 (l1 : Int) (l2 : Int) (l3 : Int) (h : xH) : Option ((Int × Int × xH) ⊕ (Int × Int × xH)) :=
  xlet (w32 (l3 + 1)) (fun x1 => xc1 (f_Md_min x1 7 h) (fun r2 => xc2 (f_Md_slip r2 (w32 (x1 - 7)) l1 l2 h) (fun r3 h4 => some (Sum.inl (x1, r3, h4)))))
noncomputable def f_Md_ways_s37 (l1 : Int) (l2 : Int) (l3 : Int) (l4 : Int) (h : xH) : Option ((Int × Int × xH) ⊕ (Int × Int × xH)) :=
  if l4 < 1000000 then (xgd (w32 ((w32 ((w32 (13 * (w32 (l1 + (h 81 83))))) + l2)) + (h 81 84))) 169 (xgd (w32 ((w32 (13 * l1)) + l2)) 169 (if w32 (l4 + (h 99 (w32 ((w32 ((w32 (13 * (w32 (l1 + (h 81 83))))) + l2)) + (h 81 84))))) = h 99 (w32 ((w32 (13 * l1)) + l2)) then (some (Sum.inr (l3, l4, h))) else (f_Md_ways_83 l1 l2 l3 h)))) else (f_Md_ways_83 l1 l2 l3 h)
noncomputable def f_Md_ways_37 (l1 : Int) (l2 : Int) (l3 : Int) (l4 : Int) (h : xH) : Option ((Int × Int × xH) ⊕ xH) :=
  xc1 (xloop (fun s : (Int × Int × xH) => f_Md_ways_s37 l1 l2 s.1 s.2.1 s.2.2) (l3, l4, h)) (fun b => f_Md_ways_107 l1 l2 b.1 b.2.1 b.2.2)
noncomputable def f_Md_ways_25 (l1 : Int) (l2 : Int) (h : xH) : Option ((Int × Int × xH) ⊕ xH) :=
  xc2 (f_Md_slip 0 (-1) l1 l2 h) (fun r1 h2 => f_Md_ways_37 l1 l2 0 r1 h2)
noncomputable def f_Md_ways_s9 (l1 : Int) (l2 : Int) (h : xH) : Option ((Int × Int × xH) ⊕ xH) :=
  if l1 < h 81 22 then (f_Md_ways_25 l1 l2 h) else (if l2 < h 81 23 then (f_Md_ways_25 l1 l2 h) else (some (Sum.inr h)))
noncomputable def f_Md_ways_9 (l1 : Int) (l2 : Int) (h : xH) : Option xH :=
  xc1 (xloop (fun s : (Int × Int × xH) => f_Md_ways_s9 s.1 s.2.1 s.2.2) (l1, l2, h)) (fun b => f_Md_ways_203 b)
noncomputable def f_Md_ways  (h : xH) : Option xH :=
  xlet (xup h 81 27 0) (fun h1 => f_Md_ways_9 0 0 h1)
noncomputable def f_Md_distance_114  (h : xH) : Option (Int × xH) :=
  xgd 0 169 (some (h 99 0, h))
noncomputable def f_Md_distance_s40 (l1 : Int) (h : xH) : Option ((Int × xH) ⊕ xH) :=
  if l1 < h 81 27 then (xgd l1 24 (xgd l1 24 (xlet (xup h 105 l1 (h 100 l1)) (fun h1 => xgd l1 24 (xgd l1 24 (xlet (xup h1 106 l1 (h1 101 l1)) (fun h2 => xgd l1 24 (xgd l1 24 (xlet (xup h2 107 l1 (h2 102 l1)) (fun h3 => xgd l1 24 (xgd l1 24 (xlet (xup h3 108 l1 (h3 103 l1)) (fun h4 => xgd l1 24 (xgd l1 24 (xlet (xup h4 109 l1 (h4 104 l1)) (fun h5 => xlet (w32 (l1 + 1)) (fun x6 => some (Sum.inl (x6, h5))))))))))))))))))) else (some (Sum.inr h))
noncomputable def f_Md_distance_40 (l1 : Int) (h : xH) : Option (Int × xH) :=
  xc1 (xloop (fun s : (Int × xH) => f_Md_distance_s40 s.1 s.2) (l1, h)) (fun b => f_Md_distance_114 b)
noncomputable def f_Md_distance  (h : xH) : Option (Int × xH) :=
  xc2 (f_Md_readsTwo 12 h) (fun r1 h2 => if r1 = 0 then (some ((-2), h2)) else (xc1 (f_Md_takeA 0 h2) (fun h3 => xc1 (f_Md_takeB 1 h3) (fun h4 => xc1 (f_Md_sums h4) (fun h5 => xc1 (f_Md_ways h5) (fun h6 => xlet (xup h6 81 33 (h6 81 27)) (fun h7 => f_Md_distance_40 0 h7)))))))
noncomputable def f_Md_way (l1 : Int) (l2 : Int) (h : xH) : Option Int :=
  xc1 (f_Md_in l2 0 4 h) (fun r1 => if r1 = 0 then (some (-2)) else (if h 81 33 = (-1) then (if l1 = (-1) then (some 0) else (some (-1))) else (if l1 = (-1) then (some (h 81 33)) else (xc1 (f_Md_in l1 0 (w32 ((h 81 33) - 1)) h) (fun r2 => if r2 = 0 then (some (-1)) else (if l2 = 0 then (xgd l1 24 (some (h 105 l1))) else (if l2 = 1 then (xgd l1 24 (some (h 106 l1))) else (if l2 = 2 then (xgd l1 24 (some (h 107 l1))) else (if l2 = 3 then (xgd l1 24 (some (h 108 l1))) else (xgd l1 24 (some (h 109 l1))))))))))))
noncomputable def f_Md_stateRow_264  (h : xH) : Option xH :=
  some h
noncomputable def f_Md_stateRow_246 (l1 : Int) (l2 : Int) (l3 : Int) (h : xH) : Option ((Int × xH) ⊕ xH) :=
  xgd (w32 ((w32 (13 * l1)) + l2)) 169 (xlet (xup h 116 (w32 ((w32 (13 * l1)) + l2)) l3) (fun h1 => xlet (w32 (l2 + 1)) (fun x2 => some (Sum.inl (x2, h1)))))
noncomputable def f_Md_stateRow_240 (l1 : Int) (l2 : Int) (l3 : Int) (l4 : Int) (h : xH) : Option ((Int × Int × xH) ⊕ (Int × xH)) :=
  xlet (w32 (l4 + 1)) (fun x1 => some (Sum.inl (l3, x1, h)))
noncomputable def f_Md_stateRow_152 (l1 : Int) (l2 : Int) (l3 : Int) (l4 : Int) (l5 : Int) (l6 : Int) (s0 : Int) (h : xH) : Option ((Int × Int × xH) ⊕ (Int × xH)) :=
  if w32 (l1 - l6) < 0 then (f_Md_stateRow_240 l1 l2 l3 l4 h) else (if w32 (l2 - s0) < 0 then (f_Md_stateRow_240 l1 l2 l3 l4 h) else (xgd (w32 ((w32 ((w32 (13 * (w32 (l1 - l6)))) + l2)) - s0)) 169 (xlet (h 116 (w32 ((w32 ((w32 (13 * (w32 (l1 - l6)))) + l2)) - s0))) (fun x1 => if x1 < 1000000 then (xc2 (f_Md_slip l5 (w32 (l4 - 7)) (w32 (l1 - l6)) (w32 (l2 - s0)) h) (fun r2 h3 => if r2 < 1000000 then (xc1 (f_Md_min l3 (w32 (r2 + x1)) h3) (fun r4 => f_Md_stateRow_240 l1 l2 r4 l4 h3)) else (f_Md_stateRow_240 l1 l2 l3 l4 h3))) else (f_Md_stateRow_240 l1 l2 l3 l4 h)))))
noncomputable def f_Md_stateRow_147 (l1 : Int) (l2 : Int) (l3 : Int) (l4 : Int) (l5 : Int) (l6 : Int) (h : xH) : Option ((Int × Int × xH) ⊕ (Int × xH)) :=
  f_Md_stateRow_152 l1 l2 l3 l4 l5 l6 2 h
noncomputable def f_Md_stateRow_103 (l1 : Int) (l2 : Int) (l3 : Int) (l4 : Int) (l5 : Int) (s0 : Int) (h : xH) : Option ((Int × Int × xH) ⊕ (Int × xH)) :=
  if l5 = 7 then (xgd (w32 (l4 - 7)) 20 (f_Md_stateRow_152 l1 l2 l3 l4 l5 s0 (h 94 (w32 (l4 - 7))) h)) else (if l5 = 2 then (f_Md_stateRow_152 l1 l2 l3 l4 l5 s0 0 h) else (if l5 = 4 then (f_Md_stateRow_147 l1 l2 l3 l4 l5 s0 h) else (if l5 = 5 then (f_Md_stateRow_147 l1 l2 l3 l4 l5 s0 h) else (f_Md_stateRow_152 l1 l2 l3 l4 l5 s0 1 h))))
noncomputable def f_Md_stateRow_98 (l1 : Int) (l2 : Int) (l3 : Int) (l4 : Int) (l5 : Int) (h : xH) : Option ((Int × Int × xH) ⊕ (Int × xH)) :=
  f_Md_stateRow_103 l1 l2 l3 l4 l5 2 h
noncomputable def f_Md_stateRow_s34 (l1 : Int) (l2 : Int) (l3 : Int) (l4 : Int) (h : xH) : Option ((Int × Int × xH) ⊕ (Int × xH)) :=
  if l4 < w32 (7 + (h 81 16)) then (xc1 (f_Md_min l4 7 h) (fun r1 => if r1 = 7 then (xgd (w32 (l4 - 7)) 20 (f_Md_stateRow_103 l1 l2 l3 l4 r1 (h 92 (w32 (l4 - 7))) h)) else (if r1 = 3 then (f_Md_stateRow_103 l1 l2 l3 l4 r1 0 h) else (if r1 = 4 then (f_Md_stateRow_98 l1 l2 l3 l4 r1 h) else (if r1 = 6 then (f_Md_stateRow_98 l1 l2 l3 l4 r1 h) else (f_Md_stateRow_103 l1 l2 l3 l4 r1 1 h)))))) else (some (Sum.inr (l3, h)))
noncomputable def f_Md_stateRow_34 (l1 : Int) (l2 : Int) (l3 : Int) (l4 : Int) (h : xH) : Option ((Int × xH) ⊕ xH) :=
  xc1 (xloop (fun s : (Int × Int × xH) => f_Md_stateRow_s34 l1 l2 s.1 s.2.1 s.2.2) (l3, l4, h)) (fun b => f_Md_stateRow_246 l1 l2 b.1 b.2)
noncomputable def f_Md_stateRow_30 (l1 : Int) (l2 : Int) (s0 : Int) (h : xH) : Option ((Int × xH) ⊕ xH) :=
  f_Md_stateRow_34 l1 l2 s0 0 h
noncomputable def f_Md_stateRow_27 (l1 : Int) (l2 : Int) (h : xH) : Option ((Int × xH) ⊕ xH) :=
  f_Md_stateRow_30 l1 l2 1000000 h
noncomputable def f_Md_stateRow_s7 (l1 : Int) (l2 : Int) (h : xH) : Option ((Int × xH) ⊕ xH) :=
  if h 81 23 < l2 then (some (Sum.inr h)) else (if l1 = 0 then (if l2 = 0 then (f_Md_stateRow_30 l1 l2 0 h) else (f_Md_stateRow_27 l1 l2 h)) else (f_Md_stateRow_27 l1 l2 h))
noncomputable def f_Md_stateRow_7 (l1 : Int) (l2 : Int) (h : xH) : Option xH :=
  xc1 (xloop (fun s : (Int × xH) => f_Md_stateRow_s7 l1 s.1 s.2) (l2, h)) (fun b => f_Md_stateRow_264 b)
noncomputable def f_Md_stateRow (l1 : Int) (h : xH) : Option xH :=
  xlet (xup h 81 22 l1) (fun h1 => f_Md_stateRow_7 l1 0 h1)
noncomputable def f_Md_leastOf_36 (l2 : Int) (h : xH) : Option Int :=
  some l2
noncomputable def f_Md_leastOf_s6 (l1 : Int) (l2 : Int) (l3 : Int) (h : xH) : Option ((Int × Int) ⊕ Int) :=
  if h 81 23 < l3 then (some (Sum.inr l2)) else (xgd (w32 ((w32 (13 * l1)) + l3)) 169 (xc1 (f_Md_min l2 (h 116 (w32 ((w32 (13 * l1)) + l3))) h) (fun r1 => xlet (w32 (l3 + 1)) (fun x2 => some (Sum.inl (r1, x2))))))
noncomputable def f_Md_leastOf_6 (l1 : Int) (l2 : Int) (l3 : Int) (h : xH) : Option Int :=
  xc1 (xloop (fun s : (Int × Int) => f_Md_leastOf_s6 l1 s.1 s.2 h) (l2, l3)) (fun b => f_Md_leastOf_36 b h)
noncomputable def f_Md_leastOf (l1 : Int) (h : xH) : Option Int :=
  f_Md_leastOf_6 l1 1000000 0 h
noncomputable def f_Md_meets_184 (l4 : Int) (h : xH) : Option (Int × xH) :=
  xlet (xup h 81 39 (w32 ((h 81 39) + 1))) (fun h1 => if l4 = 0 then (xgb l4 (some (l4, h1))) else (xlet (xup h1 81 40 (w32 ((h1 81 40) + 1))) (fun h2 => xgb l4 (some (l4, h2)))))
noncomputable def f_Md_meets_s142 (l1 : Int) (l4 : Int) (l5 : Int) (h : xH) : Option ((Int × xH) ⊕ xH) :=
  if h 81 23 < l5 then (some (Sum.inr h)) else (xgd (w32 ((w32 (13 * l1)) + l5)) 169 (xgd (w32 ((w32 (13 * (h 81 39))) + l5)) 31213 (xlet (xup h 115 (w32 ((w32 (13 * (h 81 39))) + l5)) (h 116 (w32 ((w32 (13 * l1)) + l5)))) (fun h1 => xlet (w32 (l5 + 1)) (fun x2 => some (Sum.inl (x2, h1)))))))
noncomputable def f_Md_meets_142 (l1 : Int) (l4 : Int) (l5 : Int) (h : xH) : Option (Int × xH) :=
  xc1 (xloop (fun s : (Int × xH) => f_Md_meets_s142 l1 l4 s.1 s.2) (l5, h)) (fun b => f_Md_meets_184 l4 b)
noncomputable def f_Md_meets_138 (l1 : Int) (l4 : Int) (s1 : Int) (s2 : Int) (h : xH) : Option (Int × xH) :=
  xgd s1 2401 (xlet (xup h 114 s1 s2) (fun h1 => f_Md_meets_142 l1 l4 0 h1))
noncomputable def f_Md_meets_120 (l1 : Int) (l3 : Int) (l4 : Int) (s1 : Int) (s2 : Int) (h : xH) : Option (Int × xH) :=
  xgd s1 2401 (xlet (xup h 113 s1 s2) (fun h1 => if l3 = 0 then (f_Md_meets_138 l1 l4 (h1 81 39) 0 h1) else (f_Md_meets_138 l1 l4 (h1 81 39) 1 h1)))
noncomputable def f_Md_meets_87 (l1 : Int) (l3 : Int) (l4 : Int) (s1 : Int) (s2 : Int) (h : xH) : Option (Int × xH) :=
  xgd s1 2401 (xlet (xup h 111 s1 s2) (fun h1 => xc1 (f_Md_leastOf l1 h1) (fun r2 => xgd (h1 81 39) 2401 (xlet (xup h1 112 (h1 81 39) r2) (fun h3 => if l4 = 0 then (f_Md_meets_120 l1 l3 l4 (h3 81 39) 0 h3) else (f_Md_meets_120 l1 l3 l4 (h3 81 39) 1 h3))))))
noncomputable def f_Md_meets_51 (l1 : Int) (l3 : Int) (s0 : Int) (h : xH) : Option (Int × xH) :=
  xgd (h 81 39) 2401 (xlet (xup h 110 (h 81 39) l1) (fun h1 => if l1 = 0 then (f_Md_meets_87 l1 l3 s0 (h1 81 39) (-1) h1) else (xgd (w32 (l1 - 1)) 12 (f_Md_meets_87 l1 l3 s0 (h1 81 39) (h1 97 (w32 (l1 - 1))) h1))))
noncomputable def f_Md_meets_50 (l1 : Int) (l3 : Int) (h : xH) : Option (Int × xH) :=
  f_Md_meets_51 l1 l3 0 h
noncomputable def f_Md_meets_46 (l1 : Int) (l3 : Int) (h : xH) : Option (Int × xH) :=
  f_Md_meets_51 l1 l3 1 h
noncomputable def f_Md_meets_30 (l1 : Int) (l2 : Int) (l3 : Int) (h : xH) : Option (Int × xH) :=
  if l1 < 2 then (f_Md_meets_46 l1 l3 h) else (xc1 (f_Md_leastOf (w32 (l1 - 2)) h) (fun r1 => if l2 < r1 then (f_Md_meets_46 l1 l3 h) else (f_Md_meets_50 l1 l3 h)))
noncomputable def f_Md_meets (l1 : Int) (l2 : Int) (l3 : Int) (h : xH) : Option (Int × xH) :=
  xc1 (f_Md_stateRow l1 h) (fun h1 => xc1 (f_Md_leastOf l1 h1) (fun r2 => if l2 < r2 then (if l1 < 1 then (f_Md_meets_30 l1 l2 l3 h1) else (xc1 (f_Md_leastOf (w32 (l1 - 1)) h1) (fun r3 => if l2 < r3 then (f_Md_meets_30 l1 l2 l3 h1) else (f_Md_meets_50 l1 l3 h1)))) else (f_Md_meets_50 l1 l3 h1)))
noncomputable def f_Md_walk_257  (h : xH) : Option xH :=
  some h
noncomputable def f_Md_walk_253 (l1 : Int) (l2 : Int) (s1 : Int) (s2 : Int) (h : xH) : Option ((Int × xH) ⊕ xH) :=
  xgd s1 13 (xlet (xup h 120 s1 s2) (fun h1 => some (Sum.inl (l2, h1))))
noncomputable def f_Md_walk_217 (l1 : Int) (l2 : Int) (l4 : Int) (l6 : Int) (s1 : Int) (s2 : Int) (s3 : Int) (h : xH) : Option ((Int × xH) ⊕ xH) :=
  xc2 (f_Md_meets s1 s2 s3 h) (fun r1 h2 => xgd l2 13 (xlet (xup h2 118 l2 l4) (fun h3 => xgd l2 13 (xlet (xup h3 119 l2 l6) (fun h4 => if r1 = 0 then (f_Md_walk_253 l1 l2 l2 l4 h4) else (f_Md_walk_253 l1 l2 l2 l6 h4))))))
noncomputable def f_Md_walk_177 (l1 : Int) (l2 : Int) (l4 : Int) (l5 : Int) (l6 : Int) (h : xH) : Option ((Int × xH) ⊕ xH) :=
  xgd l2 13 (xlet (xup h 120 l2 l6) (fun h1 => xlet (w32 (l2 + 1)) (fun x2 => xgd (w32 (x2 - 1)) 12 (xlet (xup h1 97 (w32 (x2 - 1)) l5) (fun h3 => xgd l4 200 (if h3 85 l4 = x2 then (f_Md_walk_217 l1 x2 l4 l6 x2 l1 1 h3) else (f_Md_walk_217 l1 x2 l4 l6 x2 l1 0 h3)))))))
noncomputable def f_Md_walk_s143 (l1 : Int) (l2 : Int) (l4 : Int) (l5 : Int) (l6 : Int) (h : xH) : Option (Int ⊕ Int) :=
  xgd l2 13 (if l6 < h 119 l2 then (xgd (w32 ((w32 (12 * l6)) + l2)) 2400 (if h 86 (w32 ((w32 (12 * l6)) + l2)) = l5 then (xlet (w32 (l6 + 1)) (fun x1 => some (Sum.inl x1))) else (some (Sum.inr l6)))) else (some (Sum.inr l6)))
noncomputable def f_Md_walk_143 (l1 : Int) (l2 : Int) (l4 : Int) (l5 : Int) (l6 : Int) (h : xH) : Option ((Int × xH) ⊕ xH) :=
  xc1 (xloop (fun s : Int => f_Md_walk_s143 l1 l2 l4 l5 s h) l6) (fun b => f_Md_walk_177 l1 l2 l4 l5 b h)
noncomputable def f_Md_walk_108 (l1 : Int) (l2 : Int) (l4 : Int) (h : xH) : Option ((Int × xH) ⊕ xH) :=
  xgd l2 13 (if l4 < h 119 l2 then (xgd (w32 ((w32 (12 * l4)) + l2)) 2400 (xlet (h 86 (w32 ((w32 (12 * l4)) + l2))) (fun x1 => f_Md_walk_143 l1 l2 l4 x1 l4 h))) else (xlet (w32 (l2 + (-1))) (fun x2 => some (Sum.inl (x2, h)))))
noncomputable def f_Md_walk_s71 (l1 : Int) (l2 : Int) (h : xH) : Option ((Int × xH) ⊕ xH) :=
  if l2 < 0 then (some (Sum.inr h)) else (xgd l2 13 (xlet (h 120 l2) (fun x1 => xgd l2 13 (if x1 < h 119 l2 then (xgd x1 200 (if h 85 x1 = l2 then (xlet (w32 (x1 + 1)) (fun x2 => f_Md_walk_108 l1 l2 x2 h)) else (f_Md_walk_108 l1 l2 x1 h))) else (f_Md_walk_108 l1 l2 x1 h)))))
noncomputable def f_Md_walk_71 (l1 : Int) (l2 : Int) (h : xH) : Option xH :=
  xc1 (xloop (fun s : (Int × xH) => f_Md_walk_s71 l1 s.1 s.2) (l2, h)) (fun b => f_Md_walk_257 b)
noncomputable def f_Md_walk_70 (l1 : Int) (l2 : Int) (s1 : Int) (s2 : Int) (h : xH) : Option xH :=
  xgd s1 13 (xlet (xup h 120 s1 s2) (fun h1 => f_Md_walk_71 l1 l2 h1))
noncomputable def f_Md_walk (l1 : Int) (h : xH) : Option xH :=
  xlet (xup h 81 39 0) (fun h1 => xlet (xup h1 81 40 0) (fun h2 => xlet (xup h2 81 47 (h2 81 23)) (fun h3 => if h3 81 5 = 0 then (some h3) else (xc2 (f_Md_meets 0 l1 0 h3) (fun r4 h5 => xgd 0 13 (xlet (xup h5 118 0 0) (fun h6 => xgd 0 13 (xlet (xup h6 119 0 (h6 81 5)) (fun h7 => if r4 = 0 then (f_Md_walk_70 l1 0 0 0 h7) else (f_Md_walk_70 l1 0 0 (h7 81 5) h7))))))))))
noncomputable def f_Md_distanceTo (l1 : Int) (h : xH) : Option (Int × xH) :=
  xc1 (f_Md_wordA l1 h) (fun h1 => xc1 (f_Md_sums h1) (fun h2 => xgd 0 169 (some (h2 99 0, h2))))
noncomputable def f_Md_beginningTo_60 (l3 : Int) (h : xH) : Option (Int × xH) :=
  some (l3, h)
noncomputable def f_Md_beginningTo_s17 (l2 : Int) (l3 : Int) (l4 : Int) (h : xH) : Option ((Int × Int × xH) ⊕ (Int × xH)) :=
  if l2 < l4 then (some (Sum.inr (l3, h))) else (xlet (xup h 81 22 l2) (fun h1 => xc1 (f_Md_stateRow l4 h1) (fun h2 => xgd (w32 ((w32 (13 * l4)) + (h2 81 23))) 169 (xc1 (f_Md_min l3 (h2 116 (w32 ((w32 (13 * l4)) + (h2 81 23)))) h2) (fun r3 => xlet (w32 (l4 + 1)) (fun x4 => some (Sum.inl (r3, x4, h2))))))))
noncomputable def f_Md_beginningTo_17 (l2 : Int) (l3 : Int) (l4 : Int) (h : xH) : Option (Int × xH) :=
  xc1 (xloop (fun s : (Int × Int × xH) => f_Md_beginningTo_s17 l2 s.1 s.2.1 s.2.2) (l3, l4, h)) (fun b => f_Md_beginningTo_60 b.1 b.2)
noncomputable def f_Md_beginningTo (l1 : Int) (h : xH) : Option (Int × xH) :=
  xc1 (f_Md_wordA l1 h) (fun h1 => xlet (h1 81 22) (fun x2 => f_Md_beginningTo_17 x2 1000000 0 h1))
noncomputable def f_Md_isAhead (l1 : Int) (l2 : Int) (l3 : Int) (l4 : Int) (h : xH) : Option Int :=
  xlet (w32 (l2 - l3)) (fun x1 => xgd l4 200 (xgd l4 200 (xlet (w32 ((h 125 l4) - (h 126 l4))) (fun x2 => if x1 = x2 then (xgd l1 200 (xgd l4 200 (xgd (h 124 l4) 200 (if h 87 l1 = h 87 (h 124 l4) then (xgd l4 200 (if l1 < h 124 l4 then (some 1) else (some 0))) else (xgd l1 200 (xgd l4 200 (xgd (h 124 l4) 200 (if h 87 (h 124 l4) < h 87 l1 then (some 1) else (some 0))))))))) else (if x1 < x2 then (some 1) else (some 0))))))
noncomputable def f_Md_tries_175  (h : xH) : Option xH :=
  some h
noncomputable def f_Md_tries_169 (l1 : Int) (l2 : Int) (l3 : Int) (h : xH) : Option ((Int × xH) ⊕ xH) :=
  xlet (w32 (l3 + 1)) (fun x1 => some (Sum.inl (x1, h)))
noncomputable def f_Md_tries_143 (l1 : Int) (l2 : Int) (l3 : Int) (l4 : Int) (l5 : Int) (l6 : Int) (h : xH) : Option ((Int × xH) ⊕ xH) :=
  xgd l6 200 (xlet (xup h 124 l6 l3) (fun h1 => xgd l6 200 (xlet (xup h1 125 l6 l4) (fun h2 => xgd l6 200 (xlet (xup h2 126 l6 l5) (fun h3 => f_Md_tries_169 l1 l2 l3 h3))))))
noncomputable def f_Md_tries_s68 (l1 : Int) (l2 : Int) (l3 : Int) (l4 : Int) (l5 : Int) (l6 : Int) (h : xH) : Option ((Int × xH) ⊕ (Int × xH)) :=
  if 0 < l6 then (xc1 (f_Md_isAhead l3 l4 l5 (w32 (l6 - 1)) h) (fun r1 => if r1 = 0 then (some (Sum.inr (l6, h))) else (xgd (w32 (l6 - 1)) 200 (xgd l6 200 (xlet (xup h 124 l6 (h 124 (w32 (l6 - 1)))) (fun h2 => xgd (w32 (l6 - 1)) 200 (xgd l6 200 (xlet (xup h2 125 l6 (h2 125 (w32 (l6 - 1)))) (fun h3 => xgd (w32 (l6 - 1)) 200 (xgd l6 200 (xlet (xup h3 126 l6 (h3 126 (w32 (l6 - 1)))) (fun h4 => xlet (w32 (l6 + (-1))) (fun x5 => some (Sum.inl (x5, h4))))))))))))))) else (some (Sum.inr (l6, h)))
noncomputable def f_Md_tries_68 (l1 : Int) (l2 : Int) (l3 : Int) (l4 : Int) (l5 : Int) (l6 : Int) (h : xH) : Option ((Int × xH) ⊕ xH) :=
  xc1 (xloop (fun s : (Int × xH) => f_Md_tries_s68 l1 l2 l3 l4 l5 s.1 s.2) (l6, h)) (fun b => f_Md_tries_143 l1 l2 l3 l4 l5 b.1 b.2)
noncomputable def f_Md_tries_32 (l1 : Int) (l2 : Int) (l3 : Int) (s0 : Int) (h : xH) : Option ((Int × xH) ⊕ xH) :=
  if l1 < s0 then (f_Md_tries_169 l1 l2 l3 h) else (xgd l3 200 (xc1 (f_Md_share (h 87 l3) h) (fun r1 => xlet (xup h 81 57 (w32 ((h 81 57) + 1))) (fun h2 => xlet (h 81 57) (fun x3 => f_Md_tries_68 l1 l2 l3 s0 r1 x3 h2)))))
noncomputable def f_Md_tries_s7 (l1 : Int) (l2 : Int) (l3 : Int) (h : xH) : Option ((Int × xH) ⊕ xH) :=
  if l3 < h 81 5 then (if l2 = 0 then (xc2 (f_Md_distanceTo l3 h) (fun r1 h2 => f_Md_tries_32 l1 l2 l3 r1 h2)) else (xc2 (f_Md_beginningTo l3 h) (fun r3 h4 => f_Md_tries_32 l1 l2 l3 r3 h4))) else (some (Sum.inr h))
noncomputable def f_Md_tries_7 (l1 : Int) (l2 : Int) (l3 : Int) (h : xH) : Option xH :=
  xc1 (xloop (fun s : (Int × xH) => f_Md_tries_s7 l1 l2 s.1 s.2) (l3, h)) (fun b => f_Md_tries_175 b)
noncomputable def f_Md_tries (l1 : Int) (l2 : Int) (h : xH) : Option xH :=
  xlet (xup h 81 57 0) (fun h1 => f_Md_tries_7 l1 l2 0 h1)
noncomputable def f_Md_keeps_64  (h : xH) : Option (Int × xH) :=
  some (h 81 53, h)
noncomputable def f_Md_keeps_s14 (l2 : Int) (h : xH) : Option ((Int × xH) ⊕ xH) :=
  if l2 < h 81 53 then (xgd l2 200 (xgd l2 200 (xlet (xup h 121 l2 (h 124 l2)) (fun h1 => xgd l2 200 (xgd l2 200 (xlet (xup h1 122 l2 (h1 125 l2)) (fun h2 => xgd l2 200 (xgd l2 200 (xlet (xup h2 123 l2 (h2 126 l2)) (fun h3 => xlet (w32 (l2 + 1)) (fun x4 => some (Sum.inl (x4, h3))))))))))))) else (some (Sum.inr h))
noncomputable def f_Md_keeps_14 (l2 : Int) (h : xH) : Option (Int × xH) :=
  xc1 (xloop (fun s : (Int × xH) => f_Md_keeps_s14 s.1 s.2) (l2, h)) (fun b => f_Md_keeps_64 b)
noncomputable def f_Md_keeps (l1 : Int) (h : xH) : Option (Int × xH) :=
  xc1 (f_Md_min l1 (h 81 57) h) (fun r1 => xlet (xup h 81 53 r1) (fun h2 => f_Md_keeps_14 0 h2))
noncomputable def f_Md_near (l1 : Int) (h : xH) : Option (Int × xH) :=
  xc2 (f_Md_readsOne h) (fun r1 h2 => if r1 = 0 then (some ((-2), h2)) else (xc1 (f_Md_in l1 0 99999 h2) (fun r3 => if r3 = 0 then (some ((-2), h2)) else (xc1 (f_Md_takeB 0 h2) (fun h4 => xc1 (f_Md_walk l1 h4) (fun h5 => xc1 (f_Md_tries l1 0 h5) (fun h6 => xc2 (f_Md_keeps 200 h6) (fun r7 h8 => some (r7, h8)))))))))
noncomputable def f_Md_nearest (l1 : Int) (h : xH) : Option (Int × xH) :=
  xc2 (f_Md_readsOne h) (fun r1 h2 => if r1 = 0 then (some ((-2), h2)) else (xc1 (f_Md_in l1 1 200 h2) (fun r3 => if r3 = 0 then (some ((-2), h2)) else (xc1 (f_Md_takeB 0 h2) (fun h4 => xc1 (f_Md_tries 2000000 0 h4) (fun h5 => xc2 (f_Md_keeps l1 h5) (fun r6 h7 => some (r6, h7))))))))
noncomputable def f_Md_complete (l1 : Int) (h : xH) : Option (Int × xH) :=
  xc2 (f_Md_readsOne h) (fun r1 h2 => if r1 = 0 then (some ((-2), h2)) else (xc1 (f_Md_in l1 0 99999 h2) (fun r3 => if r3 = 0 then (some ((-2), h2)) else (xc1 (f_Md_takeB 0 h2) (fun h4 => xc1 (f_Md_walk l1 h4) (fun h5 => xc1 (f_Md_tries l1 1 h5) (fun h6 => xc2 (f_Md_keeps 200 h6) (fun r7 h8 => some (r7, h8)))))))))
noncomputable def f_Md_found (l1 : Int) (l2 : Int) (h : xH) : Option Int :=
  xc1 (f_Md_in l2 0 2 h) (fun r1 => if r1 = 0 then (some (-2)) else (xc1 (f_Md_in l1 0 (w32 ((h 81 53) - 1)) h) (fun r2 => if r2 = 0 then (some (-1)) else (if l2 = 0 then (xgd l1 200 (some (h 121 l1))) else (if l2 = 1 then (xgd l1 200 (some (h 122 l1))) else (xgd l1 200 (some (h 123 l1))))))))
noncomputable def f_Md_node (l1 : Int) (l2 : Int) (h : xH) : Option Int :=
  if l2 < 0 then (some (-2)) else (xc1 (f_Md_in l1 0 (w32 ((h 81 39) - 1)) h) (fun r1 => if r1 = 0 then (some (-1)) else (if l2 = 0 then (xgd l1 2401 (some (h 110 l1))) else (if l2 = 1 then (xgd l1 2401 (some (h 111 l1))) else (if l2 = 2 then (xgd l1 2401 (some (h 112 l1))) else (if l2 = 3 then (xgd l1 2401 (some (h 113 l1))) else (if l2 = 4 then (xgd l1 2401 (some (h 114 l1))) else (if h 81 47 < w32 (l2 - 5) then (some (-1)) else (xgd (w32 ((w32 ((w32 (13 * l1)) + l2)) - 5)) 31213 (some (h 115 (w32 ((w32 ((w32 (13 * l1)) + l2)) - 5)))))))))))))
noncomputable def f_Md_pair_111  (h : xH) : Option (Int × xH) :=
  xlet (xup h 81 61 (w32 ((h 81 61) + 1))) (fun h1 => some (h 81 61, h1))
noncomputable def f_Md_pair_s56 (l1 : Int) (h : xH) : Option ((Int × xH) ⊕ xH) :=
  if l1 < 12 then (xgd l1 144 (xgd (w32 ((w32 (12 * (h 81 61))) + l1)) 480 (xlet (xup h 128 (w32 ((w32 (12 * (h 81 61))) + l1)) (h 84 l1)) (fun h1 => xgd (w32 (12 + l1)) 144 (xgd (w32 ((w32 (12 * (h1 81 61))) + l1)) 480 (xlet (xup h1 130 (w32 ((w32 (12 * (h1 81 61))) + l1)) (h1 84 (w32 (12 + l1)))) (fun h2 => xlet (w32 (l1 + 1)) (fun x3 => some (Sum.inl (x3, h2)))))))))) else (some (Sum.inr h))
noncomputable def f_Md_pair_56 (l1 : Int) (h : xH) : Option (Int × xH) :=
  xc1 (xloop (fun s : (Int × xH) => f_Md_pair_s56 s.1 s.2) (l1, h)) (fun b => f_Md_pair_111 b)
noncomputable def f_Md_pair  (h : xH) : Option (Int × xH) :=
  xc2 (f_Md_readsTwo 12 h) (fun r1 h2 => if r1 = 0 then (some ((-2), h2)) else (if h2 81 61 = 40 then (some ((-4), h2)) else (xgd 0 12 (xgd (h2 81 61) 40 (xlet (xup h2 127 (h2 81 61) (h2 83 0)) (fun h3 => xgd 1 12 (xgd (h3 81 61) 40 (xlet (xup h3 129 (h3 81 61) (h3 83 1)) (fun h4 => f_Md_pair_56 0 h4)))))))))
noncomputable def f_Md_takePair_68  (h : xH) : Option xH :=
  some h
noncomputable def f_Md_takePair_s22 (l1 : Int) (l2 : Int) (h : xH) : Option ((Int × xH) ⊕ xH) :=
  if l2 < 12 then (xgd (w32 ((w32 (12 * l1)) + l2)) 480 (xgd l2 12 (xlet (xup h 97 l2 (h 128 (w32 ((w32 (12 * l1)) + l2)))) (fun h1 => xgd (w32 ((w32 (12 * l1)) + l2)) 480 (xgd l2 12 (xlet (xup h1 98 l2 (h1 130 (w32 ((w32 (12 * l1)) + l2)))) (fun h2 => xlet (w32 (l2 + 1)) (fun x3 => some (Sum.inl (x3, h2)))))))))) else (some (Sum.inr h))
noncomputable def f_Md_takePair_22 (l1 : Int) (l2 : Int) (h : xH) : Option xH :=
  xc1 (xloop (fun s : (Int × xH) => f_Md_takePair_s22 l1 s.1 s.2) (l2, h)) (fun b => f_Md_takePair_68 b)
noncomputable def f_Md_takePair (l1 : Int) (h : xH) : Option xH :=
  xgd l1 40 (xlet (xup h 81 22 (h 127 l1)) (fun h1 => xgd l1 40 (xlet (xup h1 81 23 (h1 129 l1)) (fun h2 => f_Md_takePair_22 l1 0 h2))))
noncomputable def f_Md_learn_346 (l1 : Int) (h : xH) : Option (Int × xH) :=
  some (l1, h)
noncomputable def f_Md_learn_342 (l1 : Int) (s0 : Int) (h : xH) : Option ((Int × Int × xH) ⊕ (Int × xH)) :=
  some (Sum.inl (l1, s0, h))
noncomputable def f_Md_learn_341 (l1 : Int) (h : xH) : Option ((Int × Int × xH) ⊕ (Int × xH)) :=
  f_Md_learn_342 l1 0 h
noncomputable def f_Md_learn_322 (l1 : Int) (l3 : Int) (l4 : Int) (h : xH) : Option ((Int × Int × xH) ⊕ (Int × xH)) :=
  if 0 < l4 then (if l3 = 0 then (if l1 < 20 then (f_Md_learn_342 l1 1 h) else (f_Md_learn_341 l1 h)) else (f_Md_learn_341 l1 h)) else (f_Md_learn_341 l1 h)
noncomputable def f_Md_learn_s284 (l1 : Int) (l3 : Int) (l4 : Int) (l5 : Int) (h : xH) : Option ((Int × xH) ⊕ xH) :=
  if 6 < l5 then (some (Sum.inr h)) else (xgd l5 7 (xgp (l4 ≠ 0) (xgd l5 7 (xlet (xup h 88 l5 (w32 (200 - (xdiv (w32 (180 * (h 133 l5))) l4)))) (fun h1 => xlet (w32 (l5 + 1)) (fun x2 => some (Sum.inl (x2, h1))))))))
noncomputable def f_Md_learn_284 (l1 : Int) (l3 : Int) (l4 : Int) (l5 : Int) (h : xH) : Option ((Int × Int × xH) ⊕ (Int × xH)) :=
  xc1 (xloop (fun s : (Int × xH) => f_Md_learn_s284 l1 l3 l4 s.1 s.2) (l5, h)) (fun b => f_Md_learn_322 l1 l3 l4 b)
noncomputable def f_Md_learn_276 (l1 : Int) (l3 : Int) (l4 : Int) (h : xH) : Option ((Int × Int × xH) ⊕ (Int × xH)) :=
  if 0 < l4 then (f_Md_learn_284 l1 l3 l4 1 h) else (f_Md_learn_322 l1 l3 l4 h)
noncomputable def f_Md_learn_s251 (l1 : Int) (l3 : Int) (l4 : Int) (l5 : Int) (h : xH) : Option ((Int × Int) ⊕ Int) :=
  if 6 < l5 then (some (Sum.inr l4)) else (xgd l5 7 (xlet (w32 (l4 + (h 133 l5))) (fun x1 => xlet (w32 (l5 + 1)) (fun x2 => some (Sum.inl (x1, x2))))))
noncomputable def f_Md_learn_251 (l1 : Int) (l3 : Int) (l4 : Int) (l5 : Int) (h : xH) : Option ((Int × Int × xH) ⊕ (Int × xH)) :=
  xc1 (xloop (fun s : (Int × Int) => f_Md_learn_s251 l1 l3 s.1 s.2 h) (l4, l5)) (fun b => f_Md_learn_276 l1 l3 b h)
noncomputable def f_Md_learn_245 (l1 : Int) (l3 : Int) (h : xH) : Option ((Int × Int × xH) ⊕ (Int × xH)) :=
  f_Md_learn_251 l1 l3 0 1 h
noncomputable def f_Md_learn_228 (l1 : Int) (l3 : Int) (l4 : Int) (h : xH) : Option ((Int × Int × xH) ⊕ (Int × xH)) :=
  xgd l4 40 (xlet (xup h 131 l4 (h 81 27)) (fun h1 => xlet (w32 (l4 + 1)) (fun x2 => some (Sum.inl (l3, x2, h1)))))
noncomputable def f_Md_learn_207 (l1 : Int) (l3 : Int) (l4 : Int) (l5 : Int) (l6 : Int) (h : xH) : Option ((Int × Int × xH) ⊕ (Int × xH)) :=
  xgd (w32 ((w32 (24 * l4)) + l5)) 960 (xlet (xup h 132 (w32 ((w32 (24 * l4)) + l5)) l6) (fun h1 => xlet (w32 (l5 + 1)) (fun x2 => some (Sum.inl (l3, x2, h1)))))
noncomputable def f_Md_learn_170 (l1 : Int) (l3 : Int) (l4 : Int) (l5 : Int) (l6 : Int) (h : xH) : Option ((Int × Int × xH) ⊕ (Int × xH)) :=
  if 1 < l1 then (xgd l4 40 (if l5 < h 131 l4 then (xgd (w32 ((w32 (24 * l4)) + l5)) 960 (if h 132 (w32 ((w32 (24 * l4)) + l5)) = l6 then (f_Md_learn_207 l1 l3 l4 l5 l6 h) else (f_Md_learn_207 l1 0 l4 l5 l6 h))) else (f_Md_learn_207 l1 l3 l4 l5 l6 h))) else (f_Md_learn_207 l1 l3 l4 l5 l6 h)
noncomputable def f_Md_learn_146 (l1 : Int) (l3 : Int) (l4 : Int) (l5 : Int) (s0 : Int) (h : xH) : Option ((Int × Int × xH) ⊕ (Int × xH)) :=
  xc1 (f_Md_in s0 1 6 h) (fun r1 => if r1 = 0 then (f_Md_learn_170 l1 l3 l4 l5 s0 h) else (xgd s0 7 (xgd s0 7 (xlet (xup h 133 s0 (w32 ((h 133 s0) + 1))) (fun h2 => f_Md_learn_170 l1 l3 l4 l5 s0 h2)))))
noncomputable def f_Md_learn_s105 (l1 : Int) (l3 : Int) (l4 : Int) (l5 : Int) (h : xH) : Option ((Int × Int × xH) ⊕ (Int × xH)) :=
  if l5 < h 81 27 then (xgd l5 24 (if h 100 l5 = 7 then (xgd l5 24 (f_Md_learn_146 l1 l3 l4 l5 (w32 (7 + (h 104 l5))) h)) else (xgd l5 24 (f_Md_learn_146 l1 l3 l4 l5 (h 100 l5) h)))) else (some (Sum.inr (l3, h)))
noncomputable def f_Md_learn_105 (l1 : Int) (l3 : Int) (l4 : Int) (l5 : Int) (h : xH) : Option ((Int × Int × xH) ⊕ (Int × xH)) :=
  xc1 (xloop (fun s : (Int × Int × xH) => f_Md_learn_s105 l1 s.1 l4 s.2.1 s.2.2) (l3, l5, h)) (fun b => f_Md_learn_228 l1 b.1 l4 b.2)
noncomputable def f_Md_learn_102 (l1 : Int) (l3 : Int) (l4 : Int) (h : xH) : Option ((Int × Int × xH) ⊕ (Int × xH)) :=
  f_Md_learn_105 l1 l3 l4 0 h
noncomputable def f_Md_learn_s58 (l1 : Int) (l3 : Int) (l4 : Int) (h : xH) : Option ((Int × Int × xH) ⊕ (Int × xH)) :=
  if l4 < h 81 61 then (xc1 (f_Md_takePair l4 h) (fun h1 => xc1 (f_Md_sums h1) (fun h2 => xc1 (f_Md_ways h2) (fun h3 => if 1 < l1 then (xgd l4 40 (if h3 131 l4 = h3 81 27 then (f_Md_learn_102 l1 l3 l4 h3) else (f_Md_learn_102 l1 0 l4 h3))) else (f_Md_learn_102 l1 l3 l4 h3))))) else (some (Sum.inr (l3, h)))
noncomputable def f_Md_learn_58 (l1 : Int) (l3 : Int) (l4 : Int) (h : xH) : Option ((Int × Int × xH) ⊕ (Int × xH)) :=
  xc1 (xloop (fun s : (Int × Int × xH) => f_Md_learn_s58 l1 s.1 s.2.1 s.2.2) (l3, l4, h)) (fun b => f_Md_learn_245 l1 b.1 b.2)
noncomputable def f_Md_learn_55 (l1 : Int) (l3 : Int) (h : xH) : Option ((Int × Int × xH) ⊕ (Int × xH)) :=
  f_Md_learn_58 l1 l3 0 h
noncomputable def f_Md_learn_s34 (l1 : Int) (l3 : Int) (l4 : Int) (h : xH) : Option ((Int × xH) ⊕ xH) :=
  if l4 < 7 then (xgd l4 7 (xlet (xup h 133 l4 0) (fun h1 => xlet (w32 (l4 + 1)) (fun x2 => some (Sum.inl (x2, h1)))))) else (some (Sum.inr h))
noncomputable def f_Md_learn_34 (l1 : Int) (l3 : Int) (l4 : Int) (h : xH) : Option ((Int × Int × xH) ⊕ (Int × xH)) :=
  xc1 (xloop (fun s : (Int × xH) => f_Md_learn_s34 l1 l3 s.1 s.2) (l4, h)) (fun b => f_Md_learn_55 l1 l3 b)
noncomputable def f_Md_learn_30 (l1 : Int) (s0 : Int) (h : xH) : Option ((Int × Int × xH) ⊕ (Int × xH)) :=
  f_Md_learn_34 l1 s0 0 h
noncomputable def f_Md_learn_s13 (l1 : Int) (l2 : Int) (h : xH) : Option ((Int × Int × xH) ⊕ (Int × xH)) :=
  if l2 = 0 then (some (Sum.inr (l1, h))) else (xlet (w32 (l1 + 1)) (fun x1 => if 1 < x1 then (f_Md_learn_30 x1 1 h) else (f_Md_learn_30 x1 0 h)))
noncomputable def f_Md_learn_13 (l1 : Int) (l2 : Int) (h : xH) : Option (Int × xH) :=
  xc1 (xloop (fun s : (Int × Int × xH) => f_Md_learn_s13 s.1 s.2.1 s.2.2) (l1, l2, h)) (fun b => f_Md_learn_346 b.1 b.2)
noncomputable def f_Md_learn  (h : xH) : Option (Int × xH) :=
  if h 81 61 = 0 then (some (0, h)) else (f_Md_learn_13 0 1 h)
noncomputable def f_Md_spread_36 (l1 : Int) (h : xH) : Option (Int × xH) :=
  some (l1, h)
noncomputable def f_Md_spread_s4 (l1 : Int) (l2 : Int) (h : xH) : Option ((Int × Int × xH) ⊕ (Int × xH)) :=
  if l2 < h 81 61 then (xc1 (f_Md_takePair l2 h) (fun h1 => xc1 (f_Md_sums h1) (fun h2 => xgd 0 169 (xlet (w32 (l1 + (h2 99 0))) (fun x3 => xlet (w32 (l2 + 1)) (fun x4 => some (Sum.inl (x3, x4, h2)))))))) else (some (Sum.inr (l1, h)))
noncomputable def f_Md_spread_4 (l1 : Int) (l2 : Int) (h : xH) : Option (Int × xH) :=
  xc1 (xloop (fun s : (Int × Int × xH) => f_Md_spread_s4 s.1 s.2.1 s.2.2) (l1, l2, h)) (fun b => f_Md_spread_36 b.1 b.2)
noncomputable def f_Md_spread  (h : xH) : Option (Int × xH) :=
  f_Md_spread_4 0 0 h
noncomputable def f_Md_together_105 (l2 : Int) (h : xH) : Option (Int × xH) :=
  xc1 (f_Md_wordOf l2 145 0 h) (fun r1 => some (r1, h))
noncomputable def f_Md_together_s61 (l1 : Int) (l2 : Int) (l3 : Int) (h : xH) : Option ((Int × xH) ⊕ xH) :=
  xgd (w32 (l1 + 1)) 12 (if l3 < h 83 (w32 (l1 + 1)) then (xgd l1 12 (xgd (w32 ((w32 (12 * (w32 (l1 + 1)))) + l3)) 144 (xgd (w32 ((h 83 l1) + l3)) 24 (xlet (xup h 145 (w32 ((h 83 l1) + l3)) (h 84 (w32 ((w32 (12 * (w32 (l1 + 1)))) + l3)))) (fun h1 => xlet (w32 (l3 + 1)) (fun x2 => some (Sum.inl (x2, h1)))))))) else (some (Sum.inr h)))
noncomputable def f_Md_together_61 (l1 : Int) (l2 : Int) (l3 : Int) (h : xH) : Option (Int × xH) :=
  xc1 (xloop (fun s : (Int × xH) => f_Md_together_s61 l1 l2 s.1 s.2) (l3, h)) (fun b => f_Md_together_105 l2 b)
noncomputable def f_Md_together_59 (l1 : Int) (l2 : Int) (h : xH) : Option (Int × xH) :=
  f_Md_together_61 l1 l2 0 h
noncomputable def f_Md_together_s26 (l1 : Int) (l2 : Int) (l3 : Int) (h : xH) : Option ((Int × xH) ⊕ xH) :=
  xgd l1 12 (if l3 < h 83 l1 then (xgd (w32 ((w32 (12 * l1)) + l3)) 144 (xgd l3 24 (xlet (xup h 145 l3 (h 84 (w32 ((w32 (12 * l1)) + l3)))) (fun h1 => xlet (w32 (l3 + 1)) (fun x2 => some (Sum.inl (x2, h1))))))) else (some (Sum.inr h)))
noncomputable def f_Md_together_26 (l1 : Int) (l2 : Int) (l3 : Int) (h : xH) : Option (Int × xH) :=
  xc1 (xloop (fun s : (Int × xH) => f_Md_together_s26 l1 l2 s.1 s.2) (l3, h)) (fun b => f_Md_together_59 l1 l2 b)
noncomputable def f_Md_together (l1 : Int) (h : xH) : Option (Int × xH) :=
  xgd l1 12 (xgd (w32 (l1 + 1)) 12 (xlet (w32 ((h 83 l1) + (h 83 (w32 (l1 + 1))))) (fun x1 => if 12 < x1 then (some ((-1), h)) else (f_Md_together_26 l1 x1 0 h))))
noncomputable def f_Md_isWord (l1 : Int) (h : xH) : Option Int :=
  xgd l1 12 (xc1 (f_Md_wordOf (h 83 l1) 84 (w32 (12 * l1)) h) (fun r1 => some r1))
noncomputable def f_Md_parting_63  (h : xH) : Option Int :=
  some (-1)
noncomputable def f_Md_parting_57 (l1 : Int) (l2 : Int) (h : xH) : Option (Int ⊕ (Unit ⊕ Int)) :=
  xlet (w32 (l2 + 1)) (fun x1 => some (Sum.inl x1))
noncomputable def f_Md_parting_s2 (l1 : Int) (l2 : Int) (h : xH) : Option (Int ⊕ (Unit ⊕ Int)) :=
  xgd l1 12 (if l2 < h 83 l1 then (xc1 (f_Md_wordOf l2 84 (w32 (12 * l1)) h) (fun r1 => if r1 = (-1) then (f_Md_parting_57 l1 l2 h) else (xgd l1 12 (xc1 (f_Md_wordOf (w32 ((h 83 l1) - l2)) 84 (w32 ((w32 (12 * l1)) + l2)) h) (fun r2 => if r2 = (-1) then (f_Md_parting_57 l1 l2 h) else (some (Sum.inr (Sum.inr l2)))))))) else (some (Sum.inr (Sum.inl ()))))
noncomputable def f_Md_parting_2 (l1 : Int) (l2 : Int) (h : xH) : Option Int :=
  xc1 (xloop (fun s : Int => f_Md_parting_s2 l1 s h) l2) (fun q => xsw q (fun b => f_Md_parting_63 h) (fun r => some r))
noncomputable def f_Md_parting (l1 : Int) (h : xH) : Option Int :=
  f_Md_parting_2 l1 1 h
noncomputable def f_Md_partAt_115 (l2 : Int) (h : xH) : Option (Int × xH) :=
  xc2 (f_Md_together l2 h) (fun r1 h2 => if r1 = (-1) then (some (1000000, h2)) else (some (h2 81 13, h2)))
noncomputable def f_Md_partAt_14 (l1 : Int) (l2 : Int) (l3 : Int) (s0 : Int) (h : xH) : Option (Int × xH) :=
  if l1 = 0 then (if s0 = 0 then (some (1000000, h)) else (some (0, h))) else (if l1 = 1 then (if s0 = 0 then (xgd l2 12 (if h 140 l2 = (-1) then (some (1000000, h)) else (xgd l2 12 (some (h 141 l2, h))))) else (some (1000000, h))) else (if l1 = 2 then (if w32 (l2 + 1) < h 81 2 then (if s0 = 0 then (f_Md_partAt_115 l2 h) else (xc1 (f_Md_isWord (w32 (l2 + 1)) h) (fun r1 => if r1 = (-1) then (f_Md_partAt_115 l2 h) else (some (1000000, h))))) else (some (1000000, h))) else (if l1 = 3 then (if s0 = 0 then (xc1 (f_Md_parting l2 h) (fun r2 => if r2 = (-1) then (some (1000000, h)) else (some (h 81 14, h)))) else (some (1000000, h))) else (if s0 = 0 then (some (w32 (l3 + 1), h)) else (some (1000000, h))))))
noncomputable def f_Md_partAt (l1 : Int) (l2 : Int) (l3 : Int) (h : xH) : Option (Int × xH) :=
  xc1 (f_Md_isWord l2 h) (fun r1 => if r1 = (-1) then (f_Md_partAt_14 l1 l2 l3 0 h) else (f_Md_partAt_14 l1 l2 l3 1 h))
noncomputable def f_Md_mend_510  (h : xH) : Option (Int × xH) :=
  some (h 81 69, h)
noncomputable def f_Md_mend_485 (l1 : Int) (l3 : Int) (h : xH) : Option ((Int × xH) ⊕ xH) :=
  xgd (h 81 69) 12 (xlet (w32 (l3 + (h 138 (h 81 69)))) (fun x1 => xlet (xup h 81 69 (w32 ((h 81 69) + 1))) (fun h2 => some (Sum.inl (x1, h2)))))
noncomputable def f_Md_mend_445 (l1 : Int) (l3 : Int) (l4 : Int) (l6 : Int) (s1 : Int) (s2 : Int) (h : xH) : Option ((Int × xH) ⊕ xH) :=
  xgd s1 12 (xlet (xup h 136 s1 s2) (fun h1 => if l4 = 3 then (xgd l3 12 (xc1 (f_Md_wordOf (w32 ((h1 83 l3) - l6)) 84 (w32 ((w32 (12 * l3)) + l6)) h1) (fun r2 => xgd (h1 81 69) 12 (xlet (xup h1 137 (h1 81 69) r2) (fun h3 => f_Md_mend_485 l1 l3 h3))))) else (f_Md_mend_485 l1 l3 h1)))
noncomputable def f_Md_mend_369 (l1 : Int) (l3 : Int) (l4 : Int) (s0 : Int) (h : xH) : Option ((Int × xH) ⊕ xH) :=
  if l4 = 0 then (xc1 (f_Md_isWord l3 h) (fun r1 => f_Md_mend_445 l1 l3 l4 s0 (h 81 69) r1 h)) else (if l4 = 1 then (xgd l3 12 (f_Md_mend_445 l1 l3 l4 s0 (h 81 69) (h 140 l3) h)) else (if l4 = 2 then (xc2 (f_Md_together l3 h) (fun r2 h3 => f_Md_mend_445 l1 l3 l4 s0 (h 81 69) r2 h3)) else (if l4 = 3 then (xc1 (f_Md_wordOf s0 84 (w32 (12 * l3)) h) (fun r4 => f_Md_mend_445 l1 l3 l4 s0 (h 81 69) r4 h)) else (f_Md_mend_445 l1 l3 l4 s0 (h 81 69) (-1) h))))
noncomputable def f_Md_mend_353 (l1 : Int) (l3 : Int) (l4 : Int) (s1 : Int) (s2 : Int) (h : xH) : Option ((Int × xH) ⊕ xH) :=
  xgd s1 12 (xlet (xup h 138 s1 s2) (fun h1 => if l4 = 3 then (xc1 (f_Md_parting l3 h1) (fun r2 => f_Md_mend_369 l1 l3 l4 r2 h1)) else (f_Md_mend_369 l1 l3 l4 0 h1)))
noncomputable def f_Md_mend_302 (l1 : Int) (l3 : Int) (l4 : Int) (l5 : Int) (h : xH) : Option ((Int × xH) ⊕ xH) :=
  xgd (h 81 69) 12 (xlet (xup h 134 (h 81 69) l4) (fun h1 => xgd (h1 81 69) 12 (xlet (xup h1 135 (h1 81 69) l5) (fun h2 => xgd (h2 81 69) 12 (xlet (xup h2 137 (h2 81 69) (-1)) (fun h3 => if l4 = 2 then (f_Md_mend_353 l1 l3 l4 (h3 81 69) 2 h3) else (f_Md_mend_353 l1 l3 l4 (h3 81 69) 1 h3)))))))
noncomputable def f_Md_mend_286 (l1 : Int) (l3 : Int) (l4 : Int) (h : xH) : Option ((Int × Int × xH) ⊕ (Int × Int × xH)) :=
  xlet (w32 (l4 + 1)) (fun x1 => xc2 (f_Md_partAt x1 l3 l1 h) (fun r2 h3 => some (Sum.inl (x1, r2, h3))))
noncomputable def f_Md_mend_274 (l1 : Int) (l3 : Int) (l4 : Int) (l5 : Int) (s0 : Int) (s2 : Int) (s3 : Int) (h : xH) : Option ((Int × Int × xH) ⊕ (Int × Int × xH)) :=
  xgd (w32 (s2 + s3)) 13 (xgd l3 13 (if w32 (s0 + (h 139 (w32 (s2 + s3)))) = h 139 l3 then (some (Sum.inr (l4, l5, h))) else (f_Md_mend_286 l1 l3 l4 h)))
noncomputable def f_Md_mend_s248 (l1 : Int) (l3 : Int) (l4 : Int) (l5 : Int) (h : xH) : Option ((Int × Int × xH) ⊕ (Int × Int × xH)) :=
  if l5 < 1000000 then (if l4 = 2 then (f_Md_mend_274 l1 l3 l4 l5 l5 l3 2 h) else (f_Md_mend_274 l1 l3 l4 l5 l5 l3 1 h)) else (f_Md_mend_286 l1 l3 l4 h)
noncomputable def f_Md_mend_248 (l1 : Int) (l3 : Int) (l4 : Int) (l5 : Int) (h : xH) : Option ((Int × xH) ⊕ xH) :=
  xc1 (xloop (fun s : (Int × Int × xH) => f_Md_mend_s248 l1 l3 s.1 s.2.1 s.2.2) (l4, l5, h)) (fun b => f_Md_mend_302 l1 l3 b.1 b.2.1 b.2.2)
noncomputable def f_Md_mend_s228 (l1 : Int) (l3 : Int) (h : xH) : Option ((Int × xH) ⊕ xH) :=
  if l3 < h 81 2 then (xc2 (f_Md_partAt 0 l3 l1 h) (fun r1 h2 => f_Md_mend_248 l1 l3 0 r1 h2)) else (some (Sum.inr h))
noncomputable def f_Md_mend_228 (l1 : Int) (l3 : Int) (h : xH) : Option (Int × xH) :=
  xc1 (xloop (fun s : (Int × xH) => f_Md_mend_s228 l1 s.1 s.2) (l3, h)) (fun b => f_Md_mend_510 b)
noncomputable def f_Md_mend_211 (l1 : Int) (h : xH) : Option (Int × xH) :=
  xlet (xup h 81 69 0) (fun h1 => xgd 0 13 (xlet (xup h1 81 70 (h1 139 0)) (fun h2 => f_Md_mend_228 l1 0 h2)))
noncomputable def f_Md_mend_205 (l1 : Int) (l3 : Int) (h : xH) : Option ((Int × xH) ⊕ xH) :=
  xlet (w32 (l3 + (-1))) (fun x1 => some (Sum.inl (x1, h)))
noncomputable def f_Md_mend_199 (l1 : Int) (l3 : Int) (l4 : Int) (h : xH) : Option ((Int × xH) ⊕ xH) :=
  xlet (w32 (l4 + 1)) (fun x1 => some (Sum.inl (x1, h)))
noncomputable def f_Md_mend_192 (l1 : Int) (l3 : Int) (l4 : Int) (s1 : Int) (s2 : Int) (s3 : Int) (s5 : Int) (s6 : Int) (h : xH) : Option ((Int × xH) ⊕ xH) :=
  xgd (w32 (s5 + s6)) 13 (xc1 (f_Md_min s2 (w32 (s3 + (h 139 (w32 (s5 + s6))))) h) (fun r1 => xgd s1 13 (xlet (xup h 139 s1 r1) (fun h2 => f_Md_mend_199 l1 l3 l4 h2))))
noncomputable def f_Md_mend_s139 (l1 : Int) (l3 : Int) (l4 : Int) (h : xH) : Option ((Int × xH) ⊕ xH) :=
  if l4 < 5 then (xc2 (f_Md_partAt l4 l3 l1 h) (fun r1 h2 => if r1 < 1000000 then (xgd l3 13 (if l4 = 2 then (f_Md_mend_192 l1 l3 l4 l3 (h2 139 l3) r1 l3 2 h2) else (f_Md_mend_192 l1 l3 l4 l3 (h2 139 l3) r1 l3 1 h2))) else (f_Md_mend_199 l1 l3 l4 h2))) else (some (Sum.inr h))
noncomputable def f_Md_mend_139 (l1 : Int) (l3 : Int) (l4 : Int) (h : xH) : Option ((Int × xH) ⊕ xH) :=
  xc1 (xloop (fun s : (Int × xH) => f_Md_mend_s139 l1 l3 s.1 s.2) (l4, h)) (fun b => f_Md_mend_205 l1 l3 b)
noncomputable def f_Md_mend_s123 (l1 : Int) (l3 : Int) (h : xH) : Option ((Int × xH) ⊕ xH) :=
  if l3 < 0 then (some (Sum.inr h)) else (xgd l3 13 (xlet (xup h 139 l3 100000000) (fun h1 => f_Md_mend_139 l1 l3 0 h1)))
noncomputable def f_Md_mend_123 (l1 : Int) (l3 : Int) (h : xH) : Option (Int × xH) :=
  xc1 (xloop (fun s : (Int × xH) => f_Md_mend_s123 l1 s.1 s.2) (l3, h)) (fun b => f_Md_mend_211 l1 b)
noncomputable def f_Md_mend_106 (l1 : Int) (h : xH) : Option (Int × xH) :=
  xgd (h 81 2) 13 (xlet (xup h 139 (h 81 2) 0) (fun h1 => xlet (w32 ((h1 81 2) - 1)) (fun x2 => f_Md_mend_123 l1 x2 h1)))
noncomputable def f_Md_mend_100 (l1 : Int) (l3 : Int) (h : xH) : Option ((Int × xH) ⊕ xH) :=
  xlet (w32 (l3 + 1)) (fun x1 => some (Sum.inl (x1, h)))
noncomputable def f_Md_mend_s31 (l1 : Int) (l3 : Int) (h : xH) : Option ((Int × xH) ⊕ xH) :=
  if l3 < h 81 2 then (xgd l3 12 (xlet (xup h 140 l3 (-1)) (fun h1 => xc1 (f_Md_isWord l3 h1) (fun r2 => if r2 = (-1) then (xc1 (f_Md_takeB l3 h1) (fun h3 => xc1 (f_Md_tries l1 0 h3) (fun h4 => if 0 < h4 81 57 then (xgd 0 200 (xgd l3 12 (xlet (xup h4 140 l3 (h4 124 0)) (fun h5 => xgd 0 200 (xgd l3 12 (xlet (xup h5 141 l3 (h5 125 0)) (fun h6 => f_Md_mend_100 l1 l3 h6))))))) else (f_Md_mend_100 l1 l3 h4)))) else (f_Md_mend_100 l1 l3 h1))))) else (some (Sum.inr h))
noncomputable def f_Md_mend_31 (l1 : Int) (l3 : Int) (h : xH) : Option (Int × xH) :=
  xc1 (xloop (fun s : (Int × xH) => f_Md_mend_s31 l1 s.1 s.2) (l3, h)) (fun b => f_Md_mend_106 l1 b)
noncomputable def f_Md_mend (l1 : Int) (h : xH) : Option (Int × xH) :=
  xc2 (f_Md_reads 32 12 12 h) (fun r1 h2 => if r1 = 0 then (some ((-2), h2)) else (xc1 (f_Md_in l1 0 99999 h2) (fun r3 => if r3 = 0 then (some ((-2), h2)) else (f_Md_mend_31 l1 0 h2))))
noncomputable def f_Md_part (l1 : Int) (l2 : Int) (h : xH) : Option Int :=
  xc1 (f_Md_in l2 0 4 h) (fun r1 => if r1 = 0 then (some (-2)) else (if h 81 69 = (-1) then (if l1 = (-1) then (if l2 = 1 then (some 0) else (some (-1))) else (some (-1))) else (if l1 = (-1) then (if l2 = 1 then (some (h 81 70)) else (some (-1))) else (xc1 (f_Md_in l1 0 (w32 ((h 81 69) - 1)) h) (fun r2 => if r2 = 0 then (some (-1)) else (if l2 = 0 then (xgd l1 12 (some (h 134 l1))) else (if l2 = 1 then (xgd l1 12 (some (h 135 l1))) else (if l2 = 2 then (xgd l1 12 (some (h 136 l1))) else (if l2 = 3 then (xgd l1 12 (some (h 137 l1))) else (xgd l1 12 (some (h 138 l1))))))))))))
noncomputable def f_Md_refused (l1 : Int) (h : xH) : Option (Int × xH) :=
  xlet (xup h 81 82 l1) (fun h1 => some ((-1), h1))
noncomputable def f_Md_done (l1 : Int) (h : xH) : Option (Int × xH) :=
  xlet (xup h 81 82 0) (fun h1 => some (l1, h1))
noncomputable def f_Md_put_361  (h : xH) : Option (Int × xH) :=
  xc2 (f_Md_done 1 h) (fun r1 h2 => some (r1, h2))
noncomputable def f_Md_put_358  (h : xH) : Option (Int × xH) :=
  f_Md_put_361 h
noncomputable def f_Md_put_s320 (l3 : Int) (l5 : Int) (l6 : Int) (h : xH) : Option ((Int × xH) ⊕ xH) :=
  xgd l3 200 (if l6 < h 85 l3 then (xgd (w32 ((w32 (12 * l3)) + l6)) 2400 (xgd (w32 (l5 + (h 86 (w32 ((w32 (12 * l3)) + l6))))) 208 (xlet (xup h 144 (w32 (l5 + (h 86 (w32 ((w32 (12 * l3)) + l6))))) 1) (fun h1 => xlet (w32 (l6 + 1)) (fun x2 => some (Sum.inl (x2, h1))))))) else (some (Sum.inr h)))
noncomputable def f_Md_put_320 (l3 : Int) (l5 : Int) (l6 : Int) (h : xH) : Option (Int × xH) :=
  xc1 (xloop (fun s : (Int × xH) => f_Md_put_s320 l3 l5 s.1 s.2) (l6, h)) (fun b => f_Md_put_358 b)
noncomputable def f_Md_put_317 (l3 : Int) (l5 : Int) (h : xH) : Option (Int × xH) :=
  f_Md_put_320 l3 l5 0 h
noncomputable def f_Md_put_s293 (l3 : Int) (l5 : Int) (l6 : Int) (h : xH) : Option ((Int × xH) ⊕ xH) :=
  if l6 < 26 then (xgd (w32 (l5 + l6)) 208 (xlet (xup h 144 (w32 (l5 + l6)) 0) (fun h1 => xlet (w32 (l6 + 1)) (fun x2 => some (Sum.inl (x2, h1)))))) else (some (Sum.inr h))
noncomputable def f_Md_put_293 (l3 : Int) (l5 : Int) (l6 : Int) (h : xH) : Option (Int × xH) :=
  xc1 (xloop (fun s : (Int × xH) => f_Md_put_s293 l3 l5 s.1 s.2) (l6, h)) (fun b => f_Md_put_317 l3 l5 b)
noncomputable def f_Md_put_279  (h : xH) : Option (Int × xH) :=
  f_Md_put_361 h
noncomputable def f_Md_put_s247 (l5 : Int) (l6 : Int) (h : xH) : Option ((Int × xH) ⊕ xH) :=
  if l6 < 6 then (xgd (w32 (l6 + 1)) 7 (xgd (w32 (l5 + l6)) 208 (xlet (xup h 144 (w32 (l5 + l6)) (h 88 (w32 (l6 + 1)))) (fun h1 => xlet (w32 (l6 + 1)) (fun x2 => some (Sum.inl (x2, h1))))))) else (some (Sum.inr h))
noncomputable def f_Md_put_247 (l5 : Int) (l6 : Int) (h : xH) : Option (Int × xH) :=
  xc1 (xloop (fun s : (Int × xH) => f_Md_put_s247 l5 s.1 s.2) (l6, h)) (fun b => f_Md_put_279 b)
noncomputable def f_Md_put_233  (h : xH) : Option (Int × xH) :=
  f_Md_put_361 h
noncomputable def f_Md_put_s196 (l3 : Int) (l5 : Int) (l6 : Int) (h : xH) : Option ((Int × xH) ⊕ xH) :=
  if h 81 47 < l6 then (some (Sum.inr h)) else (xgd (w32 ((w32 (13 * l3)) + l6)) 31213 (xgd (w32 (l5 + l6)) 208 (xlet (xup h 144 (w32 (l5 + l6)) (h 115 (w32 ((w32 (13 * l3)) + l6)))) (fun h1 => xlet (w32 (l6 + 1)) (fun x2 => some (Sum.inl (x2, h1)))))))
noncomputable def f_Md_put_196 (l3 : Int) (l5 : Int) (l6 : Int) (h : xH) : Option (Int × xH) :=
  xc1 (xloop (fun s : (Int × xH) => f_Md_put_s196 l3 l5 s.1 s.2) (l6, h)) (fun b => f_Md_put_233 b)
noncomputable def f_Md_put_178  (h : xH) : Option (Int × xH) :=
  f_Md_put_361 h
noncomputable def f_Md_put_s139 (l3 : Int) (l5 : Int) (l6 : Int) (h : xH) : Option ((Int × xH) ⊕ xH) :=
  xgd l3 200 (if l6 < h 85 l3 then (xgd (w32 ((w32 (12 * l3)) + l6)) 2400 (xgd (w32 (l5 + l6)) 208 (xlet (xup h 144 (w32 (l5 + l6)) (h 86 (w32 ((w32 (12 * l3)) + l6)))) (fun h1 => xlet (w32 (l6 + 1)) (fun x2 => some (Sum.inl (x2, h1))))))) else (some (Sum.inr h)))
noncomputable def f_Md_put_139 (l3 : Int) (l5 : Int) (l6 : Int) (h : xH) : Option (Int × xH) :=
  xc1 (xloop (fun s : (Int × xH) => f_Md_put_s139 l3 l5 s.1 s.2) (l6, h)) (fun b => f_Md_put_178 b)
noncomputable def f_Md_put_74  (h : xH) : Option (Int × xH) :=
  xc2 (f_Md_refused 1 h) (fun r1 h2 => some (r1, h2))
noncomputable def f_Md_put_57 (l1 : Int) (l2 : Int) (l3 : Int) (s0 : Int) (h : xH) : Option (Int × xH) :=
  xc1 (f_Md_in l1 0 7 h) (fun r1 => if r1 = 0 then (f_Md_put_74 h) else (if s0 = 0 then (f_Md_put_74 h) else (xgd l1 8 (xlet (xup h 142 l1 l2) (fun h2 => xlet (w32 (26 * l1)) (fun x3 => if l2 = 1 then (xgd l3 200 (xgd l1 8 (xlet (xup h2 143 l1 (h2 85 l3)) (fun h4 => f_Md_put_139 l3 x3 0 h4)))) else (if l2 = 2 then (xgd l1 8 (xlet (xup h2 143 l1 (w32 ((h2 81 47) + 1))) (fun h5 => f_Md_put_196 l3 x3 0 h5))) else (if l2 = 3 then (xgd l1 8 (xlet (xup h2 143 l1 6) (fun h6 => f_Md_put_247 x3 0 h6))) else (if l2 = 4 then (xgd l1 8 (xlet (xup h2 143 l1 26) (fun h7 => f_Md_put_293 l3 x3 0 h7))) else (f_Md_put_361 h2))))))))))
noncomputable def f_Md_put_56 (l1 : Int) (l2 : Int) (l3 : Int) (h : xH) : Option (Int × xH) :=
  f_Md_put_57 l1 l2 l3 0 h
noncomputable def f_Md_put_52 (l1 : Int) (l2 : Int) (l3 : Int) (h : xH) : Option (Int × xH) :=
  f_Md_put_57 l1 l2 l3 1 h
noncomputable def f_Md_put_33 (l1 : Int) (l2 : Int) (l3 : Int) (h : xH) : Option (Int × xH) :=
  if l2 = 2 then (xc1 (f_Md_in l3 0 (w32 ((h 81 39) - 1)) h) (fun r1 => if r1 = 0 then (f_Md_put_56 l1 l2 l3 h) else (f_Md_put_52 l1 l2 l3 h))) else (f_Md_put_56 l1 l2 l3 h)
noncomputable def f_Md_put_19 (l1 : Int) (l2 : Int) (l3 : Int) (h : xH) : Option (Int × xH) :=
  xc1 (f_Md_in l3 0 (w32 ((h 81 5) - 1)) h) (fun r1 => if r1 = 0 then (f_Md_put_33 l1 l2 l3 h) else (f_Md_put_52 l1 l2 l3 h))
noncomputable def f_Md_put (l1 : Int) (l2 : Int) (l3 : Int) (h : xH) : Option (Int × xH) :=
  if l2 = 0 then (f_Md_put_52 l1 l2 l3 h) else (if l2 = 3 then (f_Md_put_52 l1 l2 l3 h) else (if l2 = 1 then (f_Md_put_19 l1 l2 l3 h) else (if l2 = 4 then (f_Md_put_19 l1 l2 l3 h) else (f_Md_put_33 l1 l2 l3 h))))
noncomputable def f_Md_forge_271 (l5 : Int) (h : xH) : Option (Int × xH) :=
  xc2 (f_Md_done l5 h) (fun r1 h2 => some (r1, h2))
noncomputable def f_Md_forge_s237 (l1 : Int) (l3 : Int) (l5 : Int) (l6 : Int) (h : xH) : Option ((Int × Int) ⊕ Int) :=
  if l6 < l3 then (xgd (w32 ((w32 ((w32 (26 * l1)) + 1)) + l6)) 208 (xlet (w32 (l5 + (w32 (97 + (h 144 (w32 ((w32 ((w32 (26 * l1)) + 1)) + l6))))))) (fun x1 => xlet (w32 (l6 + 1)) (fun x2 => some (Sum.inl (x1, x2)))))) else (some (Sum.inr l5))
noncomputable def f_Md_forge_237 (l1 : Int) (l3 : Int) (l5 : Int) (l6 : Int) (h : xH) : Option (Int × xH) :=
  xc1 (xloop (fun s : (Int × Int) => f_Md_forge_s237 l1 l3 s.1 s.2 h) (l5, l6)) (fun b => f_Md_forge_271 b h)
noncomputable def f_Md_forge_224  (h : xH) : Option (Int × xH) :=
  xc2 (f_Md_refused 12 h) (fun r1 h2 => some (r1, h2))
noncomputable def f_Md_forge_140 (l1 : Int) (l3 : Int) (h : xH) : Option (Int × xH) :=
  xgd l1 8 (xc1 (f_Md_in l3 0 (w32 ((h 143 l1) - 1)) h) (fun r1 => if r1 = 0 then (xc2 (f_Md_refused 12 h) (fun r2 h3 => some (r2, h3))) else (xgd (w32 ((w32 (26 * l1)) + l3)) 208 (xc2 (f_Md_done (h 144 (w32 ((w32 (26 * l1)) + l3))) h) (fun r4 h5 => some (r4, h5))))))
noncomputable def f_Md_forge_91 (l1 : Int) (l2 : Int) (l3 : Int) (l4 : Int) (h : xH) : Option (Int × xH) :=
  if l2 = 0 then (f_Md_forge_140 l1 l3 h) else (if l2 = 1 then (f_Md_forge_140 l1 l3 h) else (if l2 = 2 then (f_Md_forge_140 l1 l3 h) else (if l2 = 3 then (f_Md_forge_140 l1 l3 h) else (if l2 = 4 then (if l3 < 0 then (xc2 (f_Md_refused 13 h) (fun r1 h2 => some (r1, h2))) else (xc2 (f_Md_done l3 h) (fun r3 h4 => some (r3, h4)))) else (if l2 = 5 then (if l3 < 0 then (f_Md_forge_224 h) else (xgd l1 8 (if h 143 l1 < w32 (1 + l3) then (f_Md_forge_224 h) else (if 6 < w32 (l3 + l3) then (f_Md_forge_224 h) else (f_Md_forge_237 l1 l3 0 0 h))))) else (if l2 = 6 then (if l4 = 0 then (xc2 (f_Md_done 0 h) (fun r5 h6 => some (r5, h6))) else (if l4 = 2 then (xgd l1 8 (xc2 (f_Md_done (h 143 l1) h) (fun r7 h8 => some (r7, h8)))) else (xc2 (f_Md_refused 14 h) (fun r9 h10 => some (r9, h10))))) else (if l2 = 7 then (if l3 = 0 then (xc2 (f_Md_refused 15 h) (fun r11 h12 => some (r11, h12))) else (xgp (l3 ≠ 0) (xc2 (f_Md_done (xdiv 1000 l3) h) (fun r13 h14 => some (r13, h14))))) else (xc2 (f_Md_refused 10 h) (fun r15 h16 => some (r15, h16))))))))))
noncomputable def f_Md_forge_81 (l1 : Int) (l2 : Int) (l3 : Int) (l4 : Int) (s0 : Int) (s1 : Int) (h : xH) : Option (Int × xH) :=
  if s0 = s1 then (f_Md_forge_91 l1 l2 l3 l4 h) else (xc2 (f_Md_refused 11 h) (fun r1 h2 => some (r1, h2)))
noncomputable def f_Md_forge_55 (l1 : Int) (l2 : Int) (l3 : Int) (l4 : Int) (h : xH) : Option (Int × xH) :=
  if l4 = 0 then (xc2 (f_Md_refused 10 h) (fun r1 h2 => some (r1, h2))) else (if l2 = 5 then (f_Md_forge_81 l1 l2 l3 l4 l4 1 h) else (f_Md_forge_81 l1 l2 l3 l4 l4 (w32 (l2 + 1)) h))
noncomputable def f_Md_forge_31  (h : xH) : Option (Int × xH) :=
  xc2 (f_Md_refused 1 h) (fun r1 h2 => some (r1, h2))
noncomputable def f_Md_forge (l1 : Int) (l2 : Int) (l3 : Int) (h : xH) : Option (Int × xH) :=
  xc1 (f_Md_in l1 0 7 h) (fun r1 => if r1 = 0 then (f_Md_forge_31 h) else (xc1 (f_Md_in l2 0 8 h) (fun r2 => if r2 = 0 then (f_Md_forge_31 h) else (xc1 (f_Md_in l3 (-100) 100 h) (fun r3 => if r3 = 0 then (f_Md_forge_31 h) else (xgd l1 8 (xlet (h 142 l1) (fun x4 => if 3 < l2 then (if l2 = 5 then (f_Md_forge_55 l1 l2 l3 x4 h) else (f_Md_forge_91 l1 l2 l3 x4 h)) else (f_Md_forge_55 l1 l2 l3 x4 h)))))))))
noncomputable def f_Md_status  (h : xH) : Option Int :=
  some (h 81 82)
noncomputable def f_Law_law_792 (L : Nat) (xs : Nat → Int32)  (h : xH) : Option (Int × xH) :=
  some (1, h)
noncomputable def f_Law_law_786 (L : Nat) (xs : Nat → Int32) (l3 : Int) (h : xH) : Option ((Int × xH) ⊕ (xH ⊕ (Int × xH))) :=
  xlet (w32 (l3 + 5)) (fun x1 => some (Sum.inl (x1, h)))
noncomputable def f_Law_law_s18 (L : Nat) (xs : Nat → Int32) (l3 : Int) (h : xH) : Option ((Int × xH) ⊕ (xH ⊕ (Int × xH))) :=
  if w32 ((L : Int) - 5) < l3 then (some (Sum.inr (Sum.inl h))) else (xgd l3 (L : Int) (if xand ((xs (Int.toNat l3)).toInt) 31 = 0 then (xgd (w32 (l3 + 1)) (L : Int) (xgd (w32 (l3 + 2)) (L : Int) (xgd (w32 (l3 + 3)) (L : Int) (xc2 (f_WM_feed ((xs (Int.toNat (w32 (l3 + 1)))).toInt) ((xlshl ((Int32.ofInt ((xs (Int.toNat (w32 (l3 + 2)))).toInt)).toInt64) 32) ||| ((Int32.ofInt ((xs (Int.toNat (w32 (l3 + 3)))).toInt)).toInt64 &&& (4294967295 : Int64))) h) (fun r1 h2 => xgd (w32 (l3 + 1)) (L : Int) (xgd (w32 (l3 + 2)) (L : Int) (xgd (w32 (l3 + 3)) (L : Int) (xc2 (f_Md_feed ((xs (Int.toNat (w32 (l3 + 1)))).toInt) ((xlshl ((Int32.ofInt ((xs (Int.toNat (w32 (l3 + 2)))).toInt)).toInt64) 32) ||| ((Int32.ofInt ((xs (Int.toNat (w32 (l3 + 3)))).toInt)).toInt64 &&& (4294967295 : Int64))) h2) (fun r3 h4 => if r1 = r3 then (f_Law_law_786 L xs l3 h4) else (some (Sum.inr (Sum.inr (0, h4))))))))))))) else (if xand ((xs (Int.toNat l3)).toInt) 31 = 1 then (xgd (w32 (l3 + 1)) (L : Int) (xc2 (f_WM_add ((xs (Int.toNat (w32 (l3 + 1)))).toInt) h) (fun r5 h6 => xgd (w32 (l3 + 1)) (L : Int) (xc2 (f_Md_add ((xs (Int.toNat (w32 (l3 + 1)))).toInt) h6) (fun r7 h8 => if r5 = r7 then (f_Law_law_786 L xs l3 h8) else (some (Sum.inr (Sum.inr (0, h8))))))))) else (if xand ((xs (Int.toNat l3)).toInt) 31 = 2 then (xc2 (f_WM_drop h) (fun r9 h10 => xc2 (f_Md_drop h10) (fun r11 h12 => if r9 = r11 then (f_Law_law_786 L xs l3 h12) else (some (Sum.inr (Sum.inr (0, h12))))))) else (if xand ((xs (Int.toNat l3)).toInt) 31 = 3 then (xc2 (f_WM_find h) (fun r13 h14 => xc2 (f_Md_find h14) (fun r15 h16 => if r13 = r15 then (f_Law_law_786 L xs l3 h16) else (some (Sum.inr (Sum.inr (0, h16))))))) else (if xand ((xs (Int.toNat l3)).toInt) 31 = 4 then (xgd (w32 (l3 + 1)) (L : Int) (xgd (w32 (l3 + 2)) (L : Int) (xc1 (f_WM_word ((xs (Int.toNat (w32 (l3 + 1)))).toInt) ((xs (Int.toNat (w32 (l3 + 2)))).toInt) h) (fun r17 => xgd (w32 (l3 + 1)) (L : Int) (xgd (w32 (l3 + 2)) (L : Int) (xc1 (f_Md_word ((xs (Int.toNat (w32 (l3 + 1)))).toInt) ((xs (Int.toNat (w32 (l3 + 2)))).toInt) h) (fun r18 => if r17 = r18 then (f_Law_law_786 L xs l3 h) else (some (Sum.inr (Sum.inr (0, h))))))))))) else (if xand ((xs (Int.toNat l3)).toInt) 31 = 5 then (xgd (w32 (l3 + 1)) (L : Int) (xc1 (f_WM_count ((xs (Int.toNat (w32 (l3 + 1)))).toInt) h) (fun r19 => xgd (w32 (l3 + 1)) (L : Int) (xc1 (f_Md_count ((xs (Int.toNat (w32 (l3 + 1)))).toInt) h) (fun r20 => if r19 = r20 then (f_Law_law_786 L xs l3 h) else (some (Sum.inr (Sum.inr (0, h))))))))) else (if xand ((xs (Int.toNat l3)).toInt) 31 = 6 then (xgd (w32 (l3 + 1)) (L : Int) (xgd (w32 (l3 + 2)) (L : Int) (xgd (w32 (l3 + 3)) (L : Int) (xgd (w32 (l3 + 4)) (L : Int) (xc2 (f_WM_price ((xs (Int.toNat (w32 (l3 + 1)))).toInt) ((xs (Int.toNat (w32 (l3 + 2)))).toInt) ((xs (Int.toNat (w32 (l3 + 3)))).toInt) ((xs (Int.toNat (w32 (l3 + 4)))).toInt) h) (fun r21 h22 => xgd (w32 (l3 + 1)) (L : Int) (xgd (w32 (l3 + 2)) (L : Int) (xgd (w32 (l3 + 3)) (L : Int) (xgd (w32 (l3 + 4)) (L : Int) (xc2 (f_Md_price ((xs (Int.toNat (w32 (l3 + 1)))).toInt) ((xs (Int.toNat (w32 (l3 + 2)))).toInt) ((xs (Int.toNat (w32 (l3 + 3)))).toInt) ((xs (Int.toNat (w32 (l3 + 4)))).toInt) h22) (fun r23 h24 => if r21 = r23 then (f_Law_law_786 L xs l3 h24) else (some (Sum.inr (Sum.inr (0, h24))))))))))))))) else (if xand ((xs (Int.toNat l3)).toInt) 31 = 7 then (xgd (w32 (l3 + 1)) (L : Int) (xc2 (f_WM_sound ((xs (Int.toNat (w32 (l3 + 1)))).toInt) h) (fun r25 h26 => xgd (w32 (l3 + 1)) (L : Int) (xc2 (f_Md_sound ((xs (Int.toNat (w32 (l3 + 1)))).toInt) h26) (fun r27 h28 => if r25 = r27 then (f_Law_law_786 L xs l3 h28) else (some (Sum.inr (Sum.inr (0, h28))))))))) else (if xand ((xs (Int.toNat l3)).toInt) 31 = 8 then (xgd (w32 (l3 + 1)) (L : Int) (xc2 (f_WM_model ((xs (Int.toNat (w32 (l3 + 1)))).toInt) h) (fun r29 h30 => xgd (w32 (l3 + 1)) (L : Int) (xc2 (f_Md_model ((xs (Int.toNat (w32 (l3 + 1)))).toInt) h30) (fun r31 h32 => if r29 = r31 then (f_Law_law_786 L xs l3 h32) else (some (Sum.inr (Sum.inr (0, h32))))))))) else (if xand ((xs (Int.toNat l3)).toInt) 31 = 9 then (xc2 (f_WM_distance h) (fun r33 h34 => xc2 (f_Md_distance h34) (fun r35 h36 => if r33 = r35 then (f_Law_law_786 L xs l3 h36) else (some (Sum.inr (Sum.inr (0, h36))))))) else (if xand ((xs (Int.toNat l3)).toInt) 31 = 10 then (xgd (w32 (l3 + 1)) (L : Int) (xgd (w32 (l3 + 2)) (L : Int) (xc1 (f_WM_way ((xs (Int.toNat (w32 (l3 + 1)))).toInt) ((xs (Int.toNat (w32 (l3 + 2)))).toInt) h) (fun r37 => xgd (w32 (l3 + 1)) (L : Int) (xgd (w32 (l3 + 2)) (L : Int) (xc1 (f_Md_way ((xs (Int.toNat (w32 (l3 + 1)))).toInt) ((xs (Int.toNat (w32 (l3 + 2)))).toInt) h) (fun r38 => if r37 = r38 then (f_Law_law_786 L xs l3 h) else (some (Sum.inr (Sum.inr (0, h))))))))))) else (if xand ((xs (Int.toNat l3)).toInt) 31 = 11 then (xgd (w32 (l3 + 1)) (L : Int) (xc2 (f_WM_near ((xs (Int.toNat (w32 (l3 + 1)))).toInt) h) (fun r39 h40 => xgd (w32 (l3 + 1)) (L : Int) (xc2 (f_Md_near ((xs (Int.toNat (w32 (l3 + 1)))).toInt) h40) (fun r41 h42 => if r39 = r41 then (f_Law_law_786 L xs l3 h42) else (some (Sum.inr (Sum.inr (0, h42))))))))) else (if xand ((xs (Int.toNat l3)).toInt) 31 = 12 then (xgd (w32 (l3 + 1)) (L : Int) (xc2 (f_WM_nearest ((xs (Int.toNat (w32 (l3 + 1)))).toInt) h) (fun r43 h44 => xgd (w32 (l3 + 1)) (L : Int) (xc2 (f_Md_nearest ((xs (Int.toNat (w32 (l3 + 1)))).toInt) h44) (fun r45 h46 => if r43 = r45 then (f_Law_law_786 L xs l3 h46) else (some (Sum.inr (Sum.inr (0, h46))))))))) else (if xand ((xs (Int.toNat l3)).toInt) 31 = 13 then (xgd (w32 (l3 + 1)) (L : Int) (xc2 (f_WM_complete ((xs (Int.toNat (w32 (l3 + 1)))).toInt) h) (fun r47 h48 => xgd (w32 (l3 + 1)) (L : Int) (xc2 (f_Md_complete ((xs (Int.toNat (w32 (l3 + 1)))).toInt) h48) (fun r49 h50 => if r47 = r49 then (f_Law_law_786 L xs l3 h50) else (some (Sum.inr (Sum.inr (0, h50))))))))) else (if xand ((xs (Int.toNat l3)).toInt) 31 = 14 then (xgd (w32 (l3 + 1)) (L : Int) (xgd (w32 (l3 + 2)) (L : Int) (xc1 (f_WM_found ((xs (Int.toNat (w32 (l3 + 1)))).toInt) ((xs (Int.toNat (w32 (l3 + 2)))).toInt) h) (fun r51 => xgd (w32 (l3 + 1)) (L : Int) (xgd (w32 (l3 + 2)) (L : Int) (xc1 (f_Md_found ((xs (Int.toNat (w32 (l3 + 1)))).toInt) ((xs (Int.toNat (w32 (l3 + 2)))).toInt) h) (fun r52 => if r51 = r52 then (f_Law_law_786 L xs l3 h) else (some (Sum.inr (Sum.inr (0, h))))))))))) else (if xand ((xs (Int.toNat l3)).toInt) 31 = 15 then (xgd (w32 (l3 + 1)) (L : Int) (xgd (w32 (l3 + 2)) (L : Int) (xc1 (f_WM_node ((xs (Int.toNat (w32 (l3 + 1)))).toInt) ((xs (Int.toNat (w32 (l3 + 2)))).toInt) h) (fun r53 => xgd (w32 (l3 + 1)) (L : Int) (xgd (w32 (l3 + 2)) (L : Int) (xc1 (f_Md_node ((xs (Int.toNat (w32 (l3 + 1)))).toInt) ((xs (Int.toNat (w32 (l3 + 2)))).toInt) h) (fun r54 => if r53 = r54 then (f_Law_law_786 L xs l3 h) else (some (Sum.inr (Sum.inr (0, h))))))))))) else (if xand ((xs (Int.toNat l3)).toInt) 31 = 16 then (xc2 (f_WM_pair h) (fun r55 h56 => xc2 (f_Md_pair h56) (fun r57 h58 => if r55 = r57 then (f_Law_law_786 L xs l3 h58) else (some (Sum.inr (Sum.inr (0, h58))))))) else (if xand ((xs (Int.toNat l3)).toInt) 31 = 17 then (xc2 (f_WM_learn h) (fun r59 h60 => xc2 (f_Md_learn h60) (fun r61 h62 => if r59 = r61 then (f_Law_law_786 L xs l3 h62) else (some (Sum.inr (Sum.inr (0, h62))))))) else (if xand ((xs (Int.toNat l3)).toInt) 31 = 18 then (xc2 (f_WM_spread h) (fun r63 h64 => xc2 (f_Md_spread h64) (fun r65 h66 => if r63 = r65 then (f_Law_law_786 L xs l3 h66) else (some (Sum.inr (Sum.inr (0, h66))))))) else (if xand ((xs (Int.toNat l3)).toInt) 31 = 19 then (xgd (w32 (l3 + 1)) (L : Int) (xc2 (f_WM_mend ((xs (Int.toNat (w32 (l3 + 1)))).toInt) h) (fun r67 h68 => xgd (w32 (l3 + 1)) (L : Int) (xc2 (f_Md_mend ((xs (Int.toNat (w32 (l3 + 1)))).toInt) h68) (fun r69 h70 => if r67 = r69 then (f_Law_law_786 L xs l3 h70) else (some (Sum.inr (Sum.inr (0, h70))))))))) else (if xand ((xs (Int.toNat l3)).toInt) 31 = 20 then (xgd (w32 (l3 + 1)) (L : Int) (xgd (w32 (l3 + 2)) (L : Int) (xc1 (f_WM_part ((xs (Int.toNat (w32 (l3 + 1)))).toInt) ((xs (Int.toNat (w32 (l3 + 2)))).toInt) h) (fun r71 => xgd (w32 (l3 + 1)) (L : Int) (xgd (w32 (l3 + 2)) (L : Int) (xc1 (f_Md_part ((xs (Int.toNat (w32 (l3 + 1)))).toInt) ((xs (Int.toNat (w32 (l3 + 2)))).toInt) h) (fun r72 => if r71 = r72 then (f_Law_law_786 L xs l3 h) else (some (Sum.inr (Sum.inr (0, h))))))))))) else (if xand ((xs (Int.toNat l3)).toInt) 31 = 21 then (xgd (w32 (l3 + 1)) (L : Int) (xgd (w32 (l3 + 2)) (L : Int) (xgd (w32 (l3 + 3)) (L : Int) (xc2 (f_WM_put ((xs (Int.toNat (w32 (l3 + 1)))).toInt) ((xs (Int.toNat (w32 (l3 + 2)))).toInt) ((xs (Int.toNat (w32 (l3 + 3)))).toInt) h) (fun r73 h74 => xgd (w32 (l3 + 1)) (L : Int) (xgd (w32 (l3 + 2)) (L : Int) (xgd (w32 (l3 + 3)) (L : Int) (xc2 (f_Md_put ((xs (Int.toNat (w32 (l3 + 1)))).toInt) ((xs (Int.toNat (w32 (l3 + 2)))).toInt) ((xs (Int.toNat (w32 (l3 + 3)))).toInt) h74) (fun r75 h76 => if r73 = r75 then (f_Law_law_786 L xs l3 h76) else (some (Sum.inr (Sum.inr (0, h76))))))))))))) else (if xand ((xs (Int.toNat l3)).toInt) 31 = 22 then (xgd (w32 (l3 + 1)) (L : Int) (xgd (w32 (l3 + 2)) (L : Int) (xgd (w32 (l3 + 3)) (L : Int) (xc2 (f_WM_forge ((xs (Int.toNat (w32 (l3 + 1)))).toInt) ((xs (Int.toNat (w32 (l3 + 2)))).toInt) ((xs (Int.toNat (w32 (l3 + 3)))).toInt) h) (fun r77 h78 => xgd (w32 (l3 + 1)) (L : Int) (xgd (w32 (l3 + 2)) (L : Int) (xgd (w32 (l3 + 3)) (L : Int) (xc2 (f_Md_forge ((xs (Int.toNat (w32 (l3 + 1)))).toInt) ((xs (Int.toNat (w32 (l3 + 2)))).toInt) ((xs (Int.toNat (w32 (l3 + 3)))).toInt) h78) (fun r79 h80 => if r77 = r79 then (f_Law_law_786 L xs l3 h80) else (some (Sum.inr (Sum.inr (0, h80))))))))))))) else (if xand ((xs (Int.toNat l3)).toInt) 31 = 23 then (xc1 (f_WM_status h) (fun r81 => xc1 (f_Md_status h) (fun r82 => if r81 = r82 then (f_Law_law_786 L xs l3 h) else (some (Sum.inr (Sum.inr (0, h))))))) else (f_Law_law_786 L xs l3 h))))))))))))))))))))))))))
noncomputable def f_Law_law_18 (L : Nat) (xs : Nat → Int32) (l3 : Int) (h : xH) : Option (Int × xH) :=
  xc1 (xloop (fun s : (Int × xH) => f_Law_law_s18 L xs s.1 s.2) (l3, h)) (fun q => xsw q (fun b => f_Law_law_792 L xs b) (fun r => some r))
noncomputable def f_Law_law_16 (L : Nat) (xs : Nat → Int32)  (h : xH) : Option (Int × xH) :=
  f_Law_law_18 L xs 0 h
end
section
/-! the machine follows the functions -/
theorem dX7_append_0 : decode cX7_append 0 = .ok (.iload_n 1, 1) := by decide +kernel
theorem dX7_append_1 : decode cX7_append 1 = .ok (.iconst 1, 1) := by decide +kernel
theorem dX7_append_2 : decode cX7_append 2 = .ok (.if_icmp .lt 9, 3) := by decide +kernel
theorem dX7_append_5 : decode cX7_append 5 = .ok (.iload_n 1, 1) := by decide +kernel
theorem dX7_append_6 : decode cX7_append 6 = .ok (.bipush 8, 2) := by decide +kernel
theorem dX7_append_8 : decode cX7_append 8 = .ok (.if_icmp .le 6, 3) := by decide +kernel
theorem dX7_append_11 : decode cX7_append 11 = .ok (.bipush (-2), 2) := by decide +kernel
theorem dX7_append_13 : decode cX7_append 13 = .ok (.ireturn, 1) := by decide +kernel
theorem dX7_append_14 : decode cX7_append 14 = .ok (.aload_n 0, 1) := by decide +kernel
theorem dX7_append_15 : decode cX7_append 15 = .ok (.getfield 15, 3) := by decide +kernel
theorem dX7_append_18 : decode cX7_append 18 = .ok (.ifCond .lt 17, 3) := by decide +kernel
theorem dX7_append_21 : decode cX7_append 21 = .ok (.aload_n 0, 1) := by decide +kernel
theorem dX7_append_22 : decode cX7_append 22 = .ok (.getfield 15, 3) := by decide +kernel
theorem dX7_append_25 : decode cX7_append 25 = .ok (.iload_n 1, 1) := by decide +kernel
theorem dX7_append_26 : decode cX7_append 26 = .ok (.iadd, 1) := by decide +kernel
theorem dX7_append_27 : decode cX7_append 27 = .ok (.aload_n 0, 1) := by decide +kernel
theorem dX7_append_28 : decode cX7_append 28 = .ok (.getfield 9, 3) := by decide +kernel
theorem dX7_append_31 : decode cX7_append 31 = .ok (.arraylength, 1) := by decide +kernel
theorem dX7_append_32 : decode cX7_append 32 = .ok (.if_icmp .le 6, 3) := by decide +kernel
theorem dX7_append_35 : decode cX7_append 35 = .ok (.bipush (-4), 2) := by decide +kernel
theorem dX7_append_37 : decode cX7_append 37 = .ok (.ireturn, 1) := by decide +kernel
theorem dX7_append_38 : decode cX7_append 38 = .ok (.iconst 0, 1) := by decide +kernel
theorem dX7_append_39 : decode cX7_append 39 = .ok (.istore 4, 2) := by decide +kernel
theorem dX7_append_41 : decode cX7_append 41 = .ok (.iload 4, 2) := by decide +kernel
theorem dX7_append_43 : decode cX7_append 43 = .ok (.iload_n 1, 1) := by decide +kernel
theorem dX7_append_44 : decode cX7_append 44 = .ok (.if_icmp .ge 33, 3) := by decide +kernel
theorem dX7_append_47 : decode cX7_append 47 = .ok (.aload_n 0, 1) := by decide +kernel
theorem dX7_append_48 : decode cX7_append 48 = .ok (.getfield 9, 3) := by decide +kernel
theorem dX7_append_51 : decode cX7_append 51 = .ok (.aload_n 0, 1) := by decide +kernel
theorem dX7_append_52 : decode cX7_append 52 = .ok (.getfield 15, 3) := by decide +kernel
theorem dX7_append_55 : decode cX7_append 55 = .ok (.iload 4, 2) := by decide +kernel
theorem dX7_append_57 : decode cX7_append 57 = .ok (.iadd, 1) := by decide +kernel
theorem dX7_append_58 : decode cX7_append 58 = .ok (.lload_n 2, 1) := by decide +kernel
theorem dX7_append_59 : decode cX7_append 59 = .ok (.bipush 8, 2) := by decide +kernel
theorem dX7_append_61 : decode cX7_append 61 = .ok (.iload 4, 2) := by decide +kernel
theorem dX7_append_63 : decode cX7_append 63 = .ok (.imul, 1) := by decide +kernel
theorem dX7_append_64 : decode cX7_append 64 = .ok (.lushr, 1) := by decide +kernel
theorem dX7_append_65 : decode cX7_append 65 = .ok (.l2i, 1) := by decide +kernel
theorem dX7_append_66 : decode cX7_append 66 = .ok (.sipush 255, 3) := by decide +kernel
theorem dX7_append_69 : decode cX7_append 69 = .ok (.iand, 1) := by decide +kernel
theorem dX7_append_70 : decode cX7_append 70 = .ok (.iastore, 1) := by decide +kernel
theorem dX7_append_71 : decode cX7_append 71 = .ok (.iinc 4 1, 3) := by decide +kernel
theorem dX7_append_74 : decode cX7_append 74 = .ok (.goto (-33), 3) := by decide +kernel
theorem dX7_append_77 : decode cX7_append 77 = .ok (.aload_n 0, 1) := by decide +kernel
theorem dX7_append_78 : decode cX7_append 78 = .ok (.dup, 1) := by decide +kernel
theorem dX7_append_79 : decode cX7_append 79 = .ok (.getfield 15, 3) := by decide +kernel
theorem dX7_append_82 : decode cX7_append 82 = .ok (.iload_n 1, 1) := by decide +kernel
theorem dX7_append_83 : decode cX7_append 83 = .ok (.iadd, 1) := by decide +kernel
theorem dX7_append_84 : decode cX7_append 84 = .ok (.putfield 15, 3) := by decide +kernel
theorem dX7_append_87 : decode cX7_append 87 = .ok (.aload_n 0, 1) := by decide +kernel
theorem dX7_append_88 : decode cX7_append 88 = .ok (.getfield 15, 3) := by decide +kernel
theorem dX7_append_91 : decode cX7_append 91 = .ok (.ireturn, 1) := by decide +kernel
theorem j_Tape_append_77 {l1 : Int} {h : xH} {r0 : Int} {h0 : xH}  (hf : f_Tape_append_77 l1 h = some (r0, h0))  : J mX7_append true 0 0 77 xKn [(0, xR 2), (1, xI l1)] [] h (xEq (some r0) h0) := by
  unfold f_Tape_append_77 at hf
  refine J_aload_n 0 dX7_append_77 rfl rfl ?_
  refine J_dup dX7_append_78 rfl ?_
  refine J_getI (j := 1) xcf7 dX7_append_79 (xK_rg kO2) kO2 (Or.inl xq156) (by decide) (by decide) ?_
  refine J_iload_n 1 dX7_append_82 rfl rfl ?_
  refine J_iadd dX7_append_83 ?_
  obtain ⟨h1, eh1, hf⟩ := xlet_e hf
  refine J_putI (j := 1) xcf7 dX7_append_84 (xK_rg kO2) kO2 (Or.inl xq156) (by decide) (by decide) eh1 ?_
  refine J_aload_n 0 dX7_append_87 rfl rfl ?_
  refine J_getI (j := 1) xcf7 dX7_append_88 (xK_rg kO2) kO2 (Or.inl xq156) (by decide) (by decide) ?_
  exact J_ireti dX7_append_91 rfl (xq_i hf)
theorem j_Tape_append_s41 {l1 : Int} {l2 : Int64} {l4 : Int} {h : xH} {x : ((Int × xH) ⊕ xH)} {Q : xQ}  (hf : f_Tape_append_s41 l1 l2 l4 h = some x) (kb : ∀ (l4' : Int) (h' : xH), x = Sum.inl (l4', h') → J mX7_append true 0 0 41 xKn [(0, xR 2), (1, xI l1), (2, xL l2), (4, xI l4')] [] h' Q) (ke : ∀  (h' : xH), x = (Sum.inr h') → J mX7_append true 0 0 77 xKn [(0, xR 2), (1, xI l1)] [] h' Q) : J mX7_append true 0 0 41 xKn [(0, xR 2), (1, xI l1), (2, xL l2), (4, xI l4)] [] h Q := by
  unfold f_Tape_append_s41 at hf
  refine J_iload 3 dX7_append_41 rfl ?_
  refine J_iload_n 1 dX7_append_43 rfl rfl ?_
  refine J_ic_ge (tgt := 77) dX7_append_44 (by decide) (fun hc => ?_) (fun hc => ?_)
  · have hf := xip hc hf
    refine J_aload_n 0 dX7_append_47 rfl rfl ?_
    refine J_getRl (j := 0) xcf7 dX7_append_48 kO2 (Or.inl xq155) (by decide) (by decide) rf_2_0 ?_
    refine J_aload_n 0 dX7_append_51 rfl rfl ?_
    refine J_getI (j := 1) xcf7 dX7_append_52 (xK_rg kO2) kO2 (Or.inl xq156) (by decide) (by decide) ?_
    refine J_iload 3 dX7_append_55 rfl ?_
    refine J_iadd dX7_append_57 ?_
    refine J_lload_n 2 dX7_append_58 rfl rfl ?_
    refine J_bip dX7_append_59 (by decide) ?_
    refine J_iload 3 dX7_append_61 rfl ?_
    refine J_imul dX7_append_63 ?_
    refine J_lushr dX7_append_64 ?_
    refine J_l2i dX7_append_65 ?_
    refine J_sip dX7_append_66 (by decide) ?_
    refine J_iand dX7_append_69 ?_
    obtain ⟨hg, hf⟩ := xgd_e hf
    obtain ⟨h1, eh1, hf⟩ := xlet_e hf
    refine J_iast dX7_append_70 (xK_r1 kO3) kO3 hg nA3 eh1 ?_
    obtain ⟨x2, ex2, hf⟩ := xlet_e hf
    refine J_iinc (ls' := [(4, xI x2), (0, xR 2), (1, xI l1), (2, xL l2)]) 3 dX7_append_71 rfl (by decide) ex2 rfl ?_
    refine J_goto (tgt := 41) dX7_append_74 (by decide) ?_
    refine J_sub [1, 2, 3, 0] rfl ?_
    exact kb _ _ (xinl hf)
  · have hf := xin' hc hf
    refine J_sub [0, 1] rfl ?_
    exact ke _ (xinl hf)
theorem j_Tape_append_41 {l1 : Int} {l2 : Int64} {l4 : Int} {h : xH} {r0 : Int} {h0 : xH}  (hf : f_Tape_append_41 l1 l2 l4 h = some (r0, h0))  : J mX7_append true 0 0 41 xKn [(0, xR 2), (1, xI l1), (2, xL l2), (4, xI l4)] [] h (xEq (some r0) h0) := by
  unfold f_Tape_append_41 at hf
  obtain ⟨b0, hb0, hf⟩ := xc1_e hf
  refine xloop_ind (P := fun s : (Int × xH) => J mX7_append true 0 0 41 xKn [(0, xR 2), (1, xI l1), (2, xL l2), (4, xI s.1)] [] s.2 (xEq (some r0) h0)) hb0 (fun s x1 hs ib ie => ?_)
  exact j_Tape_append_s41  hs (fun _ _ e => ib _ e) (fun _ e => by have := ie _ e; subst this; exact j_Tape_append_77  hf)
theorem jm_Tape_append {l1 : Int} {l2 : Int64} {h : xH} {r0 : Int} {h0 : xH}  (hf : f_Tape_append l1 l2 h = some (r0, h0)) : J mX7_append true 0 0 0 xKn (xen 0 [xR 2, xI l1, xL l2]) [] h (xEq (some r0) h0) := by
  unfold f_Tape_append at hf
  refine J_cong (ls2 := [(0, xR 2), (1, xI l1), (2, xL l2)]) (st2 := []) rfl rfl ?_
  refine J_iload_n 1 dX7_append_0 rfl rfl ?_
  refine J_iconst dX7_append_1 (by decide) ?_
  refine J_ic_lt (tgt := 11) dX7_append_2 (by decide) (fun hc => ?_) (fun hc => ?_)
  · have hf := xip hc hf
    refine J_bip dX7_append_11 (by decide) ?_
    exact J_ireti dX7_append_13 rfl (xq_i hf)
  · have hf := xin' hc hf
    refine J_iload_n 1 dX7_append_5 rfl rfl ?_
    refine J_bip dX7_append_6 (by decide) ?_
    refine J_ic_le (tgt := 14) dX7_append_8 (by decide) (fun hc => ?_) (fun hc => ?_)
    · have hf := xip hc hf
      refine J_bip dX7_append_11 (by decide) ?_
      exact J_ireti dX7_append_13 rfl (xq_i hf)
    · have hf := xin' hc hf
      refine J_aload_n 0 dX7_append_14 rfl rfl ?_
      refine J_getI (j := 1) xcf7 dX7_append_15 (xK_rg kO2) kO2 (Or.inl xq156) (by decide) (by decide) ?_
      refine J_if_lt (tgt := 35) dX7_append_18 (by decide) (fun hc => ?_) (fun hc => ?_)
      · have hf := xip hc hf
        refine J_bip dX7_append_35 (by decide) ?_
        exact J_ireti dX7_append_37 rfl (xq_i hf)
      · have hf := xin' hc hf
        refine J_aload_n 0 dX7_append_21 rfl rfl ?_
        refine J_getI (j := 1) xcf7 dX7_append_22 (xK_rg kO2) kO2 (Or.inl xq156) (by decide) (by decide) ?_
        refine J_iload_n 1 dX7_append_25 rfl rfl ?_
        refine J_iadd dX7_append_26 ?_
        refine J_aload_n 0 dX7_append_27 rfl rfl ?_
        refine J_getRl (j := 0) xcf7 dX7_append_28 kO2 (Or.inl xq155) (by decide) (by decide) rf_2_0 ?_
        refine J_alen dX7_append_31 (xK_r1 kO3) (Or.inl kO3) (by decide) nA3 ?_
        refine J_ic_le (tgt := 38) dX7_append_32 (by decide) (fun hc => ?_) (fun hc => ?_)
        · have hf := xip hc hf
          refine J_bip dX7_append_35 (by decide) ?_
          exact J_ireti dX7_append_37 rfl (xq_i hf)
        · have hf := xin' hc hf
          refine J_iconst dX7_append_38 (by decide) ?_
          refine J_istore (ls' := [(4, xI 0), (0, xR 2), (1, xI l1), (2, xL l2)]) dX7_append_39 (by decide) rfl rfl ?_
          refine J_sub [1, 2, 3, 0] rfl ?_
          exact j_Tape_append_41  hf
theorem dX11_feed_0 : decode cX11_feed 0 = .ok (.aload_n 0, 1) := by decide +kernel
theorem dX11_feed_1 : decode cX11_feed 1 = .ok (.getfield 12, 3) := by decide +kernel
theorem dX11_feed_4 : decode cX11_feed 4 = .ok (.iload_n 1, 1) := by decide +kernel
theorem dX11_feed_5 : decode cX11_feed 5 = .ok (.lload_n 2, 1) := by decide +kernel
theorem dX11_feed_6 : decode cX11_feed 6 = .ok (.invokevirtual 109, 3) := by decide +kernel
theorem dX11_feed_9 : decode cX11_feed 9 = .ok (.ireturn, 1) := by decide +kernel
theorem jm_WM_feed {l1 : Int} {l2 : Int64} {h : xH} {r0 : Int} {h0 : xH}  (hf : f_WM_feed l1 l2 h = some (r0, h0)) : J mX11_feed true 0 0 0 xKn (xen 0 [xR 1, xI l1, xL l2]) [] h (xEq (some r0) h0) := by
  unfold f_WM_feed at hf
  refine J_cong (ls2 := [(0, xR 1), (1, xI l1), (2, xL l2)]) (st2 := []) rfl rfl ?_
  refine J_aload_n 0 dX11_feed_0 rfl rfl ?_
  refine J_getRl (j := 0) xcf11 dX11_feed_1 kO1 (Or.inl xq435) (by decide) (by decide) rf_1_0 ?_
  refine J_iload_n 1 dX11_feed_4 rfl rfl ?_
  refine J_lload_n 2 dX11_feed_5 rfl rfl ?_
  obtain ⟨r1, h2, hq, hf⟩ := xc2_e hf
  refine J_cVi (Mc := mX7_append) [xI l1, xL l2] dX11_feed_6 (fc_Tape_append.fit ⟨xbl rfl, xbl rfl⟩) rfl ⟨Or.inr ⟨_, xq491⟩, xq493, xq0⟩ kO2 (ci := 7) rfl rfl (xbl rfl) (xbl rfl) (jm_Tape_append  hq) ?_
  exact J_ireti dX11_feed_9 rfl (xq_i hf)
theorem dX4_clear_0 : decode cX4_clear 0 = .ok (.aload_n 0, 1) := by decide +kernel
theorem dX4_clear_1 : decode cX4_clear 1 = .ok (.iconst 0, 1) := by decide +kernel
theorem dX4_clear_2 : decode cX4_clear 2 = .ok (.putfield 15, 3) := by decide +kernel
theorem dX4_clear_5 : decode cX4_clear 5 = .ok (.return_, 1) := by decide +kernel
theorem jm_Row_clear {l0 : Int} {h : xH} {h0 : xH} (kl0 : xK l0 = 3 + 4) (hf : f_Row_clear l0 h = some h0) : J mX4_clear true 0 0 0 xKn (xen 0 [xR l0]) [] h (xEq none h0) := by
  unfold f_Row_clear at hf
  refine J_cong (ls2 := [(0, xR l0)]) (st2 := []) rfl rfl ?_
  refine J_aload_n 0 dX4_clear_0 rfl rfl ?_
  refine J_iconst dX4_clear_1 (by decide) ?_
  obtain ⟨h1, eh1, hf⟩ := xlet_e hf
  refine J_putI (j := 1) xcf4 dX4_clear_2 (xK_rg kl0) kl0 (Or.inl xq248) (by decide) (by decide) eh1 ?_
  exact J_rt dX4_clear_5 rfl (xq_v hf)
theorem dX4_append_0 : decode cX4_append 0 = .ok (.aload_n 0, 1) := by decide +kernel
theorem dX4_append_1 : decode cX4_append 1 = .ok (.getfield 15, 3) := by decide +kernel
theorem dX4_append_4 : decode cX4_append 4 = .ok (.ifCond .lt 15, 3) := by decide +kernel
theorem dX4_append_7 : decode cX4_append 7 = .ok (.aload_n 0, 1) := by decide +kernel
theorem dX4_append_8 : decode cX4_append 8 = .ok (.getfield 15, 3) := by decide +kernel
theorem dX4_append_11 : decode cX4_append 11 = .ok (.aload_n 0, 1) := by decide +kernel
theorem dX4_append_12 : decode cX4_append 12 = .ok (.getfield 9, 3) := by decide +kernel
theorem dX4_append_15 : decode cX4_append 15 = .ok (.arraylength, 1) := by decide +kernel
theorem dX4_append_16 : decode cX4_append 16 = .ok (.if_icmp .lt 5, 3) := by decide +kernel
theorem dX4_append_19 : decode cX4_append 19 = .ok (.iconst 0, 1) := by decide +kernel
theorem dX4_append_20 : decode cX4_append 20 = .ok (.ireturn, 1) := by decide +kernel
theorem dX4_append_21 : decode cX4_append 21 = .ok (.aload_n 0, 1) := by decide +kernel
theorem dX4_append_22 : decode cX4_append 22 = .ok (.getfield 9, 3) := by decide +kernel
theorem dX4_append_25 : decode cX4_append 25 = .ok (.aload_n 0, 1) := by decide +kernel
theorem dX4_append_26 : decode cX4_append 26 = .ok (.getfield 15, 3) := by decide +kernel
theorem dX4_append_29 : decode cX4_append 29 = .ok (.iload_n 1, 1) := by decide +kernel
theorem dX4_append_30 : decode cX4_append 30 = .ok (.iastore, 1) := by decide +kernel
theorem dX4_append_31 : decode cX4_append 31 = .ok (.aload_n 0, 1) := by decide +kernel
theorem dX4_append_32 : decode cX4_append 32 = .ok (.dup, 1) := by decide +kernel
theorem dX4_append_33 : decode cX4_append 33 = .ok (.getfield 15, 3) := by decide +kernel
theorem dX4_append_36 : decode cX4_append 36 = .ok (.iconst 1, 1) := by decide +kernel
theorem dX4_append_37 : decode cX4_append 37 = .ok (.iadd, 1) := by decide +kernel
theorem dX4_append_38 : decode cX4_append 38 = .ok (.putfield 15, 3) := by decide +kernel
theorem dX4_append_41 : decode cX4_append 41 = .ok (.iconst 1, 1) := by decide +kernel
theorem dX4_append_42 : decode cX4_append 42 = .ok (.ireturn, 1) := by decide +kernel
theorem jm_Row_append {l0 : Int} {l1 : Int} {h : xH} {r0 : Int} {h0 : xH} (kl0 : xK l0 = 3 + 4) (hf : f_Row_append l0 l1 h = some (r0, h0)) : J mX4_append true 0 0 0 xKn (xen 0 [xR l0, xI l1]) [] h (xEq (some r0) h0) := by
  unfold f_Row_append at hf
  refine J_cong (ls2 := [(0, xR l0), (1, xI l1)]) (st2 := []) rfl rfl ?_
  refine J_aload_n 0 dX4_append_0 rfl rfl ?_
  refine J_getI (j := 1) xcf4 dX4_append_1 (xK_rg kl0) kl0 (Or.inl xq248) (by decide) (by decide) ?_
  refine J_if_lt (tgt := 19) dX4_append_4 (by decide) (fun hc => ?_) (fun hc => ?_)
  · have hf := xip hc hf
    refine J_iconst dX4_append_19 (by decide) ?_
    exact J_iretz dX4_append_20 rfl (by decide) (xq_i hf)
  · have hf := xin' hc hf
    refine J_aload_n 0 dX4_append_7 rfl rfl ?_
    refine J_getI (j := 1) xcf4 dX4_append_8 (xK_rg kl0) kl0 (Or.inl xq248) (by decide) (by decide) ?_
    refine J_aload_n 0 dX4_append_11 rfl rfl ?_
    refine J_getRl (j := 0) xcf4 dX4_append_12 kl0 (Or.inl xq245) (by decide) (by decide) (rfRow_0 kl0) ?_
    refine J_alen dX4_append_15 (xK_r1 (kRow_0 kl0)) (Or.inl (kRow_0 kl0)) (by decide) (nRow_0 kl0) ?_
    refine J_ic_lt (tgt := 21) dX4_append_16 (by decide) (fun hc => ?_) (fun hc => ?_)
    · have hf := xip hc hf
      refine J_aload_n 0 dX4_append_21 rfl rfl ?_
      refine J_getRl (j := 0) xcf4 dX4_append_22 kl0 (Or.inl xq245) (by decide) (by decide) (rfRow_0 kl0) ?_
      refine J_aload_n 0 dX4_append_25 rfl rfl ?_
      refine J_getI (j := 1) xcf4 dX4_append_26 (xK_rg kl0) kl0 (Or.inl xq248) (by decide) (by decide) ?_
      refine J_iload_n 1 dX4_append_29 rfl rfl ?_
      obtain ⟨hg, hf⟩ := xgd_e hf
      obtain ⟨h1, eh1, hf⟩ := xlet_e hf
      refine J_iast dX4_append_30 (xK_r1 (kRow_0 kl0)) (kRow_0 kl0) hg (nRow_0 kl0) eh1 ?_
      refine J_aload_n 0 dX4_append_31 rfl rfl ?_
      refine J_dup dX4_append_32 rfl ?_
      refine J_getI (j := 1) xcf4 dX4_append_33 (xK_rg kl0) kl0 (Or.inl xq248) (by decide) (by decide) ?_
      refine J_iconst dX4_append_36 (by decide) ?_
      refine J_iadd dX4_append_37 ?_
      obtain ⟨h2, eh2, hf⟩ := xlet_e hf
      refine J_putI (j := 1) xcf4 dX4_append_38 (xK_rg kl0) kl0 (Or.inl xq248) (by decide) (by decide) eh2 ?_
      refine J_iconst dX4_append_41 (by decide) ?_
      exact J_iretz dX4_append_42 rfl (by decide) (xq_i hf)
    · have hf := xin' hc hf
      refine J_iconst dX4_append_19 (by decide) ?_
      exact J_iretz dX4_append_20 rfl (by decide) (xq_i hf)
theorem dX7_read_0 : decode cX7_read 0 = .ok (.aload 4, 2) := by decide +kernel
theorem dX7_read_2 : decode cX7_read 2 = .ok (.invokevirtual 36, 3) := by decide +kernel
theorem dX7_read_5 : decode cX7_read 5 = .ok (.iload_n 1, 1) := by decide +kernel
theorem dX7_read_6 : decode cX7_read 6 = .ok (.ifCond .lt 26, 3) := by decide +kernel
theorem dX7_read_9 : decode cX7_read 9 = .ok (.iload_n 2, 1) := by decide +kernel
theorem dX7_read_10 : decode cX7_read 10 = .ok (.aload_n 0, 1) := by decide +kernel
theorem dX7_read_11 : decode cX7_read 11 = .ok (.getfield 9, 3) := by decide +kernel
theorem dX7_read_14 : decode cX7_read 14 = .ok (.arraylength, 1) := by decide +kernel
theorem dX7_read_15 : decode cX7_read 15 = .ok (.if_icmp .gt 17, 3) := by decide +kernel
theorem dX7_read_18 : decode cX7_read 18 = .ok (.iload_n 2, 1) := by decide +kernel
theorem dX7_read_19 : decode cX7_read 19 = .ok (.iload_n 1, 1) := by decide +kernel
theorem dX7_read_20 : decode cX7_read 20 = .ok (.isub, 1) := by decide +kernel
theorem dX7_read_21 : decode cX7_read 21 = .ok (.iconst 1, 1) := by decide +kernel
theorem dX7_read_22 : decode cX7_read 22 = .ok (.if_icmp .lt 10, 3) := by decide +kernel
theorem dX7_read_25 : decode cX7_read 25 = .ok (.iload_n 2, 1) := by decide +kernel
theorem dX7_read_26 : decode cX7_read 26 = .ok (.iload_n 1, 1) := by decide +kernel
theorem dX7_read_27 : decode cX7_read 27 = .ok (.isub, 1) := by decide +kernel
theorem dX7_read_28 : decode cX7_read 28 = .ok (.iload_n 3, 1) := by decide +kernel
theorem dX7_read_29 : decode cX7_read 29 = .ok (.if_icmp .le 5, 3) := by decide +kernel
theorem dX7_read_32 : decode cX7_read 32 = .ok (.iconst 0, 1) := by decide +kernel
theorem dX7_read_33 : decode cX7_read 33 = .ok (.ireturn, 1) := by decide +kernel
theorem dX7_read_34 : decode cX7_read 34 = .ok (.iload_n 1, 1) := by decide +kernel
theorem dX7_read_35 : decode cX7_read 35 = .ok (.istore 5, 2) := by decide +kernel
theorem dX7_read_37 : decode cX7_read 37 = .ok (.iload 5, 2) := by decide +kernel
theorem dX7_read_39 : decode cX7_read 39 = .ok (.iload_n 2, 1) := by decide +kernel
theorem dX7_read_40 : decode cX7_read 40 = .ok (.if_icmp .ge 45, 3) := by decide +kernel
theorem dX7_read_43 : decode cX7_read 43 = .ok (.aload_n 0, 1) := by decide +kernel
theorem dX7_read_44 : decode cX7_read 44 = .ok (.getfield 9, 3) := by decide +kernel
theorem dX7_read_47 : decode cX7_read 47 = .ok (.iload 5, 2) := by decide +kernel
theorem dX7_read_49 : decode cX7_read 49 = .ok (.iaload, 1) := by decide +kernel
theorem dX7_read_50 : decode cX7_read 50 = .ok (.bipush 97, 2) := by decide +kernel
theorem dX7_read_52 : decode cX7_read 52 = .ok (.isub, 1) := by decide +kernel
theorem dX7_read_53 : decode cX7_read 53 = .ok (.istore 6, 2) := by decide +kernel
theorem dX7_read_55 : decode cX7_read 55 = .ok (.iload 6, 2) := by decide +kernel
theorem dX7_read_57 : decode cX7_read 57 = .ok (.ifCond .lt 20, 3) := by decide +kernel
theorem dX7_read_60 : decode cX7_read 60 = .ok (.iload 6, 2) := by decide +kernel
theorem dX7_read_62 : decode cX7_read 62 = .ok (.bipush 26, 2) := by decide +kernel
theorem dX7_read_64 : decode cX7_read 64 = .ok (.if_icmp .ge 13, 3) := by decide +kernel
theorem dX7_read_67 : decode cX7_read 67 = .ok (.aload 4, 2) := by decide +kernel
theorem dX7_read_69 : decode cX7_read 69 = .ok (.iload 6, 2) := by decide +kernel
theorem dX7_read_71 : decode cX7_read 71 = .ok (.invokevirtual 39, 3) := by decide +kernel
theorem dX7_read_74 : decode cX7_read 74 = .ok (.ifCond .ne 5, 3) := by decide +kernel
theorem dX7_read_77 : decode cX7_read 77 = .ok (.iconst 0, 1) := by decide +kernel
theorem dX7_read_78 : decode cX7_read 78 = .ok (.ireturn, 1) := by decide +kernel
theorem dX7_read_79 : decode cX7_read 79 = .ok (.iinc 5 1, 3) := by decide +kernel
theorem dX7_read_82 : decode cX7_read 82 = .ok (.goto (-45), 3) := by decide +kernel
theorem dX7_read_85 : decode cX7_read 85 = .ok (.iconst 1, 1) := by decide +kernel
theorem dX7_read_86 : decode cX7_read 86 = .ok (.ireturn, 1) := by decide +kernel
theorem j_Tape_read_85  {h : xH} {r0 : Int} {h0 : xH}  (hf : f_Tape_read_85 h = some (r0, h0))  : J mX7_read true 0 0 85 xKn [] [] h (xEq (some r0) h0) := by
  unfold f_Tape_read_85 at hf
  refine J_iconst dX7_read_85 (by decide) ?_
  exact J_iretz dX7_read_86 rfl (by decide) (xq_i hf)
theorem j_Tape_read_s37 {l2 : Int} {l4 : Int} {l5 : Int} {h : xH} {x : ((Int × xH) ⊕ (xH ⊕ (Int × xH)))} {Q : xQ} (kl4 : xK l4 = 3 + 4) (hf : f_Tape_read_s37 l2 l4 l5 h = some x) (kb : ∀ (l5' : Int) (h' : xH), x = Sum.inl (l5', h') → J mX7_read true 0 0 37 xKn [(0, xR 2), (2, xI l2), (4, xR l4), (5, xI l5')] [] h' Q) (ke : ∀  (h' : xH), x = (Sum.inr (Sum.inl h')) → J mX7_read true 0 0 85 xKn [] [] h' Q) (kr : ∀ (v : Int) (h' : xH), x = (Sum.inr (Sum.inr (v, h'))) → Q (some v) xKn h') : J mX7_read true 0 0 37 xKn [(0, xR 2), (2, xI l2), (4, xR l4), (5, xI l5)] [] h Q := by
  unfold f_Tape_read_s37 at hf
  refine J_iload 3 dX7_read_37 rfl ?_
  refine J_iload_n 1 dX7_read_39 rfl rfl ?_
  refine J_ic_ge (tgt := 85) dX7_read_40 (by decide) (fun hc => ?_) (fun hc => ?_)
  · have hf := xip hc hf
    refine J_aload_n 0 dX7_read_43 rfl rfl ?_
    refine J_getRl (j := 0) xcf7 dX7_read_44 kO2 (Or.inl xq155) (by decide) (by decide) rf_2_0 ?_
    refine J_iload 3 dX7_read_47 rfl ?_
    obtain ⟨hg, hf⟩ := xgd_e hf
    refine J_iald dX7_read_49 (xK_r1 kO3) kO3 hg nA3 ?_
    refine J_bip dX7_read_50 (by decide) ?_
    refine J_isub dX7_read_52 ?_
    obtain ⟨x1, ex1, hf⟩ := xlet_e hf
    refine J_istore (ls' := [(6, xI x1), (0, xR 2), (2, xI l2), (4, xR l4), (5, xI l5)]) dX7_read_53 (by decide) ex1 rfl ?_
    refine J_iload 0 dX7_read_55 rfl ?_
    refine J_if_lt (tgt := 77) dX7_read_57 (by decide) (fun hc => ?_) (fun hc => ?_)
    · have hf := xip hc hf
      refine J_iconst dX7_read_77 (by decide) ?_
      exact J_iretz dX7_read_78 rfl (by decide) (kr _ _ (xinl hf))
    · have hf := xin' hc hf
      refine J_iload 0 dX7_read_60 rfl ?_
      refine J_bip dX7_read_62 (by decide) ?_
      refine J_ic_ge (tgt := 77) dX7_read_64 (by decide) (fun hc => ?_) (fun hc => ?_)
      · have hf := xip hc hf
        refine J_aload 3 dX7_read_67 rfl ?_
        refine J_iload 0 dX7_read_69 rfl ?_
        obtain ⟨r2, h3, hq, hf⟩ := xc2_e hf
        refine J_cVi (Mc := mX4_append) [xI x1] dX7_read_71 (fc_Row_append.fit ⟨xbl rfl, xbl rfl⟩) rfl ⟨Or.inr ⟨_, xq511⟩, xq513, xq4⟩ kl4 (ci := 4) rfl rfl (xbl rfl) (xbl rfl) (jm_Row_append kl4 hq) ?_
        refine J_if_ne (tgt := 79) dX7_read_74 (by decide) (fun hc => ?_) (fun hc => ?_)
        · have hf := xip hc hf
          refine J_iconst dX7_read_77 (by decide) ?_
          exact J_iretz dX7_read_78 rfl (by decide) (kr _ _ (xinl hf))
        · have hf := xin' hc hf
          obtain ⟨x4, ex4, hf⟩ := xlet_e hf
          refine J_iinc (ls' := [(5, xI x4), (6, xI x1), (0, xR 2), (2, xI l2), (4, xR l4)]) 4 dX7_read_79 rfl (by decide) ex4 rfl ?_
          refine J_goto (tgt := 37) dX7_read_82 (by decide) ?_
          refine J_sub [2, 3, 4, 0] rfl ?_
          exact kb _ _ (xinl hf)
      · have hf := xin' hc hf
        refine J_iconst dX7_read_77 (by decide) ?_
        exact J_iretz dX7_read_78 rfl (by decide) (kr _ _ (xinl hf))
  · have hf := xin' hc hf
    refine J_sub [] rfl ?_
    exact ke _ (xinl hf)
theorem j_Tape_read_37 {l2 : Int} {l4 : Int} {l5 : Int} {h : xH} {r0 : Int} {h0 : xH} (kl4 : xK l4 = 3 + 4) (hf : f_Tape_read_37 l2 l4 l5 h = some (r0, h0))  : J mX7_read true 0 0 37 xKn [(0, xR 2), (2, xI l2), (4, xR l4), (5, xI l5)] [] h (xEq (some r0) h0) := by
  unfold f_Tape_read_37 at hf
  obtain ⟨b0, hb0, hf⟩ := xc1_e hf
  refine xloop_ind (P := fun s : (Int × xH) => J mX7_read true 0 0 37 xKn [(0, xR 2), (2, xI l2), (4, xR l4), (5, xI s.1)] [] s.2 (xEq (some r0) h0)) hb0 (fun s x1 hs ib ie => ?_)
  exact j_Tape_read_s37 kl4 hs (fun _ _ e => ib _ e) (fun _ e => by have := ie _ e; subst this; exact j_Tape_read_85  hf) (fun _ _ e => by have := ie _ e; subst this; exact xq_i hf)
theorem jm_Tape_read {l1 : Int} {l2 : Int} {l3 : Int} {l4 : Int} {h : xH} {r0 : Int} {h0 : xH} (kl4 : xK l4 = 3 + 4) (hf : f_Tape_read l1 l2 l3 l4 h = some (r0, h0)) : J mX7_read true 0 0 0 xKn (xen 0 [xR 2, xI l1, xI l2, xI l3, xR l4]) [] h (xEq (some r0) h0) := by
  unfold f_Tape_read at hf
  refine J_cong (ls2 := [(0, xR 2), (1, xI l1), (2, xI l2), (3, xI l3), (4, xR l4)]) (st2 := []) rfl rfl ?_
  refine J_aload 4 dX7_read_0 rfl ?_
  obtain ⟨h1, hq, hf⟩ := xc1_e hf
  refine J_cVv (Mc := mX4_clear) [] dX7_read_2 (fc_Row_clear.fit ⟨xbl rfl, xbl rfl⟩) rfl ⟨Or.inr ⟨_, xq507⟩, xq509, xq3⟩ kl4 (ci := 4) rfl rfl (xbl rfl) (xbl rfl) (jm_Row_clear kl4 hq) ?_
  refine J_iload_n 1 dX7_read_5 rfl rfl ?_
  refine J_if_lt (tgt := 32) dX7_read_6 (by decide) (fun hc => ?_) (fun hc => ?_)
  · have hf := xip hc hf
    refine J_iconst dX7_read_32 (by decide) ?_
    exact J_iretz dX7_read_33 rfl (by decide) (xq_i hf)
  · have hf := xin' hc hf
    refine J_iload_n 2 dX7_read_9 rfl rfl ?_
    refine J_aload_n 0 dX7_read_10 rfl rfl ?_
    refine J_getRl (j := 0) xcf7 dX7_read_11 kO2 (Or.inl xq155) (by decide) (by decide) rf_2_0 ?_
    refine J_alen dX7_read_14 (xK_r1 kO3) (Or.inl kO3) (by decide) nA3 ?_
    refine J_ic_gt (tgt := 32) dX7_read_15 (by decide) (fun hc => ?_) (fun hc => ?_)
    · have hf := xip hc hf
      refine J_iconst dX7_read_32 (by decide) ?_
      exact J_iretz dX7_read_33 rfl (by decide) (xq_i hf)
    · have hf := xin' hc hf
      refine J_iload_n 2 dX7_read_18 rfl rfl ?_
      refine J_iload_n 1 dX7_read_19 rfl rfl ?_
      refine J_isub dX7_read_20 ?_
      refine J_iconst dX7_read_21 (by decide) ?_
      refine J_ic_lt (tgt := 32) dX7_read_22 (by decide) (fun hc => ?_) (fun hc => ?_)
      · have hf := xip hc hf
        refine J_iconst dX7_read_32 (by decide) ?_
        exact J_iretz dX7_read_33 rfl (by decide) (xq_i hf)
      · have hf := xin' hc hf
        refine J_iload_n 2 dX7_read_25 rfl rfl ?_
        refine J_iload_n 1 dX7_read_26 rfl rfl ?_
        refine J_isub dX7_read_27 ?_
        refine J_iload_n 3 dX7_read_28 rfl rfl ?_
        refine J_ic_le (tgt := 34) dX7_read_29 (by decide) (fun hc => ?_) (fun hc => ?_)
        · have hf := xip hc hf
          refine J_iconst dX7_read_32 (by decide) ?_
          exact J_iretz dX7_read_33 rfl (by decide) (xq_i hf)
        · have hf := xin' hc hf
          refine J_iload_n 1 dX7_read_34 rfl rfl ?_
          refine J_istore (ls' := [(5, xI l1), (0, xR 2), (1, xI l1), (2, xI l2), (3, xI l3), (4, xR l4)]) dX7_read_35 (by decide) rfl rfl ?_
          refine J_sub [1, 3, 5, 0] rfl ?_
          exact j_Tape_read_37 kl4 hf
theorem dX7_takeRow_0 : decode cX7_takeRow 0 = .ok (.aload_n 0, 1) := by decide +kernel
theorem dX7_takeRow_1 : decode cX7_takeRow 1 = .ok (.getfield 15, 3) := by decide +kernel
theorem dX7_takeRow_4 : decode cX7_takeRow 4 = .ok (.istore_n 2, 1) := by decide +kernel
theorem dX7_takeRow_5 : decode cX7_takeRow 5 = .ok (.aload_n 0, 1) := by decide +kernel
theorem dX7_takeRow_6 : decode cX7_takeRow 6 = .ok (.iconst 0, 1) := by decide +kernel
theorem dX7_takeRow_7 : decode cX7_takeRow 7 = .ok (.putfield 15, 3) := by decide +kernel
theorem dX7_takeRow_10 : decode cX7_takeRow 10 = .ok (.aload_n 0, 1) := by decide +kernel
theorem dX7_takeRow_11 : decode cX7_takeRow 11 = .ok (.iconst 0, 1) := by decide +kernel
theorem dX7_takeRow_12 : decode cX7_takeRow 12 = .ok (.iload_n 2, 1) := by decide +kernel
theorem dX7_takeRow_13 : decode cX7_takeRow 13 = .ok (.bipush 12, 2) := by decide +kernel
theorem dX7_takeRow_15 : decode cX7_takeRow 15 = .ok (.aload_n 1, 1) := by decide +kernel
theorem dX7_takeRow_16 : decode cX7_takeRow 16 = .ok (.invokevirtual 19, 3) := by decide +kernel
theorem dX7_takeRow_19 : decode cX7_takeRow 19 = .ok (.ireturn, 1) := by decide +kernel
theorem jm_Tape_takeRow {l1 : Int} {h : xH} {r0 : Int} {h0 : xH} (kl1 : xK l1 = 3 + 4) (hf : f_Tape_takeRow l1 h = some (r0, h0)) : J mX7_takeRow true 0 0 0 xKn (xen 0 [xR 2, xR l1]) [] h (xEq (some r0) h0) := by
  unfold f_Tape_takeRow at hf
  refine J_cong (ls2 := [(0, xR 2), (1, xR l1)]) (st2 := []) rfl rfl ?_
  refine J_aload_n 0 dX7_takeRow_0 rfl rfl ?_
  refine J_getI (j := 1) xcf7 dX7_takeRow_1 (xK_rg kO2) kO2 (Or.inl xq156) (by decide) (by decide) ?_
  obtain ⟨x1, ex1, hf⟩ := xlet_e hf
  refine J_istore_n (ls' := [(2, xI x1), (0, xR 2), (1, xR l1)]) dX7_takeRow_4 rfl (by decide) ex1 rfl ?_
  refine J_aload_n 1 dX7_takeRow_5 rfl rfl ?_
  refine J_iconst dX7_takeRow_6 (by decide) ?_
  obtain ⟨h2, eh2, hf⟩ := xlet_e hf
  refine J_putI (j := 1) xcf7 dX7_takeRow_7 (xK_rg kO2) kO2 (Or.inl xq156) (by decide) (by decide) eh2 ?_
  refine J_aload_n 1 dX7_takeRow_10 rfl rfl ?_
  refine J_iconst dX7_takeRow_11 (by decide) ?_
  refine J_iload_n 0 dX7_takeRow_12 rfl rfl ?_
  refine J_bip dX7_takeRow_13 (by decide) ?_
  refine J_aload_n 2 dX7_takeRow_15 rfl rfl ?_
  obtain ⟨r3, h4, hq, hf⟩ := xc2_e hf
  refine J_cVi (Mc := mX7_read) [xI 0, xI x1, xI 12, xR l1] dX7_takeRow_16 (fc_Tape_read.fit ⟨xbl rfl, xbl rfl⟩) rfl ⟨Or.inl xq503, xq505, xq2⟩ kO2 (ci := 7) rfl rfl (xbl rfl) (xbl rfl) (jm_Tape_read kl1 hq) ?_
  obtain ⟨hz, hf⟩ := xgb_e hf
  exact J_iretz dX7_takeRow_19 rfl hz (xq_i hf)
theorem dX5_at_0 : decode cX5_at 0 = .ok (.iload_n 1, 1) := by decide +kernel
theorem dX5_at_1 : decode cX5_at 1 = .ok (.ifCond .lt 34, 3) := by decide +kernel
theorem dX5_at_4 : decode cX5_at 4 = .ok (.iload_n 1, 1) := by decide +kernel
theorem dX5_at_5 : decode cX5_at 5 = .ok (.aload_n 0, 1) := by decide +kernel
theorem dX5_at_6 : decode cX5_at 6 = .ok (.getfield 24, 3) := by decide +kernel
theorem dX5_at_9 : decode cX5_at 9 = .ok (.if_icmp .ge 26, 3) := by decide +kernel
theorem dX5_at_12 : decode cX5_at 12 = .ok (.iload_n 1, 1) := by decide +kernel
theorem dX5_at_13 : decode cX5_at 13 = .ok (.aload_n 0, 1) := by decide +kernel
theorem dX5_at_14 : decode cX5_at 14 = .ok (.getfield 21, 3) := by decide +kernel
theorem dX5_at_17 : decode cX5_at 17 = .ok (.arraylength, 1) := by decide +kernel
theorem dX5_at_18 : decode cX5_at 18 = .ok (.if_icmp .ge 17, 3) := by decide +kernel
theorem dX5_at_21 : decode cX5_at 21 = .ok (.iload_n 2, 1) := by decide +kernel
theorem dX5_at_22 : decode cX5_at 22 = .ok (.ifCond .lt 13, 3) := by decide +kernel
theorem dX5_at_25 : decode cX5_at 25 = .ok (.iload_n 2, 1) := by decide +kernel
theorem dX5_at_26 : decode cX5_at 26 = .ok (.aload_n 0, 1) := by decide +kernel
theorem dX5_at_27 : decode cX5_at 27 = .ok (.getfield 21, 3) := by decide +kernel
theorem dX5_at_30 : decode cX5_at 30 = .ok (.iload_n 1, 1) := by decide +kernel
theorem dX5_at_31 : decode cX5_at 31 = .ok (.iaload, 1) := by decide +kernel
theorem dX5_at_32 : decode cX5_at 32 = .ok (.if_icmp .lt 5, 3) := by decide +kernel
theorem dX5_at_35 : decode cX5_at 35 = .ok (.iconst (-1), 1) := by decide +kernel
theorem dX5_at_36 : decode cX5_at 36 = .ok (.ireturn, 1) := by decide +kernel
theorem dX5_at_37 : decode cX5_at 37 = .ok (.iload_n 1, 1) := by decide +kernel
theorem dX5_at_38 : decode cX5_at 38 = .ok (.bipush 12, 2) := by decide +kernel
theorem dX5_at_40 : decode cX5_at 40 = .ok (.imul, 1) := by decide +kernel
theorem dX5_at_41 : decode cX5_at 41 = .ok (.iload_n 2, 1) := by decide +kernel
theorem dX5_at_42 : decode cX5_at 42 = .ok (.iadd, 1) := by decide +kernel
theorem dX5_at_43 : decode cX5_at 43 = .ok (.istore_n 3, 1) := by decide +kernel
theorem dX5_at_44 : decode cX5_at 44 = .ok (.iload_n 3, 1) := by decide +kernel
theorem dX5_at_45 : decode cX5_at 45 = .ok (.ifCond .lt 21, 3) := by decide +kernel
theorem dX5_at_48 : decode cX5_at 48 = .ok (.iload_n 3, 1) := by decide +kernel
theorem dX5_at_49 : decode cX5_at 49 = .ok (.aload_n 0, 1) := by decide +kernel
theorem dX5_at_50 : decode cX5_at 50 = .ok (.getfield 15, 3) := by decide +kernel
theorem dX5_at_53 : decode cX5_at 53 = .ok (.arraylength, 1) := by decide +kernel
theorem dX5_at_54 : decode cX5_at 54 = .ok (.if_icmp .ge 12, 3) := by decide +kernel
theorem dX5_at_57 : decode cX5_at 57 = .ok (.aload_n 0, 1) := by decide +kernel
theorem dX5_at_58 : decode cX5_at 58 = .ok (.getfield 15, 3) := by decide +kernel
theorem dX5_at_61 : decode cX5_at 61 = .ok (.iload_n 3, 1) := by decide +kernel
theorem dX5_at_62 : decode cX5_at 62 = .ok (.iaload, 1) := by decide +kernel
theorem dX5_at_63 : decode cX5_at 63 = .ok (.goto 4, 3) := by decide +kernel
theorem dX5_at_66 : decode cX5_at 66 = .ok (.iconst (-1), 1) := by decide +kernel
theorem dX5_at_67 : decode cX5_at 67 = .ok (.ireturn, 1) := by decide +kernel
theorem jm_Rows_at {l0 : Int} {l1 : Int} {l2 : Int} {h : xH} {r0 : Int} (kl0 : xK l0 = 3 + 5) (hf : f_Rows_at l0 l1 l2 h = some r0) : J mX5_at true 0 0 0 xKn (xen 0 [xR l0, xI l1, xI l2]) [] h (xEq (some r0) h) := by
  unfold f_Rows_at at hf
  refine J_cong (ls2 := [(0, xR l0), (1, xI l1), (2, xI l2)]) (st2 := []) rfl rfl ?_
  refine J_iload_n 1 dX5_at_0 rfl rfl ?_
  refine J_if_lt (tgt := 35) dX5_at_1 (by decide) (fun hc => ?_) (fun hc => ?_)
  · have hf := xip hc hf
    refine J_iconst dX5_at_35 (by decide) ?_
    exact J_ireti dX5_at_36 rfl (xq_p hf)
  · have hf := xin' hc hf
    refine J_iload_n 1 dX5_at_4 rfl rfl ?_
    refine J_aload_n 0 dX5_at_5 rfl rfl ?_
    refine J_getI (j := 2) xcf5 dX5_at_6 (xK_rg kl0) kl0 (Or.inl xq181) (by decide) (by decide) ?_
    refine J_ic_ge (tgt := 35) dX5_at_9 (by decide) (fun hc => ?_) (fun hc => ?_)
    · have hf := xip hc hf
      refine J_iload_n 1 dX5_at_12 rfl rfl ?_
      refine J_aload_n 0 dX5_at_13 rfl rfl ?_
      refine J_getRl (j := 1) xcf5 dX5_at_14 kl0 (Or.inl xq180) (by decide) (by decide) (rfRows_1 kl0) ?_
      refine J_alen dX5_at_17 (xK_r1 (kRows_1 kl0)) (Or.inl (kRows_1 kl0)) (xNok (l0 + 2)) rfl ?_
      refine J_ic_ge (tgt := 35) dX5_at_18 (by decide) (fun hc => ?_) (fun hc => ?_)
      · have hf := xip hc hf
        refine J_iload_n 2 dX5_at_21 rfl rfl ?_
        refine J_if_lt (tgt := 35) dX5_at_22 (by decide) (fun hc => ?_) (fun hc => ?_)
        · have hf := xip hc hf
          refine J_iconst dX5_at_35 (by decide) ?_
          exact J_ireti dX5_at_36 rfl (xq_p hf)
        · have hf := xin' hc hf
          refine J_iload_n 2 dX5_at_25 rfl rfl ?_
          refine J_aload_n 0 dX5_at_26 rfl rfl ?_
          refine J_getRl (j := 1) xcf5 dX5_at_27 kl0 (Or.inl xq180) (by decide) (by decide) (rfRows_1 kl0) ?_
          refine J_iload_n 1 dX5_at_30 rfl rfl ?_
          obtain ⟨hg, hf⟩ := xgd_e hf
          refine J_iald dX5_at_31 (xK_r1 (kRows_1 kl0)) (kRows_1 kl0) hg rfl ?_
          refine J_ic_lt (tgt := 37) dX5_at_32 (by decide) (fun hc => ?_) (fun hc => ?_)
          · have hf := xip hc hf
            refine J_iload_n 1 dX5_at_37 rfl rfl ?_
            refine J_bip dX5_at_38 (by decide) ?_
            refine J_imul dX5_at_40 ?_
            refine J_iload_n 2 dX5_at_41 rfl rfl ?_
            refine J_iadd dX5_at_42 ?_
            obtain ⟨x1, ex1, hf⟩ := xlet_e hf
            refine J_istore_n (ls' := [(3, xI x1), (0, xR l0), (1, xI l1), (2, xI l2)]) dX5_at_43 rfl (by decide) ex1 rfl ?_
            refine J_iload_n 0 dX5_at_44 rfl rfl ?_
            refine J_if_lt (tgt := 66) dX5_at_45 (by decide) (fun hc => ?_) (fun hc => ?_)
            · have hf := xip hc hf
              refine J_iconst dX5_at_66 (by decide) ?_
              exact J_ireti dX5_at_67 rfl (xq_p hf)
            · have hf := xin' hc hf
              refine J_iload_n 0 dX5_at_48 rfl rfl ?_
              refine J_aload_n 1 dX5_at_49 rfl rfl ?_
              refine J_getRl (j := 0) xcf5 dX5_at_50 kl0 (Or.inl xq179) (by decide) (by decide) (rfRows_0 kl0) ?_
              refine J_alen dX5_at_53 (xK_r1 (kRows_0 kl0)) (Or.inl (kRows_0 kl0)) (xNok (l0 + 1)) rfl ?_
              refine J_ic_ge (tgt := 66) dX5_at_54 (by decide) (fun hc => ?_) (fun hc => ?_)
              · have hf := xip hc hf
                refine J_aload_n 1 dX5_at_57 rfl rfl ?_
                refine J_getRl (j := 0) xcf5 dX5_at_58 kl0 (Or.inl xq179) (by decide) (by decide) (rfRows_0 kl0) ?_
                refine J_iload_n 0 dX5_at_61 rfl rfl ?_
                obtain ⟨hg, hf⟩ := xgd_e hf
                refine J_iald dX5_at_62 (xK_r1 (kRows_0 kl0)) (kRows_0 kl0) hg rfl ?_
                refine J_goto (tgt := 67) dX5_at_63 (by decide) ?_
                exact J_ireti dX5_at_67 rfl (xq_p hf)
              · have hf := xin' hc hf
                refine J_iconst dX5_at_66 (by decide) ?_
                exact J_ireti dX5_at_67 rfl (xq_p hf)
          · have hf := xin' hc hf
            refine J_iconst dX5_at_35 (by decide) ?_
            exact J_ireti dX5_at_36 rfl (xq_p hf)
      · have hf := xin' hc hf
        refine J_iconst dX5_at_35 (by decide) ?_
        exact J_ireti dX5_at_36 rfl (xq_p hf)
    · have hf := xin' hc hf
      refine J_iconst dX5_at_35 (by decide) ?_
      exact J_ireti dX5_at_36 rfl (xq_p hf)
theorem dX4_at_0 : decode cX4_at 0 = .ok (.iload_n 1, 1) := by decide +kernel
theorem dX4_at_1 : decode cX4_at 1 = .ok (.ifCond .lt 29, 3) := by decide +kernel
theorem dX4_at_4 : decode cX4_at 4 = .ok (.iload_n 1, 1) := by decide +kernel
theorem dX4_at_5 : decode cX4_at 5 = .ok (.aload_n 0, 1) := by decide +kernel
theorem dX4_at_6 : decode cX4_at 6 = .ok (.getfield 15, 3) := by decide +kernel
theorem dX4_at_9 : decode cX4_at 9 = .ok (.if_icmp .ge 21, 3) := by decide +kernel
theorem dX4_at_12 : decode cX4_at 12 = .ok (.iload_n 1, 1) := by decide +kernel
theorem dX4_at_13 : decode cX4_at 13 = .ok (.aload_n 0, 1) := by decide +kernel
theorem dX4_at_14 : decode cX4_at 14 = .ok (.getfield 9, 3) := by decide +kernel
theorem dX4_at_17 : decode cX4_at 17 = .ok (.arraylength, 1) := by decide +kernel
theorem dX4_at_18 : decode cX4_at 18 = .ok (.if_icmp .ge 12, 3) := by decide +kernel
theorem dX4_at_21 : decode cX4_at 21 = .ok (.aload_n 0, 1) := by decide +kernel
theorem dX4_at_22 : decode cX4_at 22 = .ok (.getfield 9, 3) := by decide +kernel
theorem dX4_at_25 : decode cX4_at 25 = .ok (.iload_n 1, 1) := by decide +kernel
theorem dX4_at_26 : decode cX4_at 26 = .ok (.iaload, 1) := by decide +kernel
theorem dX4_at_27 : decode cX4_at 27 = .ok (.goto 4, 3) := by decide +kernel
theorem dX4_at_30 : decode cX4_at 30 = .ok (.iconst (-1), 1) := by decide +kernel
theorem dX4_at_31 : decode cX4_at 31 = .ok (.ireturn, 1) := by decide +kernel
theorem jm_Row_at {l0 : Int} {l1 : Int} {h : xH} {r0 : Int} (kl0 : xK l0 = 3 + 4) (hf : f_Row_at l0 l1 h = some r0) : J mX4_at true 0 0 0 xKn (xen 0 [xR l0, xI l1]) [] h (xEq (some r0) h) := by
  unfold f_Row_at at hf
  refine J_cong (ls2 := [(0, xR l0), (1, xI l1)]) (st2 := []) rfl rfl ?_
  refine J_iload_n 1 dX4_at_0 rfl rfl ?_
  refine J_if_lt (tgt := 30) dX4_at_1 (by decide) (fun hc => ?_) (fun hc => ?_)
  · have hf := xip hc hf
    refine J_iconst dX4_at_30 (by decide) ?_
    exact J_ireti dX4_at_31 rfl (xq_p hf)
  · have hf := xin' hc hf
    refine J_iload_n 1 dX4_at_4 rfl rfl ?_
    refine J_aload_n 0 dX4_at_5 rfl rfl ?_
    refine J_getI (j := 1) xcf4 dX4_at_6 (xK_rg kl0) kl0 (Or.inl xq248) (by decide) (by decide) ?_
    refine J_ic_ge (tgt := 30) dX4_at_9 (by decide) (fun hc => ?_) (fun hc => ?_)
    · have hf := xip hc hf
      refine J_iload_n 1 dX4_at_12 rfl rfl ?_
      refine J_aload_n 0 dX4_at_13 rfl rfl ?_
      refine J_getRl (j := 0) xcf4 dX4_at_14 kl0 (Or.inl xq245) (by decide) (by decide) (rfRow_0 kl0) ?_
      refine J_alen dX4_at_17 (xK_r1 (kRow_0 kl0)) (Or.inl (kRow_0 kl0)) (by decide) (nRow_0 kl0) ?_
      refine J_ic_ge (tgt := 30) dX4_at_18 (by decide) (fun hc => ?_) (fun hc => ?_)
      · have hf := xip hc hf
        refine J_aload_n 0 dX4_at_21 rfl rfl ?_
        refine J_getRl (j := 0) xcf4 dX4_at_22 kl0 (Or.inl xq245) (by decide) (by decide) (rfRow_0 kl0) ?_
        refine J_iload_n 1 dX4_at_25 rfl rfl ?_
        obtain ⟨hg, hf⟩ := xgd_e hf
        refine J_iald dX4_at_26 (xK_r1 (kRow_0 kl0)) (kRow_0 kl0) hg (nRow_0 kl0) ?_
        refine J_goto (tgt := 31) dX4_at_27 (by decide) ?_
        exact J_ireti dX4_at_31 rfl (xq_p hf)
      · have hf := xin' hc hf
        refine J_iconst dX4_at_30 (by decide) ?_
        exact J_ireti dX4_at_31 rfl (xq_p hf)
    · have hf := xin' hc hf
      refine J_iconst dX4_at_30 (by decide) ?_
      exact J_ireti dX4_at_31 rfl (xq_p hf)
theorem dX5_order_0 : decode cX5_order 0 = .ok (.iconst 0, 1) := by decide +kernel
theorem dX5_order_1 : decode cX5_order 1 = .ok (.istore_n 3, 1) := by decide +kernel
theorem dX5_order_2 : decode cX5_order 2 = .ok (.iload_n 3, 1) := by decide +kernel
theorem dX5_order_3 : decode cX5_order 3 = .ok (.bipush 12, 2) := by decide +kernel
theorem dX5_order_5 : decode cX5_order 5 = .ok (.if_icmp .ge 31, 3) := by decide +kernel
theorem dX5_order_8 : decode cX5_order 8 = .ok (.aload_n 0, 1) := by decide +kernel
theorem dX5_order_9 : decode cX5_order 9 = .ok (.iload_n 1, 1) := by decide +kernel
theorem dX5_order_10 : decode cX5_order 10 = .ok (.iload_n 3, 1) := by decide +kernel
theorem dX5_order_11 : decode cX5_order 11 = .ok (.invokevirtual 37, 3) := by decide +kernel
theorem dX5_order_14 : decode cX5_order 14 = .ok (.aload_n 2, 1) := by decide +kernel
theorem dX5_order_15 : decode cX5_order 15 = .ok (.iload_n 3, 1) := by decide +kernel
theorem dX5_order_16 : decode cX5_order 16 = .ok (.invokevirtual 60, 3) := by decide +kernel
theorem dX5_order_19 : decode cX5_order 19 = .ok (.isub, 1) := by decide +kernel
theorem dX5_order_20 : decode cX5_order 20 = .ok (.istore 4, 2) := by decide +kernel
theorem dX5_order_22 : decode cX5_order 22 = .ok (.iload 4, 2) := by decide +kernel
theorem dX5_order_24 : decode cX5_order 24 = .ok (.ifCond .eq 6, 3) := by decide +kernel
theorem dX5_order_27 : decode cX5_order 27 = .ok (.iload 4, 2) := by decide +kernel
theorem dX5_order_29 : decode cX5_order 29 = .ok (.ireturn, 1) := by decide +kernel
theorem dX5_order_30 : decode cX5_order 30 = .ok (.iinc 3 1, 3) := by decide +kernel
theorem dX5_order_33 : decode cX5_order 33 = .ok (.goto (-31), 3) := by decide +kernel
theorem dX5_order_36 : decode cX5_order 36 = .ok (.iconst 0, 1) := by decide +kernel
theorem dX5_order_37 : decode cX5_order 37 = .ok (.ireturn, 1) := by decide +kernel
theorem j_Rows_order_36  {h : xH} {r0 : Int}  (hf : f_Rows_order_36 h = some r0)  : J mX5_order true 0 0 36 xKn [] [] h (xEq (some r0) h) := by
  unfold f_Rows_order_36 at hf
  refine J_iconst dX5_order_36 (by decide) ?_
  exact J_ireti dX5_order_37 rfl (xq_p hf)
theorem j_Rows_order_s2 {l0 : Int} {l1 : Int} {l2 : Int} {l3 : Int} {h : xH} {x : (Int ⊕ (Unit ⊕ Int))} {Q : xQ} (kl0 : xK l0 = 3 + 5) (kl2 : xK l2 = 3 + 4) (hf : f_Rows_order_s2 l0 l1 l2 l3 h = some x) (kb : ∀ (l3' : Int), x = Sum.inl l3' → J mX5_order true 0 0 2 xKn [(0, xR l0), (1, xI l1), (2, xR l2), (3, xI l3')] [] h Q) (ke : x = (Sum.inr (Sum.inl ())) → J mX5_order true 0 0 36 xKn [] [] h Q) (kr : ∀ v : Int, x = (Sum.inr (Sum.inr v)) → Q (some v) xKn h) : J mX5_order true 0 0 2 xKn [(0, xR l0), (1, xI l1), (2, xR l2), (3, xI l3)] [] h Q := by
  unfold f_Rows_order_s2 at hf
  refine J_iload_n 3 dX5_order_2 rfl rfl ?_
  refine J_bip dX5_order_3 (by decide) ?_
  refine J_ic_ge (tgt := 36) dX5_order_5 (by decide) (fun hc => ?_) (fun hc => ?_)
  · have hf := xip hc hf
    refine J_aload_n 0 dX5_order_8 rfl rfl ?_
    refine J_iload_n 1 dX5_order_9 rfl rfl ?_
    refine J_iload_n 3 dX5_order_10 rfl rfl ?_
    obtain ⟨r1, hq, hf⟩ := xc1_e hf
    refine J_cVi (Mc := mX5_at) [xI l1, xI l3] dX5_order_11 (fc_Rows_at.fit ⟨xbl rfl, xbl rfl⟩) rfl ⟨Or.inl xq532, xq534, xq9⟩ kl0 (ci := 5) rfl rfl (xbl rfl) (xbl rfl) (jm_Rows_at kl0 hq) ?_
    refine J_aload_n 2 dX5_order_14 rfl rfl ?_
    refine J_iload_n 3 dX5_order_15 rfl rfl ?_
    obtain ⟨r2, hq, hf⟩ := xc1_e hf
    refine J_cVi (Mc := mX4_at) [xI l3] dX5_order_16 (fc_Row_at.fit ⟨xbl rfl, xbl rfl⟩) rfl ⟨Or.inr ⟨_, xq536⟩, xq538, xq10⟩ kl2 (ci := 4) rfl rfl (xbl rfl) (xbl rfl) (jm_Row_at kl2 hq) ?_
    refine J_isub dX5_order_19 ?_
    obtain ⟨x3, ex3, hf⟩ := xlet_e hf
    refine J_istore (ls' := [(4, xI x3), (0, xR l0), (1, xI l1), (2, xR l2), (3, xI l3)]) dX5_order_20 (by decide) ex3 rfl ?_
    refine J_iload 0 dX5_order_22 rfl ?_
    refine J_if_eq (tgt := 30) dX5_order_24 (by decide) (fun hc => ?_) (fun hc => ?_)
    · have hf := xip hc hf
      obtain ⟨x4, ex4, hf⟩ := xlet_e hf
      refine J_iinc (ls' := [(3, xI x4), (4, xI x3), (0, xR l0), (1, xI l1), (2, xR l2)]) 4 dX5_order_30 rfl (by decide) ex4 rfl ?_
      refine J_goto (tgt := 2) dX5_order_33 (by decide) ?_
      refine J_sub [2, 3, 4, 0] rfl ?_
      exact kb _ (xinl hf)
    · have hf := xin' hc hf
      refine J_iload 0 dX5_order_27 rfl ?_
      exact J_ireti dX5_order_29 rfl (kr _ (xinl hf))
  · have hf := xin' hc hf
    refine J_sub [] rfl ?_
    exact ke  (xinl hf)
theorem j_Rows_order_2 {l0 : Int} {l1 : Int} {l2 : Int} {l3 : Int} {h : xH} {r0 : Int} (kl0 : xK l0 = 3 + 5) (kl2 : xK l2 = 3 + 4) (hf : f_Rows_order_2 l0 l1 l2 l3 h = some r0)  : J mX5_order true 0 0 2 xKn [(0, xR l0), (1, xI l1), (2, xR l2), (3, xI l3)] [] h (xEq (some r0) h) := by
  unfold f_Rows_order_2 at hf
  obtain ⟨b0, hb0, hf⟩ := xc1_e hf
  refine xloop_ind (P := fun s : Int => J mX5_order true 0 0 2 xKn [(0, xR l0), (1, xI l1), (2, xR l2), (3, xI s)] [] h (xEq (some r0) h)) hb0 (fun s x1 hs ib ie => ?_)
  exact j_Rows_order_s2 kl0 kl2 hs (fun _ e => ib _ e) (fun  e => by have := ie _ e; subst this; exact j_Rows_order_36  hf) (fun _ e => by have := ie _ e; subst this; exact xq_p hf)
theorem jm_Rows_order {l0 : Int} {l1 : Int} {l2 : Int} {h : xH} {r0 : Int} (kl0 : xK l0 = 3 + 5) (kl2 : xK l2 = 3 + 4) (hf : f_Rows_order l0 l1 l2 h = some r0) : J mX5_order true 0 0 0 xKn (xen 0 [xR l0, xI l1, xR l2]) [] h (xEq (some r0) h) := by
  unfold f_Rows_order at hf
  refine J_cong (ls2 := [(0, xR l0), (1, xI l1), (2, xR l2)]) (st2 := []) rfl rfl ?_
  refine J_iconst dX5_order_0 (by decide) ?_
  refine J_istore_n (ls' := [(3, xI 0), (0, xR l0), (1, xI l1), (2, xR l2)]) dX5_order_1 rfl (by decide) rfl rfl ?_
  refine J_sub [1, 2, 3, 0] rfl ?_
  exact j_Rows_order_2 kl0 kl2 hf
theorem dX1_place_0 : decode cX1_place 0 = .ok (.iconst 0, 1) := by decide +kernel
theorem dX1_place_1 : decode cX1_place 1 = .ok (.istore_n 2, 1) := by decide +kernel
theorem dX1_place_2 : decode cX1_place 2 = .ok (.sipush 128, 3) := by decide +kernel
theorem dX1_place_5 : decode cX1_place 5 = .ok (.istore_n 3, 1) := by decide +kernel
theorem dX1_place_6 : decode cX1_place 6 = .ok (.iload_n 3, 1) := by decide +kernel
theorem dX1_place_7 : decode cX1_place 7 = .ok (.ifCond .le 45, 3) := by decide +kernel
theorem dX1_place_10 : decode cX1_place 10 = .ok (.iload_n 2, 1) := by decide +kernel
theorem dX1_place_11 : decode cX1_place 11 = .ok (.iload_n 3, 1) := by decide +kernel
theorem dX1_place_12 : decode cX1_place 12 = .ok (.iadd, 1) := by decide +kernel
theorem dX1_place_13 : decode cX1_place 13 = .ok (.istore 4, 2) := by decide +kernel
theorem dX1_place_15 : decode cX1_place 15 = .ok (.iload 4, 2) := by decide +kernel
theorem dX1_place_17 : decode cX1_place 17 = .ok (.aload_n 0, 1) := by decide +kernel
theorem dX1_place_18 : decode cX1_place 18 = .ok (.getfield 14, 3) := by decide +kernel
theorem dX1_place_21 : decode cX1_place 21 = .ok (.getfield 24, 3) := by decide +kernel
theorem dX1_place_24 : decode cX1_place 24 = .ok (.if_icmp .gt 21, 3) := by decide +kernel
theorem dX1_place_27 : decode cX1_place 27 = .ok (.aload_n 0, 1) := by decide +kernel
theorem dX1_place_28 : decode cX1_place 28 = .ok (.getfield 14, 3) := by decide +kernel
theorem dX1_place_31 : decode cX1_place 31 = .ok (.iload 4, 2) := by decide +kernel
theorem dX1_place_33 : decode cX1_place 33 = .ok (.iconst 1, 1) := by decide +kernel
theorem dX1_place_34 : decode cX1_place 34 = .ok (.isub, 1) := by decide +kernel
theorem dX1_place_35 : decode cX1_place 35 = .ok (.aload_n 1, 1) := by decide +kernel
theorem dX1_place_36 : decode cX1_place 36 = .ok (.invokevirtual 28, 3) := by decide +kernel
theorem dX1_place_39 : decode cX1_place 39 = .ok (.ifCond .ge 6, 3) := by decide +kernel
theorem dX1_place_42 : decode cX1_place 42 = .ok (.iload 4, 2) := by decide +kernel
theorem dX1_place_44 : decode cX1_place 44 = .ok (.istore_n 2, 1) := by decide +kernel
theorem dX1_place_45 : decode cX1_place 45 = .ok (.iload_n 3, 1) := by decide +kernel
theorem dX1_place_46 : decode cX1_place 46 = .ok (.iconst 2, 1) := by decide +kernel
theorem dX1_place_47 : decode cX1_place 47 = .ok (.idiv, 1) := by decide +kernel
theorem dX1_place_48 : decode cX1_place 48 = .ok (.istore_n 3, 1) := by decide +kernel
theorem dX1_place_49 : decode cX1_place 49 = .ok (.goto (-43), 3) := by decide +kernel
theorem dX1_place_52 : decode cX1_place 52 = .ok (.iload_n 2, 1) := by decide +kernel
theorem dX1_place_53 : decode cX1_place 53 = .ok (.ireturn, 1) := by decide +kernel
theorem j_Lex_place_52 {l2 : Int} {h : xH} {r0 : Int}  (hf : f_Lex_place_52 l2 h = some r0)  : J mX1_place true 0 0 52 xKn [(2, xI l2)] [] h (xEq (some r0) h) := by
  unfold f_Lex_place_52 at hf
  refine J_iload_n 0 dX1_place_52 rfl rfl ?_
  exact J_ireti dX1_place_53 rfl (xq_p hf)
theorem j_Lex_place_45 {l1 : Int} {l2 : Int} {l3 : Int} {h : xH} {x : ((Int × Int) ⊕ Int)} {Q : xQ} (kl1 : xK l1 = 3 + 4) (hf : f_Lex_place_45 l1 l2 l3 h = some x) (kb : ∀ (l2' : Int) (l3' : Int), x = Sum.inl (l2', l3') → J mX1_place true 0 0 6 xKn [(0, xR 4), (1, xR l1), (2, xI l2'), (3, xI l3')] [] h Q) (ke : ∀ (l2' : Int), x = (Sum.inr l2') → J mX1_place true 0 0 52 xKn [(2, xI l2')] [] h Q) : J mX1_place true 0 0 45 xKn [(0, xR 4), (1, xR l1), (2, xI l2), (3, xI l3)] [] h Q := by
  unfold f_Lex_place_45 at hf
  refine J_iload_n 3 dX1_place_45 rfl rfl ?_
  refine J_iconst dX1_place_46 (by decide) ?_
  refine J_idiv dX1_place_47 (by decide) ?_
  obtain ⟨x1, ex1, hf⟩ := xlet_e hf
  refine J_istore_n (ls' := [(3, xI x1), (0, xR 4), (1, xR l1), (2, xI l2)]) dX1_place_48 rfl (by decide) ex1 rfl ?_
  refine J_goto (tgt := 6) dX1_place_49 (by decide) ?_
  refine J_sub [1, 2, 3, 0] rfl ?_
  exact kb _ _ (xinl hf)
theorem j_Lex_place_s6 {l1 : Int} {l2 : Int} {l3 : Int} {h : xH} {x : ((Int × Int) ⊕ Int)} {Q : xQ} (kl1 : xK l1 = 3 + 4) (hf : f_Lex_place_s6 l1 l2 l3 h = some x) (kb : ∀ (l2' : Int) (l3' : Int), x = Sum.inl (l2', l3') → J mX1_place true 0 0 6 xKn [(0, xR 4), (1, xR l1), (2, xI l2'), (3, xI l3')] [] h Q) (ke : ∀ (l2' : Int), x = (Sum.inr l2') → J mX1_place true 0 0 52 xKn [(2, xI l2')] [] h Q) : J mX1_place true 0 0 6 xKn [(0, xR 4), (1, xR l1), (2, xI l2), (3, xI l3)] [] h Q := by
  unfold f_Lex_place_s6 at hf
  refine J_iload_n 3 dX1_place_6 rfl rfl ?_
  refine J_if_le (tgt := 52) dX1_place_7 (by decide) (fun hc => ?_) (fun hc => ?_)
  · have hf := xip hc hf
    refine J_iload_n 2 dX1_place_10 rfl rfl ?_
    refine J_iload_n 3 dX1_place_11 rfl rfl ?_
    refine J_iadd dX1_place_12 ?_
    obtain ⟨x1, ex1, hf⟩ := xlet_e hf
    refine J_istore (ls' := [(4, xI x1), (0, xR 4), (1, xR l1), (2, xI l2), (3, xI l3)]) dX1_place_13 (by decide) ex1 rfl ?_
    refine J_iload 0 dX1_place_15 rfl ?_
    refine J_aload_n 1 dX1_place_17 rfl rfl ?_
    refine J_getRl (j := 0) xcf1 dX1_place_18 kO4 (Or.inl xq194) (by decide) (by decide) rf_4_0 ?_
    refine J_getI (j := 2) xcf5 dX1_place_21 (xK_rg kO5) kO5 (Or.inr ⟨_, xq183⟩) (by decide) (by decide) ?_
    refine J_ic_gt (tgt := 45) dX1_place_24 (by decide) (fun hc => ?_) (fun hc => ?_)
    · have hf := xip hc hf
      refine J_sub [1, 2, 3, 4] rfl ?_
      exact j_Lex_place_45 kl1 hf kb ke
    · have hf := xin' hc hf
      refine J_aload_n 1 dX1_place_27 rfl rfl ?_
      refine J_getRl (j := 0) xcf1 dX1_place_28 kO4 (Or.inl xq194) (by decide) (by decide) rf_4_0 ?_
      refine J_iload 0 dX1_place_31 rfl ?_
      refine J_iconst dX1_place_33 (by decide) ?_
      refine J_isub dX1_place_34 ?_
      refine J_aload_n 2 dX1_place_35 rfl rfl ?_
      obtain ⟨r2, hq, hf⟩ := xc1_e hf
      refine J_cVi (Mc := mX5_order) [xI (w32 (x1 - 1)), xR l1] dX1_place_36 (fc_Rows_order.fit ⟨xbl rfl, xbl rfl⟩) rfl ⟨Or.inr ⟨_, xq528⟩, xq530, xq8⟩ kO5 (ci := 5) rfl rfl (xbl rfl) (xbl rfl) (jm_Rows_order kO5 kl1 hq) ?_
      refine J_if_ge (tgt := 45) dX1_place_39 (by decide) (fun hc => ?_) (fun hc => ?_)
      · have hf := xip hc hf
        refine J_iload 0 dX1_place_42 rfl ?_
        refine J_istore_n (ls' := [(2, xI x1), (4, xI x1), (0, xR 4), (1, xR l1), (3, xI l3)]) dX1_place_44 rfl (by decide) rfl rfl ?_
        refine J_sub [2, 3, 0, 4] rfl ?_
        exact j_Lex_place_45 kl1 hf kb ke
      · have hf := xin' hc hf
        refine J_sub [1, 2, 3, 4] rfl ?_
        exact j_Lex_place_45 kl1 hf kb ke
  · have hf := xin' hc hf
    refine J_sub [2] rfl ?_
    exact ke _ (xinl hf)
theorem j_Lex_place_6 {l1 : Int} {l2 : Int} {l3 : Int} {h : xH} {r0 : Int} (kl1 : xK l1 = 3 + 4) (hf : f_Lex_place_6 l1 l2 l3 h = some r0)  : J mX1_place true 0 0 6 xKn [(0, xR 4), (1, xR l1), (2, xI l2), (3, xI l3)] [] h (xEq (some r0) h) := by
  unfold f_Lex_place_6 at hf
  obtain ⟨b0, hb0, hf⟩ := xc1_e hf
  refine xloop_ind (P := fun s : (Int × Int) => J mX1_place true 0 0 6 xKn [(0, xR 4), (1, xR l1), (2, xI s.1), (3, xI s.2)] [] h (xEq (some r0) h)) hb0 (fun s x1 hs ib ie => ?_)
  exact j_Lex_place_s6 kl1 hs (fun _ _ e => ib _ e) (fun _ e => by have := ie _ e; subst this; exact j_Lex_place_52  hf)
theorem jm_Lex_place {l1 : Int} {h : xH} {r0 : Int} (kl1 : xK l1 = 3 + 4) (hf : f_Lex_place l1 h = some r0) : J mX1_place true 0 0 0 xKn (xen 0 [xR 4, xR l1]) [] h (xEq (some r0) h) := by
  unfold f_Lex_place at hf
  refine J_cong (ls2 := [(0, xR 4), (1, xR l1)]) (st2 := []) rfl rfl ?_
  refine J_iconst dX1_place_0 (by decide) ?_
  refine J_istore_n (ls' := [(2, xI 0), (0, xR 4), (1, xR l1)]) dX1_place_1 rfl (by decide) rfl rfl ?_
  refine J_sip dX1_place_2 (by decide) ?_
  refine J_istore_n (ls' := [(3, xI 128), (2, xI 0), (0, xR 4), (1, xR l1)]) dX1_place_5 rfl (by decide) rfl rfl ?_
  refine J_sub [2, 3, 1, 0] rfl ?_
  exact j_Lex_place_6 kl1 hf
theorem dX1_numberOf_0 : decode cX1_numberOf 0 = .ok (.aload_n 0, 1) := by decide +kernel
theorem dX1_numberOf_1 : decode cX1_numberOf 1 = .ok (.aload_n 1, 1) := by decide +kernel
theorem dX1_numberOf_2 : decode cX1_numberOf 2 = .ok (.invokevirtual 32, 3) := by decide +kernel
theorem dX1_numberOf_5 : decode cX1_numberOf 5 = .ok (.istore_n 2, 1) := by decide +kernel
theorem dX1_numberOf_6 : decode cX1_numberOf 6 = .ok (.iload_n 2, 1) := by decide +kernel
theorem dX1_numberOf_7 : decode cX1_numberOf 7 = .ok (.aload_n 0, 1) := by decide +kernel
theorem dX1_numberOf_8 : decode cX1_numberOf 8 = .ok (.getfield 14, 3) := by decide +kernel
theorem dX1_numberOf_11 : decode cX1_numberOf 11 = .ok (.getfield 24, 3) := by decide +kernel
theorem dX1_numberOf_14 : decode cX1_numberOf 14 = .ok (.if_icmp .ge 19, 3) := by decide +kernel
theorem dX1_numberOf_17 : decode cX1_numberOf 17 = .ok (.aload_n 0, 1) := by decide +kernel
theorem dX1_numberOf_18 : decode cX1_numberOf 18 = .ok (.getfield 14, 3) := by decide +kernel
theorem dX1_numberOf_21 : decode cX1_numberOf 21 = .ok (.iload_n 2, 1) := by decide +kernel
theorem dX1_numberOf_22 : decode cX1_numberOf 22 = .ok (.aload_n 1, 1) := by decide +kernel
theorem dX1_numberOf_23 : decode cX1_numberOf 23 = .ok (.invokevirtual 28, 3) := by decide +kernel
theorem dX1_numberOf_26 : decode cX1_numberOf 26 = .ok (.ifCond .ne 7, 3) := by decide +kernel
theorem dX1_numberOf_29 : decode cX1_numberOf 29 = .ok (.iload_n 2, 1) := by decide +kernel
theorem dX1_numberOf_30 : decode cX1_numberOf 30 = .ok (.goto 4, 3) := by decide +kernel
theorem dX1_numberOf_33 : decode cX1_numberOf 33 = .ok (.iconst (-1), 1) := by decide +kernel
theorem dX1_numberOf_34 : decode cX1_numberOf 34 = .ok (.ireturn, 1) := by decide +kernel
theorem jm_Lex_numberOf {l1 : Int} {h : xH} {r0 : Int} (kl1 : xK l1 = 3 + 4) (hf : f_Lex_numberOf l1 h = some r0) : J mX1_numberOf true 0 0 0 xKn (xen 0 [xR 4, xR l1]) [] h (xEq (some r0) h) := by
  unfold f_Lex_numberOf at hf
  refine J_cong (ls2 := [(0, xR 4), (1, xR l1)]) (st2 := []) rfl rfl ?_
  refine J_aload_n 0 dX1_numberOf_0 rfl rfl ?_
  refine J_aload_n 1 dX1_numberOf_1 rfl rfl ?_
  obtain ⟨r1, hq, hf⟩ := xc1_e hf
  refine J_cVi (Mc := mX1_place) [xR l1] dX1_numberOf_2 (fc_Lex_place.fit ⟨xbl rfl, xbl rfl⟩) rfl ⟨Or.inl xq524, xq526, xq7⟩ kO4 (ci := 1) rfl rfl (xbl rfl) (xbl rfl) (jm_Lex_place kl1 hq) ?_
  refine J_istore_n (ls' := [(2, xI r1), (0, xR 4), (1, xR l1)]) dX1_numberOf_5 rfl (by decide) rfl rfl ?_
  refine J_iload_n 0 dX1_numberOf_6 rfl rfl ?_
  refine J_aload_n 1 dX1_numberOf_7 rfl rfl ?_
  refine J_getRl (j := 0) xcf1 dX1_numberOf_8 kO4 (Or.inl xq194) (by decide) (by decide) rf_4_0 ?_
  refine J_getI (j := 2) xcf5 dX1_numberOf_11 (xK_rg kO5) kO5 (Or.inr ⟨_, xq183⟩) (by decide) (by decide) ?_
  refine J_ic_ge (tgt := 33) dX1_numberOf_14 (by decide) (fun hc => ?_) (fun hc => ?_)
  · have hf := xip hc hf
    refine J_aload_n 1 dX1_numberOf_17 rfl rfl ?_
    refine J_getRl (j := 0) xcf1 dX1_numberOf_18 kO4 (Or.inl xq194) (by decide) (by decide) rf_4_0 ?_
    refine J_iload_n 0 dX1_numberOf_21 rfl rfl ?_
    refine J_aload_n 2 dX1_numberOf_22 rfl rfl ?_
    obtain ⟨r2, hq, hf⟩ := xc1_e hf
    refine J_cVi (Mc := mX5_order) [xI r1, xR l1] dX1_numberOf_23 (fc_Rows_order.fit ⟨xbl rfl, xbl rfl⟩) rfl ⟨Or.inr ⟨_, xq528⟩, xq530, xq8⟩ kO5 (ci := 5) rfl rfl (xbl rfl) (xbl rfl) (jm_Rows_order kO5 kl1 hq) ?_
    refine J_if_ne (tgt := 33) dX1_numberOf_26 (by decide) (fun hc => ?_) (fun hc => ?_)
    · have hf := xip hc hf
      refine J_iload_n 0 dX1_numberOf_29 rfl rfl ?_
      refine J_goto (tgt := 34) dX1_numberOf_30 (by decide) ?_
      exact J_ireti dX1_numberOf_34 rfl (xq_p hf)
    · have hf := xin' hc hf
      refine J_iconst dX1_numberOf_33 (by decide) ?_
      exact J_ireti dX1_numberOf_34 rfl (xq_p hf)
  · have hf := xin' hc hf
    refine J_iconst dX1_numberOf_33 (by decide) ?_
    exact J_ireti dX1_numberOf_34 rfl (xq_p hf)
theorem dX5_isFull_0 : decode cX5_isFull 0 = .ok (.aload_n 0, 1) := by decide +kernel
theorem dX5_isFull_1 : decode cX5_isFull 1 = .ok (.getfield 24, 3) := by decide +kernel
theorem dX5_isFull_4 : decode cX5_isFull 4 = .ok (.aload_n 0, 1) := by decide +kernel
theorem dX5_isFull_5 : decode cX5_isFull 5 = .ok (.getfield 21, 3) := by decide +kernel
theorem dX5_isFull_8 : decode cX5_isFull 8 = .ok (.arraylength, 1) := by decide +kernel
theorem dX5_isFull_9 : decode cX5_isFull 9 = .ok (.if_icmp .lt 7, 3) := by decide +kernel
theorem dX5_isFull_12 : decode cX5_isFull 12 = .ok (.iconst 1, 1) := by decide +kernel
theorem dX5_isFull_13 : decode cX5_isFull 13 = .ok (.goto 4, 3) := by decide +kernel
theorem dX5_isFull_16 : decode cX5_isFull 16 = .ok (.iconst 0, 1) := by decide +kernel
theorem dX5_isFull_17 : decode cX5_isFull 17 = .ok (.ireturn, 1) := by decide +kernel
theorem jm_Rows_isFull {l0 : Int} {h : xH} {r0 : Int} (kl0 : xK l0 = 3 + 5) (hf : f_Rows_isFull l0 h = some r0) : J mX5_isFull true 0 0 0 xKn (xen 0 [xR l0]) [] h (xEq (some r0) h) := by
  unfold f_Rows_isFull at hf
  refine J_cong (ls2 := [(0, xR l0)]) (st2 := []) rfl rfl ?_
  refine J_aload_n 0 dX5_isFull_0 rfl rfl ?_
  refine J_getI (j := 2) xcf5 dX5_isFull_1 (xK_rg kl0) kl0 (Or.inl xq181) (by decide) (by decide) ?_
  refine J_aload_n 0 dX5_isFull_4 rfl rfl ?_
  refine J_getRl (j := 1) xcf5 dX5_isFull_5 kl0 (Or.inl xq180) (by decide) (by decide) (rfRows_1 kl0) ?_
  refine J_alen dX5_isFull_8 (xK_r1 (kRows_1 kl0)) (Or.inl (kRows_1 kl0)) (xNok (l0 + 2)) rfl ?_
  refine J_ic_lt (tgt := 16) dX5_isFull_9 (by decide) (fun hc => ?_) (fun hc => ?_)
  · have hf := xip hc hf
    refine J_iconst dX5_isFull_16 (by decide) ?_
    exact J_iretz dX5_isFull_17 rfl (by decide) (xq_p hf)
  · have hf := xin' hc hf
    refine J_iconst dX5_isFull_12 (by decide) ?_
    refine J_goto (tgt := 17) dX5_isFull_13 (by decide) ?_
    exact J_iretz dX5_isFull_17 rfl (by decide) (xq_p hf)
theorem dX5_insert_0 : decode cX5_insert 0 = .ok (.iload_n 1, 1) := by decide +kernel
theorem dX5_insert_1 : decode cX5_insert 1 = .ok (.ifCond .lt 18, 3) := by decide +kernel
theorem dX5_insert_4 : decode cX5_insert 4 = .ok (.iload_n 1, 1) := by decide +kernel
theorem dX5_insert_5 : decode cX5_insert 5 = .ok (.aload_n 0, 1) := by decide +kernel
theorem dX5_insert_6 : decode cX5_insert 6 = .ok (.getfield 24, 3) := by decide +kernel
theorem dX5_insert_9 : decode cX5_insert 9 = .ok (.if_icmp .gt 10, 3) := by decide +kernel
theorem dX5_insert_12 : decode cX5_insert 12 = .ok (.aload_n 0, 1) := by decide +kernel
theorem dX5_insert_13 : decode cX5_insert 13 = .ok (.invokevirtual 48, 3) := by decide +kernel
theorem dX5_insert_16 : decode cX5_insert 16 = .ok (.ifCond .eq 4, 3) := by decide +kernel
theorem dX5_insert_19 : decode cX5_insert 19 = .ok (.return_, 1) := by decide +kernel
theorem dX5_insert_20 : decode cX5_insert 20 = .ok (.aload_n 0, 1) := by decide +kernel
theorem dX5_insert_21 : decode cX5_insert 21 = .ok (.getfield 15, 3) := by decide +kernel
theorem dX5_insert_24 : decode cX5_insert 24 = .ok (.iload_n 1, 1) := by decide +kernel
theorem dX5_insert_25 : decode cX5_insert 25 = .ok (.bipush 12, 2) := by decide +kernel
theorem dX5_insert_27 : decode cX5_insert 27 = .ok (.imul, 1) := by decide +kernel
theorem dX5_insert_28 : decode cX5_insert 28 = .ok (.aload_n 0, 1) := by decide +kernel
theorem dX5_insert_29 : decode cX5_insert 29 = .ok (.getfield 15, 3) := by decide +kernel
theorem dX5_insert_32 : decode cX5_insert 32 = .ok (.iload_n 1, 1) := by decide +kernel
theorem dX5_insert_33 : decode cX5_insert 33 = .ok (.iconst 1, 1) := by decide +kernel
theorem dX5_insert_34 : decode cX5_insert 34 = .ok (.iadd, 1) := by decide +kernel
theorem dX5_insert_35 : decode cX5_insert 35 = .ok (.bipush 12, 2) := by decide +kernel
theorem dX5_insert_37 : decode cX5_insert 37 = .ok (.imul, 1) := by decide +kernel
theorem dX5_insert_38 : decode cX5_insert 38 = .ok (.aload_n 0, 1) := by decide +kernel
theorem dX5_insert_39 : decode cX5_insert 39 = .ok (.getfield 24, 3) := by decide +kernel
theorem dX5_insert_42 : decode cX5_insert 42 = .ok (.iload_n 1, 1) := by decide +kernel
theorem dX5_insert_43 : decode cX5_insert 43 = .ok (.isub, 1) := by decide +kernel
theorem dX5_insert_44 : decode cX5_insert 44 = .ok (.bipush 12, 2) := by decide +kernel
theorem dX5_insert_46 : decode cX5_insert 46 = .ok (.imul, 1) := by decide +kernel
theorem dX5_insert_47 : decode cX5_insert 47 = .ok (.invokestatic 52, 3) := by decide +kernel
theorem dX5_insert_50 : decode cX5_insert 50 = .ok (.aload_n 0, 1) := by decide +kernel
theorem dX5_insert_51 : decode cX5_insert 51 = .ok (.getfield 21, 3) := by decide +kernel
theorem dX5_insert_54 : decode cX5_insert 54 = .ok (.iload_n 1, 1) := by decide +kernel
theorem dX5_insert_55 : decode cX5_insert 55 = .ok (.aload_n 0, 1) := by decide +kernel
theorem dX5_insert_56 : decode cX5_insert 56 = .ok (.getfield 21, 3) := by decide +kernel
theorem dX5_insert_59 : decode cX5_insert 59 = .ok (.iload_n 1, 1) := by decide +kernel
theorem dX5_insert_60 : decode cX5_insert 60 = .ok (.iconst 1, 1) := by decide +kernel
theorem dX5_insert_61 : decode cX5_insert 61 = .ok (.iadd, 1) := by decide +kernel
theorem dX5_insert_62 : decode cX5_insert 62 = .ok (.aload_n 0, 1) := by decide +kernel
theorem dX5_insert_63 : decode cX5_insert 63 = .ok (.getfield 24, 3) := by decide +kernel
theorem dX5_insert_66 : decode cX5_insert 66 = .ok (.iload_n 1, 1) := by decide +kernel
theorem dX5_insert_67 : decode cX5_insert 67 = .ok (.isub, 1) := by decide +kernel
theorem dX5_insert_68 : decode cX5_insert 68 = .ok (.invokestatic 52, 3) := by decide +kernel
theorem dX5_insert_71 : decode cX5_insert 71 = .ok (.aload_n 2, 1) := by decide +kernel
theorem dX5_insert_72 : decode cX5_insert 72 = .ok (.getfield 58, 3) := by decide +kernel
theorem dX5_insert_75 : decode cX5_insert 75 = .ok (.iconst 0, 1) := by decide +kernel
theorem dX5_insert_76 : decode cX5_insert 76 = .ok (.aload_n 0, 1) := by decide +kernel
theorem dX5_insert_77 : decode cX5_insert 77 = .ok (.getfield 15, 3) := by decide +kernel
theorem dX5_insert_80 : decode cX5_insert 80 = .ok (.iload_n 1, 1) := by decide +kernel
theorem dX5_insert_81 : decode cX5_insert 81 = .ok (.bipush 12, 2) := by decide +kernel
theorem dX5_insert_83 : decode cX5_insert 83 = .ok (.imul, 1) := by decide +kernel
theorem dX5_insert_84 : decode cX5_insert 84 = .ok (.bipush 12, 2) := by decide +kernel
theorem dX5_insert_86 : decode cX5_insert 86 = .ok (.invokestatic 52, 3) := by decide +kernel
theorem dX5_insert_89 : decode cX5_insert 89 = .ok (.aload_n 0, 1) := by decide +kernel
theorem dX5_insert_90 : decode cX5_insert 90 = .ok (.getfield 21, 3) := by decide +kernel
theorem dX5_insert_93 : decode cX5_insert 93 = .ok (.iload_n 1, 1) := by decide +kernel
theorem dX5_insert_94 : decode cX5_insert 94 = .ok (.aload_n 2, 1) := by decide +kernel
theorem dX5_insert_95 : decode cX5_insert 95 = .ok (.getfield 59, 3) := by decide +kernel
theorem dX5_insert_98 : decode cX5_insert 98 = .ok (.iastore, 1) := by decide +kernel
theorem dX5_insert_99 : decode cX5_insert 99 = .ok (.aload_n 0, 1) := by decide +kernel
theorem dX5_insert_100 : decode cX5_insert 100 = .ok (.dup, 1) := by decide +kernel
theorem dX5_insert_101 : decode cX5_insert 101 = .ok (.getfield 24, 3) := by decide +kernel
theorem dX5_insert_104 : decode cX5_insert 104 = .ok (.iconst 1, 1) := by decide +kernel
theorem dX5_insert_105 : decode cX5_insert 105 = .ok (.iadd, 1) := by decide +kernel
theorem dX5_insert_106 : decode cX5_insert 106 = .ok (.putfield 24, 3) := by decide +kernel
theorem dX5_insert_109 : decode cX5_insert 109 = .ok (.return_, 1) := by decide +kernel
theorem jm_Rows_insert {l0 : Int} {l1 : Int} {l2 : Int} {h : xH} {h0 : xH} (kl0 : xK l0 = 3 + 5) (kl2 : xK l2 = 3 + 4) (hf : f_Rows_insert l0 l1 l2 h = some h0) : J mX5_insert true 0 0 0 xKn (xen 0 [xR l0, xI l1, xR l2]) [] h (xEq none h0) := by
  unfold f_Rows_insert at hf
  refine J_cong (ls2 := [(0, xR l0), (1, xI l1), (2, xR l2)]) (st2 := []) rfl rfl ?_
  refine J_iload_n 1 dX5_insert_0 rfl rfl ?_
  refine J_if_lt (tgt := 19) dX5_insert_1 (by decide) (fun hc => ?_) (fun hc => ?_)
  · have hf := xip hc hf
    exact J_rt dX5_insert_19 rfl (xq_v hf)
  · have hf := xin' hc hf
    refine J_iload_n 1 dX5_insert_4 rfl rfl ?_
    refine J_aload_n 0 dX5_insert_5 rfl rfl ?_
    refine J_getI (j := 2) xcf5 dX5_insert_6 (xK_rg kl0) kl0 (Or.inl xq181) (by decide) (by decide) ?_
    refine J_ic_gt (tgt := 19) dX5_insert_9 (by decide) (fun hc => ?_) (fun hc => ?_)
    · have hf := xip hc hf
      exact J_rt dX5_insert_19 rfl (xq_v hf)
    · have hf := xin' hc hf
      refine J_aload_n 0 dX5_insert_12 rfl rfl ?_
      obtain ⟨r1, hq, hf⟩ := xc1_e hf
      refine J_cVi (Mc := mX5_isFull) [] dX5_insert_13 (fc_Rows_isFull.fit ⟨xbl rfl, xbl rfl⟩) rfl ⟨Or.inl xq555, xq546, xq11⟩ kl0 (ci := 5) rfl rfl (xbl rfl) (xbl rfl) (jm_Rows_isFull kl0 hq) ?_
      refine J_if_eq (tgt := 20) dX5_insert_16 (by decide) (fun hc => ?_) (fun hc => ?_)
      · have hf := xip hc hf
        refine J_aload_n 0 dX5_insert_20 rfl rfl ?_
        refine J_getRl (j := 0) xcf5 dX5_insert_21 kl0 (Or.inl xq179) (by decide) (by decide) (rfRows_0 kl0) ?_
        refine J_iload_n 1 dX5_insert_24 rfl rfl ?_
        refine J_bip dX5_insert_25 (by decide) ?_
        refine J_imul dX5_insert_27 ?_
        refine J_aload_n 0 dX5_insert_28 rfl rfl ?_
        refine J_getRl (j := 0) xcf5 dX5_insert_29 kl0 (Or.inl xq179) (by decide) (by decide) (rfRows_0 kl0) ?_
        refine J_iload_n 1 dX5_insert_32 rfl rfl ?_
        refine J_iconst dX5_insert_33 (by decide) ?_
        refine J_iadd dX5_insert_34 ?_
        refine J_bip dX5_insert_35 (by decide) ?_
        refine J_imul dX5_insert_37 ?_
        refine J_aload_n 0 dX5_insert_38 rfl rfl ?_
        refine J_getI (j := 2) xcf5 dX5_insert_39 (xK_rg kl0) kl0 (Or.inl xq181) (by decide) (by decide) ?_
        refine J_iload_n 1 dX5_insert_42 rfl rfl ?_
        refine J_isub dX5_insert_43 ?_
        refine J_bip dX5_insert_44 (by decide) ?_
        refine J_imul dX5_insert_46 ?_
        obtain ⟨hg, hf⟩ := xgc_e hf
        obtain ⟨h2, eh2, hf⟩ := xlet_e hf
        refine J_copy dX5_insert_47 ⟨xq556, xq550, xq549, xq139⟩ (xK_r1 (kRows_0 kl0)) (xK_r1 (kRows_0 kl0)) (kRows_0 kl0) (kRows_0 kl0) hg rfl rfl eh2 (xbl rfl) (xbl rfl) ?_
        refine J_aload_n 0 dX5_insert_50 rfl rfl ?_
        refine J_getRl (j := 1) xcf5 dX5_insert_51 kl0 (Or.inl xq180) (by decide) (by decide) (rfRows_1 kl0) ?_
        refine J_iload_n 1 dX5_insert_54 rfl rfl ?_
        refine J_aload_n 0 dX5_insert_55 rfl rfl ?_
        refine J_getRl (j := 1) xcf5 dX5_insert_56 kl0 (Or.inl xq180) (by decide) (by decide) (rfRows_1 kl0) ?_
        refine J_iload_n 1 dX5_insert_59 rfl rfl ?_
        refine J_iconst dX5_insert_60 (by decide) ?_
        refine J_iadd dX5_insert_61 ?_
        refine J_aload_n 0 dX5_insert_62 rfl rfl ?_
        refine J_getI (j := 2) xcf5 dX5_insert_63 (xK_rg kl0) kl0 (Or.inl xq181) (by decide) (by decide) ?_
        refine J_iload_n 1 dX5_insert_66 rfl rfl ?_
        refine J_isub dX5_insert_67 ?_
        obtain ⟨hg, hf⟩ := xgc_e hf
        obtain ⟨h3, eh3, hf⟩ := xlet_e hf
        refine J_copy dX5_insert_68 ⟨xq556, xq550, xq549, xq139⟩ (xK_r1 (kRows_1 kl0)) (xK_r1 (kRows_1 kl0)) (kRows_1 kl0) (kRows_1 kl0) hg rfl rfl eh3 (xbl rfl) (xbl rfl) ?_
        refine J_aload_n 2 dX5_insert_71 rfl rfl ?_
        refine J_getRl (j := 0) xcf4 dX5_insert_72 kl2 (Or.inr ⟨_, xq246⟩) (by decide) (by decide) (rfRow_0 kl2) ?_
        refine J_iconst dX5_insert_75 (by decide) ?_
        refine J_aload_n 0 dX5_insert_76 rfl rfl ?_
        refine J_getRl (j := 0) xcf5 dX5_insert_77 kl0 (Or.inl xq179) (by decide) (by decide) (rfRows_0 kl0) ?_
        refine J_iload_n 1 dX5_insert_80 rfl rfl ?_
        refine J_bip dX5_insert_81 (by decide) ?_
        refine J_imul dX5_insert_83 ?_
        refine J_bip dX5_insert_84 (by decide) ?_
        obtain ⟨hg, hf⟩ := xgc_e hf
        obtain ⟨h4, eh4, hf⟩ := xlet_e hf
        refine J_copy dX5_insert_86 ⟨xq556, xq550, xq549, xq139⟩ (xK_r1 (kRow_0 kl2)) (xK_r1 (kRows_0 kl0)) (kRow_0 kl2) (kRows_0 kl0) hg (nRow_0 kl2) rfl eh4 (xbl rfl) (xbl rfl) ?_
        refine J_aload_n 0 dX5_insert_89 rfl rfl ?_
        refine J_getRl (j := 1) xcf5 dX5_insert_90 kl0 (Or.inl xq180) (by decide) (by decide) (rfRows_1 kl0) ?_
        refine J_iload_n 1 dX5_insert_93 rfl rfl ?_
        refine J_aload_n 2 dX5_insert_94 rfl rfl ?_
        refine J_getI (j := 1) xcf4 dX5_insert_95 (xK_rg kl2) kl2 (Or.inr ⟨_, xq250⟩) (by decide) (by decide) ?_
        obtain ⟨hg, hf⟩ := xgd_e hf
        obtain ⟨h5, eh5, hf⟩ := xlet_e hf
        refine J_iast dX5_insert_98 (xK_r1 (kRows_1 kl0)) (kRows_1 kl0) hg rfl eh5 ?_
        refine J_aload_n 0 dX5_insert_99 rfl rfl ?_
        refine J_dup dX5_insert_100 rfl ?_
        refine J_getI (j := 2) xcf5 dX5_insert_101 (xK_rg kl0) kl0 (Or.inl xq181) (by decide) (by decide) ?_
        refine J_iconst dX5_insert_104 (by decide) ?_
        refine J_iadd dX5_insert_105 ?_
        obtain ⟨h6, eh6, hf⟩ := xlet_e hf
        refine J_putI (j := 2) xcf5 dX5_insert_106 (xK_rg kl0) kl0 (Or.inl xq181) (by decide) (by decide) eh6 ?_
        exact J_rt dX5_insert_109 rfl (xq_v hf)
      · have hf := xin' hc hf
        exact J_rt dX5_insert_19 rfl (xq_v hf)
theorem dX1_grow_0 : decode cX1_grow 0 = .ok (.aload_n 0, 1) := by decide +kernel
theorem dX1_grow_1 : decode cX1_grow 1 = .ok (.aload_n 1, 1) := by decide +kernel
theorem dX1_grow_2 : decode cX1_grow 2 = .ok (.invokevirtual 36, 3) := by decide +kernel
theorem dX1_grow_5 : decode cX1_grow 5 = .ok (.istore_n 3, 1) := by decide +kernel
theorem dX1_grow_6 : decode cX1_grow 6 = .ok (.iload_n 3, 1) := by decide +kernel
theorem dX1_grow_7 : decode cX1_grow 7 = .ok (.ifCond .lt 38, 3) := by decide +kernel
theorem dX1_grow_10 : decode cX1_grow 10 = .ok (.iload_n 3, 1) := by decide +kernel
theorem dX1_grow_11 : decode cX1_grow 11 = .ok (.aload_n 0, 1) := by decide +kernel
theorem dX1_grow_12 : decode cX1_grow 12 = .ok (.getfield 20, 3) := by decide +kernel
theorem dX1_grow_15 : decode cX1_grow 15 = .ok (.arraylength, 1) := by decide +kernel
theorem dX1_grow_16 : decode cX1_grow 16 = .ok (.if_icmp .ge 29, 3) := by decide +kernel
theorem dX1_grow_19 : decode cX1_grow 19 = .ok (.aload_n 0, 1) := by decide +kernel
theorem dX1_grow_20 : decode cX1_grow 20 = .ok (.getfield 20, 3) := by decide +kernel
theorem dX1_grow_23 : decode cX1_grow 23 = .ok (.iload_n 3, 1) := by decide +kernel
theorem dX1_grow_24 : decode cX1_grow 24 = .ok (.aload_n 0, 1) := by decide +kernel
theorem dX1_grow_25 : decode cX1_grow 25 = .ok (.getfield 20, 3) := by decide +kernel
theorem dX1_grow_28 : decode cX1_grow 28 = .ok (.iload_n 3, 1) := by decide +kernel
theorem dX1_grow_29 : decode cX1_grow 29 = .ok (.iaload, 1) := by decide +kernel
theorem dX1_grow_30 : decode cX1_grow 30 = .ok (.iload_n 2, 1) := by decide +kernel
theorem dX1_grow_31 : decode cX1_grow 31 = .ok (.iadd, 1) := by decide +kernel
theorem dX1_grow_32 : decode cX1_grow 32 = .ok (.ldc 39, 2) := by decide +kernel
theorem dX1_grow_34 : decode cX1_grow 34 = .ok (.invokestatic 40, 3) := by decide +kernel
theorem dX1_grow_37 : decode cX1_grow 37 = .ok (.iastore, 1) := by decide +kernel
theorem dX1_grow_38 : decode cX1_grow 38 = .ok (.aload_n 0, 1) := by decide +kernel
theorem dX1_grow_39 : decode cX1_grow 39 = .ok (.getfield 20, 3) := by decide +kernel
theorem dX1_grow_42 : decode cX1_grow 42 = .ok (.iload_n 3, 1) := by decide +kernel
theorem dX1_grow_43 : decode cX1_grow 43 = .ok (.iaload, 1) := by decide +kernel
theorem dX1_grow_44 : decode cX1_grow 44 = .ok (.ireturn, 1) := by decide +kernel
theorem dX1_grow_45 : decode cX1_grow 45 = .ok (.aload_n 0, 1) := by decide +kernel
theorem dX1_grow_46 : decode cX1_grow 46 = .ok (.aload_n 1, 1) := by decide +kernel
theorem dX1_grow_47 : decode cX1_grow 47 = .ok (.invokevirtual 32, 3) := by decide +kernel
theorem dX1_grow_50 : decode cX1_grow 50 = .ok (.istore 4, 2) := by decide +kernel
theorem dX1_grow_52 : decode cX1_grow 52 = .ok (.aload_n 0, 1) := by decide +kernel
theorem dX1_grow_53 : decode cX1_grow 53 = .ok (.getfield 14, 3) := by decide +kernel
theorem dX1_grow_56 : decode cX1_grow 56 = .ok (.invokevirtual 46, 3) := by decide +kernel
theorem dX1_grow_59 : decode cX1_grow 59 = .ok (.ifCond .ne 30, 3) := by decide +kernel
theorem dX1_grow_62 : decode cX1_grow 62 = .ok (.iload 4, 2) := by decide +kernel
theorem dX1_grow_64 : decode cX1_grow 64 = .ok (.ifCond .lt 25, 3) := by decide +kernel
theorem dX1_grow_67 : decode cX1_grow 67 = .ok (.iload 4, 2) := by decide +kernel
theorem dX1_grow_69 : decode cX1_grow 69 = .ok (.aload_n 0, 1) := by decide +kernel
theorem dX1_grow_70 : decode cX1_grow 70 = .ok (.getfield 14, 3) := by decide +kernel
theorem dX1_grow_73 : decode cX1_grow 73 = .ok (.getfield 24, 3) := by decide +kernel
theorem dX1_grow_76 : decode cX1_grow 76 = .ok (.if_icmp .gt 13, 3) := by decide +kernel
theorem dX1_grow_79 : decode cX1_grow 79 = .ok (.iload 4, 2) := by decide +kernel
theorem dX1_grow_81 : decode cX1_grow 81 = .ok (.aload_n 0, 1) := by decide +kernel
theorem dX1_grow_82 : decode cX1_grow 82 = .ok (.getfield 20, 3) := by decide +kernel
theorem dX1_grow_85 : decode cX1_grow 85 = .ok (.arraylength, 1) := by decide +kernel
theorem dX1_grow_86 : decode cX1_grow 86 = .ok (.if_icmp .lt 6, 3) := by decide +kernel
theorem dX1_grow_89 : decode cX1_grow 89 = .ok (.bipush (-4), 2) := by decide +kernel
theorem dX1_grow_91 : decode cX1_grow 91 = .ok (.ireturn, 1) := by decide +kernel
theorem dX1_grow_92 : decode cX1_grow 92 = .ok (.aload_n 0, 1) := by decide +kernel
theorem dX1_grow_93 : decode cX1_grow 93 = .ok (.getfield 20, 3) := by decide +kernel
theorem dX1_grow_96 : decode cX1_grow 96 = .ok (.iload 4, 2) := by decide +kernel
theorem dX1_grow_98 : decode cX1_grow 98 = .ok (.aload_n 0, 1) := by decide +kernel
theorem dX1_grow_99 : decode cX1_grow 99 = .ok (.getfield 20, 3) := by decide +kernel
theorem dX1_grow_102 : decode cX1_grow 102 = .ok (.iload 4, 2) := by decide +kernel
theorem dX1_grow_104 : decode cX1_grow 104 = .ok (.iconst 1, 1) := by decide +kernel
theorem dX1_grow_105 : decode cX1_grow 105 = .ok (.iadd, 1) := by decide +kernel
theorem dX1_grow_106 : decode cX1_grow 106 = .ok (.aload_n 0, 1) := by decide +kernel
theorem dX1_grow_107 : decode cX1_grow 107 = .ok (.getfield 14, 3) := by decide +kernel
theorem dX1_grow_110 : decode cX1_grow 110 = .ok (.getfield 24, 3) := by decide +kernel
theorem dX1_grow_113 : decode cX1_grow 113 = .ok (.iload 4, 2) := by decide +kernel
theorem dX1_grow_115 : decode cX1_grow 115 = .ok (.isub, 1) := by decide +kernel
theorem dX1_grow_116 : decode cX1_grow 116 = .ok (.invokestatic 50, 3) := by decide +kernel
theorem dX1_grow_119 : decode cX1_grow 119 = .ok (.aload_n 0, 1) := by decide +kernel
theorem dX1_grow_120 : decode cX1_grow 120 = .ok (.getfield 20, 3) := by decide +kernel
theorem dX1_grow_123 : decode cX1_grow 123 = .ok (.iload 4, 2) := by decide +kernel
theorem dX1_grow_125 : decode cX1_grow 125 = .ok (.iload_n 2, 1) := by decide +kernel
theorem dX1_grow_126 : decode cX1_grow 126 = .ok (.iastore, 1) := by decide +kernel
theorem dX1_grow_127 : decode cX1_grow 127 = .ok (.aload_n 0, 1) := by decide +kernel
theorem dX1_grow_128 : decode cX1_grow 128 = .ok (.getfield 14, 3) := by decide +kernel
theorem dX1_grow_131 : decode cX1_grow 131 = .ok (.iload 4, 2) := by decide +kernel
theorem dX1_grow_133 : decode cX1_grow 133 = .ok (.aload_n 1, 1) := by decide +kernel
theorem dX1_grow_134 : decode cX1_grow 134 = .ok (.invokevirtual 56, 3) := by decide +kernel
theorem dX1_grow_137 : decode cX1_grow 137 = .ok (.iload_n 2, 1) := by decide +kernel
theorem dX1_grow_138 : decode cX1_grow 138 = .ok (.ireturn, 1) := by decide +kernel
theorem j_Lex_grow_45 {l1 : Int} {l2 : Int} {h : xH} {r0 : Int} {h0 : xH} (kl1 : xK l1 = 3 + 4) (hf : f_Lex_grow_45 l1 l2 h = some (r0, h0))  : J mX1_grow true 0 0 45 xKn [(0, xR 4), (1, xR l1), (2, xI l2)] [] h (xEq (some r0) h0) := by
  unfold f_Lex_grow_45 at hf
  refine J_aload_n 0 dX1_grow_45 rfl rfl ?_
  refine J_aload_n 1 dX1_grow_46 rfl rfl ?_
  obtain ⟨r1, hq, hf⟩ := xc1_e hf
  refine J_cVi (Mc := mX1_place) [xR l1] dX1_grow_47 (fc_Lex_place.fit ⟨xbl rfl, xbl rfl⟩) rfl ⟨Or.inl xq524, xq526, xq7⟩ kO4 (ci := 1) rfl rfl (xbl rfl) (xbl rfl) (jm_Lex_place kl1 hq) ?_
  refine J_istore (ls' := [(4, xI r1), (0, xR 4), (1, xR l1), (2, xI l2)]) dX1_grow_50 (by decide) rfl rfl ?_
  refine J_aload_n 1 dX1_grow_52 rfl rfl ?_
  refine J_getRl (j := 0) xcf1 dX1_grow_53 kO4 (Or.inl xq194) (by decide) (by decide) rf_4_0 ?_
  obtain ⟨r2, hq, hf⟩ := xc1_e hf
  refine J_cVi (Mc := mX5_isFull) [] dX1_grow_56 (fc_Rows_isFull.fit ⟨xbl rfl, xbl rfl⟩) rfl ⟨Or.inr ⟨_, xq544⟩, xq546, xq11⟩ kO5 (ci := 5) rfl rfl (xbl rfl) (xbl rfl) (jm_Rows_isFull kO5 hq) ?_
  refine J_if_ne (tgt := 89) dX1_grow_59 (by decide) (fun hc => ?_) (fun hc => ?_)
  · have hf := xip hc hf
    refine J_iload 0 dX1_grow_62 rfl ?_
    refine J_if_lt (tgt := 89) dX1_grow_64 (by decide) (fun hc => ?_) (fun hc => ?_)
    · have hf := xip hc hf
      refine J_bip dX1_grow_89 (by decide) ?_
      exact J_ireti dX1_grow_91 rfl (xq_i hf)
    · have hf := xin' hc hf
      refine J_iload 0 dX1_grow_67 rfl ?_
      refine J_aload_n 1 dX1_grow_69 rfl rfl ?_
      refine J_getRl (j := 0) xcf1 dX1_grow_70 kO4 (Or.inl xq194) (by decide) (by decide) rf_4_0 ?_
      refine J_getI (j := 2) xcf5 dX1_grow_73 (xK_rg kO5) kO5 (Or.inr ⟨_, xq183⟩) (by decide) (by decide) ?_
      refine J_ic_gt (tgt := 89) dX1_grow_76 (by decide) (fun hc => ?_) (fun hc => ?_)
      · have hf := xip hc hf
        refine J_bip dX1_grow_89 (by decide) ?_
        exact J_ireti dX1_grow_91 rfl (xq_i hf)
      · have hf := xin' hc hf
        refine J_iload 0 dX1_grow_79 rfl ?_
        refine J_aload_n 1 dX1_grow_81 rfl rfl ?_
        refine J_getRl (j := 1) xcf1 dX1_grow_82 kO4 (Or.inl xq198) (by decide) (by decide) rf_4_1 ?_
        refine J_alen dX1_grow_85 (xK_r1 kO8) (Or.inl kO8) (by decide) nA8 ?_
        refine J_ic_lt (tgt := 92) dX1_grow_86 (by decide) (fun hc => ?_) (fun hc => ?_)
        · have hf := xip hc hf
          refine J_aload_n 1 dX1_grow_92 rfl rfl ?_
          refine J_getRl (j := 1) xcf1 dX1_grow_93 kO4 (Or.inl xq198) (by decide) (by decide) rf_4_1 ?_
          refine J_iload 0 dX1_grow_96 rfl ?_
          refine J_aload_n 1 dX1_grow_98 rfl rfl ?_
          refine J_getRl (j := 1) xcf1 dX1_grow_99 kO4 (Or.inl xq198) (by decide) (by decide) rf_4_1 ?_
          refine J_iload 0 dX1_grow_102 rfl ?_
          refine J_iconst dX1_grow_104 (by decide) ?_
          refine J_iadd dX1_grow_105 ?_
          refine J_aload_n 1 dX1_grow_106 rfl rfl ?_
          refine J_getRl (j := 0) xcf1 dX1_grow_107 kO4 (Or.inl xq194) (by decide) (by decide) rf_4_0 ?_
          refine J_getI (j := 2) xcf5 dX1_grow_110 (xK_rg kO5) kO5 (Or.inr ⟨_, xq183⟩) (by decide) (by decide) ?_
          refine J_iload 0 dX1_grow_113 rfl ?_
          refine J_isub dX1_grow_115 ?_
          obtain ⟨hg, hf⟩ := xgc_e hf
          obtain ⟨h3, eh3, hf⟩ := xlet_e hf
          refine J_copy dX1_grow_116 ⟨xq548, xq550, xq549, xq139⟩ (xK_r1 kO8) (xK_r1 kO8) kO8 kO8 hg nA8 nA8 eh3 (xbl rfl) (xbl rfl) ?_
          refine J_aload_n 1 dX1_grow_119 rfl rfl ?_
          refine J_getRl (j := 1) xcf1 dX1_grow_120 kO4 (Or.inl xq198) (by decide) (by decide) rf_4_1 ?_
          refine J_iload 0 dX1_grow_123 rfl ?_
          refine J_iload_n 3 dX1_grow_125 rfl rfl ?_
          obtain ⟨hg, hf⟩ := xgd_e hf
          obtain ⟨h4, eh4, hf⟩ := xlet_e hf
          refine J_iast dX1_grow_126 (xK_r1 kO8) kO8 hg nA8 eh4 ?_
          refine J_aload_n 1 dX1_grow_127 rfl rfl ?_
          refine J_getRl (j := 0) xcf1 dX1_grow_128 kO4 (Or.inl xq194) (by decide) (by decide) rf_4_0 ?_
          refine J_iload 0 dX1_grow_131 rfl ?_
          refine J_aload_n 2 dX1_grow_133 rfl rfl ?_
          obtain ⟨h5, hq, hf⟩ := xc1_e hf
          refine J_cVv (Mc := mX5_insert) [xI r1, xR l1] dX1_grow_134 (fc_Rows_insert.fit ⟨xbl rfl, xbl rfl⟩) rfl ⟨Or.inr ⟨_, xq551⟩, xq553, xq12⟩ kO5 (ci := 5) rfl rfl (xbl rfl) (xbl rfl) (jm_Rows_insert kO5 kl1 hq) ?_
          refine J_iload_n 3 dX1_grow_137 rfl rfl ?_
          exact J_ireti dX1_grow_138 rfl (xq_i hf)
        · have hf := xin' hc hf
          refine J_bip dX1_grow_89 (by decide) ?_
          exact J_ireti dX1_grow_91 rfl (xq_i hf)
  · have hf := xin' hc hf
    refine J_bip dX1_grow_89 (by decide) ?_
    exact J_ireti dX1_grow_91 rfl (xq_i hf)
theorem jm_Lex_grow {l1 : Int} {l2 : Int} {h : xH} {r0 : Int} {h0 : xH} (kl1 : xK l1 = 3 + 4) (hf : f_Lex_grow l1 l2 h = some (r0, h0)) : J mX1_grow true 0 0 0 xKn (xen 0 [xR 4, xR l1, xI l2]) [] h (xEq (some r0) h0) := by
  unfold f_Lex_grow at hf
  refine J_cong (ls2 := [(0, xR 4), (1, xR l1), (2, xI l2)]) (st2 := []) rfl rfl ?_
  refine J_aload_n 0 dX1_grow_0 rfl rfl ?_
  refine J_aload_n 1 dX1_grow_1 rfl rfl ?_
  obtain ⟨r1, hq, hf⟩ := xc1_e hf
  refine J_cVi (Mc := mX1_numberOf) [xR l1] dX1_grow_2 (fc_Lex_numberOf.fit ⟨xbl rfl, xbl rfl⟩) rfl ⟨Or.inl xq520, xq522, xq6⟩ kO4 (ci := 1) rfl rfl (xbl rfl) (xbl rfl) (jm_Lex_numberOf kl1 hq) ?_
  refine J_istore_n (ls' := [(3, xI r1), (0, xR 4), (1, xR l1), (2, xI l2)]) dX1_grow_5 rfl (by decide) rfl rfl ?_
  refine J_iload_n 0 dX1_grow_6 rfl rfl ?_
  refine J_if_lt (tgt := 45) dX1_grow_7 (by decide) (fun hc => ?_) (fun hc => ?_)
  · have hf := xip hc hf
    refine J_sub [1, 2, 3] rfl ?_
    exact j_Lex_grow_45 kl1 hf
  · have hf := xin' hc hf
    refine J_iload_n 0 dX1_grow_10 rfl rfl ?_
    refine J_aload_n 1 dX1_grow_11 rfl rfl ?_
    refine J_getRl (j := 1) xcf1 dX1_grow_12 kO4 (Or.inl xq198) (by decide) (by decide) rf_4_1 ?_
    refine J_alen dX1_grow_15 (xK_r1 kO8) (Or.inl kO8) (by decide) nA8 ?_
    refine J_ic_ge (tgt := 45) dX1_grow_16 (by decide) (fun hc => ?_) (fun hc => ?_)
    · have hf := xip hc hf
      refine J_aload_n 1 dX1_grow_19 rfl rfl ?_
      refine J_getRl (j := 1) xcf1 dX1_grow_20 kO4 (Or.inl xq198) (by decide) (by decide) rf_4_1 ?_
      refine J_iload_n 0 dX1_grow_23 rfl rfl ?_
      refine J_aload_n 1 dX1_grow_24 rfl rfl ?_
      refine J_getRl (j := 1) xcf1 dX1_grow_25 kO4 (Or.inl xq198) (by decide) (by decide) rf_4_1 ?_
      refine J_iload_n 0 dX1_grow_28 rfl rfl ?_
      obtain ⟨hg, hf⟩ := xgd_e hf
      refine J_iald dX1_grow_29 (xK_r1 kO8) kO8 hg nA8 ?_
      refine J_iload_n 3 dX1_grow_30 rfl rfl ?_
      refine J_iadd dX1_grow_31 ?_
      refine J_ldc (v := 100000) dX1_grow_32 xq540 (by decide) ?_
      refine J_mmin dX1_grow_34 ⟨xq541, xq542, xq129, xq543⟩ (xbl rfl) (xbl rfl) ?_
      obtain ⟨hg, hf⟩ := xgd_e hf
      obtain ⟨h2, eh2, hf⟩ := xlet_e hf
      refine J_iast dX1_grow_37 (xK_r1 kO8) kO8 hg nA8 eh2 ?_
      refine J_aload_n 1 dX1_grow_38 rfl rfl ?_
      refine J_getRl (j := 1) xcf1 dX1_grow_39 kO4 (Or.inl xq198) (by decide) (by decide) rf_4_1 ?_
      refine J_iload_n 0 dX1_grow_42 rfl rfl ?_
      obtain ⟨hg, hf⟩ := xgd_e hf
      refine J_iald dX1_grow_43 (xK_r1 kO8) kO8 hg nA8 ?_
      exact J_ireti dX1_grow_44 rfl (xq_i hf)
    · have hf := xin' hc hf
      refine J_sub [1, 2, 3] rfl ?_
      exact j_Lex_grow_45 kl1 hf
theorem dX11_add_0 : decode cX11_add 0 = .ok (.aload_n 0, 1) := by decide +kernel
theorem dX11_add_1 : decode cX11_add 1 = .ok (.getfield 12, 3) := by decide +kernel
theorem dX11_add_4 : decode cX11_add 4 = .ok (.aload_n 0, 1) := by decide +kernel
theorem dX11_add_5 : decode cX11_add 5 = .ok (.getfield 37, 3) := by decide +kernel
theorem dX11_add_8 : decode cX11_add 8 = .ok (.invokevirtual 113, 3) := by decide +kernel
theorem dX11_add_11 : decode cX11_add 11 = .ok (.istore_n 2, 1) := by decide +kernel
theorem dX11_add_12 : decode cX11_add 12 = .ok (.iload_n 2, 1) := by decide +kernel
theorem dX11_add_13 : decode cX11_add 13 = .ok (.ifCond .eq 14, 3) := by decide +kernel
theorem dX11_add_16 : decode cX11_add 16 = .ok (.iload_n 1, 1) := by decide +kernel
theorem dX11_add_17 : decode cX11_add 17 = .ok (.iconst 1, 1) := by decide +kernel
theorem dX11_add_18 : decode cX11_add 18 = .ok (.if_icmp .lt 9, 3) := by decide +kernel
theorem dX11_add_21 : decode cX11_add 21 = .ok (.iload_n 1, 1) := by decide +kernel
theorem dX11_add_22 : decode cX11_add 22 = .ok (.ldc 117, 2) := by decide +kernel
theorem dX11_add_24 : decode cX11_add 24 = .ok (.if_icmp .le 6, 3) := by decide +kernel
theorem dX11_add_27 : decode cX11_add 27 = .ok (.bipush (-2), 2) := by decide +kernel
theorem dX11_add_29 : decode cX11_add 29 = .ok (.ireturn, 1) := by decide +kernel
theorem dX11_add_30 : decode cX11_add 30 = .ok (.aload_n 0, 1) := by decide +kernel
theorem dX11_add_31 : decode cX11_add 31 = .ok (.getfield 19, 3) := by decide +kernel
theorem dX11_add_34 : decode cX11_add 34 = .ok (.aload_n 0, 1) := by decide +kernel
theorem dX11_add_35 : decode cX11_add 35 = .ok (.getfield 37, 3) := by decide +kernel
theorem dX11_add_38 : decode cX11_add 38 = .ok (.iload_n 1, 1) := by decide +kernel
theorem dX11_add_39 : decode cX11_add 39 = .ok (.invokevirtual 118, 3) := by decide +kernel
theorem dX11_add_42 : decode cX11_add 42 = .ok (.ireturn, 1) := by decide +kernel
theorem jm_WM_add {l1 : Int} {h : xH} {r0 : Int} {h0 : xH}  (hf : f_WM_add l1 h = some (r0, h0)) : J mX11_add true 0 0 0 xKn (xen 0 [xR 1, xI l1]) [] h (xEq (some r0) h0) := by
  unfold f_WM_add at hf
  refine J_cong (ls2 := [(0, xR 1), (1, xI l1)]) (st2 := []) rfl rfl ?_
  refine J_aload_n 0 dX11_add_0 rfl rfl ?_
  refine J_getRl (j := 0) xcf11 dX11_add_1 kO1 (Or.inl xq435) (by decide) (by decide) rf_1_0 ?_
  refine J_aload_n 0 dX11_add_4 rfl rfl ?_
  refine J_getRl (j := 4) xcf11 dX11_add_5 kO1 (Or.inl xq439) (by decide) (by decide) rf_1_4 ?_
  obtain ⟨r1, h2, hq, hf⟩ := xc2_e hf
  refine J_cVi (Mc := mX7_takeRow) [xR 23] dX11_add_8 (fc_Tape_takeRow.fit ⟨xbl rfl, xbl rfl⟩) rfl ⟨Or.inr ⟨_, xq499⟩, xq501, xq1⟩ kO2 (ci := 7) rfl rfl (xbl rfl) (xbl rfl) (jm_Tape_takeRow kO23 hq) ?_
  refine J_istore_n (ls' := [(2, xI r1), (0, xR 1), (1, xI l1)]) dX11_add_11 rfl (by decide) rfl rfl ?_
  refine J_iload_n 0 dX11_add_12 rfl rfl ?_
  refine J_if_eq (tgt := 27) dX11_add_13 (by decide) (fun hc => ?_) (fun hc => ?_)
  · have hf := xip hc hf
    refine J_bip dX11_add_27 (by decide) ?_
    exact J_ireti dX11_add_29 rfl (xq_i hf)
  · have hf := xin' hc hf
    refine J_iload_n 2 dX11_add_16 rfl rfl ?_
    refine J_iconst dX11_add_17 (by decide) ?_
    refine J_ic_lt (tgt := 27) dX11_add_18 (by decide) (fun hc => ?_) (fun hc => ?_)
    · have hf := xip hc hf
      refine J_bip dX11_add_27 (by decide) ?_
      exact J_ireti dX11_add_29 rfl (xq_i hf)
    · have hf := xin' hc hf
      refine J_iload_n 2 dX11_add_21 rfl rfl ?_
      refine J_ldc (v := 100000) dX11_add_22 xq515 (by decide) ?_
      refine J_ic_le (tgt := 30) dX11_add_24 (by decide) (fun hc => ?_) (fun hc => ?_)
      · have hf := xip hc hf
        refine J_bip dX11_add_27 (by decide) ?_
        exact J_ireti dX11_add_29 rfl (xq_i hf)
      · have hf := xin' hc hf
        refine J_aload_n 1 dX11_add_30 rfl rfl ?_
        refine J_getRl (j := 1) xcf11 dX11_add_31 kO1 (Or.inl xq436) (by decide) (by decide) rf_1_1 ?_
        refine J_aload_n 1 dX11_add_34 rfl rfl ?_
        refine J_getRl (j := 4) xcf11 dX11_add_35 kO1 (Or.inl xq439) (by decide) (by decide) rf_1_4 ?_
        refine J_iload_n 2 dX11_add_38 rfl rfl ?_
        obtain ⟨r3, h4, hq, hf⟩ := xc2_e hf
        refine J_cVi (Mc := mX1_grow) [xR 23, xI l1] dX11_add_39 (fc_Lex_grow.fit ⟨xbl rfl, xbl rfl⟩) rfl ⟨Or.inr ⟨_, xq516⟩, xq518, xq5⟩ kO4 (ci := 1) rfl rfl (xbl rfl) (xbl rfl) (jm_Lex_grow kO23 hq) ?_
        exact J_ireti dX11_add_42 rfl (xq_i hf)
theorem dX5_remove_0 : decode cX5_remove 0 = .ok (.iload_n 1, 1) := by decide +kernel
theorem dX5_remove_1 : decode cX5_remove 1 = .ok (.ifCond .lt 23, 3) := by decide +kernel
theorem dX5_remove_4 : decode cX5_remove 4 = .ok (.iload_n 1, 1) := by decide +kernel
theorem dX5_remove_5 : decode cX5_remove 5 = .ok (.aload_n 0, 1) := by decide +kernel
theorem dX5_remove_6 : decode cX5_remove 6 = .ok (.getfield 24, 3) := by decide +kernel
theorem dX5_remove_9 : decode cX5_remove 9 = .ok (.if_icmp .ge 15, 3) := by decide +kernel
theorem dX5_remove_12 : decode cX5_remove 12 = .ok (.aload_n 0, 1) := by decide +kernel
theorem dX5_remove_13 : decode cX5_remove 13 = .ok (.getfield 24, 3) := by decide +kernel
theorem dX5_remove_16 : decode cX5_remove 16 = .ok (.aload_n 0, 1) := by decide +kernel
theorem dX5_remove_17 : decode cX5_remove 17 = .ok (.getfield 21, 3) := by decide +kernel
theorem dX5_remove_20 : decode cX5_remove 20 = .ok (.arraylength, 1) := by decide +kernel
theorem dX5_remove_21 : decode cX5_remove 21 = .ok (.if_icmp .le 4, 3) := by decide +kernel
theorem dX5_remove_24 : decode cX5_remove 24 = .ok (.return_, 1) := by decide +kernel
theorem dX5_remove_25 : decode cX5_remove 25 = .ok (.aload_n 0, 1) := by decide +kernel
theorem dX5_remove_26 : decode cX5_remove 26 = .ok (.getfield 24, 3) := by decide +kernel
theorem dX5_remove_29 : decode cX5_remove 29 = .ok (.iload_n 1, 1) := by decide +kernel
theorem dX5_remove_30 : decode cX5_remove 30 = .ok (.isub, 1) := by decide +kernel
theorem dX5_remove_31 : decode cX5_remove 31 = .ok (.iconst 1, 1) := by decide +kernel
theorem dX5_remove_32 : decode cX5_remove 32 = .ok (.isub, 1) := by decide +kernel
theorem dX5_remove_33 : decode cX5_remove 33 = .ok (.istore_n 2, 1) := by decide +kernel
theorem dX5_remove_34 : decode cX5_remove 34 = .ok (.aload_n 0, 1) := by decide +kernel
theorem dX5_remove_35 : decode cX5_remove 35 = .ok (.getfield 15, 3) := by decide +kernel
theorem dX5_remove_38 : decode cX5_remove 38 = .ok (.iload_n 1, 1) := by decide +kernel
theorem dX5_remove_39 : decode cX5_remove 39 = .ok (.iconst 1, 1) := by decide +kernel
theorem dX5_remove_40 : decode cX5_remove 40 = .ok (.iadd, 1) := by decide +kernel
theorem dX5_remove_41 : decode cX5_remove 41 = .ok (.bipush 12, 2) := by decide +kernel
theorem dX5_remove_43 : decode cX5_remove 43 = .ok (.imul, 1) := by decide +kernel
theorem dX5_remove_44 : decode cX5_remove 44 = .ok (.aload_n 0, 1) := by decide +kernel
theorem dX5_remove_45 : decode cX5_remove 45 = .ok (.getfield 15, 3) := by decide +kernel
theorem dX5_remove_48 : decode cX5_remove 48 = .ok (.iload_n 1, 1) := by decide +kernel
theorem dX5_remove_49 : decode cX5_remove 49 = .ok (.bipush 12, 2) := by decide +kernel
theorem dX5_remove_51 : decode cX5_remove 51 = .ok (.imul, 1) := by decide +kernel
theorem dX5_remove_52 : decode cX5_remove 52 = .ok (.iload_n 2, 1) := by decide +kernel
theorem dX5_remove_53 : decode cX5_remove 53 = .ok (.bipush 12, 2) := by decide +kernel
theorem dX5_remove_55 : decode cX5_remove 55 = .ok (.imul, 1) := by decide +kernel
theorem dX5_remove_56 : decode cX5_remove 56 = .ok (.invokestatic 52, 3) := by decide +kernel
theorem dX5_remove_59 : decode cX5_remove 59 = .ok (.aload_n 0, 1) := by decide +kernel
theorem dX5_remove_60 : decode cX5_remove 60 = .ok (.getfield 21, 3) := by decide +kernel
theorem dX5_remove_63 : decode cX5_remove 63 = .ok (.iload_n 1, 1) := by decide +kernel
theorem dX5_remove_64 : decode cX5_remove 64 = .ok (.iconst 1, 1) := by decide +kernel
theorem dX5_remove_65 : decode cX5_remove 65 = .ok (.iadd, 1) := by decide +kernel
theorem dX5_remove_66 : decode cX5_remove 66 = .ok (.aload_n 0, 1) := by decide +kernel
theorem dX5_remove_67 : decode cX5_remove 67 = .ok (.getfield 21, 3) := by decide +kernel
theorem dX5_remove_70 : decode cX5_remove 70 = .ok (.iload_n 1, 1) := by decide +kernel
theorem dX5_remove_71 : decode cX5_remove 71 = .ok (.iload_n 2, 1) := by decide +kernel
theorem dX5_remove_72 : decode cX5_remove 72 = .ok (.invokestatic 52, 3) := by decide +kernel
theorem dX5_remove_75 : decode cX5_remove 75 = .ok (.aload_n 0, 1) := by decide +kernel
theorem dX5_remove_76 : decode cX5_remove 76 = .ok (.dup, 1) := by decide +kernel
theorem dX5_remove_77 : decode cX5_remove 77 = .ok (.getfield 24, 3) := by decide +kernel
theorem dX5_remove_80 : decode cX5_remove 80 = .ok (.iconst 1, 1) := by decide +kernel
theorem dX5_remove_81 : decode cX5_remove 81 = .ok (.isub, 1) := by decide +kernel
theorem dX5_remove_82 : decode cX5_remove 82 = .ok (.putfield 24, 3) := by decide +kernel
theorem dX5_remove_85 : decode cX5_remove 85 = .ok (.return_, 1) := by decide +kernel
theorem jm_Rows_remove {l0 : Int} {l1 : Int} {h : xH} {h0 : xH} (kl0 : xK l0 = 3 + 5) (hf : f_Rows_remove l0 l1 h = some h0) : J mX5_remove true 0 0 0 xKn (xen 0 [xR l0, xI l1]) [] h (xEq none h0) := by
  unfold f_Rows_remove at hf
  refine J_cong (ls2 := [(0, xR l0), (1, xI l1)]) (st2 := []) rfl rfl ?_
  refine J_iload_n 1 dX5_remove_0 rfl rfl ?_
  refine J_if_lt (tgt := 24) dX5_remove_1 (by decide) (fun hc => ?_) (fun hc => ?_)
  · have hf := xip hc hf
    exact J_rt dX5_remove_24 rfl (xq_v hf)
  · have hf := xin' hc hf
    refine J_iload_n 1 dX5_remove_4 rfl rfl ?_
    refine J_aload_n 0 dX5_remove_5 rfl rfl ?_
    refine J_getI (j := 2) xcf5 dX5_remove_6 (xK_rg kl0) kl0 (Or.inl xq181) (by decide) (by decide) ?_
    refine J_ic_ge (tgt := 24) dX5_remove_9 (by decide) (fun hc => ?_) (fun hc => ?_)
    · have hf := xip hc hf
      refine J_aload_n 0 dX5_remove_12 rfl rfl ?_
      refine J_getI (j := 2) xcf5 dX5_remove_13 (xK_rg kl0) kl0 (Or.inl xq181) (by decide) (by decide) ?_
      refine J_aload_n 0 dX5_remove_16 rfl rfl ?_
      refine J_getRl (j := 1) xcf5 dX5_remove_17 kl0 (Or.inl xq180) (by decide) (by decide) (rfRows_1 kl0) ?_
      refine J_alen dX5_remove_20 (xK_r1 (kRows_1 kl0)) (Or.inl (kRows_1 kl0)) (xNok (l0 + 2)) rfl ?_
      refine J_ic_le (tgt := 25) dX5_remove_21 (by decide) (fun hc => ?_) (fun hc => ?_)
      · have hf := xip hc hf
        exact J_rt dX5_remove_24 rfl (xq_v hf)
      · have hf := xin' hc hf
        refine J_aload_n 0 dX5_remove_25 rfl rfl ?_
        refine J_getI (j := 2) xcf5 dX5_remove_26 (xK_rg kl0) kl0 (Or.inl xq181) (by decide) (by decide) ?_
        refine J_iload_n 1 dX5_remove_29 rfl rfl ?_
        refine J_isub dX5_remove_30 ?_
        refine J_iconst dX5_remove_31 (by decide) ?_
        refine J_isub dX5_remove_32 ?_
        obtain ⟨x1, ex1, hf⟩ := xlet_e hf
        refine J_istore_n (ls' := [(2, xI x1), (0, xR l0), (1, xI l1)]) dX5_remove_33 rfl (by decide) ex1 rfl ?_
        refine J_aload_n 1 dX5_remove_34 rfl rfl ?_
        refine J_getRl (j := 0) xcf5 dX5_remove_35 kl0 (Or.inl xq179) (by decide) (by decide) (rfRows_0 kl0) ?_
        refine J_iload_n 2 dX5_remove_38 rfl rfl ?_
        refine J_iconst dX5_remove_39 (by decide) ?_
        refine J_iadd dX5_remove_40 ?_
        refine J_bip dX5_remove_41 (by decide) ?_
        refine J_imul dX5_remove_43 ?_
        refine J_aload_n 1 dX5_remove_44 rfl rfl ?_
        refine J_getRl (j := 0) xcf5 dX5_remove_45 kl0 (Or.inl xq179) (by decide) (by decide) (rfRows_0 kl0) ?_
        refine J_iload_n 2 dX5_remove_48 rfl rfl ?_
        refine J_bip dX5_remove_49 (by decide) ?_
        refine J_imul dX5_remove_51 ?_
        refine J_iload_n 0 dX5_remove_52 rfl rfl ?_
        refine J_bip dX5_remove_53 (by decide) ?_
        refine J_imul dX5_remove_55 ?_
        obtain ⟨hg, hf⟩ := xgc_e hf
        obtain ⟨h2, eh2, hf⟩ := xlet_e hf
        refine J_copy dX5_remove_56 ⟨xq556, xq550, xq549, xq139⟩ (xK_r1 (kRows_0 kl0)) (xK_r1 (kRows_0 kl0)) (kRows_0 kl0) (kRows_0 kl0) hg rfl rfl eh2 (xbl rfl) (xbl rfl) ?_
        refine J_aload_n 1 dX5_remove_59 rfl rfl ?_
        refine J_getRl (j := 1) xcf5 dX5_remove_60 kl0 (Or.inl xq180) (by decide) (by decide) (rfRows_1 kl0) ?_
        refine J_iload_n 2 dX5_remove_63 rfl rfl ?_
        refine J_iconst dX5_remove_64 (by decide) ?_
        refine J_iadd dX5_remove_65 ?_
        refine J_aload_n 1 dX5_remove_66 rfl rfl ?_
        refine J_getRl (j := 1) xcf5 dX5_remove_67 kl0 (Or.inl xq180) (by decide) (by decide) (rfRows_1 kl0) ?_
        refine J_iload_n 2 dX5_remove_70 rfl rfl ?_
        refine J_iload_n 0 dX5_remove_71 rfl rfl ?_
        obtain ⟨hg, hf⟩ := xgc_e hf
        obtain ⟨h3, eh3, hf⟩ := xlet_e hf
        refine J_copy dX5_remove_72 ⟨xq556, xq550, xq549, xq139⟩ (xK_r1 (kRows_1 kl0)) (xK_r1 (kRows_1 kl0)) (kRows_1 kl0) (kRows_1 kl0) hg rfl rfl eh3 (xbl rfl) (xbl rfl) ?_
        refine J_aload_n 1 dX5_remove_75 rfl rfl ?_
        refine J_dup dX5_remove_76 rfl ?_
        refine J_getI (j := 2) xcf5 dX5_remove_77 (xK_rg kl0) kl0 (Or.inl xq181) (by decide) (by decide) ?_
        refine J_iconst dX5_remove_80 (by decide) ?_
        refine J_isub dX5_remove_81 ?_
        obtain ⟨h4, eh4, hf⟩ := xlet_e hf
        refine J_putI (j := 2) xcf5 dX5_remove_82 (xK_rg kl0) kl0 (Or.inl xq181) (by decide) (by decide) eh4 ?_
        exact J_rt dX5_remove_85 rfl (xq_v hf)
    · have hf := xin' hc hf
      exact J_rt dX5_remove_24 rfl (xq_v hf)
theorem dX1_remove_0 : decode cX1_remove 0 = .ok (.aload_n 0, 1) := by decide +kernel
theorem dX1_remove_1 : decode cX1_remove 1 = .ok (.aload_n 1, 1) := by decide +kernel
theorem dX1_remove_2 : decode cX1_remove 2 = .ok (.invokevirtual 36, 3) := by decide +kernel
theorem dX1_remove_5 : decode cX1_remove 5 = .ok (.istore_n 2, 1) := by decide +kernel
theorem dX1_remove_6 : decode cX1_remove 6 = .ok (.iload_n 2, 1) := by decide +kernel
theorem dX1_remove_7 : decode cX1_remove 7 = .ok (.ifCond .lt 12, 3) := by decide +kernel
theorem dX1_remove_10 : decode cX1_remove 10 = .ok (.iload_n 2, 1) := by decide +kernel
theorem dX1_remove_11 : decode cX1_remove 11 = .ok (.aload_n 0, 1) := by decide +kernel
theorem dX1_remove_12 : decode cX1_remove 12 = .ok (.getfield 20, 3) := by decide +kernel
theorem dX1_remove_15 : decode cX1_remove 15 = .ok (.arraylength, 1) := by decide +kernel
theorem dX1_remove_16 : decode cX1_remove 16 = .ok (.if_icmp .lt 5, 3) := by decide +kernel
theorem dX1_remove_19 : decode cX1_remove 19 = .ok (.iconst 0, 1) := by decide +kernel
theorem dX1_remove_20 : decode cX1_remove 20 = .ok (.ireturn, 1) := by decide +kernel
theorem dX1_remove_21 : decode cX1_remove 21 = .ok (.aload_n 0, 1) := by decide +kernel
theorem dX1_remove_22 : decode cX1_remove 22 = .ok (.getfield 20, 3) := by decide +kernel
theorem dX1_remove_25 : decode cX1_remove 25 = .ok (.iload_n 2, 1) := by decide +kernel
theorem dX1_remove_26 : decode cX1_remove 26 = .ok (.iaload, 1) := by decide +kernel
theorem dX1_remove_27 : decode cX1_remove 27 = .ok (.istore_n 3, 1) := by decide +kernel
theorem dX1_remove_28 : decode cX1_remove 28 = .ok (.aload_n 0, 1) := by decide +kernel
theorem dX1_remove_29 : decode cX1_remove 29 = .ok (.getfield 20, 3) := by decide +kernel
theorem dX1_remove_32 : decode cX1_remove 32 = .ok (.iload_n 2, 1) := by decide +kernel
theorem dX1_remove_33 : decode cX1_remove 33 = .ok (.iconst 1, 1) := by decide +kernel
theorem dX1_remove_34 : decode cX1_remove 34 = .ok (.iadd, 1) := by decide +kernel
theorem dX1_remove_35 : decode cX1_remove 35 = .ok (.aload_n 0, 1) := by decide +kernel
theorem dX1_remove_36 : decode cX1_remove 36 = .ok (.getfield 20, 3) := by decide +kernel
theorem dX1_remove_39 : decode cX1_remove 39 = .ok (.iload_n 2, 1) := by decide +kernel
theorem dX1_remove_40 : decode cX1_remove 40 = .ok (.aload_n 0, 1) := by decide +kernel
theorem dX1_remove_41 : decode cX1_remove 41 = .ok (.getfield 14, 3) := by decide +kernel
theorem dX1_remove_44 : decode cX1_remove 44 = .ok (.getfield 24, 3) := by decide +kernel
theorem dX1_remove_47 : decode cX1_remove 47 = .ok (.iload_n 2, 1) := by decide +kernel
theorem dX1_remove_48 : decode cX1_remove 48 = .ok (.isub, 1) := by decide +kernel
theorem dX1_remove_49 : decode cX1_remove 49 = .ok (.iconst 1, 1) := by decide +kernel
theorem dX1_remove_50 : decode cX1_remove 50 = .ok (.isub, 1) := by decide +kernel
theorem dX1_remove_51 : decode cX1_remove 51 = .ok (.invokestatic 50, 3) := by decide +kernel
theorem dX1_remove_54 : decode cX1_remove 54 = .ok (.aload_n 0, 1) := by decide +kernel
theorem dX1_remove_55 : decode cX1_remove 55 = .ok (.getfield 14, 3) := by decide +kernel
theorem dX1_remove_58 : decode cX1_remove 58 = .ok (.iload_n 2, 1) := by decide +kernel
theorem dX1_remove_59 : decode cX1_remove 59 = .ok (.invokevirtual 60, 3) := by decide +kernel
theorem dX1_remove_62 : decode cX1_remove 62 = .ok (.iload_n 3, 1) := by decide +kernel
theorem dX1_remove_63 : decode cX1_remove 63 = .ok (.ireturn, 1) := by decide +kernel
theorem jm_Lex_remove {l1 : Int} {h : xH} {r0 : Int} {h0 : xH} (kl1 : xK l1 = 3 + 4) (hf : f_Lex_remove l1 h = some (r0, h0)) : J mX1_remove true 0 0 0 xKn (xen 0 [xR 4, xR l1]) [] h (xEq (some r0) h0) := by
  unfold f_Lex_remove at hf
  refine J_cong (ls2 := [(0, xR 4), (1, xR l1)]) (st2 := []) rfl rfl ?_
  refine J_aload_n 0 dX1_remove_0 rfl rfl ?_
  refine J_aload_n 1 dX1_remove_1 rfl rfl ?_
  obtain ⟨r1, hq, hf⟩ := xc1_e hf
  refine J_cVi (Mc := mX1_numberOf) [xR l1] dX1_remove_2 (fc_Lex_numberOf.fit ⟨xbl rfl, xbl rfl⟩) rfl ⟨Or.inl xq520, xq522, xq6⟩ kO4 (ci := 1) rfl rfl (xbl rfl) (xbl rfl) (jm_Lex_numberOf kl1 hq) ?_
  refine J_istore_n (ls' := [(2, xI r1), (0, xR 4), (1, xR l1)]) dX1_remove_5 rfl (by decide) rfl rfl ?_
  refine J_iload_n 0 dX1_remove_6 rfl rfl ?_
  refine J_if_lt (tgt := 19) dX1_remove_7 (by decide) (fun hc => ?_) (fun hc => ?_)
  · have hf := xip hc hf
    refine J_iconst dX1_remove_19 (by decide) ?_
    exact J_ireti dX1_remove_20 rfl (xq_i hf)
  · have hf := xin' hc hf
    refine J_iload_n 0 dX1_remove_10 rfl rfl ?_
    refine J_aload_n 1 dX1_remove_11 rfl rfl ?_
    refine J_getRl (j := 1) xcf1 dX1_remove_12 kO4 (Or.inl xq198) (by decide) (by decide) rf_4_1 ?_
    refine J_alen dX1_remove_15 (xK_r1 kO8) (Or.inl kO8) (by decide) nA8 ?_
    refine J_ic_lt (tgt := 21) dX1_remove_16 (by decide) (fun hc => ?_) (fun hc => ?_)
    · have hf := xip hc hf
      refine J_aload_n 1 dX1_remove_21 rfl rfl ?_
      refine J_getRl (j := 1) xcf1 dX1_remove_22 kO4 (Or.inl xq198) (by decide) (by decide) rf_4_1 ?_
      refine J_iload_n 0 dX1_remove_25 rfl rfl ?_
      obtain ⟨hg, hf⟩ := xgd_e hf
      refine J_iald dX1_remove_26 (xK_r1 kO8) kO8 hg nA8 ?_
      obtain ⟨x2, ex2, hf⟩ := xlet_e hf
      refine J_istore_n (ls' := [(3, xI x2), (2, xI r1), (0, xR 4), (1, xR l1)]) dX1_remove_27 rfl (by decide) ex2 rfl ?_
      refine J_aload_n 2 dX1_remove_28 rfl rfl ?_
      refine J_getRl (j := 1) xcf1 dX1_remove_29 kO4 (Or.inl xq198) (by decide) (by decide) rf_4_1 ?_
      refine J_iload_n 1 dX1_remove_32 rfl rfl ?_
      refine J_iconst dX1_remove_33 (by decide) ?_
      refine J_iadd dX1_remove_34 ?_
      refine J_aload_n 2 dX1_remove_35 rfl rfl ?_
      refine J_getRl (j := 1) xcf1 dX1_remove_36 kO4 (Or.inl xq198) (by decide) (by decide) rf_4_1 ?_
      refine J_iload_n 1 dX1_remove_39 rfl rfl ?_
      refine J_aload_n 2 dX1_remove_40 rfl rfl ?_
      refine J_getRl (j := 0) xcf1 dX1_remove_41 kO4 (Or.inl xq194) (by decide) (by decide) rf_4_0 ?_
      refine J_getI (j := 2) xcf5 dX1_remove_44 (xK_rg kO5) kO5 (Or.inr ⟨_, xq183⟩) (by decide) (by decide) ?_
      refine J_iload_n 1 dX1_remove_47 rfl rfl ?_
      refine J_isub dX1_remove_48 ?_
      refine J_iconst dX1_remove_49 (by decide) ?_
      refine J_isub dX1_remove_50 ?_
      obtain ⟨hg, hf⟩ := xgc_e hf
      obtain ⟨h3, eh3, hf⟩ := xlet_e hf
      refine J_copy dX1_remove_51 ⟨xq548, xq550, xq549, xq139⟩ (xK_r1 kO8) (xK_r1 kO8) kO8 kO8 hg nA8 nA8 eh3 (xbl rfl) (xbl rfl) ?_
      refine J_aload_n 2 dX1_remove_54 rfl rfl ?_
      refine J_getRl (j := 0) xcf1 dX1_remove_55 kO4 (Or.inl xq194) (by decide) (by decide) rf_4_0 ?_
      refine J_iload_n 1 dX1_remove_58 rfl rfl ?_
      obtain ⟨h4, hq, hf⟩ := xc1_e hf
      refine J_cVv (Mc := mX5_remove) [xI r1] dX1_remove_59 (fc_Rows_remove.fit ⟨xbl rfl, xbl rfl⟩) rfl ⟨Or.inr ⟨_, xq565⟩, xq567, xq14⟩ kO5 (ci := 5) rfl rfl (xbl rfl) (xbl rfl) (jm_Rows_remove kO5 hq) ?_
      refine J_iload_n 0 dX1_remove_62 rfl rfl ?_
      exact J_ireti dX1_remove_63 rfl (xq_i hf)
    · have hf := xin' hc hf
      refine J_iconst dX1_remove_19 (by decide) ?_
      exact J_ireti dX1_remove_20 rfl (xq_i hf)
theorem dX11_drop_0 : decode cX11_drop 0 = .ok (.aload_n 0, 1) := by decide +kernel
theorem dX11_drop_1 : decode cX11_drop 1 = .ok (.getfield 12, 3) := by decide +kernel
theorem dX11_drop_4 : decode cX11_drop 4 = .ok (.aload_n 0, 1) := by decide +kernel
theorem dX11_drop_5 : decode cX11_drop 5 = .ok (.getfield 37, 3) := by decide +kernel
theorem dX11_drop_8 : decode cX11_drop 8 = .ok (.invokevirtual 113, 3) := by decide +kernel
theorem dX11_drop_11 : decode cX11_drop 11 = .ok (.ifCond .eq 17, 3) := by decide +kernel
theorem dX11_drop_14 : decode cX11_drop 14 = .ok (.aload_n 0, 1) := by decide +kernel
theorem dX11_drop_15 : decode cX11_drop 15 = .ok (.getfield 19, 3) := by decide +kernel
theorem dX11_drop_18 : decode cX11_drop 18 = .ok (.aload_n 0, 1) := by decide +kernel
theorem dX11_drop_19 : decode cX11_drop 19 = .ok (.getfield 37, 3) := by decide +kernel
theorem dX11_drop_22 : decode cX11_drop 22 = .ok (.invokevirtual 122, 3) := by decide +kernel
theorem dX11_drop_25 : decode cX11_drop 25 = .ok (.goto 5, 3) := by decide +kernel
theorem dX11_drop_28 : decode cX11_drop 28 = .ok (.bipush (-2), 2) := by decide +kernel
theorem dX11_drop_30 : decode cX11_drop 30 = .ok (.ireturn, 1) := by decide +kernel
theorem jm_WM_drop  {h : xH} {r0 : Int} {h0 : xH}  (hf : f_WM_drop h = some (r0, h0)) : J mX11_drop true 0 0 0 xKn (xen 0 [xR 1]) [] h (xEq (some r0) h0) := by
  unfold f_WM_drop at hf
  refine J_cong (ls2 := [(0, xR 1)]) (st2 := []) rfl rfl ?_
  refine J_aload_n 0 dX11_drop_0 rfl rfl ?_
  refine J_getRl (j := 0) xcf11 dX11_drop_1 kO1 (Or.inl xq435) (by decide) (by decide) rf_1_0 ?_
  refine J_aload_n 0 dX11_drop_4 rfl rfl ?_
  refine J_getRl (j := 4) xcf11 dX11_drop_5 kO1 (Or.inl xq439) (by decide) (by decide) rf_1_4 ?_
  obtain ⟨r1, h2, hq, hf⟩ := xc2_e hf
  refine J_cVi (Mc := mX7_takeRow) [xR 23] dX11_drop_8 (fc_Tape_takeRow.fit ⟨xbl rfl, xbl rfl⟩) rfl ⟨Or.inr ⟨_, xq499⟩, xq501, xq1⟩ kO2 (ci := 7) rfl rfl (xbl rfl) (xbl rfl) (jm_Tape_takeRow kO23 hq) ?_
  refine J_if_eq (tgt := 28) dX11_drop_11 (by decide) (fun hc => ?_) (fun hc => ?_)
  · have hf := xip hc hf
    refine J_bip dX11_drop_28 (by decide) ?_
    exact J_ireti dX11_drop_30 rfl (xq_i hf)
  · have hf := xin' hc hf
    refine J_aload_n 0 dX11_drop_14 rfl rfl ?_
    refine J_getRl (j := 1) xcf11 dX11_drop_15 kO1 (Or.inl xq436) (by decide) (by decide) rf_1_1 ?_
    refine J_aload_n 0 dX11_drop_18 rfl rfl ?_
    refine J_getRl (j := 4) xcf11 dX11_drop_19 kO1 (Or.inl xq439) (by decide) (by decide) rf_1_4 ?_
    obtain ⟨r3, h4, hq, hf⟩ := xc2_e hf
    refine J_cVi (Mc := mX1_remove) [xR 23] dX11_drop_22 (fc_Lex_remove.fit ⟨xbl rfl, xbl rfl⟩) rfl ⟨Or.inr ⟨_, xq561⟩, xq563, xq13⟩ kO4 (ci := 1) rfl rfl (xbl rfl) (xbl rfl) (jm_Lex_remove kO23 hq) ?_
    refine J_goto (tgt := 30) dX11_drop_25 (by decide) ?_
    exact J_ireti dX11_drop_30 rfl (xq_i hf)
theorem dX11_find_0 : decode cX11_find 0 = .ok (.aload_n 0, 1) := by decide +kernel
theorem dX11_find_1 : decode cX11_find 1 = .ok (.getfield 12, 3) := by decide +kernel
theorem dX11_find_4 : decode cX11_find 4 = .ok (.aload_n 0, 1) := by decide +kernel
theorem dX11_find_5 : decode cX11_find 5 = .ok (.getfield 37, 3) := by decide +kernel
theorem dX11_find_8 : decode cX11_find 8 = .ok (.invokevirtual 113, 3) := by decide +kernel
theorem dX11_find_11 : decode cX11_find 11 = .ok (.ifCond .eq 17, 3) := by decide +kernel
theorem dX11_find_14 : decode cX11_find 14 = .ok (.aload_n 0, 1) := by decide +kernel
theorem dX11_find_15 : decode cX11_find 15 = .ok (.getfield 19, 3) := by decide +kernel
theorem dX11_find_18 : decode cX11_find 18 = .ok (.aload_n 0, 1) := by decide +kernel
theorem dX11_find_19 : decode cX11_find 19 = .ok (.getfield 37, 3) := by decide +kernel
theorem dX11_find_22 : decode cX11_find 22 = .ok (.invokevirtual 126, 3) := by decide +kernel
theorem dX11_find_25 : decode cX11_find 25 = .ok (.goto 5, 3) := by decide +kernel
theorem dX11_find_28 : decode cX11_find 28 = .ok (.bipush (-2), 2) := by decide +kernel
theorem dX11_find_30 : decode cX11_find 30 = .ok (.ireturn, 1) := by decide +kernel
theorem jm_WM_find  {h : xH} {r0 : Int} {h0 : xH}  (hf : f_WM_find h = some (r0, h0)) : J mX11_find true 0 0 0 xKn (xen 0 [xR 1]) [] h (xEq (some r0) h0) := by
  unfold f_WM_find at hf
  refine J_cong (ls2 := [(0, xR 1)]) (st2 := []) rfl rfl ?_
  refine J_aload_n 0 dX11_find_0 rfl rfl ?_
  refine J_getRl (j := 0) xcf11 dX11_find_1 kO1 (Or.inl xq435) (by decide) (by decide) rf_1_0 ?_
  refine J_aload_n 0 dX11_find_4 rfl rfl ?_
  refine J_getRl (j := 4) xcf11 dX11_find_5 kO1 (Or.inl xq439) (by decide) (by decide) rf_1_4 ?_
  obtain ⟨r1, h2, hq, hf⟩ := xc2_e hf
  refine J_cVi (Mc := mX7_takeRow) [xR 23] dX11_find_8 (fc_Tape_takeRow.fit ⟨xbl rfl, xbl rfl⟩) rfl ⟨Or.inr ⟨_, xq499⟩, xq501, xq1⟩ kO2 (ci := 7) rfl rfl (xbl rfl) (xbl rfl) (jm_Tape_takeRow kO23 hq) ?_
  refine J_if_eq (tgt := 28) dX11_find_11 (by decide) (fun hc => ?_) (fun hc => ?_)
  · have hf := xip hc hf
    refine J_bip dX11_find_28 (by decide) ?_
    exact J_ireti dX11_find_30 rfl (xq_i hf)
  · have hf := xin' hc hf
    refine J_aload_n 0 dX11_find_14 rfl rfl ?_
    refine J_getRl (j := 1) xcf11 dX11_find_15 kO1 (Or.inl xq436) (by decide) (by decide) rf_1_1 ?_
    refine J_aload_n 0 dX11_find_18 rfl rfl ?_
    refine J_getRl (j := 4) xcf11 dX11_find_19 kO1 (Or.inl xq439) (by decide) (by decide) rf_1_4 ?_
    obtain ⟨r3, hq, hf⟩ := xc1_e hf
    refine J_cVi (Mc := mX1_numberOf) [xR 23] dX11_find_22 (fc_Lex_numberOf.fit ⟨xbl rfl, xbl rfl⟩) rfl ⟨Or.inr ⟨_, xq573⟩, xq522, xq6⟩ kO4 (ci := 1) rfl rfl (xbl rfl) (xbl rfl) (jm_Lex_numberOf kO23 hq) ?_
    refine J_goto (tgt := 30) dX11_find_25 (by decide) ?_
    exact J_ireti dX11_find_30 rfl (xq_i hf)
theorem dX1_countOf_0 : decode cX1_countOf 0 = .ok (.iload_n 1, 1) := by decide +kernel
theorem dX1_countOf_1 : decode cX1_countOf 1 = .ok (.ifCond .lt 21, 3) := by decide +kernel
theorem dX1_countOf_4 : decode cX1_countOf 4 = .ok (.iload_n 1, 1) := by decide +kernel
theorem dX1_countOf_5 : decode cX1_countOf 5 = .ok (.aload_n 0, 1) := by decide +kernel
theorem dX1_countOf_6 : decode cX1_countOf 6 = .ok (.getfield 20, 3) := by decide +kernel
theorem dX1_countOf_9 : decode cX1_countOf 9 = .ok (.arraylength, 1) := by decide +kernel
theorem dX1_countOf_10 : decode cX1_countOf 10 = .ok (.if_icmp .ge 12, 3) := by decide +kernel
theorem dX1_countOf_13 : decode cX1_countOf 13 = .ok (.aload_n 0, 1) := by decide +kernel
theorem dX1_countOf_14 : decode cX1_countOf 14 = .ok (.getfield 20, 3) := by decide +kernel
theorem dX1_countOf_17 : decode cX1_countOf 17 = .ok (.iload_n 1, 1) := by decide +kernel
theorem dX1_countOf_18 : decode cX1_countOf 18 = .ok (.iaload, 1) := by decide +kernel
theorem dX1_countOf_19 : decode cX1_countOf 19 = .ok (.goto 4, 3) := by decide +kernel
theorem dX1_countOf_22 : decode cX1_countOf 22 = .ok (.iconst 0, 1) := by decide +kernel
theorem dX1_countOf_23 : decode cX1_countOf 23 = .ok (.ireturn, 1) := by decide +kernel
theorem jm_Lex_countOf {l1 : Int} {h : xH} {r0 : Int}  (hf : f_Lex_countOf l1 h = some r0) : J mX1_countOf true 0 0 0 xKn (xen 0 [xR 4, xI l1]) [] h (xEq (some r0) h) := by
  unfold f_Lex_countOf at hf
  refine J_cong (ls2 := [(0, xR 4), (1, xI l1)]) (st2 := []) rfl rfl ?_
  refine J_iload_n 1 dX1_countOf_0 rfl rfl ?_
  refine J_if_lt (tgt := 22) dX1_countOf_1 (by decide) (fun hc => ?_) (fun hc => ?_)
  · have hf := xip hc hf
    refine J_iconst dX1_countOf_22 (by decide) ?_
    exact J_ireti dX1_countOf_23 rfl (xq_p hf)
  · have hf := xin' hc hf
    refine J_iload_n 1 dX1_countOf_4 rfl rfl ?_
    refine J_aload_n 0 dX1_countOf_5 rfl rfl ?_
    refine J_getRl (j := 1) xcf1 dX1_countOf_6 kO4 (Or.inl xq198) (by decide) (by decide) rf_4_1 ?_
    refine J_alen dX1_countOf_9 (xK_r1 kO8) (Or.inl kO8) (by decide) nA8 ?_
    refine J_ic_ge (tgt := 22) dX1_countOf_10 (by decide) (fun hc => ?_) (fun hc => ?_)
    · have hf := xip hc hf
      refine J_aload_n 0 dX1_countOf_13 rfl rfl ?_
      refine J_getRl (j := 1) xcf1 dX1_countOf_14 kO4 (Or.inl xq198) (by decide) (by decide) rf_4_1 ?_
      refine J_iload_n 1 dX1_countOf_17 rfl rfl ?_
      obtain ⟨hg, hf⟩ := xgd_e hf
      refine J_iald dX1_countOf_18 (xK_r1 kO8) kO8 hg nA8 ?_
      refine J_goto (tgt := 23) dX1_countOf_19 (by decide) ?_
      exact J_ireti dX1_countOf_23 rfl (xq_p hf)
    · have hf := xin' hc hf
      refine J_iconst dX1_countOf_22 (by decide) ?_
      exact J_ireti dX1_countOf_23 rfl (xq_p hf)
theorem dX5_sizeOf_0 : decode cX5_sizeOf 0 = .ok (.iload_n 1, 1) := by decide +kernel
theorem dX5_sizeOf_1 : decode cX5_sizeOf 1 = .ok (.ifCond .lt 29, 3) := by decide +kernel
theorem dX5_sizeOf_4 : decode cX5_sizeOf 4 = .ok (.iload_n 1, 1) := by decide +kernel
theorem dX5_sizeOf_5 : decode cX5_sizeOf 5 = .ok (.aload_n 0, 1) := by decide +kernel
theorem dX5_sizeOf_6 : decode cX5_sizeOf 6 = .ok (.getfield 24, 3) := by decide +kernel
theorem dX5_sizeOf_9 : decode cX5_sizeOf 9 = .ok (.if_icmp .ge 21, 3) := by decide +kernel
theorem dX5_sizeOf_12 : decode cX5_sizeOf 12 = .ok (.iload_n 1, 1) := by decide +kernel
theorem dX5_sizeOf_13 : decode cX5_sizeOf 13 = .ok (.aload_n 0, 1) := by decide +kernel
theorem dX5_sizeOf_14 : decode cX5_sizeOf 14 = .ok (.getfield 21, 3) := by decide +kernel
theorem dX5_sizeOf_17 : decode cX5_sizeOf 17 = .ok (.arraylength, 1) := by decide +kernel
theorem dX5_sizeOf_18 : decode cX5_sizeOf 18 = .ok (.if_icmp .ge 12, 3) := by decide +kernel
theorem dX5_sizeOf_21 : decode cX5_sizeOf 21 = .ok (.aload_n 0, 1) := by decide +kernel
theorem dX5_sizeOf_22 : decode cX5_sizeOf 22 = .ok (.getfield 21, 3) := by decide +kernel
theorem dX5_sizeOf_25 : decode cX5_sizeOf 25 = .ok (.iload_n 1, 1) := by decide +kernel
theorem dX5_sizeOf_26 : decode cX5_sizeOf 26 = .ok (.iaload, 1) := by decide +kernel
theorem dX5_sizeOf_27 : decode cX5_sizeOf 27 = .ok (.goto 4, 3) := by decide +kernel
theorem dX5_sizeOf_30 : decode cX5_sizeOf 30 = .ok (.iconst 0, 1) := by decide +kernel
theorem dX5_sizeOf_31 : decode cX5_sizeOf 31 = .ok (.ireturn, 1) := by decide +kernel
theorem jm_Rows_sizeOf {l0 : Int} {l1 : Int} {h : xH} {r0 : Int} (kl0 : xK l0 = 3 + 5) (hf : f_Rows_sizeOf l0 l1 h = some r0) : J mX5_sizeOf true 0 0 0 xKn (xen 0 [xR l0, xI l1]) [] h (xEq (some r0) h) := by
  unfold f_Rows_sizeOf at hf
  refine J_cong (ls2 := [(0, xR l0), (1, xI l1)]) (st2 := []) rfl rfl ?_
  refine J_iload_n 1 dX5_sizeOf_0 rfl rfl ?_
  refine J_if_lt (tgt := 30) dX5_sizeOf_1 (by decide) (fun hc => ?_) (fun hc => ?_)
  · have hf := xip hc hf
    refine J_iconst dX5_sizeOf_30 (by decide) ?_
    exact J_ireti dX5_sizeOf_31 rfl (xq_p hf)
  · have hf := xin' hc hf
    refine J_iload_n 1 dX5_sizeOf_4 rfl rfl ?_
    refine J_aload_n 0 dX5_sizeOf_5 rfl rfl ?_
    refine J_getI (j := 2) xcf5 dX5_sizeOf_6 (xK_rg kl0) kl0 (Or.inl xq181) (by decide) (by decide) ?_
    refine J_ic_ge (tgt := 30) dX5_sizeOf_9 (by decide) (fun hc => ?_) (fun hc => ?_)
    · have hf := xip hc hf
      refine J_iload_n 1 dX5_sizeOf_12 rfl rfl ?_
      refine J_aload_n 0 dX5_sizeOf_13 rfl rfl ?_
      refine J_getRl (j := 1) xcf5 dX5_sizeOf_14 kl0 (Or.inl xq180) (by decide) (by decide) (rfRows_1 kl0) ?_
      refine J_alen dX5_sizeOf_17 (xK_r1 (kRows_1 kl0)) (Or.inl (kRows_1 kl0)) (xNok (l0 + 2)) rfl ?_
      refine J_ic_ge (tgt := 30) dX5_sizeOf_18 (by decide) (fun hc => ?_) (fun hc => ?_)
      · have hf := xip hc hf
        refine J_aload_n 0 dX5_sizeOf_21 rfl rfl ?_
        refine J_getRl (j := 1) xcf5 dX5_sizeOf_22 kl0 (Or.inl xq180) (by decide) (by decide) (rfRows_1 kl0) ?_
        refine J_iload_n 1 dX5_sizeOf_25 rfl rfl ?_
        obtain ⟨hg, hf⟩ := xgd_e hf
        refine J_iald dX5_sizeOf_26 (xK_r1 (kRows_1 kl0)) (kRows_1 kl0) hg rfl ?_
        refine J_goto (tgt := 31) dX5_sizeOf_27 (by decide) ?_
        exact J_ireti dX5_sizeOf_31 rfl (xq_p hf)
      · have hf := xin' hc hf
        refine J_iconst dX5_sizeOf_30 (by decide) ?_
        exact J_ireti dX5_sizeOf_31 rfl (xq_p hf)
    · have hf := xin' hc hf
      refine J_iconst dX5_sizeOf_30 (by decide) ?_
      exact J_ireti dX5_sizeOf_31 rfl (xq_p hf)
theorem dX11_word_0 : decode cX11_word 0 = .ok (.iload_n 1, 1) := by decide +kernel
theorem dX11_word_1 : decode cX11_word 1 = .ok (.ifCond .lt 21, 3) := by decide +kernel
theorem dX11_word_4 : decode cX11_word 4 = .ok (.iload_n 1, 1) := by decide +kernel
theorem dX11_word_5 : decode cX11_word 5 = .ok (.aload_n 0, 1) := by decide +kernel
theorem dX11_word_6 : decode cX11_word 6 = .ok (.getfield 19, 3) := by decide +kernel
theorem dX11_word_9 : decode cX11_word 9 = .ok (.getfield 129, 3) := by decide +kernel
theorem dX11_word_12 : decode cX11_word 12 = .ok (.getfield 132, 3) := by decide +kernel
theorem dX11_word_15 : decode cX11_word 15 = .ok (.if_icmp .ge 7, 3) := by decide +kernel
theorem dX11_word_18 : decode cX11_word 18 = .ok (.iload_n 2, 1) := by decide +kernel
theorem dX11_word_19 : decode cX11_word 19 = .ok (.ifCond .ge 6, 3) := by decide +kernel
theorem dX11_word_22 : decode cX11_word 22 = .ok (.bipush (-2), 2) := by decide +kernel
theorem dX11_word_24 : decode cX11_word 24 = .ok (.ireturn, 1) := by decide +kernel
theorem dX11_word_25 : decode cX11_word 25 = .ok (.iload_n 2, 1) := by decide +kernel
theorem dX11_word_26 : decode cX11_word 26 = .ok (.ifCond .ne 12, 3) := by decide +kernel
theorem dX11_word_29 : decode cX11_word 29 = .ok (.aload_n 0, 1) := by decide +kernel
theorem dX11_word_30 : decode cX11_word 30 = .ok (.getfield 19, 3) := by decide +kernel
theorem dX11_word_33 : decode cX11_word 33 = .ok (.iload_n 1, 1) := by decide +kernel
theorem dX11_word_34 : decode cX11_word 34 = .ok (.invokevirtual 136, 3) := by decide +kernel
theorem dX11_word_37 : decode cX11_word 37 = .ok (.ireturn, 1) := by decide +kernel
theorem dX11_word_38 : decode cX11_word 38 = .ok (.iload_n 2, 1) := by decide +kernel
theorem dX11_word_39 : decode cX11_word 39 = .ok (.iconst 1, 1) := by decide +kernel
theorem dX11_word_40 : decode cX11_word 40 = .ok (.if_icmp .ne 17, 3) := by decide +kernel
theorem dX11_word_43 : decode cX11_word 43 = .ok (.aload_n 0, 1) := by decide +kernel
theorem dX11_word_44 : decode cX11_word 44 = .ok (.getfield 19, 3) := by decide +kernel
theorem dX11_word_47 : decode cX11_word 47 = .ok (.getfield 129, 3) := by decide +kernel
theorem dX11_word_50 : decode cX11_word 50 = .ok (.iload_n 1, 1) := by decide +kernel
theorem dX11_word_51 : decode cX11_word 51 = .ok (.invokevirtual 140, 3) := by decide +kernel
theorem dX11_word_54 : decode cX11_word 54 = .ok (.goto 17, 3) := by decide +kernel
theorem dX11_word_57 : decode cX11_word 57 = .ok (.aload_n 0, 1) := by decide +kernel
theorem dX11_word_58 : decode cX11_word 58 = .ok (.getfield 19, 3) := by decide +kernel
theorem dX11_word_61 : decode cX11_word 61 = .ok (.getfield 129, 3) := by decide +kernel
theorem dX11_word_64 : decode cX11_word 64 = .ok (.iload_n 1, 1) := by decide +kernel
theorem dX11_word_65 : decode cX11_word 65 = .ok (.iload_n 2, 1) := by decide +kernel
theorem dX11_word_66 : decode cX11_word 66 = .ok (.iconst 2, 1) := by decide +kernel
theorem dX11_word_67 : decode cX11_word 67 = .ok (.isub, 1) := by decide +kernel
theorem dX11_word_68 : decode cX11_word 68 = .ok (.invokevirtual 143, 3) := by decide +kernel
theorem dX11_word_71 : decode cX11_word 71 = .ok (.ireturn, 1) := by decide +kernel
theorem jm_WM_word {l1 : Int} {l2 : Int} {h : xH} {r0 : Int}  (hf : f_WM_word l1 l2 h = some r0) : J mX11_word true 0 0 0 xKn (xen 0 [xR 1, xI l1, xI l2]) [] h (xEq (some r0) h) := by
  unfold f_WM_word at hf
  refine J_cong (ls2 := [(0, xR 1), (1, xI l1), (2, xI l2)]) (st2 := []) rfl rfl ?_
  refine J_iload_n 1 dX11_word_0 rfl rfl ?_
  refine J_if_lt (tgt := 22) dX11_word_1 (by decide) (fun hc => ?_) (fun hc => ?_)
  · have hf := xip hc hf
    refine J_bip dX11_word_22 (by decide) ?_
    exact J_ireti dX11_word_24 rfl (xq_p hf)
  · have hf := xin' hc hf
    refine J_iload_n 1 dX11_word_4 rfl rfl ?_
    refine J_aload_n 0 dX11_word_5 rfl rfl ?_
    refine J_getRl (j := 1) xcf11 dX11_word_6 kO1 (Or.inl xq436) (by decide) (by decide) rf_1_1 ?_
    refine J_getRl (j := 0) xcf1 dX11_word_9 kO4 (Or.inr ⟨_, xq197⟩) (by decide) (by decide) rf_4_0 ?_
    refine J_getI (j := 2) xcf5 dX11_word_12 (xK_rg kO5) kO5 (Or.inr ⟨_, xq185⟩) (by decide) (by decide) ?_
    refine J_ic_ge (tgt := 22) dX11_word_15 (by decide) (fun hc => ?_) (fun hc => ?_)
    · have hf := xip hc hf
      refine J_iload_n 2 dX11_word_18 rfl rfl ?_
      refine J_if_ge (tgt := 25) dX11_word_19 (by decide) (fun hc => ?_) (fun hc => ?_)
      · have hf := xip hc hf
        refine J_bip dX11_word_22 (by decide) ?_
        exact J_ireti dX11_word_24 rfl (xq_p hf)
      · have hf := xin' hc hf
        refine J_iload_n 2 dX11_word_25 rfl rfl ?_
        refine J_if_ne (tgt := 38) dX11_word_26 (by decide) (fun hc => ?_) (fun hc => ?_)
        · have hf := xip hc hf
          refine J_aload_n 0 dX11_word_29 rfl rfl ?_
          refine J_getRl (j := 1) xcf11 dX11_word_30 kO1 (Or.inl xq436) (by decide) (by decide) rf_1_1 ?_
          refine J_iload_n 1 dX11_word_33 rfl rfl ?_
          obtain ⟨r1, hq, hf⟩ := xc1_e hf
          refine J_cVi (Mc := mX1_countOf) [xI l1] dX11_word_34 (fc_Lex_countOf.fit ⟨xbl rfl, xbl rfl⟩) rfl ⟨Or.inr ⟨_, xq578⟩, xq580, xq15⟩ kO4 (ci := 1) rfl rfl (xbl rfl) (xbl rfl) (jm_Lex_countOf  hq) ?_
          exact J_ireti dX11_word_37 rfl (xq_p hf)
        · have hf := xin' hc hf
          refine J_iload_n 2 dX11_word_38 rfl rfl ?_
          refine J_iconst dX11_word_39 (by decide) ?_
          refine J_ic_ne (tgt := 57) dX11_word_40 (by decide) (fun hc => ?_) (fun hc => ?_)
          · have hf := xip hc hf
            refine J_aload_n 0 dX11_word_43 rfl rfl ?_
            refine J_getRl (j := 1) xcf11 dX11_word_44 kO1 (Or.inl xq436) (by decide) (by decide) rf_1_1 ?_
            refine J_getRl (j := 0) xcf1 dX11_word_47 kO4 (Or.inr ⟨_, xq197⟩) (by decide) (by decide) rf_4_0 ?_
            refine J_iload_n 1 dX11_word_50 rfl rfl ?_
            obtain ⟨r2, hq, hf⟩ := xc1_e hf
            refine J_cVi (Mc := mX5_sizeOf) [xI l1] dX11_word_51 (fc_Rows_sizeOf.fit ⟨xbl rfl, xbl rfl⟩) rfl ⟨Or.inr ⟨_, xq582⟩, xq584, xq16⟩ kO5 (ci := 5) rfl rfl (xbl rfl) (xbl rfl) (jm_Rows_sizeOf kO5 hq) ?_
            refine J_goto (tgt := 71) dX11_word_54 (by decide) ?_
            exact J_ireti dX11_word_71 rfl (xq_p hf)
          · have hf := xin' hc hf
            refine J_aload_n 0 dX11_word_57 rfl rfl ?_
            refine J_getRl (j := 1) xcf11 dX11_word_58 kO1 (Or.inl xq436) (by decide) (by decide) rf_1_1 ?_
            refine J_getRl (j := 0) xcf1 dX11_word_61 kO4 (Or.inr ⟨_, xq197⟩) (by decide) (by decide) rf_4_0 ?_
            refine J_iload_n 1 dX11_word_64 rfl rfl ?_
            refine J_iload_n 2 dX11_word_65 rfl rfl ?_
            refine J_iconst dX11_word_66 (by decide) ?_
            refine J_isub dX11_word_67 ?_
            obtain ⟨r3, hq, hf⟩ := xc1_e hf
            refine J_cVi (Mc := mX5_at) [xI l1, xI (w32 (l2 - 2))] dX11_word_68 (fc_Rows_at.fit ⟨xbl rfl, xbl rfl⟩) rfl ⟨Or.inr ⟨_, xq586⟩, xq534, xq9⟩ kO5 (ci := 5) rfl rfl (xbl rfl) (xbl rfl) (jm_Rows_at kO5 hq) ?_
            exact J_ireti dX11_word_71 rfl (xq_p hf)
    · have hf := xin' hc hf
      refine J_bip dX11_word_22 (by decide) ?_
      exact J_ireti dX11_word_24 rfl (xq_p hf)
theorem dX5_shared_0 : decode cX5_shared 0 = .ok (.iload_n 1, 1) := by decide +kernel
theorem dX5_shared_1 : decode cX5_shared 1 = .ok (.iconst 1, 1) := by decide +kernel
theorem dX5_shared_2 : decode cX5_shared 2 = .ok (.if_icmp .ge 5, 3) := by decide +kernel
theorem dX5_shared_5 : decode cX5_shared 5 = .ok (.iconst (-1), 1) := by decide +kernel
theorem dX5_shared_6 : decode cX5_shared 6 = .ok (.ireturn, 1) := by decide +kernel
theorem dX5_shared_7 : decode cX5_shared 7 = .ok (.iconst 0, 1) := by decide +kernel
theorem dX5_shared_8 : decode cX5_shared 8 = .ok (.istore_n 2, 1) := by decide +kernel
theorem dX5_shared_9 : decode cX5_shared 9 = .ok (.iload_n 2, 1) := by decide +kernel
theorem dX5_shared_10 : decode cX5_shared 10 = .ok (.aload_n 0, 1) := by decide +kernel
theorem dX5_shared_11 : decode cX5_shared 11 = .ok (.iload_n 1, 1) := by decide +kernel
theorem dX5_shared_12 : decode cX5_shared 12 = .ok (.invokevirtual 33, 3) := by decide +kernel
theorem dX5_shared_15 : decode cX5_shared 15 = .ok (.if_icmp .ge 26, 3) := by decide +kernel
theorem dX5_shared_18 : decode cX5_shared 18 = .ok (.aload_n 0, 1) := by decide +kernel
theorem dX5_shared_19 : decode cX5_shared 19 = .ok (.iload_n 1, 1) := by decide +kernel
theorem dX5_shared_20 : decode cX5_shared 20 = .ok (.iload_n 2, 1) := by decide +kernel
theorem dX5_shared_21 : decode cX5_shared 21 = .ok (.invokevirtual 37, 3) := by decide +kernel
theorem dX5_shared_24 : decode cX5_shared 24 = .ok (.aload_n 0, 1) := by decide +kernel
theorem dX5_shared_25 : decode cX5_shared 25 = .ok (.iload_n 1, 1) := by decide +kernel
theorem dX5_shared_26 : decode cX5_shared 26 = .ok (.iconst 1, 1) := by decide +kernel
theorem dX5_shared_27 : decode cX5_shared 27 = .ok (.isub, 1) := by decide +kernel
theorem dX5_shared_28 : decode cX5_shared 28 = .ok (.iload_n 2, 1) := by decide +kernel
theorem dX5_shared_29 : decode cX5_shared 29 = .ok (.invokevirtual 37, 3) := by decide +kernel
theorem dX5_shared_32 : decode cX5_shared 32 = .ok (.if_icmp .ne 9, 3) := by decide +kernel
theorem dX5_shared_35 : decode cX5_shared 35 = .ok (.iinc 2 1, 3) := by decide +kernel
theorem dX5_shared_38 : decode cX5_shared 38 = .ok (.goto (-29), 3) := by decide +kernel
theorem dX5_shared_41 : decode cX5_shared 41 = .ok (.iload_n 2, 1) := by decide +kernel
theorem dX5_shared_42 : decode cX5_shared 42 = .ok (.ireturn, 1) := by decide +kernel
theorem j_Rows_shared_41 {l2 : Int} {h : xH} {r0 : Int}  (hf : f_Rows_shared_41 l2 h = some r0)  : J mX5_shared true 0 0 41 xKn [(2, xI l2)] [] h (xEq (some r0) h) := by
  unfold f_Rows_shared_41 at hf
  refine J_iload_n 0 dX5_shared_41 rfl rfl ?_
  exact J_ireti dX5_shared_42 rfl (xq_p hf)
theorem j_Rows_shared_s9 {l0 : Int} {l1 : Int} {l2 : Int} {h : xH} {x : (Int ⊕ Int)} {Q : xQ} (kl0 : xK l0 = 3 + 5) (hf : f_Rows_shared_s9 l0 l1 l2 h = some x) (kb : ∀ (l2' : Int), x = Sum.inl l2' → J mX5_shared true 0 0 9 xKn [(0, xR l0), (1, xI l1), (2, xI l2')] [] h Q) (ke : ∀ (l2' : Int), x = (Sum.inr l2') → J mX5_shared true 0 0 41 xKn [(2, xI l2')] [] h Q) : J mX5_shared true 0 0 9 xKn [(0, xR l0), (1, xI l1), (2, xI l2)] [] h Q := by
  unfold f_Rows_shared_s9 at hf
  refine J_iload_n 2 dX5_shared_9 rfl rfl ?_
  refine J_aload_n 0 dX5_shared_10 rfl rfl ?_
  refine J_iload_n 1 dX5_shared_11 rfl rfl ?_
  obtain ⟨r1, hq, hf⟩ := xc1_e hf
  refine J_cVi (Mc := mX5_sizeOf) [xI l1] dX5_shared_12 (fc_Rows_sizeOf.fit ⟨xbl rfl, xbl rfl⟩) rfl ⟨Or.inl xq600, xq584, xq16⟩ kl0 (ci := 5) rfl rfl (xbl rfl) (xbl rfl) (jm_Rows_sizeOf kl0 hq) ?_
  refine J_ic_ge (tgt := 41) dX5_shared_15 (by decide) (fun hc => ?_) (fun hc => ?_)
  · have hf := xip hc hf
    refine J_aload_n 0 dX5_shared_18 rfl rfl ?_
    refine J_iload_n 1 dX5_shared_19 rfl rfl ?_
    refine J_iload_n 2 dX5_shared_20 rfl rfl ?_
    obtain ⟨r2, hq, hf⟩ := xc1_e hf
    refine J_cVi (Mc := mX5_at) [xI l1, xI l2] dX5_shared_21 (fc_Rows_at.fit ⟨xbl rfl, xbl rfl⟩) rfl ⟨Or.inl xq532, xq534, xq9⟩ kl0 (ci := 5) rfl rfl (xbl rfl) (xbl rfl) (jm_Rows_at kl0 hq) ?_
    refine J_aload_n 0 dX5_shared_24 rfl rfl ?_
    refine J_iload_n 1 dX5_shared_25 rfl rfl ?_
    refine J_iconst dX5_shared_26 (by decide) ?_
    refine J_isub dX5_shared_27 ?_
    refine J_iload_n 2 dX5_shared_28 rfl rfl ?_
    obtain ⟨r3, hq, hf⟩ := xc1_e hf
    refine J_cVi (Mc := mX5_at) [xI (w32 (l1 - 1)), xI l2] dX5_shared_29 (fc_Rows_at.fit ⟨xbl rfl, xbl rfl⟩) rfl ⟨Or.inl xq532, xq534, xq9⟩ kl0 (ci := 5) rfl rfl (xbl rfl) (xbl rfl) (jm_Rows_at kl0 hq) ?_
    refine J_ic_ne (tgt := 41) dX5_shared_32 (by decide) (fun hc => ?_) (fun hc => ?_)
    · have hf := xip hc hf
      obtain ⟨x4, ex4, hf⟩ := xlet_e hf
      refine J_iinc (ls' := [(2, xI x4), (0, xR l0), (1, xI l1)]) 2 dX5_shared_35 rfl (by decide) ex4 rfl ?_
      refine J_goto (tgt := 9) dX5_shared_38 (by decide) ?_
      refine J_sub [1, 2, 0] rfl ?_
      exact kb _ (xinl hf)
    · have hf := xin' hc hf
      refine J_sub [2] rfl ?_
      exact ke _ (xinl hf)
  · have hf := xin' hc hf
    refine J_sub [2] rfl ?_
    exact ke _ (xinl hf)
theorem j_Rows_shared_9 {l0 : Int} {l1 : Int} {l2 : Int} {h : xH} {r0 : Int} (kl0 : xK l0 = 3 + 5) (hf : f_Rows_shared_9 l0 l1 l2 h = some r0)  : J mX5_shared true 0 0 9 xKn [(0, xR l0), (1, xI l1), (2, xI l2)] [] h (xEq (some r0) h) := by
  unfold f_Rows_shared_9 at hf
  obtain ⟨b0, hb0, hf⟩ := xc1_e hf
  refine xloop_ind (P := fun s : Int => J mX5_shared true 0 0 9 xKn [(0, xR l0), (1, xI l1), (2, xI s)] [] h (xEq (some r0) h)) hb0 (fun s x1 hs ib ie => ?_)
  exact j_Rows_shared_s9 kl0 hs (fun _ e => ib _ e) (fun _ e => by have := ie _ e; subst this; exact j_Rows_shared_41  hf)
theorem jm_Rows_shared {l0 : Int} {l1 : Int} {h : xH} {r0 : Int} (kl0 : xK l0 = 3 + 5) (hf : f_Rows_shared l0 l1 h = some r0) : J mX5_shared true 0 0 0 xKn (xen 0 [xR l0, xI l1]) [] h (xEq (some r0) h) := by
  unfold f_Rows_shared at hf
  refine J_cong (ls2 := [(0, xR l0), (1, xI l1)]) (st2 := []) rfl rfl ?_
  refine J_iload_n 1 dX5_shared_0 rfl rfl ?_
  refine J_iconst dX5_shared_1 (by decide) ?_
  refine J_ic_ge (tgt := 7) dX5_shared_2 (by decide) (fun hc => ?_) (fun hc => ?_)
  · have hf := xip hc hf
    refine J_iconst dX5_shared_5 (by decide) ?_
    exact J_ireti dX5_shared_6 rfl (xq_p hf)
  · have hf := xin' hc hf
    refine J_iconst dX5_shared_7 (by decide) ?_
    refine J_istore_n (ls' := [(2, xI 0), (0, xR l0), (1, xI l1)]) dX5_shared_8 rfl (by decide) rfl rfl ?_
    refine J_sub [1, 2, 0] rfl ?_
    exact j_Rows_shared_9 kl0 hf
theorem dX1_nodes_0 : decode cX1_nodes 0 = .ok (.iconst 0, 1) := by decide +kernel
theorem dX1_nodes_1 : decode cX1_nodes 1 = .ok (.istore_n 1, 1) := by decide +kernel
theorem dX1_nodes_2 : decode cX1_nodes 2 = .ok (.iconst 0, 1) := by decide +kernel
theorem dX1_nodes_3 : decode cX1_nodes 3 = .ok (.istore_n 2, 1) := by decide +kernel
theorem dX1_nodes_4 : decode cX1_nodes 4 = .ok (.iload_n 2, 1) := by decide +kernel
theorem dX1_nodes_5 : decode cX1_nodes 5 = .ok (.aload_n 0, 1) := by decide +kernel
theorem dX1_nodes_6 : decode cX1_nodes 6 = .ok (.getfield 14, 3) := by decide +kernel
theorem dX1_nodes_9 : decode cX1_nodes 9 = .ok (.getfield 24, 3) := by decide +kernel
theorem dX1_nodes_12 : decode cX1_nodes 12 = .ok (.if_icmp .ge 29, 3) := by decide +kernel
theorem dX1_nodes_15 : decode cX1_nodes 15 = .ok (.iload_n 1, 1) := by decide +kernel
theorem dX1_nodes_16 : decode cX1_nodes 16 = .ok (.aload_n 0, 1) := by decide +kernel
theorem dX1_nodes_17 : decode cX1_nodes 17 = .ok (.getfield 14, 3) := by decide +kernel
theorem dX1_nodes_20 : decode cX1_nodes 20 = .ok (.iload_n 2, 1) := by decide +kernel
theorem dX1_nodes_21 : decode cX1_nodes 21 = .ok (.invokevirtual 63, 3) := by decide +kernel
theorem dX1_nodes_24 : decode cX1_nodes 24 = .ok (.aload_n 0, 1) := by decide +kernel
theorem dX1_nodes_25 : decode cX1_nodes 25 = .ok (.getfield 14, 3) := by decide +kernel
theorem dX1_nodes_28 : decode cX1_nodes 28 = .ok (.iload_n 2, 1) := by decide +kernel
theorem dX1_nodes_29 : decode cX1_nodes 29 = .ok (.invokevirtual 67, 3) := by decide +kernel
theorem dX1_nodes_32 : decode cX1_nodes 32 = .ok (.isub, 1) := by decide +kernel
theorem dX1_nodes_33 : decode cX1_nodes 33 = .ok (.iadd, 1) := by decide +kernel
theorem dX1_nodes_34 : decode cX1_nodes 34 = .ok (.istore_n 1, 1) := by decide +kernel
theorem dX1_nodes_35 : decode cX1_nodes 35 = .ok (.iinc 2 1, 3) := by decide +kernel
theorem dX1_nodes_38 : decode cX1_nodes 38 = .ok (.goto (-34), 3) := by decide +kernel
theorem dX1_nodes_41 : decode cX1_nodes 41 = .ok (.iload_n 1, 1) := by decide +kernel
theorem dX1_nodes_42 : decode cX1_nodes 42 = .ok (.ireturn, 1) := by decide +kernel
theorem j_Lex_nodes_41 {l1 : Int} {h : xH} {r0 : Int}  (hf : f_Lex_nodes_41 l1 h = some r0)  : J mX1_nodes true 0 0 41 xKn [(1, xI l1)] [] h (xEq (some r0) h) := by
  unfold f_Lex_nodes_41 at hf
  refine J_iload_n 0 dX1_nodes_41 rfl rfl ?_
  exact J_ireti dX1_nodes_42 rfl (xq_p hf)
theorem j_Lex_nodes_s4 {l1 : Int} {l2 : Int} {h : xH} {x : ((Int × Int) ⊕ Int)} {Q : xQ}  (hf : f_Lex_nodes_s4 l1 l2 h = some x) (kb : ∀ (l1' : Int) (l2' : Int), x = Sum.inl (l1', l2') → J mX1_nodes true 0 0 4 xKn [(0, xR 4), (1, xI l1'), (2, xI l2')] [] h Q) (ke : ∀ (l1' : Int), x = (Sum.inr l1') → J mX1_nodes true 0 0 41 xKn [(1, xI l1')] [] h Q) : J mX1_nodes true 0 0 4 xKn [(0, xR 4), (1, xI l1), (2, xI l2)] [] h Q := by
  unfold f_Lex_nodes_s4 at hf
  refine J_iload_n 2 dX1_nodes_4 rfl rfl ?_
  refine J_aload_n 0 dX1_nodes_5 rfl rfl ?_
  refine J_getRl (j := 0) xcf1 dX1_nodes_6 kO4 (Or.inl xq194) (by decide) (by decide) rf_4_0 ?_
  refine J_getI (j := 2) xcf5 dX1_nodes_9 (xK_rg kO5) kO5 (Or.inr ⟨_, xq183⟩) (by decide) (by decide) ?_
  refine J_ic_ge (tgt := 41) dX1_nodes_12 (by decide) (fun hc => ?_) (fun hc => ?_)
  · have hf := xip hc hf
    refine J_iload_n 1 dX1_nodes_15 rfl rfl ?_
    refine J_aload_n 0 dX1_nodes_16 rfl rfl ?_
    refine J_getRl (j := 0) xcf1 dX1_nodes_17 kO4 (Or.inl xq194) (by decide) (by decide) rf_4_0 ?_
    refine J_iload_n 2 dX1_nodes_20 rfl rfl ?_
    obtain ⟨r1, hq, hf⟩ := xc1_e hf
    refine J_cVi (Mc := mX5_sizeOf) [xI l2] dX1_nodes_21 (fc_Rows_sizeOf.fit ⟨xbl rfl, xbl rfl⟩) rfl ⟨Or.inr ⟨_, xq595⟩, xq584, xq16⟩ kO5 (ci := 5) rfl rfl (xbl rfl) (xbl rfl) (jm_Rows_sizeOf kO5 hq) ?_
    refine J_aload_n 0 dX1_nodes_24 rfl rfl ?_
    refine J_getRl (j := 0) xcf1 dX1_nodes_25 kO4 (Or.inl xq194) (by decide) (by decide) rf_4_0 ?_
    refine J_iload_n 2 dX1_nodes_28 rfl rfl ?_
    obtain ⟨r2, hq, hf⟩ := xc1_e hf
    refine J_cVi (Mc := mX5_shared) [xI l2] dX1_nodes_29 (fc_Rows_shared.fit ⟨xbl rfl, xbl rfl⟩) rfl ⟨Or.inr ⟨_, xq596⟩, xq598, xq18⟩ kO5 (ci := 5) rfl rfl (xbl rfl) (xbl rfl) (jm_Rows_shared kO5 hq) ?_
    refine J_isub dX1_nodes_32 ?_
    refine J_iadd dX1_nodes_33 ?_
    obtain ⟨x3, ex3, hf⟩ := xlet_e hf
    refine J_istore_n (ls' := [(1, xI x3), (0, xR 4), (2, xI l2)]) dX1_nodes_34 rfl (by decide) ex3 rfl ?_
    obtain ⟨x4, ex4, hf⟩ := xlet_e hf
    refine J_iinc (ls' := [(2, xI x4), (1, xI x3), (0, xR 4)]) 2 dX1_nodes_35 rfl (by decide) ex4 rfl ?_
    refine J_goto (tgt := 4) dX1_nodes_38 (by decide) ?_
    refine J_sub [2, 1, 0] rfl ?_
    exact kb _ _ (xinl hf)
  · have hf := xin' hc hf
    refine J_sub [1] rfl ?_
    exact ke _ (xinl hf)
theorem j_Lex_nodes_4 {l1 : Int} {l2 : Int} {h : xH} {r0 : Int}  (hf : f_Lex_nodes_4 l1 l2 h = some r0)  : J mX1_nodes true 0 0 4 xKn [(0, xR 4), (1, xI l1), (2, xI l2)] [] h (xEq (some r0) h) := by
  unfold f_Lex_nodes_4 at hf
  obtain ⟨b0, hb0, hf⟩ := xc1_e hf
  refine xloop_ind (P := fun s : (Int × Int) => J mX1_nodes true 0 0 4 xKn [(0, xR 4), (1, xI s.1), (2, xI s.2)] [] h (xEq (some r0) h)) hb0 (fun s x1 hs ib ie => ?_)
  exact j_Lex_nodes_s4  hs (fun _ _ e => ib _ e) (fun _ e => by have := ie _ e; subst this; exact j_Lex_nodes_41  hf)
theorem jm_Lex_nodes  {h : xH} {r0 : Int}  (hf : f_Lex_nodes h = some r0) : J mX1_nodes true 0 0 0 xKn (xen 0 [xR 4]) [] h (xEq (some r0) h) := by
  unfold f_Lex_nodes at hf
  refine J_cong (ls2 := [(0, xR 4)]) (st2 := []) rfl rfl ?_
  refine J_iconst dX1_nodes_0 (by decide) ?_
  refine J_istore_n (ls' := [(1, xI 0), (0, xR 4)]) dX1_nodes_1 rfl (by decide) rfl rfl ?_
  refine J_iconst dX1_nodes_2 (by decide) ?_
  refine J_istore_n (ls' := [(2, xI 0), (1, xI 0), (0, xR 4)]) dX1_nodes_3 rfl (by decide) rfl rfl ?_
  refine J_sub [2, 1, 0] rfl ?_
  exact j_Lex_nodes_4  hf
theorem dX11_count_0 : decode cX11_count 0 = .ok (.iload_n 1, 1) := by decide +kernel
theorem dX11_count_1 : decode cX11_count 1 = .ok (.tableswitch 123 0 7 #[47, 58, 66, 77, 85, 93, 104, 115], 47) := by decide +kernel
theorem dX11_count_48 : decode cX11_count 48 = .ok (.aload_n 0, 1) := by decide +kernel
theorem dX11_count_49 : decode cX11_count 49 = .ok (.getfield 19, 3) := by decide +kernel
theorem dX11_count_52 : decode cX11_count 52 = .ok (.getfield 129, 3) := by decide +kernel
theorem dX11_count_55 : decode cX11_count 55 = .ok (.getfield 132, 3) := by decide +kernel
theorem dX11_count_58 : decode cX11_count 58 = .ok (.ireturn, 1) := by decide +kernel
theorem dX11_count_59 : decode cX11_count 59 = .ok (.aload_n 0, 1) := by decide +kernel
theorem dX11_count_60 : decode cX11_count 60 = .ok (.getfield 19, 3) := by decide +kernel
theorem dX11_count_63 : decode cX11_count 63 = .ok (.invokevirtual 147, 3) := by decide +kernel
theorem dX11_count_66 : decode cX11_count 66 = .ok (.ireturn, 1) := by decide +kernel
theorem dX11_count_67 : decode cX11_count 67 = .ok (.aload_n 0, 1) := by decide +kernel
theorem dX11_count_68 : decode cX11_count 68 = .ok (.getfield 26, 3) := by decide +kernel
theorem dX11_count_71 : decode cX11_count 71 = .ok (.getfield 151, 3) := by decide +kernel
theorem dX11_count_74 : decode cX11_count 74 = .ok (.getfield 132, 3) := by decide +kernel
theorem dX11_count_77 : decode cX11_count 77 = .ok (.ireturn, 1) := by decide +kernel
theorem dX11_count_78 : decode cX11_count 78 = .ok (.aload_n 0, 1) := by decide +kernel
theorem dX11_count_79 : decode cX11_count 79 = .ok (.getfield 61, 3) := by decide +kernel
theorem dX11_count_82 : decode cX11_count 82 = .ok (.getfield 132, 3) := by decide +kernel
theorem dX11_count_85 : decode cX11_count 85 = .ok (.ireturn, 1) := by decide +kernel
theorem dX11_count_86 : decode cX11_count 86 = .ok (.aload_n 0, 1) := by decide +kernel
theorem dX11_count_87 : decode cX11_count 87 = .ok (.getfield 12, 3) := by decide +kernel
theorem dX11_count_90 : decode cX11_count 90 = .ok (.getfield 154, 3) := by decide +kernel
theorem dX11_count_93 : decode cX11_count 93 = .ok (.ireturn, 1) := by decide +kernel
theorem dX11_count_94 : decode cX11_count 94 = .ok (.aload_n 0, 1) := by decide +kernel
theorem dX11_count_95 : decode cX11_count 95 = .ok (.getfield 79, 3) := by decide +kernel
theorem dX11_count_98 : decode cX11_count 98 = .ok (.getfield 155, 3) := by decide +kernel
theorem dX11_count_101 : decode cX11_count 101 = .ok (.getfield 159, 3) := by decide +kernel
theorem dX11_count_104 : decode cX11_count 104 = .ok (.ireturn, 1) := by decide +kernel
theorem dX11_count_105 : decode cX11_count 105 = .ok (.aload_n 0, 1) := by decide +kernel
theorem dX11_count_106 : decode cX11_count 106 = .ok (.getfield 79, 3) := by decide +kernel
theorem dX11_count_109 : decode cX11_count 109 = .ok (.getfield 155, 3) := by decide +kernel
theorem dX11_count_112 : decode cX11_count 112 = .ok (.getfield 162, 3) := by decide +kernel
theorem dX11_count_115 : decode cX11_count 115 = .ok (.ireturn, 1) := by decide +kernel
theorem dX11_count_116 : decode cX11_count 116 = .ok (.aload_n 0, 1) := by decide +kernel
theorem dX11_count_117 : decode cX11_count 117 = .ok (.getfield 88, 3) := by decide +kernel
theorem dX11_count_120 : decode cX11_count 120 = .ok (.getfield 165, 3) := by decide +kernel
theorem dX11_count_123 : decode cX11_count 123 = .ok (.ireturn, 1) := by decide +kernel
theorem dX11_count_124 : decode cX11_count 124 = .ok (.bipush (-2), 2) := by decide +kernel
theorem dX11_count_126 : decode cX11_count 126 = .ok (.ireturn, 1) := by decide +kernel
theorem jm_WM_count {l1 : Int} {h : xH} {r0 : Int}  (hf : f_WM_count l1 h = some r0) : J mX11_count true 0 0 0 xKn (xen 0 [xR 1, xI l1]) [] h (xEq (some r0) h) := by
  unfold f_WM_count at hf
  refine J_cong (ls2 := [(0, xR 1), (1, xI l1)]) (st2 := []) rfl rfl ?_
  refine J_iload_n 1 dX11_count_0 rfl rfl ?_
  refine J_by (c := l1 = 0) (fun hc0 => ?_) (fun hc0 => ?_)
  · have hf := xip hc0 hf
    refine J_tswIn (tgt := 48) dX11_count_1 0 hc0 (by decide) (by decide) rfl (by decide) ?_
    refine J_aload_n 0 dX11_count_48 rfl rfl ?_
    refine J_getRl (j := 1) xcf11 dX11_count_49 kO1 (Or.inl xq436) (by decide) (by decide) rf_1_1 ?_
    refine J_getRl (j := 0) xcf1 dX11_count_52 kO4 (Or.inr ⟨_, xq197⟩) (by decide) (by decide) rf_4_0 ?_
    refine J_getI (j := 2) xcf5 dX11_count_55 (xK_rg kO5) kO5 (Or.inr ⟨_, xq185⟩) (by decide) (by decide) ?_
    exact J_ireti dX11_count_58 rfl (xq_p hf)
  · have hf := xin' hc0 hf
    refine J_by (c := l1 = 1) (fun hc1 => ?_) (fun hc1 => ?_)
    · have hf := xip hc1 hf
      refine J_tswIn (tgt := 59) dX11_count_1 1 hc1 (by decide) (by decide) rfl (by decide) ?_
      refine J_aload_n 0 dX11_count_59 rfl rfl ?_
      refine J_getRl (j := 1) xcf11 dX11_count_60 kO1 (Or.inl xq436) (by decide) (by decide) rf_1_1 ?_
      obtain ⟨r1, hq, hf⟩ := xc1_e hf
      refine J_cVi (Mc := mX1_nodes) [] dX11_count_63 (fc_Lex_nodes.fit ⟨xbl rfl, xbl rfl⟩) rfl ⟨Or.inr ⟨_, xq591⟩, xq593, xq17⟩ kO4 (ci := 1) rfl rfl (xbl rfl) (xbl rfl) (jm_Lex_nodes  hq) ?_
      exact J_ireti dX11_count_66 rfl (xq_p hf)
    · have hf := xin' hc1 hf
      refine J_by (c := l1 = 2) (fun hc2 => ?_) (fun hc2 => ?_)
      · have hf := xip hc2 hf
        refine J_tswIn (tgt := 67) dX11_count_1 2 hc2 (by decide) (by decide) rfl (by decide) ?_
        refine J_aload_n 0 dX11_count_67 rfl rfl ?_
        refine J_getRl (j := 2) xcf11 dX11_count_68 kO1 (Or.inl xq437) (by decide) (by decide) rf_1_2 ?_
        refine J_getRl (j := 4) xcf6 dX11_count_71 kO9 (Or.inr ⟨_, xq221⟩) (by decide) (by decide) rf_9_4 ?_
        refine J_getI (j := 2) xcf5 dX11_count_74 (xK_rg kO14) kO14 (Or.inr ⟨_, xq185⟩) (by decide) (by decide) ?_
        exact J_ireti dX11_count_77 rfl (xq_p hf)
      · have hf := xin' hc2 hf
        refine J_by (c := l1 = 3) (fun hc3 => ?_) (fun hc3 => ?_)
        · have hf := xip hc3 hf
          refine J_tswIn (tgt := 78) dX11_count_1 3 hc3 (by decide) (by decide) rfl (by decide) ?_
          refine J_aload_n 0 dX11_count_78 rfl rfl ?_
          refine J_getRl (j := 8) xcf11 dX11_count_79 kO1 (Or.inl xq443) (by decide) (by decide) rf_1_8 ?_
          refine J_getI (j := 2) xcf5 dX11_count_82 (xK_rg kO40) kO40 (Or.inr ⟨_, xq185⟩) (by decide) (by decide) ?_
          exact J_ireti dX11_count_85 rfl (xq_p hf)
        · have hf := xin' hc3 hf
          refine J_by (c := l1 = 4) (fun hc4 => ?_) (fun hc4 => ?_)
          · have hf := xip hc4 hf
            refine J_tswIn (tgt := 86) dX11_count_1 4 hc4 (by decide) (by decide) rfl (by decide) ?_
            refine J_aload_n 0 dX11_count_86 rfl rfl ?_
            refine J_getRl (j := 0) xcf11 dX11_count_87 kO1 (Or.inl xq435) (by decide) (by decide) rf_1_0 ?_
            refine J_getI (j := 1) xcf7 dX11_count_90 (xK_rg kO2) kO2 (Or.inr ⟨_, xq157⟩) (by decide) (by decide) ?_
            exact J_ireti dX11_count_93 rfl (xq_p hf)
          · have hf := xin' hc4 hf
            refine J_by (c := l1 = 5) (fun hc5 => ?_) (fun hc5 => ?_)
            · have hf := xip hc5 hf
              refine J_tswIn (tgt := 94) dX11_count_1 5 hc5 (by decide) (by decide) rfl (by decide) ?_
              refine J_aload_n 0 dX11_count_94 rfl rfl ?_
              refine J_getRl (j := 12) xcf11 dX11_count_95 kO1 (Or.inl xq447) (by decide) (by decide) rf_1_12 ?_
              refine J_getRl (j := 2) xcf9 dX11_count_98 kO48 (Or.inr ⟨_, xq333⟩) (by decide) (by decide) rf_48_2 ?_
              refine J_getI (j := 5) xcf3 dX11_count_101 (xK_rg kO49) kO49 (Or.inr ⟨_, xq305⟩) (by decide) (by decide) ?_
              exact J_ireti dX11_count_104 rfl (xq_p hf)
            · have hf := xin' hc5 hf
              refine J_by (c := l1 = 6) (fun hc6 => ?_) (fun hc6 => ?_)
              · have hf := xip hc6 hf
                refine J_tswIn (tgt := 105) dX11_count_1 6 hc6 (by decide) (by decide) rfl (by decide) ?_
                refine J_aload_n 0 dX11_count_105 rfl rfl ?_
                refine J_getRl (j := 12) xcf11 dX11_count_106 kO1 (Or.inl xq447) (by decide) (by decide) rf_1_12 ?_
                refine J_getRl (j := 2) xcf9 dX11_count_109 kO48 (Or.inr ⟨_, xq333⟩) (by decide) (by decide) rf_48_2 ?_
                refine J_getI (j := 6) xcf3 dX11_count_112 (xK_rg kO49) kO49 (Or.inr ⟨_, xq307⟩) (by decide) (by decide) ?_
                exact J_ireti dX11_count_115 rfl (xq_p hf)
              · have hf := xin' hc6 hf
                refine J_by (c := l1 = 7) (fun hc7 => ?_) (fun hc7 => ?_)
                · have hf := xip hc7 hf
                  refine J_tswIn (tgt := 116) dX11_count_1 7 hc7 (by decide) (by decide) rfl (by decide) ?_
                  refine J_aload_n 0 dX11_count_116 rfl rfl ?_
                  refine J_getRl (j := 13) xcf11 dX11_count_117 kO1 (Or.inl xq448) (by decide) (by decide) rf_1_13 ?_
                  refine J_getI (j := 4) xcf0 dX11_count_120 (xK_rg kO62) kO62 (Or.inr ⟨_, xq372⟩) (by decide) (by decide) ?_
                  exact J_ireti dX11_count_123 rfl (xq_p hf)
                · have hf := xin' hc7 hf
                  refine J_tswOut (tgt := 124) dX11_count_1 (by omega) (by decide) ?_
                  refine J_bip dX11_count_124 (by decide) ?_
                  exact J_ireti dX11_count_126 rfl (xq_p hf)
end
