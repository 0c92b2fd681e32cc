section
-- ===== PART A: goes FIRST, ahead of the names: the tables' words, and 'selects' of the private methods out of them =====
/-- a private method of a class that the tables say can be made, by its rows of tables_1 -/
def lw_okq (q : MethodName × Nat) : Prop := (q.1.cls ≠ "java/lang/invoke/MethodHandle" ∧ q.1.cls ≠ "java/lang/invoke/VarHandle") ∧ Cond.instantiable q.1.cls q.2 ∈ tables_1 ∧ Cond.privateMethod q.1 ∈ tables_1 ∧ Cond.instanceMethod q.1 ∈ tables_1
theorem lw_p0 : lw_okq (⟨"WordMender$Tape", "append", "(IJ)I"⟩, 2) := ⟨⟨by decide +kernel, by decide +kernel⟩, List.mem_of_getElem? (i := 26) (by decide +kernel), List.mem_of_getElem? (i := 368) (by decide +kernel), List.mem_of_getElem? (i := 369) (by decide +kernel)⟩
theorem lw_p1 : lw_okq (⟨"WordMender$Tape", "takeRow", "(LWordMender$Row;)Z"⟩, 2) := ⟨⟨by decide +kernel, by decide +kernel⟩, List.mem_of_getElem? (i := 26) (by decide +kernel), List.mem_of_getElem? (i := 376) (by decide +kernel), List.mem_of_getElem? (i := 377) (by decide +kernel)⟩
theorem lw_p2 : lw_okq (⟨"WordMender$Tape", "read", "(IIILWordMender$Row;)Z"⟩, 2) := ⟨⟨by decide +kernel, by decide +kernel⟩, List.mem_of_getElem? (i := 26) (by decide +kernel), List.mem_of_getElem? (i := 380) (by decide +kernel), List.mem_of_getElem? (i := 381) (by decide +kernel)⟩
theorem lw_p3 : lw_okq (⟨"WordMender$Row", "clear", "()V"⟩, 2) := ⟨⟨by decide +kernel, by decide +kernel⟩, List.mem_of_getElem? (i := 116) (by decide +kernel), List.mem_of_getElem? (i := 384) (by decide +kernel), List.mem_of_getElem? (i := 385) (by decide +kernel)⟩
theorem lw_p4 : lw_okq (⟨"WordMender$Row", "append", "(I)Z"⟩, 2) := ⟨⟨by decide +kernel, by decide +kernel⟩, List.mem_of_getElem? (i := 116) (by decide +kernel), List.mem_of_getElem? (i := 388) (by decide +kernel), List.mem_of_getElem? (i := 389) (by decide +kernel)⟩
theorem lw_p5 : lw_okq (⟨"WordMender$Lexicon", "grow", "(LWordMender$Row;I)I"⟩, 3) := ⟨⟨by decide +kernel, by decide +kernel⟩, List.mem_of_getElem? (i := 41) (by decide +kernel), List.mem_of_getElem? (i := 393) (by decide +kernel), List.mem_of_getElem? (i := 394) (by decide +kernel)⟩
theorem lw_p6 : lw_okq (⟨"WordMender$Lexicon", "numberOf", "(LWordMender$Row;)I"⟩, 3) := ⟨⟨by decide +kernel, by decide +kernel⟩, List.mem_of_getElem? (i := 41) (by decide +kernel), List.mem_of_getElem? (i := 397) (by decide +kernel), List.mem_of_getElem? (i := 398) (by decide +kernel)⟩
theorem lw_p7 : lw_okq (⟨"WordMender$Lexicon", "place", "(LWordMender$Row;)I"⟩, 3) := ⟨⟨by decide +kernel, by decide +kernel⟩, List.mem_of_getElem? (i := 41) (by decide +kernel), List.mem_of_getElem? (i := 401) (by decide +kernel), List.mem_of_getElem? (i := 402) (by decide +kernel)⟩
theorem lw_p8 : lw_okq (⟨"WordMender$Rows", "order", "(ILWordMender$Row;)I"⟩, 3) := ⟨⟨by decide +kernel, by decide +kernel⟩, List.mem_of_getElem? (i := 47) (by decide +kernel), List.mem_of_getElem? (i := 405) (by decide +kernel), List.mem_of_getElem? (i := 406) (by decide +kernel)⟩
theorem lw_p9 : lw_okq (⟨"WordMender$Rows", "at", "(II)I"⟩, 3) := ⟨⟨by decide +kernel, by decide +kernel⟩, List.mem_of_getElem? (i := 47) (by decide +kernel), List.mem_of_getElem? (i := 409) (by decide +kernel), List.mem_of_getElem? (i := 410) (by decide +kernel)⟩
theorem lw_p10 : lw_okq (⟨"WordMender$Row", "at", "(I)I"⟩, 2) := ⟨⟨by decide +kernel, by decide +kernel⟩, List.mem_of_getElem? (i := 116) (by decide +kernel), List.mem_of_getElem? (i := 413) (by decide +kernel), List.mem_of_getElem? (i := 414) (by decide +kernel)⟩
theorem lw_p11 : lw_okq (⟨"WordMender$Rows", "isFull", "()Z"⟩, 3) := ⟨⟨by decide +kernel, by decide +kernel⟩, List.mem_of_getElem? (i := 47) (by decide +kernel), List.mem_of_getElem? (i := 421) (by decide +kernel), List.mem_of_getElem? (i := 422) (by decide +kernel)⟩
theorem lw_p12 : lw_okq (⟨"WordMender$Rows", "insert", "(ILWordMender$Row;)V"⟩, 3) := ⟨⟨by decide +kernel, by decide +kernel⟩, List.mem_of_getElem? (i := 47) (by decide +kernel), List.mem_of_getElem? (i := 428) (by decide +kernel), List.mem_of_getElem? (i := 429) (by decide +kernel)⟩
theorem lw_p13 : lw_okq (⟨"WordMender$Lexicon", "remove", "(LWordMender$Row;)I"⟩, 3) := ⟨⟨by decide +kernel, by decide +kernel⟩, List.mem_of_getElem? (i := 41) (by decide +kernel), List.mem_of_getElem? (i := 438) (by decide +kernel), List.mem_of_getElem? (i := 439) (by decide +kernel)⟩
theorem lw_p14 : lw_okq (⟨"WordMender$Rows", "remove", "(I)V"⟩, 3) := ⟨⟨by decide +kernel, by decide +kernel⟩, List.mem_of_getElem? (i := 47) (by decide +kernel), List.mem_of_getElem? (i := 442) (by decide +kernel), List.mem_of_getElem? (i := 443) (by decide +kernel)⟩
theorem lw_p15 : lw_okq (⟨"WordMender$Lexicon", "countOf", "(I)I"⟩, 3) := ⟨⟨by decide +kernel, by decide +kernel⟩, List.mem_of_getElem? (i := 41) (by decide +kernel), List.mem_of_getElem? (i := 455) (by decide +kernel), List.mem_of_getElem? (i := 456) (by decide +kernel)⟩
def lw_privs_1 : List (MethodName × Nat) := [(⟨"WordMender$Tape", "append", "(IJ)I"⟩, 2), (⟨"WordMender$Tape", "takeRow", "(LWordMender$Row;)Z"⟩, 2), (⟨"WordMender$Tape", "read", "(IIILWordMender$Row;)Z"⟩, 2), (⟨"WordMender$Row", "clear", "()V"⟩, 2), (⟨"WordMender$Row", "append", "(I)Z"⟩, 2), (⟨"WordMender$Lexicon", "grow", "(LWordMender$Row;I)I"⟩, 3), (⟨"WordMender$Lexicon", "numberOf", "(LWordMender$Row;)I"⟩, 3), (⟨"WordMender$Lexicon", "place", "(LWordMender$Row;)I"⟩, 3), (⟨"WordMender$Rows", "order", "(ILWordMender$Row;)I"⟩, 3), (⟨"WordMender$Rows", "at", "(II)I"⟩, 3), (⟨"WordMender$Row", "at", "(I)I"⟩, 2), (⟨"WordMender$Rows", "isFull", "()Z"⟩, 3), (⟨"WordMender$Rows", "insert", "(ILWordMender$Row;)V"⟩, 3), (⟨"WordMender$Lexicon", "remove", "(LWordMender$Row;)I"⟩, 3), (⟨"WordMender$Rows", "remove", "(I)V"⟩, 3), (⟨"WordMender$Lexicon", "countOf", "(I)I"⟩, 3)]
theorem lw_r1 : ∀ q ∈ lw_privs_1, lw_okq q := List.forall_mem_cons.mpr ⟨lw_p0, List.forall_mem_cons.mpr ⟨lw_p1, List.forall_mem_cons.mpr ⟨lw_p2, List.forall_mem_cons.mpr ⟨lw_p3, List.forall_mem_cons.mpr ⟨lw_p4, List.forall_mem_cons.mpr ⟨lw_p5, List.forall_mem_cons.mpr ⟨lw_p6, List.forall_mem_cons.mpr ⟨lw_p7, List.forall_mem_cons.mpr ⟨lw_p8, List.forall_mem_cons.mpr ⟨lw_p9, List.forall_mem_cons.mpr ⟨lw_p10, List.forall_mem_cons.mpr ⟨lw_p11, List.forall_mem_cons.mpr ⟨lw_p12, List.forall_mem_cons.mpr ⟨lw_p13, List.forall_mem_cons.mpr ⟨lw_p14, List.forall_mem_cons.mpr ⟨lw_p15, fun _ h => absurd h List.not_mem_nil⟩⟩⟩⟩⟩⟩⟩⟩⟩⟩⟩⟩⟩⟩⟩⟩
theorem lw_p16 : lw_okq (⟨"WordMender$Rows", "sizeOf", "(I)I"⟩, 3) := ⟨⟨by decide +kernel, by decide +kernel⟩, List.mem_of_getElem? (i := 47) (by decide +kernel), List.mem_of_getElem? (i := 459) (by decide +kernel), List.mem_of_getElem? (i := 460) (by decide +kernel)⟩
theorem lw_p17 : lw_okq (⟨"WordMender$Lexicon", "nodes", "()I"⟩, 3) := ⟨⟨by decide +kernel, by decide +kernel⟩, List.mem_of_getElem? (i := 41) (by decide +kernel), List.mem_of_getElem? (i := 468) (by decide +kernel), List.mem_of_getElem? (i := 469) (by decide +kernel)⟩
theorem lw_p18 : lw_okq (⟨"WordMender$Rows", "shared", "(I)I"⟩, 3) := ⟨⟨by decide +kernel, by decide +kernel⟩, List.mem_of_getElem? (i := 47) (by decide +kernel), List.mem_of_getElem? (i := 473) (by decide +kernel), List.mem_of_getElem? (i := 474) (by decide +kernel)⟩
theorem lw_p19 : lw_okq (⟨"WordMender$Slips", "setKind", "(II)I"⟩, 7) := ⟨⟨by decide +kernel, by decide +kernel⟩, List.mem_of_getElem? (i := 85) (by decide +kernel), List.mem_of_getElem? (i := 482) (by decide +kernel), List.mem_of_getElem? (i := 483) (by decide +kernel)⟩
theorem lw_p20 : lw_okq (⟨"WordMender$Slips", "setByLetters", "(IIII)I"⟩, 7) := ⟨⟨by decide +kernel, by decide +kernel⟩, List.mem_of_getElem? (i := 85) (by decide +kernel), List.mem_of_getElem? (i := 486) (by decide +kernel), List.mem_of_getElem? (i := 487) (by decide +kernel)⟩
theorem lw_p21 : lw_okq (⟨"WordMender$Tape", "takeTwo", "(ILWordMender$Row;LWordMender$Row;)Z"⟩, 2) := ⟨⟨by decide +kernel, by decide +kernel⟩, List.mem_of_getElem? (i := 26) (by decide +kernel), List.mem_of_getElem? (i := 497) (by decide +kernel), List.mem_of_getElem? (i := 498) (by decide +kernel)⟩
theorem lw_p22 : lw_okq (⟨"WordMender$Tape", "seek", "(CII)I"⟩, 2) := ⟨⟨by decide +kernel, by decide +kernel⟩, List.mem_of_getElem? (i := 26) (by decide +kernel), List.mem_of_getElem? (i := 501) (by decide +kernel), List.mem_of_getElem? (i := 502) (by decide +kernel)⟩
theorem lw_p23 : lw_okq (⟨"WordMender$Slips", "addSound", "(LWordMender$Row;LWordMender$Row;I)I"⟩, 7) := ⟨⟨by decide +kernel, by decide +kernel⟩, List.mem_of_getElem? (i := 85) (by decide +kernel), List.mem_of_getElem? (i := 505) (by decide +kernel), List.mem_of_getElem? (i := 506) (by decide +kernel)⟩
theorem lw_p24 : lw_okq (⟨"WordMender$Rows", "append", "(LWordMender$Row;)V"⟩, 3) := ⟨⟨by decide +kernel, by decide +kernel⟩, List.mem_of_getElem? (i := 47) (by decide +kernel), List.mem_of_getElem? (i := 510) (by decide +kernel), List.mem_of_getElem? (i := 511) (by decide +kernel)⟩
theorem lw_p25 : lw_okq (⟨"WordMender$Way", "measure", "(LWordMender$Row;LWordMender$Row;)I"⟩, 7) := ⟨⟨by decide +kernel, by decide +kernel⟩, List.mem_of_getElem? (i := 135) (by decide +kernel), List.mem_of_getElem? (i := 523) (by decide +kernel), List.mem_of_getElem? (i := 524) (by decide +kernel)⟩
theorem lw_p26 : lw_okq (⟨"WordMender$Way", "leastFrom", "(LWordMender$Row;ILWordMender$Row;I)I"⟩, 7) := ⟨⟨by decide +kernel, by decide +kernel⟩, List.mem_of_getElem? (i := 135) (by decide +kernel), List.mem_of_getElem? (i := 527) (by decide +kernel), List.mem_of_getElem? (i := 528) (by decide +kernel)⟩
theorem lw_p27 : lw_okq (⟨"WordMender$Slips", "codes", "()I"⟩, 7) := ⟨⟨by decide +kernel, by decide +kernel⟩, List.mem_of_getElem? (i := 85) (by decide +kernel), List.mem_of_getElem? (i := 532) (by decide +kernel), List.mem_of_getElem? (i := 533) (by decide +kernel)⟩
theorem lw_p28 : lw_okq (⟨"WordMender$Way", "sumBy", "(ILWordMender$Row;ILWordMender$Row;I)I"⟩, 7) := ⟨⟨by decide +kernel, by decide +kernel⟩, List.mem_of_getElem? (i := 135) (by decide +kernel), List.mem_of_getElem? (i := 536) (by decide +kernel), List.mem_of_getElem? (i := 537) (by decide +kernel)⟩
theorem lw_p29 : lw_okq (⟨"WordMender$Slips", "priceAt", "(ILWordMender$Row;ILWordMender$Row;I)I"⟩, 7) := ⟨⟨by decide +kernel, by decide +kernel⟩, List.mem_of_getElem? (i := 85) (by decide +kernel), List.mem_of_getElem? (i := 540) (by decide +kernel), List.mem_of_getElem? (i := 541) (by decide +kernel)⟩
theorem lw_p30 : lw_okq (⟨"WordMender$Rows", "standsIn", "(ILWordMender$Row;I)Z"⟩, 3) := ⟨⟨by decide +kernel, by decide +kernel⟩, List.mem_of_getElem? (i := 47) (by decide +kernel), List.mem_of_getElem? (i := 548) (by decide +kernel), List.mem_of_getElem? (i := 549) (by decide +kernel)⟩
theorem lw_p31 : lw_okq (⟨"WordMender$Slips", "soundPrice", "(I)I"⟩, 7) := ⟨⟨by decide +kernel, by decide +kernel⟩, List.mem_of_getElem? (i := 85) (by decide +kernel), List.mem_of_getElem? (i := 552) (by decide +kernel), List.mem_of_getElem? (i := 553) (by decide +kernel)⟩
def lw_privs_2 : List (MethodName × Nat) := [(⟨"WordMender$Rows", "sizeOf", "(I)I"⟩, 3), (⟨"WordMender$Lexicon", "nodes", "()I"⟩, 3), (⟨"WordMender$Rows", "shared", "(I)I"⟩, 3), (⟨"WordMender$Slips", "setKind", "(II)I"⟩, 7), (⟨"WordMender$Slips", "setByLetters", "(IIII)I"⟩, 7), (⟨"WordMender$Tape", "takeTwo", "(ILWordMender$Row;LWordMender$Row;)Z"⟩, 2), (⟨"WordMender$Tape", "seek", "(CII)I"⟩, 2), (⟨"WordMender$Slips", "addSound", "(LWordMender$Row;LWordMender$Row;I)I"⟩, 7), (⟨"WordMender$Rows", "append", "(LWordMender$Row;)V"⟩, 3), (⟨"WordMender$Way", "measure", "(LWordMender$Row;LWordMender$Row;)I"⟩, 7), (⟨"WordMender$Way", "leastFrom", "(LWordMender$Row;ILWordMender$Row;I)I"⟩, 7), (⟨"WordMender$Slips", "codes", "()I"⟩, 7), (⟨"WordMender$Way", "sumBy", "(ILWordMender$Row;ILWordMender$Row;I)I"⟩, 7), (⟨"WordMender$Slips", "priceAt", "(ILWordMender$Row;ILWordMender$Row;I)I"⟩, 7), (⟨"WordMender$Rows", "standsIn", "(ILWordMender$Row;I)Z"⟩, 3), (⟨"WordMender$Slips", "soundPrice", "(I)I"⟩, 7)]
theorem lw_r2 : ∀ q ∈ lw_privs_2, lw_okq q := List.forall_mem_cons.mpr ⟨lw_p16, List.forall_mem_cons.mpr ⟨lw_p17, List.forall_mem_cons.mpr ⟨lw_p18, List.forall_mem_cons.mpr ⟨lw_p19, List.forall_mem_cons.mpr ⟨lw_p20, List.forall_mem_cons.mpr ⟨lw_p21, List.forall_mem_cons.mpr ⟨lw_p22, List.forall_mem_cons.mpr ⟨lw_p23, List.forall_mem_cons.mpr ⟨lw_p24, List.forall_mem_cons.mpr ⟨lw_p25, List.forall_mem_cons.mpr ⟨lw_p26, List.forall_mem_cons.mpr ⟨lw_p27, List.forall_mem_cons.mpr ⟨lw_p28, List.forall_mem_cons.mpr ⟨lw_p29, List.forall_mem_cons.mpr ⟨lw_p30, List.forall_mem_cons.mpr ⟨lw_p31, fun _ h => absurd h List.not_mem_nil⟩⟩⟩⟩⟩⟩⟩⟩⟩⟩⟩⟩⟩⟩⟩⟩
theorem lw_p32 : lw_okq (⟨"WordMender$Slips", "meantTaken", "(I)I"⟩, 7) := ⟨⟨by decide +kernel, by decide +kernel⟩, List.mem_of_getElem? (i := 85) (by decide +kernel), List.mem_of_getElem? (i := 556) (by decide +kernel), List.mem_of_getElem? (i := 557) (by decide +kernel)⟩
theorem lw_p33 : lw_okq (⟨"WordMender$Slips", "typedTaken", "(I)I"⟩, 7) := ⟨⟨by decide +kernel, by decide +kernel⟩, List.mem_of_getElem? (i := 85) (by decide +kernel), List.mem_of_getElem? (i := 563) (by decide +kernel), List.mem_of_getElem? (i := 564) (by decide +kernel)⟩
theorem lw_p34 : lw_okq (⟨"WordMender$Way", "trace", "(LWordMender$Row;LWordMender$Row;)V"⟩, 7) := ⟨⟨by decide +kernel, by decide +kernel⟩, List.mem_of_getElem? (i := 135) (by decide +kernel), List.mem_of_getElem? (i := 570) (by decide +kernel), List.mem_of_getElem? (i := 571) (by decide +kernel)⟩
theorem lw_p35 : lw_okq (⟨"WordMender$Way", "firstCode", "(LWordMender$Row;ILWordMender$Row;I)I"⟩, 7) := ⟨⟨by decide +kernel, by decide +kernel⟩, List.mem_of_getElem? (i := 135) (by decide +kernel), List.mem_of_getElem? (i := 574) (by decide +kernel), List.mem_of_getElem? (i := 575) (by decide +kernel)⟩
theorem lw_p36 : lw_okq (⟨"WordMender$Way", "tell", "(II)I"⟩, 7) := ⟨⟨by decide +kernel, by decide +kernel⟩, List.mem_of_getElem? (i := 135) (by decide +kernel), List.mem_of_getElem? (i := 582) (by decide +kernel), List.mem_of_getElem? (i := 583) (by decide +kernel)⟩
theorem lw_p37 : lw_okq (⟨"WordMender$Way", "codeAt", "(I)I"⟩, 7) := ⟨⟨by decide +kernel, by decide +kernel⟩, List.mem_of_getElem? (i := 135) (by decide +kernel), List.mem_of_getElem? (i := 586) (by decide +kernel), List.mem_of_getElem? (i := 587) (by decide +kernel)⟩
theorem lw_p38 : lw_okq (⟨"WordMender$Walk", "go", "(LWordMender$Row;IZ)V"⟩, 9) := ⟨⟨by decide +kernel, by decide +kernel⟩, List.mem_of_getElem? (i := 164) (by decide +kernel), List.mem_of_getElem? (i := 598) (by decide +kernel), List.mem_of_getElem? (i := 599) (by decide +kernel)⟩
theorem lw_p39 : lw_okq (⟨"WordMender$Met", "clear", "(I)V"⟩, 8) := ⟨⟨by decide +kernel, by decide +kernel⟩, List.mem_of_getElem? (i := 170) (by decide +kernel), List.mem_of_getElem? (i := 602) (by decide +kernel), List.mem_of_getElem? (i := 603) (by decide +kernel)⟩
theorem lw_p40 : lw_okq (⟨"WordMender$Rows", "copyTo", "(ILWordMender$Row;)V"⟩, 3) := ⟨⟨by decide +kernel, by decide +kernel⟩, List.mem_of_getElem? (i := 47) (by decide +kernel), List.mem_of_getElem? (i := 608) (by decide +kernel), List.mem_of_getElem? (i := 609) (by decide +kernel)⟩
theorem lw_p41 : lw_okq (⟨"WordMender$Walk", "descend", "(ILWordMender$Row;IZ)I"⟩, 9) := ⟨⟨by decide +kernel, by decide +kernel⟩, List.mem_of_getElem? (i := 164) (by decide +kernel), List.mem_of_getElem? (i := 615) (by decide +kernel), List.mem_of_getElem? (i := 616) (by decide +kernel)⟩
theorem lw_p42 : lw_okq (⟨"WordMender$Walk", "fill", "(ILWordMender$Row;)V"⟩, 9) := ⟨⟨by decide +kernel, by decide +kernel⟩, List.mem_of_getElem? (i := 164) (by decide +kernel), List.mem_of_getElem? (i := 620) (by decide +kernel), List.mem_of_getElem? (i := 621) (by decide +kernel)⟩
theorem lw_p43 : lw_okq (⟨"WordMender$Walk", "reach", "(IILWordMender$Row;)V"⟩, 9) := ⟨⟨by decide +kernel, by decide +kernel⟩, List.mem_of_getElem? (i := 164) (by decide +kernel), List.mem_of_getElem? (i := 626) (by decide +kernel), List.mem_of_getElem? (i := 627) (by decide +kernel)⟩
theorem lw_p44 : lw_okq (⟨"WordMender$Slips", "mayStand", "(ILWordMender$Row;I)Z"⟩, 7) := ⟨⟨by decide +kernel, by decide +kernel⟩, List.mem_of_getElem? (i := 85) (by decide +kernel), List.mem_of_getElem? (i := 631) (by decide +kernel), List.mem_of_getElem? (i := 632) (by decide +kernel)⟩
theorem lw_p45 : lw_okq (⟨"WordMender$Walk", "sumUp", "(ILWordMender$Row;)V"⟩, 9) := ⟨⟨by decide +kernel, by decide +kernel⟩, List.mem_of_getElem? (i := 164) (by decide +kernel), List.mem_of_getElem? (i := 637) (by decide +kernel), List.mem_of_getElem? (i := 638) (by decide +kernel)⟩
theorem lw_p46 : lw_okq (⟨"WordMender$Walk", "isLeft", "(II)Z"⟩, 9) := ⟨⟨by decide +kernel, by decide +kernel⟩, List.mem_of_getElem? (i := 164) (by decide +kernel), List.mem_of_getElem? (i := 642) (by decide +kernel), List.mem_of_getElem? (i := 643) (by decide +kernel)⟩
theorem lw_p47 : lw_okq (⟨"WordMender$Met", "keep", "(IIZZ[I)V"⟩, 8) := ⟨⟨by decide +kernel, by decide +kernel⟩, List.mem_of_getElem? (i := 170) (by decide +kernel), List.mem_of_getElem? (i := 647) (by decide +kernel), List.mem_of_getElem? (i := 648) (by decide +kernel)⟩
def lw_privs_3 : List (MethodName × Nat) := [(⟨"WordMender$Slips", "meantTaken", "(I)I"⟩, 7), (⟨"WordMender$Slips", "typedTaken", "(I)I"⟩, 7), (⟨"WordMender$Way", "trace", "(LWordMender$Row;LWordMender$Row;)V"⟩, 7), (⟨"WordMender$Way", "firstCode", "(LWordMender$Row;ILWordMender$Row;I)I"⟩, 7), (⟨"WordMender$Way", "tell", "(II)I"⟩, 7), (⟨"WordMender$Way", "codeAt", "(I)I"⟩, 7), (⟨"WordMender$Walk", "go", "(LWordMender$Row;IZ)V"⟩, 9), (⟨"WordMender$Met", "clear", "(I)V"⟩, 8), (⟨"WordMender$Rows", "copyTo", "(ILWordMender$Row;)V"⟩, 3), (⟨"WordMender$Walk", "descend", "(ILWordMender$Row;IZ)I"⟩, 9), (⟨"WordMender$Walk", "fill", "(ILWordMender$Row;)V"⟩, 9), (⟨"WordMender$Walk", "reach", "(IILWordMender$Row;)V"⟩, 9), (⟨"WordMender$Slips", "mayStand", "(ILWordMender$Row;I)Z"⟩, 7), (⟨"WordMender$Walk", "sumUp", "(ILWordMender$Row;)V"⟩, 9), (⟨"WordMender$Walk", "isLeft", "(II)Z"⟩, 9), (⟨"WordMender$Met", "keep", "(IIZZ[I)V"⟩, 8)]
theorem lw_r3 : ∀ q ∈ lw_privs_3, lw_okq q := List.forall_mem_cons.mpr ⟨lw_p32, List.forall_mem_cons.mpr ⟨lw_p33, List.forall_mem_cons.mpr ⟨lw_p34, List.forall_mem_cons.mpr ⟨lw_p35, List.forall_mem_cons.mpr ⟨lw_p36, List.forall_mem_cons.mpr ⟨lw_p37, List.forall_mem_cons.mpr ⟨lw_p38, List.forall_mem_cons.mpr ⟨lw_p39, List.forall_mem_cons.mpr ⟨lw_p40, List.forall_mem_cons.mpr ⟨lw_p41, List.forall_mem_cons.mpr ⟨lw_p42, List.forall_mem_cons.mpr ⟨lw_p43, List.forall_mem_cons.mpr ⟨lw_p44, List.forall_mem_cons.mpr ⟨lw_p45, List.forall_mem_cons.mpr ⟨lw_p46, List.forall_mem_cons.mpr ⟨lw_p47, fun _ h => absurd h List.not_mem_nil⟩⟩⟩⟩⟩⟩⟩⟩⟩⟩⟩⟩⟩⟩⟩⟩
theorem lw_p48 : lw_okq (⟨"WordMender$Found", "gather", "([III)I"⟩, 5) := ⟨⟨by decide +kernel, by decide +kernel⟩, List.mem_of_getElem? (i := 238) (by decide +kernel), List.mem_of_getElem? (i := 652) (by decide +kernel), List.mem_of_getElem? (i := 653) (by decide +kernel)⟩
theorem lw_p49 : lw_okq (⟨"WordMender$Found", "lay", "(III)V"⟩, 5) := ⟨⟨by decide +kernel, by decide +kernel⟩, List.mem_of_getElem? (i := 238) (by decide +kernel), List.mem_of_getElem? (i := 657) (by decide +kernel), List.mem_of_getElem? (i := 658) (by decide +kernel)⟩
theorem lw_p50 : lw_okq (⟨"WordMender$Lexicon", "share", "(I)I"⟩, 3) := ⟨⟨by decide +kernel, by decide +kernel⟩, List.mem_of_getElem? (i := 41) (by decide +kernel), List.mem_of_getElem? (i := 661) (by decide +kernel), List.mem_of_getElem? (i := 662) (by decide +kernel)⟩
theorem lw_p51 : lw_okq (⟨"WordMender$Found", "isAhead", "(III)Z"⟩, 5) := ⟨⟨by decide +kernel, by decide +kernel⟩, List.mem_of_getElem? (i := 238) (by decide +kernel), List.mem_of_getElem? (i := 667) (by decide +kernel), List.mem_of_getElem? (i := 668) (by decide +kernel)⟩
theorem lw_p52 : lw_okq (⟨"WordMender$Found", "move", "(III)V"⟩, 5) := ⟨⟨by decide +kernel, by decide +kernel⟩, List.mem_of_getElem? (i := 238) (by decide +kernel), List.mem_of_getElem? (i := 672) (by decide +kernel), List.mem_of_getElem? (i := 673) (by decide +kernel)⟩
theorem lw_p53 : lw_okq (⟨"WordMender$Found", "tell", "(II)I"⟩, 5) := ⟨⟨by decide +kernel, by decide +kernel⟩, List.mem_of_getElem? (i := 238) (by decide +kernel), List.mem_of_getElem? (i := 689) (by decide +kernel), List.mem_of_getElem? (i := 690) (by decide +kernel)⟩
theorem lw_p54 : lw_okq (⟨"WordMender$Met", "tell", "(II)I"⟩, 8) := ⟨⟨by decide +kernel, by decide +kernel⟩, List.mem_of_getElem? (i := 170) (by decide +kernel), List.mem_of_getElem? (i := 697) (by decide +kernel), List.mem_of_getElem? (i := 698) (by decide +kernel)⟩
theorem lw_p55 : lw_okq (⟨"WordMender$Met", "least", "(I)I"⟩, 8) := ⟨⟨by decide +kernel, by decide +kernel⟩, List.mem_of_getElem? (i := 170) (by decide +kernel), List.mem_of_getElem? (i := 701) (by decide +kernel), List.mem_of_getElem? (i := 702) (by decide +kernel)⟩
theorem lw_p56 : lw_okq (⟨"WordMender$Met", "stateAt", "(II)I"⟩, 8) := ⟨⟨by decide +kernel, by decide +kernel⟩, List.mem_of_getElem? (i := 170) (by decide +kernel), List.mem_of_getElem? (i := 706) (by decide +kernel), List.mem_of_getElem? (i := 707) (by decide +kernel)⟩
theorem lw_p57 : lw_okq (⟨"WordMender", "findWays", "()Z"⟩, 17) := ⟨⟨by decide +kernel, by decide +kernel⟩, List.mem_of_getElem? (i := 18) (by decide +kernel), List.mem_of_getElem? (i := 723) (by decide +kernel), List.mem_of_getElem? (i := 724) (by decide +kernel)⟩
theorem lw_p58 : lw_okq (⟨"WordMender", "readPair", "(I)V"⟩, 17) := ⟨⟨by decide +kernel, by decide +kernel⟩, List.mem_of_getElem? (i := 18) (by decide +kernel), List.mem_of_getElem? (i := 727) (by decide +kernel), List.mem_of_getElem? (i := 728) (by decide +kernel)⟩
theorem lw_p59 : lw_okq (⟨"WordMender", "noteWay", "(I)Z"⟩, 17) := ⟨⟨by decide +kernel, by decide +kernel⟩, List.mem_of_getElem? (i := 18) (by decide +kernel), List.mem_of_getElem? (i := 732) (by decide +kernel), List.mem_of_getElem? (i := 733) (by decide +kernel)⟩
theorem lw_p60 : lw_okq (⟨"WordMender$Slips", "setByCounts", "([I)Z"⟩, 7) := ⟨⟨by decide +kernel, by decide +kernel⟩, List.mem_of_getElem? (i := 85) (by decide +kernel), List.mem_of_getElem? (i := 737) (by decide +kernel), List.mem_of_getElem? (i := 738) (by decide +kernel)⟩
theorem lw_p61 : lw_okq (⟨"WordMender$Tape", "takeText", "(LWordMender$Rows;LWordMender$Row;)Z"⟩, 2) := ⟨⟨by decide +kernel, by decide +kernel⟩, List.mem_of_getElem? (i := 26) (by decide +kernel), List.mem_of_getElem? (i := 749) (by decide +kernel), List.mem_of_getElem? (i := 750) (by decide +kernel)⟩
theorem lw_p62 : lw_okq (⟨"WordMender$Rows", "clear", "()V"⟩, 3) := ⟨⟨by decide +kernel, by decide +kernel⟩, List.mem_of_getElem? (i := 47) (by decide +kernel), List.mem_of_getElem? (i := 753) (by decide +kernel), List.mem_of_getElem? (i := 754) (by decide +kernel)⟩
theorem lw_p63 : lw_okq (⟨"WordMender$Mending", "clear", "(I)V"⟩, 8) := ⟨⟨by decide +kernel, by decide +kernel⟩, List.mem_of_getElem? (i := 261) (by decide +kernel), List.mem_of_getElem? (i := 758) (by decide +kernel), List.mem_of_getElem? (i := 759) (by decide +kernel)⟩
def lw_privs_4 : List (MethodName × Nat) := [(⟨"WordMender$Found", "gather", "([III)I"⟩, 5), (⟨"WordMender$Found", "lay", "(III)V"⟩, 5), (⟨"WordMender$Lexicon", "share", "(I)I"⟩, 3), (⟨"WordMender$Found", "isAhead", "(III)Z"⟩, 5), (⟨"WordMender$Found", "move", "(III)V"⟩, 5), (⟨"WordMender$Found", "tell", "(II)I"⟩, 5), (⟨"WordMender$Met", "tell", "(II)I"⟩, 8), (⟨"WordMender$Met", "least", "(I)I"⟩, 8), (⟨"WordMender$Met", "stateAt", "(II)I"⟩, 8), (⟨"WordMender", "findWays", "()Z"⟩, 17), (⟨"WordMender", "readPair", "(I)V"⟩, 17), (⟨"WordMender", "noteWay", "(I)Z"⟩, 17), (⟨"WordMender$Slips", "setByCounts", "([I)Z"⟩, 7), (⟨"WordMender$Tape", "takeText", "(LWordMender$Rows;LWordMender$Row;)Z"⟩, 2), (⟨"WordMender$Rows", "clear", "()V"⟩, 3), (⟨"WordMender$Mending", "clear", "(I)V"⟩, 8)]
theorem lw_r4 : ∀ q ∈ lw_privs_4, lw_okq q := List.forall_mem_cons.mpr ⟨lw_p48, List.forall_mem_cons.mpr ⟨lw_p49, List.forall_mem_cons.mpr ⟨lw_p50, List.forall_mem_cons.mpr ⟨lw_p51, List.forall_mem_cons.mpr ⟨lw_p52, List.forall_mem_cons.mpr ⟨lw_p53, List.forall_mem_cons.mpr ⟨lw_p54, List.forall_mem_cons.mpr ⟨lw_p55, List.forall_mem_cons.mpr ⟨lw_p56, List.forall_mem_cons.mpr ⟨lw_p57, List.forall_mem_cons.mpr ⟨lw_p58, List.forall_mem_cons.mpr ⟨lw_p59, List.forall_mem_cons.mpr ⟨lw_p60, List.forall_mem_cons.mpr ⟨lw_p61, List.forall_mem_cons.mpr ⟨lw_p62, List.forall_mem_cons.mpr ⟨lw_p63, fun _ h => absurd h List.not_mem_nil⟩⟩⟩⟩⟩⟩⟩⟩⟩⟩⟩⟩⟩⟩⟩⟩
theorem lw_p64 : lw_okq (⟨"WordMender$Mending", "offer", "(IIIII)V"⟩, 8) := ⟨⟨by decide +kernel, by decide +kernel⟩, List.mem_of_getElem? (i := 261) (by decide +kernel), List.mem_of_getElem? (i := 765) (by decide +kernel), List.mem_of_getElem? (i := 766) (by decide +kernel)⟩
theorem lw_p65 : lw_okq (⟨"WordMender$Mending", "cellOf", "(II)I"⟩, 8) := ⟨⟨by decide +kernel, by decide +kernel⟩, List.mem_of_getElem? (i := 261) (by decide +kernel), List.mem_of_getElem? (i := 769) (by decide +kernel), List.mem_of_getElem? (i := 770) (by decide +kernel)⟩
theorem lw_p66 : lw_okq (⟨"WordMender", "offerSplit", "(I)V"⟩, 17) := ⟨⟨by decide +kernel, by decide +kernel⟩, List.mem_of_getElem? (i := 18) (by decide +kernel), List.mem_of_getElem? (i := 773) (by decide +kernel), List.mem_of_getElem? (i := 774) (by decide +kernel)⟩
theorem lw_p67 : lw_okq (⟨"WordMender$Mending", "offers", "(II)Z"⟩, 8) := ⟨⟨by decide +kernel, by decide +kernel⟩, List.mem_of_getElem? (i := 261) (by decide +kernel), List.mem_of_getElem? (i := 777) (by decide +kernel), List.mem_of_getElem? (i := 778) (by decide +kernel)⟩
theorem lw_p68 : lw_okq (⟨"WordMender$Slips", "kindPrice", "(I)I"⟩, 7) := ⟨⟨by decide +kernel, by decide +kernel⟩, List.mem_of_getElem? (i := 85) (by decide +kernel), List.mem_of_getElem? (i := 782) (by decide +kernel), List.mem_of_getElem? (i := 783) (by decide +kernel)⟩
theorem lw_p69 : lw_okq (⟨"WordMender", "offerJoin", "(I)V"⟩, 17) := ⟨⟨by decide +kernel, by decide +kernel⟩, List.mem_of_getElem? (i := 18) (by decide +kernel), List.mem_of_getElem? (i := 786) (by decide +kernel), List.mem_of_getElem? (i := 787) (by decide +kernel)⟩
theorem lw_p70 : lw_okq (⟨"WordMender", "offerMended", "(II)V"⟩, 17) := ⟨⟨by decide +kernel, by decide +kernel⟩, List.mem_of_getElem? (i := 18) (by decide +kernel), List.mem_of_getElem? (i := 791) (by decide +kernel), List.mem_of_getElem? (i := 792) (by decide +kernel)⟩
theorem lw_p71 : lw_okq (⟨"WordMender$Mending", "choose", "()I"⟩, 8) := ⟨⟨by decide +kernel, by decide +kernel⟩, List.mem_of_getElem? (i := 261) (by decide +kernel), List.mem_of_getElem? (i := 795) (by decide +kernel), List.mem_of_getElem? (i := 796) (by decide +kernel)⟩
theorem lw_p72 : lw_okq (⟨"WordMender$Mending", "bestKind", "(I)I"⟩, 8) := ⟨⟨by decide +kernel, by decide +kernel⟩, List.mem_of_getElem? (i := 261) (by decide +kernel), List.mem_of_getElem? (i := 799) (by decide +kernel), List.mem_of_getElem? (i := 800) (by decide +kernel)⟩
theorem lw_p73 : lw_okq (⟨"WordMender$Mending", "sumBy", "(II)I"⟩, 8) := ⟨⟨by decide +kernel, by decide +kernel⟩, List.mem_of_getElem? (i := 261) (by decide +kernel), List.mem_of_getElem? (i := 804) (by decide +kernel), List.mem_of_getElem? (i := 805) (by decide +kernel)⟩
theorem lw_p74 : lw_okq (⟨"WordMender$Mending", "tell", "(II)I"⟩, 8) := ⟨⟨by decide +kernel, by decide +kernel⟩, List.mem_of_getElem? (i := 261) (by decide +kernel), List.mem_of_getElem? (i := 815) (by decide +kernel), List.mem_of_getElem? (i := 816) (by decide +kernel)⟩
theorem lw_p75 : lw_okq (⟨"WordMender", "isThing", "(II)Z"⟩, 17) := ⟨⟨by decide +kernel, by decide +kernel⟩, List.mem_of_getElem? (i := 18) (by decide +kernel), List.mem_of_getElem? (i := 823) (by decide +kernel), List.mem_of_getElem? (i := 824) (by decide +kernel)⟩
theorem lw_p76 : lw_okq (⟨"WordMender$Trays", "refuse", "(I)I"⟩, 4) := ⟨⟨by decide +kernel, by decide +kernel⟩, List.mem_of_getElem? (i := 292) (by decide +kernel), List.mem_of_getElem? (i := 827) (by decide +kernel), List.mem_of_getElem? (i := 828) (by decide +kernel)⟩
theorem lw_p77 : lw_okq (⟨"WordMender$Trays", "clear", "(II)V"⟩, 4) := ⟨⟨by decide +kernel, by decide +kernel⟩, List.mem_of_getElem? (i := 292) (by decide +kernel), List.mem_of_getElem? (i := 831) (by decide +kernel), List.mem_of_getElem? (i := 832) (by decide +kernel)⟩
theorem lw_p78 : lw_okq (⟨"WordMender", "layLetters", "(II)V"⟩, 17) := ⟨⟨by decide +kernel, by decide +kernel⟩, List.mem_of_getElem? (i := 18) (by decide +kernel), List.mem_of_getElem? (i := 835) (by decide +kernel), List.mem_of_getElem? (i := 836) (by decide +kernel)⟩
theorem lw_p79 : lw_okq (⟨"WordMender$Trays", "lay", "(II)V"⟩, 4) := ⟨⟨by decide +kernel, by decide +kernel⟩, List.mem_of_getElem? (i := 292) (by decide +kernel), List.mem_of_getElem? (i := 839) (by decide +kernel), List.mem_of_getElem? (i := 840) (by decide +kernel)⟩
def lw_privs_5 : List (MethodName × Nat) := [(⟨"WordMender$Mending", "offer", "(IIIII)V"⟩, 8), (⟨"WordMender$Mending", "cellOf", "(II)I"⟩, 8), (⟨"WordMender", "offerSplit", "(I)V"⟩, 17), (⟨"WordMender$Mending", "offers", "(II)Z"⟩, 8), (⟨"WordMender$Slips", "kindPrice", "(I)I"⟩, 7), (⟨"WordMender", "offerJoin", "(I)V"⟩, 17), (⟨"WordMender", "offerMended", "(II)V"⟩, 17), (⟨"WordMender$Mending", "choose", "()I"⟩, 8), (⟨"WordMender$Mending", "bestKind", "(I)I"⟩, 8), (⟨"WordMender$Mending", "sumBy", "(II)I"⟩, 8), (⟨"WordMender$Mending", "tell", "(II)I"⟩, 8), (⟨"WordMender", "isThing", "(II)Z"⟩, 17), (⟨"WordMender$Trays", "refuse", "(I)I"⟩, 4), (⟨"WordMender$Trays", "clear", "(II)V"⟩, 4), (⟨"WordMender", "layLetters", "(II)V"⟩, 17), (⟨"WordMender$Trays", "lay", "(II)V"⟩, 4)]
theorem lw_r5 : ∀ q ∈ lw_privs_5, lw_okq q := List.forall_mem_cons.mpr ⟨lw_p64, List.forall_mem_cons.mpr ⟨lw_p65, List.forall_mem_cons.mpr ⟨lw_p66, List.forall_mem_cons.mpr ⟨lw_p67, List.forall_mem_cons.mpr ⟨lw_p68, List.forall_mem_cons.mpr ⟨lw_p69, List.forall_mem_cons.mpr ⟨lw_p70, List.forall_mem_cons.mpr ⟨lw_p71, List.forall_mem_cons.mpr ⟨lw_p72, List.forall_mem_cons.mpr ⟨lw_p73, List.forall_mem_cons.mpr ⟨lw_p74, List.forall_mem_cons.mpr ⟨lw_p75, List.forall_mem_cons.mpr ⟨lw_p76, List.forall_mem_cons.mpr ⟨lw_p77, List.forall_mem_cons.mpr ⟨lw_p78, List.forall_mem_cons.mpr ⟨lw_p79, fun _ h => absurd h List.not_mem_nil⟩⟩⟩⟩⟩⟩⟩⟩⟩⟩⟩⟩⟩⟩⟩⟩
theorem lw_p80 : lw_okq (⟨"WordMender", "layState", "(II)V"⟩, 17) := ⟨⟨by decide +kernel, by decide +kernel⟩, List.mem_of_getElem? (i := 18) (by decide +kernel), List.mem_of_getElem? (i := 843) (by decide +kernel), List.mem_of_getElem? (i := 844) (by decide +kernel)⟩
theorem lw_p81 : lw_okq (⟨"WordMender", "layPrices", "(I)V"⟩, 17) := ⟨⟨by decide +kernel, by decide +kernel⟩, List.mem_of_getElem? (i := 18) (by decide +kernel), List.mem_of_getElem? (i := 848) (by decide +kernel), List.mem_of_getElem? (i := 849) (by decide +kernel)⟩
theorem lw_p82 : lw_okq (⟨"WordMender", "layTruths", "(II)V"⟩, 17) := ⟨⟨by decide +kernel, by decide +kernel⟩, List.mem_of_getElem? (i := 18) (by decide +kernel), List.mem_of_getElem? (i := 852) (by decide +kernel), List.mem_of_getElem? (i := 853) (by decide +kernel)⟩
theorem lw_p83 : lw_okq (⟨"WordMender$Trays", "done", "(I)I"⟩, 4) := ⟨⟨by decide +kernel, by decide +kernel⟩, List.mem_of_getElem? (i := 292) (by decide +kernel), List.mem_of_getElem? (i := 856) (by decide +kernel), List.mem_of_getElem? (i := 857) (by decide +kernel)⟩
theorem lw_p84 : lw_okq (⟨"WordMender$Trays", "work", "(III)I"⟩, 4) := ⟨⟨by decide +kernel, by decide +kernel⟩, List.mem_of_getElem? (i := 292) (by decide +kernel), List.mem_of_getElem? (i := 864) (by decide +kernel), List.mem_of_getElem? (i := 865) (by decide +kernel)⟩
theorem lw_p85 : lw_okq (⟨"WordMender$Trays", "read", "(III)I"⟩, 4) := ⟨⟨by decide +kernel, by decide +kernel⟩, List.mem_of_getElem? (i := 292) (by decide +kernel), List.mem_of_getElem? (i := 869) (by decide +kernel), List.mem_of_getElem? (i := 870) (by decide +kernel)⟩
theorem lw_p86 : lw_okq (⟨"WordMender$Trays", "whyNot", "(II)I"⟩, 4) := ⟨⟨by decide +kernel, by decide +kernel⟩, List.mem_of_getElem? (i := 292) (by decide +kernel), List.mem_of_getElem? (i := 873) (by decide +kernel), List.mem_of_getElem? (i := 874) (by decide +kernel)⟩
theorem lw_p87 : lw_okq (⟨"WordMender$Trays", "copy", "(II)I"⟩, 4) := ⟨⟨by decide +kernel, by decide +kernel⟩, List.mem_of_getElem? (i := 292) (by decide +kernel), List.mem_of_getElem? (i := 879) (by decide +kernel), List.mem_of_getElem? (i := 880) (by decide +kernel)⟩
theorem lw_p88 : lw_okq (⟨"WordMender$Trays", "layAmongStates", "(I)I"⟩, 4) := ⟨⟨by decide +kernel, by decide +kernel⟩, List.mem_of_getElem? (i := 292) (by decide +kernel), List.mem_of_getElem? (i := 883) (by decide +kernel), List.mem_of_getElem? (i := 884) (by decide +kernel)⟩
theorem lw_p89 : lw_okq (⟨"WordMenderModel", "readsOne", "()Z"⟩, 86) := ⟨⟨by decide +kernel, by decide +kernel⟩, List.mem_of_getElem? (i := 891) (by decide +kernel), List.mem_of_getElem? (i := 1167) (by decide +kernel), List.mem_of_getElem? (i := 1168) (by decide +kernel)⟩
theorem lw_p90 : lw_okq (⟨"WordMenderModel", "reads", "(III)Z"⟩, 86) := ⟨⟨by decide +kernel, by decide +kernel⟩, List.mem_of_getElem? (i := 891) (by decide +kernel), List.mem_of_getElem? (i := 1171) (by decide +kernel), List.mem_of_getElem? (i := 1172) (by decide +kernel)⟩
theorem lw_p91 : lw_okq (⟨"WordMenderModel", "wordOf", "(I[II)I"⟩, 86) := ⟨⟨by decide +kernel, by decide +kernel⟩, List.mem_of_getElem? (i := 891) (by decide +kernel), List.mem_of_getElem? (i := 1176) (by decide +kernel), List.mem_of_getElem? (i := 1177) (by decide +kernel)⟩
theorem lw_p92 : lw_okq (⟨"WordMenderModel", "compares", "(II[II)I"⟩, 86) := ⟨⟨by decide +kernel, by decide +kernel⟩, List.mem_of_getElem? (i := 891) (by decide +kernel), List.mem_of_getElem? (i := 1180) (by decide +kernel), List.mem_of_getElem? (i := 1181) (by decide +kernel)⟩
theorem lw_p93 : lw_okq (⟨"WordMenderModel", "moveWord", "(II)V"⟩, 86) := ⟨⟨by decide +kernel, by decide +kernel⟩, List.mem_of_getElem? (i := 891) (by decide +kernel), List.mem_of_getElem? (i := 1187) (by decide +kernel), List.mem_of_getElem? (i := 1188) (by decide +kernel)⟩
theorem lw_p94 : lw_okq (⟨"WordMenderModel", "nodes", "()I"⟩, 86) := ⟨⟨by decide +kernel, by decide +kernel⟩, List.mem_of_getElem? (i := 891) (by decide +kernel), List.mem_of_getElem? (i := 1207) (by decide +kernel), List.mem_of_getElem? (i := 1208) (by decide +kernel)⟩
theorem lw_p95 : lw_okq (⟨"WordMenderModel", "alike", "(I)I"⟩, 86) := ⟨⟨by decide +kernel, by decide +kernel⟩, List.mem_of_getElem? (i := 891) (by decide +kernel), List.mem_of_getElem? (i := 1211) (by decide +kernel), List.mem_of_getElem? (i := 1212) (by decide +kernel)⟩
def lw_privs_6 : List (MethodName × Nat) := [(⟨"WordMender", "layState", "(II)V"⟩, 17), (⟨"WordMender", "layPrices", "(I)V"⟩, 17), (⟨"WordMender", "layTruths", "(II)V"⟩, 17), (⟨"WordMender$Trays", "done", "(I)I"⟩, 4), (⟨"WordMender$Trays", "work", "(III)I"⟩, 4), (⟨"WordMender$Trays", "read", "(III)I"⟩, 4), (⟨"WordMender$Trays", "whyNot", "(II)I"⟩, 4), (⟨"WordMender$Trays", "copy", "(II)I"⟩, 4), (⟨"WordMender$Trays", "layAmongStates", "(I)I"⟩, 4), (⟨"WordMenderModel", "readsOne", "()Z"⟩, 86), (⟨"WordMenderModel", "reads", "(III)Z"⟩, 86), (⟨"WordMenderModel", "wordOf", "(I[II)I"⟩, 86), (⟨"WordMenderModel", "compares", "(II[II)I"⟩, 86), (⟨"WordMenderModel", "moveWord", "(II)V"⟩, 86), (⟨"WordMenderModel", "nodes", "()I"⟩, 86), (⟨"WordMenderModel", "alike", "(I)I"⟩, 86)]
theorem lw_r6 : ∀ q ∈ lw_privs_6, lw_okq q := List.forall_mem_cons.mpr ⟨lw_p80, List.forall_mem_cons.mpr ⟨lw_p81, List.forall_mem_cons.mpr ⟨lw_p82, List.forall_mem_cons.mpr ⟨lw_p83, List.forall_mem_cons.mpr ⟨lw_p84, List.forall_mem_cons.mpr ⟨lw_p85, List.forall_mem_cons.mpr ⟨lw_p86, List.forall_mem_cons.mpr ⟨lw_p87, List.forall_mem_cons.mpr ⟨lw_p88, List.forall_mem_cons.mpr ⟨lw_p89, List.forall_mem_cons.mpr ⟨lw_p90, List.forall_mem_cons.mpr ⟨lw_p91, List.forall_mem_cons.mpr ⟨lw_p92, List.forall_mem_cons.mpr ⟨lw_p93, List.forall_mem_cons.mpr ⟨lw_p94, List.forall_mem_cons.mpr ⟨lw_p95, fun _ h => absurd h List.not_mem_nil⟩⟩⟩⟩⟩⟩⟩⟩⟩⟩⟩⟩⟩⟩⟩⟩
theorem lw_p96 : lw_okq (⟨"WordMenderModel", "readsTwo", "(I)Z"⟩, 86) := ⟨⟨by decide +kernel, by decide +kernel⟩, List.mem_of_getElem? (i := 891) (by decide +kernel), List.mem_of_getElem? (i := 1223) (by decide +kernel), List.mem_of_getElem? (i := 1224) (by decide +kernel)⟩
theorem lw_p97 : lw_okq (⟨"WordMenderModel", "takeA", "(I)V"⟩, 86) := ⟨⟨by decide +kernel, by decide +kernel⟩, List.mem_of_getElem? (i := 891) (by decide +kernel), List.mem_of_getElem? (i := 1235) (by decide +kernel), List.mem_of_getElem? (i := 1236) (by decide +kernel)⟩
theorem lw_p98 : lw_okq (⟨"WordMenderModel", "takeB", "(I)V"⟩, 86) := ⟨⟨by decide +kernel, by decide +kernel⟩, List.mem_of_getElem? (i := 891) (by decide +kernel), List.mem_of_getElem? (i := 1239) (by decide +kernel), List.mem_of_getElem? (i := 1240) (by decide +kernel)⟩
theorem lw_p99 : lw_okq (⟨"WordMenderModel", "sums", "()V"⟩, 86) := ⟨⟨by decide +kernel, by decide +kernel⟩, List.mem_of_getElem? (i := 891) (by decide +kernel), List.mem_of_getElem? (i := 1243) (by decide +kernel), List.mem_of_getElem? (i := 1244) (by decide +kernel)⟩
theorem lw_p100 : lw_okq (⟨"WordMenderModel", "slip", "(IIII)I"⟩, 86) := ⟨⟨by decide +kernel, by decide +kernel⟩, List.mem_of_getElem? (i := 891) (by decide +kernel), List.mem_of_getElem? (i := 1248) (by decide +kernel), List.mem_of_getElem? (i := 1249) (by decide +kernel)⟩
theorem lw_p101 : lw_okq (⟨"WordMenderModel", "swapPrice", "(II)I"⟩, 86) := ⟨⟨by decide +kernel, by decide +kernel⟩, List.mem_of_getElem? (i := 891) (by decide +kernel), List.mem_of_getElem? (i := 1252) (by decide +kernel), List.mem_of_getElem? (i := 1253) (by decide +kernel)⟩
theorem lw_p102 : lw_okq (⟨"WordMenderModel", "leftPrice", "(I)I"⟩, 86) := ⟨⟨by decide +kernel, by decide +kernel⟩, List.mem_of_getElem? (i := 891) (by decide +kernel), List.mem_of_getElem? (i := 1256) (by decide +kernel), List.mem_of_getElem? (i := 1257) (by decide +kernel)⟩
theorem lw_p103 : lw_okq (⟨"WordMenderModel", "putPrice", "(I)I"⟩, 86) := ⟨⟨by decide +kernel, by decide +kernel⟩, List.mem_of_getElem? (i := 891) (by decide +kernel), List.mem_of_getElem? (i := 1260) (by decide +kernel), List.mem_of_getElem? (i := 1261) (by decide +kernel)⟩
theorem lw_p104 : lw_okq (⟨"WordMenderModel", "hasSound", "(III)Z"⟩, 86) := ⟨⟨by decide +kernel, by decide +kernel⟩, List.mem_of_getElem? (i := 891) (by decide +kernel), List.mem_of_getElem? (i := 1264) (by decide +kernel), List.mem_of_getElem? (i := 1265) (by decide +kernel)⟩
theorem lw_p105 : lw_okq (⟨"WordMenderModel", "ways", "()V"⟩, 86) := ⟨⟨by decide +kernel, by decide +kernel⟩, List.mem_of_getElem? (i := 891) (by decide +kernel), List.mem_of_getElem? (i := 1268) (by decide +kernel), List.mem_of_getElem? (i := 1269) (by decide +kernel)⟩
theorem lw_p106 : lw_okq (⟨"WordMenderModel", "walk", "(I)V"⟩, 86) := ⟨⟨by decide +kernel, by decide +kernel⟩, List.mem_of_getElem? (i := 891) (by decide +kernel), List.mem_of_getElem? (i := 1281) (by decide +kernel), List.mem_of_getElem? (i := 1282) (by decide +kernel)⟩
theorem lw_p107 : lw_okq (⟨"WordMenderModel", "meets", "(IIZ)Z"⟩, 86) := ⟨⟨by decide +kernel, by decide +kernel⟩, List.mem_of_getElem? (i := 891) (by decide +kernel), List.mem_of_getElem? (i := 1285) (by decide +kernel), List.mem_of_getElem? (i := 1286) (by decide +kernel)⟩
theorem lw_p108 : lw_okq (⟨"WordMenderModel", "stateRow", "(I)V"⟩, 86) := ⟨⟨by decide +kernel, by decide +kernel⟩, List.mem_of_getElem? (i := 891) (by decide +kernel), List.mem_of_getElem? (i := 1289) (by decide +kernel), List.mem_of_getElem? (i := 1290) (by decide +kernel)⟩
theorem lw_p109 : lw_okq (⟨"WordMenderModel", "leastOf", "(I)I"⟩, 86) := ⟨⟨by decide +kernel, by decide +kernel⟩, List.mem_of_getElem? (i := 891) (by decide +kernel), List.mem_of_getElem? (i := 1293) (by decide +kernel), List.mem_of_getElem? (i := 1294) (by decide +kernel)⟩
theorem lw_p110 : lw_okq (⟨"WordMenderModel", "tries", "(IZ)V"⟩, 86) := ⟨⟨by decide +kernel, by decide +kernel⟩, List.mem_of_getElem? (i := 891) (by decide +kernel), List.mem_of_getElem? (i := 1297) (by decide +kernel), List.mem_of_getElem? (i := 1298) (by decide +kernel)⟩
theorem lw_p111 : lw_okq (⟨"WordMenderModel", "beginningTo", "(I)I"⟩, 86) := ⟨⟨by decide +kernel, by decide +kernel⟩, List.mem_of_getElem? (i := 891) (by decide +kernel), List.mem_of_getElem? (i := 1301) (by decide +kernel), List.mem_of_getElem? (i := 1302) (by decide +kernel)⟩
def lw_privs_7 : List (MethodName × Nat) := [(⟨"WordMenderModel", "readsTwo", "(I)Z"⟩, 86), (⟨"WordMenderModel", "takeA", "(I)V"⟩, 86), (⟨"WordMenderModel", "takeB", "(I)V"⟩, 86), (⟨"WordMenderModel", "sums", "()V"⟩, 86), (⟨"WordMenderModel", "slip", "(IIII)I"⟩, 86), (⟨"WordMenderModel", "swapPrice", "(II)I"⟩, 86), (⟨"WordMenderModel", "leftPrice", "(I)I"⟩, 86), (⟨"WordMenderModel", "putPrice", "(I)I"⟩, 86), (⟨"WordMenderModel", "hasSound", "(III)Z"⟩, 86), (⟨"WordMenderModel", "ways", "()V"⟩, 86), (⟨"WordMenderModel", "walk", "(I)V"⟩, 86), (⟨"WordMenderModel", "meets", "(IIZ)Z"⟩, 86), (⟨"WordMenderModel", "stateRow", "(I)V"⟩, 86), (⟨"WordMenderModel", "leastOf", "(I)I"⟩, 86), (⟨"WordMenderModel", "tries", "(IZ)V"⟩, 86), (⟨"WordMenderModel", "beginningTo", "(I)I"⟩, 86)]
theorem lw_r7 : ∀ q ∈ lw_privs_7, lw_okq q := List.forall_mem_cons.mpr ⟨lw_p96, List.forall_mem_cons.mpr ⟨lw_p97, List.forall_mem_cons.mpr ⟨lw_p98, List.forall_mem_cons.mpr ⟨lw_p99, List.forall_mem_cons.mpr ⟨lw_p100, List.forall_mem_cons.mpr ⟨lw_p101, List.forall_mem_cons.mpr ⟨lw_p102, List.forall_mem_cons.mpr ⟨lw_p103, List.forall_mem_cons.mpr ⟨lw_p104, List.forall_mem_cons.mpr ⟨lw_p105, List.forall_mem_cons.mpr ⟨lw_p106, List.forall_mem_cons.mpr ⟨lw_p107, List.forall_mem_cons.mpr ⟨lw_p108, List.forall_mem_cons.mpr ⟨lw_p109, List.forall_mem_cons.mpr ⟨lw_p110, List.forall_mem_cons.mpr ⟨lw_p111, fun _ h => absurd h List.not_mem_nil⟩⟩⟩⟩⟩⟩⟩⟩⟩⟩⟩⟩⟩⟩⟩⟩
theorem lw_p112 : lw_okq (⟨"WordMenderModel", "wordA", "(I)V"⟩, 86) := ⟨⟨by decide +kernel, by decide +kernel⟩, List.mem_of_getElem? (i := 891) (by decide +kernel), List.mem_of_getElem? (i := 1305) (by decide +kernel), List.mem_of_getElem? (i := 1306) (by decide +kernel)⟩
theorem lw_p113 : lw_okq (⟨"WordMenderModel", "distanceTo", "(I)I"⟩, 86) := ⟨⟨by decide +kernel, by decide +kernel⟩, List.mem_of_getElem? (i := 891) (by decide +kernel), List.mem_of_getElem? (i := 1309) (by decide +kernel), List.mem_of_getElem? (i := 1310) (by decide +kernel)⟩
theorem lw_p114 : lw_okq (⟨"WordMenderModel", "share", "(I)I"⟩, 86) := ⟨⟨by decide +kernel, by decide +kernel⟩, List.mem_of_getElem? (i := 891) (by decide +kernel), List.mem_of_getElem? (i := 1313) (by decide +kernel), List.mem_of_getElem? (i := 1314) (by decide +kernel)⟩
theorem lw_p115 : lw_okq (⟨"WordMenderModel", "isAhead", "(IIII)Z"⟩, 86) := ⟨⟨by decide +kernel, by decide +kernel⟩, List.mem_of_getElem? (i := 891) (by decide +kernel), List.mem_of_getElem? (i := 1321) (by decide +kernel), List.mem_of_getElem? (i := 1322) (by decide +kernel)⟩
theorem lw_p116 : lw_okq (⟨"WordMenderModel", "keeps", "(I)I"⟩, 86) := ⟨⟨by decide +kernel, by decide +kernel⟩, List.mem_of_getElem? (i := 891) (by decide +kernel), List.mem_of_getElem? (i := 1325) (by decide +kernel), List.mem_of_getElem? (i := 1326) (by decide +kernel)⟩
theorem lw_p117 : lw_okq (⟨"WordMenderModel", "takePair", "(I)V"⟩, 86) := ⟨⟨by decide +kernel, by decide +kernel⟩, List.mem_of_getElem? (i := 891) (by decide +kernel), List.mem_of_getElem? (i := 1354) (by decide +kernel), List.mem_of_getElem? (i := 1355) (by decide +kernel)⟩
theorem lw_p118 : lw_okq (⟨"WordMenderModel", "isWord", "(I)I"⟩, 86) := ⟨⟨by decide +kernel, by decide +kernel⟩, List.mem_of_getElem? (i := 891) (by decide +kernel), List.mem_of_getElem? (i := 1366) (by decide +kernel), List.mem_of_getElem? (i := 1367) (by decide +kernel)⟩
theorem lw_p119 : lw_okq (⟨"WordMenderModel", "partAt", "(III)I"⟩, 86) := ⟨⟨by decide +kernel, by decide +kernel⟩, List.mem_of_getElem? (i := 891) (by decide +kernel), List.mem_of_getElem? (i := 1371) (by decide +kernel), List.mem_of_getElem? (i := 1372) (by decide +kernel)⟩
theorem lw_p120 : lw_okq (⟨"WordMenderModel", "together", "(I)I"⟩, 86) := ⟨⟨by decide +kernel, by decide +kernel⟩, List.mem_of_getElem? (i := 891) (by decide +kernel), List.mem_of_getElem? (i := 1375) (by decide +kernel), List.mem_of_getElem? (i := 1376) (by decide +kernel)⟩
theorem lw_p121 : lw_okq (⟨"WordMenderModel", "parting", "(I)I"⟩, 86) := ⟨⟨by decide +kernel, by decide +kernel⟩, List.mem_of_getElem? (i := 891) (by decide +kernel), List.mem_of_getElem? (i := 1379) (by decide +kernel), List.mem_of_getElem? (i := 1380) (by decide +kernel)⟩
theorem lw_p122 : lw_okq (⟨"WordMenderModel", "refused", "(I)I"⟩, 86) := ⟨⟨by decide +kernel, by decide +kernel⟩, List.mem_of_getElem? (i := 891) (by decide +kernel), List.mem_of_getElem? (i := 1391) (by decide +kernel), List.mem_of_getElem? (i := 1392) (by decide +kernel)⟩
theorem lw_p123 : lw_okq (⟨"WordMenderModel", "done", "(I)I"⟩, 86) := ⟨⟨by decide +kernel, by decide +kernel⟩, List.mem_of_getElem? (i := 891) (by decide +kernel), List.mem_of_getElem? (i := 1395) (by decide +kernel), List.mem_of_getElem? (i := 1396) (by decide +kernel)⟩
def lw_privs_8 : List (MethodName × Nat) := [(⟨"WordMenderModel", "wordA", "(I)V"⟩, 86), (⟨"WordMenderModel", "distanceTo", "(I)I"⟩, 86), (⟨"WordMenderModel", "share", "(I)I"⟩, 86), (⟨"WordMenderModel", "isAhead", "(IIII)Z"⟩, 86), (⟨"WordMenderModel", "keeps", "(I)I"⟩, 86), (⟨"WordMenderModel", "takePair", "(I)V"⟩, 86), (⟨"WordMenderModel", "isWord", "(I)I"⟩, 86), (⟨"WordMenderModel", "partAt", "(III)I"⟩, 86), (⟨"WordMenderModel", "together", "(I)I"⟩, 86), (⟨"WordMenderModel", "parting", "(I)I"⟩, 86), (⟨"WordMenderModel", "refused", "(I)I"⟩, 86), (⟨"WordMenderModel", "done", "(I)I"⟩, 86)]
theorem lw_r8 : ∀ q ∈ lw_privs_8, lw_okq q := List.forall_mem_cons.mpr ⟨lw_p112, List.forall_mem_cons.mpr ⟨lw_p113, List.forall_mem_cons.mpr ⟨lw_p114, List.forall_mem_cons.mpr ⟨lw_p115, List.forall_mem_cons.mpr ⟨lw_p116, List.forall_mem_cons.mpr ⟨lw_p117, List.forall_mem_cons.mpr ⟨lw_p118, List.forall_mem_cons.mpr ⟨lw_p119, List.forall_mem_cons.mpr ⟨lw_p120, List.forall_mem_cons.mpr ⟨lw_p121, List.forall_mem_cons.mpr ⟨lw_p122, List.forall_mem_cons.mpr ⟨lw_p123, fun _ h => absurd h List.not_mem_nil⟩⟩⟩⟩⟩⟩⟩⟩⟩⟩⟩⟩
def lw_privs : List (MethodName × Nat) := lw_privs_1 ++ (lw_privs_2 ++ (lw_privs_3 ++ (lw_privs_4 ++ (lw_privs_5 ++ (lw_privs_6 ++ (lw_privs_7 ++ (lw_privs_8)))))))
def lw_tbl : List Cond := k2_sels lw_privs ++ tables_1
theorem lw_privs_ok : ∀ q ∈ lw_privs, lw_okq q := by
  show ∀ q ∈ lw_privs_1 ++ (lw_privs_2 ++ (lw_privs_3 ++ (lw_privs_4 ++ (lw_privs_5 ++ (lw_privs_6 ++ (lw_privs_7 ++ (lw_privs_8))))))), lw_okq q
  exact List.forall_mem_append.mpr ⟨lw_r1, List.forall_mem_append.mpr ⟨lw_r2, List.forall_mem_append.mpr ⟨lw_r3, List.forall_mem_append.mpr ⟨lw_r4, List.forall_mem_append.mpr ⟨lw_r5, List.forall_mem_append.mpr ⟨lw_r6, List.forall_mem_append.mpr ⟨lw_r7, lw_r8⟩⟩⟩⟩⟩⟩⟩
/-- the streams that the claim lets the run draw from -/
abbrev lw_cs : List Choice := [Jvm.Choice.named "NaN.bits"]
theorem lw_bits : nanBits ∈ lw_cs := by first | decide | exact List.mem_cons_self | simp [lw_cs, nanBits]
def RX0 : String := "WordMender$Found"
def TX0 : u_T := fun k => match k with
  | 0 => ("WordMender$Found", "lexicon", "LWordMender$Lexicon;", true)
  | 1 => ("WordMender$Found", "numbers", "[I", true)
  | 2 => ("WordMender$Found", "distances", "[I", true)
  | 3 => ("WordMender$Found", "shares", "[I", true)
  | _ => ("WordMender$Found", "size", "I", false)
def tyX0 : Nat → FieldType := fun k => match k with
  | 0 => .object "WordMender$Lexicon"
  | 1 => .array .int
  | 2 => .array .int
  | 3 => .array .int
  | _ => .int
abbrev wsX00 : List Cond := u_ws RX0 TX0 5
theorem nmX0 : ∀ a, a < 5 → ∀ b, b < 5 → a ≠ b → (TX0 a).2.1 ≠ (TX0 b).2.1 := by decide +kernel
theorem tyX0_ok : ∀ k, k < 5 → parseFieldDescriptor (TX0 k).2.2.1 = some (tyX0 k) := by decide +kernel
abbrev cX0_init : ByteArray := prog_2_method_1_code
def yX0_init : MethodName := ⟨RX0, "<init>", "(LWordMender$Lexicon;)V"⟩
abbrev cX0_gather : ByteArray := prog_2_method_2_code
def yX0_gather : MethodName := ⟨RX0, "gather", "([III)I"⟩
abbrev cX0_lay : ByteArray := prog_2_method_3_code
def yX0_lay : MethodName := ⟨RX0, "lay", "(III)V"⟩
abbrev cX0_isAhead : ByteArray := prog_2_method_4_code
def yX0_isAhead : MethodName := ⟨RX0, "isAhead", "(III)Z"⟩
abbrev cX0_move : ByteArray := prog_2_method_5_code
def yX0_move : MethodName := ⟨RX0, "move", "(III)V"⟩
abbrev cX0_tell : ByteArray := prog_2_method_6_code
def yX0_tell : MethodName := ⟨RX0, "tell", "(II)I"⟩
def RX1 : String := "WordMender$Lexicon"
def TX1 : u_T := fun k => match k with
  | 0 => ("WordMender$Lexicon", "words", "LWordMender$Rows;", true)
  | 1 => ("WordMender$Lexicon", "counts", "[I", true)
  | _ => ("WordMender$Lexicon", "weight", "I", false)
def tyX1 : Nat → FieldType := fun k => match k with
  | 0 => .object "WordMender$Rows"
  | 1 => .array .int
  | _ => .int
abbrev wsX10 : List Cond := u_ws RX1 TX1 3
theorem nmX1 : ∀ a, a < 3 → ∀ b, b < 3 → a ≠ b → (TX1 a).2.1 ≠ (TX1 b).2.1 := by decide +kernel
theorem tyX1_ok : ∀ k, k < 3 → parseFieldDescriptor (TX1 k).2.2.1 = some (tyX1 k) := by decide +kernel
abbrev cX1_init : ByteArray := prog_3_method_1_code
def yX1_init : MethodName := ⟨RX1, "<init>", "()V"⟩
abbrev cX1_place : ByteArray := prog_3_method_2_code
def yX1_place : MethodName := ⟨RX1, "place", "(LWordMender$Row;)I"⟩
abbrev cX1_numberOf : ByteArray := prog_3_method_3_code
def yX1_numberOf : MethodName := ⟨RX1, "numberOf", "(LWordMender$Row;)I"⟩
abbrev cX1_countOf : ByteArray := prog_3_method_4_code
def yX1_countOf : MethodName := ⟨RX1, "countOf", "(I)I"⟩
abbrev cX1_grow : ByteArray := prog_3_method_5_code
def yX1_grow : MethodName := ⟨RX1, "grow", "(LWordMender$Row;I)I"⟩
abbrev cX1_remove : ByteArray := prog_3_method_6_code
def yX1_remove : MethodName := ⟨RX1, "remove", "(LWordMender$Row;)I"⟩
abbrev cX1_nodes : ByteArray := prog_3_method_7_code
def yX1_nodes : MethodName := ⟨RX1, "nodes", "()I"⟩
abbrev cX1_share : ByteArray := prog_3_method_8_code
def yX1_share : MethodName := ⟨RX1, "share", "(I)I"⟩
def RX2 : String := "WordMender$Mending"
def TX2 : u_T := fun k => match k with
  | 0 => ("WordMender$Mending", "prices", "[I", true)
  | 1 => ("WordMender$Mending", "firsts", "[I", true)
  | 2 => ("WordMender$Mending", "seconds", "[I", true)
  | 3 => ("WordMender$Mending", "sums", "[I", true)
  | 4 => ("WordMender$Mending", "kinds", "[I", true)
  | 5 => ("WordMender$Mending", "starts", "[I", true)
  | 6 => ("WordMender$Mending", "rows", "I", false)
  | _ => ("WordMender$Mending", "size", "I", false)
def tyX2 : Nat → FieldType := fun k => match k with
  | 0 => .array .int
  | 1 => .array .int
  | 2 => .array .int
  | 3 => .array .int
  | 4 => .array .int
  | 5 => .array .int
  | 6 => .int
  | _ => .int
abbrev wsX20 : List Cond := u_ws RX2 TX2 8
theorem nmX2 : ∀ a, a < 8 → ∀ b, b < 8 → a ≠ b → (TX2 a).2.1 ≠ (TX2 b).2.1 := by decide +kernel
theorem tyX2_ok : ∀ k, k < 8 → parseFieldDescriptor (TX2 k).2.2.1 = some (tyX2 k) := by decide +kernel
abbrev cX2_init : ByteArray := prog_4_method_1_code
def yX2_init : MethodName := ⟨RX2, "<init>", "()V"⟩
abbrev cX2_clear : ByteArray := prog_4_method_2_code
def yX2_clear : MethodName := ⟨RX2, "clear", "(I)V"⟩
abbrev cX2_offer : ByteArray := prog_4_method_3_code
def yX2_offer : MethodName := ⟨RX2, "offer", "(IIIII)V"⟩
abbrev cX2_offers : ByteArray := prog_4_method_4_code
def yX2_offers : MethodName := ⟨RX2, "offers", "(II)Z"⟩
abbrev cX2_cellOf : ByteArray := prog_4_method_5_code
def yX2_cellOf : MethodName := ⟨RX2, "cellOf", "(II)I"⟩
abbrev cX2_choose : ByteArray := prog_4_method_6_code
def yX2_choose : MethodName := ⟨RX2, "choose", "()I"⟩
abbrev cX2_bestKind : ByteArray := prog_4_method_7_code
def yX2_bestKind : MethodName := ⟨RX2, "bestKind", "(I)I"⟩
abbrev cX2_sumBy : ByteArray := prog_4_method_8_code
def yX2_sumBy : MethodName := ⟨RX2, "sumBy", "(II)I"⟩
abbrev cX2_taken : ByteArray := prog_4_method_9_code
def yX2_taken : MethodName := ⟨RX2, "taken", "(I)I"⟩
abbrev cX2_tell : ByteArray := prog_4_method_10_code
def yX2_tell : MethodName := ⟨RX2, "tell", "(II)I"⟩
def RX3 : String := "WordMender$Met"
def TX3 : u_T := fun k => match k with
  | 0 => ("WordMender$Met", "depths", "[I", true)
  | 1 => ("WordMender$Met", "letters", "[I", true)
  | 2 => ("WordMender$Met", "areWords", "[Z", true)
  | 3 => ("WordMender$Met", "areLeft", "[Z", true)
  | 4 => ("WordMender$Met", "states", "[I", true)
  | 5 => ("WordMender$Met", "size", "I", false)
  | 6 => ("WordMender$Met", "left", "I", false)
  | _ => ("WordMender$Met", "places", "I", false)
def tyX3 : Nat → FieldType := fun k => match k with
  | 0 => .array .int
  | 1 => .array .int
  | 2 => .array .boolean
  | 3 => .array .boolean
  | 4 => .array .int
  | 5 => .int
  | 6 => .int
  | _ => .int
abbrev wsX30 : List Cond := u_ws RX3 TX3 8
theorem nmX3 : ∀ a, a < 8 → ∀ b, b < 8 → a ≠ b → (TX3 a).2.1 ≠ (TX3 b).2.1 := by decide +kernel
theorem tyX3_ok : ∀ k, k < 8 → parseFieldDescriptor (TX3 k).2.2.1 = some (tyX3 k) := by decide +kernel
abbrev cX3_init : ByteArray := prog_5_method_1_code
def yX3_init : MethodName := ⟨RX3, "<init>", "()V"⟩
abbrev cX3_clear : ByteArray := prog_5_method_2_code
def yX3_clear : MethodName := ⟨RX3, "clear", "(I)V"⟩
abbrev cX3_keep : ByteArray := prog_5_method_3_code
def yX3_keep : MethodName := ⟨RX3, "keep", "(IIZZ[I)V"⟩
abbrev cX3_tell : ByteArray := prog_5_method_4_code
def yX3_tell : MethodName := ⟨RX3, "tell", "(II)I"⟩
abbrev cX3_least : ByteArray := prog_5_method_5_code
def yX3_least : MethodName := ⟨RX3, "least", "(I)I"⟩
abbrev cX3_stateAt : ByteArray := prog_5_method_6_code
def yX3_stateAt : MethodName := ⟨RX3, "stateAt", "(II)I"⟩
def RX4 : String := "WordMender$Row"
def TX4 : u_T := fun k => match k with
  | 0 => ("WordMender$Row", "letters", "[I", true)
  | _ => ("WordMender$Row", "size", "I", false)
def tyX4 : Nat → FieldType := fun k => match k with
  | 0 => .array .int
  | _ => .int
abbrev wsX40 : List Cond := u_ws RX4 TX4 2
theorem nmX4 : ∀ a, a < 2 → ∀ b, b < 2 → a ≠ b → (TX4 a).2.1 ≠ (TX4 b).2.1 := by decide +kernel
theorem tyX4_ok : ∀ k, k < 2 → parseFieldDescriptor (TX4 k).2.2.1 = some (tyX4 k) := by decide +kernel
abbrev cX4_init : ByteArray := prog_6_method_1_code
def yX4_init : MethodName := ⟨RX4, "<init>", "()V"⟩
abbrev cX4_clear : ByteArray := prog_6_method_2_code
def yX4_clear : MethodName := ⟨RX4, "clear", "()V"⟩
abbrev cX4_append : ByteArray := prog_6_method_3_code
def yX4_append : MethodName := ⟨RX4, "append", "(I)Z"⟩
abbrev cX4_at : ByteArray := prog_6_method_4_code
def yX4_at : MethodName := ⟨RX4, "at", "(I)I"⟩
def RX5 : String := "WordMender$Rows"
def TX5 : u_T := fun k => match k with
  | 0 => ("WordMender$Rows", "letters", "[I", true)
  | 1 => ("WordMender$Rows", "sizes", "[I", true)
  | _ => ("WordMender$Rows", "size", "I", false)
def tyX5 : Nat → FieldType := fun k => match k with
  | 0 => .array .int
  | 1 => .array .int
  | _ => .int
abbrev wsX50 : List Cond := u_ws RX5 TX5 3
theorem nmX5 : ∀ a, a < 3 → ∀ b, b < 3 → a ≠ b → (TX5 a).2.1 ≠ (TX5 b).2.1 := by decide +kernel
theorem tyX5_ok : ∀ k, k < 3 → parseFieldDescriptor (TX5 k).2.2.1 = some (tyX5 k) := by decide +kernel
abbrev cX5_init : ByteArray := prog_7_method_1_code
def yX5_init : MethodName := ⟨RX5, "<init>", "(I)V"⟩
abbrev cX5_clear : ByteArray := prog_7_method_2_code
def yX5_clear : MethodName := ⟨RX5, "clear", "()V"⟩
abbrev cX5_isFull : ByteArray := prog_7_method_3_code
def yX5_isFull : MethodName := ⟨RX5, "isFull", "()Z"⟩
abbrev cX5_sizeOf : ByteArray := prog_7_method_4_code
def yX5_sizeOf : MethodName := ⟨RX5, "sizeOf", "(I)I"⟩
abbrev cX5_at : ByteArray := prog_7_method_5_code
def yX5_at : MethodName := ⟨RX5, "at", "(II)I"⟩
abbrev cX5_copyTo : ByteArray := prog_7_method_6_code
def yX5_copyTo : MethodName := ⟨RX5, "copyTo", "(ILWordMender$Row;)V"⟩
abbrev cX5_append : ByteArray := prog_7_method_7_code
def yX5_append : MethodName := ⟨RX5, "append", "(LWordMender$Row;)V"⟩
abbrev cX5_insert : ByteArray := prog_7_method_8_code
def yX5_insert : MethodName := ⟨RX5, "insert", "(ILWordMender$Row;)V"⟩
abbrev cX5_remove : ByteArray := prog_7_method_9_code
def yX5_remove : MethodName := ⟨RX5, "remove", "(I)V"⟩
abbrev cX5_order : ByteArray := prog_7_method_10_code
def yX5_order : MethodName := ⟨RX5, "order", "(ILWordMender$Row;)I"⟩
abbrev cX5_shared : ByteArray := prog_7_method_11_code
def yX5_shared : MethodName := ⟨RX5, "shared", "(I)I"⟩
abbrev cX5_standsIn : ByteArray := prog_7_method_12_code
def yX5_standsIn : MethodName := ⟨RX5, "standsIn", "(ILWordMender$Row;I)Z"⟩
def RX6 : String := "WordMender$Slips"
def TX6 : u_T := fun k => match k with
  | 0 => ("WordMender$Slips", "kinds", "[I", true)
  | 1 => ("WordMender$Slips", "swaps", "[I", true)
  | 2 => ("WordMender$Slips", "leftsOut", "[I", true)
  | 3 => ("WordMender$Slips", "putsIn", "[I", true)
  | 4 => ("WordMender$Slips", "firsts", "LWordMender$Rows;", true)
  | 5 => ("WordMender$Slips", "seconds", "LWordMender$Rows;", true)
  | _ => ("WordMender$Slips", "sounds", "[I", true)
def tyX6 : Nat → FieldType := fun k => match k with
  | 0 => .array .int
  | 1 => .array .int
  | 2 => .array .int
  | 3 => .array .int
  | 4 => .object "WordMender$Rows"
  | 5 => .object "WordMender$Rows"
  | _ => .array .int
abbrev wsX60 : List Cond := u_ws RX6 TX6 7
theorem nmX6 : ∀ a, a < 7 → ∀ b, b < 7 → a ≠ b → (TX6 a).2.1 ≠ (TX6 b).2.1 := by decide +kernel
theorem tyX6_ok : ∀ k, k < 7 → parseFieldDescriptor (TX6 k).2.2.1 = some (tyX6 k) := by decide +kernel
abbrev cX6_init : ByteArray := prog_8_method_1_code
def yX6_init : MethodName := ⟨RX6, "<init>", "()V"⟩
abbrev cX6_kindPrice : ByteArray := prog_8_method_2_code
def yX6_kindPrice : MethodName := ⟨RX6, "kindPrice", "(I)I"⟩
abbrev cX6_setKind : ByteArray := prog_8_method_3_code
def yX6_setKind : MethodName := ⟨RX6, "setKind", "(II)I"⟩
abbrev cX6_setByLetters : ByteArray := prog_8_method_4_code
def yX6_setByLetters : MethodName := ⟨RX6, "setByLetters", "(IIII)I"⟩
abbrev cX6_exchange : ByteArray := prog_8_method_5_code
def yX6_exchange : MethodName := ⟨RX6, "exchange", "([III)I"⟩
abbrev cX6_setByCounts : ByteArray := prog_8_method_6_code
def yX6_setByCounts : MethodName := ⟨RX6, "setByCounts", "([I)Z"⟩
abbrev cX6_addSound : ByteArray := prog_8_method_7_code
def yX6_addSound : MethodName := ⟨RX6, "addSound", "(LWordMender$Row;LWordMender$Row;I)I"⟩
abbrev cX6_codes : ByteArray := prog_8_method_8_code
def yX6_codes : MethodName := ⟨RX6, "codes", "()I"⟩
abbrev cX6_meantTaken : ByteArray := prog_8_method_9_code
def yX6_meantTaken : MethodName := ⟨RX6, "meantTaken", "(I)I"⟩
abbrev cX6_typedTaken : ByteArray := prog_8_method_10_code
def yX6_typedTaken : MethodName := ⟨RX6, "typedTaken", "(I)I"⟩
abbrev cX6_mayStand : ByteArray := prog_8_method_11_code
def yX6_mayStand : MethodName := ⟨RX6, "mayStand", "(ILWordMender$Row;I)Z"⟩
abbrev cX6_priceAt : ByteArray := prog_8_method_12_code
def yX6_priceAt : MethodName := ⟨RX6, "priceAt", "(ILWordMender$Row;ILWordMender$Row;I)I"⟩
abbrev cX6_byLetters : ByteArray := prog_8_method_13_code
def yX6_byLetters : MethodName := ⟨RX6, "byLetters", "([III)I"⟩
abbrev cX6_soundPrice : ByteArray := prog_8_method_14_code
def yX6_soundPrice : MethodName := ⟨RX6, "soundPrice", "(I)I"⟩
def RX7 : String := "WordMender$Tape"
def TX7 : u_T := fun k => match k with
  | 0 => ("WordMender$Tape", "bytes", "[I", true)
  | _ => ("WordMender$Tape", "size", "I", false)
def tyX7 : Nat → FieldType := fun k => match k with
  | 0 => .array .int
  | _ => .int
abbrev wsX70 : List Cond := u_ws RX7 TX7 2
theorem nmX7 : ∀ a, a < 2 → ∀ b, b < 2 → a ≠ b → (TX7 a).2.1 ≠ (TX7 b).2.1 := by decide +kernel
theorem tyX7_ok : ∀ k, k < 2 → parseFieldDescriptor (TX7 k).2.2.1 = some (tyX7 k) := by decide +kernel
abbrev cX7_init : ByteArray := prog_9_method_1_code
def yX7_init : MethodName := ⟨RX7, "<init>", "()V"⟩
abbrev cX7_append : ByteArray := prog_9_method_2_code
def yX7_append : MethodName := ⟨RX7, "append", "(IJ)I"⟩
abbrev cX7_takeRow : ByteArray := prog_9_method_3_code
def yX7_takeRow : MethodName := ⟨RX7, "takeRow", "(LWordMender$Row;)Z"⟩
abbrev cX7_takeTwo : ByteArray := prog_9_method_4_code
def yX7_takeTwo : MethodName := ⟨RX7, "takeTwo", "(ILWordMender$Row;LWordMender$Row;)Z"⟩
abbrev cX7_takeText : ByteArray := prog_9_method_5_code
def yX7_takeText : MethodName := ⟨RX7, "takeText", "(LWordMender$Rows;LWordMender$Row;)Z"⟩
abbrev cX7_seek : ByteArray := prog_9_method_6_code
def yX7_seek : MethodName := ⟨RX7, "seek", "(CII)I"⟩
abbrev cX7_read : ByteArray := prog_9_method_7_code
def yX7_read : MethodName := ⟨RX7, "read", "(IIILWordMender$Row;)Z"⟩
def RX8 : String := "WordMender$Trays"
def TX8 : u_T := fun k => match k with
  | 0 => ("WordMender$Trays", "things", "[I", true)
  | 1 => ("WordMender$Trays", "sizes", "[I", true)
  | 2 => ("WordMender$Trays", "cells", "[I", true)
  | _ => ("WordMender$Trays", "status", "I", false)
def tyX8 : Nat → FieldType := fun k => match k with
  | 0 => .array .int
  | 1 => .array .int
  | 2 => .array .int
  | _ => .int
abbrev wsX80 : List Cond := u_ws RX8 TX8 4
theorem nmX8 : ∀ a, a < 4 → ∀ b, b < 4 → a ≠ b → (TX8 a).2.1 ≠ (TX8 b).2.1 := by decide +kernel
theorem tyX8_ok : ∀ k, k < 4 → parseFieldDescriptor (TX8 k).2.2.1 = some (tyX8 k) := by decide +kernel
abbrev cX8_init : ByteArray := prog_10_method_1_code
def yX8_init : MethodName := ⟨RX8, "<init>", "()V"⟩
abbrev cX8_refuse : ByteArray := prog_10_method_2_code
def yX8_refuse : MethodName := ⟨RX8, "refuse", "(I)I"⟩
abbrev cX8_done : ByteArray := prog_10_method_3_code
def yX8_done : MethodName := ⟨RX8, "done", "(I)I"⟩
abbrev cX8_clear : ByteArray := prog_10_method_4_code
def yX8_clear : MethodName := ⟨RX8, "clear", "(II)V"⟩
abbrev cX8_lay : ByteArray := prog_10_method_5_code
def yX8_lay : MethodName := ⟨RX8, "lay", "(II)V"⟩
abbrev cX8_work : ByteArray := prog_10_method_6_code
def yX8_work : MethodName := ⟨RX8, "work", "(III)I"⟩
abbrev cX8_whyNot : ByteArray := prog_10_method_7_code
def yX8_whyNot : MethodName := ⟨RX8, "whyNot", "(II)I"⟩
abbrev cX8_read : ByteArray := prog_10_method_8_code
def yX8_read : MethodName := ⟨RX8, "read", "(III)I"⟩
abbrev cX8_copy : ByteArray := prog_10_method_9_code
def yX8_copy : MethodName := ⟨RX8, "copy", "(II)I"⟩
abbrev cX8_layAmongStates : ByteArray := prog_10_method_10_code
def yX8_layAmongStates : MethodName := ⟨RX8, "layAmongStates", "(I)I"⟩
def RX9 : String := "WordMender$Walk"
def TX9 : u_T := fun k => match k with
  | 0 => ("WordMender$Walk", "lexicon", "LWordMender$Lexicon;", true)
  | 1 => ("WordMender$Walk", "slips", "LWordMender$Slips;", true)
  | 2 => ("WordMender$Walk", "met", "LWordMender$Met;", true)
  | 3 => ("WordMender$Walk", "meant", "LWordMender$Row;", true)
  | 4 => ("WordMender$Walk", "states", "[I", true)
  | 5 => ("WordMender$Walk", "leasts", "[I", true)
  | 6 => ("WordMender$Walk", "bests", "[I", true)
  | 7 => ("WordMender$Walk", "wholes", "[I", true)
  | _ => ("WordMender$Walk", "begun", "[I", true)
def tyX9 : Nat → FieldType := fun k => match k with
  | 0 => .object "WordMender$Lexicon"
  | 1 => .object "WordMender$Slips"
  | 2 => .object "WordMender$Met"
  | 3 => .object "WordMender$Row"
  | 4 => .array .int
  | 5 => .array .int
  | 6 => .array .int
  | 7 => .array .int
  | _ => .array .int
abbrev wsX90 : List Cond := u_ws RX9 TX9 9
theorem nmX9 : ∀ a, a < 9 → ∀ b, b < 9 → a ≠ b → (TX9 a).2.1 ≠ (TX9 b).2.1 := by decide +kernel
theorem tyX9_ok : ∀ k, k < 9 → parseFieldDescriptor (TX9 k).2.2.1 = some (tyX9 k) := by decide +kernel
abbrev cX9_init : ByteArray := prog_11_method_1_code
def yX9_init : MethodName := ⟨RX9, "<init>", "(LWordMender$Lexicon;LWordMender$Slips;)V"⟩
abbrev cX9_go : ByteArray := prog_11_method_2_code
def yX9_go : MethodName := ⟨RX9, "go", "(LWordMender$Row;IZ)V"⟩
abbrev cX9_descend : ByteArray := prog_11_method_3_code
def yX9_descend : MethodName := ⟨RX9, "descend", "(ILWordMender$Row;IZ)I"⟩
abbrev cX9_fill : ByteArray := prog_11_method_4_code
def yX9_fill : MethodName := ⟨RX9, "fill", "(ILWordMender$Row;)V"⟩
abbrev cX9_reach : ByteArray := prog_11_method_5_code
def yX9_reach : MethodName := ⟨RX9, "reach", "(IILWordMender$Row;)V"⟩
abbrev cX9_sumUp : ByteArray := prog_11_method_6_code
def yX9_sumUp : MethodName := ⟨RX9, "sumUp", "(ILWordMender$Row;)V"⟩
abbrev cX9_isLeft : ByteArray := prog_11_method_7_code
def yX9_isLeft : MethodName := ⟨RX9, "isLeft", "(II)Z"⟩
def RX10 : String := "WordMender$Way"
def TX10 : u_T := fun k => match k with
  | 0 => ("WordMender$Way", "slips", "LWordMender$Slips;", true)
  | 1 => ("WordMender$Way", "sums", "[I", true)
  | 2 => ("WordMender$Way", "codes", "[I", true)
  | 3 => ("WordMender$Way", "prices", "[I", true)
  | 4 => ("WordMender$Way", "meantPlaces", "[I", true)
  | 5 => ("WordMender$Way", "typedPlaces", "[I", true)
  | _ => ("WordMender$Way", "size", "I", false)
def tyX10 : Nat → FieldType := fun k => match k with
  | 0 => .object "WordMender$Slips"
  | 1 => .array .int
  | 2 => .array .int
  | 3 => .array .int
  | 4 => .array .int
  | 5 => .array .int
  | _ => .int
abbrev wsX100 : List Cond := u_ws RX10 TX10 7
theorem nmX10 : ∀ a, a < 7 → ∀ b, b < 7 → a ≠ b → (TX10 a).2.1 ≠ (TX10 b).2.1 := by decide +kernel
theorem tyX10_ok : ∀ k, k < 7 → parseFieldDescriptor (TX10 k).2.2.1 = some (tyX10 k) := by decide +kernel
abbrev cX10_init : ByteArray := prog_12_method_1_code
def yX10_init : MethodName := ⟨RX10, "<init>", "(LWordMender$Slips;)V"⟩
abbrev cX10_measure : ByteArray := prog_12_method_2_code
def yX10_measure : MethodName := ⟨RX10, "measure", "(LWordMender$Row;LWordMender$Row;)I"⟩
abbrev cX10_leastFrom : ByteArray := prog_12_method_3_code
def yX10_leastFrom : MethodName := ⟨RX10, "leastFrom", "(LWordMender$Row;ILWordMender$Row;I)I"⟩
abbrev cX10_sumBy : ByteArray := prog_12_method_4_code
def yX10_sumBy : MethodName := ⟨RX10, "sumBy", "(ILWordMender$Row;ILWordMender$Row;I)I"⟩
abbrev cX10_trace : ByteArray := prog_12_method_5_code
def yX10_trace : MethodName := ⟨RX10, "trace", "(LWordMender$Row;LWordMender$Row;)V"⟩
abbrev cX10_firstCode : ByteArray := prog_12_method_6_code
def yX10_firstCode : MethodName := ⟨RX10, "firstCode", "(LWordMender$Row;ILWordMender$Row;I)I"⟩
abbrev cX10_codeAt : ByteArray := prog_12_method_7_code
def yX10_codeAt : MethodName := ⟨RX10, "codeAt", "(I)I"⟩
abbrev cX10_tell : ByteArray := prog_12_method_8_code
def yX10_tell : MethodName := ⟨RX10, "tell", "(II)I"⟩
def RX11 : String := "WordMender"
def TX11 : u_T := fun k => match k with
  | 0 => ("WordMender", "tape", "LWordMender$Tape;", true)
  | 1 => ("WordMender", "lexicon", "LWordMender$Lexicon;", true)
  | 2 => ("WordMender", "slips", "LWordMender$Slips;", true)
  | 3 => ("WordMender", "meant", "LWordMender$Row;", true)
  | 4 => ("WordMender", "typed", "LWordMender$Row;", true)
  | 5 => ("WordMender", "text", "LWordMender$Rows;", true)
  | 6 => ("WordMender", "latestWay", "LWordMender$Way;", true)
  | 7 => ("WordMender", "trialWay", "LWordMender$Way;", true)
  | 8 => ("WordMender", "pairsMeant", "LWordMender$Rows;", true)
  | 9 => ("WordMender", "pairsTyped", "LWordMender$Rows;", true)
  | 10 => ("WordMender", "roundCodes", "[I", true)
  | 11 => ("WordMender", "roundCounts", "[I", true)
  | 12 => ("WordMender", "walk", "LWordMender$Walk;", true)
  | 13 => ("WordMender", "latestFound", "LWordMender$Found;", true)
  | 14 => ("WordMender", "firstFound", "LWordMender$Found;", true)
  | 15 => ("WordMender", "mending", "LWordMender$Mending;", true)
  | _ => ("WordMender", "trays", "LWordMender$Trays;", true)
def tyX11 : Nat → FieldType := fun k => match k with
  | 0 => .object "WordMender$Tape"
  | 1 => .object "WordMender$Lexicon"
  | 2 => .object "WordMender$Slips"
  | 3 => .object "WordMender$Row"
  | 4 => .object "WordMender$Row"
  | 5 => .object "WordMender$Rows"
  | 6 => .object "WordMender$Way"
  | 7 => .object "WordMender$Way"
  | 8 => .object "WordMender$Rows"
  | 9 => .object "WordMender$Rows"
  | 10 => .array .int
  | 11 => .array .int
  | 12 => .object "WordMender$Walk"
  | 13 => .object "WordMender$Found"
  | 14 => .object "WordMender$Found"
  | 15 => .object "WordMender$Mending"
  | _ => .object "WordMender$Trays"
abbrev wsX110 : List Cond := u_ws RX11 TX11 17
theorem nmX11 : ∀ a, a < 17 → ∀ b, b < 17 → a ≠ b → (TX11 a).2.1 ≠ (TX11 b).2.1 := by decide +kernel
theorem tyX11_ok : ∀ k, k < 17 → parseFieldDescriptor (TX11 k).2.2.1 = some (tyX11 k) := by decide +kernel
abbrev cX11_init : ByteArray := prog_1_method_1_code
def yX11_init : MethodName := ⟨RX11, "<init>", "()V"⟩
abbrev cX11_feed : ByteArray := prog_1_method_2_code
def yX11_feed : MethodName := ⟨RX11, "feed", "(IJ)I"⟩
abbrev cX11_add : ByteArray := prog_1_method_3_code
def yX11_add : MethodName := ⟨RX11, "add", "(I)I"⟩
abbrev cX11_drop : ByteArray := prog_1_method_4_code
def yX11_drop : MethodName := ⟨RX11, "drop", "()I"⟩
abbrev cX11_find : ByteArray := prog_1_method_5_code
def yX11_find : MethodName := ⟨RX11, "find", "()I"⟩
abbrev cX11_word : ByteArray := prog_1_method_6_code
def yX11_word : MethodName := ⟨RX11, "word", "(II)I"⟩
abbrev cX11_count : ByteArray := prog_1_method_7_code
def yX11_count : MethodName := ⟨RX11, "count", "(I)I"⟩
abbrev cX11_price : ByteArray := prog_1_method_8_code
def yX11_price : MethodName := ⟨RX11, "price", "(IIII)I"⟩
abbrev cX11_sound : ByteArray := prog_1_method_9_code
def yX11_sound : MethodName := ⟨RX11, "sound", "(I)I"⟩
abbrev cX11_model : ByteArray := prog_1_method_10_code
def yX11_model : MethodName := ⟨RX11, "model", "(I)I"⟩
abbrev cX11_distance : ByteArray := prog_1_method_11_code
def yX11_distance : MethodName := ⟨RX11, "distance", "()I"⟩
abbrev cX11_way : ByteArray := prog_1_method_12_code
def yX11_way : MethodName := ⟨RX11, "way", "(II)I"⟩
abbrev cX11_near : ByteArray := prog_1_method_13_code
def yX11_near : MethodName := ⟨RX11, "near", "(I)I"⟩
abbrev cX11_nearest : ByteArray := prog_1_method_14_code
def yX11_nearest : MethodName := ⟨RX11, "nearest", "(I)I"⟩
abbrev cX11_complete : ByteArray := prog_1_method_15_code
def yX11_complete : MethodName := ⟨RX11, "complete", "(I)I"⟩
abbrev cX11_found : ByteArray := prog_1_method_16_code
def yX11_found : MethodName := ⟨RX11, "found", "(II)I"⟩
abbrev cX11_node : ByteArray := prog_1_method_17_code
def yX11_node : MethodName := ⟨RX11, "node", "(II)I"⟩
abbrev cX11_pair : ByteArray := prog_1_method_18_code
def yX11_pair : MethodName := ⟨RX11, "pair", "()I"⟩
abbrev cX11_learn : ByteArray := prog_1_method_19_code
def yX11_learn : MethodName := ⟨RX11, "learn", "()I"⟩
abbrev cX11_spread : ByteArray := prog_1_method_20_code
def yX11_spread : MethodName := ⟨RX11, "spread", "()I"⟩
abbrev cX11_mend : ByteArray := prog_1_method_21_code
def yX11_mend : MethodName := ⟨RX11, "mend", "(I)I"⟩
abbrev cX11_part : ByteArray := prog_1_method_22_code
def yX11_part : MethodName := ⟨RX11, "part", "(II)I"⟩
abbrev cX11_put : ByteArray := prog_1_method_23_code
def yX11_put : MethodName := ⟨RX11, "put", "(III)I"⟩
abbrev cX11_forge : ByteArray := prog_1_method_24_code
def yX11_forge : MethodName := ⟨RX11, "forge", "(III)I"⟩
abbrev cX11_status : ByteArray := prog_1_method_25_code
def yX11_status : MethodName := ⟨RX11, "status", "()I"⟩
abbrev cX11_isNoBound : ByteArray := prog_1_method_26_code
def yX11_isNoBound : MethodName := ⟨RX11, "isNoBound", "(I)Z"⟩
abbrev cX11_findWays : ByteArray := prog_1_method_27_code
def yX11_findWays : MethodName := ⟨RX11, "findWays", "()Z"⟩
abbrev cX11_readPair : ByteArray := prog_1_method_28_code
def yX11_readPair : MethodName := ⟨RX11, "readPair", "(I)V"⟩
abbrev cX11_noteWay : ByteArray := prog_1_method_29_code
def yX11_noteWay : MethodName := ⟨RX11, "noteWay", "(I)Z"⟩
abbrev cX11_offerSplit : ByteArray := prog_1_method_30_code
def yX11_offerSplit : MethodName := ⟨RX11, "offerSplit", "(I)V"⟩
abbrev cX11_offerMended : ByteArray := prog_1_method_31_code
def yX11_offerMended : MethodName := ⟨RX11, "offerMended", "(II)V"⟩
abbrev cX11_offerJoin : ByteArray := prog_1_method_32_code
def yX11_offerJoin : MethodName := ⟨RX11, "offerJoin", "(I)V"⟩
abbrev cX11_isThing : ByteArray := prog_1_method_33_code
def yX11_isThing : MethodName := ⟨RX11, "isThing", "(II)Z"⟩
abbrev cX11_layLetters : ByteArray := prog_1_method_34_code
def yX11_layLetters : MethodName := ⟨RX11, "layLetters", "(II)V"⟩
abbrev cX11_layState : ByteArray := prog_1_method_35_code
def yX11_layState : MethodName := ⟨RX11, "layState", "(II)V"⟩
abbrev cX11_layPrices : ByteArray := prog_1_method_36_code
def yX11_layPrices : MethodName := ⟨RX11, "layPrices", "(I)V"⟩
abbrev cX11_layTruths : ByteArray := prog_1_method_37_code
def yX11_layTruths : MethodName := ⟨RX11, "layTruths", "(II)V"⟩
def RX12 : String := "WordMenderModel"
def TX12 : u_T := fun k => match k with
  | 0 => ("WordMenderModel", "tape", "[I", true)
  | 1 => ("WordMenderModel", "tapeN", "I", false)
  | 2 => ("WordMenderModel", "rows", "I", false)
  | 3 => ("WordMenderModel", "rowLen", "[I", true)
  | 4 => ("WordMenderModel", "rowLet", "[I", true)
  | 5 => ("WordMenderModel", "words", "I", false)
  | 6 => ("WordMenderModel", "wLen", "[I", true)
  | 7 => ("WordMenderModel", "wLet", "[I", true)
  | 8 => ("WordMenderModel", "wCount", "[I", true)
  | 9 => ("WordMenderModel", "kindPrice", "[I", true)
  | 10 => ("WordMenderModel", "swap", "[I", true)
  | 11 => ("WordMenderModel", "leftOut", "[I", true)
  | 12 => ("WordMenderModel", "putIn", "[I", true)
  | 13 => ("WordMenderModel", "splits", "I", false)
  | 14 => ("WordMenderModel", "joins", "I", false)
  | 15 => ("WordMenderModel", "weight", "I", false)
  | 16 => ("WordMenderModel", "sounds", "I", false)
  | 17 => ("WordMenderModel", "sFirst", "[I", true)
  | 18 => ("WordMenderModel", "sFirstLet", "[I", true)
  | 19 => ("WordMenderModel", "sSecond", "[I", true)
  | 20 => ("WordMenderModel", "sSecondLet", "[I", true)
  | 21 => ("WordMenderModel", "sPrice", "[I", true)
  | 22 => ("WordMenderModel", "aLen", "I", false)
  | 23 => ("WordMenderModel", "bLen", "I", false)
  | 24 => ("WordMenderModel", "a", "[I", true)
  | 25 => ("WordMenderModel", "b", "[I", true)
  | 26 => ("WordMenderModel", "best", "[I", true)
  | 27 => ("WordMenderModel", "slips", "I", false)
  | 28 => ("WordMenderModel", "slipKind", "[I", true)
  | 29 => ("WordMenderModel", "slipPrice", "[I", true)
  | 30 => ("WordMenderModel", "slipI", "[I", true)
  | 31 => ("WordMenderModel", "slipJ", "[I", true)
  | 32 => ("WordMenderModel", "slipSound", "[I", true)
  | 33 => ("WordMenderModel", "wayN", "I", false)
  | 34 => ("WordMenderModel", "wayKind", "[I", true)
  | 35 => ("WordMenderModel", "wayPrice", "[I", true)
  | 36 => ("WordMenderModel", "wayI", "[I", true)
  | 37 => ("WordMenderModel", "wayJ", "[I", true)
  | 38 => ("WordMenderModel", "waySound", "[I", true)
  | 39 => ("WordMenderModel", "met", "I", false)
  | 40 => ("WordMenderModel", "leftMany", "I", false)
  | 41 => ("WordMenderModel", "nDepth", "[I", true)
  | 42 => ("WordMenderModel", "nLetter", "[I", true)
  | 43 => ("WordMenderModel", "nLeast", "[I", true)
  | 44 => ("WordMenderModel", "nLeft", "[I", true)
  | 45 => ("WordMenderModel", "nWord", "[I", true)
  | 46 => ("WordMenderModel", "nState", "[I", true)
  | 47 => ("WordMenderModel", "walkLen", "I", false)
  | 48 => ("WordMenderModel", "rowState", "[I", true)
  | 49 => ("WordMenderModel", "path", "[I", true)
  | 50 => ("WordMenderModel", "frameFrom", "[I", true)
  | 51 => ("WordMenderModel", "frameTo", "[I", true)
  | 52 => ("WordMenderModel", "frameAt", "[I", true)
  | 53 => ("WordMenderModel", "found", "I", false)
  | 54 => ("WordMenderModel", "fWord", "[I", true)
  | 55 => ("WordMenderModel", "fDistance", "[I", true)
  | 56 => ("WordMenderModel", "fShare", "[I", true)
  | 57 => ("WordMenderModel", "trying", "I", false)
  | 58 => ("WordMenderModel", "tWord", "[I", true)
  | 59 => ("WordMenderModel", "tDistance", "[I", true)
  | 60 => ("WordMenderModel", "tShare", "[I", true)
  | 61 => ("WordMenderModel", "pairs", "I", false)
  | 62 => ("WordMenderModel", "pA", "[I", true)
  | 63 => ("WordMenderModel", "pALet", "[I", true)
  | 64 => ("WordMenderModel", "pB", "[I", true)
  | 65 => ("WordMenderModel", "pBLet", "[I", true)
  | 66 => ("WordMenderModel", "oldLen", "[I", true)
  | 67 => ("WordMenderModel", "oldKind", "[I", true)
  | 68 => ("WordMenderModel", "c", "[I", true)
  | 69 => ("WordMenderModel", "parts", "I", false)
  | 70 => ("WordMenderModel", "mendSum", "I", false)
  | 71 => ("WordMenderModel", "partKind", "[I", true)
  | 72 => ("WordMenderModel", "partPrice", "[I", true)
  | 73 => ("WordMenderModel", "partFirst", "[I", true)
  | 74 => ("WordMenderModel", "partSecond", "[I", true)
  | 75 => ("WordMenderModel", "partRows", "[I", true)
  | 76 => ("WordMenderModel", "mBest", "[I", true)
  | 77 => ("WordMenderModel", "near", "[I", true)
  | 78 => ("WordMenderModel", "nearPrice", "[I", true)
  | 79 => ("WordMenderModel", "tray", "[I", true)
  | 80 => ("WordMenderModel", "trayLen", "[I", true)
  | 81 => ("WordMenderModel", "trayCell", "[I", true)
  | 82 => ("WordMenderModel", "status", "I", false)
  | 83 => ("WordMenderModel", "goI", "I", false)
  | 84 => ("WordMenderModel", "goJ", "I", false)
  | _ => ("WordMenderModel", "both", "[I", true)
def tyX12 : Nat → FieldType := fun k => match k with
  | 0 => .array .int
  | 1 => .int
  | 2 => .int
  | 3 => .array .int
  | 4 => .array .int
  | 5 => .int
  | 6 => .array .int
  | 7 => .array .int
  | 8 => .array .int
  | 9 => .array .int
  | 10 => .array .int
  | 11 => .array .int
  | 12 => .array .int
  | 13 => .int
  | 14 => .int
  | 15 => .int
  | 16 => .int
  | 17 => .array .int
  | 18 => .array .int
  | 19 => .array .int
  | 20 => .array .int
  | 21 => .array .int
  | 22 => .int
  | 23 => .int
  | 24 => .array .int
  | 25 => .array .int
  | 26 => .array .int
  | 27 => .int
  | 28 => .array .int
  | 29 => .array .int
  | 30 => .array .int
  | 31 => .array .int
  | 32 => .array .int
  | 33 => .int
  | 34 => .array .int
  | 35 => .array .int
  | 36 => .array .int
  | 37 => .array .int
  | 38 => .array .int
  | 39 => .int
  | 40 => .int
  | 41 => .array .int
  | 42 => .array .int
  | 43 => .array .int
  | 44 => .array .int
  | 45 => .array .int
  | 46 => .array .int
  | 47 => .int
  | 48 => .array .int
  | 49 => .array .int
  | 50 => .array .int
  | 51 => .array .int
  | 52 => .array .int
  | 53 => .int
  | 54 => .array .int
  | 55 => .array .int
  | 56 => .array .int
  | 57 => .int
  | 58 => .array .int
  | 59 => .array .int
  | 60 => .array .int
  | 61 => .int
  | 62 => .array .int
  | 63 => .array .int
  | 64 => .array .int
  | 65 => .array .int
  | 66 => .array .int
  | 67 => .array .int
  | 68 => .array .int
  | 69 => .int
  | 70 => .int
  | 71 => .array .int
  | 72 => .array .int
  | 73 => .array .int
  | 74 => .array .int
  | 75 => .array .int
  | 76 => .array .int
  | 77 => .array .int
  | 78 => .array .int
  | 79 => .array .int
  | 80 => .array .int
  | 81 => .array .int
  | 82 => .int
  | 83 => .int
  | 84 => .int
  | _ => .array .int
abbrev wsX120 : List Cond := u_ws RX12 TX12 86
theorem nmX12 : ∀ a, a < 86 → ∀ b, b < 86 → a ≠ b → (TX12 a).2.1 ≠ (TX12 b).2.1 := by decide +kernel
theorem tyX12_ok : ∀ k, k < 86 → parseFieldDescriptor (TX12 k).2.2.1 = some (tyX12 k) := by decide +kernel
abbrev cX12_init : ByteArray := prog_14_method_1_code
def yX12_init : MethodName := ⟨RX12, "<init>", "()V"⟩
abbrev cX12_in : ByteArray := prog_14_method_2_code
def yX12_in : MethodName := ⟨RX12, "in", "(III)Z"⟩
abbrev cX12_min : ByteArray := prog_14_method_3_code
def yX12_min : MethodName := ⟨RX12, "min", "(II)I"⟩
abbrev cX12_feed : ByteArray := prog_14_method_4_code
def yX12_feed : MethodName := ⟨RX12, "feed", "(IJ)I"⟩
abbrev cX12_reads : ByteArray := prog_14_method_5_code
def yX12_reads : MethodName := ⟨RX12, "reads", "(III)Z"⟩
abbrev cX12_readsOne : ByteArray := prog_14_method_6_code
def yX12_readsOne : MethodName := ⟨RX12, "readsOne", "()Z"⟩
abbrev cX12_readsTwo : ByteArray := prog_14_method_7_code
def yX12_readsTwo : MethodName := ⟨RX12, "readsTwo", "(I)Z"⟩
abbrev cX12_takeA : ByteArray := prog_14_method_8_code
def yX12_takeA : MethodName := ⟨RX12, "takeA", "(I)V"⟩
abbrev cX12_takeB : ByteArray := prog_14_method_9_code
def yX12_takeB : MethodName := ⟨RX12, "takeB", "(I)V"⟩
abbrev cX12_wordA : ByteArray := prog_14_method_10_code
def yX12_wordA : MethodName := ⟨RX12, "wordA", "(I)V"⟩
abbrev cX12_compares : ByteArray := prog_14_method_11_code
def yX12_compares : MethodName := ⟨RX12, "compares", "(II[II)I"⟩
abbrev cX12_wordOf : ByteArray := prog_14_method_12_code
def yX12_wordOf : MethodName := ⟨RX12, "wordOf", "(I[II)I"⟩
abbrev cX12_add : ByteArray := prog_14_method_13_code
def yX12_add : MethodName := ⟨RX12, "add", "(I)I"⟩
abbrev cX12_moveWord : ByteArray := prog_14_method_14_code
def yX12_moveWord : MethodName := ⟨RX12, "moveWord", "(II)V"⟩
abbrev cX12_drop : ByteArray := prog_14_method_15_code
def yX12_drop : MethodName := ⟨RX12, "drop", "()I"⟩
abbrev cX12_find : ByteArray := prog_14_method_16_code
def yX12_find : MethodName := ⟨RX12, "find", "()I"⟩
abbrev cX12_word : ByteArray := prog_14_method_17_code
def yX12_word : MethodName := ⟨RX12, "word", "(II)I"⟩
abbrev cX12_alike : ByteArray := prog_14_method_18_code
def yX12_alike : MethodName := ⟨RX12, "alike", "(I)I"⟩
abbrev cX12_nodes : ByteArray := prog_14_method_19_code
def yX12_nodes : MethodName := ⟨RX12, "nodes", "()I"⟩
abbrev cX12_count : ByteArray := prog_14_method_20_code
def yX12_count : MethodName := ⟨RX12, "count", "(I)I"⟩
abbrev cX12_price : ByteArray := prog_14_method_21_code
def yX12_price : MethodName := ⟨RX12, "price", "(IIII)I"⟩
abbrev cX12_sound : ByteArray := prog_14_method_22_code
def yX12_sound : MethodName := ⟨RX12, "sound", "(I)I"⟩
abbrev cX12_model : ByteArray := prog_14_method_23_code
def yX12_model : MethodName := ⟨RX12, "model", "(I)I"⟩
abbrev cX12_share : ByteArray := prog_14_method_24_code
def yX12_share : MethodName := ⟨RX12, "share", "(I)I"⟩
abbrev cX12_swapPrice : ByteArray := prog_14_method_25_code
def yX12_swapPrice : MethodName := ⟨RX12, "swapPrice", "(II)I"⟩
abbrev cX12_leftPrice : ByteArray := prog_14_method_26_code
def yX12_leftPrice : MethodName := ⟨RX12, "leftPrice", "(I)I"⟩
abbrev cX12_putPrice : ByteArray := prog_14_method_27_code
def yX12_putPrice : MethodName := ⟨RX12, "putPrice", "(I)I"⟩
abbrev cX12_hasSound : ByteArray := prog_14_method_28_code
def yX12_hasSound : MethodName := ⟨RX12, "hasSound", "(III)Z"⟩
abbrev cX12_slip : ByteArray := prog_14_method_29_code
def yX12_slip : MethodName := ⟨RX12, "slip", "(IIII)I"⟩
abbrev cX12_sums : ByteArray := prog_14_method_30_code
def yX12_sums : MethodName := ⟨RX12, "sums", "()V"⟩
abbrev cX12_ways : ByteArray := prog_14_method_31_code
def yX12_ways : MethodName := ⟨RX12, "ways", "()V"⟩
abbrev cX12_distance : ByteArray := prog_14_method_32_code
def yX12_distance : MethodName := ⟨RX12, "distance", "()I"⟩
abbrev cX12_way : ByteArray := prog_14_method_33_code
def yX12_way : MethodName := ⟨RX12, "way", "(II)I"⟩
abbrev cX12_stateRow : ByteArray := prog_14_method_34_code
def yX12_stateRow : MethodName := ⟨RX12, "stateRow", "(I)V"⟩
abbrev cX12_leastOf : ByteArray := prog_14_method_35_code
def yX12_leastOf : MethodName := ⟨RX12, "leastOf", "(I)I"⟩
abbrev cX12_meets : ByteArray := prog_14_method_36_code
def yX12_meets : MethodName := ⟨RX12, "meets", "(IIZ)Z"⟩
abbrev cX12_walk : ByteArray := prog_14_method_37_code
def yX12_walk : MethodName := ⟨RX12, "walk", "(I)V"⟩
abbrev cX12_distanceTo : ByteArray := prog_14_method_38_code
def yX12_distanceTo : MethodName := ⟨RX12, "distanceTo", "(I)I"⟩
abbrev cX12_beginningTo : ByteArray := prog_14_method_39_code
def yX12_beginningTo : MethodName := ⟨RX12, "beginningTo", "(I)I"⟩
abbrev cX12_isAhead : ByteArray := prog_14_method_40_code
def yX12_isAhead : MethodName := ⟨RX12, "isAhead", "(IIII)Z"⟩
abbrev cX12_tries : ByteArray := prog_14_method_41_code
def yX12_tries : MethodName := ⟨RX12, "tries", "(IZ)V"⟩
abbrev cX12_keeps : ByteArray := prog_14_method_42_code
def yX12_keeps : MethodName := ⟨RX12, "keeps", "(I)I"⟩
abbrev cX12_near : ByteArray := prog_14_method_43_code
def yX12_near : MethodName := ⟨RX12, "near", "(I)I"⟩
abbrev cX12_nearest : ByteArray := prog_14_method_44_code
def yX12_nearest : MethodName := ⟨RX12, "nearest", "(I)I"⟩
abbrev cX12_complete : ByteArray := prog_14_method_45_code
def yX12_complete : MethodName := ⟨RX12, "complete", "(I)I"⟩
abbrev cX12_found : ByteArray := prog_14_method_46_code
def yX12_found : MethodName := ⟨RX12, "found", "(II)I"⟩
abbrev cX12_node : ByteArray := prog_14_method_47_code
def yX12_node : MethodName := ⟨RX12, "node", "(II)I"⟩
abbrev cX12_pair : ByteArray := prog_14_method_48_code
def yX12_pair : MethodName := ⟨RX12, "pair", "()I"⟩
abbrev cX12_takePair : ByteArray := prog_14_method_49_code
def yX12_takePair : MethodName := ⟨RX12, "takePair", "(I)V"⟩
abbrev cX12_learn : ByteArray := prog_14_method_50_code
def yX12_learn : MethodName := ⟨RX12, "learn", "()I"⟩
abbrev cX12_spread : ByteArray := prog_14_method_51_code
def yX12_spread : MethodName := ⟨RX12, "spread", "()I"⟩
abbrev cX12_together : ByteArray := prog_14_method_52_code
def yX12_together : MethodName := ⟨RX12, "together", "(I)I"⟩
abbrev cX12_isWord : ByteArray := prog_14_method_53_code
def yX12_isWord : MethodName := ⟨RX12, "isWord", "(I)I"⟩
abbrev cX12_parting : ByteArray := prog_14_method_54_code
def yX12_parting : MethodName := ⟨RX12, "parting", "(I)I"⟩
abbrev cX12_partAt : ByteArray := prog_14_method_55_code
def yX12_partAt : MethodName := ⟨RX12, "partAt", "(III)I"⟩
abbrev cX12_mend : ByteArray := prog_14_method_56_code
def yX12_mend : MethodName := ⟨RX12, "mend", "(I)I"⟩
abbrev cX12_part : ByteArray := prog_14_method_57_code
def yX12_part : MethodName := ⟨RX12, "part", "(II)I"⟩
abbrev cX12_refused : ByteArray := prog_14_method_58_code
def yX12_refused : MethodName := ⟨RX12, "refused", "(I)I"⟩
abbrev cX12_done : ByteArray := prog_14_method_59_code
def yX12_done : MethodName := ⟨RX12, "done", "(I)I"⟩
abbrev cX12_put : ByteArray := prog_14_method_60_code
def yX12_put : MethodName := ⟨RX12, "put", "(III)I"⟩
abbrev cX12_forge : ByteArray := prog_14_method_61_code
def yX12_forge : MethodName := ⟨RX12, "forge", "(III)I"⟩
abbrev cX12_status : ByteArray := prog_14_method_62_code
def yX12_status : MethodName := ⟨RX12, "status", "()I"⟩
def RJ9 : String := "java/lang/Math"
def TJ9 : u_T := fun k => match k with
  | _ => ("", "", "", false)
def tyJ9 : Nat → FieldType := fun k => match k with
  | _ => .int
abbrev wsJ90 : List Cond := u_ws RJ9 TJ9 0
theorem nmJ9 : ∀ a, a < 0 → ∀ b, b < 0 → a ≠ b → (TJ9 a).2.1 ≠ (TJ9 b).2.1 := by decide +kernel
theorem tyJ9_ok : ∀ k, k < 0 → parseFieldDescriptor (TJ9 k).2.2.1 = some (tyJ9 k) := by decide +kernel
abbrev cJ9_max_7cf53 : ByteArray := prog_15_method_65_code
def yJ9_max_7cf53 : MethodName := ⟨RJ9, "max", "(II)I"⟩
abbrev cJ9_min_7cf53 : ByteArray := prog_15_method_69_code
def yJ9_min_7cf53 : MethodName := ⟨RJ9, "min", "(II)I"⟩
def RJ10 : String := "java/lang/System"
def TJ10 : u_T := fun k => match k with
  | _ => ("", "", "", false)
def tyJ10 : Nat → FieldType := fun k => match k with
  | _ => .int
abbrev wsJ100 : List Cond := u_ws RJ10 TJ10 0
theorem nmJ10 : ∀ a, a < 0 → ∀ b, b < 0 → a ≠ b → (TJ10 a).2.1 ≠ (TJ10 b).2.1 := by decide +kernel
theorem tyJ10_ok : ∀ k, k < 0 → parseFieldDescriptor (TJ10 k).2.2.1 = some (tyJ10 k) := by decide +kernel
def RJ7 : String := "java/util/Arrays"
def TJ7 : u_T := fun k => match k with
  | _ => ("", "", "", false)
def tyJ7 : Nat → FieldType := fun k => match k with
  | _ => .int
abbrev wsJ70 : List Cond := u_ws RJ7 TJ7 0
theorem nmJ7 : ∀ a, a < 0 → ∀ b, b < 0 → a ≠ b → (TJ7 a).2.1 ≠ (TJ7 b).2.1 := by decide +kernel
theorem tyJ7_ok : ∀ k, k < 0 → parseFieldDescriptor (TJ7 k).2.2.1 = some (tyJ7 k) := by decide +kernel
abbrev cJ7_fill_53178 : ByteArray := prog_17_method_103_code
def yJ7_fill_53178 : MethodName := ⟨RJ7, "fill", "([II)V"⟩
def RL : String := "WordMenderLaw"
abbrev cL_law : ByteArray := code
def yL_law : MethodName := ⟨RL, "law", "([I)Z"⟩
abbrev vwCl : List vw_C := [(RX0, TX0, 5), (RX1, TX1, 3), (RX2, TX2, 8), (RX3, TX3, 8), (RX4, TX4, 2), (RX5, TX5, 3), (RX6, TX6, 7), (RX7, TX7, 2), (RX8, TX8, 4), (RX9, TX9, 9), (RX10, TX10, 7), (RX11, TX11, 17), (RX12, TX12, 86)]
/-- the cells by their numbers: kind (1 ints, 2 truths, 3 + class), size -/
def xTab : List (Nat × Nat) := [(0, 0), (14, 17), (10, 2), (1, 240), (4, 3), (8, 3), (1, 2400), (1, 200), (1, 200), (9, 7), (1, 10), (1, 676), (1, 26), (1, 26), (8, 3), (1, 240), (1, 20), (8, 3), (1, 240), (1, 20), (1, 20), (7, 2), (1, 12), (7, 2), (1, 12), (8, 3), (1, 144), (1, 12), (13, 7), (1, 169), (1, 24), (1, 24), (1, 24), (1, 24), (13, 7), (1, 169), (1, 24), (1, 24), (1, 24), (1, 24), (8, 3), (1, 480), (1, 40), (8, 3), (1, 480), (1, 40), (1, 960), (1, 7), (12, 9), (6, 8), (1, 2401), (1, 2401), (2, 2401), (2, 2401), (1, 31213), (7, 2), (1, 12), (1, 169), (1, 13), (1, 13), (1, 200), (1, 200), (3, 5), (1, 200), (1, 200), (1, 200), (3, 5), (1, 200), (1, 200), (1, 200), (5, 8), (1, 60), (1, 60), (1, 60), (1, 13), (1, 13), (1, 12), (11, 4), (1, 8), (1, 8), (1, 208), (15, 86), (1, 240), (1, 12), (1, 144), (1, 200), (1, 2400), (1, 200), (1, 7), (1, 676), (1, 26), (1, 26), (1, 20), (1, 60), (1, 20), (1, 60), (1, 20), (1, 12), (1, 12), (1, 169), (1, 24), (1, 24), (1, 24), (1, 24), (1, 24), (1, 24), (1, 24), (1, 24), (1, 24), (1, 24), (1, 2401), (1, 2401), (1, 2401), (1, 2401), (1, 2401), (1, 31213), (1, 169), (1, 13), (1, 13), (1, 13), (1, 13), (1, 200), (1, 200), (1, 200), (1, 200), (1, 200), (1, 200), (1, 40), (1, 480), (1, 40), (1, 480), (1, 40), (1, 960), (1, 7), (1, 12), (1, 12), (1, 12), (1, 12), (1, 12), (1, 13), (1, 12), (1, 12), (1, 8), (1, 8), (1, 208), (1, 24)]
def xKn : Nat := 145
def xK (o : Int) : Nat := (xTab.getD o.toNat (0, 0)).1
def xN (o : Int) : Nat := (xTab.getD o.toNat (0, 0)).2
/-- what the cells' references are, for ever -/
def xRT : List (List Int) := [[], [2, 4, 9, 21, 23, 25, 28, 34, 40, 43, 46, 47, 48, 62, 66, 70, 77], [3, 0], [], [5, 8, 0], [6, 7, 0], [], [], [], [10, 11, 12, 13, 14, 17, 20], [], [], [], [], [15, 16, 0], [], [], [18, 19, 0], [], [], [], [22, 0], [], [24, 0], [], [26, 27, 0], [], [], [9, 29, 30, 31, 32, 33, 0], [], [], [], [], [], [9, 35, 36, 37, 38, 39, 0], [], [], [], [], [], [41, 42, 0], [], [], [44, 45, 0], [], [], [], [], [4, 9, 49, 55, 57, 58, 59, 60, 61], [50, 51, 52, 53, 54, 0, 0, 0], [], [], [], [], [], [56, 0], [], [], [], [], [], [], [4, 63, 64, 65, 0], [], [], [], [4, 67, 68, 69, 0], [], [], [], [71, 72, 73, 74, 75, 76, 0, 0], [], [], [], [], [], [], [78, 79, 80, 0], [], [], [], [82, 0, 0, 83, 84, 0, 85, 86, 87, 88, 89, 90, 91, 0, 0, 0, 0, 92, 93, 94, 95, 96, 0, 0, 97, 98, 99, 0, 100, 101, 102, 103, 104, 0, 105, 106, 107, 108, 109, 0, 0, 110, 111, 112, 113, 114, 115, 0, 116, 117, 118, 119, 120, 0, 121, 122, 123, 0, 124, 125, 126, 0, 127, 128, 129, 130, 131, 132, 133, 0, 0, 134, 135, 136, 137, 138, 139, 140, 141, 142, 143, 144, 0, 0, 0, 145], [], [], [], [], [], [], [], [], [], [], [], [], [], [], [], [], [], [], [], [], [], [], [], [], [], [], [], [], [], [], [], [], [], [], [], [], [], [], [], [], [], [], [], [], [], [], [], [], [], [], [], [], [], [], [], [], [], [], [], [], [], [], [], []]
def xRf (o j : Int) : Int := if j < 0 then 0 else (xRT.getD o.toNat []).getD j.toNat 0
def xNL : List Nat := [5, 3, 8, 8, 2, 3, 7, 2, 4, 9, 7, 17, 86]
def xNf (ci : Nat) : Nat := xNL.getD ci 0
def xRL : List (List Bool) := [[true, true, true, true, false], [true, true, false], [true, true, true, true, true, true, false, false], [true, true, true, true, true, false, false, false], [true, false], [true, true, false], [true, true, true, true, true, true, true], [true, false], [true, true, true, false], [true, true, true, true, true, true, true, true, true], [true, true, true, true, true, true, false], [true, true, true, true, true, true, true, true, true, true, true, true, true, true, true, true, true], [true, false, false, true, true, false, true, true, true, true, true, true, true, false, false, false, false, true, true, true, true, true, false, false, true, true, true, false, true, true, true, true, true, false, true, true, true, true, true, false, false, true, true, true, true, true, true, false, true, true, true, true, true, false, true, true, true, false, true, true, true, false, true, true, true, true, true, true, true, false, false, true, true, true, true, true, true, true, true, true, true, true, false, false, false, true]]
def xIsR (ci j : Nat) : Bool := (xRL.getD ci []).getD j false
end
section
/-! THE QUIET MACHINE: numbers are integers, cells are numbers, a heap is a function; each row is one instruction -/
abbrev xV : Type := Int ⊕ (Int ⊕ (Int64 ⊕ UInt32))
abbrev xI (x : Int) : xV := Sum.inl x
abbrev xR (x : Int) : xV := Sum.inr (Sum.inl x)
abbrev xL (x : Int64) : xV := Sum.inr (Sum.inr (Sum.inl x))
abbrev xF (x : UInt32) : xV := Sum.inr (Sum.inr (Sum.inr x))
abbrev xH : Type := Int → Int → Int
abbrev xok (z : Int) : Prop := -2147483648 ≤ z ∧ z ≤ 2147483647
def xRng (h : xH) : Prop := ∀ o j, xok (h o j)
def xvok (v : xV) : Prop := match v with
  | .inl x => xok x
  | _ => True
def xcat (v : xV) : Nat := match v with
  | .inr (.inr (.inl _)) => 2
  | _ => 1
def xcv (ad : Int → Nat) (v : xV) : Value := match v with
  | .inl x => .int (Int32.ofInt x)
  | .inr (.inl o) => .ref (ad o)
  | .inr (.inr (.inl x)) => .long x
  | .inr (.inr (.inr x)) => .float x
theorem xcat_cv (ad : Int → Nat) (v : xV) : (xcv ad v).category = xcat v := by
  rcases v with x | x | x | x <;> rfl
theorem xti {x : Int} (h : xok x) : (Int32.ofInt x).toInt = x := Int32.toInt_ofInt_of_le (by have := h.1; omega) (by have := h.2; omega)
theorem xlt {x y : Int} (hx : xok x) (hy : xok y) : Int32.ofInt x < Int32.ofInt y ↔ x < y := by rw [Int32.lt_iff_toInt_lt, xti hx, xti hy]
theorem xle {x y : Int} (hx : xok x) (hy : xok y) : Int32.ofInt x ≤ Int32.ofInt y ↔ x ≤ y := by rw [Int32.le_iff_toInt_le, xti hx, xti hy]
theorem xeq {x y : Int} (hx : xok x) (hy : xok y) : Int32.ofInt x = Int32.ofInt y ↔ x = y := by rw [← Int32.toInt_inj, xti hx, xti hy]
theorem xz0 : (0 : Int32) = Int32.ofInt 0 := by decide
theorem xok0 : xok 0 := by decide
theorem xcl {x : Int} (h : xok x) : (Int32.ofInt x).toNatClampNeg = x.toNat := by show (Int32.ofInt x).toInt.toNat = _; rw [xti h]
theorem xin {i : Int} {n : Nat} (h : xok i) (h0 : 0 ≤ i) (h1 : i < n) : vp_in (Int32.ofInt i) n := by rw [vp_in_iff, xti h]; exact ⟨h0, h1⟩
theorem xoi (z : Int32) : Int32.ofInt z.toInt = z := Int32.ofInt_toInt z
theorem xokt (z : Int32) : xok z.toInt := ⟨by have := Int32.le_toInt z; omega, by have := Int32.toInt_lt z; omega⟩
def xup (h : xH) (o j v : Int) : xH := fun o' j' => if o' = o ∧ j' = j then v else h o' j'
def xcp (h : xH) (s sp d dp n : Int) : xH := fun o j => if o = d ∧ dp ≤ j ∧ j < dp + n then h s (sp + (j - dp)) else h o j
theorem xup_rng {h : xH} {o j v : Int} (hr : xRng h) (hv : xok v) : xRng (xup h o j v) := by
  intro a b
  unfold xup
  split
  · exact hv
  · exact hr a b
theorem xcp_rng {h : xH} {s sp d dp n : Int} (hr : xRng h) : xRng (xcp h s sp d dp n) := by
  intro a b
  unfold xcp
  split
  · exact hr _ _
  · exact hr a b
/-- the references of the cells stand as the constructors left them -/
def xRef (h : xH) : Prop := ∀ o j, xRf o j ≠ 0 → h o j = xRf o j
def xG (md : Bool) (n : Nat) (h : xH) : Prop := md = true → n = xKn ∧ xRef h
theorem xRf_kind {o j : Int} (h : xRf o j ≠ 0) : 3 ≤ xK o := by
  have key : ∀ k : Nat, k < xRT.length → xRT.getD k [] ≠ [] → 3 ≤ (xTab.getD k (0, 0)).1 := by decide +kernel
  unfold xRf at h
  unfold xK
  split at h
  · exact absurd rfl h
  · have hne : xRT.getD o.toNat [] ≠ [] := by intro e; rw [e] at h; simp at h
    by_cases hk : o.toNat < xRT.length
    · exact key _ hk hne
    · exact absurd (by simp [List.getD, List.getElem?_eq_none (Nat.not_lt.mp hk)]) hne
theorem xRef_up {h : xH} {o j v : Int} (hf : xRef h) (hn : xRf o j = 0) : xRef (xup h o j v) := by
  intro a b hab
  unfold xup
  split
  · next q => obtain ⟨rfl, rfl⟩ := q; exact absurd hn hab
  · exact hf a b hab
theorem xRef_cp {h : xH} {s sp d dp n : Int} (hf : xRef h) (hk : xK d < 3) : xRef (xcp h s sp d dp n) := by
  intro a b hab
  unfold xcp
  split
  · next q => obtain ⟨rfl, -⟩ := q; exact absurd (xRf_kind hab) (by omega)
  · exact hf a b hab
theorem xRf_arr {o j : Int} (hk : xK o < 3) : xRf o j = 0 := Classical.byContradiction fun h => absurd (xRf_kind h) (by omega)
section XW
variable (cI cZ : ClassId) (ad : Int → Nat)
def xfv (h : xH) (ci : Nat) (o : Int) (j : Nat) : Value := if xIsR ci j = true then (if h o j = 0 then Value.null else .ref (ad (h o j))) else .int (Int32.ofInt (h o j))
def xflds (h : xH) (ci : Nat) (o : Int) : List Value := (List.range (xNf ci)).map (xfv ad h ci o)
def xC (h : xH) (o : Int) : va_E :=
  if xK o = 1 then .inl (cI, xN o, .inl (fun j => Int32.ofInt (h o j)))
  else if xK o = 2 then .inl (cZ, xN o, .inl (fun j => Int32.ofInt (h o j)))
  else .inr (xK o - 3, xflds ad h (xK o - 3) o)
def xws (h : xH) (n : Nat) : va_W := (List.range n).map fun k : Nat => (ad ((k : Int) + 1), xC cI cZ ad h ((k : Int) + 1))
end XW
theorem xws_at {cI cZ : ClassId} {ad : Int → Nat} {h : xH} {n : Nat} {o : Int} (h1 : 1 ≤ o) (h2 : o ≤ n) : (xws cI cZ ad h n)[o.toNat - 1]? = some (ad o, xC cI cZ ad h o) := by
  have hk : o.toNat - 1 < n := by omega
  have e : (((o.toNat - 1 : Nat)) : Int) + 1 = o := by omega
  simp only [xws, List.getElem?_map, List.getElem?_range hk, Option.map_some, e]
theorem xflds_congr {ad : Int → Nat} {h h' : xH} {ci : Nat} {o : Int} (hh : ∀ j, h' o j = h o j) : xflds ad h' ci o = xflds ad h ci o := by
  unfold xflds
  refine List.map_congr_left fun j _ => ?_
  simp only [xfv, hh]
theorem xC_congr {cI cZ : ClassId} {ad : Int → Nat} {h h' : xH} {o : Int} (hh : ∀ j, h' o j = h o j) : xC cI cZ ad h' o = xC cI cZ ad h o := by
  unfold xC
  simp only [hh, xflds_congr hh]
theorem xws_set {cI cZ : ClassId} {ad : Int → Nat} {h h' : xH} {n : Nat} {o : Int} (h1 : 1 ≤ o) (h2 : o ≤ n) (hh : ∀ o', o' ≠ o → ∀ j, h' o' j = h o' j) : (xws cI cZ ad h n).set (o.toNat - 1) (ad o, xC cI cZ ad h' o) = xws cI cZ ad h' n := by
  refine List.ext_getElem? fun i => ?_
  by_cases hi : i < n
  · by_cases he : i = o.toNat - 1
    · subst he
      rw [List.getElem?_set_self (by simp [xws]; omega), xws_at h1 h2]
    · rw [List.getElem?_set_ne (fun q => he q.symm)]
      simp only [xws, List.getElem?_map, List.getElem?_range hi, Option.map_some]
      rw [xC_congr (hh _ (by omega))]
  · rw [List.getElem?_eq_none (by simp [xws]; omega), List.getElem?_eq_none (by simp [xws]; omega)]
theorem xflds_len {ad : Int → Nat} {h : xH} {ci : Nat} {o : Int} : (xflds ad h ci o).length = xNf ci := by simp [xflds]
theorem xflds_at {ad : Int → Nat} {h : xH} {ci : Nat} {o : Int} {k : Nat} (hk : k < xNf ci) : (xflds ad h ci o)[k]? = some (xfv ad h ci o k) := by
  simp only [xflds, List.getElem?_map, List.getElem?_range hk, Option.map_some]
theorem xflds_set {ad : Int → Nat} {h : xH} {ci : Nat} {o v : Int} {k : Nat} {w : Value} (hk : k < xNf ci) (hw : w = xfv ad (xup h o k v) ci o k) : (xflds ad h ci o).set k w = xflds ad (xup h o k v) ci o := by
  refine List.ext_getElem? fun i => ?_
  by_cases hi : i < xNf ci
  · by_cases he : i = k
    · subst he
      rw [List.getElem?_set_self (by rw [xflds_len]; exact hi), xflds_at hi, hw]
    · rw [List.getElem?_set_ne (fun q => he q.symm), xflds_at hi, xflds_at hi]
      have e : xup h o k v o (i : Int) = h o (i : Int) := by
        unfold xup
        rw [if_neg (by omega)]
      simp only [xfv, e]
  · rw [List.getElem?_eq_none (by rw [List.length_set, xflds_len]; omega), List.getElem?_eq_none (by rw [xflds_len]; omega)]
/-- the heap holds the first n cells; while they are made there are no others -/
def xRel (D : va_G) (cI cZ : ClassId) (ad : Int → Nat) (base : Nat) (md : Bool) (n : Nat) (h : xH) (H : Heap) (cells : Nat) (s : State) : Prop :=
  va_P D vwCl (xws cI cZ ad h n) H ∧ (md = false → s.heap.size + cells = base + n ∧ ∀ o j, (n : Int) < o → h o j = 0)
/-- the class's two tables -/
def xfM (j : Nat) : Value := .int (Int32.ofInt (([1, 1, 1, 0, 2, 1, 2] : List Int).getD j 0))
def xfT (j : Nat) : Value := .int (Int32.ofInt (([1, 1, 0, 1, 2, 2, 1] : List Int).getD j 0))
def xSt (ad : Int → Nat) (A : Nat → Prop) (s : State) : Prop :=
  va_Z "WordMender$Slips" "MEANT_TAKEN" "[I" (.ref (ad (-1))) A s s.heap ∧ va_T .int (ad (-1)) 7 xfM A s s.heap ∧
  va_Z "WordMender$Slips" "TYPED_TAKEN" "[I" (.ref (ad (-2))) A s s.heap ∧ va_T .int (ad (-2)) 7 xfT A s s.heap
theorem xSt.to {ad : Int → Nat} {A : Nat → Prop} {u U : State} (h : xSt ad A u) (hvm : u.vm.Alike U.vm) (hq : ∀ a : Nat, a < u.heap.size → ¬ A a → U.heap[a]? = u.heap[a]?) : xSt ad A U :=
  ⟨((h.1.kept hq).moved hvm), ((h.2.1.kept hq).moved hvm), ((h.2.2.1.kept hq).moved hvm), ((h.2.2.2.kept hq).moved hvm)⟩
/-- the words that a call hands on -/
def xgood (w : Cond) : Bool := (w.onTables && w.keeps) || (match w with | .arrayClass _ => true | _ => false)
def xtbl : List Cond := lw_tbl.filter xgood
theorem xq_of {w : Cond} (i : Nat) (h : lw_tbl[i]? = some w) (hg : xgood w = true) : w ∈ xtbl := List.mem_filter.mpr ⟨List.mem_of_getElem? h, hg⟩
theorem xtbl_good {w : Cond} (h : w ∈ xtbl) : (w.onTables && w.keeps) = true ∨ ∃ ty, w = .arrayClass ty := by
  have h2 := (List.mem_filter.mp h).2
  unfold xgood at h2
  rcases Bool.or_eq_true _ _ ▸ h2 with h2 | h2
  · exact Or.inl h2
  · right
    split at h2
    · exact ⟨_, rfl⟩
    · cases h2
/-- a method: its class, code, places, answer, whether a constructor; frames and words that it needs; the law's script -/
abbrev xM : Type := String × ByteArray × Nat × Option FieldType × Bool × Nat × Nat × Option (Nat × (Nat → Int32))
def xScr (sc : Option (Nat × (Nat → Int32))) (ad : Int → Nat) (base : Nat) (s : State) : Prop := match sc with
  | none => True
  | some (L, xs) => va_X (ad (-3)) L xs s s.heap ∧ ad (-3) < s.heap.size ∧ ad (-3) < base
def xCx (M : xM) (D : va_G) (cI cZ : ClassId) (base : Nat) (ad : Int → Nat) (p : Program) (R : Room) (s : State) (m : MethodId) (args : Array Value) (meth : Method) (c : Code) : Prop :=
  p.tables.exec = Jvm.exec ∧ c.code = M.2.1 ∧ c.maxLocals = M.2.2.1 ∧ s.vm.findClass M.1 = some m.cls ∧ (∀ w ∈ xtbl, w.before args s = true) ∧
  (M.2.2.2.2.1 = true → meth.name = "<init>") ∧ (M.2.2.2.2.2.1 ≤ R.frames ∧ M.2.2.2.2.2.2.1 ≤ R.locals) ∧ va_K D vwCl [(cI, .int), (cZ, .boolean)] s ∧
  (base ≤ s.heap.size ∧ xSt ad (fun q => base ≤ q) s ∧ ∀ k : Nat, ad ((k : Int) + 1) = base + k) ∧ xScr M.2.2.2.2.2.2.2 ad base s
def xretI (r : Option Int) : Instr := match r with
  | none => .return_
  | some _ => .ireturn
def xrv (r : Option Int) : Option Value := r.map fun x => .int (Int32.ofInt x)
def xrok (rt : Option FieldType) (r : Option Int) : Prop := match rt, r with
  | none, none => True
  | some .int, some x => xok x
  | some .boolean, some x => x = 0 ∨ x = 1
  | _, _ => False
abbrev xQ : Type := Option Int → Nat → xH → Prop
/-- from this place the method comes to its end, and Q holds of answer, number of cells and heap -/
def J (M : xM) (md : Bool) (rc rs : Nat) (pc n : Nat) (ls : List (Nat × xV)) (st : List xV) (h : xH) (Q : xQ) : Prop :=
  (∀ q ∈ ls, xvok q.2) → (∀ v ∈ st, xvok v) → xRng h → xG md n h →
  ∀ (D : va_G) (cI cZ : ClassId) (base : Nat) (ad : Int → Nat) (p : Program) (l : Launch) (e : Env) (R : Room) (s : State) (m : MethodId) (args : Array Value) (below : List Frame) (meth : Method) (c : Code),
  xCx M D cI cZ base ad p R s m args meth c →
  ∀ (H : Heap) (locs : List Loc) (cells slots : Nat) (Z : State → Prop) (lsm : Array Slot),
  xRel D cI cZ ad base md n h H cells s → va_S (fun q => base ≤ q) s.heap H locs → lv_has lsm M.2.2.1 (ls.map fun q => (q.1, xcv ad q.2)) →
  cells + rc = R.cells ∧ slots + rs = R.slots →
  (∀ (r : Option Int) (n' : Nat) (h' : xH) (H' : Heap) (locs' : List Loc) (pc' : Nat) (lsm' : Array Slot), Q r n' h' → xrok M.2.2.2.1 r → xRng h' → xG md n' h' → xRel D cI cZ ad base md n' h' H' R.cells s → va_S (fun q => base ≤ q) s.heap H' locs' → decode M.2.1 pc' = .ok (xretI r, 1) →
    W p l e R s m args below meth c H' locs' R.cells R.slots Z (F0 m pc' lsm' (xrv r).toList)) →
  W p l e R s m args below meth c H locs cells slots Z (F0 m pc lsm (st.map (xcv ad)))
end
section
/-! ROWS OF THE QUIET MACHINE: constants, locals, stack, arithmetic, branches -/
/-- a number as the machine keeps it -/
def w32 (z : Int) : Int := (Int32.ofInt z).toInt
theorem w32_ok (z : Int) : xok (w32 z) := xokt _
theorem w32_of (z : Int) : Int32.ofInt (w32 z) = Int32.ofInt z := xoi _
theorem w32_id {z : Int} (h1 : -2147483648 ≤ z) (h2 : z ≤ 2147483647) : w32 z = z := xti ⟨h1, h2⟩
def xand (x y : Int) : Int := (Int32.ofInt x &&& Int32.ofInt y).toInt
def xdiv (x y : Int) : Int := (Int32.ofInt x / Int32.ofInt y).toInt
def xGo (M : xM) (pc : Nat) (st : List xV) (pc' : Nat) (st' : List xV) : Prop := (∀ v ∈ st, xvok v) → ∀ {p : Program} {l : Launch} {e : Env} {R : Room} {s : State} {m : MethodId} {args : Array Value} {below : List Frame} {meth : Method} {c : Code} {H : Heap} {locs : List Loc} {cells slots : Nat} {Z : State → Prop} {lsm : Array Slot} {ad : Int → Nat},
  p.tables.exec = Jvm.exec → c.code = M.2.1 → s.vm.findClass M.1 = some m.cls → (∀ w ∈ xtbl, w.before args s = true) →
  W p l e R s m args below meth c H locs cells slots Z (F0 m pc' lsm (st'.map (xcv ad))) → W p l e R s m args below meth c H locs cells slots Z (F0 m pc lsm (st.map (xcv ad)))
section
variable {p : Program} {l : Launch} {e : Env} {R : Room} {s : State} {m : MethodId} {args : Array Value} {below : List Frame} {meth : Method} {c : Code} {H : Heap} {locs : List Loc} {cells slots pc : Nat} {Z : State → Prop} {lsm : Array Slot} {cc : ByteArray}
theorem J_br_eq {x y off : Int} {tgt : Nat} {rest : List Value} (hx : xok x) (hy : xok y) (hexec : p.tables.exec = Jvm.exec) (hb : c.code = cc) (hd : decode cc pc = .ok (.if_icmp .eq off, 3)) (ht : (pc : Int) + off = (tgt : Int)) (kt : x = y → W p l e R s m args below meth c H locs cells slots Z (F0 m tgt lsm rest)) (kf : ¬ x = y → W p l e R s m args below meth c H locs cells slots Z (F0 m (pc + 3) lsm rest)) : W p l e R s m args below meth c H locs cells slots Z (F0 m pc lsm (.int (Int32.ofInt y) :: .int (Int32.ofInt x) :: rest)) :=
  lv_icmp_eq hexec hb hd ht (fun q => kt ((xeq hx hy).mp q)) (fun q => kf (fun z => q ((xeq hx hy).mpr z)))
theorem J_bz_eq {x off : Int} {tgt : Nat} {rest : List Value} (hx : xok x) (hexec : p.tables.exec = Jvm.exec) (hb : c.code = cc) (hd : decode cc pc = .ok (.ifCond .eq off, 3)) (ht : (pc : Int) + off = (tgt : Int)) (kt : x = 0 → W p l e R s m args below meth c H locs cells slots Z (F0 m tgt lsm rest)) (kf : ¬ x = 0 → W p l e R s m args below meth c H locs cells slots Z (F0 m (pc + 3) lsm rest)) : W p l e R s m args below meth c H locs cells slots Z (F0 m pc lsm (.int (Int32.ofInt x) :: rest)) :=
  lv_if_eq hexec hb hd ht (fun q => kt ((xeq hx xok0).mp q)) (fun q => kf (fun z => q ((xeq hx xok0).mpr z)))
theorem J_br_ne {x y off : Int} {tgt : Nat} {rest : List Value} (hx : xok x) (hy : xok y) (hexec : p.tables.exec = Jvm.exec) (hb : c.code = cc) (hd : decode cc pc = .ok (.if_icmp .ne off, 3)) (ht : (pc : Int) + off = (tgt : Int)) (kt : x = y → W p l e R s m args below meth c H locs cells slots Z (F0 m (pc + 3) lsm rest)) (kf : ¬ x = y → W p l e R s m args below meth c H locs cells slots Z (F0 m tgt lsm rest)) : W p l e R s m args below meth c H locs cells slots Z (F0 m pc lsm (.int (Int32.ofInt y) :: .int (Int32.ofInt x) :: rest)) :=
  lv_icmp_ne hexec hb hd ht (fun q => kf (fun z => q ((xeq hx hy).mpr z))) (fun q => kt ((xeq hx hy).mp q))
theorem J_bz_ne {x off : Int} {tgt : Nat} {rest : List Value} (hx : xok x) (hexec : p.tables.exec = Jvm.exec) (hb : c.code = cc) (hd : decode cc pc = .ok (.ifCond .ne off, 3)) (ht : (pc : Int) + off = (tgt : Int)) (kt : x = 0 → W p l e R s m args below meth c H locs cells slots Z (F0 m (pc + 3) lsm rest)) (kf : ¬ x = 0 → W p l e R s m args below meth c H locs cells slots Z (F0 m tgt lsm rest)) : W p l e R s m args below meth c H locs cells slots Z (F0 m pc lsm (.int (Int32.ofInt x) :: rest)) :=
  lv_if_ne hexec hb hd ht (fun q => kf (fun z => q ((xeq hx xok0).mpr z))) (fun q => kt ((xeq hx xok0).mp q))
theorem J_br_lt {x y off : Int} {tgt : Nat} {rest : List Value} (hx : xok x) (hy : xok y) (hexec : p.tables.exec = Jvm.exec) (hb : c.code = cc) (hd : decode cc pc = .ok (.if_icmp .lt off, 3)) (ht : (pc : Int) + off = (tgt : Int)) (kt : x < y → W p l e R s m args below meth c H locs cells slots Z (F0 m tgt lsm rest)) (kf : ¬ x < y → W p l e R s m args below meth c H locs cells slots Z (F0 m (pc + 3) lsm rest)) : W p l e R s m args below meth c H locs cells slots Z (F0 m pc lsm (.int (Int32.ofInt y) :: .int (Int32.ofInt x) :: rest)) :=
  lv_icmp_lt hexec hb hd ht (fun q => kt ((xlt hx hy).mp q)) (fun q => kf (fun z => q ((xlt hx hy).mpr z)))
theorem J_bz_lt {x off : Int} {tgt : Nat} {rest : List Value} (hx : xok x) (hexec : p.tables.exec = Jvm.exec) (hb : c.code = cc) (hd : decode cc pc = .ok (.ifCond .lt off, 3)) (ht : (pc : Int) + off = (tgt : Int)) (kt : x < 0 → W p l e R s m args below meth c H locs cells slots Z (F0 m tgt lsm rest)) (kf : ¬ x < 0 → W p l e R s m args below meth c H locs cells slots Z (F0 m (pc + 3) lsm rest)) : W p l e R s m args below meth c H locs cells slots Z (F0 m pc lsm (.int (Int32.ofInt x) :: rest)) :=
  lv_if_lt hexec hb hd ht (fun q => kt ((xlt hx xok0).mp q)) (fun q => kf (fun z => q ((xlt hx xok0).mpr z)))
theorem J_br_ge {x y off : Int} {tgt : Nat} {rest : List Value} (hx : xok x) (hy : xok y) (hexec : p.tables.exec = Jvm.exec) (hb : c.code = cc) (hd : decode cc pc = .ok (.if_icmp .ge off, 3)) (ht : (pc : Int) + off = (tgt : Int)) (kt : x < y → W p l e R s m args below meth c H locs cells slots Z (F0 m (pc + 3) lsm rest)) (kf : ¬ x < y → W p l e R s m args below meth c H locs cells slots Z (F0 m tgt lsm rest)) : W p l e R s m args below meth c H locs cells slots Z (F0 m pc lsm (.int (Int32.ofInt y) :: .int (Int32.ofInt x) :: rest)) :=
  lv_icmp_ge hexec hb hd ht (fun q => kf (fun z => absurd ((xlt hx hy).mpr z) (Int32.not_lt.mpr q))) (fun q => kt ((xlt hx hy).mp (Int32.not_le.mp q)))
theorem J_bz_ge {x off : Int} {tgt : Nat} {rest : List Value} (hx : xok x) (hexec : p.tables.exec = Jvm.exec) (hb : c.code = cc) (hd : decode cc pc = .ok (.ifCond .ge off, 3)) (ht : (pc : Int) + off = (tgt : Int)) (kt : x < 0 → W p l e R s m args below meth c H locs cells slots Z (F0 m (pc + 3) lsm rest)) (kf : ¬ x < 0 → W p l e R s m args below meth c H locs cells slots Z (F0 m tgt lsm rest)) : W p l e R s m args below meth c H locs cells slots Z (F0 m pc lsm (.int (Int32.ofInt x) :: rest)) :=
  lv_if_ge hexec hb hd ht (fun q => kf (fun z => absurd ((xlt hx xok0).mpr z) (Int32.not_lt.mpr q))) (fun q => kt ((xlt hx xok0).mp (Int32.not_le.mp q)))
theorem J_br_gt {x y off : Int} {tgt : Nat} {rest : List Value} (hx : xok x) (hy : xok y) (hexec : p.tables.exec = Jvm.exec) (hb : c.code = cc) (hd : decode cc pc = .ok (.if_icmp .gt off, 3)) (ht : (pc : Int) + off = (tgt : Int)) (kt : y < x → W p l e R s m args below meth c H locs cells slots Z (F0 m tgt lsm rest)) (kf : ¬ y < x → W p l e R s m args below meth c H locs cells slots Z (F0 m (pc + 3) lsm rest)) : W p l e R s m args below meth c H locs cells slots Z (F0 m pc lsm (.int (Int32.ofInt y) :: .int (Int32.ofInt x) :: rest)) :=
  lv_icmp_gt hexec hb hd ht (fun q => kt ((xlt hy hx).mp q)) (fun q => kf (fun z => q ((xlt hy hx).mpr z)))
theorem J_bz_gt {x off : Int} {tgt : Nat} {rest : List Value} (hx : xok x) (hexec : p.tables.exec = Jvm.exec) (hb : c.code = cc) (hd : decode cc pc = .ok (.ifCond .gt off, 3)) (ht : (pc : Int) + off = (tgt : Int)) (kt : 0 < x → W p l e R s m args below meth c H locs cells slots Z (F0 m tgt lsm rest)) (kf : ¬ 0 < x → W p l e R s m args below meth c H locs cells slots Z (F0 m (pc + 3) lsm rest)) : W p l e R s m args below meth c H locs cells slots Z (F0 m pc lsm (.int (Int32.ofInt x) :: rest)) :=
  lv_if_gt hexec hb hd ht (fun q => kt ((xlt xok0 hx).mp q)) (fun q => kf (fun z => q ((xlt xok0 hx).mpr z)))
theorem J_br_le {x y off : Int} {tgt : Nat} {rest : List Value} (hx : xok x) (hy : xok y) (hexec : p.tables.exec = Jvm.exec) (hb : c.code = cc) (hd : decode cc pc = .ok (.if_icmp .le off, 3)) (ht : (pc : Int) + off = (tgt : Int)) (kt : y < x → W p l e R s m args below meth c H locs cells slots Z (F0 m (pc + 3) lsm rest)) (kf : ¬ y < x → W p l e R s m args below meth c H locs cells slots Z (F0 m tgt lsm rest)) : W p l e R s m args below meth c H locs cells slots Z (F0 m pc lsm (.int (Int32.ofInt y) :: .int (Int32.ofInt x) :: rest)) :=
  lv_icmp_le hexec hb hd ht (fun q => kf (fun z => absurd ((xlt hy hx).mpr z) (Int32.not_lt.mpr q))) (fun q => kt ((xlt hy hx).mp (Int32.not_le.mp q)))
theorem J_bz_le {x off : Int} {tgt : Nat} {rest : List Value} (hx : xok x) (hexec : p.tables.exec = Jvm.exec) (hb : c.code = cc) (hd : decode cc pc = .ok (.ifCond .le off, 3)) (ht : (pc : Int) + off = (tgt : Int)) (kt : 0 < x → W p l e R s m args below meth c H locs cells slots Z (F0 m (pc + 3) lsm rest)) (kf : ¬ 0 < x → W p l e R s m args below meth c H locs cells slots Z (F0 m tgt lsm rest)) : W p l e R s m args below meth c H locs cells slots Z (F0 m pc lsm (.int (Int32.ofInt x) :: rest)) :=
  lv_if_le hexec hb hd ht (fun q => kf (fun z => absurd ((xlt xok0 hx).mpr z) (Int32.not_lt.mpr q))) (fun q => kt ((xlt xok0 hx).mp (Int32.not_le.mp q)))
end
section
variable {M : xM} {md : Bool} {rc rs pc n : Nat} {ls : List (Nat × xV)} {st : List xV} {h : xH} {Q : xQ}
theorem J_op {pc' : Nat} {st' : List xV} (hw : xGo M pc st pc' st') (hst : (∀ v ∈ st, xvok v) → ∀ v ∈ st', xvok v) (k : J M md rc rs pc' n ls st' h Q) : J M md rc rs pc n ls st h Q := by
  intro hl hs hr hg D cI cZ base ad p l e R s m args below meth c hC H locs cells slots Z lsm hRel hS hls hc hE
  exact hw hs hC.1 hC.2.1 hC.2.2.2.1 hC.2.2.2.2.1 (k hl (hst hs) hr hg D cI cZ base ad p l e R s m args below meth c hC H locs cells slots Z lsm hRel hS hls hc hE)
theorem xs1 {v : xV} {st : List xV} (hv : xvok v) (h : ∀ q ∈ st, xvok q) : ∀ q ∈ v :: st, xvok q := fun q hq => by
  rcases List.mem_cons.mp hq with rfl | hq
  · exact hv
  · exact h q hq
theorem xsI {x : Int} {st : List xV} (hv : xok x) (h : ∀ q ∈ st, xvok q) : ∀ q ∈ xI x :: st, xvok q := xs1 hv h
theorem xsL {x : Int64} {st : List xV} (h : ∀ q ∈ st, xvok q) : ∀ q ∈ xL x :: st, xvok q := xs1 trivial h
theorem xsF {x : UInt32} {st : List xV} (h : ∀ q ∈ st, xvok q) : ∀ q ∈ xF x :: st, xvok q := xs1 trivial h
theorem xsR {x : Int} {st : List xV} (h : ∀ q ∈ st, xvok q) : ∀ q ∈ xR x :: st, xvok q := xs1 trivial h
theorem xs2 {v : xV} {st : List xV} (h : ∀ q ∈ v :: st, xvok q) : ∀ q ∈ st, xvok q := fun q hq => h q (List.mem_cons_of_mem _ hq)
theorem xs0 {v : xV} {st : List xV} (h : ∀ q ∈ v :: st, xvok q) : xvok v := h _ List.mem_cons_self
theorem J_iconst {v : Int} (hd : decode M.2.1 pc = .ok (.iconst v, 1)) (hv : xok v) (k : J M md rc rs (pc + 1) n ls (xI v :: st) h Q) : J M md rc rs pc n ls st h Q :=
  J_op (fun _ => fun hx hb _ _ k => lv_iconst hx hb hd rfl k) (fun hs => xsI hv hs) k
theorem J_bip {v : Int} (hd : decode M.2.1 pc = .ok (.bipush v, 2)) (hv : (Int8.ofInt v).toInt32 = Int32.ofInt v ∧ xok v) (k : J M md rc rs (pc + 2) n ls (xI v :: st) h Q) : J M md rc rs pc n ls st h Q :=
  J_op (fun _ => fun hx hb _ _ k => lv_bipush hx hb hd hv.1 k) (fun hs => xsI hv.2 hs) k
theorem J_sip {v : Int} (hd : decode M.2.1 pc = .ok (.sipush v, 3)) (hv : (Int16.ofInt v).toInt32 = Int32.ofInt v ∧ xok v) (k : J M md rc rs (pc + 3) n ls (xI v :: st) h Q) : J M md rc rs pc n ls st h Q :=
  J_op (fun _ => fun hx hb _ _ k => lv_sipush hx hb hd hv.1 k) (fun hs => xsI hv.2 hs) k
theorem J_lconst {k0 : Fin 2} {v : Int64} (hd : decode M.2.1 pc = .ok (.lconst k0, 1)) (hv : Int64.ofNat (k0 : Nat) = v) (k : J M md rc rs (pc + 1) n ls (xL v :: st) h Q) : J M md rc rs pc n ls st h Q :=
  J_op (fun _ => fun hx hb _ _ k => lv_lconst hx hb hd hv k) (fun hs => xsL hs) k
theorem J_ldc {i : Nat} {v : Int} (hd : decode M.2.1 pc = .ok (.ldc i, 2)) (hw : Cond.constant M.1 i (Int32.ofInt v) ∈ xtbl) (hv : xok v) (k : J M md rc rs (pc + 2) n ls (xI v :: st) h Q) : J M md rc rs pc n ls st h Q :=
  J_op (fun _ => fun hx hb ho ht k => lv_ldc hx hb ho (ht _ hw) hd k) (fun hs => xsI hv hs) k
theorem J_ldcw {i : Nat} {v : Int} (hd : decode M.2.1 pc = .ok (.ldc_w i, 3)) (hw : Cond.constant M.1 i (Int32.ofInt v) ∈ xtbl) (hv : xok v) (k : J M md rc rs (pc + 3) n ls (xI v :: st) h Q) : J M md rc rs pc n ls st h Q :=
  J_op (fun _ => fun hx hb ho ht k => lv_ldcw hx hb ho (ht _ hw) hd k) (fun hs => xsI hv hs) k
theorem J_ldc2 {i : Nat} {v : Int64} (hd : decode M.2.1 pc = .ok (.ldc2_w i, 3)) (hw : Cond.constantLong M.1 i v ∈ xtbl) (k : J M md rc rs (pc + 3) n ls (xL v :: st) h Q) : J M md rc rs pc n ls st h Q :=
  J_op (fun _ => fun hx hb ho ht k => lv_ldc2 hx hb ho (ht _ hw) hd k) (fun hs => xsL hs) k
theorem J_ldcf {i : Nat} {v : UInt32} (hd : decode M.2.1 pc = .ok (.ldc i, 2)) (hw : Cond.constantFloat M.1 i v ∈ xtbl) (k : J M md rc rs (pc + 2) n ls (xF v :: st) h Q) : J M md rc rs pc n ls st h Q :=
  J_op (fun _ => fun hx hb ho ht k => lv_ldcf hx hb ho (ht _ hw) hd k) (fun hs => xsF hs) k
theorem J_dup {v : xV} (hd : decode M.2.1 pc = .ok (.dup, 1)) (hc : xcat v = 1) (k : J M md rc rs (pc + 1) n ls (v :: v :: st) h Q) : J M md rc rs pc n ls (v :: st) h Q :=
  J_op (fun _ => fun hx hb _ _ k => lv_dup hx hb hd (by rw [xcat_cv]; exact hc) k) (fun hs => xs1 (xs0 hs) hs) k
theorem J_pop {v : xV} (hd : decode M.2.1 pc = .ok (.pop, 1)) (hc : xcat v = 1) (k : J M md rc rs (pc + 1) n ls st h Q) : J M md rc rs pc n ls (v :: st) h Q :=
  J_op (fun _ => fun hx hb _ _ k => lv_pop hx hb hd (by rw [xcat_cv]; exact hc) k) (fun hs => xs2 hs) k
theorem J_dupx1 {v w : xV} (hd : decode M.2.1 pc = .ok (.dup_x1, 1)) (hc : xcat v = 1) (hc2 : xcat w = 1) (k : J M md rc rs (pc + 1) n ls (v :: w :: v :: st) h Q) : J M md rc rs pc n ls (v :: w :: st) h Q :=
  J_op (fun _ => fun hx hb _ _ k => lv_dup_x1 hx hb hd (by rw [xcat_cv]; exact hc) (by rw [xcat_cv]; exact hc2) k) (fun hs => xs1 (xs0 hs) (xs1 (xs0 (xs2 hs)) (xs1 (xs0 hs) (xs2 (xs2 hs))))) k
theorem J_dup2 {v w : xV} (hd : decode M.2.1 pc = .ok (.dup2, 1)) (hc : xcat v = 1) (hc2 : xcat w = 1) (k : J M md rc rs (pc + 1) n ls (v :: w :: v :: w :: st) h Q) : J M md rc rs pc n ls (v :: w :: st) h Q :=
  J_op (fun _ => fun hx hb _ _ k => lv_dup2_11 hx hb hd (by rw [xcat_cv]; exact hc) (by rw [xcat_cv]; exact hc2) k) (fun hs => xs1 (xs0 hs) (xs1 (xs0 (xs2 hs)) hs)) k
theorem J_goto {off : Int} {tgt : Nat} (hd : decode M.2.1 pc = .ok (.goto off, 3)) (ht : (pc : Int) + off = (tgt : Int)) (k : J M md rc rs tgt n ls st h Q) : J M md rc rs pc n ls st h Q :=
  J_op (fun _ => fun hx hb _ _ k => lv_goto hx hb hd ht k) (fun hs => hs) k
theorem xw2 {a b : Int32} {z : Int} (e : a = Int32.ofInt z) (h : Int32.ofInt (w32 z) = b) : a = b := by rw [e, ← h, w32_of]
theorem J_iadd {x y : Int} (hd : decode M.2.1 pc = .ok (.iadd, 1)) (k : J M md rc rs (pc + 1) n ls (xI (w32 (x + y)) :: st) h Q) : J M md rc rs pc n ls (xI y :: xI x :: st) h Q :=
  J_op (fun _ => fun {_ _ _ _ _ _ _ _ _ _ _ _ _ _ _ _ _} hx hb _ _ k => lv_iadd hx hb hd (by rw [← Int32.ofInt_add, ← w32_of]; exact k)) (fun hs => xsI (w32_ok _) (xs2 (xs2 hs))) k
theorem J_isub {x y : Int} (hd : decode M.2.1 pc = .ok (.isub, 1)) (k : J M md rc rs (pc + 1) n ls (xI (w32 (x - y)) :: st) h Q) : J M md rc rs pc n ls (xI y :: xI x :: st) h Q :=
  J_op (fun _ => fun {_ _ _ _ _ _ _ _ _ _ _ _ _ _ _ _ _} hx hb _ _ k => lv_isub hx hb hd (by rw [← Int32.ofInt_sub, ← w32_of]; exact k)) (fun hs => xsI (w32_ok _) (xs2 (xs2 hs))) k
theorem J_imul {x y : Int} (hd : decode M.2.1 pc = .ok (.imul, 1)) (k : J M md rc rs (pc + 1) n ls (xI (w32 (x * y)) :: st) h Q) : J M md rc rs pc n ls (xI y :: xI x :: st) h Q :=
  J_op (fun _ => fun {_ _ _ _ _ _ _ _ _ _ _ _ _ _ _ _ _} hx hb _ _ k => lv_imul hx hb hd (by rw [← Int32.ofInt_mul, ← w32_of]; exact k)) (fun hs => xsI (w32_ok _) (xs2 (xs2 hs))) k
theorem J_iand {x y : Int} (hd : decode M.2.1 pc = .ok (.iand, 1)) (k : J M md rc rs (pc + 1) n ls (xI (xand x y) :: st) h Q) : J M md rc rs pc n ls (xI y :: xI x :: st) h Q :=
  J_op (fun _ => fun {_ _ _ _ _ _ _ _ _ _ _ _ _ _ _ _ _} hx hb _ _ k => lv_iand hx hb hd (by rw [← xoi (_ &&& _)]; exact k)) (fun hs => xsI (xokt _) (xs2 (xs2 hs))) k
theorem J_idiv {x y : Int} (hd : decode M.2.1 pc = .ok (.idiv, 1)) (hy : y ≠ 0) (k : J M md rc rs (pc + 1) n ls (xI (xdiv x y) :: st) h Q) : J M md rc rs pc n ls (xI y :: xI x :: st) h Q :=
  J_op (fun hs => fun {_ _ _ _ _ _ _ _ _ _ _ _ _ _ _ _ _} hx hb _ _ k => lv_idiv hx hb hd (fun e => hy ((xeq (xs0 hs) xok0).mp (e.trans xz0))) (by rw [← xoi (_ / _)]; exact k)) (fun hs => xsI (xokt _) (xs2 (xs2 hs))) k
theorem J_i2l {x : Int} (hd : decode M.2.1 pc = .ok (.i2l, 1)) (k : J M md rc rs (pc + 1) n ls (xL (Int32.ofInt x).toInt64 :: st) h Q) : J M md rc rs pc n ls (xI x :: st) h Q :=
  J_op (fun _ => fun {_ _ _ _ _ _ _ _ _ _ _ _ _ _ _ _ _} hx hb _ _ k => lv_i2l hx hb hd rfl k) (fun hs => xsL (xs2 hs)) k
theorem J_l2i {x : Int64} (hd : decode M.2.1 pc = .ok (.l2i, 1)) (k : J M md rc rs (pc + 1) n ls (xI x.toInt32.toInt :: st) h Q) : J M md rc rs pc n ls (xL x :: st) h Q :=
  J_op (fun _ => fun {_ _ _ _ _ _ _ _ _ _ _ _ _ _ _ _ _} hx hb _ _ k => lv_l2i hx hb hd rfl (by rw [← xoi x.toInt32]; exact k)) (fun hs => xsI (xokt _) (xs2 hs)) k
theorem J_i2f {x : Int} (hd : decode M.2.1 pc = .ok (.i2f, 1)) (k : J M md rc rs (pc + 1) n ls (xF (FP.i2f (Int32.ofInt x)) :: st) h Q) : J M md rc rs pc n ls (xI x :: st) h Q :=
  J_op (fun _ => fun {_ _ _ _ _ _ _ _ _ _ _ _ _ _ _ _ _} hx hb _ _ k => lv_i2f hx hb hd k) (fun hs => xsF (xs2 hs)) k
theorem J_f2i {x : UInt32} (hd : decode M.2.1 pc = .ok (.f2i, 1)) (k : J M md rc rs (pc + 1) n ls (xI (FP.f2i x).toInt :: st) h Q) : J M md rc rs pc n ls (xF x :: st) h Q :=
  J_op (fun _ => fun {_ _ _ _ _ _ _ _ _ _ _ _ _ _ _ _ _} hx hb _ _ k => lv_f2i hx hb hd (by rw [← xoi (FP.f2i x)]; exact k)) (fun hs => xsI (xokt _) (xs2 hs)) k
theorem J_fdiv {x y : UInt32} (hd : decode M.2.1 pc = .ok (.fdiv, 1)) (hne : vf_n32 (FP.fdiv x y)) (k : J M md rc rs (pc + 1) n ls (xF (FP.fdiv x y) :: st) h Q) : J M md rc rs pc n ls (xF y :: xF x :: st) h Q :=
  J_op (fun _ => fun {_ _ _ _ _ _ _ _ _ _ _ _ _ _ _ _ _} hx hb _ _ k => lv_fdiv hx hb hd hne k) (fun hs => xsF (xs2 (xs2 hs))) k
theorem J_fmul {x y : UInt32} (hd : decode M.2.1 pc = .ok (.fmul, 1)) (hne : vf_n32 (FP.fmul x y)) (k : J M md rc rs (pc + 1) n ls (xF (FP.fmul x y) :: st) h Q) : J M md rc rs pc n ls (xF y :: xF x :: st) h Q :=
  J_op (fun _ => fun {_ _ _ _ _ _ _ _ _ _ _ _ _ _ _ _ _} hx hb _ _ k => lv_fmul hx hb hd hne k) (fun hs => xsF (xs2 (xs2 hs))) k
theorem J_by {c : Prop} (kt : c → J M md rc rs pc n ls st h Q) (kf : ¬ c → J M md rc rs pc n ls st h Q) : J M md rc rs pc n ls st h Q := by
  by_cases hc : c
  · exact kt hc
  · exact kf hc
theorem J_ic_eq {x y off : Int} {tgt : Nat} (hd : decode M.2.1 pc = .ok (.if_icmp .eq off, 3)) (ht : (pc : Int) + off = (tgt : Int)) (kt : x = y → J M md rc rs tgt n ls st h Q) (kf : ¬ x = y → J M md rc rs (pc + 3) n ls st h Q) : J M md rc rs pc n ls (xI y :: xI x :: st) h Q := by
  intro hl hs hr hg D cI cZ base ad p l e R s m args below meth c hC H locs cells slots Z lsm hRel hS hls hc hE
  have hy : xok y := xs0 hs
  have hx : xok x := xs0 (xs2 hs)
  have kt := fun q => kt q hl (xs2 (xs2 hs)) hr hg D cI cZ base ad p l e R s m args below meth c hC H locs cells slots Z lsm hRel hS hls hc hE
  have kf := fun q => kf q hl (xs2 (xs2 hs)) hr hg D cI cZ base ad p l e R s m args below meth c hC H locs cells slots Z lsm hRel hS hls hc hE
  exact J_br_eq hx hy hC.1 hC.2.1 hd ht kt kf
theorem J_ic_ne {x y off : Int} {tgt : Nat} (hd : decode M.2.1 pc = .ok (.if_icmp .ne off, 3)) (ht : (pc : Int) + off = (tgt : Int)) (kt : x = y → J M md rc rs (pc + 3) n ls st h Q) (kf : ¬ x = y → J M md rc rs tgt n ls st h Q) : J M md rc rs pc n ls (xI y :: xI x :: st) h Q := by
  intro hl hs hr hg D cI cZ base ad p l e R s m args below meth c hC H locs cells slots Z lsm hRel hS hls hc hE
  have hy : xok y := xs0 hs
  have hx : xok x := xs0 (xs2 hs)
  have kt := fun q => kt q hl (xs2 (xs2 hs)) hr hg D cI cZ base ad p l e R s m args below meth c hC H locs cells slots Z lsm hRel hS hls hc hE
  have kf := fun q => kf q hl (xs2 (xs2 hs)) hr hg D cI cZ base ad p l e R s m args below meth c hC H locs cells slots Z lsm hRel hS hls hc hE
  exact J_br_ne hx hy hC.1 hC.2.1 hd ht kt kf
theorem J_ic_lt {x y off : Int} {tgt : Nat} (hd : decode M.2.1 pc = .ok (.if_icmp .lt off, 3)) (ht : (pc : Int) + off = (tgt : Int)) (kt : x < y → J M md rc rs tgt n ls st h Q) (kf : ¬ x < y → J M md rc rs (pc + 3) n ls st h Q) : J M md rc rs pc n ls (xI y :: xI x :: st) h Q := by
  intro hl hs hr hg D cI cZ base ad p l e R s m args below meth c hC H locs cells slots Z lsm hRel hS hls hc hE
  have hy : xok y := xs0 hs
  have hx : xok x := xs0 (xs2 hs)
  have kt := fun q => kt q hl (xs2 (xs2 hs)) hr hg D cI cZ base ad p l e R s m args below meth c hC H locs cells slots Z lsm hRel hS hls hc hE
  have kf := fun q => kf q hl (xs2 (xs2 hs)) hr hg D cI cZ base ad p l e R s m args below meth c hC H locs cells slots Z lsm hRel hS hls hc hE
  exact J_br_lt hx hy hC.1 hC.2.1 hd ht kt kf
theorem J_ic_ge {x y off : Int} {tgt : Nat} (hd : decode M.2.1 pc = .ok (.if_icmp .ge off, 3)) (ht : (pc : Int) + off = (tgt : Int)) (kt : x < y → J M md rc rs (pc + 3) n ls st h Q) (kf : ¬ x < y → J M md rc rs tgt n ls st h Q) : J M md rc rs pc n ls (xI y :: xI x :: st) h Q := by
  intro hl hs hr hg D cI cZ base ad p l e R s m args below meth c hC H locs cells slots Z lsm hRel hS hls hc hE
  have hy : xok y := xs0 hs
  have hx : xok x := xs0 (xs2 hs)
  have kt := fun q => kt q hl (xs2 (xs2 hs)) hr hg D cI cZ base ad p l e R s m args below meth c hC H locs cells slots Z lsm hRel hS hls hc hE
  have kf := fun q => kf q hl (xs2 (xs2 hs)) hr hg D cI cZ base ad p l e R s m args below meth c hC H locs cells slots Z lsm hRel hS hls hc hE
  exact J_br_ge hx hy hC.1 hC.2.1 hd ht kt kf
theorem J_ic_gt {x y off : Int} {tgt : Nat} (hd : decode M.2.1 pc = .ok (.if_icmp .gt off, 3)) (ht : (pc : Int) + off = (tgt : Int)) (kt : y < x → J M md rc rs tgt n ls st h Q) (kf : ¬ y < x → J M md rc rs (pc + 3) n ls st h Q) : J M md rc rs pc n ls (xI y :: xI x :: st) h Q := by
  intro hl hs hr hg D cI cZ base ad p l e R s m args below meth c hC H locs cells slots Z lsm hRel hS hls hc hE
  have hy : xok y := xs0 hs
  have hx : xok x := xs0 (xs2 hs)
  have kt := fun q => kt q hl (xs2 (xs2 hs)) hr hg D cI cZ base ad p l e R s m args below meth c hC H locs cells slots Z lsm hRel hS hls hc hE
  have kf := fun q => kf q hl (xs2 (xs2 hs)) hr hg D cI cZ base ad p l e R s m args below meth c hC H locs cells slots Z lsm hRel hS hls hc hE
  exact J_br_gt hx hy hC.1 hC.2.1 hd ht kt kf
theorem J_ic_le {x y off : Int} {tgt : Nat} (hd : decode M.2.1 pc = .ok (.if_icmp .le off, 3)) (ht : (pc : Int) + off = (tgt : Int)) (kt : y < x → J M md rc rs (pc + 3) n ls st h Q) (kf : ¬ y < x → J M md rc rs tgt n ls st h Q) : J M md rc rs pc n ls (xI y :: xI x :: st) h Q := by
  intro hl hs hr hg D cI cZ base ad p l e R s m args below meth c hC H locs cells slots Z lsm hRel hS hls hc hE
  have hy : xok y := xs0 hs
  have hx : xok x := xs0 (xs2 hs)
  have kt := fun q => kt q hl (xs2 (xs2 hs)) hr hg D cI cZ base ad p l e R s m args below meth c hC H locs cells slots Z lsm hRel hS hls hc hE
  have kf := fun q => kf q hl (xs2 (xs2 hs)) hr hg D cI cZ base ad p l e R s m args below meth c hC H locs cells slots Z lsm hRel hS hls hc hE
  exact J_br_le hx hy hC.1 hC.2.1 hd ht kt kf
theorem J_if_eq {x off : Int} {tgt : Nat} (hd : decode M.2.1 pc = .ok (.ifCond .eq off, 3)) (ht : (pc : Int) + off = (tgt : Int)) (kt : x = 0 → J M md rc rs tgt n ls st h Q) (kf : ¬ x = 0 → J M md rc rs (pc + 3) n ls st h Q) : J M md rc rs pc n ls (xI x :: st) h Q := by
  intro hl hs hr hg D cI cZ base ad p l e R s m args below meth c hC H locs cells slots Z lsm hRel hS hls hc hE
  have hx : xok x := xs0 hs
  have kt := fun q => kt q hl (xs2 hs) hr hg D cI cZ base ad p l e R s m args below meth c hC H locs cells slots Z lsm hRel hS hls hc hE
  have kf := fun q => kf q hl (xs2 hs) hr hg D cI cZ base ad p l e R s m args below meth c hC H locs cells slots Z lsm hRel hS hls hc hE
  exact J_bz_eq hx hC.1 hC.2.1 hd ht kt kf
theorem J_if_ne {x off : Int} {tgt : Nat} (hd : decode M.2.1 pc = .ok (.ifCond .ne off, 3)) (ht : (pc : Int) + off = (tgt : Int)) (kt : x = 0 → J M md rc rs (pc + 3) n ls st h Q) (kf : ¬ x = 0 → J M md rc rs tgt n ls st h Q) : J M md rc rs pc n ls (xI x :: st) h Q := by
  intro hl hs hr hg D cI cZ base ad p l e R s m args below meth c hC H locs cells slots Z lsm hRel hS hls hc hE
  have hx : xok x := xs0 hs
  have kt := fun q => kt q hl (xs2 hs) hr hg D cI cZ base ad p l e R s m args below meth c hC H locs cells slots Z lsm hRel hS hls hc hE
  have kf := fun q => kf q hl (xs2 hs) hr hg D cI cZ base ad p l e R s m args below meth c hC H locs cells slots Z lsm hRel hS hls hc hE
  exact J_bz_ne hx hC.1 hC.2.1 hd ht kt kf
theorem J_if_lt {x off : Int} {tgt : Nat} (hd : decode M.2.1 pc = .ok (.ifCond .lt off, 3)) (ht : (pc : Int) + off = (tgt : Int)) (kt : x < 0 → J M md rc rs tgt n ls st h Q) (kf : ¬ x < 0 → J M md rc rs (pc + 3) n ls st h Q) : J M md rc rs pc n ls (xI x :: st) h Q := by
  intro hl hs hr hg D cI cZ base ad p l e R s m args below meth c hC H locs cells slots Z lsm hRel hS hls hc hE
  have hx : xok x := xs0 hs
  have kt := fun q => kt q hl (xs2 hs) hr hg D cI cZ base ad p l e R s m args below meth c hC H locs cells slots Z lsm hRel hS hls hc hE
  have kf := fun q => kf q hl (xs2 hs) hr hg D cI cZ base ad p l e R s m args below meth c hC H locs cells slots Z lsm hRel hS hls hc hE
  exact J_bz_lt hx hC.1 hC.2.1 hd ht kt kf
theorem J_if_ge {x off : Int} {tgt : Nat} (hd : decode M.2.1 pc = .ok (.ifCond .ge off, 3)) (ht : (pc : Int) + off = (tgt : Int)) (kt : x < 0 → J M md rc rs (pc + 3) n ls st h Q) (kf : ¬ x < 0 → J M md rc rs tgt n ls st h Q) : J M md rc rs pc n ls (xI x :: st) h Q := by
  intro hl hs hr hg D cI cZ base ad p l e R s m args below meth c hC H locs cells slots Z lsm hRel hS hls hc hE
  have hx : xok x := xs0 hs
  have kt := fun q => kt q hl (xs2 hs) hr hg D cI cZ base ad p l e R s m args below meth c hC H locs cells slots Z lsm hRel hS hls hc hE
  have kf := fun q => kf q hl (xs2 hs) hr hg D cI cZ base ad p l e R s m args below meth c hC H locs cells slots Z lsm hRel hS hls hc hE
  exact J_bz_ge hx hC.1 hC.2.1 hd ht kt kf
theorem J_if_gt {x off : Int} {tgt : Nat} (hd : decode M.2.1 pc = .ok (.ifCond .gt off, 3)) (ht : (pc : Int) + off = (tgt : Int)) (kt : 0 < x → J M md rc rs tgt n ls st h Q) (kf : ¬ 0 < x → J M md rc rs (pc + 3) n ls st h Q) : J M md rc rs pc n ls (xI x :: st) h Q := by
  intro hl hs hr hg D cI cZ base ad p l e R s m args below meth c hC H locs cells slots Z lsm hRel hS hls hc hE
  have hx : xok x := xs0 hs
  have kt := fun q => kt q hl (xs2 hs) hr hg D cI cZ base ad p l e R s m args below meth c hC H locs cells slots Z lsm hRel hS hls hc hE
  have kf := fun q => kf q hl (xs2 hs) hr hg D cI cZ base ad p l e R s m args below meth c hC H locs cells slots Z lsm hRel hS hls hc hE
  exact J_bz_gt hx hC.1 hC.2.1 hd ht kt kf
theorem J_if_le {x off : Int} {tgt : Nat} (hd : decode M.2.1 pc = .ok (.ifCond .le off, 3)) (ht : (pc : Int) + off = (tgt : Int)) (kt : 0 < x → J M md rc rs (pc + 3) n ls st h Q) (kf : ¬ 0 < x → J M md rc rs tgt n ls st h Q) : J M md rc rs pc n ls (xI x :: st) h Q := by
  intro hl hs hr hg D cI cZ base ad p l e R s m args below meth c hC H locs cells slots Z lsm hRel hS hls hc hE
  have hx : xok x := xs0 hs
  have kt := fun q => kt q hl (xs2 hs) hr hg D cI cZ base ad p l e R s m args below meth c hC H locs cells slots Z lsm hRel hS hls hc hE
  have kf := fun q => kf q hl (xs2 hs) hr hg D cI cZ base ad p l e R s m args below meth c hC H locs cells slots Z lsm hRel hS hls hc hE
  exact J_bz_le hx hC.1 hC.2.1 hd ht kt kf
end
end
section
/-! ROWS OF THE QUIET MACHINE: places, ends, switches -/
def xkeep (i : Nat) (q : Nat × xV) : Bool := !(q.1 == i) && !(q.1 + 1 == i && xcat q.2 == 2)
def xkeepL (i : Nat) (q : Nat × xV) : Bool := !(q.1 == i) && (!(q.1 == i + 1) && !(q.1 + 1 == i && xcat q.2 == 2))
theorem xst_map (ad : Int → Nat) (i : Nat) (w : Value) (v : xV) (hw : w = xcv ad v) (ls : List (Nat × xV)) : (i, w) :: (ls.map fun q => (q.1, xcv ad q.2)).filter (fun q => !(q.1 == i) && !(q.1 + 1 == i && q.2.category == 2)) = ((i, v) :: ls.filter (xkeep i)).map fun q => (q.1, xcv ad q.2) := by
  rw [List.map_cons, List.filter_map, hw]
  congr 2
  refine List.filter_congr fun q _ => ?_
  simp only [Function.comp, xcat_cv, xkeep]
theorem xst_mapL (ad : Int → Nat) (i : Nat) (x : Int64) (ls : List (Nat × xV)) : (i, Value.long x) :: (ls.map fun q => (q.1, xcv ad q.2)).filter (fun q => !(q.1 == i) && (!(q.1 == i + 1) && !(q.1 + 1 == i && q.2.category == 2))) = ((i, xL x) :: ls.filter (xkeepL i)).map fun q => (q.1, xcv ad q.2) := by
  rw [List.map_cons, List.filter_map]
  congr 2
  refine List.filter_congr fun q _ => ?_
  simp only [Function.comp, xcat_cv, xkeepL]
theorem xls1 {f : Nat × xV → Bool} {i : Nat} {v : xV} {ls : List (Nat × xV)} (hv : xvok v) (h : ∀ q ∈ ls, xvok q.2) : ∀ q ∈ (i, v) :: ls.filter f, xvok q.2 := fun q hq => by
  rcases List.mem_cons.mp hq with rfl | hq
  · exact hv
  · exact h q (List.mem_filter.mp hq).1
theorem xlk {ls : List (Nat × xV)} {k i : Nat} {v : xV} (ad : Int → Nat) (hl : ls[k]? = some (i, v)) : (ls.map fun q => (q.1, xcv ad q.2))[k]? = some (i, xcv ad v) := by
  rw [List.getElem?_map, hl]; rfl
theorem xlok {ls : List (Nat × xV)} {k i : Nat} {v : xV} (h : ∀ q ∈ ls, xvok q.2) (hl : ls[k]? = some (i, v)) : xvok v := h _ (List.mem_of_getElem? hl)
def xlushr (x : Int64) (y : Int) : Int64 := (x.toUInt64 >>> ((Int32.ofInt y).toInt64.toUInt64 &&& Int64.toUInt64 63)).toInt64
def xlshl (x : Int64) (y : Int) : Int64 := x <<< ((Int32.ofInt y).toInt64 &&& 63)
def xlshr (x : Int64) (y : Int) : Int64 := x >>> ((Int32.ofInt y).toInt64 &&& 63)
section
variable {M : xM} {md : Bool} {rc rs pc n : Nat} {ls ls' : List (Nat × xV)} {st : List xV} {h : xH} {Q : xQ}
theorem J_iload {i : Nat} {x : Int} (k0 : Nat) (hd : decode M.2.1 pc = .ok (.iload i, 2)) (hl : ls[k0]? = some (i, xI x)) (k : J M md rc rs (pc + 2) n ls (xI x :: st) h Q) : J M md rc rs pc n ls st h Q := by
  intro hl_ hs hr hg D cI cZ base ad p l e R s m args below meth c hC H locs cells slots Z lsm hRel hS hls hc hE
  exact lv_iload hC.1 hC.2.1 hd (lv_at hls k0 (xlk ad hl)) (k hl_ (xs1 (xlok hl_ hl) hs) hr hg D cI cZ base ad p l e R s m args below meth c hC H locs cells slots Z lsm hRel hS hls hc hE)
theorem J_iload_n {i : Nat} {kf : Fin 4} {x : Int} (k0 : Nat) (hd : decode M.2.1 pc = .ok (.iload_n kf, 1)) (hi : (kf : Nat) = i) (hl : ls[k0]? = some (i, xI x)) (k : J M md rc rs (pc + 1) n ls (xI x :: st) h Q) : J M md rc rs pc n ls st h Q := by
  intro hl_ hs hr hg D cI cZ base ad p l e R s m args below meth c hC H locs cells slots Z lsm hRel hS hls hc hE
  exact lv_iload_n hC.1 hC.2.1 hd hi (lv_at hls k0 (xlk ad hl)) (k hl_ (xs1 (xlok hl_ hl) hs) hr hg D cI cZ base ad p l e R s m args below meth c hC H locs cells slots Z lsm hRel hS hls hc hE)
theorem J_aload {i : Nat} {x : Int} (k0 : Nat) (hd : decode M.2.1 pc = .ok (.aload i, 2)) (hl : ls[k0]? = some (i, xR x)) (k : J M md rc rs (pc + 2) n ls (xR x :: st) h Q) : J M md rc rs pc n ls st h Q := by
  intro hl_ hs hr hg D cI cZ base ad p l e R s m args below meth c hC H locs cells slots Z lsm hRel hS hls hc hE
  exact lv_aload hC.1 hC.2.1 hd (lv_at hls k0 (xlk ad hl)) (k hl_ (xs1 (xlok hl_ hl) hs) hr hg D cI cZ base ad p l e R s m args below meth c hC H locs cells slots Z lsm hRel hS hls hc hE)
theorem J_aload_n {i : Nat} {kf : Fin 4} {x : Int} (k0 : Nat) (hd : decode M.2.1 pc = .ok (.aload_n kf, 1)) (hi : (kf : Nat) = i) (hl : ls[k0]? = some (i, xR x)) (k : J M md rc rs (pc + 1) n ls (xR x :: st) h Q) : J M md rc rs pc n ls st h Q := by
  intro hl_ hs hr hg D cI cZ base ad p l e R s m args below meth c hC H locs cells slots Z lsm hRel hS hls hc hE
  exact lv_aload_n hC.1 hC.2.1 hd hi (lv_at hls k0 (xlk ad hl)) (k hl_ (xs1 (xlok hl_ hl) hs) hr hg D cI cZ base ad p l e R s m args below meth c hC H locs cells slots Z lsm hRel hS hls hc hE)
theorem J_lload {i : Nat} {x : Int64} (k0 : Nat) (hd : decode M.2.1 pc = .ok (.lload i, 2)) (hl : ls[k0]? = some (i, xL x)) (k : J M md rc rs (pc + 2) n ls (xL x :: st) h Q) : J M md rc rs pc n ls st h Q := by
  intro hl_ hs hr hg D cI cZ base ad p l e R s m args below meth c hC H locs cells slots Z lsm hRel hS hls hc hE
  exact lv_lload hC.1 hC.2.1 hd (lv_at hls k0 (xlk ad hl)) (k hl_ (xs1 (xlok hl_ hl) hs) hr hg D cI cZ base ad p l e R s m args below meth c hC H locs cells slots Z lsm hRel hS hls hc hE)
theorem J_lload_n {i : Nat} {kf : Fin 4} {x : Int64} (k0 : Nat) (hd : decode M.2.1 pc = .ok (.lload_n kf, 1)) (hi : (kf : Nat) = i) (hl : ls[k0]? = some (i, xL x)) (k : J M md rc rs (pc + 1) n ls (xL x :: st) h Q) : J M md rc rs pc n ls st h Q := by
  intro hl_ hs hr hg D cI cZ base ad p l e R s m args below meth c hC H locs cells slots Z lsm hRel hS hls hc hE
  exact lv_lload_n hC.1 hC.2.1 hd hi (lv_at hls k0 (xlk ad hl)) (k hl_ (xs1 (xlok hl_ hl) hs) hr hg D cI cZ base ad p l e R s m args below meth c hC H locs cells slots Z lsm hRel hS hls hc hE)
theorem J_istore {i : Nat} {x y : Int} (hd : decode M.2.1 pc = .ok (.istore i, 2)) (hn : i < M.2.2.1) (hy : y = x) (hl : (i, xI y) :: ls.filter (xkeep i) = ls') (k : J M md rc rs (pc + 2) n ls' st h Q) : J M md rc rs pc n ls (xI x :: st) h Q := by
  intro hl_ hs hr hg D cI cZ base ad p l e R s m args below meth c hC H locs cells slots Z lsm hRel hS hls hc hE
  subst hy
  subst hl
  exact lv_istore hC.1 hC.2.1 hd hls hn (xst_map ad i _ (xI y) rfl ls) (fun ls2 hls2 => k (xls1 (xs0 hs) hl_) (xs2 hs) hr hg D cI cZ base ad p l e R s m args below meth c hC H locs cells slots Z ls2 hRel hS hls2 hc hE)
theorem J_istore_n {i : Nat} {kf : Fin 4} {x y : Int} (hd : decode M.2.1 pc = .ok (.istore_n kf, 1)) (hi : (kf : Nat) = i) (hn : i < M.2.2.1) (hy : y = x) (hl : (i, xI y) :: ls.filter (xkeep i) = ls') (k : J M md rc rs (pc + 1) n ls' st h Q) : J M md rc rs pc n ls (xI x :: st) h Q := by
  intro hl_ hs hr hg D cI cZ base ad p l e R s m args below meth c hC H locs cells slots Z lsm hRel hS hls hc hE
  subst hy
  subst hl
  exact lv_istore_n hC.1 hC.2.1 hd hi hls hn (xst_map ad i _ (xI y) rfl ls) (fun ls2 hls2 => k (xls1 (xs0 hs) hl_) (xs2 hs) hr hg D cI cZ base ad p l e R s m args below meth c hC H locs cells slots Z ls2 hRel hS hls2 hc hE)
theorem J_astore {i : Nat} {x y : Int} (hd : decode M.2.1 pc = .ok (.astore i, 2)) (hn : i < M.2.2.1) (hy : y = x) (hl : (i, xR y) :: ls.filter (xkeep i) = ls') (k : J M md rc rs (pc + 2) n ls' st h Q) : J M md rc rs pc n ls (xR x :: st) h Q := by
  intro hl_ hs hr hg D cI cZ base ad p l e R s m args below meth c hC H locs cells slots Z lsm hRel hS hls hc hE
  subst hy
  subst hl
  exact lv_astore hC.1 hC.2.1 hd hls hn (xst_map ad i _ (xR y) rfl ls) (fun ls2 hls2 => k (xls1 (xs0 hs) hl_) (xs2 hs) hr hg D cI cZ base ad p l e R s m args below meth c hC H locs cells slots Z ls2 hRel hS hls2 hc hE)
theorem J_astore_n {i : Nat} {kf : Fin 4} {x y : Int} (hd : decode M.2.1 pc = .ok (.astore_n kf, 1)) (hi : (kf : Nat) = i) (hn : i < M.2.2.1) (hy : y = x) (hl : (i, xR y) :: ls.filter (xkeep i) = ls') (k : J M md rc rs (pc + 1) n ls' st h Q) : J M md rc rs pc n ls (xR x :: st) h Q := by
  intro hl_ hs hr hg D cI cZ base ad p l e R s m args below meth c hC H locs cells slots Z lsm hRel hS hls hc hE
  subst hy
  subst hl
  exact lv_astore_n hC.1 hC.2.1 hd hi hls hn (xst_map ad i _ (xR y) rfl ls) (fun ls2 hls2 => k (xls1 (xs0 hs) hl_) (xs2 hs) hr hg D cI cZ base ad p l e R s m args below meth c hC H locs cells slots Z ls2 hRel hS hls2 hc hE)
theorem J_lstore {i : Nat} {x y : Int64} (hd : decode M.2.1 pc = .ok (.lstore i, 2)) (hn : i + 1 < M.2.2.1) (hy : y = x) (hl : (i, xL y) :: ls.filter (xkeepL i) = ls') (k : J M md rc rs (pc + 2) n ls' st h Q) : J M md rc rs pc n ls (xL x :: st) h Q := by
  intro hl_ hs hr hg D cI cZ base ad p l e R s m args below meth c hC H locs cells slots Z lsm hRel hS hls hc hE
  subst hy
  subst hl
  exact lv_lstore hC.1 hC.2.1 hd hls hn (xst_mapL ad i _ ls) (fun ls2 hls2 => k (xls1 (xs0 hs) hl_) (xs2 hs) hr hg D cI cZ base ad p l e R s m args below meth c hC H locs cells slots Z ls2 hRel hS hls2 hc hE)
theorem J_lstore_n {i : Nat} {kf : Fin 4} {x y : Int64} (hd : decode M.2.1 pc = .ok (.lstore_n kf, 1)) (hi : (kf : Nat) = i) (hn : i + 1 < M.2.2.1) (hy : y = x) (hl : (i, xL y) :: ls.filter (xkeepL i) = ls') (k : J M md rc rs (pc + 1) n ls' st h Q) : J M md rc rs pc n ls (xL x :: st) h Q := by
  intro hl_ hs hr hg D cI cZ base ad p l e R s m args below meth c hC H locs cells slots Z lsm hRel hS hls hc hE
  subst hy
  subst hl
  exact lv_lstore_n hC.1 hC.2.1 hd hi hls hn (xst_mapL ad i _ ls) (fun ls2 hls2 => k (xls1 (xs0 hs) hl_) (xs2 hs) hr hg D cI cZ base ad p l e R s m args below meth c hC H locs cells slots Z ls2 hRel hS hls2 hc hE)
theorem J_iinc {i : Nat} {d x y : Int} (k0 : Nat) (hd : decode M.2.1 pc = .ok (.iinc i d, 3)) (hl0 : ls[k0]? = some (i, xI x)) (hn : i < M.2.2.1) (hy : y = w32 (x + d)) (hl : (i, xI y) :: ls.filter (xkeep i) = ls') (k : J M md rc rs (pc + 3) n ls' st h Q) : J M md rc rs pc n ls st h Q := by
  intro hl_ hs hr hg D cI cZ base ad p l e R s m args below meth c hC H locs cells slots Z lsm hRel hS hls hc hE
  subst hy
  subst hl
  exact lv_iinc hC.1 hC.2.1 hd hls (xlk ad hl0) rfl hn (xst_map ad i _ (xI (w32 (x + d))) (by show Value.int _ = Value.int _; rw [w32_of, Int32.ofInt_add]) ls) (fun ls2 hls2 => k (xls1 (w32_ok _) hl_) hs hr hg D cI cZ base ad p l e R s m args below meth c hC H locs cells slots Z ls2 hRel hS hls2 hc hE)
/-- fewer places -/
theorem J_sub (is : List Nat) (hl : is.filterMap (fun i => ls[i]?) = ls') (k : J M md rc rs pc n ls' st h Q) : J M md rc rs pc n ls st h Q := by
  intro hl_ hs hr hg D cI cZ base ad p l e R s m args below meth c hC H locs cells slots Z lsm hRel hS hls hc hE
  subst hl
  refine k (fun q hq => ?_) hs hr hg D cI cZ base ad p l e R s m args below meth c hC H locs cells slots Z lsm hRel hS (lv_sub hls is ?_) hc hE
  · obtain ⟨i, -, hi⟩ := List.mem_filterMap.mp hq
    exact hl_ q (List.mem_of_getElem? hi)
  · unfold lv_pick
    rw [List.map_filterMap]
    simp only [List.getElem?_map]
/-- the same under other names -/
theorem J_cong {ls2 : List (Nat × xV)} {st2 : List xV} (e1 : ls = ls2) (e2 : st = st2) (k : J M md rc rs pc n ls2 st2 h Q) : J M md rc rs pc n ls st h Q := by
  subst e1; subst e2; exact k
theorem J_tswIn {dflt lo hi off : Int} {offs : Array Int} {len tgt : Nat} {x : Int} (hd : decode M.2.1 pc = .ok (.tableswitch dflt lo hi offs, len)) (v : Int) (hx : x = v) (h1 : lo ≤ v) (h2 : v ≤ hi) (ho : offs[(v - lo).toNat]? = some off) (ht : (pc : Int) + off = (tgt : Int)) (k : J M md rc rs tgt n ls st h Q) : J M md rc rs pc n ls (xI x :: st) h Q := by
  intro hl hs hr hg D cI cZ base ad p l e R s m args below meth c hC H locs cells slots Z lsm hRel hS hls hc hE
  have ex : (Int32.ofInt x).toInt = v := by rw [xti (xs0 hs), hx]
  exact lv_tableIn hC.1 hC.2.1 hd (by rw [ex]; omega) (by rw [ex]; omega) (by rw [ex]; exact ho) ht (k hl (xs2 hs) hr hg D cI cZ base ad p l e R s m args below meth c hC H locs cells slots Z lsm hRel hS hls hc hE)
theorem J_tswOut {dflt lo hi : Int} {offs : Array Int} {len tgt : Nat} {x : Int} (hd : decode M.2.1 pc = .ok (.tableswitch dflt lo hi offs, len)) (hx : x < lo ∨ hi < x) (ht : (pc : Int) + dflt = (tgt : Int)) (k : J M md rc rs tgt n ls st h Q) : J M md rc rs pc n ls (xI x :: st) h Q := by
  intro hl hs hr hg D cI cZ base ad p l e R s m args below meth c hC H locs cells slots Z lsm hRel hS hls hc hE
  have ex : (Int32.ofInt x).toInt = x := xti (xs0 hs)
  exact lv_tableOut hC.1 hC.2.1 hd (by rw [ex]; exact hx) ht (k hl (xs2 hs) hr hg D cI cZ base ad p l e R s m args below meth c hC H locs cells slots Z lsm hRel hS hls hc hE)
theorem J_iret {v : Int} (hd : decode M.2.1 pc = .ok (.ireturn, 1)) (ho : xrok M.2.2.2.1 (some v)) (hq : Q (some v) n h) : J M md 0 0 pc n ls [xI v] h Q := by
  intro hl hs hr hg D cI cZ base ad p l e R s m args below meth c hC H locs cells slots Z lsm hRel hS hls hc hE
  have e1 : cells = R.cells := hc.1
  have e2 : slots = R.slots := hc.2
  subst e1
  subst e2
  exact hE (some v) n h H locs pc lsm hq ho hr hg hRel hS hd
theorem J_ret (hd : decode M.2.1 pc = .ok (.return_, 1)) (ho : xrok M.2.2.2.1 none) (hq : Q none n h) : J M md 0 0 pc n ls [] h Q := by
  intro hl hs hr hg D cI cZ base ad p l e R s m args below meth c hC H locs cells slots Z lsm hRel hS hls hc hE
  have e1 : cells = R.cells := hc.1
  have e2 : slots = R.slots := hc.2
  subst e1
  subst e2
  exact hE none n h H locs pc lsm hq ho hr hg hRel hS hd
/-- longs -/
theorem J_ladd {x y : Int64} (hd : decode M.2.1 pc = .ok (.ladd, 1)) (k : J M md rc rs (pc + 1) n ls (xL (x + y) :: st) h Q) : J M md rc rs pc n ls (xL y :: xL x :: st) h Q :=
  J_op (fun _ => fun {_ _ _ _ _ _ _ _ _ _ _ _ _ _ _ _ _} hx hb _ _ k => lv_ladd hx hb hd k) (fun hs => xsL (xs2 (xs2 hs))) k
theorem J_lsub {x y : Int64} (hd : decode M.2.1 pc = .ok (.lsub, 1)) (k : J M md rc rs (pc + 1) n ls (xL (x - y) :: st) h Q) : J M md rc rs pc n ls (xL y :: xL x :: st) h Q :=
  J_op (fun _ => fun {_ _ _ _ _ _ _ _ _ _ _ _ _ _ _ _ _} hx hb _ _ k => lv_lsub hx hb hd k) (fun hs => xsL (xs2 (xs2 hs))) k
theorem J_lmul {x y : Int64} (hd : decode M.2.1 pc = .ok (.lmul, 1)) (k : J M md rc rs (pc + 1) n ls (xL (x * y) :: st) h Q) : J M md rc rs pc n ls (xL y :: xL x :: st) h Q :=
  J_op (fun _ => fun {_ _ _ _ _ _ _ _ _ _ _ _ _ _ _ _ _} hx hb _ _ k => lv_lmul hx hb hd k) (fun hs => xsL (xs2 (xs2 hs))) k
theorem J_land {x y : Int64} (hd : decode M.2.1 pc = .ok (.land, 1)) (k : J M md rc rs (pc + 1) n ls (xL (x &&& y) :: st) h Q) : J M md rc rs pc n ls (xL y :: xL x :: st) h Q :=
  J_op (fun _ => fun {_ _ _ _ _ _ _ _ _ _ _ _ _ _ _ _ _} hx hb _ _ k => lv_land hx hb hd k) (fun hs => xsL (xs2 (xs2 hs))) k
theorem J_lor {x y : Int64} (hd : decode M.2.1 pc = .ok (.lor, 1)) (k : J M md rc rs (pc + 1) n ls (xL (x ||| y) :: st) h Q) : J M md rc rs pc n ls (xL y :: xL x :: st) h Q :=
  J_op (fun _ => fun {_ _ _ _ _ _ _ _ _ _ _ _ _ _ _ _ _} hx hb _ _ k => lv_lor hx hb hd k) (fun hs => xsL (xs2 (xs2 hs))) k
theorem J_ldiv {x y : Int64} (hd : decode M.2.1 pc = .ok (.ldiv, 1)) (hy : ¬ y = 0) (k : J M md rc rs (pc + 1) n ls (xL (x / y) :: st) h Q) : J M md rc rs pc n ls (xL y :: xL x :: st) h Q :=
  J_op (fun _ => fun {_ _ _ _ _ _ _ _ _ _ _ _ _ _ _ _ _} hx hb _ _ k => lv_ldiv hx hb hd hy k) (fun hs => xsL (xs2 (xs2 hs))) k
theorem J_lrem {x y : Int64} (hd : decode M.2.1 pc = .ok (.lrem, 1)) (hy : ¬ y = 0) (k : J M md rc rs (pc + 1) n ls (xL (x - x / y * y) :: st) h Q) : J M md rc rs pc n ls (xL y :: xL x :: st) h Q :=
  J_op (fun _ => fun {_ _ _ _ _ _ _ _ _ _ _ _ _ _ _ _ _} hx hb _ _ k => lv_lrem hx hb hd hy k) (fun hs => xsL (xs2 (xs2 hs))) k
theorem J_lushr {x : Int64} {y : Int} (hd : decode M.2.1 pc = .ok (.lushr, 1)) (k : J M md rc rs (pc + 1) n ls (xL (xlushr x y) :: st) h Q) : J M md rc rs pc n ls (xI y :: xL x :: st) h Q :=
  J_op (fun _ => fun {_ _ _ _ _ _ _ _ _ _ _ _ _ _ _ _ _} hx hb _ _ k => lv_lushr hx hb hd rfl k) (fun hs => xsL (xs2 (xs2 hs))) k
theorem J_lshl {x : Int64} {y : Int} (hd : decode M.2.1 pc = .ok (.lshl, 1)) (k : J M md rc rs (pc + 1) n ls (xL (xlshl x y) :: st) h Q) : J M md rc rs pc n ls (xI y :: xL x :: st) h Q :=
  J_op (fun _ => fun {_ _ _ _ _ _ _ _ _ _ _ _ _ _ _ _ _} hx hb _ _ k => lv_lshl hx hb hd rfl k) (fun hs => xsL (xs2 (xs2 hs))) k
theorem J_lshr {x : Int64} {y : Int} (hd : decode M.2.1 pc = .ok (.lshr, 1)) (k : J M md rc rs (pc + 1) n ls (xL (xlshr x y) :: st) h Q) : J M md rc rs pc n ls (xI y :: xL x :: st) h Q :=
  J_op (fun _ => fun {_ _ _ _ _ _ _ _ _ _ _ _ _ _ _ _ _} hx hb _ _ k => lv_lshr hx hb hd rfl k) (fun hs => xsL (xs2 (xs2 hs))) k
end
end
section
/-! ROWS OF THE QUIET MACHINE: the heap -/
/-- a class as the tables have it -/
def xCF (ci : Nat) (C : String) (T : u_T) (N : Nat) (ty : Nat → FieldType) : Prop := vwCl[ci]? = some (C, T, N) ∧ (∀ w ∈ u_ws C T N, w ∈ xtbl) ∧ N = xNf ci ∧ (∀ k, k < N → (T k).1 = C) ∧ (∀ k, k < N → parseFieldDescriptor (T k).2.2.1 = some (ty k)) ∧ (∀ a, a < N → ∀ b, b < N → a ≠ b → (T a).2.1 ≠ (T b).2.1)
def xLk (own : String) (idx : Nat) (C nm d : String) : Prop := Cond.fieldLink own idx C nm d ∈ xtbl ∨ ∃ host, Cond.fieldLinkNest own idx C nm d host ∈ xtbl
theorem xK_rng {o : Int} (h : xK o ≠ 0) : 1 ≤ o ∧ o ≤ (xKn : Int) := by
  have key : ∀ k : Nat, k < xTab.length → (xTab.getD k (0, 0)).1 ≠ 0 → 1 ≤ k ∧ k ≤ xKn := by decide +kernel
  unfold xK at h
  by_cases hk : o.toNat < xTab.length
  · have := key _ hk h
    omega
  · exact absurd (by simp [List.getD, List.getElem?_eq_none (Nat.not_lt.mp hk)]) h
theorem xRf_I {o : Int} {ci j : Nat} (hk : xK o = 3 + ci) (hz : xIsR ci j = false) : xRf o j = 0 := by
  have key : ∀ k : Nat, k < xRT.length → ∀ j : Nat, j < 90 → 3 ≤ (xTab.getD k (0, 0)).1 → xIsR ((xTab.getD k (0, 0)).1 - 3) j = false → (xRT.getD k []).getD j 0 = 0 := by decide +kernel
  have klen : ∀ l ∈ xRT, l.length ≤ 90 := by decide +kernel
  unfold xRf
  rw [if_neg (by omega)]
  have hj : (j : Int).toNat = j := by omega
  rw [hj]
  by_cases hl : o.toNat < xRT.length
  · by_cases hj : j < 90
    · unfold xK at hk
      exact key _ hl j hj (by omega) (by rw [hk, Nat.add_sub_cancel_left]; exact hz)
    · have h1 : (xRT.getD o.toNat []).length ≤ 90 := klen _ (by simp only [List.getD, List.getElem?_eq_getElem hl, Option.getD_some]; exact List.getElem_mem hl)
      simp only [List.getD, List.getElem?_eq_none (show (xRT[o.toNat]?.getD []).length ≤ j by simp only [List.getD] at h1; omega), Option.getD_none]
  · simp [List.getD, List.getElem?_eq_none (Nat.not_lt.mp hl)]
theorem xC_obj {cI cZ : ClassId} {ad : Int → Nat} {h : xH} {o : Int} {ci : Nat} (hk : xK o = 3 + ci) : xC cI cZ ad h o = .inr (ci, xflds ad h ci o) := by
  unfold xC
  rw [if_neg (by omega), if_neg (by omega), hk, Nat.add_sub_cancel_left]
theorem xC_int {cI cZ : ClassId} {ad : Int → Nat} {h : xH} {o : Int} (hk : xK o = 1) : xC cI cZ ad h o = .inl (cI, xN o, .inl (fun j => Int32.ofInt (h o j))) := by
  unfold xC
  rw [if_pos hk]
theorem xC_boo {cI cZ : ClassId} {ad : Int → Nat} {h : xH} {o : Int} (hk : xK o = 2) : xC cI cZ ad h o = .inl (cZ, xN o, .inl (fun j => Int32.ofInt (h o j))) := by
  unfold xC
  rw [if_neg (by omega), if_pos hk]
theorem xD_of {cI cZ : ClassId} {ad : Int → Nat} {base n : Nat} {h : xH} (hA : ∀ k : Nat, ad ((k : Int) + 1) = base + k) : va_D (fun q => base ≤ q) (xws cI cZ ad h n) := by
  refine ⟨fun i j p q hi hj e => ?_, fun k q hq => ?_⟩
  · unfold xws at hi hj
    rw [List.getElem?_map, Option.map_eq_some_iff] at hi hj
    obtain ⟨a, ha, rfl⟩ := hi
    obtain ⟨b, hb, rfl⟩ := hj
    have ha2 := List.getElem?_eq_some_iff.mp ha
    have hb2 := List.getElem?_eq_some_iff.mp hb
    obtain ⟨ha3, ha4⟩ := ha2
    obtain ⟨hb3, hb4⟩ := hb2
    rw [List.getElem_range] at ha4 hb4
    have e2 : ad ((a : Int) + 1) = ad ((b : Int) + 1) := e
    rw [hA, hA] at e2
    omega
  · unfold xws at hq
    rw [List.getElem?_map, Option.map_eq_some_iff] at hq
    obtain ⟨a, ha, rfl⟩ := hq
    show base ≤ ad ((a : Int) + 1)
    rw [hA]
    omega
theorem xup_zero {h : xH} {n : Nat} {o j v : Int} (ho : o ≤ n) (hz : ∀ o j, (n : Int) < o → h o j = 0) : ∀ o2 j2, (n : Int) < o2 → xup h o j v o2 j2 = 0 := by
  intro a b hab
  unfold xup
  rw [if_neg (by omega)]
  exact hz a b hab
theorem xcp_zero {h : xH} {n : Nat} {s sp d dp m : Int} (ho : d ≤ n) (hz : ∀ o j, (n : Int) < o → h o j = 0) : ∀ o2 j2, (n : Int) < o2 → xcp h s sp d dp m o2 j2 = 0 := by
  intro a b hab
  unfold xcp
  rw [if_neg (by omega)]
  exact hz a b hab
theorem xG_up {md : Bool} {n : Nat} {h : xH} {o j v : Int} (hg : xG md n h) (hn : xRf o j = 0) : xG md n (xup h o j v) := fun e => ⟨(hg e).1, xRef_up (hg e).2 hn⟩
theorem xG_cp {md : Bool} {n : Nat} {h : xH} {s sp d dp m : Int} (hg : xG md n h) (hk : xK d < 3) : xG md n (xcp h s sp d dp m) := fun e => ⟨(hg e).1, xRef_cp (hg e).2 hk⟩
theorem xup_o {h : xH} {o j v : Int} : ∀ o', o' ≠ o → ∀ j', xup h o j v o' j' = h o' j' := by
  intro o' h1 j'
  unfold xup
  rw [if_neg (fun q => h1 q.1)]
theorem xcp_o {h : xH} {s sp d dp m : Int} : ∀ o', o' ≠ d → ∀ j', xcp h s sp d dp m o' j' = h o' j' := by
  intro o' h1 j'
  unfold xcp
  rw [if_neg (fun q => h1 q.1)]
section
variable {M : xM} {md : Bool} {rc rs pc n : Nat} {ls ls' : List (Nat × xV)} {st : List xV} {h : xH} {Q : xQ}
theorem J_lcmp {x y : Int64} (hd : decode M.2.1 pc = .ok (.lcmp, 1)) (k : J M md rc rs (pc + 1) n ls (xI (lg_cmp x y).toInt :: st) h Q) : J M md rc rs pc n ls (xL y :: xL x :: st) h Q :=
  J_op (fun _ => fun {_ _ _ _ _ _ _ _ _ _ _ _ _ _ _ _ _} hx hb _ _ k => W.lcmp hx hb hd (by rw [← xoi (lg_cmp x y)]; exact k)) (fun hs => xsI (xokt _) (xs2 (xs2 hs))) k
/-- a number of an object -/
theorem J_getI {o : Int} {ci j N idx : Nat} {C : String} {T : u_T} {ty : Nat → FieldType} (hF : xCF ci C T N ty) (hd : decode M.2.1 pc = .ok (.getfield idx, 3)) (ho : 1 ≤ o ∧ o ≤ (n : Int)) (hk : xK o = 3 + ci) (hw : xLk M.1 idx C (T j).2.1 (T j).2.2.1) (hj : j < N) (hz : xIsR ci j = false) (k : J M md rc rs (pc + 3) n ls (xI (h o j) :: st) h Q) : J M md rc rs pc n ls (xR o :: st) h Q := by
  intro hl hs hr hg D cI cZ base ad p l e R s m args below meth c hC H locs cells slots Z lsm hRel hS hls hc hE
  obtain ⟨f1, f2, f3, f4, -, -⟩ := hF
  have kk := k hl (xsI (hr o j) (xs2 hs)) hr hg D cI cZ base ad p l e R s m args below meth c hC H locs cells slots Z lsm hRel hS hls hc hE
  have he : (xws cI cZ ad h n)[o.toNat - 1]? = some (ad o, .inr (ci, xflds ad h ci o)) := by rw [xws_at ho.1 ho.2, xC_obj hk]
  have hv : (xflds ad h ci o)[j]? = some (.int (Int32.ofInt (h o j))) := by rw [xflds_at (by omega)]; unfold xfv; rw [if_neg (by rw [hz]; decide)]
  rcases hw with hw | ⟨host, hw⟩
  · exact va_get hC.1 hC.2.1 hC.2.2.2.2.1 f2 hC.2.2.2.1 hC.2.2.2.2.2.2.2.1 hRel.1 _ he f1 j hj (hC.2.2.2.2.1 _ hw) (fun x q => by rw [f4 j hj] at q; exact q) hv hd kk
  · exact va_getN hC.1 hC.2.1 hC.2.2.2.2.1 f2 hC.2.2.2.1 hC.2.2.2.2.2.2.2.1 hRel.1 _ he f1 j hj (hC.2.2.2.2.1 _ hw) (fun x q => by rw [f4 j hj] at q; exact q) hv hd kk
/-- a cell of an object -/
theorem J_getR {o v : Int} {ci j N idx : Nat} {C : String} {T : u_T} {ty : Nat → FieldType} (hF : xCF ci C T N ty) (hd : decode M.2.1 pc = .ok (.getfield idx, 3)) (ho : 1 ≤ o ∧ o ≤ (n : Int)) (hk : xK o = 3 + ci) (hw : xLk M.1 idx C (T j).2.1 (T j).2.2.1) (hj : j < N) (hz : xIsR ci j = true) (hv : xG md n h → h o j = v ∧ v ≠ 0) (k : J M md rc rs (pc + 3) n ls (xR v :: st) h Q) : J M md rc rs pc n ls (xR o :: st) h Q := by
  intro hl hs hr hg D cI cZ base ad p l e R s m args below meth c hC H locs cells slots Z lsm hRel hS hls hc hE
  obtain ⟨f1, f2, f3, f4, -, -⟩ := hF
  obtain ⟨v1, v2⟩ := hv hg
  have kk := k hl (xsR (xs2 hs)) hr hg D cI cZ base ad p l e R s m args below meth c hC H locs cells slots Z lsm hRel hS hls hc hE
  have he : (xws cI cZ ad h n)[o.toNat - 1]? = some (ad o, .inr (ci, xflds ad h ci o)) := by rw [xws_at ho.1 ho.2, xC_obj hk]
  have hv : (xflds ad h ci o)[j]? = some (.ref (ad v)) := by rw [xflds_at (by omega)]; unfold xfv; rw [if_pos hz, v1, if_neg v2]
  rcases hw with hw | ⟨host, hw⟩
  · exact va_get hC.1 hC.2.1 hC.2.2.2.2.1 f2 hC.2.2.2.1 hC.2.2.2.2.2.2.2.1 hRel.1 _ he f1 j hj (hC.2.2.2.2.1 _ hw) (fun x q => by rw [f4 j hj] at q; exact q) hv hd kk
  · exact va_getN hC.1 hC.2.1 hC.2.2.2.2.1 f2 hC.2.2.2.1 hC.2.2.2.2.2.2.2.1 hRel.1 _ he f1 j hj (hC.2.2.2.2.1 _ hw) (fun x q => by rw [f4 j hj] at q; exact q) hv hd kk
theorem J_getRt {o : Int} {ci j N idx : Nat} {C : String} {T : u_T} {ty : Nat → FieldType} (hF : xCF ci C T N ty) (hd : decode M.2.1 pc = .ok (.getfield idx, 3)) (hk : xK o = 3 + ci) (hw : xLk M.1 idx C (T j).2.1 (T j).2.2.1) (hj : j < N) (hz : xIsR ci j = true) (hne : xRf o j ≠ 0) (k : J M true rc rs (pc + 3) xKn ls (xR (xRf o j) :: st) h Q) : J M true rc rs pc xKn ls (xR o :: st) h Q :=
  J_getR hF hd (xK_rng (by omega)) hk hw hj hz (fun g => ⟨(g rfl).2 o j hne, hne⟩) k
/-- a number is put -/
theorem J_putI {o v : Int} {ci j N idx : Nat} {C : String} {T : u_T} {ty : Nat → FieldType} (hF : xCF ci C T N ty) (hd : decode M.2.1 pc = .ok (.putfield idx, 3)) (ho : 1 ≤ o ∧ o ≤ (n : Int)) (hk : xK o = 3 + ci) (hw : xLk M.1 idx C (T j).2.1 (T j).2.2.1) (hj : j < N) (hz : xIsR ci j = false ∧ (T j).2.2.2 = false ∧ ty j = .int) {h2 : xH} (he2 : h2 = xup h o j v) (k : J M md rc rs (pc + 3) n ls st h2 Q) : J M md rc rs pc n ls (xI v :: xR o :: st) h Q := by
  subst he2
  intro hl hs hr hg D cI cZ base ad p l e R s m args below meth c hC H locs cells slots Z lsm hRel hS hls hc hE
  obtain ⟨f1, f2, f3, f4, f5, f6⟩ := hF
  have hn0 : xRf o j = 0 := xRf_I hk hz.1
  have kk := k hl (xs2 (xs2 hs)) (xup_rng hr (xs0 hs)) (xG_up hg hn0) D cI cZ base ad p l e R s m args below meth c hC
  have he : (xws cI cZ ad h n)[o.toNat - 1]? = some (ad o, .inr (ci, xflds ad h ci o)) := by rw [xws_at ho.1 ho.2, xC_obj hk]
  have hj2 : j < xNf ci := by omega
  have e2 : (xws cI cZ ad h n).set (o.toNat - 1) (ad o, .inr (ci, (xflds ad h ci o).set j (.int (Int32.ofInt v)))) = xws cI cZ ad (xup h o j v) n := by
    rw [xflds_set (h := h) (v := v) hj2 (by unfold xfv; rw [if_neg (by rw [hz.1]; decide)]; unfold xup; rw [if_pos ⟨rfl, rfl⟩]), ← xC_obj (cI := cI) (cZ := cZ) (ad := ad) (h := xup h o j v) hk]
    exact xws_set ho.1 ho.2 (fun o' h1 j' => xup_o o' h1 j')
  have fin : ∀ (H1 : Heap) (locs1 : List Loc), va_P D vwCl ((xws cI cZ ad h n).set (o.toNat - 1) (ad o, .inr (ci, (xflds ad h ci o).set j (.int (Int32.ofInt v))))) H1 → va_D (fun q => base ≤ q) ((xws cI cZ ad h n).set (o.toNat - 1) (ad o, .inr (ci, (xflds ad h ci o).set j (.int (Int32.ofInt v))))) → va_S (fun q => base ≤ q) s.heap H1 locs1 → W p l e R s m args below meth c H1 locs1 cells slots Z (F0 m (pc + 3) lsm (st.map (xcv ad))) := by
    intro H1 locs1 hP1 _ hS1
    rw [e2] at hP1
    exact kk H1 locs1 cells slots Z lsm ⟨hP1, fun q => ⟨(hRel.2 q).1, xup_zero ho.2 (hRel.2 q).2⟩⟩ hS1 hls hc hE
  have hD := xD_of (cI := cI) (cZ := cZ) (h := h) (n := n) hC.2.2.2.2.2.2.2.2.1.2.2
  have hty : parseFieldDescriptor (T j).2.2.1 = some .int := by rw [f5 j hj, hz.2.2]
  rcases hw with hw | ⟨host, hw⟩
  · exact va_put hC.1 hC.2.1 hC.2.2.2.2.1 f2 ty f5 f6 hC.2.2.2.1 hC.2.2.2.2.2.2.2.1 hRel.1 hD hS _ he f1 j hj (hC.2.2.2.2.1 _ hw) (fun x q => by rw [f4 j hj] at q; exact q) hz.2.1 hty rfl rfl (by rw [xflds_len]; exact hj2) hd fin
  · exact va_putN hC.1 hC.2.1 hC.2.2.2.2.1 f2 ty f5 f6 hC.2.2.2.1 hC.2.2.2.2.2.2.2.1 hRel.1 hD hS _ he f1 j hj (hC.2.2.2.2.1 _ hw) (fun x q => by rw [f4 j hj] at q; exact q) hz.2.1 hty rfl rfl (by rw [xflds_len]; exact hj2) hd fin
theorem xix {i : Int} {a : Int} (hi : xok i) (h : 0 ≤ i ∧ i < (xN a : Int)) : vp_in (Int32.ofInt i) (xN a) ∧ (((Int32.ofInt i).toNatClampNeg : Nat) : Int) = i := ⟨xin hi h.1 h.2, by rw [xcl hi]; omega⟩
theorem J_alen {a : Int} (hd : decode M.2.1 pc = .ok (.arraylength, 1)) (ho : 1 ≤ a ∧ a ≤ (n : Int)) (hk : xK a = 1 ∨ xK a = 2) {nn : Int} (hok : xok nn) (hn : (xN a : Int) = nn) (k : J M md rc rs (pc + 1) n ls (xI nn :: st) h Q) : J M md rc rs pc n ls (xR a :: st) h Q := by
  subst hn
  intro hl hs hr hg D cI cZ base ad p l e R s m args below meth c hC H locs cells slots Z lsm hRel hS hls hc hE
  have kk := k hl (xsI hok (xs2 hs)) hr hg D cI cZ base ad p l e R s m args below meth c hC H locs cells slots Z lsm hRel hS hls hc hE
  have hK := hC.2.2.2.2.2.2.2.1
  rcases hk with hk | hk
  · exact va_alen hC.1 hC.2.1 hK hRel.1 (a.toNat - 1) 0 (by rw [xws_at ho.1 ho.2, xC_int hk]) rfl (by rfl) hd kk
  · exact va_alen hC.1 hC.2.1 hK hRel.1 (a.toNat - 1) 1 (by rw [xws_at ho.1 ho.2, xC_boo hk]) rfl (by rfl) hd kk
theorem J_iald {a i : Int} (hd : decode M.2.1 pc = .ok (.iaload, 1)) (ho : 1 ≤ a ∧ a ≤ (n : Int)) (hk : xK a = 1) {nn : Int} (hi : 0 ≤ i ∧ i < nn) (hn : (xN a : Int) = nn) (k : J M md rc rs (pc + 1) n ls (xI (h a i) :: st) h Q) : J M md rc rs pc n ls (xI i :: xR a :: st) h Q := by
  subst hn
  intro hl hs hr hg D cI cZ base ad p l e R s m args below meth c hC H locs cells slots Z lsm hRel hS hls hc hE
  obtain ⟨h1, h2⟩ := xix (xs0 hs) hi
  have kk := k hl (xsI (hr a i) (xs2 (xs2 hs))) hr hg D cI cZ base ad p l e R s m args below meth c hC H locs cells slots Z lsm hRel hS hls hc hE
  refine va_iald hC.1 hC.2.1 hC.2.2.2.2.2.2.2.1 hRel.1 (a.toNat - 1) 0 (by rw [xws_at ho.1 ho.2, xC_int hk]) rfl h1 hd ?_
  simp only [h2]
  exact kk
theorem J_bald {a i : Int} (hd : decode M.2.1 pc = .ok (.baload, 1)) (ho : 1 ≤ a ∧ a ≤ (n : Int)) (hk : xK a = 2) {nn : Int} (hi : 0 ≤ i ∧ i < nn) (hn : (xN a : Int) = nn) (k : J M md rc rs (pc + 1) n ls (xI (h a i) :: st) h Q) : J M md rc rs pc n ls (xI i :: xR a :: st) h Q := by
  subst hn
  intro hl hs hr hg D cI cZ base ad p l e R s m args below meth c hC H locs cells slots Z lsm hRel hS hls hc hE
  obtain ⟨h1, h2⟩ := xix (xs0 hs) hi
  have kk := k hl (xsI (hr a i) (xs2 (xs2 hs))) hr hg D cI cZ base ad p l e R s m args below meth c hC H locs cells slots Z lsm hRel hS hls hc hE
  refine va_zald hC.1 hC.2.1 hC.2.2.2.2.2.2.2.1 hRel.1 (a.toNat - 1) 1 (by rw [xws_at ho.1 ho.2, xC_boo hk]) rfl h1 hd ?_
  simp only [h2]
  exact kk
theorem xarr_set {cA : ClassId} {h : xH} {a i v : Int} (hi : ((Int32.ofInt i).toNatClampNeg : Int) = i) : upd (fun j : Nat => Int32.ofInt (h a j)) (Int32.ofInt i).toNatClampNeg (Int32.ofInt v) = fun j : Nat => Int32.ofInt (xup h a i v a j) := by
  funext j
  unfold upd xup
  by_cases hj : j = (Int32.ofInt i).toNatClampNeg
  · rw [if_pos hj, if_pos ⟨rfl, by omega⟩]
  · rw [if_neg hj, if_neg (by omega)]
theorem J_iast {a i v : Int} (hd : decode M.2.1 pc = .ok (.iastore, 1)) (ho : 1 ≤ a ∧ a ≤ (n : Int)) (hk : xK a = 1) {nn : Int} (hi : 0 ≤ i ∧ i < nn) (hn : (xN a : Int) = nn) {h2 : xH} (he2 : h2 = xup h a i v) (k : J M md rc rs (pc + 1) n ls st h2 Q) : J M md rc rs pc n ls (xI v :: xI i :: xR a :: st) h Q := by
  subst hn
  subst he2
  intro hl hs hr hg D cI cZ base ad p l e R s m args below meth c hC H locs cells slots Z lsm hRel hS hls hc hE
  obtain ⟨h1, h2⟩ := xix (xs0 (xs2 hs)) hi
  have kk := k hl (xs2 (xs2 (xs2 hs))) (xup_rng hr (xs0 hs)) (xG_up hg (xRf_arr (by omega))) D cI cZ base ad p l e R s m args below meth c hC
  refine va_iast hC.1 hC.2.1 hC.2.2.2.2.2.2.2.1 hRel.1 (xD_of hC.2.2.2.2.2.2.2.2.1.2.2) hS (a.toNat - 1) 0 (by rw [xws_at ho.1 ho.2, xC_int hk]) rfl h1 hd (fun H1 locs1 hP1 _ hS1 => ?_)
  rw [xarr_set (cA := cI) h2, ← xC_int (cI := cI) (cZ := cZ) (ad := ad) (h := xup h a i v) hk, xws_set ho.1 ho.2 (fun o' h1 j' => xup_o o' h1 j')] at hP1
  exact kk H1 locs1 cells slots Z lsm ⟨hP1, fun q => ⟨(hRel.2 q).1, xup_zero ho.2 (hRel.2 q).2⟩⟩ hS1 hls hc hE
theorem J_bast {a i v : Int} (hd : decode M.2.1 pc = .ok (.bastore, 1)) (ho : 1 ≤ a ∧ a ≤ (n : Int)) (hk : xK a = 2) {nn : Int} (hi : 0 ≤ i ∧ i < nn) (hn : (xN a : Int) = nn) (hv : v = 0 ∨ v = 1) {h2 : xH} (he2 : h2 = xup h a i v) (k : J M md rc rs (pc + 1) n ls st h2 Q) : J M md rc rs pc n ls (xI v :: xI i :: xR a :: st) h Q := by
  subst hn
  subst he2
  intro hl hs hr hg D cI cZ base ad p l e R s m args below meth c hC H locs cells slots Z lsm hRel hS hls hc hE
  obtain ⟨h1, h2⟩ := xix (xs0 (xs2 hs)) hi
  have kk := k hl (xs2 (xs2 (xs2 hs))) (xup_rng hr (xs0 hs)) (xG_up hg (xRf_arr (by omega))) D cI cZ base ad p l e R s m args below meth c hC
  have hvn : vp_nar .boolean (Int32.ofInt v) = Int32.ofInt v := by rcases hv with rfl | rfl <;> decide
  refine va_zast hC.1 hC.2.1 hC.2.2.2.2.2.2.2.1 hRel.1 (xD_of hC.2.2.2.2.2.2.2.2.1.2.2) hS (a.toNat - 1) 1 (by rw [xws_at ho.1 ho.2, xC_boo hk]) rfl h1 hd (fun H1 locs1 hP1 _ hS1 => ?_)
  rw [hvn, xarr_set (cA := cI) h2, ← xC_boo (cI := cI) (cZ := cZ) (ad := ad) (h := xup h a i v) hk, xws_set ho.1 ho.2 (fun o' h1 j' => xup_o o' h1 j')] at hP1
  exact kk H1 locs1 cells slots Z lsm ⟨hP1, fun q => ⟨(hRel.2 q).1, xup_zero ho.2 (hRel.2 q).2⟩⟩ hS1 hls hc hE
/-- the two tables -/
def xTM : List Int := [1, 1, 1, 0, 2, 1, 2]
def xTT : List Int := [1, 1, 0, 1, 2, 2, 1]
def xTb (a i : Int) : Int := (if a = -1 then xTM else xTT).getD i.toNat 0
theorem J_gsM {idx : Nat} (hd : decode M.2.1 pc = .ok (.getstatic idx, 3)) (hw : Cond.fieldLink M.1 idx "WordMender$Slips" "MEANT_TAKEN" "[I" ∈ xtbl) (k : J M md rc rs (pc + 3) n ls (xR (-1) :: st) h Q) : J M md rc rs pc n ls st h Q := by
  intro hl hs hr hg D cI cZ base ad p l e R s m args below meth c hC H locs cells slots Z lsm hRel hS hls hc hE
  exact va_gets hC.1 hC.2.1 hC.2.2.2.2.2.2.2.2.1.2.1.1 hS hC.2.2.2.1 (hC.2.2.2.2.1 _ hw) (fun _ q => q) hd (k hl (xsR hs) hr hg D cI cZ base ad p l e R s m args below meth c hC H locs cells slots Z lsm hRel hS hls hc hE)
theorem J_gsT {idx : Nat} (hd : decode M.2.1 pc = .ok (.getstatic idx, 3)) (hw : Cond.fieldLink M.1 idx "WordMender$Slips" "TYPED_TAKEN" "[I" ∈ xtbl) (k : J M md rc rs (pc + 3) n ls (xR (-2) :: st) h Q) : J M md rc rs pc n ls st h Q := by
  intro hl hs hr hg D cI cZ base ad p l e R s m args below meth c hC H locs cells slots Z lsm hRel hS hls hc hE
  exact va_gets hC.1 hC.2.1 hC.2.2.2.2.2.2.2.2.1.2.1.2.2.1 hS hC.2.2.2.1 (hC.2.2.2.2.1 _ hw) (fun _ q => q) hd (k hl (xsR hs) hr hg D cI cZ base ad p l e R s m args below meth c hC H locs cells slots Z lsm hRel hS hls hc hE)
theorem J_tlen {a : Int} (hd : decode M.2.1 pc = .ok (.arraylength, 1)) (ha : a = -1 ∨ a = -2) (k : J M md rc rs (pc + 1) n ls (xI 7 :: st) h Q) : J M md rc rs pc n ls (xR a :: st) h Q := by
  intro hl hs hr hg D cI cZ base ad p l e R s m args below meth c hC H locs cells slots Z lsm hRel hS hls hc hE
  have kk := k hl (xsI (by decide) (xs2 hs)) hr hg D cI cZ base ad p l e R s m args below meth c hC H locs cells slots Z lsm hRel hS hls hc hE
  have hT := hC.2.2.2.2.2.2.2.2.1.2.1
  rcases ha with rfl | rfl
  · exact va_tlen hC.1 hC.2.1 hT.2.1 hS rfl hd kk
  · exact va_tlen hC.1 hC.2.1 hT.2.2.2 hS rfl hd kk
theorem J_tald {a i : Int} (hd : decode M.2.1 pc = .ok (.iaload, 1)) (ha : a = -1 ∨ a = -2) (hi : 0 ≤ i ∧ i < 7) (k : J M md rc rs (pc + 1) n ls (xI (xTb a i) :: st) h Q) : J M md rc rs pc n ls (xI i :: xR a :: st) h Q := by
  intro hl hs hr hg D cI cZ base ad p l e R s m args below meth c hC H locs cells slots Z lsm hRel hS hls hc hE
  have hT := hC.2.2.2.2.2.2.2.2.1.2.1
  have hi2 : (Int32.ofInt i).toNatClampNeg = i.toNat := xcl (xs0 hs)
  have hok : ∀ j : Nat, j < 7 → xok (xTM.getD j 0) ∧ xok (xTT.getD j 0) := by decide
  have hok2 := hok i.toNat (by omega)
  rcases ha with rfl | rfl
  · exact va_ti hC.1 hC.2.1 hT.2.1 hS (xin (xs0 hs) hi.1 hi.2) (by rw [hi2]; rfl) hd (k hl (xsI hok2.1 (xs2 (xs2 hs))) hr hg D cI cZ base ad p l e R s m args below meth c hC H locs cells slots Z lsm hRel hS hls hc hE)
  · exact va_ti hC.1 hC.2.1 hT.2.2.2 hS (xin (xs0 hs) hi.1 hi.2) (by rw [hi2]; rfl) hd (k hl (xsI hok2.2 (xs2 (xs2 hs))) hr hg D cI cZ base ad p l e R s m args below meth c hC H locs cells slots Z lsm hRel hS hls hc hE)
/-- the law's script -/
theorem J_slen {L : Nat} {xs : Nat → Int32} (hM : M.2.2.2.2.2.2.2 = some (L, xs)) (hL : L ≤ 2560) (hd : decode M.2.1 pc = .ok (.arraylength, 1)) (k : J M md rc rs (pc + 1) n ls (xI L :: st) h Q) : J M md rc rs pc n ls (xR (-3) :: st) h Q := by
  intro hl hs hr hg D cI cZ base ad p l e R s m args below meth c hC H locs cells slots Z lsm hRel hS hls hc hE
  have hX := hC.2.2.2.2.2.2.2.2.2
  rw [hM] at hX
  exact va_slen hC.1 hC.2.1 hX.1 hX.2.1 (by have := hX.2.2; omega) hS hd (k hl (xsI (by constructor <;> omega) (xs2 hs)) hr hg D cI cZ base ad p l e R s m args below meth c hC H locs cells slots Z lsm hRel hS hls hc hE)
theorem J_sald {L : Nat} {xs : Nat → Int32} {i : Int} (hM : M.2.2.2.2.2.2.2 = some (L, xs)) (hi : 0 ≤ i ∧ i < (L : Int)) (hd : decode M.2.1 pc = .ok (.iaload, 1)) (k : J M md rc rs (pc + 1) n ls (xI (xs i.toNat).toInt :: st) h Q) : J M md rc rs pc n ls (xI i :: xR (-3) :: st) h Q := by
  intro hl hs hr hg D cI cZ base ad p l e R s m args below meth c hC H locs cells slots Z lsm hRel hS hls hc hE
  have hX := hC.2.2.2.2.2.2.2.2.2
  rw [hM] at hX
  refine va_sld hC.1 hC.2.1 hX.1 hX.2.1 (by have := hX.2.2; omega) hS (xin (xs0 hs) hi.1 hi.2) hd ?_
  rw [xcl (xs0 hs), ← xoi (xs i.toNat)]
  exact k hl (xsI (xokt _) (xs2 (xs2 hs))) hr hg D cI cZ base ad p l e R s m args below meth c hC H locs cells slots Z lsm hRel hS hls hc hE
/-- Math.min, max; a row is copied -/
def xMinW (own : String) (idx : Nat) (y : MethodName) (b : ByteArray) : Prop := Cond.methodLink own idx y ∈ xtbl ∧ Cond.static y ∈ xtbl ∧ Cond.initialized "java/lang/Math" ∈ xtbl ∧ Cond.code y b 2 (some .int) ∈ xtbl
theorem xsum (ad : Int → Nat) (st : List xV) : ((st.map (xcv ad)).map fun v => v.category).sum = (st.map xcat).sum := by
  rw [List.map_map]
  congr 1
  refine List.map_congr_left fun v _ => ?_
  exact xcat_cv ad v
theorem J_mmin {x y : Int} {idx : Nat} (hd : decode M.2.1 pc = .ok (.invokestatic idx, 3)) (hw : xMinW M.1 idx Lib.Math.min.name Lib.Math.min.code) (hf : 1 ≤ M.2.2.2.2.2.1) (hlo : (st.map xcat).sum + 13 ≤ M.2.2.2.2.2.2.1) (k : J M md rc rs (pc + 3) n ls (xI (min x y) :: st) h Q) : J M md rc rs pc n ls (xI y :: xI x :: st) h Q := by
  intro hl hs hr hg D cI cZ base ad p l e R s m args below meth c hC H locs cells slots Z lsm hRel hS hls hc hE
  have hy : xok y := xs0 hs
  have hx : xok x := xs0 (xs2 hs)
  have hm : xok (min x y) := by
    rw [Int.min_def]
    split <;> assumption
  have kk := k hl (xsI hm (xs2 (xs2 hs))) hr hg D cI cZ base ad p l e R s m args below meth c hC H locs cells slots Z lsm hRel hS hls hc hE
  have ht := hC.2.2.2.2.1
  refine va_mmin hC.1 hC.2.1 (hC.2.2.1.trans hls.1.symm) hC.2.2.2.1 (ht _ hw.1) (ht _ hw.2.1) (ht _ hw.2.2.1) (ht _ hw.2.2.2) (by have := hC.2.2.2.2.2.2.1.1; omega) (by rw [xsum]; have := hC.2.2.2.2.2.2.1.2; omega) (by omega) (by omega) hd ?_
  have e : (if Int32.ofInt y < Int32.ofInt x then Int32.ofInt y else Int32.ofInt x) = Int32.ofInt (min x y) := by
    rw [Int.min_def]
    by_cases q : y < x
    · rw [if_pos ((xlt hy hx).mpr q)]
      rw [if_neg (by omega)]
    · rw [if_neg (fun z => q ((xlt hy hx).mp z))]
      by_cases q2 : x ≤ y
      · rw [if_pos q2]
        
      · rw [if_neg q2]
        exfalso; omega
  rw [e]
  exact kk
theorem J_mmax {x y : Int} {idx : Nat} (hd : decode M.2.1 pc = .ok (.invokestatic idx, 3)) (hw : xMinW M.1 idx Lib.Math.max.name Lib.Math.max.code) (hf : 1 ≤ M.2.2.2.2.2.1) (hlo : (st.map xcat).sum + 13 ≤ M.2.2.2.2.2.2.1) (k : J M md rc rs (pc + 3) n ls (xI (max x y) :: st) h Q) : J M md rc rs pc n ls (xI y :: xI x :: st) h Q := by
  intro hl hs hr hg D cI cZ base ad p l e R s m args below meth c hC H locs cells slots Z lsm hRel hS hls hc hE
  have hy : xok y := xs0 hs
  have hx : xok x := xs0 (xs2 hs)
  have hm : xok (max x y) := by
    rw [Int.max_def]
    split <;> assumption
  have kk := k hl (xsI hm (xs2 (xs2 hs))) hr hg D cI cZ base ad p l e R s m args below meth c hC H locs cells slots Z lsm hRel hS hls hc hE
  have ht := hC.2.2.2.2.1
  refine va_mmax hC.1 hC.2.1 (hC.2.2.1.trans hls.1.symm) hC.2.2.2.1 (ht _ hw.1) (ht _ hw.2.1) (ht _ hw.2.2.1) (ht _ hw.2.2.2) (by have := hC.2.2.2.2.2.2.1.1; omega) (by rw [xsum]; have := hC.2.2.2.2.2.2.1.2; omega) (by omega) (by omega) hd ?_
  have e : (if Int32.ofInt x < Int32.ofInt y then Int32.ofInt y else Int32.ofInt x) = Int32.ofInt (max x y) := by
    rw [Int.max_def]
    by_cases q : x < y
    · rw [if_pos ((xlt hx hy).mpr q)]
      rw [if_pos (by omega)]
    · rw [if_neg (fun z => q ((xlt hx hy).mp z))]
      by_cases q2 : x ≤ y
      · rw [if_pos q2]
        congr 1; omega
      · rw [if_neg q2]
        
  rw [e]
  exact kk
def xCpW (own : String) (idx : Nat) : Prop := Cond.methodLink own idx arraycopyName ∈ xtbl ∧ Cond.native arraycopyName ∈ xtbl ∧ Cond.static arraycopyName ∈ xtbl ∧ Cond.initialized "java/lang/System" ∈ xtbl
theorem J_copy {a b sp dp k0 : Int} {idx : Nat} (hd : decode M.2.1 pc = .ok (.invokestatic idx, 3)) (hw : xCpW M.1 idx) (hoa : 1 ≤ a ∧ a ≤ (n : Int)) (hob : 1 ≤ b ∧ b ≤ (n : Int)) (hka : xK a = 1) (hkb : xK b = 1) {na nb : Int} (hi : 0 ≤ sp ∧ 0 ≤ dp ∧ 0 ≤ k0 ∧ sp + k0 ≤ na ∧ dp + k0 ≤ nb) (hna : (xN a : Int) = na) (hnb : (xN b : Int) = nb) {h2 : xH} (he2 : h2 = xcp h a sp b dp k0) (hf : 1 ≤ M.2.2.2.2.2.1) (hlo : (st.map xcat).sum + (nativeFrameWords "java/lang/System" "arraycopy" 5 + 11) ≤ M.2.2.2.2.2.2.1) (k : J M md rc rs (pc + 3) n ls st h2 Q) : J M md rc rs pc n ls (xI k0 :: xI dp :: xR b :: xI sp :: xR a :: st) h Q := by
  subst hna
  subst hnb
  subst he2
  intro hl hs hr hg D cI cZ base ad p l e R s m args below meth c hC H locs cells slots Z lsm hRel hS hls hc hE
  have hk0 : xok k0 := xs0 hs
  have hdp : xok dp := xs0 (xs2 hs)
  have hsp : xok sp := xs0 (xs2 (xs2 (xs2 hs)))
  have kk := k hl (xs2 (xs2 (xs2 (xs2 (xs2 hs))))) (xcp_rng hr) (xG_cp hg (by omega)) D cI cZ base ad p l e R s m args below meth c hC
  have ht := hC.2.2.2.2.1
  have nn : ∀ z : Int, xok z → 0 ≤ z → ¬ Int32.ofInt z < 0 := fun z hz h0 q => by
    have := (xlt hz xok0).mp q
    omega
  refine va_copyi hC.1 hC.2.1 (hC.2.2.1.trans hls.1.symm) hC.2.2.2.1 (ht _ hw.1) (ht _ hw.2.1) (ht _ hw.2.2.1) (ht _ hw.2.2.2) hC.2.2.2.2.2.2.2.1 hRel.1 (xD_of hC.2.2.2.2.2.2.2.2.1.2.2) hS (a.toNat - 1) (b.toNat - 1) 0 0 (by rw [xws_at hoa.1 hoa.2, xC_int hka]) (by rw [xws_at hob.1 hob.2, xC_int hkb]) rfl rfl rfl (nn sp hsp hi.1) (nn dp hdp hi.2.1) (nn k0 hk0 hi.2.2.1) (by rw [xcl hsp, xcl hk0]; omega) (by rw [xcl hdp, xcl hk0]; omega) (fun _ _ => rfl) (by have := hC.2.2.2.2.2.2.1.1; omega) (by rw [xsum]; have := hC.2.2.2.2.2.2.1.2; omega) hd (fun H1 locs1 hP1 _ hS1 => ?_)
  have e : va_cpy (fun j : Nat => Int32.ofInt (h a j)) (fun j : Nat => Int32.ofInt (h b j)) (Int32.ofInt sp).toNatClampNeg (Int32.ofInt dp).toNatClampNeg (Int32.ofInt k0).toNatClampNeg = fun j : Nat => Int32.ofInt (xcp h a sp b dp k0 b j) := by
    funext j
    rw [xcl hsp, xcl hdp, xcl hk0]
    unfold xcp
    by_cases q : dp.toNat ≤ j ∧ j < dp.toNat + k0.toNat
    · rw [pk_cpy_in q.1 q.2, if_pos ⟨rfl, by omega, by omega⟩]
      congr 2
      omega
    · rw [pk_cpy_out (by omega), if_neg (by omega)]
  rw [e, ← xC_int (cI := cI) (cZ := cZ) (ad := ad) (h := xcp h a sp b dp k0) hkb, xws_set hob.1 hob.2 (fun o' h1 j' => xcp_o o' h1 j')] at hP1
  exact kk H1 locs1 cells slots Z lsm ⟨hP1, fun q => ⟨(hRel.2 q).1, xcp_zero hob.2 (hRel.2 q).2⟩⟩ hS1 hls hc hE
end
end
section
/-! ROWS OF THE QUIET MACHINE: calls -/
def xen : Nat → List xV → List (Nat × xV)
  | _, [] => []
  | i, v :: vs => (i, v) :: xen (if xcat v = 2 then i + 2 else i + 1) vs
theorem xen_map (ad : Int → Nat) : ∀ (vs : List xV) (i : Nat), lv_args i (vs.map (xcv ad)) = (xen i vs).map fun q => (q.1, xcv ad q.2)
  | [], _ => rfl
  | v :: vs, i => by
    show (i, xcv ad v) :: lv_args (if (xcv ad v).category = 2 then i + 2 else i + 1) (vs.map (xcv ad)) = (i, xcv ad v) :: (xen (if xcat v = 2 then i + 2 else i + 1) vs).map _
    rw [xcat_cv, xen_map ad vs]
theorem xsl_len (ad : Int → Nat) (vs : List xV) : (lg_sl (vs.map (xcv ad))).length = (vs.map xcat).sum := by
  induction vs with
  | nil => rfl
  | cons v vs ih =>
    have e : lg_sl ((v :: vs).map (xcv ad)) = (if (xcv ad v).category = 2 then [Slot.val (xcv ad v), .second] else [.val (xcv ad v)]) ++ lg_sl (vs.map (xcv ad)) := rfl
    rw [e, List.length_append, ih, xcat_cv, List.map_cons, List.sum_cons]
    rcases v with x | x | x | x <;> rfl
theorem xen_ok : ∀ (vs : List xV) (i : Nat), (∀ v ∈ vs, xvok v) → ∀ q ∈ xen i vs, xvok q.2
  | [], _, _, _, hq => by cases hq
  | v :: vs, i, h, q, hq => by
    rcases List.mem_cons.mp hq with rfl | hq
    · exact h v List.mem_cons_self
    · exact xen_ok vs _ (fun w hw => h w (List.mem_cons_of_mem _ hw)) q hq
/-- what holds behind a call -/
def xPost (rt : Option FieldType) (D : va_G) (cI cZ : ClassId) (ad : Int → Nat) (base : Nat) (md : Bool) (rc : Nat) (Q : xQ) (sz : Nat) (oc : Outcome) (U : State) : Prop :=
  ∃ (r : Option Int) (n' : Nat) (h' : xH), oc = .returned (xrv r) ∧ Q r n' h' ∧ xrok rt r ∧ xRng h' ∧ xG md n' h' ∧ va_P D vwCl (xws cI cZ ad h' n') U.heap ∧ (md = false → sz + rc = base + n' ∧ ∀ o j, (n' : Int) < o → h' o j = 0)
def xQc (rt : Option FieldType) (D : va_G) (cI cZ : ClassId) (ad : Int → Nat) (base : Nat) (md : Bool) (rc : Nat) (Q : xQ) : Array Value → State → Outcome → State → Prop := fun _ st oc t =>
  xPost rt D cI cZ ad base md rc Q st.heap.size oc t ∧ va_F (fun q => base ≤ q) st t
/-- what holds ahead of a call -/
def xPre (D : va_G) (cI cZ : ClassId) (ad : Int → Nat) (base : Nat) (md : Bool) (n : Nat) (h : xH) (U : State) : Prop :=
  va_P D vwCl (xws cI cZ ad h n) U.heap ∧ (md = false → U.heap.size = base + n ∧ ∀ o j, (n : Int) < o → h o j = 0) ∧ va_K D vwCl [(cI, .int), (cZ, .boolean)] U ∧ base ≤ U.heap.size ∧ xSt ad (fun q => base ≤ q) U
set_option maxHeartbeats 1000000 in
theorem xmet {Mc : xM} {md : Bool} {rc rs n : Nat} {h : xH} {Q : xQ} {As : List xV} {y : MethodName} (l : Launch) (D : va_G) (cI cZ : ClassId) (ad : Int → Nat) (base : Nat) (hJ : J Mc md rc rs 0 n (xen 0 As) [] h Q)
    (hy : plainName y.cls = true ∧ Mc.1 = y.cls ∧ (Mc.2.2.2.2.1 = true → y.name = "<init>") ∧ Mc.2.2.2.2.2.2.2 = none) (hlen : (As.map xcat).sum ≤ Mc.2.2.1) (has : ∀ v ∈ As, xvok v) (hr : xRng h) (hg : xG md n h) (had : ∀ k : Nat, ad ((k : Int) + 1) = base + k) :
    Met l y (Cond.code y Mc.2.1 Mc.2.2.1 Mc.2.2.2.1 :: xtbl) { frames := Mc.2.2.2.2.2.1, cells := rc, slots := rs, locals := Mc.2.2.2.2.2.2.1 } (va_Pc (As.map (xcv ad)) (xPre D cI cZ ad base md n h)) (xQc Mc.2.2.2.1 D cI cZ ad base md rc Q) rc rs (fun q => base ≤ q) := by
  refine Met.ofW (cc := Mc.2.1) (maxL := Mc.2.2.1) (ret := Mc.2.2.2.1) hy.1 rfl ?_
  intro p e s m args below meth c s₁ B hml hv
  obtain ⟨rfl, hP, hm, hK, hb, hSt⟩ := hv
  have hts := atoms_spec (ws := Cond.code y Mc.2.1 Mc.2.2.1 Mc.2.2.2.1 :: xtbl) B.pre
  have hlocks := B.notSynchronized
  have hin := (name_of_methodNamed B.named B.method).1
  have hret := B.returns
  rw [lg_entry_eq]
  have hls := lv_entry (As.map (xcv ad)) (n := Mc.2.2.1) (by rw [xsl_len]; exact hlen)
  rw [xen_map] at hls
  refine hJ (xen_ok As 0 has) (fun _ q => by cases q) hr hg D cI cZ base ad p l e (headSpec (Cond.code y Mc.2.1 Mc.2.2.1 Mc.2.2.2.1 :: xtbl) { frames := Mc.2.2.2.2.2.1, cells := rc, slots := rs, locals := Mc.2.2.2.2.2.2.1 }).room s m _ below meth c ⟨B.exec, B.bytes, hml, by rw [hy.2.1]; exact findClass_of_methodNamed B.named, fun w hw => hts w (List.mem_cons_of_mem _ hw), fun q => hin.trans (hy.2.2.1 q), ⟨Nat.le_refl _, Nat.le_refl _⟩, hK, ⟨hb, hSt, had⟩, by rw [hy.2.2.2]; trivial⟩ s.heap [] 0 0 _ _ ⟨hP, fun q => ⟨(hm q).1, (hm q).2⟩⟩ va_S.rf hls ⟨Nat.zero_add _, Nat.zero_add _⟩ ?_
  intro r n' h' H' locs' pc' lsm' hQ hok hr' hg' hRel' hS' hd'
  have hpost : ∀ t : State, t.heap = H' → xQc Mc.2.2.2.1 D cI cZ ad base md rc Q (As.map (xcv ad)).toArray s (.returned (xrv r)) t := fun t ht => ⟨⟨r, n', h', rfl, hQ, hok, hr', hg', by rw [ht]; exact hRel'.1, hRel'.2⟩, hS'.F ht⟩
  cases r with
  | none =>
    have e : Mc.2.2.2.1 = none := by
      unfold xrok at hok
      split at hok
      · assumption
      all_goals simp_all
    exact W.vret B.exec B.bytes (hret.trans e) (fun t ht _ => hpost t ht) hS'.2.2 hd'
  | some x =>
    unfold xrok at hok
    split at hok
    · simp_all
    · next e q =>
      exact W.iret B.exec B.bytes (hret.trans e) (fun t ht _ => hpost t ht) hS'.2.2 hd'
    · next x' e q =>
      cases q
      exact W.zret B.exec B.bytes (hret.trans e) (by rcases hok with rfl | rfl <;> rfl) (fun t ht _ => hpost t ht) hS'.2.2 hd'
    · exact absurd hok id
def xrl (r : Option Int) : List xV := match r with
  | none => []
  | some x => [xI x]
theorem xrv_map (ad : Int → Nat) (r : Option Int) (st : List xV) : (xrv r).toList ++ st.map (xcv ad) = (xrl r ++ st).map (xcv ad) := by
  cases r <;> rfl
theorem xrok_ok {rt : Option FieldType} {r : Option Int} (h : xrok rt r) : ∀ v ∈ xrl r, xvok v := by
  cases r with
  | none => intro v hv; cases hv
  | some x =>
    intro v hv
    have : v = xI x := by simpa [xrl] using hv
    subst this
    unfold xrok at h
    split at h
    · simp_all
    · next q => cases q; exact h
    · next q => cases q; show xok _; rcases h with rfl | rfl <;> decide
    · exact absurd h id
theorem xPre_blind {D : va_G} {cI cZ : ClassId} {ad : Int → Nat} {base : Nat} {md : Bool} {n : Nat} {h : xH} {av : List Value} : FrameBlind (va_Pc av (xPre D cI cZ ad base md n h)) := fun a U g mk q => by
  obtain ⟨q1, q2, q3, q4, q5, q6⟩ := q
  exact ⟨q1, q2, q3, va_K.moved (u := U) (U := U.calling g mk a) (Vm.Alike.refl U.vm) q4, q5, xSt.to (u := U) (U := U.calling g mk a) q6 (Vm.Alike.refl U.vm) (fun _ _ _ => rfl)⟩
/-- the callee fits: its name and code, its room in the caller's -/
def xFit (M Mc : xM) (y : MethodName) (k : Nat) : Prop :=
  (plainName y.cls = true ∧ Mc.1 = y.cls ∧ (Mc.2.2.2.2.1 = true → y.name = "<init>") ∧ Mc.2.2.2.2.2.2.2 = none) ∧ (y.cls ≠ "java/lang/invoke/MethodHandle" ∧ y.cls ≠ "java/lang/invoke/VarHandle" ∧ (parseMethodDescriptor y.desc).map (fun d => d.parameters.length) = some k) ∧
  (Mc.2.2.2.2.2.1 + 1 ≤ M.2.2.2.2.2.1 ∧ 8 + (Mc.2.2.1 + 11) + Mc.2.2.2.2.2.2.1 ≤ M.2.2.2.2.2.2.1) ∧ (Cond.initialized y.cls ∈ xtbl ∧ Cond.code y Mc.2.1 Mc.2.2.1 Mc.2.2.2.1 ∈ xtbl)
theorem xgoodin {y : MethodName} {Mc : xM} (h : Cond.code y Mc.2.1 Mc.2.2.1 Mc.2.2.2.1 ∈ xtbl) : GoodIn xtbl (Cond.code y Mc.2.1 Mc.2.2.1 Mc.2.2.2.1 :: xtbl) := fun w hw => by
  rcases List.mem_cons.mp hw with rfl | hw
  · exact ⟨h, xtbl_good h⟩
  · exact ⟨hw, xtbl_good hw⟩
section
variable {M : xM} {md : Bool} {rc rs rc' rs' rc2 rs2 pc n : Nat} {ls ls' : List (Nat × xV)} {st : List xV} {h : xH} {Q Q' : xQ} {Mc : xM} {y : MethodName}
/-- what every call comes to -/
theorem xcall {p : Program} {l : Launch} {e : Env} {R : Room} {s : State} {m : MethodId} {args : Array Value} {below : List Frame} {meth : Method} {c : Code} {D : va_G} {cI cZ : ClassId} {ad : Int → Nat} {base : Nat} {H : Heap} {locs : List Loc} {cells slots : Nat} {Z : State → Prop} {lsm : Array Slot} {st0 : List Value} {av : Array Value}
    (hl : ∀ q ∈ ls, xvok q.2) (hs : ∀ v ∈ st, xvok v) (hC : xCx M D cI cZ base ad p R s m args meth c) (hRel : xRel D cI cZ ad base md n h H cells s) (hsz : md = false → H.size = base + n) (hS : va_S (fun q => base ≤ q) s.heap H locs) (hls : lv_has lsm M.2.2.1 (ls.map fun q => (q.1, xcv ad q.2))) (hc : cells + rc = R.cells ∧ slots + rs = R.slots) (hb : rc = rc' + rc2 ∧ rs = rs' + rs2)
    (hE : ∀ (r : Option Int) (n' : Nat) (h' : xH) (H' : Heap) (locs' : List Loc) (pc' : Nat) (lsm' : Array Slot), Q r n' h' → xrok M.2.2.2.1 r → xRng h' → xG md n' h' → xRel D cI cZ ad base md n' h' H' R.cells s → va_S (fun q => base ≤ q) s.heap H' locs' → decode M.2.1 pc' = .ok (xretI r, 1) → W p l e R s m args below meth c H' locs' R.cells R.slots Z (F0 m pc' lsm' (xrv r).toList))
    (run : va_Run p l e R s m args below meth c H locs cells slots rc' rs' (F0 m pc lsm st0) (st.map (xcv ad)) (xQc Mc.2.2.2.1 D cI cZ ad base md rc' Q' av) (fun q => base ≤ q))
    (k : ∀ r n' h', Q' r n' h' → xrok Mc.2.2.2.1 r → J M md rc2 rs2 (pc + 3) n' ls (xrl r ++ st) h' Q) : W p l e R s m args below meth c H locs cells slots Z (F0 m pc lsm st0) := by
  intro T hT X
  obtain ⟨v, st₀, t, T', L, h0, X', hL, e1, e2, ⟨⟨r, n', h', hv, hq, hok, hr', hg', hP', hm'⟩, hz, hk⟩, steps⟩ := run T hT X
  cases hv
  rw [h0] at hz hk hm'
  have hS1 : va_S (fun q => base ≤ q) s.heap T'.heap (locs ++ L) := ⟨Nat.le_trans hS.1 (by rw [e1]; exact hz), fun q h1 h2 => by rw [e1, hk q (Nat.lt_of_lt_of_le h1 hS.1) h2]; exact hS.2.1 q h1 h2, fun q hq => by
      rcases List.mem_append.mp hq with h | h
      · exact hS.2.2 q h
      · exact hL q h⟩
  have hJ := k r n' h' hq hok hl (fun v hv => by
    rcases List.mem_append.mp hv with hv | hv
    · exact xrok_ok hok v hv
    · exact hs v hv) hr' hg' D cI cZ base ad p l e R s m args below meth c hC T'.heap (locs ++ L) (cells + rc') (slots + rs') Z lsm ⟨by rw [e1]; exact hP', fun q => ⟨by have := (hRel.2 q).1; have := (hm' q).1; have := hsz q; omega, (hm' q).2⟩⟩ hS1 hls ⟨by omega, by omega⟩ hE
  obtain ⟨t2, a1, b1⟩ := hJ T' rfl X'
  refine ⟨t2, steps t2 ?_, b1⟩
  rw [xrv_map]
  exact a1
theorem xfull {p : Program} {l : Launch} {e : Env} {R : Room} {s : State} {m : MethodId} {args : Array Value} {below : List Frame} {meth : Method} {c : Code} {D : va_G} {cI cZ : ClassId} {ad : Int → Nat} {base : Nat} {H : Heap} {locs : List Loc} {cells slots : Nat} {Z : State → Prop} {g : JFrame}
    (hRel : xRel D cI cZ ad base md n h H cells s) (hS : va_S (fun q => base ≤ q) s.heap H locs) (had : ∀ k : Nat, ad ((k : Int) + 1) = base + k) (hb : base ≤ s.heap.size)
    (k : (md = false → H.size = base + n) → W p l e R s m args below meth c H locs cells slots Z g) : W p l e R s m args below meth c H locs cells slots Z g := by
  intro T hT X
  refine k (fun q => ?_) T hT X
  have h1 := X.same.2.2.1
  have h1 : T.heap.size ≤ s.heap.size + cells := h1
  rw [hT] at h1
  have h2 := (hRel.2 q).1
  by_cases hn : n = 0
  · have := hS.1
    omega
  · have hk := hRel.1 (n - 1) (ad (((n - 1 : Nat) : Int) + 1), xC cI cZ ad h (((n - 1 : Nat) : Int) + 1)) (by simp only [xws, List.getElem?_map, List.getElem?_range (show n - 1 < n by omega), Option.map_some])
    have hlt := hk.lt
    have hlt : ad (((n - 1 : Nat) : Int) + 1) < H.size := hlt
    rw [had] at hlt
    omega
theorem J_callV {idx ka : Nat} {stk : List xV} (As : List xV) {o : Int} {ci : Nat} {T0 : u_T} {N0 : Nat} (hd : decode M.2.1 pc = .ok (.invokevirtual idx, 3)) (hfit : xFit M Mc y ka) (hka : As.length = ka) (hw : (Cond.methodLink M.1 idx y ∈ xtbl ∨ ∃ host, Cond.methodLinkNest M.1 idx y host ∈ xtbl) ∧ Cond.instanceMethod y ∈ xtbl ∧ Cond.selects y.cls y y ∈ xtbl) (ho : 1 ≤ o ∧ o ≤ (n : Int)) (hk : xK o = 3 + ci) (hcl : vwCl[ci]? = some (y.cls, T0, N0)) (hstk : stk = As.reverse ++ xR o :: st) (h8 : (st.map xcat).sum ≤ 8) (hlen : ((xR o :: As).map xcat).sum ≤ Mc.2.2.1) (hb : rc = rc' + rc2 ∧ rs = rs' + rs2) (hJ : J Mc md rc' rs' 0 n (xen 0 (xR o :: As)) [] h Q')
    (k : ∀ r n' h', Q' r n' h' → xrok Mc.2.2.2.1 r → J M md rc2 rs2 (pc + 3) n' ls (xrl r ++ st) h' Q) : J M md rc rs pc n ls stk h Q := by
  subst hstk
  intro hl hs hr hg D cI cZ base ad p l e R s m args below meth c hC H locs cells slots Z lsm hRel hS hls hc hE
  obtain ⟨f1, f2, ⟨f3, f4⟩, f5⟩ := hfit
  have hR := hC.2.2.2.2.2.2.1
  have ht := hC.2.2.2.2.1
  have had := hC.2.2.2.2.2.2.2.2.1.2.2
  have hbs := hC.2.2.2.2.2.2.2.2.1.1
  have hstok : ∀ v ∈ st, xvok v := fun v hv => hs v (List.mem_append_right _ (List.mem_cons_of_mem _ hv))
  have hAs : ∀ v ∈ xR o :: As, xvok v := fun v hv => by
    rcases List.mem_cons.mp hv with rfl | hv
    · trivial
    · exact hs v (List.mem_append_left _ (List.mem_reverse.mpr hv))
  refine xfull hRel hS had hbs (fun hsz => ?_)
  have hM := xmet (As := xR o :: As) l D cI cZ ad base hJ f1 hlen hAs hr hg had
  have hpre : ∀ U : State, U.heap = H → s.WarmedH U.vm → va_Pc ((xR o :: As).map (xcv ad)) (xPre D cI cZ ad base md n h) ((xR o :: As).map (xcv ad)).toArray U := fun U hU hW =>
    ⟨rfl, by rw [hU]; exact hRel.1, fun q => ⟨by rw [hU]; exact hsz q, (hRel.2 q).2⟩, va_K.moved hW.alike hC.2.2.2.2.2.2.2.1, by rw [hU]; exact Nat.le_trans hbs hS.1, xSt.to hC.2.2.2.2.2.2.2.2.1.2.1 hW.alike (fun a h1 h2 => by rw [hU]; exact hS.2.1 a h1 h2)⟩
  have hrev : ((As.reverse ++ xR o :: st).map (xcv ad)) = (As.map (xcv ad)).reverse ++ Value.ref (ad o) :: st.map (xcv ad) := by
    rw [List.map_append, List.map_reverse]; rfl
  have h8' : (((st.map (xcv ad))).map fun v => v.category).sum ≤ 8 := by rw [xsum]; exact h8
  rw [hrev]
  have hcode : (Cond.code y Mc.2.1 Mc.2.2.1 Mc.2.2.2.1).before args s = true := ht _ f5.2
  have hini : (Cond.initialized y.cls).before args s = true := ht _ f5.1
  have hcells : cells + rc' ≤ R.cells ∧ slots + rs' ≤ R.slots := ⟨by omega, by omega⟩
  rcases hw with ⟨hw | ⟨host, hw⟩, hw2⟩
  · refine xcall (Mc := Mc) hl hstok hC hRel hsz hS hls hc hb hE (va_runV (As := As.map (xcv ad)) (nL := M.2.2.1) ⟨hC.1, hC.2.1, hC.2.2.1, hC.2.2.2.1, ht⟩ hM (C := y.cls) (n := ka) ⟨callB_of (bytes := Mc.2.1) (maxL := Mc.2.2.1) (ret := Mc.2.2.2.1) ka ht (xgoodin f5.2) rfl rfl rfl hini (ht _ hw) f2 ⟨by show Mc.2.2.2.2.2.1 + 1 ≤ R.frames; omega, by show 8 + (Mc.2.2.1 + 11) + Mc.2.2.2.2.2.2.1 ≤ R.locals; omega⟩, ht _ hw2.1, ht _ hw2.2⟩ ⟨xPre_blind, va_recv hC.2.2.2.2.2.2.2.1 hRel.1 hcl (by rw [xws_at ho.1 ho.2, xC_obj hk]), hpre⟩ rfl (by rw [List.length_map]; exact hka) hls.1 rfl (lv_room h8') hd hcells) k
  · refine xcall (Mc := Mc) hl hstok hC hRel hsz hS hls hc hb hE (va_runVN (As := As.map (xcv ad)) (nL := M.2.2.1) ⟨hC.1, hC.2.1, hC.2.2.1, hC.2.2.2.1, ht⟩ hM (C := y.cls) (n := ka) ⟨va_cnB ka ht (xgoodin f5.2) rfl rfl rfl (ht _ hw) hini f2 ⟨by show Mc.2.2.2.2.2.1 + 1 ≤ R.frames; omega, by show 8 + (Mc.2.2.1 + 11) + Mc.2.2.2.2.2.2.1 ≤ R.locals; omega⟩, ht _ hw2.1, ht _ hw2.2⟩ ⟨xPre_blind, va_recv hC.2.2.2.2.2.2.2.1 hRel.1 hcl (by rw [xws_at ho.1 ho.2, xC_obj hk]), hpre⟩ rfl (by rw [List.length_map]; exact hka) hls.1 rfl (lv_room h8') hd hcells) k
theorem J_callS {idx ka : Nat} {stk : List xV} (As : List xV) (hd : decode M.2.1 pc = .ok (.invokestatic idx, 3)) (hfit : xFit M Mc y ka) (hka : As.length = ka) (hw : (Cond.methodLink M.1 idx y ∈ xtbl ∨ ∃ host, Cond.methodLinkNest M.1 idx y host ∈ xtbl) ∧ Cond.static y ∈ xtbl) (hstk : stk = As.reverse ++ st) (h8 : (st.map xcat).sum ≤ 8) (hlen : ((As).map xcat).sum ≤ Mc.2.2.1) (hb : rc = rc' + rc2 ∧ rs = rs' + rs2) (hJ : J Mc md rc' rs' 0 n (xen 0 (As)) [] h Q')
    (k : ∀ r n' h', Q' r n' h' → xrok Mc.2.2.2.1 r → J M md rc2 rs2 (pc + 3) n' ls (xrl r ++ st) h' Q) : J M md rc rs pc n ls stk h Q := by
  subst hstk
  intro hl hs hr hg D cI cZ base ad p l e R s m args below meth c hC H locs cells slots Z lsm hRel hS hls hc hE
  obtain ⟨f1, f2, ⟨f3, f4⟩, f5⟩ := hfit
  have hR := hC.2.2.2.2.2.2.1
  have ht := hC.2.2.2.2.1
  have had := hC.2.2.2.2.2.2.2.2.1.2.2
  have hbs := hC.2.2.2.2.2.2.2.2.1.1
  have hstok : ∀ v ∈ st, xvok v := fun v hv => hs v (List.mem_append_right _ hv)
  have hAs : ∀ v ∈ As, xvok v := fun v hv => by
    exact hs v (List.mem_append_left _ (List.mem_reverse.mpr hv))
  refine xfull hRel hS had hbs (fun hsz => ?_)
  have hM := xmet (As := As) l D cI cZ ad base hJ f1 hlen hAs hr hg had
  have hpre : ∀ U : State, U.heap = H → s.WarmedH U.vm → va_Pc ((As).map (xcv ad)) (xPre D cI cZ ad base md n h) ((As).map (xcv ad)).toArray U := fun U hU hW =>
    ⟨rfl, by rw [hU]; exact hRel.1, fun q => ⟨by rw [hU]; exact hsz q, (hRel.2 q).2⟩, va_K.moved hW.alike hC.2.2.2.2.2.2.2.1, by rw [hU]; exact Nat.le_trans hbs hS.1, xSt.to hC.2.2.2.2.2.2.2.2.1.2.1 hW.alike (fun a h1 h2 => by rw [hU]; exact hS.2.1 a h1 h2)⟩
  have hrev : ((As.reverse ++ st).map (xcv ad)) = (As.map (xcv ad)).reverse ++ st.map (xcv ad) := by
    rw [List.map_append, List.map_reverse]
  have h8' : (((st.map (xcv ad))).map fun v => v.category).sum ≤ 8 := by rw [xsum]; exact h8
  rw [hrev]
  have hcode : (Cond.code y Mc.2.1 Mc.2.2.1 Mc.2.2.2.1).before args s = true := ht _ f5.2
  have hini : (Cond.initialized y.cls).before args s = true := ht _ f5.1
  have hcells : cells + rc' ≤ R.cells ∧ slots + rs' ≤ R.slots := ⟨by omega, by omega⟩
  rcases hw with ⟨hw | ⟨host, hw⟩, hw2⟩
  · refine xcall (Mc := Mc) hl hstok hC hRel hsz hS hls hc hb hE (va_runS (As := As.map (xcv ad)) (nL := M.2.2.1) ⟨hC.1, hC.2.1, hC.2.2.1, hC.2.2.2.1, ht⟩ hM (n := ka) ⟨callB_of (bytes := Mc.2.1) (maxL := Mc.2.2.1) (ret := Mc.2.2.2.1) ka ht (xgoodin f5.2) rfl rfl rfl hini (ht _ hw) f2 ⟨by show Mc.2.2.2.2.2.1 + 1 ≤ R.frames; omega, by show 8 + (Mc.2.2.1 + 11) + Mc.2.2.2.2.2.2.1 ≤ R.locals; omega⟩, ht _ hw2⟩ ⟨xPre_blind, hpre⟩ rfl (by rw [List.length_map]; exact hka) hls.1 rfl (lv_room h8') hd hcells) k
  · refine xcall (Mc := Mc) hl hstok hC hRel hsz hS hls hc hb hE (va_runSN (As := As.map (xcv ad)) (nL := M.2.2.1) ⟨hC.1, hC.2.1, hC.2.2.1, hC.2.2.2.1, ht⟩ hM (n := ka) ⟨va_cnB ka ht (xgoodin f5.2) rfl rfl rfl (ht _ hw) hini f2 ⟨by show Mc.2.2.2.2.2.1 + 1 ≤ R.frames; omega, by show 8 + (Mc.2.2.1 + 11) + Mc.2.2.2.2.2.2.1 ≤ R.locals; omega⟩, ht _ hw2, trivial⟩ ⟨xPre_blind, hpre⟩ rfl (by rw [List.length_map]; exact hka) hls.1 rfl (lv_room h8') hd hcells) k
theorem J_callI {idx ka : Nat} {stk : List xV} (As : List xV) {o : Int} (hd : decode M.2.1 pc = .ok (.invokespecial idx, 3)) (hfit : xFit M Mc y ka) (hka : As.length = ka) (hw : (Cond.methodLink M.1 idx y ∈ xtbl ∨ ∃ host, Cond.methodLinkNest M.1 idx y host ∈ xtbl) ∧ y.name = "<init>" ∧ Cond.instanceMethod y ∈ xtbl ∧ Mc.2.2.2.1 = none) (hstk : stk = As.reverse ++ xR o :: st) (h8 : (st.map xcat).sum ≤ 8) (hlen : ((xR o :: As).map xcat).sum ≤ Mc.2.2.1) (hb : rc = rc' + rc2 ∧ rs = rs' + rs2) (hJ : J Mc md rc' rs' 0 n (xen 0 (xR o :: As)) [] h Q')
    (k : ∀ r n' h', Q' r n' h' → xrok Mc.2.2.2.1 r → J M md rc2 rs2 (pc + 3) n' ls (xrl r ++ st) h' Q) : J M md rc rs pc n ls stk h Q := by
  subst hstk
  intro hl hs hr hg D cI cZ base ad p l e R s m args below meth c hC H locs cells slots Z lsm hRel hS hls hc hE
  obtain ⟨f1, f2, ⟨f3, f4⟩, f5⟩ := hfit
  have hR := hC.2.2.2.2.2.2.1
  have ht := hC.2.2.2.2.1
  have had := hC.2.2.2.2.2.2.2.2.1.2.2
  have hbs := hC.2.2.2.2.2.2.2.2.1.1
  have hstok : ∀ v ∈ st, xvok v := fun v hv => hs v (List.mem_append_right _ (List.mem_cons_of_mem _ hv))
  have hAs : ∀ v ∈ xR o :: As, xvok v := fun v hv => by
    rcases List.mem_cons.mp hv with rfl | hv
    · trivial
    · exact hs v (List.mem_append_left _ (List.mem_reverse.mpr hv))
  refine xfull hRel hS had hbs (fun hsz => ?_)
  have hM := xmet (As := xR o :: As) l D cI cZ ad base hJ f1 hlen hAs hr hg had
  have hpre : ∀ U : State, U.heap = H → s.WarmedH U.vm → va_Pc ((xR o :: As).map (xcv ad)) (xPre D cI cZ ad base md n h) ((xR o :: As).map (xcv ad)).toArray U := fun U hU hW =>
    ⟨rfl, by rw [hU]; exact hRel.1, fun q => ⟨by rw [hU]; exact hsz q, (hRel.2 q).2⟩, va_K.moved hW.alike hC.2.2.2.2.2.2.2.1, by rw [hU]; exact Nat.le_trans hbs hS.1, xSt.to hC.2.2.2.2.2.2.2.2.1.2.1 hW.alike (fun a h1 h2 => by rw [hU]; exact hS.2.1 a h1 h2)⟩
  have hrev : ((As.reverse ++ xR o :: st).map (xcv ad)) = (As.map (xcv ad)).reverse ++ Value.ref (ad o) :: st.map (xcv ad) := by
    rw [List.map_append, List.map_reverse]; rfl
  have h8' : (((st.map (xcv ad))).map fun v => v.category).sum ≤ 8 := by rw [xsum]; exact h8
  rw [hrev]
  have hcode : (Cond.code y Mc.2.1 Mc.2.2.1 Mc.2.2.2.1).before args s = true := ht _ f5.2
  have hini : (Cond.initialized y.cls).before args s = true := ht _ f5.1
  have hcells : cells + rc' ≤ R.cells ∧ slots + rs' ≤ R.slots := ⟨by omega, by omega⟩
  rcases hw with ⟨hw | ⟨host, hw⟩, hw2⟩
  · have hg2 := xgoodin f5.2
    rw [hw2.2.2] at hM hcode hg2
    have run : va_Run p l e R s m args below meth c H locs cells slots rc' rs' (F0 m pc lsm ((As.map (xcv ad)).reverse ++ Value.ref (ad o) :: st.map (xcv ad))) (st.map (xcv ad)) (xQc none D cI cZ ad base md rc' Q' (Value.ref (ad o) :: As.map (xcv ad)).toArray) (fun q => base ≤ q) := va_runI (As := As.map (xcv ad)) (nL := M.2.2.1) ⟨hC.1, hC.2.1, hC.2.2.1, hC.2.2.2.1, ht⟩ hM (n := ka) ⟨callB_of (bytes := Mc.2.1) (maxL := Mc.2.2.1) (ret := none) ka ht hg2 rfl rfl rfl hini (ht _ hw) f2 ⟨by show Mc.2.2.2.2.2.1 + 1 ≤ R.frames; omega, by show 8 + (Mc.2.2.1 + 11) + Mc.2.2.2.2.2.2.1 ≤ R.locals; omega⟩, hw2.1, ht _ hw2.2.1⟩ ⟨xPre_blind, hpre⟩ rfl (by rw [List.length_map]; exact hka) hls.1 rfl (lv_room h8') hd hcells
    rw [← hw2.2.2] at run
    exact xcall (Mc := Mc) hl hstok hC hRel hsz hS hls hc hb hE run k
  · have hg2 := xgoodin f5.2
    rw [hw2.2.2] at hM hcode hg2
    have run : va_Run p l e R s m args below meth c H locs cells slots rc' rs' (F0 m pc lsm ((As.map (xcv ad)).reverse ++ Value.ref (ad o) :: st.map (xcv ad))) (st.map (xcv ad)) (xQc none D cI cZ ad base md rc' Q' (Value.ref (ad o) :: As.map (xcv ad)).toArray) (fun q => base ≤ q) := va_runIN (As := As.map (xcv ad)) (nL := M.2.2.1) ⟨hC.1, hC.2.1, hC.2.2.1, hC.2.2.2.1, ht⟩ hM (n := ka) ⟨va_cnB ka ht hg2 rfl rfl rfl (ht _ hw) hini f2 ⟨by show Mc.2.2.2.2.2.1 + 1 ≤ R.frames; omega, by show 8 + (Mc.2.2.1 + 11) + Mc.2.2.2.2.2.2.1 ≤ R.locals; omega⟩, hw2.1, ht _ hw2.2.1⟩ ⟨xPre_blind, hpre⟩ rfl (by rw [List.length_map]; exact hka) hls.1 rfl (lv_room h8') hd hcells
    rw [← hw2.2.2] at run
    exact xcall (Mc := Mc) hl hstok hC hRel hsz hS hls hc hb hE run k
end
end
section
/-! WHAT THE METHODS SAY, as functions: their pieces -/
def xgd {α : Type} (i n : Int) (k : Option α) : Option α := if 0 ≤ i ∧ i < n then k else none
theorem xgd_e {α : Type} {i n : Int} {k : Option α} {x : α} (hf : xgd i n k = some x) : (0 ≤ i ∧ i < n) ∧ k = some x := by
  unfold xgd at hf
  split at hf
  · next q => exact ⟨q, hf⟩
  · cases hf
theorem xgd_pos {α : Type} {i n : Int} {k : Option α} (h1 : 0 ≤ i) (h2 : i < n) : xgd i n k = k := if_pos ⟨h1, h2⟩
noncomputable def xgp {α : Type} (p : Prop) (k : Option α) : Option α := @ite _ p (Classical.propDecidable p) k none
theorem xgp_e {α : Type} {p : Prop} {k : Option α} {x : α} (hf : xgp p k = some x) : p ∧ k = some x := by
  unfold xgp at hf
  split at hf
  · next q => exact ⟨q, hf⟩
  · cases hf
theorem xgp_pos {α : Type} {p : Prop} {k : Option α} (h : p) : xgp p k = k := if_pos h
def xgb {α : Type} (v : Int) (k : Option α) : Option α := if v = 0 ∨ v = 1 then k else none
theorem xgb_e {α : Type} {v : Int} {k : Option α} {x : α} (hf : xgb v k = some x) : (v = 0 ∨ v = 1) ∧ k = some x := by
  unfold xgb at hf
  split at hf
  · next q => exact ⟨q, hf⟩
  · cases hf
theorem xgb_pos {α : Type} {v : Int} {k : Option α} (h : v = 0 ∨ v = 1) : xgb v k = k := if_pos h
def xgc {α : Type} (sp dp k0 na nb : Int) (k : Option α) : Option α := if 0 ≤ sp ∧ 0 ≤ dp ∧ 0 ≤ k0 ∧ sp + k0 ≤ na ∧ dp + k0 ≤ nb then k else none
theorem xgc_e {α : Type} {sp dp k0 na nb : Int} {k : Option α} {x : α} (hf : xgc sp dp k0 na nb k = some x) : (0 ≤ sp ∧ 0 ≤ dp ∧ 0 ≤ k0 ∧ sp + k0 ≤ na ∧ dp + k0 ≤ nb) ∧ k = some x := by
  unfold xgc at hf
  split at hf
  · next q => exact ⟨q, hf⟩
  · cases hf
theorem xgc_pos {α : Type} {sp dp k0 na nb : Int} {k : Option α} (h1 : 0 ≤ sp) (h2 : 0 ≤ dp) (h3 : 0 ≤ k0) (h4 : sp + k0 ≤ na) (h5 : dp + k0 ≤ nb) : xgc sp dp k0 na nb k = k := if_pos ⟨h1, h2, h3, h4, h5⟩
def xlet {β α : Type} (e : β) (f : β → Option α) : Option α := f e
theorem xlet_e {β α : Type} {e : β} {f : β → Option α} {x : α} (hf : xlet e f = some x) : ∃ y, y = e ∧ f y = some x := ⟨e, rfl, hf⟩
def xc1 {β α : Type} (o : Option β) (f : β → Option α) : Option α := o.bind f
theorem xc1_e {β α : Type} {o : Option β} {f : β → Option α} {x : α} (hf : xc1 o f = some x) : ∃ y, o = some y ∧ f y = some x := Option.bind_eq_some_iff.mp hf
theorem xc1_some {β α : Type} {y : β} {f : β → Option α} : xc1 (some y) f = f y := rfl
def xc2 {γ β α : Type} (o : Option (γ × β)) (f : γ → β → Option α) : Option α := o.bind fun q => f q.1 q.2
theorem xc2_e {γ β α : Type} {o : Option (γ × β)} {f : γ → β → Option α} {x : α} (hf : xc2 o f = some x) : ∃ r h, o = some (r, h) ∧ f r h = some x := by
  obtain ⟨q, h1, h2⟩ := Option.bind_eq_some_iff.mp hf
  exact ⟨q.1, q.2, h1, h2⟩
theorem xc2_some {γ β α : Type} {y : γ} {h : β} {f : γ → β → Option α} : xc2 (some (y, h)) f = f y h := rfl
def xsw {β γ δ : Type} (b : β ⊕ γ) (f : β → δ) (g : γ → δ) : δ := match b with
  | .inl x => f x
  | .inr y => g y
theorem xip {α : Type} {c : Prop} {i : Decidable c} {A B : Option α} {x : α} (hc : c) (hf : @ite _ c i A B = some x) : A = some x := by rw [if_pos hc] at hf; exact hf
theorem xin' {α : Type} {c : Prop} {i : Decidable c} {A B : Option α} {x : α} (hc : ¬ c) (hf : @ite _ c i A B = some x) : B = some x := by rw [if_neg hc] at hf; exact hf
def xiter {σ β : Type} (step : σ → Option (σ ⊕ β)) : Nat → σ → Option β
  | 0, _ => none
  | n + 1, s => match step s with
    | none => none
    | some (.inl s') => xiter step n s'
    | some (.inr b) => some b
/-- the step, again and again, till it leaves -/
noncomputable def xloop {σ β : Type} (step : σ → Option (σ ⊕ β)) (s : σ) : Option β := @dite _ (∃ n b, xiter step n s = some b) (Classical.propDecidable _) (fun h => some h.choose_spec.choose) (fun _ => none)
theorem xiter_mono {σ β : Type} {step : σ → Option (σ ⊕ β)} : ∀ (n : Nat) (s : σ) (b : β), xiter step n s = some b → ∀ m, n ≤ m → xiter step m s = some b
  | 0, s, b, h, _, _ => by cases h
  | n + 1, s, b, h, m, hm => by
    obtain ⟨k, rfl⟩ : ∃ k, m = k + 1 := ⟨m - 1, by omega⟩
    cases hs : step s with
    | none => simp [xiter, hs] at h
    | some q =>
      cases q with
      | inl s' => simp only [xiter, hs] at h ⊢; exact xiter_mono n s' b h k (by omega)
      | inr b' => simp only [xiter, hs] at h ⊢; exact h
theorem xloop_iff {σ β : Type} {step : σ → Option (σ ⊕ β)} {s : σ} {b : β} : xloop step s = some b ↔ ∃ n, xiter step n s = some b := by
  constructor
  · intro h
    unfold xloop at h
    split at h
    · next q => exact ⟨q.choose, by rw [q.choose_spec.choose_spec]; exact h⟩
    · cases h
  · intro ⟨n, hn⟩
    unfold xloop
    split
    · next q =>
      have h1 := q.choose_spec.choose_spec
      have h2 := xiter_mono _ _ _ h1 (max q.choose n) (by omega)
      have h3 := xiter_mono _ _ _ hn (max q.choose n) (by omega)
      rw [h2] at h3
      exact h3
    · next q => exact absurd ⟨n, b, hn⟩ q
theorem xloop_ind {σ β : Type} {step : σ → Option (σ ⊕ β)} {s0 : σ} {b : β} {P : σ → Prop} (hl : xloop step s0 = some b) (hb : ∀ s x, step s = some x → (∀ s', x = .inl s' → P s') → (∀ b', x = .inr b' → b' = b) → P s) : P s0 := by
  obtain ⟨n, hn⟩ := xloop_iff.mp hl
  clear hl
  induction n generalizing s0 with
  | zero => cases hn
  | succ n ih =>
    unfold xiter at hn
    split at hn
    · cases hn
    · next s' hs => exact hb s0 _ hs (fun q hq => by cases hq; exact ih hn) (fun q hq => by cases hq)
    · next b' hs => exact hb s0 _ hs (fun q hq => by cases hq) (fun q hq => by cases hq; exact Option.some.inj hn)
theorem xloop_out {σ β : Type} {step : σ → Option (σ ⊕ β)} {s : σ} {b : β} (h : step s = some (.inr b)) : xloop step s = some b := xloop_iff.mpr ⟨1, by simp only [xiter, h]⟩
theorem xloop_in {σ β : Type} {step : σ → Option (σ ⊕ β)} {s s' : σ} (h : step s = some (.inl s')) : xloop step s = xloop step s' := by
  have key : ∀ b, xloop step s = some b ↔ xloop step s' = some b := by
    intro b
    rw [xloop_iff, xloop_iff]
    constructor
    · intro ⟨n, hn⟩
      cases n with
      | zero => cases hn
      | succ n => exact ⟨n, by simp only [xiter, h] at hn; exact hn⟩
    · intro ⟨n, hn⟩
      exact ⟨n + 1, by simp only [xiter, h]; exact hn⟩
  cases hx : xloop step s with
  | none =>
    cases hy : xloop step s' with
    | none => rfl
    | some b => have := (key b).mpr hy; rw [hx] at this; cases this
  | some b => exact ((key b).mp hx).symm
/-- an answer, and the heap behind it -/
def xEq (r0 : Option Int) (h0 : xH) : xQ := fun r n h => r = r0 ∧ n = xKn ∧ h = h0
theorem xq_i {v r0 : Int} {h h0 : xH} (hf : some (v, h) = some (r0, h0)) : xEq (some r0) h0 (some v) xKn h := by
  cases hf
  exact ⟨rfl, rfl, rfl⟩
theorem xq_p {v r0 : Int} {h : xH} (hf : some v = some r0) : xEq (some r0) h (some v) xKn h := by
  cases hf
  exact ⟨rfl, rfl, rfl⟩
theorem xq_v {h h0 : xH} (hf : some h = some h0) : xEq none h0 none xKn h := by
  cases hf
  exact ⟨rfl, rfl, rfl⟩
theorem xinl {α β : Type} {a : α ⊕ β} {x : α ⊕ β} (hf : some a = some x) : x = a := (Option.some.inj hf).symm
theorem xK_rg {o : Int} {k : Nat} (h : xK o = 3 + k) : 1 ≤ o ∧ o ≤ (xKn : Int) := xK_rng (by omega)
theorem xK_r1 {o : Int} (h : xK o = 1) : 1 ≤ o ∧ o ≤ (xKn : Int) := xK_rng (by omega)
theorem xK_r2 {o : Int} (h : xK o = 2) : 1 ≤ o ∧ o ≤ (xKn : Int) := xK_rng (by omega)
section
variable {M Mc : xM} {rc rs pc : Nat} {ls : List (Nat × xV)} {st : List xV} {h h1 : xH} {Q : xQ} {y : MethodName}
theorem J_getRl {o v : Int} {ci j N idx : Nat} {C : String} {T : u_T} {ty : Nat → FieldType} (hF : xCF ci C T N ty) (hd : decode M.2.1 pc = .ok (.getfield idx, 3)) (hk : xK o = 3 + ci) (hw : xLk M.1 idx C (T j).2.1 (T j).2.2.1) (hj : j < N) (hz : xIsR ci j = true) (hv : xRf o j = v ∧ v ≠ 0) (k : J M true rc rs (pc + 3) xKn ls (xR v :: st) h Q) : J M true rc rs pc xKn ls (xR o :: st) h Q :=
  J_getR hF hd (xK_rng (by omega)) hk hw hj hz (fun g => ⟨by rw [(g rfl).2 o j (by rw [hv.1]; exact hv.2), hv.1], hv.2⟩) k
theorem J_ireti {v : Int} {md : Bool} {n : Nat} (hd : decode M.2.1 pc = .ok (.ireturn, 1)) (ht : M.2.2.2.1 = some .int) (hq : Q (some v) n h) : J M md 0 0 pc n ls [xI v] h Q := fun hl hs => J_iret hd (by rw [ht]; exact xs0 hs) hq hl hs
theorem J_iretz {v : Int} {md : Bool} {n : Nat} (hd : decode M.2.1 pc = .ok (.ireturn, 1)) (ht : M.2.2.2.1 = some .boolean) (hv : v = 0 ∨ v = 1) (hq : Q (some v) n h) : J M md 0 0 pc n ls [xI v] h Q := J_iret hd (by rw [ht]; exact hv) hq
theorem J_rt {md : Bool} {n : Nat} (hd : decode M.2.1 pc = .ok (.return_, 1)) (ht : M.2.2.2.1 = none) (hq : Q none n h) : J M md 0 0 pc n ls [] h Q := J_ret hd (by rw [ht]; trivial) hq
/-- what is known of a callee -/
def xFc (Mc : xM) (y : MethodName) (k : Nat) : Prop :=
  (plainName y.cls = true ∧ Mc.1 = y.cls ∧ (Mc.2.2.2.2.1 = true → y.name = "<init>") ∧ Mc.2.2.2.2.2.2.2 = none) ∧ (y.cls ≠ "java/lang/invoke/MethodHandle" ∧ y.cls ≠ "java/lang/invoke/VarHandle" ∧ (parseMethodDescriptor y.desc).map (fun d => d.parameters.length) = some k) ∧
  (Cond.initialized y.cls ∈ xtbl ∧ Cond.code y Mc.2.1 Mc.2.2.1 Mc.2.2.2.1 ∈ xtbl)
theorem xFc.fit {k : Nat} (h : xFc Mc y k) (hr : Mc.2.2.2.2.2.1 + 1 ≤ M.2.2.2.2.2.1 ∧ 8 + (Mc.2.2.1 + 11) + Mc.2.2.2.2.2.2.1 ≤ M.2.2.2.2.2.2.1) : xFit M Mc y k := ⟨h.1, h.2.1, hr, h.2.2⟩
theorem xbl {a b : Nat} (h : Nat.ble a b = true) : a ≤ b := Nat.le_of_ble_eq_true h
theorem J_cVi {idx ka ci : Nat} {stk : List xV} (As : List xV) {o r1 : Int} {T0 : u_T} {N0 : Nat} (hd : decode M.2.1 pc = .ok (.invokevirtual idx, 3)) (hfit : xFit M Mc y ka) (hka : As.length = ka) (hw : (Cond.methodLink M.1 idx y ∈ xtbl ∨ ∃ host, Cond.methodLinkNest M.1 idx y host ∈ xtbl) ∧ Cond.instanceMethod y ∈ xtbl ∧ Cond.selects y.cls y y ∈ xtbl) (hk : xK o = 3 + ci) (hcl : vwCl[ci]? = some (y.cls, T0, N0)) (hstk : stk = As.reverse ++ xR o :: st) (h8 : (st.map xcat).sum ≤ 8) (hlen : ((xR o :: As).map xcat).sum ≤ Mc.2.2.1) (hJ : J Mc true 0 0 0 xKn (xen 0 (xR o :: As)) [] h (xEq (some r1) h1))
    (k : J M true 0 0 (pc + 3) xKn ls (xI r1 :: st) h1 Q) : J M true 0 0 pc xKn ls stk h Q :=
  J_callV As hd hfit hka hw (xK_rg hk) hk hcl hstk h8 hlen ⟨rfl, rfl⟩ hJ (fun r n' h' hq _ => by rw [hq.1, hq.2.1, hq.2.2]; exact k)
theorem J_cVv {idx ka ci : Nat} {stk : List xV} (As : List xV) {o : Int} {T0 : u_T} {N0 : Nat} (hd : decode M.2.1 pc = .ok (.invokevirtual idx, 3)) (hfit : xFit M Mc y ka) (hka : As.length = ka) (hw : (Cond.methodLink M.1 idx y ∈ xtbl ∨ ∃ host, Cond.methodLinkNest M.1 idx y host ∈ xtbl) ∧ Cond.instanceMethod y ∈ xtbl ∧ Cond.selects y.cls y y ∈ xtbl) (hk : xK o = 3 + ci) (hcl : vwCl[ci]? = some (y.cls, T0, N0)) (hstk : stk = As.reverse ++ xR o :: st) (h8 : (st.map xcat).sum ≤ 8) (hlen : ((xR o :: As).map xcat).sum ≤ Mc.2.2.1) (hJ : J Mc true 0 0 0 xKn (xen 0 (xR o :: As)) [] h (xEq none h1))
    (k : J M true 0 0 (pc + 3) xKn ls st h1 Q) : J M true 0 0 pc xKn ls stk h Q :=
  J_callV As hd hfit hka hw (xK_rg hk) hk hcl hstk h8 hlen ⟨rfl, rfl⟩ hJ (fun r n' h' hq _ => by rw [hq.1, hq.2.1, hq.2.2]; exact k)
theorem J_cSi {idx ka : Nat} {stk : List xV} (As : List xV) {r1 : Int} (hd : decode M.2.1 pc = .ok (.invokestatic idx, 3)) (hfit : xFit M Mc y ka) (hka : As.length = ka) (hw : (Cond.methodLink M.1 idx y ∈ xtbl ∨ ∃ host, Cond.methodLinkNest M.1 idx y host ∈ xtbl) ∧ Cond.static y ∈ xtbl) (hstk : stk = As.reverse ++ st) (h8 : (st.map xcat).sum ≤ 8) (hlen : (As.map xcat).sum ≤ Mc.2.2.1) (hJ : J Mc true 0 0 0 xKn (xen 0 As) [] h (xEq (some r1) h1))
    (k : J M true 0 0 (pc + 3) xKn ls (xI r1 :: st) h1 Q) : J M true 0 0 pc xKn ls stk h Q :=
  J_callS As hd hfit hka hw hstk h8 hlen ⟨rfl, rfl⟩ hJ (fun r n' h' hq _ => by rw [hq.1, hq.2.1, hq.2.2]; exact k)
theorem J_cSv {idx ka : Nat} {stk : List xV} (As : List xV) (hd : decode M.2.1 pc = .ok (.invokestatic idx, 3)) (hfit : xFit M Mc y ka) (hka : As.length = ka) (hw : (Cond.methodLink M.1 idx y ∈ xtbl ∨ ∃ host, Cond.methodLinkNest M.1 idx y host ∈ xtbl) ∧ Cond.static y ∈ xtbl) (hstk : stk = As.reverse ++ st) (h8 : (st.map xcat).sum ≤ 8) (hlen : (As.map xcat).sum ≤ Mc.2.2.1) (hJ : J Mc true 0 0 0 xKn (xen 0 As) [] h (xEq none h1))
    (k : J M true 0 0 (pc + 3) xKn ls st h1 Q) : J M true 0 0 pc xKn ls stk h Q :=
  J_callS As hd hfit hka hw hstk h8 hlen ⟨rfl, rfl⟩ hJ (fun r n' h' hq _ => by rw [hq.1, hq.2.1, hq.2.2]; exact k)
end
end
